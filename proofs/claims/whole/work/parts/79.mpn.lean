/-! CONTRACTS OF THE MODEL: promiseNear, takeOut -/
def zpN1 (N_ : Nat) (R_ : Nat → List Nat) (M_ : Nat → Nat) (r_ : Nat) (x_ y_ : Int32) (I_ : zIn) : Bool × zIn := if (zprA I_ N_ R_ M_ r_ (x_ + y_)).1 = true then zprA I_ N_ R_ M_ r_ (x_ + y_) else zprA (zprA I_ N_ R_ M_ r_ (x_ + y_)).2 N_ R_ M_ r_ (x_ - y_)
def zpNL (N_ : Nat) (R_ : Nat → List Nat) (M_ : Nat → Nat) (r_ : Nat) (x_ : Int32) : Nat → Nat → Bool × zIn → Bool × zIn
  | 0, _, A_ => A_
  | n_ + 1, k_, A_ => if A_.1 = true then A_ else zpNL N_ R_ M_ r_ x_ n_ (k_ + 1) (zpN1 N_ R_ M_ r_ x_ (Int32.ofNat (10 * k_)) A_.2)
def zpNA (I_ : zIn) (N_ : Nat) (R_ : Nat → List Nat) (M_ : Nat → Nat) (r_ : Nat) (x_ : Int32) : Bool × zIn := zpNL N_ R_ M_ r_ x_ 6 1 (zprA I_ N_ R_ M_ r_ x_)
theorem z10k {k_ : Nat} : Int32.ofNat (10 * k_) + 10 = Int32.ofNat (10 * (k_ + 1)) := (Int32.ofNat_add (10 * k_) 10).symm
theorem zm138l (N_ : Nat) (R_ : Nat → List Nat) (M_ : Nat → Nat) (r_ : Nat) (x_ : Int32) (L_ : zLi) : ∀ (n_ k_ : Nat) (A_ : Bool × zIn), n_ + k_ = 7 → (A_.1 = false → zPk A_.2 N_ R_ M_ r_) → zY none 10 138 11 [some (zwR 7 0), some (zwI (Int32.ofNat r_)), some (zwI x_), some (zwI (zbi A_.1)), some (zwI (Int32.ofNat (10 * k_)))] [] A_.2 L_ 0 (zRb ((zpNL N_ R_ M_ r_ x_ n_ k_ A_).1, (zpNL N_ R_ M_ r_ x_ n_ k_ A_).2, L_))
  | 0, k_, A_, hn, hk => by
    refine zY.go 2 rfl ?_
    show zY _ _ _ _ _ [zwI (Int32.ofNat 60), zwI (Int32.ofNat (10 * k_))] _ _ _ _
    refine zY.bn rfl (by omega) (by omega) (fun _ => ?_) (fun hF => absurd (show 60 < 10 * k_ by omega) hF)
    refine zY.go 1 rfl ?_
    refine zY.rb rfl rfl ?_ ⟨rfl, rfl, rfl⟩
    unfold zbi
    split
    · exact Or.inr rfl
    · exact Or.inl rfl
  | n_ + 1, k_, (true, I_), hn, hk => by
    refine zY.go 2 rfl ?_
    show zY _ _ _ _ _ [zwI (Int32.ofNat 60), zwI (Int32.ofNat (10 * k_))] _ _ _ _
    refine zY.bn rfl (by omega) (by omega) (fun hT_ => absurd hT_ (show ¬ 60 < 10 * k_ by omega)) (fun _ => ?_)
    refine zY.go 1 rfl ?_
    refine zY.bi rfl (fun _ => ?_) (fun hp => absurd (show ¬ (1 : Int32) = 0 by decide) hp)
    refine zY.go 1 rfl ?_
    exact zY.rb rfl rfl (Or.inr rfl) ⟨rfl, rfl, rfl⟩
  | n_ + 1, k_, (false, I_), hn, hk => by
    have hk := hk rfl
    have ih_ := zm138l N_ R_ M_ r_ x_ L_ n_ (k_ + 1) (zpN1 N_ R_ M_ r_ x_ (Int32.ofNat (10 * k_)) I_) (by omega)
    show zY _ _ _ _ _ _ _ _ _ (zRb ((zpNL N_ R_ M_ r_ x_ n_ (k_ + 1) (zpN1 N_ R_ M_ r_ x_ (Int32.ofNat (10 * k_)) I_)).1, (zpNL N_ R_ M_ r_ x_ n_ (k_ + 1) (zpN1 N_ R_ M_ r_ x_ (Int32.ofNat (10 * k_)) I_)).2, L_))
    refine zY.go 2 rfl ?_
    show zY _ _ _ _ _ [zwI (Int32.ofNat 60), zwI (Int32.ofNat (10 * k_))] _ _ _ _
    refine zY.bn rfl (by omega) (by omega) (fun hT_ => absurd hT_ (show ¬ 60 < 10 * k_ by omega)) (fun _ => ?_)
    refine zY.go 1 rfl ?_
    refine zY.bi rfl (fun hp => absurd (show zbi false = 0 from rfl) hp) (fun _ => ?_)
    refine zY.go 5 rfl ?_
    refine zY.cr (zm139 hk) rfl rfl rfl rfl (Nat.le_of_ble_eq_true rfl) rfl (by decide) rfl (by decide) (by decide) ?_
    cases hb_ : (zprA I_ N_ R_ M_ r_ (x_ + Int32.ofNat (10 * k_))).1 with
    | true =>
      have e_ : zpN1 N_ R_ M_ r_ x_ (Int32.ofNat (10 * k_)) I_ = zprA I_ N_ R_ M_ r_ (x_ + Int32.ofNat (10 * k_)) := if_pos hb_
      rw [e_, hb_, ← z10k] at ih_
      rw [e_]
      refine zY.bi rfl (fun _ => ?_) (fun hp => absurd (show ¬ (1 : Int32) = 0 by decide) hp)
      refine zY.go 5 rfl ?_
      exact ih_ (fun h_ => by cases h_)
    | false =>
      have e_ : zpN1 N_ R_ M_ r_ x_ (Int32.ofNat (10 * k_)) I_ = zprA (zprA I_ N_ R_ M_ r_ (x_ + Int32.ofNat (10 * k_))).2 N_ R_ M_ r_ (x_ - Int32.ofNat (10 * k_)) := if_neg (fun h_ => by rw [hb_] at h_; cases h_)
      have hk2 := (zprA_no hb_).pk hk
      rw [e_] at ih_ ⊢
      refine zY.bi rfl (fun hp => absurd (show (0 : Int32) = 0 from rfl) hp) (fun _ => ?_)
      refine zY.go 5 rfl ?_
      generalize (zprA I_ N_ R_ M_ r_ (x_ + Int32.ofNat (10 * k_))).2 = J_ at *
      refine zY.cr (zm139 hk2) rfl rfl rfl rfl (Nat.le_of_ble_eq_true rfl) rfl (by decide) rfl (by decide) (by decide) ?_
      rw [← z10k] at ih_
      cases hc_ : (zprA J_ N_ R_ M_ r_ (x_ - Int32.ofNat (10 * k_))).1 with
      | true =>
        rw [hc_] at ih_
        refine zY.bi rfl (fun hp => absurd (show (1 : Int32) = 0 from hp) (by decide)) (fun _ => ?_)
        refine zY.go 5 rfl ?_
        exact ih_ (fun h_ => by cases h_)
      | false =>
        rw [hc_] at ih_
        refine zY.bi rfl (fun _ => ?_) (fun hp => absurd (show (0 : Int32) = 0 from rfl) hp)
        refine zY.go 4 rfl ?_
        exact ih_ (fun _ => (zprA_no hc_).pk hk2)
theorem zm138 {I_ : zIn} {L_ : zLi} {N_ r_ : Nat} {R_ : Nat → List Nat} {M_ : Nat → Nat} {x_ : Int32} (hk : zPk I_ N_ R_ M_ r_) : zYm 10 138 [zwR 7 0, zwI (Int32.ofNat r_), zwI x_] I_ L_ 0 (zRb ((zpNA I_ N_ R_ M_ r_ x_).1, (zpNA I_ N_ R_ M_ r_ x_).2, L_)) := by
  have h_ := zm138l N_ R_ M_ r_ x_ L_ 6 1 (zprA I_ N_ R_ M_ r_ x_) (by decide) (fun hb_ => (zprA_no hb_).pk hk)
  refine zYm.of (Nat.le_of_ble_eq_true rfl) rfl ?_
  refine zY.go 3 rfl ?_
  refine zY.cr (zm139 hk) rfl rfl rfl rfl (Nat.le_of_ble_eq_true rfl) rfl (by decide) rfl (by decide) (by decide) ?_
  refine zY.go 3 rfl ?_
  exact h_
def ztoL (l : List Nat) (r_ : Nat) : List Nat := match zlx (2 * r_) l 0 none with
  | none => l
  | some p_ => l.eraseIdx p_
def ztoI (I_ : zIn) (v_ : Nat) (l : List Nat) (r_ : Nat) : zIn := match zlx (2 * r_) l 0 none with
  | none => ztry I_ v_ l.length
  | some p_ => ztst (ztry I_ v_ l.length) l.length p_
theorem ztoI_tr {I_ : zIn} {v_ r_ : Nat} {l : List Nat} (h_ : zRo I_ v_ l) : zTr (ztoI I_ v_ l r_) (ztoL l r_) := by
  have t0_ := ztry_tr h_
  unfold ztoI ztoL
  cases e_ : zlx (2 * r_) l 0 none with
  | none => exact t0_
  | some p_ => exact ztst_tr t0_ (zlx_lt l 0 none l.length (by omega) (fun _ h_ => by cases h_) p_ e_)
def ztoF (I_ : zIn) (v_ : Nat) (l : List Nat) (r_ d_ : Nat) : zIn := zkep (ztst (ztoI I_ v_ l r_) (ztoL l r_).length d_) v_ ((ztoL l r_).length - 1)
theorem zm161 {I_ : zIn} {L_ : zLi} {v_ r_ d_ : Nat} {l : List Nat} (hr : r_ < 60) (hv : v_ < 4) (hrv : I_ 30 35 r_ = Int32.ofNat v_) (hro : zRo I_ v_ l) (hd_ : zlx (2 * r_ + 1) (ztoL l r_) 0 none = some d_) : zYm 2 161 [zwR 7 0, zwI (Int32.ofNat r_)] I_ L_ 0 (zRet none (ztoF I_ v_ l r_ d_) L_) := by
  have h60 : r_ < zas30 35 := hr
  have h16_ := hro.2.1
  have t0_ := ztry_tr hro
  have t1_ := ztoI_tr (r_ := r_) hro
  have hdl : d_ < (ztoL l r_).length := zlx_lt _ 0 none _ (by omega) (fun _ h_ => by cases h_) d_ hd_
  have t2_ := ztst_tr t1_ hdl
  have eL : ((ztoL l r_).eraseIdx d_).length = (ztoL l r_).length - 1 := by rw [List.length_eraseIdx, if_pos hdl]
  have hl1 : (ztoL l r_).length ≤ 16 := by
    unfold ztoL
    split
    · exact h16_
    · rename_i p_ _
      have := List.length_eraseIdx_le l p_
      omega
  have h42 := t2_.1
  rw [eL] at h42
  have T30 : ∀ k3_, zY none 2 161 30 [some (zwR 7 0), some (zwI (Int32.ofNat r_)), some (zwI (Int32.ofNat v_)), some (zwI k3_)] [] (ztoI I_ v_ l r_) L_ 0 (zRet none (ztoF I_ v_ l r_ d_) L_) := by
    intro k3_
    refine zY.go 7 rfl ?_
    show zY _ _ _ _ _ [zwI (2 * Int32.ofNat r_ + 1), zwR 7 0, zwR 7 0] _ _ _ _
    rw [z2q1]
    refine zY.cr (zm153 t1_ (by omega)) rfl rfl rfl rfl (Nat.le_of_ble_eq_true rfl) rfl (by decide) rfl (by decide) (by decide) ?_
    rw [hd_]
    refine zY.cr (zm162 (by omega) hdl t1_.1) rfl rfl rfl rfl (Nat.le_of_ble_eq_true rfl) rfl (by decide) rfl (by decide) (by decide) ?_
    refine zY.go 2 rfl ?_
    refine zY.cr (zm157 hv (by omega) h42) rfl rfl rfl rfl (Nat.le_of_ble_eq_true rfl) rfl (by decide) rfl (by decide) (by decide) ?_
    exact zY.rv rfl rfl ⟨rfl, rfl, rfl⟩
  refine zYm.of (Nat.le_of_ble_eq_true rfl) rfl ?_
  refine zY.go 3 rfl ?_
  refine zY.ai rfl rfl h60 ?_
  rw [hrv]
  refine zY.go 3 rfl ?_
  refine zY.cr (zm143 hv h16_ hro.1) rfl rfl rfl rfl (Nat.le_of_ble_eq_true rfl) rfl (by decide) rfl (by decide) (by decide) ?_
  refine zY.go 4 rfl ?_
  show zY _ _ _ _ _ [zwI (2 * Int32.ofNat r_), zwR 7 0] _ _ _ _
  rw [z2q]
  refine zY.cr (zm153 t0_ (by omega)) rfl rfl rfl rfl (Nat.le_of_ble_eq_true rfl) rfl (by decide) rfl (by decide) (by decide) ?_
  refine zY.go 3 rfl ?_
  cases e_ : zlx (2 * r_) l 0 none with
  | none =>
    have e2_ : ztoI I_ v_ l r_ = ztry I_ v_ l.length := by unfold ztoI; rw [e_]
    rw [e2_] at T30
    refine zY.bc rfl (fun _ => ?_) (fun hp => absurd (show zox none = -1 from rfl) hp)
    exact T30 _
  | some p_ =>
    have e2_ : ztoI I_ v_ l r_ = ztst (ztry I_ v_ l.length) l.length p_ := by unfold ztoI; rw [e_]
    have hp : p_ < l.length := zlx_lt l 0 none l.length (by omega) (fun _ h_ => by cases h_) p_ e_
    rw [e2_] at T30
    have hne : ¬ zox (some p_) = -1 := by
      intro e_
      have h0 := zige (a := p_) (by omega)
      have e3_ : Int32.ofNat p_ = -1 := e_
      rw [e3_] at h0
      exact absurd h0 (by decide)
    refine zY.bc rfl (fun hx => absurd hx hne) (fun _ => ?_)
    refine zY.go 2 rfl ?_
    refine zY.cr (zm162 (by omega) hp t0_.1) rfl rfl rfl rfl (Nat.le_of_ble_eq_true rfl) rfl (by decide) rfl (by decide) (by decide) ?_
    exact T30 _
