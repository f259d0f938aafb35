/-! CONTRACTS: demands, numbers, bus stops -/
theorem zm33t {I_ : zIn} {L_ : zLi} {x_ lo_ hi_ : Int32} (h_ : lo_ ≤ x_ ∧ x_ ≤ hi_) : zYm 2 33 [zwI x_, zwI lo_, zwI hi_] I_ L_ 0 (zRet none I_ L_) := by
  refine zYm.of (Nat.le_of_ble_eq_true rfl) rfl ?_
  refine zY.go 2 rfl ?_
  refine zY.bc rfl (fun hp2 => absurd hp2 (Int32.not_lt.mpr h_.1)) (fun hp2 => ?_)
  refine zY.go 2 rfl ?_
  refine zY.bc rfl (fun hp7 => absurd hp7 (Int32.not_lt.mpr h_.2)) (fun hp7 => ?_)
  refine zY.go 2 rfl ?_
  refine zY.cr (zm34t (x_ := 1) (by decide)) rfl rfl rfl rfl (Nat.le_of_ble_eq_true rfl) rfl (by decide) rfl (by decide) (by decide) ?_
  exact zY.rv rfl rfl ⟨rfl, rfl, rfl⟩
theorem zm33x {I_ : zIn} {L_ : zLi} {x_ lo_ hi_ : Int32} (h_ : ¬ (lo_ ≤ x_ ∧ x_ ≤ hi_)) : zYm 2 33 [zwI x_, zwI lo_, zwI hi_] I_ L_ 7 (zThw 9 I_ L_) := by
  refine zYm.of (Nat.le_of_ble_eq_true rfl) rfl ?_
  refine zY.go 2 rfl ?_
  refine zY.bc rfl (fun hp2 => ?_) (fun hp2 => ?_)
  · refine zY.go 1 rfl ?_
    exact zY.cx zm34x rfl rfl rfl rfl (Nat.le_of_ble_eq_true rfl) rfl (by decide) rfl (by decide) (by decide) (by decide) rfl ⟨rfl, rfl, rfl⟩
  · refine zY.go 2 rfl ?_
    refine zY.bc rfl (fun hp7 => ?_) (fun hp7 => ?_)
    · refine zY.go 1 rfl ?_
      exact zY.cx zm34x rfl rfl rfl rfl (Nat.le_of_ble_eq_true rfl) rfl (by decide) rfl (by decide) (by decide) (by decide) rfl ⟨rfl, rfl, rfl⟩
    · exact absurd ⟨Int32.not_lt.mp hp2, Int32.not_lt.mp hp7⟩ h_
theorem zm37t {I_ : zIn} {L_ : zLi} {x_ : Int32} (h_ : 0 ≤ x_ ∧ x_ ≤ 35) : zYm 3 37 [zwI x_] I_ L_ 0 (zRet none I_ L_) := by
  refine zYm.of (Nat.le_of_ble_eq_true rfl) rfl ?_
  refine zY.go 3 rfl ?_
  refine zY.cr (zm33t h_) rfl rfl rfl rfl (Nat.le_of_ble_eq_true rfl) rfl (by decide) rfl (by decide) (by decide) ?_
  exact zY.rv rfl rfl ⟨rfl, rfl, rfl⟩
theorem zm37x {I_ : zIn} {L_ : zLi} {x_ : Int32} (h_ : ¬ (0 ≤ x_ ∧ x_ ≤ 35)) : zYm 3 37 [zwI x_] I_ L_ 7 (zThw 9 I_ L_) := by
  refine zYm.of (Nat.le_of_ble_eq_true rfl) rfl ?_
  refine zY.go 3 rfl ?_
  exact zY.cx (zm33x h_) rfl rfl rfl rfl (Nat.le_of_ble_eq_true rfl) rfl (by decide) rfl (by decide) (by decide) (by decide) rfl ⟨rfl, rfl, rfl⟩
theorem zix {x_ : Int32} {n_ : Nat} (h0 : 0 ≤ x_) (h1 : x_ < Int32.ofNat n_) (hn : n_ < 100000) : ∃ i_, x_ = Int32.ofNat i_ ∧ i_ < n_ := by
  have e_ : Int32.ofNat x_.toNatClampNeg = x_ := Int32.ofNat_toNatClampNeg x_ h0
  refine ⟨x_.toNatClampNeg, e_.symm, ?_⟩
  have hlt : x_.toNatClampNeg < 2 ^ 31 := Int32.toNatClampNeg_lt x_
  rw [← e_, Int32.ofNat_lt_iff_lt (by omega) (by omega)] at h1
  exact h1
theorem zni {x_ : Int32} {n_ : Nat} (hn : n_ < 100000) (h_ : ¬ ∃ i_, x_ = Int32.ofNat i_ ∧ i_ < n_) : x_ < 0 ∨ Int32.ofNat n_ ≤ x_ := by
  refine Decidable.byContradiction (fun hc_ => ?_)
  have h1 : ¬ x_ < 0 := fun e_ => hc_ (Or.inl e_)
  have h2 : ¬ Int32.ofNat n_ ≤ x_ := fun e_ => hc_ (Or.inr e_)
  exact h_ (zix (Int32.not_lt.mp h1) (Int32.not_le.mp h2) hn)
theorem zm41t {I_ : zIn} {L_ : zLi} {i_ s_ : Nat} (hs : (L_ 21 0)[i_]? = some s_) : zYm 3 41 [zwR 6 0, zwI (Int32.ofNat i_)] I_ L_ 0 (zRet (some (zwR 5 s_)) I_ L_) := by
  refine zYm.inv (fun hi_ hw => ?_)
  have hn : (L_ 21 0).length ≤ 1000 := zinv22 hi_ (hw (zwR 6 0) (by simp)) 21 (by decide)
  obtain ⟨hlt, _⟩ := List.getElem?_eq_some_iff.mp hs
  refine zYm.of (Nat.le_of_ble_eq_true rfl) rfl ?_
  refine zY.go 1 rfl ?_
  refine zY.bi rfl (fun hp1 => absurd hp1 (Int32.not_lt.mpr (zige (by omega)))) (fun hp1 => ?_)
  refine zY.go 4 rfl ?_
  refine zY.bn rfl (by omega) (by omega) (fun hp12 => ?_) (fun hp12 => absurd hlt hp12)
  refine zY.go 3 rfl ?_
  refine zY.cr (w_get rfl hs) rfl rfl rfl rfl (Nat.le_of_ble_eq_true rfl) rfl (by decide) rfl (by decide) (by decide) ?_
  refine zY.go 1 rfl ?_
  exact zY.ra rfl rfl ⟨rfl, rfl, rfl⟩
theorem zm41x {I_ : zIn} {L_ : zLi} {x_ : Int32} (h_ : x_ < 0 ∨ Int32.ofNat (L_ 21 0).length ≤ x_) : zYm 3 41 [zwR 6 0, zwI x_] I_ L_ 7 (zThw 11 I_ L_) := by
  refine zYm.of (Nat.le_of_ble_eq_true rfl) rfl ?_
  refine zY.go 1 rfl ?_
  refine zY.bi rfl (fun hp1 => ?_) (fun hp1 => ?_)
  · exact zY.th rfl rfl (by decide) (by decide) ⟨rfl, rfl, rfl⟩
  · refine zY.go 4 rfl ?_
    refine zY.bc rfl (fun hp12 => ?_) (fun hp12 => ?_)
    · exact absurd hp12 (Int32.not_lt.mpr (h_.elim (fun e_ => absurd e_ hp1) id))
    · exact zY.th rfl rfl (by decide) (by decide) ⟨rfl, rfl, rfl⟩
theorem zm43t {I_ : zIn} {L_ : zLi} {i_ s_ : Nat} (hs : (L_ 20 0)[i_]? = some s_) : zYm 3 43 [zwR 6 0, zwI (Int32.ofNat i_)] I_ L_ 0 (zRet (some (zwR 2 s_)) I_ L_) := by
  refine zYm.inv (fun hi_ hw => ?_)
  have hn : (L_ 20 0).length ≤ 1000 := zinv22 hi_ (hw (zwR 6 0) (by simp)) 20 (by decide)
  obtain ⟨hlt, _⟩ := List.getElem?_eq_some_iff.mp hs
  refine zYm.of (Nat.le_of_ble_eq_true rfl) rfl ?_
  refine zY.go 1 rfl ?_
  refine zY.bi rfl (fun hp1 => absurd hp1 (Int32.not_lt.mpr (zige (by omega)))) (fun hp1 => ?_)
  refine zY.go 4 rfl ?_
  refine zY.bn rfl (by omega) (by omega) (fun hp12 => ?_) (fun hp12 => absurd hlt hp12)
  refine zY.go 3 rfl ?_
  refine zY.cr (w_get rfl hs) rfl rfl rfl rfl (Nat.le_of_ble_eq_true rfl) rfl (by decide) rfl (by decide) (by decide) ?_
  refine zY.go 1 rfl ?_
  exact zY.ra rfl rfl ⟨rfl, rfl, rfl⟩
theorem zm43x {I_ : zIn} {L_ : zLi} {x_ : Int32} (h_ : x_ < 0 ∨ Int32.ofNat (L_ 20 0).length ≤ x_) : zYm 3 43 [zwR 6 0, zwI x_] I_ L_ 7 (zThw 11 I_ L_) := by
  refine zYm.of (Nat.le_of_ble_eq_true rfl) rfl ?_
  refine zY.go 1 rfl ?_
  refine zY.bi rfl (fun hp1 => ?_) (fun hp1 => ?_)
  · exact zY.th rfl rfl (by decide) (by decide) ⟨rfl, rfl, rfl⟩
  · refine zY.go 4 rfl ?_
    refine zY.bc rfl (fun hp12 => ?_) (fun hp12 => ?_)
    · exact absurd hp12 (Int32.not_lt.mpr (h_.elim (fun e_ => absurd e_ hp1) id))
    · exact zY.th rfl rfl (by decide) (by decide) ⟨rfl, rfl, rfl⟩
theorem zm50t {I_ : zIn} {L_ : zLi} {i_ s_ : Nat} (hs : (L_ 22 0)[i_]? = some s_) : zYm 3 50 [zwR 6 0, zwI (Int32.ofNat i_)] I_ L_ 0 (zRet (some (zwR 1 s_)) I_ L_) := by
  refine zYm.inv (fun hi_ hw => ?_)
  have hn : (L_ 22 0).length ≤ 1000 := zinv22 hi_ (hw (zwR 6 0) (by simp)) 22 (by decide)
  obtain ⟨hlt, _⟩ := List.getElem?_eq_some_iff.mp hs
  refine zYm.of (Nat.le_of_ble_eq_true rfl) rfl ?_
  refine zY.go 1 rfl ?_
  refine zY.bi rfl (fun hp1 => absurd hp1 (Int32.not_lt.mpr (zige (by omega)))) (fun hp1 => ?_)
  refine zY.go 4 rfl ?_
  refine zY.bn rfl (by omega) (by omega) (fun hp12 => ?_) (fun hp12 => absurd hlt hp12)
  refine zY.go 3 rfl ?_
  refine zY.cr (w_get rfl hs) rfl rfl rfl rfl (Nat.le_of_ble_eq_true rfl) rfl (by decide) rfl (by decide) (by decide) ?_
  refine zY.go 1 rfl ?_
  exact zY.ra rfl rfl ⟨rfl, rfl, rfl⟩
theorem zm50x {I_ : zIn} {L_ : zLi} {x_ : Int32} (h_ : x_ < 0 ∨ Int32.ofNat (L_ 22 0).length ≤ x_) : zYm 3 50 [zwR 6 0, zwI x_] I_ L_ 7 (zThw 11 I_ L_) := by
  refine zYm.of (Nat.le_of_ble_eq_true rfl) rfl ?_
  refine zY.go 1 rfl ?_
  refine zY.bi rfl (fun hp1 => ?_) (fun hp1 => ?_)
  · exact zY.th rfl rfl (by decide) (by decide) ⟨rfl, rfl, rfl⟩
  · refine zY.go 4 rfl ?_
    refine zY.bc rfl (fun hp12 => ?_) (fun hp12 => ?_)
    · exact absurd hp12 (Int32.not_lt.mpr (h_.elim (fun e_ => absurd e_ hp1) id))
    · exact zY.th rfl rfl (by decide) (by decide) ⟨rfl, rfl, rfl⟩
theorem zm65t {I_ : zIn} {L_ : zLi} {v_ : Nat} {i_ s_ : Nat} (hs : (L_ 24 v_)[i_]? = some s_) : zYm 3 65 [zwR 5 v_, zwI (Int32.ofNat i_)] I_ L_ 0 (zRet (some (zwR 4 s_)) I_ L_) := by
  refine zYm.inv (fun hi_ hw => ?_)
  have hn : (L_ 24 v_).length ≤ 1000 := (hi_.1 24 v_ (hi_.veh (v_ := v_) (hw (zwR 5 v_) (by simp))).1 (by decide)).1
  obtain ⟨hlt, _⟩ := List.getElem?_eq_some_iff.mp hs
  refine zYm.of (Nat.le_of_ble_eq_true rfl) rfl ?_
  refine zY.go 1 rfl ?_
  refine zY.bi rfl (fun hp1 => absurd hp1 (Int32.not_lt.mpr (zige (by omega)))) (fun hp1 => ?_)
  refine zY.go 4 rfl ?_
  refine zY.bn rfl (by omega) (by omega) (fun hp12 => ?_) (fun hp12 => absurd hlt hp12)
  refine zY.go 3 rfl ?_
  refine zY.cr (w_get rfl hs) rfl rfl rfl rfl (Nat.le_of_ble_eq_true rfl) rfl (by decide) rfl (by decide) (by decide) ?_
  refine zY.go 1 rfl ?_
  exact zY.ra rfl rfl ⟨rfl, rfl, rfl⟩
theorem zm65x {I_ : zIn} {L_ : zLi} {v_ : Nat} {x_ : Int32} (h_ : x_ < 0 ∨ Int32.ofNat (L_ 24 v_).length ≤ x_) : zYm 3 65 [zwR 5 v_, zwI x_] I_ L_ 7 (zThw 11 I_ L_) := by
  refine zYm.of (Nat.le_of_ble_eq_true rfl) rfl ?_
  refine zY.go 1 rfl ?_
  refine zY.bi rfl (fun hp1 => ?_) (fun hp1 => ?_)
  · exact zY.th rfl rfl (by decide) (by decide) ⟨rfl, rfl, rfl⟩
  · refine zY.go 4 rfl ?_
    refine zY.bc rfl (fun hp12 => ?_) (fun hp12 => ?_)
    · exact absurd hp12 (Int32.not_lt.mpr (h_.elim (fun e_ => absurd e_ hp1) id))
    · exact zY.th rfl rfl (by decide) (by decide) ⟨rfl, rfl, rfl⟩
theorem zm51t {I_ : zIn} {L_ : zLi} {q_ i_ s_ : Nat} (hq : I_ 1 q_ 8 = Int32.ofNat i_) (hs : (L_ 21 0)[i_]? = some s_) : zYm 3 51 [zwR 6 0, zwR 1 q_] I_ L_ 0 (zRet (some (zwR 5 s_)) I_ L_) := by
  refine zYm.inv (fun hi_ hw => ?_)
  have hn := zinv22 hi_ (hw (zwR 6 0) (by simp)) 21 (by decide)
  obtain ⟨hlt, _⟩ := List.getElem?_eq_some_iff.mp hs
  refine zYm.of (Nat.le_of_ble_eq_true rfl) rfl ?_
  refine zY.go 4 rfl ?_
  show zY _ _ _ _ [some (zwR 6 0), some (zwR 1 q_), some (zwI (I_ 1 q_ 8))] [zwI (I_ 1 q_ 8)] _ _ _ _
  rw [hq]
  refine zY.bi rfl (fun hp1 => absurd hp1 (Int32.not_lt.mpr (zige (by omega)))) (fun hp1 => ?_)
  refine zY.go 4 rfl ?_
  refine zY.bn rfl (by omega) (by omega) (fun hp12 => absurd hlt (Nat.not_lt.mpr hp12)) (fun hp12 => ?_)
  refine zY.go 3 rfl ?_
  refine zY.cr (w_get rfl hs) rfl rfl rfl rfl (Nat.le_of_ble_eq_true rfl) rfl (by decide) rfl (by decide) (by decide) ?_
  refine zY.go 2 rfl ?_
  exact zY.ra rfl rfl ⟨rfl, rfl, rfl⟩
def zcb (I_ : zIn) : Nat → Nat → Int32 → Int32
  | 0, _, x_ => x_
  | n_ + 1, k_, x_ => zcb I_ n_ (k_ + 1) (if I_ 31 0 k_ = 0 then x_ else x_ + 1)
theorem zm38l (I_ : zIn) (L_ : zLi) : ∀ (n_ k_ : Nat) (x_ : Int32), n_ + k_ = 36 → zY none 1 38 4 [some (zwR 6 0), some (zwI x_), some (zwI (Int32.ofNat k_))] [] I_ L_ 0 (zRet (some (zwI (zcb I_ n_ k_ x_))) I_ L_)
  | 0, k_, x_, hi_ => by
    have h36 : zas31 0 = 36 := rfl
    refine zY.go 4 rfl ?_
    refine zY.bn rfl (by omega) (by omega) (fun _ => ?_) (fun hF => absurd (show zas31 0 ≤ k_ by omega) hF)
    refine zY.go 1 rfl ?_
    exact zY.ri rfl rfl ⟨rfl, rfl, rfl⟩
  | n_ + 1, k_, x_, hi_ => by
    have h36 : zas31 0 = 36 := rfl
    have ih_ := fun (x_ : Int32) => zm38l I_ L_ n_ (k_ + 1) x_ (by omega)
    simp only [← zisucc] at ih_
    refine zY.go 4 rfl ?_
    refine zY.bn rfl (by omega) (by omega) (fun hT_ => absurd hT_ (show ¬ zas31 0 ≤ k_ by omega)) (fun _ => ?_)
    refine zY.go 3 rfl ?_
    refine zY.ab rfl rfl (by omega) ?_
    unfold zcb
    refine zY.bi rfl (fun hp19 => ?_) (fun hp19 => ?_)
    · refine zY.go 2 rfl ?_
      rw [if_pos (zbo_0.mp hp19)]
      exact ih_ _
    · refine zY.go 3 rfl ?_
      rw [if_neg (fun h_ => hp19 (zbo_0.mpr h_))]
      exact ih_ _
theorem zm38 {I_ : zIn} {L_ : zLi} : zYm 1 38 [zwR 6 0] I_ L_ 0 (zRet (some (zwI (zcb I_ 36 0 0))) I_ L_) := by
  refine zYm.of (Nat.le_of_ble_eq_true rfl) rfl ?_
  refine zY.go 4 rfl ?_
  exact zm38l I_ L_ 36 0 0 rfl
def znb (I_ : zIn) (y_ : Int32) : Nat → Nat → Int32 → Int32
  | 0, _, x_ => x_
  | n_ + 1, k_, x_ => znb I_ y_ n_ (k_ + 1) (if I_ 31 0 k_ = 0 then x_ else (if zstp y_ (Int32.ofNat k_) < x_ then zstp y_ (Int32.ofNat k_) else x_))
theorem zm45l (I_ : zIn) (L_ : zLi) (y_ : Int32) : ∀ (n_ k_ : Nat) (x_ : Int32), n_ + k_ = 36 → zY none 2 45 5 [some (zwR 6 0), some (zwI y_), some (zwI x_), some (zwI (Int32.ofNat k_))] [] I_ L_ 0 (zRet (some (zwI (znb I_ y_ n_ k_ x_))) I_ L_)
  | 0, k_, x_, hi_ => by
    have h36 : zas31 0 = 36 := rfl
    refine zY.go 4 rfl ?_
    refine zY.bn rfl (by omega) (by omega) (fun _ => ?_) (fun hF => absurd (show zas31 0 ≤ k_ by omega) hF)
    refine zY.go 1 rfl ?_
    exact zY.ri rfl rfl ⟨rfl, rfl, rfl⟩
  | n_ + 1, k_, x_, hi_ => by
    have h36 : zas31 0 = 36 := rfl
    have ih_ := fun (x_ : Int32) => zm45l I_ L_ y_ n_ (k_ + 1) x_ (by omega)
    simp only [← zisucc] at ih_
    refine zY.go 4 rfl ?_
    refine zY.bn rfl (by omega) (by omega) (fun hT_ => absurd hT_ (show ¬ zas31 0 ≤ k_ by omega)) (fun _ => ?_)
    refine zY.go 3 rfl ?_
    refine zY.ab rfl rfl (by omega) ?_
    unfold znb
    refine zY.bi rfl (fun hp19 => ?_) (fun hp19 => ?_)
    · refine zY.go 2 rfl ?_
      rw [if_pos (zbo_0.mp hp19)]
      exact ih_ _
    · refine zY.go 3 rfl ?_
      refine zY.cr zm31 rfl rfl rfl rfl (Nat.le_of_ble_eq_true rfl) rfl (by decide) rfl (by decide) (by decide) ?_
      refine zY.go 4 rfl ?_
      rw [if_neg (fun h_ => hp19 (zbo_0.mpr h_))]
      exact ih_ _
theorem zm45 {I_ : zIn} {L_ : zLi} {y_ : Int32} : zYm 2 45 [zwR 6 0, zwI y_] I_ L_ 0 (zRet (some (zwI (znb I_ y_ 36 0 36))) I_ L_) := by
  refine zYm.of (Nat.le_of_ble_eq_true rfl) rfl ?_
  refine zY.go 4 rfl ?_
  exact zm45l I_ L_ y_ 36 0 36 rfl
def zowd (I_ : zIn) (p_ : Nat) (x_ y_ : Int32) : Bool := decide (zcb I_ 36 0 0 = 0) || decide ((if I_ 6 0 6 = 0 ∨ I_ 2 p_ 0 = 0 then I_ 2 p_ 2 else I_ 2 p_ 2 / 2) < znb I_ x_ 36 0 36 + znb I_ y_ 36 0 36)
theorem zm44 {I_ : zIn} {L_ : zLi} {p_ : Nat} {x_ y_ : Int32} : zYm 3 44 [zwR 6 0, zwR 2 p_, zwI x_, zwI y_] I_ L_ 0 (zRet (some (zwI (if zowd I_ p_ x_ y_ = true then 1 else 0))) I_ L_) := by
  refine zYm.of (Nat.le_of_ble_eq_true rfl) rfl ?_
  refine zY.go 1 rfl ?_
  refine zY.cr (zm38) rfl rfl rfl rfl (Nat.le_of_ble_eq_true rfl) rfl (by decide) rfl (by decide) (by decide) ?_
  refine zY.bi rfl (fun hp4 => ?_) (fun hp4 => ?_)
  · refine zY.go 2 rfl ?_
    refine zY.bi rfl (fun hp13 => ?_) (fun hp13 => ?_)
    · refine zY.go 3 rfl ?_
      refine zY.bi rfl (fun hp32 => ?_) (fun hp32 => ?_)
      · refine zY.go 5 rfl ?_
        refine zY.cr (zm45) rfl rfl rfl rfl (Nat.le_of_ble_eq_true rfl) rfl (by decide) rfl (by decide) (by decide) ?_
        refine zY.go 2 rfl ?_
        refine zY.cr (zm45) rfl rfl rfl rfl (Nat.le_of_ble_eq_true rfl) rfl (by decide) rfl (by decide) (by decide) ?_
        refine zY.go 2 rfl ?_
        refine zY.bc rfl (fun hp63 => ?_) (fun hp63 => ?_)
        · refine zY.go 1 rfl ?_
          exact zY.rb rfl rfl (by first | exact Or.inl rfl | exact Or.inr rfl) ⟨by simp_all [zcp, zbo_0, zowd, Int32.not_lt] <;> (intro hcon; exact absurd hcon (Int32.not_lt.mpr (by assumption))), rfl, rfl⟩
        · refine zY.go 2 rfl ?_
          exact zY.rb rfl rfl (by first | exact Or.inl rfl | exact Or.inr rfl) ⟨by simp_all [zcp, zbo_0, zowd, Int32.not_lt] <;> (intro hcon; exact absurd hcon (Int32.not_lt.mpr (by assumption))), rfl, rfl⟩
      · refine zY.go 8 rfl ?_
        refine zY.cr (zm45) rfl rfl rfl rfl (Nat.le_of_ble_eq_true rfl) rfl (by decide) rfl (by decide) (by decide) ?_
        refine zY.go 2 rfl ?_
        refine zY.cr (zm45) rfl rfl rfl rfl (Nat.le_of_ble_eq_true rfl) rfl (by decide) rfl (by decide) (by decide) ?_
        refine zY.go 2 rfl ?_
        refine zY.bc rfl (fun hp63 => ?_) (fun hp63 => ?_)
        · refine zY.go 1 rfl ?_
          exact zY.rb rfl rfl (by first | exact Or.inl rfl | exact Or.inr rfl) ⟨by simp_all [zcp, zbo_0, zowd, Int32.not_lt] <;> (intro hcon; exact absurd hcon (Int32.not_lt.mpr (by assumption))), rfl, rfl⟩
        · refine zY.go 2 rfl ?_
          exact zY.rb rfl rfl (by first | exact Or.inl rfl | exact Or.inr rfl) ⟨by simp_all [zcp, zbo_0, zowd, Int32.not_lt] <;> (intro hcon; exact absurd hcon (Int32.not_lt.mpr (by assumption))), rfl, rfl⟩
    · refine zY.go 2 rfl ?_
      refine zY.bi rfl (fun hp20 => ?_) (fun hp20 => ?_)
      · refine zY.go 3 rfl ?_
        refine zY.bi rfl (fun hp32 => ?_) (fun hp32 => ?_)
        · refine zY.go 5 rfl ?_
          refine zY.cr (zm45) rfl rfl rfl rfl (Nat.le_of_ble_eq_true rfl) rfl (by decide) rfl (by decide) (by decide) ?_
          refine zY.go 2 rfl ?_
          refine zY.cr (zm45) rfl rfl rfl rfl (Nat.le_of_ble_eq_true rfl) rfl (by decide) rfl (by decide) (by decide) ?_
          refine zY.go 2 rfl ?_
          refine zY.bc rfl (fun hp63 => ?_) (fun hp63 => ?_)
          · refine zY.go 1 rfl ?_
            exact zY.rb rfl rfl (by first | exact Or.inl rfl | exact Or.inr rfl) ⟨by simp_all [zcp, zbo_0, zowd, Int32.not_lt] <;> (intro hcon; exact absurd hcon (Int32.not_lt.mpr (by assumption))), rfl, rfl⟩
          · refine zY.go 2 rfl ?_
            exact zY.rb rfl rfl (by first | exact Or.inl rfl | exact Or.inr rfl) ⟨by simp_all [zcp, zbo_0, zowd, Int32.not_lt] <;> (intro hcon; exact absurd hcon (Int32.not_lt.mpr (by assumption))), rfl, rfl⟩
        · refine zY.go 8 rfl ?_
          refine zY.cr (zm45) rfl rfl rfl rfl (Nat.le_of_ble_eq_true rfl) rfl (by decide) rfl (by decide) (by decide) ?_
          refine zY.go 2 rfl ?_
          refine zY.cr (zm45) rfl rfl rfl rfl (Nat.le_of_ble_eq_true rfl) rfl (by decide) rfl (by decide) (by decide) ?_
          refine zY.go 2 rfl ?_
          refine zY.bc rfl (fun hp63 => ?_) (fun hp63 => ?_)
          · refine zY.go 1 rfl ?_
            exact zY.rb rfl rfl (by first | exact Or.inl rfl | exact Or.inr rfl) ⟨by simp_all [zcp, zbo_0, zowd, Int32.not_lt] <;> (intro hcon; exact absurd hcon (Int32.not_lt.mpr (by assumption))), rfl, rfl⟩
          · refine zY.go 2 rfl ?_
            exact zY.rb rfl rfl (by first | exact Or.inl rfl | exact Or.inr rfl) ⟨by simp_all [zcp, zbo_0, zowd, Int32.not_lt] <;> (intro hcon; exact absurd hcon (Int32.not_lt.mpr (by assumption))), rfl, rfl⟩
      · refine zY.go 4 rfl ?_
        refine zY.bi rfl (fun hp32 => ?_) (fun hp32 => ?_)
        · refine zY.go 5 rfl ?_
          refine zY.cr (zm45) rfl rfl rfl rfl (Nat.le_of_ble_eq_true rfl) rfl (by decide) rfl (by decide) (by decide) ?_
          refine zY.go 2 rfl ?_
          refine zY.cr (zm45) rfl rfl rfl rfl (Nat.le_of_ble_eq_true rfl) rfl (by decide) rfl (by decide) (by decide) ?_
          refine zY.go 2 rfl ?_
          refine zY.bc rfl (fun hp63 => ?_) (fun hp63 => ?_)
          · refine zY.go 1 rfl ?_
            exact zY.rb rfl rfl (by first | exact Or.inl rfl | exact Or.inr rfl) ⟨by simp_all [zcp, zbo_0, zowd, Int32.not_lt] <;> (intro hcon; exact absurd hcon (Int32.not_lt.mpr (by assumption))), rfl, rfl⟩
          · refine zY.go 2 rfl ?_
            exact zY.rb rfl rfl (by first | exact Or.inl rfl | exact Or.inr rfl) ⟨by simp_all [zcp, zbo_0, zowd, Int32.not_lt] <;> (intro hcon; exact absurd hcon (Int32.not_lt.mpr (by assumption))), rfl, rfl⟩
        · refine zY.go 8 rfl ?_
          refine zY.cr (zm45) rfl rfl rfl rfl (Nat.le_of_ble_eq_true rfl) rfl (by decide) rfl (by decide) (by decide) ?_
          refine zY.go 2 rfl ?_
          refine zY.cr (zm45) rfl rfl rfl rfl (Nat.le_of_ble_eq_true rfl) rfl (by decide) rfl (by decide) (by decide) ?_
          refine zY.go 2 rfl ?_
          refine zY.bc rfl (fun hp63 => ?_) (fun hp63 => ?_)
          · refine zY.go 1 rfl ?_
            exact zY.rb rfl rfl (by first | exact Or.inl rfl | exact Or.inr rfl) ⟨by simp_all [zcp, zbo_0, zowd, Int32.not_lt] <;> (intro hcon; exact absurd hcon (Int32.not_lt.mpr (by assumption))), rfl, rfl⟩
          · refine zY.go 2 rfl ?_
            exact zY.rb rfl rfl (by first | exact Or.inl rfl | exact Or.inr rfl) ⟨by simp_all [zcp, zbo_0, zowd, Int32.not_lt] <;> (intro hcon; exact absurd hcon (Int32.not_lt.mpr (by assumption))), rfl, rfl⟩
  · refine zY.go 1 rfl ?_
    exact zY.rb rfl rfl (by first | exact Or.inl rfl | exact Or.inr rfl) ⟨by simp_all [zcp, zbo_0, zowd, Int32.not_lt] <;> (intro hcon; exact absurd hcon (Int32.not_lt.mpr (by assumption))), rfl, rfl⟩
theorem zm36t {I_ : zIn} {L_ : zLi} {k_ : Nat} {x_ : Int32} (hk : k_ < 36) (hx : x_ = 0 ∨ x_ = 1) : zYm 4 36 [zwR 6 0, zwI (Int32.ofNat k_), zwI x_] I_ L_ 0 (zRet (some (zwI (zcb (zset I_ 31 0 k_ x_) 36 0 0))) (zset I_ 31 0 k_ x_) L_) := by
  have h36 : zas31 0 = 36 := rfl
  refine zYm.of (Nat.le_of_ble_eq_true rfl) rfl ?_
  refine zY.go 1 rfl ?_
  refine zY.cr (zm37t ⟨zige (by omega), (zile (b := 35) (by omega) (by omega)).mpr (by omega)⟩) rfl rfl rfl rfl (Nat.le_of_ble_eq_true rfl) rfl (by decide) rfl (by decide) (by decide) ?_
  refine zY.go 1 rfl ?_
  refine zY.bi rfl (fun hp5 => absurd hp5 (Int32.not_lt.mpr (zige (by omega)))) (fun hp5 => ?_)
  refine zY.go 4 rfl ?_
  refine zY.bn rfl (by omega) (by omega) (fun hp14 => absurd hp14 (show ¬ zas31 0 ≤ k_ by omega)) (fun hp14 => ?_)
  refine zY.go 4 rfl ?_
  refine zY.sb rfl rfl (by omega) hx ?_
  refine zY.go 1 rfl ?_
  refine zY.cr zm38 rfl rfl rfl rfl (Nat.le_of_ble_eq_true rfl) rfl (by decide) rfl (by decide) (by decide) ?_
  exact zY.ri rfl rfl ⟨rfl, rfl, rfl⟩
theorem zm36x {I_ : zIn} {L_ : zLi} {x_ y_ : Int32} (h_ : ¬ (0 ≤ y_ ∧ y_ ≤ 35)) : zYm 4 36 [zwR 6 0, zwI y_, zwI x_] I_ L_ 7 (zThw 9 I_ L_) := by
  refine zYm.of (Nat.le_of_ble_eq_true rfl) rfl ?_
  refine zY.go 1 rfl ?_
  exact zY.cx (zm37x h_) rfl rfl rfl rfl (Nat.le_of_ble_eq_true rfl) rfl (by decide) rfl (by decide) (by decide) (by decide) rfl ⟨rfl, rfl, rfl⟩

