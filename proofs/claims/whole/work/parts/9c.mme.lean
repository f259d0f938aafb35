/-! CONTRACTS OF THE MODEL: mended, mend -/
def zmdK (J_ : zIn) (v_ : Nat) (l : List Nat) : zIn := zpln (ztry J_ v_ l.length) v_ l
def zmdA (J_ : zIn) (v_ : Nat) (l : List Nat) (r_ d' N_ : Nat) (R_ : Nat → List Nat) (M_ : Nat → Nat) : Bool × zIn := zputA (ztoF (zmdK J_ v_ l) v_ l r_ d') N_ R_ M_ r_
def zmdR (A_ : zIn) (v_ : Nat) (l : List Nat) (r_ p_ d_ : Nat) : zIn := zkep (zlkT A_ v_ l r_ p_ d_) v_ (l.length + 2)
def zmdM (J_ : zIn) (v_ : Nat) (l : List Nat) (r_ p_ d_ d' N_ : Nat) (R_ : Nat → List Nat) (M_ : Nat → Nat) : Bool × zIn :=
  if zmtl (zmdK J_ v_ l) l p_ (2 * r_) = false ∧ zmtl (zmdK J_ v_ l) l d_ (2 * r_ + 1) = false then (false, zmdK J_ v_ l)
  else if (zmdA J_ v_ l r_ d' N_ R_ M_).1 = true then zmdA J_ v_ l r_ d' N_ R_ M_ else (false, zmdR (zmdA J_ v_ l r_ d' N_ R_ M_).2 v_ (R_ v_) r_ p_ d_)
theorem zmdK_fz {J_ : zIn} {v_ : Nat} {l : List Nat} : zfz (zmdK J_ v_ l) J_ := (zfx.fz zpln_fx).trans (zfz.try zfz.rfl)
theorem zm173 {J_ : zIn} {L_ : zLi} {v_ r_ p_ d_ d' N_ : Nat} {l : List Nat} {R_ : Nat → List Nat} {M_ : Nat → Nat} (hv : v_ < N_) (hr : r_ < 60) (hro : zRo J_ v_ l) (hm_ : ∀ s_ ∈ l, zMq J_ (s_ / 2)) (hp : zlx (2 * r_) l 0 none = some p_) (hd_ : zlx (2 * r_ + 1) l 0 none = some d_) (hp2 : l[p_]? = some (2 * r_)) (hd2 : l[d_]? = some (2 * r_ + 1)) (hrv : J_ 30 35 r_ = Int32.ofNat v_) (hd' : zlx (2 * r_ + 1) (ztoL l r_) 0 none = some d') (hk : zPk (ztoF (zmdK J_ v_ l) v_ l r_ d') N_ R_ M_ r_) (hpR : p_ ≤ (R_ v_).length) (hdR : d_ ≤ (R_ v_).length + 1) (hl14 : (R_ v_).length ≤ 14) : zYm 9 173 [zwR 7 0, zwI (Int32.ofNat v_), zwI (Int32.ofNat r_)] J_ L_ 0 (zRb ((zmdM J_ v_ l r_ p_ d_ d' N_ R_ M_).1, (zmdM J_ v_ l r_ p_ d_ d' N_ R_ M_).2, L_)) := by
  obtain ⟨hN_, h11, hlk, hmqr⟩ := hk
  have hv4 : v_ < 4 := by omega
  have hl := hro.2.1
  have hpl : p_ < l.length := (List.getElem?_eq_some_iff.mp hp2).1
  have hdl : d_ < l.length := (List.getElem?_eq_some_iff.mp hd2).1
  have t0_ := ztry_tr hro
  have fz0 : zfz (ztry J_ v_ l.length) J_ := zfz.try zfz.rfl
  have hm0 : ∀ s_ ∈ l, zMq (ztry J_ v_ l.length) (s_ / 2) := fun s_ hs => fz0.mq (hm_ s_ hs)
  have fx1 : zfx (zmdK J_ v_ l) (ztry J_ v_ l.length) := zpln_fx
  have fz1 : zfz (zmdK J_ v_ l) J_ := zmdK_fz
  have t1_ : zTr (zmdK J_ v_ l) l := fx1.tr t0_
  have hroK : zRo (zmdK J_ v_ l) v_ l := fz1.ro hro
  have e2_ : (2 : Int32) * Int32.ofNat r_ = Int32.ofNat (2 * r_) := z2q
  have T48 : ¬ (zmtl (zmdK J_ v_ l) l p_ (2 * r_) = false ∧ zmtl (zmdK J_ v_ l) l d_ (2 * r_ + 1) = false) → zY none 9 173 48 [some (zwR 7 0), some (zwI (Int32.ofNat v_)), some (zwI (Int32.ofNat r_)), some (zwI (Int32.ofNat p_)), some (zwI (Int32.ofNat d_)), none] [] (zmdK J_ v_ l) L_ 0 (zRb ((zmdM J_ v_ l r_ p_ d_ d' N_ R_ M_).1, (zmdM J_ v_ l r_ p_ d_ d' N_ R_ M_).2, L_)) := by
    intro hc_
    refine zY.go 2 rfl ?_
    refine zY.cr (zm161 hr hv4 ((fz1 30 35 r_ (by simp) (by simp)).trans hrv) hroK hd') rfl rfl rfl rfl (Nat.le_of_ble_eq_true rfl) rfl (by decide) rfl (by decide) (by decide) ?_
    refine zY.go 2 rfl ?_
    refine zY.cr (zm140 hN_ h11 hlk hmqr) rfl rfl rfl rfl (Nat.le_of_ble_eq_true rfl) rfl (by decide) rfl (by decide) (by decide) ?_
    change zY _ _ _ _ _ [zwI (if (zmdA J_ v_ l r_ d' N_ R_ M_).1 = true then 1 else 0)] (zmdA J_ v_ l r_ d' N_ R_ M_).2 _ _ _
    refine zY.go 2 rfl ?_
    refine zY.wn rfl (fun ha_ => ?_) (fun ha_ => ?_)
    · have e_ : zmdM J_ v_ l r_ p_ d_ d' N_ R_ M_ = zmdA J_ v_ l r_ d' N_ R_ M_ := by unfold zmdM; rw [if_neg hc_, if_pos ha_]
      rw [e_, ha_]
      refine zY.go 1 rfl ?_
      exact zY.rb rfl rfl (Or.inr rfl) ⟨rfl, rfl, rfl⟩
    · have e_ : zmdM J_ v_ l r_ p_ d_ d' N_ R_ M_ = (false, zmdR (zmdA J_ v_ l r_ d' N_ R_ M_).2 v_ (R_ v_) r_ p_ d_) := by unfold zmdM; rw [if_neg hc_, if_neg (by rw [ha_]; simp)]
      rw [e_, ha_]
      have fzA : zfz (zmdA J_ v_ l r_ d' N_ R_ M_).2 (ztoF (zmdK J_ v_ l) v_ l r_ d') := zputA_no ha_
      have hroA : zRo (zmdA J_ v_ l r_ d' N_ R_ M_).2 v_ (R_ v_) := fzA.ro (hlk v_ hv).2.2.1
      have u0 := ztry_tr hroA
      have u1_ := zpst_tr (s_ := 2 * r_) u0 hpR (by omega) (by omega)
      have l1 : ((R_ v_).insertIdx p_ (2 * r_)).length = (R_ v_).length + 1 := by rw [List.length_insertIdx]; rw [if_pos hpR]
      have u1' : zTr (zpst (ztry (zmdA J_ v_ l r_ d' N_ R_ M_).2 v_ (R_ v_).length) (R_ v_).length p_ (2 * r_)) ((R_ v_).insertIdx p_ (2 * r_)) := u1_
      have h2 : zpst (ztry (zmdA J_ v_ l r_ d' N_ R_ M_).2 v_ (R_ v_).length) (R_ v_).length p_ (2 * r_) 7 0 42 = Int32.ofNat ((R_ v_).length + 1) := by rw [u1'.1, l1]
      have u2_ := zpst_tr (s_ := 2 * r_ + 1) u1' (show d_ ≤ ((R_ v_).insertIdx p_ (2 * r_)).length by omega) (by omega) (by omega)
      have l2 : (((R_ v_).insertIdx p_ (2 * r_)).insertIdx d_ (2 * r_ + 1)).length = (R_ v_).length + 2 := by rw [List.length_insertIdx]; rw [if_pos (by omega), l1]
      have u2' : zTr (zlkT (zmdA J_ v_ l r_ d' N_ R_ M_).2 v_ (R_ v_) r_ p_ d_) (((R_ v_).insertIdx p_ (2 * r_)).insertIdx d_ (2 * r_ + 1)) := by
        unfold zlkT
        rw [l1] at u2_; exact u2_
      have h3 : zlkT (zmdA J_ v_ l r_ d' N_ R_ M_).2 v_ (R_ v_) r_ p_ d_ 7 0 42 = Int32.ofNat ((R_ v_).length + 2) := by rw [u2'.1, l2]
      refine zY.go 2 rfl ?_
      refine zY.cr (zm143 hv4 (by omega) hroA.1) rfl rfl rfl rfl (Nat.le_of_ble_eq_true rfl) rfl (by decide) rfl (by decide) (by decide) ?_
      refine zY.go 5 rfl ?_
      show zY _ _ _ _ _ [zwI (2 * Int32.ofNat r_), zwI (Int32.ofNat p_), zwR 7 0] _ _ _ _
      rw [e2_]
      refine zY.cr (zm147 (by omega) hpR u0.1) rfl rfl rfl rfl (Nat.le_of_ble_eq_true rfl) rfl (by decide) rfl (by decide) (by decide) ?_
      refine zY.go 7 rfl ?_
      show zY _ _ _ _ _ [zwI (2 * Int32.ofNat r_ + 1), zwI (Int32.ofNat d_), zwR 7 0] _ _ _ _
      rw [e2_, zisucc]
      refine zY.cr (zm147 (n_ := (R_ v_).length + 1) (by omega) hdR h2) rfl rfl rfl rfl (Nat.le_of_ble_eq_true rfl) rfl (by decide) rfl (by decide) (by decide) ?_
      change zY _ _ _ _ _ _ (zlkT (zmdA J_ v_ l r_ d' N_ R_ M_).2 v_ (R_ v_) r_ p_ d_) _ _ _
      refine zY.go 2 rfl ?_
      refine zY.cr (zm157 (n_ := (R_ v_).length + 2) hv4 (by omega) h3) rfl rfl rfl rfl (Nat.le_of_ble_eq_true rfl) rfl (by decide) rfl (by decide) (by decide) ?_
      refine zY.go 1 rfl ?_
      exact zY.rb rfl rfl (Or.inl rfl) ⟨rfl, rfl, rfl⟩
  refine zYm.of (Nat.le_of_ble_eq_true rfl) rfl ?_
  refine zY.go 2 rfl ?_
  refine zY.cr (zm143 hv4 hl hro.1) rfl rfl rfl rfl (Nat.le_of_ble_eq_true rfl) rfl (by decide) rfl (by decide) (by decide) ?_
  refine zY.go 2 rfl ?_
  refine zY.cr (zm149 t0_ hv4 hm0) rfl rfl rfl rfl (Nat.le_of_ble_eq_true rfl) rfl (by decide) rfl (by decide) (by decide) ?_
  change zY _ _ _ _ _ _ (zmdK J_ v_ l) _ _ _
  refine zY.go 4 rfl ?_
  show zY _ _ _ _ _ [zwI (2 * Int32.ofNat r_), zwR 7 0] _ _ _ _
  rw [e2_]
  refine zY.cr (zm153 t1_ (by omega)) rfl rfl rfl rfl (Nat.le_of_ble_eq_true rfl) rfl (by decide) rfl (by decide) (by decide) ?_
  rw [hp]
  refine zY.go 7 rfl ?_
  show zY _ _ _ _ _ [zwI (2 * Int32.ofNat r_ + 1), zwR 7 0] _ _ _ _
  rw [e2_, zisucc]
  refine zY.cr (zm153 t1_ (by omega)) rfl rfl rfl rfl (Nat.le_of_ble_eq_true rfl) rfl (by decide) rfl (by decide) (by decide) ?_
  rw [hd_]
  refine zY.go 3 rfl ?_
  show zY _ _ _ _ _ [zwI (Int32.ofNat p_), zwR 7 0] _ _ _ _
  refine zY.cr (zm151 t1_ hp2) rfl rfl rfl rfl (Nat.le_of_ble_eq_true rfl) rfl (by decide) rfl (by decide) (by decide) ?_
  refine zY.wn rfl (fun h1 => T48 (fun e_ => by rw [h1] at e_; cases e_.1)) (fun h1 => ?_)
  refine zY.go 2 rfl ?_
  show zY _ _ _ _ _ [zwI (Int32.ofNat d_), zwR 7 0] _ _ _ _
  refine zY.cr (zm151 t1_ hd2) rfl rfl rfl rfl (Nat.le_of_ble_eq_true rfl) rfl (by decide) rfl (by decide) (by decide) ?_
  refine zY.wn rfl (fun h2 => T48 (fun e_ => by rw [h2] at e_; cases e_.2)) (fun h2 => ?_)
  have e_ : zmdM J_ v_ l r_ p_ d_ d' N_ R_ M_ = (false, zmdK J_ v_ l) := if_pos ⟨h1, h2⟩
  rw [e_]
  refine zY.go 1 rfl ?_
  exact zY.rb rfl rfl (Or.inl rfl) ⟨rfl, rfl, rfl⟩
def zlwI : List Nat → Nat → zIn → zIn
  | [], _, I_ => I_
  | s_ :: r_, m_, I_ => if s_ % 2 = 0 then zlwI r_ (m_ + 1) (zset I_ 30 51 m_ (Int32.ofNat (s_ / 2))) else zlwI r_ m_ I_
theorem zlwI_ne {c_ i_ f_ : Nat} (h_ : ¬ (c_ = 30 ∧ i_ = 51)) : ∀ (l : List Nat) (m_ : Nat) (I_ : zIn), zlwI l m_ I_ c_ i_ f_ = I_ c_ i_ f_
  | [], _, _ => rfl
  | s_ :: r_, m_, I_ => by
    unfold zlwI
    split
    · rw [zlwI_ne h_ r_ (m_ + 1) _]
      exact zset_ne (fun e_ => h_ ⟨e_.1, e_.2.1⟩)
    · exact zlwI_ne h_ r_ m_ I_
theorem zlwI_lo : ∀ (l : List Nat) (m_ : Nat) (I_ : zIn) (k_ : Nat), k_ < m_ → zlwI l m_ I_ 30 51 k_ = I_ 30 51 k_
  | [], _, _, _, _ => rfl
  | s_ :: r_, m_, I_, k_, h_ => by
    unfold zlwI
    split
    · rw [zlwI_lo r_ (m_ + 1) _ k_ (by omega)]
      exact zset_ne (by omega)
    · exact zlwI_lo r_ m_ I_ k_ h_
theorem zlwI_at : ∀ (l : List Nat) (m_ : Nat) (I_ : zIn) (k_ q_ : Nat), (zpks l)[k_]? = some q_ → zlwI l m_ I_ 30 51 (m_ + k_) = Int32.ofNat q_
  | [], _, _, _, _, h_ => by simp [zpks] at h_
  | s_ :: r_, m_, I_, k_, q_, h_ => by
    unfold zpks at h_
    unfold zlwI
    split at h_
    · rename_i h2
      rw [if_pos h2]
      cases k_ with
      | zero =>
        simp at h_
        subst h_
        show zlwI r_ (m_ + 1) _ 30 51 m_ = _
        rw [zlwI_lo r_ (m_ + 1) _ m_ (by omega), zset_is]
      | succ k_ =>
        have h3 : (zpks r_)[k_]? = some q_ := by simpa using h_
        have := zlwI_at r_ (m_ + 1) (zset I_ 30 51 m_ (Int32.ofNat (s_ / 2))) k_ q_ h3
        rw [show m_ + (k_ + 1) = m_ + 1 + k_ by omega]
        exact this
    · rename_i h2
      rw [if_neg h2]
      exact zlwI_at r_ m_ I_ k_ q_ h_
theorem zm172a {I_ : zIn} {L_ : zLi} {x_ : Int32} (hx : zbt x_ 0 (I_ 7 0 11 - 1) = false) : zYm 10 172 [zwR 7 0, zwI x_] I_ L_ 0 (zRet (some (zwI 0)) (zset I_ 7 0 0 1) L_) := by
  refine zYm.of (Nat.le_of_ble_eq_true rfl) rfl ?_
  refine zY.go 3 rfl ?_
  refine zY.cr zm129 rfl rfl rfl rfl (Nat.le_of_ble_eq_true rfl) rfl (by decide) rfl (by decide) (by decide) ?_
  rw [hx]
  refine zY.bi rfl (fun hp => absurd (show (0 : Int32) = 0 from rfl) hp) (fun _ => ?_)
  refine zY.go 5 rfl ?_
  show zY _ _ _ _ _ [zwI (zset I_ 7 0 0 1 7 0 0)] _ _ _ _
  rw [zset_is]
  refine zY.bi rfl (fun hp => absurd hp zle1) (fun _ => ?_)
  refine zY.go 1 rfl ?_
  exact zY.ri rfl rfl ⟨rfl, rfl, rfl⟩
theorem zm172l {L_ : zLi} {v_ : Nat} {l : List Nat} {Q_ : zPost} (hv : v_ < 4) : ∀ (n_ k_ m_ : Nat) (I_ : zIn) (k4_ : Option zW), n_ + k_ = l.length → m_ ≤ k_ → zRo I_ v_ l → (∀ (x3 : Int32) k4_, zY none 10 172 92 [some (zwR 7 0), some (zwI (Int32.ofNat v_)), some (zwI (Int32.ofNat (m_ + (zpks (l.drop k_)).length))), some (zwI x3), k4_] [] (zlwI (l.drop k_) m_ I_) L_ 0 Q_) → zY none 10 172 43 [some (zwR 7 0), some (zwI (Int32.ofNat v_)), some (zwI (Int32.ofNat m_)), some (zwI (Int32.ofNat k_)), k4_] [] I_ L_ 0 Q_
  | 0, k_, m_, I_, k4_, h_, hm_, hro, hY => by
    have hl := hro.2.1
    rw [List.drop_of_length_le (by omega)] at hY
    refine zY.go 4 rfl ?_
    refine zY.ai rfl rfl hv ?_
    rw [hro.1]
    refine zY.bn rfl (by omega) (by omega) (fun _ => ?_) (fun hF => absurd (show l.length ≤ k_ by omega) hF)
    exact hY _ _
  | n_ + 1, k_, m_, I_, k4_, h_, hm_, hro, hY => by
    have hl := hro.2.1
    obtain ⟨s_, hs⟩ : ∃ s_, l[k_]? = some s_ := ⟨_, List.getElem?_eq_getElem (by omega)⟩
    obtain ⟨g1, g2⟩ := hro.2.2 k_ s_ hs
    obtain ⟨f1_, f2_⟩ := zs2d s_ (by omega)
    rw [zdrop_cons hs] at hY
    refine zY.go 4 rfl ?_
    refine zY.ai rfl rfl hv ?_
    rw [hro.1]
    refine zY.bn rfl (by omega) (by omega) (fun hT_ => absurd hT_ (show ¬ l.length ≤ k_ by omega)) (fun _ => ?_)
    refine zY.go 7 rfl ?_
    refine zY.ai rfl z16k (show 16 * v_ + k_ < 64 by omega) ?_
    rw [g1]
    refine zY.go 4 rfl ?_
    show zY _ _ _ _ _ [zwI (Int32.ofNat s_ - Int32.ofNat s_ / 2 * 2)] _ _ _ _
    rw [f2_]
    refine zY.bi rfl (fun hp => ?_) (fun hp => ?_)
    · have hs1 : ¬ s_ % 2 = 0 := fun e_ => hp (zpar_0.mpr e_)
      unfold zpks zlwI at hY
      rw [if_neg hs1, if_neg hs1] at hY
      refine zY.go 2 rfl ?_
      rw [zisucc]
      exact zm172l hv n_ (k_ + 1) m_ I_ _ (by omega) (by omega) hro hY
    · have hs0 : s_ % 2 = 0 := zpar_0.mp (Decidable.byContradiction hp)
      unfold zpks zlwI at hY
      rw [if_pos hs0, if_pos hs0] at hY
      refine zY.go 6 rfl ?_
      show zY _ _ _ _ _ [zwI (Int32.ofNat s_ / 2), zwI (Int32.ofNat m_), zwR 30 51] _ _ _ _
      rw [f1_]
      refine zY.si rfl rfl (show m_ < 16 by omega) ?_
      refine zY.go 3 rfl ?_
      rw [zisucc, zisucc]
      refine zm172l hv n_ (k_ + 1) (m_ + 1) _ _ (by omega) (by omega) ⟨(zset_ne (by simp)).trans hro.1, hro.2.1, fun k_ s_ hs => ⟨(zset_ne (by simp)).trans (hro.2.2 k_ s_ hs).1, (hro.2.2 k_ s_ hs).2⟩⟩ (fun k3_ k4_ => ?_)
      have := hY k3_ k4_
      rw [show m_ + 1 + (zpks (l.drop (k_ + 1))).length = m_ + (s_ / 2 :: zpks (l.drop (k_ + 1))).length by rw [List.length_cons]; omega]
      exact this
/-- P k x: k requests are looked at, x of them put -/
theorem zm172m {L_ : zLi} {v_ : Nat} {P_ : Nat → Int32 → zIn → Prop} (qs : List Nat) (hq : qs.length ≤ 16) (hL : ∀ k_ x_ I_, P_ k_ x_ I_ → ∀ j_ q_, qs[j_]? = some q_ → I_ 30 51 j_ = Int32.ofNat q_) (hS_ : ∀ k_ x_ I_ q_, qs[k_]? = some q_ → P_ k_ x_ I_ → zYm 9 173 [zwR 7 0, zwI (Int32.ofNat v_), zwI (Int32.ofNat q_)] I_ L_ 0 (fun r_ I' L' => ∃ b_ : Bool, r_ = .inl (some (zwI (if b_ = true then 1 else 0))) ∧ P_ (k_ + 1) (if b_ = true then x_ + 1 else x_) I' ∧ L' = L_)) : ∀ (n_ k_ : Nat) (x_ : Int32) (I_ : zIn), n_ + k_ = qs.length → P_ k_ x_ I_ → zY none 10 172 97 [some (zwR 7 0), some (zwI (Int32.ofNat v_)), some (zwI (Int32.ofNat qs.length)), some (zwI x_), some (zwI (Int32.ofNat k_))] [] I_ L_ 0 (fun r_ I' L' => ∃ x_, r_ = .inl (some (zwI x_)) ∧ P_ qs.length x_ I' ∧ L' = L_)
  | 0, k_, x_, I_, h_, hp => by
    have hk : k_ = qs.length := by omega
    subst hk
    refine zY.go 2 rfl ?_
    refine zY.bn rfl (by omega) (by omega) (fun _ => ?_) (fun hF => absurd (Nat.le_refl _) hF)
    refine zY.go 1 rfl ?_
    exact zY.ri rfl rfl ⟨x_, rfl, hp, rfl⟩
  | n_ + 1, k_, x_, I_, h_, hp => by
    obtain ⟨q_, hq2⟩ : ∃ q_, qs[k_]? = some q_ := ⟨_, List.getElem?_eq_getElem (by omega)⟩
    have ih_ := fun (x_ : Int32) (I_ : zIn) hp => zm172m (L_ := L_) (v_ := v_) qs hq hL hS_ n_ (k_ + 1) x_ I_ (by omega) hp
    simp only [← zisucc] at ih_
    refine zY.go 2 rfl ?_
    refine zY.bn rfl (by omega) (by omega) (fun hT_ => absurd hT_ (show ¬ qs.length ≤ k_ by omega)) (fun _ => ?_)
    refine zY.go 6 rfl ?_
    refine zY.ai rfl rfl (show k_ < 16 by omega) ?_
    rw [hL k_ x_ I_ hp k_ q_ hq2]
    refine zY.c (hS_ k_ x_ I_ q_ hq2 hp) rfl rfl rfl rfl (Nat.le_of_ble_eq_true rfl) rfl (by decide) rfl (by decide) (by decide) (fun r_ I' L' hr => ?_)
    obtain ⟨b_, r1_, r2, rfl⟩ := hr
    refine ⟨_, r1_, ?_⟩
    refine zY.we rfl (fun hb_ => ?_) (fun hb_ => ?_)
    · rw [if_neg (by rw [hb_]; simp)] at r2
      refine zY.go 5 rfl ?_
      have := ih_ x_ I' r2
      rw [show x_ + 0 = x_ from Int32.add_zero x_]
      exact this
    · rw [if_pos hb_] at r2
      refine zY.go 6 rfl ?_
      exact ih_ (x_ + 1) I' r2
theorem zm172b {I_ J_ : zIn} {L_ : zLi} {v_ : Nat} {l : List Nat} {P_ : Nat → Int32 → zIn → Prop} (hv : v_ < 4) (hx : zbt (Int32.ofNat v_) 0 (I_ 7 0 11 - 1) = true) (hJ : zset I_ 7 0 0 0 = J_) (hro : zRo J_ v_ l) (hlf : ¬ J_ 31 19 v_ = 0 → l ≠ []) (hL : ∀ k_ x_ I_, P_ k_ x_ I_ → ∀ j_ q_, (zpks (l.drop (zlkF J_ v_)))[j_]? = some q_ → I_ 30 51 j_ = Int32.ofNat q_) (hS_ : ∀ k_ x_ I_ q_, (zpks (l.drop (zlkF J_ v_)))[k_]? = some q_ → P_ k_ x_ I_ → zYm 9 173 [zwR 7 0, zwI (Int32.ofNat v_), zwI (Int32.ofNat q_)] I_ L_ 0 (fun r_ I' L' => ∃ b_ : Bool, r_ = .inl (some (zwI (if b_ = true then 1 else 0))) ∧ P_ (k_ + 1) (if b_ = true then x_ + 1 else x_) I' ∧ L' = L_)) (hp : P_ 0 0 (zlwI (l.drop (zlkF J_ v_)) 0 J_)) : zYm 10 172 [zwR 7 0, zwI (Int32.ofNat v_)] I_ L_ 0 (fun r_ I' L' => ∃ x_, r_ = .inl (some (zwI x_)) ∧ P_ (zpks (l.drop (zlkF J_ v_))).length x_ I' ∧ L' = L_) := by
  have hl := hro.2.1
  have hq : (zpks (l.drop (zlkF J_ v_))).length ≤ 16 := by
    have h1 := zpks_len (l.drop (zlkF J_ v_))
    rw [List.length_drop] at h1
    omega
  have T92 : ∀ (x3 : Int32) k4_, zY none 10 172 92 [some (zwR 7 0), some (zwI (Int32.ofNat v_)), some (zwI (Int32.ofNat (0 + (zpks (l.drop (zlkF J_ v_))).length))), some (zwI x3), k4_] [] (zlwI (l.drop (zlkF J_ v_)) 0 J_) L_ 0 (fun r_ I' L' => ∃ x_, r_ = .inl (some (zwI x_)) ∧ P_ (zpks (l.drop (zlkF J_ v_))).length x_ I' ∧ L' = L_) := by
    intro x3 k4_
    rw [Nat.zero_add]
    refine zY.go 4 rfl ?_
    exact zm172m _ hq hL hS_ (zpks (l.drop (zlkF J_ v_))).length 0 0 _ (by omega) hp
  refine zYm.of (Nat.le_of_ble_eq_true rfl) rfl ?_
  refine zY.go 3 rfl ?_
  refine zY.cr zm129 rfl rfl rfl rfl (Nat.le_of_ble_eq_true rfl) rfl (by decide) rfl (by decide) (by decide) ?_
  rw [hx]
  refine zY.bi rfl (fun _ => ?_) (fun hp => absurd (show ¬ (1 : Int32) = 0 by decide) hp)
  refine zY.go 4 rfl ?_
  show zY _ _ _ _ _ [zwI (zset I_ 7 0 0 0 7 0 0)] _ _ _ _
  rw [zset_is]
  refine zY.bi rfl (fun _ => ?_) (fun hp => absurd (show (0 : Int32) ≤ 0 by decide) hp)
  rw [hJ]
  refine zY.go 5 rfl ?_
  refine zY.ab rfl rfl hv ?_
  refine zY.bi rfl (fun hp2 => ?_) (fun hp2 => ?_)
  · have e_ : zlkF J_ v_ = 0 := if_pos (zbo_0.mp hp2)
    rw [e_] at T92 ⊢
    refine zY.go 2 rfl ?_
    exact zm172l hv l.length 0 0 J_ none (by omega) (by omega) hro T92
  · have hne : ¬ J_ 31 19 v_ = 0 := fun e_ => hp2 (zbo_0.mpr e_)
    have e_ : zlkF J_ v_ = 1 := if_neg hne
    have h1 : 1 ≤ l.length := by
      cases hh : l with
      | nil => exact absurd hh (hlf hne)
      | cons a_ b_ => rw [List.length_cons]; omega
    rw [e_] at T92 ⊢
    refine zY.go 3 rfl ?_
    exact zm172l hv (l.length - 1) 1 0 J_ none (by omega) (by omega) hro T92
