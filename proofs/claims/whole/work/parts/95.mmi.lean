/-! CONTRACTS OF THE MODEL: minute, by an invariant -/
def zmiD (I_ : zIn) (v_ s_ : Nat) (l : List Nat) (m_ d_ : Nat) : Prop := zMq I_ (s_ / 2) ∧ I_ 30 25 v_ = Int32.ofNat m_ ∧ (s_ % 2 = 0 → zpkC I_ v_ (s_ / 2) = false → zmkd I_ (s_ / 2) = 2 → m_ < 3) ∧ (s_ % 2 = 0 → I_ 30 35 (s_ / 2) = Int32.ofNat v_) ∧ zRo I_ v_ (s_ :: l) ∧ (s_ % 2 = 0 → zlx (2 * (s_ / 2) + 1) (ztoL l (s_ / 2)) 0 none = some d_)
def zmiA (I_ : zIn) (v_ s_ : Nat) (l : List Nat) (m_ d_ : Nat) : zIn := if s_ % 2 = 1 ∧ zmkd I_ (s_ / 2) = 2 ∧ I_ 31 16 v_ = 0 ∧ I_ 31 22 v_ = 0 then zset (zset I_ 31 22 v_ 1) 30 21 v_ (zset I_ 31 22 v_ 1 30 21 v_ + 30) else zdnM I_ v_ s_ l m_ d_
def zmi1 (v_ : Nat) (I_ : zIn) (G_ : zIn → Prop) : Prop := (¬ I_ 31 19 v_ = 0 → I_ 30 21 v_ = I_ 7 0 2 → ∃ s_ l m_ d_, zmiD I_ v_ s_ l m_ d_ ∧ G_ (zmiA I_ v_ s_ l m_ d_)) ∧ (¬ (¬ I_ 31 19 v_ = 0 ∧ I_ 30 21 v_ = I_ 7 0 2) → G_ I_)
def zmi2 (v_ : Nat) (J_ : zIn) (G_ : zIn → Prop) : Prop := (J_ 31 19 v_ = 0 → J_ 30 18 v_ ≤ J_ 7 0 2 → ∃ l, zRo J_ v_ l ∧ (∀ s_ r_, l = s_ :: r_ → zMq J_ (s_ / 2) ∧ G_ (zlvM J_ v_ s_)) ∧ (l = [] → G_ J_)) ∧ (¬ (J_ 31 19 v_ = 0 ∧ J_ 30 18 v_ ≤ J_ 7 0 2) → G_ J_)
def zmiW (v_ : Nat) (I_ : zIn) (G_ : zIn → Prop) : Prop := zmi1 v_ I_ (fun J_ => zmi2 v_ J_ G_)
theorem znp0 {n_ : Nat} (hn : n_ < 1000) : ¬ Int32.ofNat (n_ + 1) ≤ 0 := by
  have h_ := zile (a := n_ + 1) (b := 0) (by omega) (by omega)
  exact fun e_ => absurd (h_.mp e_) (by omega)
theorem zm165l {N_ : Nat} {P_ : Nat → zIn → Prop} (hN_ : N_ ≤ 4) (h11 : ∀ v_ I_, v_ ≤ N_ → P_ v_ I_ → I_ 7 0 11 = Int32.ofNat N_) (hS_ : ∀ v_ I_, v_ < N_ → P_ v_ I_ → zmiW v_ I_ (P_ (v_ + 1))) (L_ : zLi) : ∀ (n_ v_ : Nat) (I_ : zIn) (k2_ : Option zW), n_ + v_ = N_ → P_ v_ I_ → zY none 5 165 12 [some (zwR 7 0), some (zwI (Int32.ofNat v_)), k2_] [] I_ L_ 0 (fun r_ I' L' => r_ = .inl none ∧ P_ N_ I' ∧ L' = L_)
  | 0, v_, I_, k2_, h_, hp => by
    have hv : v_ = N_ := by omega
    refine zY.go 3 rfl ?_
    show zY _ _ _ _ _ [zwI (I_ 7 0 11), zwI (Int32.ofNat v_)] _ _ _ _
    rw [h11 v_ I_ (by omega) hp]
    refine zY.bn rfl (by omega) (by omega) (fun _ => ?_) (fun hF => absurd (show N_ ≤ v_ by omega) hF)
    exact zY.rv rfl rfl ⟨rfl, hv ▸ hp, rfl⟩
  | n_ + 1, v_, I_, k2_, h_, hp => by
    have ih_ := fun (I_ : zIn) (k2_ : Option zW) hp => zm165l hN_ h11 hS_ L_ n_ (v_ + 1) I_ k2_ (by omega) hp
    simp only [← zisucc] at ih_
    have hv4 : v_ < 4 := by omega
    have h64 : 16 * v_ < zas30 26 := by show 16 * v_ < 64; omega
    have hW := hS_ v_ I_ (by omega) hp
    have T150 : ∀ (J_ : zIn) (k2_ : Option zW), P_ (v_ + 1) J_ → zY none 5 165 150 [some (zwR 7 0), some (zwI (Int32.ofNat v_)), k2_] [] J_ L_ 0 (fun r_ I' L' => r_ = .inl none ∧ P_ N_ I' ∧ L' = L_) := by
      intro J_ k2_ hp2
      refine zY.go 2 rfl ?_
      exact ih_ J_ k2_ hp2
    have T114 : ∀ (J_ : zIn) (k2_ : Option zW), zmi2 v_ J_ (P_ (v_ + 1)) → zY none 5 165 114 [some (zwR 7 0), some (zwI (Int32.ofNat v_)), k2_] [] J_ L_ 0 (fun r_ I' L' => r_ = .inl none ∧ P_ N_ I' ∧ L' = L_) := by
      intro J_ k2_ hJ
      obtain ⟨w1_, w2_⟩ := hJ
      refine zY.go 3 rfl ?_
      refine zY.ab rfl rfl hv4 ?_
      refine zY.bi rfl (fun hp2 => T150 J_ k2_ (w2_ (fun e_ => hp2 (zbo_0.mpr e_.1)))) (fun hp2 => ?_)
      have e0_ : J_ 31 19 v_ = 0 := zbo_0.mp (Decidable.byContradiction hp2)
      refine zY.go 3 rfl ?_
      refine zY.ai rfl rfl hv4 ?_
      refine zY.go 2 rfl ?_
      refine zY.bc rfl (fun hp3 => T150 J_ k2_ (w2_ (fun e_ => Int32.not_le.mpr hp3 e_.2))) (fun hp3 => ?_)
      obtain ⟨l, hro, h1, h2⟩ := w1_ e0_ (Int32.not_lt.mp hp3)
      refine zY.go 3 rfl ?_
      refine zY.ai rfl rfl hv4 ?_
      rw [hro.1]
      cases l with
      | nil => exact zY.bi rfl (fun _ => T150 J_ k2_ (h2 rfl)) (fun hp4 => absurd (show (0 : Int32) ≤ 0 by decide) hp4)
      | cons s_ r_ =>
        obtain ⟨hm_, hG⟩ := h1 s_ r_ rfl
        have hl := hro.2.1
        refine zY.bi rfl (fun hp4 => absurd hp4 (znp0 (n_ := r_.length) (by simp at hl; omega))) (fun _ => ?_)
        refine zY.go 2 rfl ?_
        refine zY.cr (zm169 hv4 hro hm_) rfl rfl rfl rfl (Nat.le_of_ble_eq_true rfl) rfl (by decide) rfl (by decide) (by decide) ?_
        exact T150 _ k2_ hG
    refine zY.go 3 rfl ?_
    show zY _ _ _ _ _ [zwI (I_ 7 0 11), zwI (Int32.ofNat v_)] _ _ _ _
    rw [h11 v_ I_ (by omega) hp]
    refine zY.bn rfl (by omega) (by omega) (fun hT_ => absurd hT_ (show ¬ N_ ≤ v_ by omega)) (fun _ => ?_)
    refine zY.go 3 rfl ?_
    refine zY.ab rfl rfl hv4 ?_
    refine zY.bi rfl (fun hp2 => T114 I_ k2_ (hW.2 (fun e_ => e_.1 (zbo_0.mp hp2)))) (fun hp2 => ?_)
    have e1_ : ¬ I_ 31 19 v_ = 0 := fun e_ => hp2 (zbo_0.mpr e_)
    refine zY.go 3 rfl ?_
    refine zY.ai rfl rfl hv4 ?_
    refine zY.go 2 rfl ?_
    refine zY.bc rfl (fun hp3 => T114 I_ k2_ (hW.2 (fun e_ => hp3 e_.2))) (fun hp3 => ?_)
    have e2_ : I_ 30 21 v_ = I_ 7 0 2 := Decidable.byContradiction hp3
    obtain ⟨s_, l, m_, d_, hD, hG⟩ := hW.1 e1_ e2_
    obtain ⟨hmq, hm_, hm3, hrv, hro, hd_⟩ := hD
    obtain ⟨g1, g2⟩ := hro.2.2 0 s_ rfl
    obtain ⟨f1_, f2_⟩ := zs2d s_ (by omega)
    have T109 : ¬ (s_ % 2 = 1 ∧ zmkd I_ (s_ / 2) = 2 ∧ I_ 31 16 v_ = 0 ∧ I_ 31 22 v_ = 0) → zY none 5 165 109 [some (zwR 7 0), some (zwI (Int32.ofNat v_)), some (zwI (Int32.ofNat s_))] [] I_ L_ 0 (fun r_ I' L' => r_ = .inl none ∧ P_ N_ I' ∧ L' = L_) := by
      intro hc_
      have e_ : zmiA I_ v_ s_ l m_ d_ = zdnM I_ v_ s_ l m_ d_ := if_neg hc_
      rw [e_] at hG
      refine zY.go 2 rfl ?_
      refine zY.cr (zm166 hv4 hmq hm_ hm3 hrv hro hd_) rfl rfl rfl rfl (Nat.le_of_ble_eq_true rfl) rfl (by decide) rfl (by decide) (by decide) ?_
      exact T114 _ _ hG
    refine zY.go 5 rfl ?_
    refine zY.ai rfl z16v h64 ?_
    rw [show I_ 30 26 (16 * v_) = Int32.ofNat s_ from g1]
    refine zY.go 5 rfl ?_
    show zY _ _ _ _ _ [zwI (Int32.ofNat 1), zwI (Int32.ofNat s_ - Int32.ofNat s_ / 2 * 2)] _ _ _ _
    rw [f2_]
    refine zY.bn rfl (by omega) (by omega) (fun hp4 => T109 (fun e_ => hp4 e_.1)) (fun hp4 => ?_)
    have hs1 : s_ % 2 = 1 := Decidable.byContradiction hp4
    refine zY.go 4 rfl ?_
    show zY _ _ _ _ _ [zwI (Int32.ofNat s_ / 2), zwR 7 0] _ _ _ _
    rw [f1_]
    refine zY.cr (zm142 hmq) rfl rfl rfl rfl (Nat.le_of_ble_eq_true rfl) rfl (by decide) rfl (by decide) (by decide) ?_
    refine zY.go 1 rfl ?_
    refine zY.bc rfl (fun hp5 => T109 (fun e_ => hp5 e_.2.1)) (fun hp5 => ?_)
    refine zY.go 3 rfl ?_
    refine zY.ab rfl rfl hv4 ?_
    refine zY.bi rfl (fun hp6 => T109 (fun e_ => hp6 (zbo_0.mpr e_.2.2.1))) (fun hp6 => ?_)
    refine zY.go 3 rfl ?_
    refine zY.ab rfl rfl hv4 ?_
    refine zY.bi rfl (fun hp7 => T109 (fun e_ => hp7 (zbo_0.mpr e_.2.2.2))) (fun hp7 => ?_)
    have hc_ : s_ % 2 = 1 ∧ zmkd I_ (s_ / 2) = 2 ∧ I_ 31 16 v_ = 0 ∧ I_ 31 22 v_ = 0 := ⟨hs1, Decidable.byContradiction hp5, zbo_0.mp (Decidable.byContradiction hp6), zbo_0.mp (Decidable.byContradiction hp7)⟩
    have e_ : zmiA I_ v_ s_ l m_ d_ = zset (zset I_ 31 22 v_ 1) 30 21 v_ (zset I_ 31 22 v_ 1 30 21 v_ + 30) := if_pos hc_
    rw [e_] at hG
    refine zY.go 4 rfl ?_
    refine zY.sb rfl rfl hv4 (Or.inr rfl) ?_
    refine zY.go 4 rfl ?_
    refine zY.ai rfl rfl hv4 ?_
    refine zY.go 2 rfl ?_
    refine zY.si rfl rfl hv4 ?_
    refine zY.go 1 rfl ?_
    exact T114 _ _ hG
theorem zm165 {N_ : Nat} {P_ : Nat → zIn → Prop} {I_ : zIn} {L_ : zLi} (hN_ : N_ ≤ 4) (h11 : ∀ v_ I_, v_ ≤ N_ → P_ v_ I_ → I_ 7 0 11 = Int32.ofNat N_) (hS_ : ∀ v_ I_, v_ < N_ → P_ v_ I_ → zmiW v_ I_ (P_ (v_ + 1))) (hp : P_ 0 (zset I_ 7 0 2 (I_ 7 0 2 + 1))) : zYm 5 165 [zwR 7 0] I_ L_ 0 (fun r_ I' L' => r_ = .inl none ∧ P_ N_ I' ∧ L' = L_) := by
  refine zYm.of (Nat.le_of_ble_eq_true rfl) rfl ?_
  refine zY.go 8 rfl ?_
  exact zm165l hN_ h11 hS_ L_ N_ 0 _ none (by omega) hp
