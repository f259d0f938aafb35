/-! CONTRACTS OF THE MODEL: pass, end, by an invariant of minutes -/
theorem zm164r {I_ : zIn} {L_ : zLi} {x_ t_ : Int32} (ht : t_ = 1 ∨ t_ = 2) : zY none 6 164 33 [some (zwR 7 0), some (zwI x_), none] [zwI t_, zwR 7 0] I_ L_ 0 (zRet (some (zwI 0)) (zset I_ 7 0 0 t_) L_) := by
  refine zY.go 3 rfl ?_
  show zY _ _ _ _ _ [zwI (zset I_ 7 0 0 t_ 7 0 0)] _ _ _ _
  rw [zset_is]
  refine zY.bi rfl (fun hp => ?_) (fun _ => ?_)
  · rcases ht with rfl | rfl
    · exact absurd hp zle1
    · exact absurd hp zle2
  · refine zY.go 1 rfl ?_
    exact zY.ri rfl rfl ⟨rfl, rfl, rfl⟩
theorem zm164a {I_ : zIn} {L_ : zLi} {x_ : Int32} (hx : zbt x_ 1 120 = false) : zYm 6 164 [zwR 7 0, zwI x_] I_ L_ 0 (zRet (some (zwI 0)) (zset I_ 7 0 0 1) L_) := by
  refine zYm.of (Nat.le_of_ble_eq_true rfl) rfl ?_
  refine zY.go 5 rfl ?_
  refine zY.cr zm123 rfl rfl rfl rfl (Nat.le_of_ble_eq_true rfl) rfl (by decide) rfl (by decide) (by decide) ?_
  rw [hx]
  refine zY.bi rfl (fun hp => absurd (show (0 : Int32) = 0 from rfl) hp) (fun _ => ?_)
  refine zY.go 2 rfl ?_
  exact zm164r (Or.inl rfl)
theorem zm164b {I_ : zIn} {L_ : zLi} {x_ : Int32} (hx : zbt x_ 1 120 = true) (h6 : ¬ I_ 7 0 2 + x_ ≤ 600) : zYm 6 164 [zwR 7 0, zwI x_] I_ L_ 0 (zRet (some (zwI 0)) (zset I_ 7 0 0 2) L_) := by
  refine zYm.of (Nat.le_of_ble_eq_true rfl) rfl ?_
  refine zY.go 5 rfl ?_
  refine zY.cr zm123 rfl rfl rfl rfl (Nat.le_of_ble_eq_true rfl) rfl (by decide) rfl (by decide) (by decide) ?_
  rw [hx]
  refine zY.bi rfl (fun _ => ?_) (fun hp => absurd (show ¬ (1 : Int32) = 0 by decide) hp)
  refine zY.go 5 rfl ?_
  refine zY.bc rfl (fun hp => absurd hp h6) (fun _ => ?_)
  refine zY.go 2 rfl ?_
  exact zm164r (Or.inr rfl)
/-- P k: k minutes have passed -/
theorem zm164l {P_ : Nat → zIn → Prop} {L_ : zLi} (K_ : Nat) (hK_ : K_ ≤ 1000) (hS_ : ∀ k_ I_, k_ < K_ → P_ k_ I_ → zYm 5 165 [zwR 7 0] I_ L_ 0 (fun r_ I' L' => r_ = .inl none ∧ P_ (k_ + 1) I' ∧ L' = L_)) : ∀ (n_ k_ : Nat) (I_ : zIn), n_ + k_ = K_ → P_ k_ I_ → zY none 6 164 47 [some (zwR 7 0), some (zwI (Int32.ofNat K_)), some (zwI (Int32.ofNat k_))] [] I_ L_ 0 (fun r_ I' L' => r_ = .inl (some (zwI (I' 7 0 2))) ∧ P_ K_ I' ∧ L' = L_)
  | 0, k_, I_, h_, hp => by
    have hk : k_ = K_ := by omega
    refine zY.go 2 rfl ?_
    refine zY.bn rfl (by omega) (by omega) (fun _ => ?_) (fun hF => absurd (show K_ ≤ k_ by omega) hF)
    refine zY.go 2 rfl ?_
    exact zY.ri rfl rfl ⟨rfl, hk ▸ hp, rfl⟩
  | n_ + 1, k_, I_, h_, hp => by
    have ih_ := fun (I_ : zIn) hp => zm164l K_ hK_ hS_ n_ (k_ + 1) I_ (by omega) hp
    simp only [← zisucc] at ih_
    refine zY.go 2 rfl ?_
    refine zY.bn rfl (by omega) (by omega) (fun hT_ => absurd hT_ (show ¬ K_ ≤ k_ by omega)) (fun _ => ?_)
    refine zY.go 1 rfl ?_
    refine zY.c (hS_ k_ I_ (by omega) hp) rfl rfl rfl rfl (Nat.le_of_ble_eq_true rfl) rfl (by decide) rfl (by decide) (by decide) (fun r_ I' L' hq => ⟨none, hq.1, ?_⟩)
    obtain ⟨_, h2, rfl⟩ := hq
    refine zY.go 2 rfl ?_
    exact ih_ I' h2
theorem zm164c {P_ : Nat → zIn → Prop} {I_ : zIn} {L_ : zLi} {K_ : Nat} (hx : zbt (Int32.ofNat K_) 1 120 = true) (hK_ : K_ ≤ 120) (h6 : I_ 7 0 2 + Int32.ofNat K_ ≤ 600) (hS_ : ∀ k_ I_, k_ < K_ → P_ k_ I_ → zYm 5 165 [zwR 7 0] I_ L_ 0 (fun r_ I' L' => r_ = .inl none ∧ P_ (k_ + 1) I' ∧ L' = L_)) (hp : P_ 0 (zset I_ 7 0 0 0)) : zYm 6 164 [zwR 7 0, zwI (Int32.ofNat K_)] I_ L_ 0 (fun r_ I' L' => r_ = .inl (some (zwI (I' 7 0 2))) ∧ P_ K_ I' ∧ L' = L_) := by
  refine zYm.of (Nat.le_of_ble_eq_true rfl) rfl ?_
  refine zY.go 5 rfl ?_
  refine zY.cr zm123 rfl rfl rfl rfl (Nat.le_of_ble_eq_true rfl) rfl (by decide) rfl (by decide) (by decide) ?_
  rw [hx]
  refine zY.bi rfl (fun _ => ?_) (fun hp => absurd (show ¬ (1 : Int32) = 0 by decide) hp)
  refine zY.go 5 rfl ?_
  refine zY.bc rfl (fun _ => ?_) (fun hp => absurd h6 hp)
  refine zY.go 4 rfl ?_
  show zY _ _ _ _ _ [zwI (zset I_ 7 0 0 0 7 0 0)] _ _ _ _
  rw [zset_is]
  refine zY.bi rfl (fun _ => ?_) (fun hp => absurd (show (0 : Int32) ≤ 0 by decide) hp)
  refine zY.go 2 rfl ?_
  exact zm164l K_ (by omega) hS_ K_ 0 _ (by omega) hp
theorem zm170a {I_ : zIn} {L_ : zLi} (h_ : I_ 7 0 1 = 400) : zYm 6 170 [zwR 7 0] I_ L_ 0 (zRet (some (zwI 0)) (zset I_ 7 0 0 1) L_) := by
  refine zYm.of (Nat.le_of_ble_eq_true rfl) rfl ?_
  refine zY.go 4 rfl ?_
  refine zY.bc rfl (fun hp => absurd h_ hp) (fun _ => ?_)
  refine zY.go 5 rfl ?_
  show zY _ _ _ _ _ [zwI (zset I_ 7 0 0 1 7 0 0)] _ _ _ _
  rw [zset_is]
  refine zY.bi rfl (fun hp => absurd hp zle1) (fun _ => ?_)
  refine zY.go 1 rfl ?_
  exact zY.ri rfl rfl ⟨rfl, rfl, rfl⟩
def zevV (v_ : Nat) (I_ : zIn) : zIn := zset (zset (zset (zset (zset (zset (zset I_ 30 17 v_ (I_ 30 12 v_)) 30 18 v_ 0) 31 19 v_ 0) 31 22 v_ 0) 30 23 v_ 0) 30 25 v_ 0) 30 27 v_ 0
def zevL : Nat → Nat → zIn → zIn
  | 0, _, I_ => I_
  | n_ + 1, v_, I_ => zevL n_ (v_ + 1) (zevV v_ I_)
def zevE (I_ : zIn) : zIn := zset (zset I_ 7 0 1 (I_ 7 0 1 + 1)) 7 0 2 0
theorem zm170v {L_ : zLi} {N_ : Nat} (hN_ : N_ ≤ 4) (x_ : Int32) : ∀ (n_ v_ : Nat) (I_ : zIn), n_ + v_ = N_ → I_ 7 0 11 = Int32.ofNat N_ → zY none 6 170 94 [some (zwR 7 0), some (zwI x_), some (zwI (Int32.ofNat v_))] [] I_ L_ 0 (zRet (some (zwI x_)) (zevE (zevL n_ v_ I_)) L_)
  | 0, v_, I_, h_, h11 => by
    refine zY.go 3 rfl ?_
    show zY _ _ _ _ _ [zwI (I_ 7 0 11), zwI (Int32.ofNat v_)] _ _ _ _
    rw [h11]
    refine zY.bn rfl (by omega) (by omega) (fun _ => ?_) (fun hF => absurd (show N_ ≤ v_ by omega) hF)
    refine zY.go 10 rfl ?_
    exact zY.ri rfl rfl ⟨rfl, rfl, rfl⟩
  | n_ + 1, v_, I_, h_, h11 => by
    have ih_ := fun (I_ : zIn) h11 => zm170v (L_ := L_) hN_ x_ n_ (v_ + 1) I_ (by omega) h11
    simp only [← zisucc] at ih_
    have hv4 : v_ < 4 := by omega
    have h11' : zevV v_ I_ 7 0 11 = Int32.ofNat N_ := by rw [← h11]; simp [zevV, zset]
    refine zY.go 3 rfl ?_
    show zY _ _ _ _ _ [zwI (I_ 7 0 11), zwI (Int32.ofNat v_)] _ _ _ _
    rw [h11]
    refine zY.bn rfl (by omega) (by omega) (fun hT_ => absurd hT_ (show ¬ N_ ≤ v_ by omega)) (fun _ => ?_)
    refine zY.go 6 rfl ?_
    refine zY.ai rfl rfl hv4 ?_
    refine zY.si rfl rfl hv4 ?_
    refine zY.go 4 rfl ?_
    refine zY.si rfl rfl hv4 ?_
    refine zY.go 4 rfl ?_
    refine zY.sb rfl rfl hv4 (Or.inl rfl) ?_
    refine zY.go 4 rfl ?_
    refine zY.sb rfl rfl hv4 (Or.inl rfl) ?_
    refine zY.go 4 rfl ?_
    refine zY.si rfl rfl hv4 ?_
    refine zY.go 4 rfl ?_
    refine zY.si rfl rfl hv4 ?_
    refine zY.go 4 rfl ?_
    refine zY.si rfl rfl hv4 ?_
    change zY _ _ _ _ _ _ (zevV v_ I_) _ _ _
    refine zY.go 2 rfl ?_
    exact ih_ _ h11'
def zefL : Nat → Nat → Int32 → zIn → Int32 × zIn
  | 0, _, x_, I_ => (x_, I_)
  | n_ + 1, k_, x_, I_ => if I_ 30 32 k_ = 0 ∨ I_ 30 32 k_ = 1 then zefL n_ (k_ + 1) (x_ + 1) (zset I_ 30 32 k_ 5) else zefL n_ (k_ + 1) x_ I_
theorem zefL_ne {c_ i_ f_ : Nat} (h_ : ¬ (c_ = 30 ∧ i_ = 32)) : ∀ (n_ k_ : Nat) (x_ : Int32) (I_ : zIn), (zefL n_ k_ x_ I_).2 c_ i_ f_ = I_ c_ i_ f_
  | 0, _, _, _ => rfl
  | n_ + 1, k_, x_, I_ => by
    unfold zefL
    split
    · rw [zefL_ne h_ n_ (k_ + 1) (x_ + 1) (zset I_ 30 32 k_ 5)]
      exact zset_ne (fun e_ => h_ ⟨e_.1, e_.2.1⟩)
    · exact zefL_ne h_ n_ (k_ + 1) x_ I_
def zefA (N_ m_ : Nat) (I_ : zIn) : zIn := zevE (zevL N_ 0 (zefL m_ 0 0 I_).2)
theorem zm170f {L_ : zLi} {N_ M_ : Nat} (hN_ : N_ ≤ 4) (hM_ : M_ ≤ 60) : ∀ (n_ k_ : Nat) (x_ : Int32) (I_ : zIn), n_ + k_ = M_ → I_ 7 0 28 = Int32.ofNat M_ → I_ 7 0 11 = Int32.ofNat N_ → zY none 6 170 49 [some (zwR 7 0), some (zwI x_), some (zwI (Int32.ofNat k_))] [] I_ L_ 0 (zRet (some (zwI (zefL n_ k_ x_ I_).1)) (zevE (zevL N_ 0 (zefL n_ k_ x_ I_).2)) L_)
  | 0, k_, x_, I_, h_, h28, h11 => by
    refine zY.go 3 rfl ?_
    show zY _ _ _ _ _ [zwI (I_ 7 0 28), zwI (Int32.ofNat k_)] _ _ _ _
    rw [h28]
    refine zY.bn rfl (by omega) (by omega) (fun _ => ?_) (fun hF => absurd (show M_ ≤ k_ by omega) hF)
    refine zY.go 2 rfl ?_
    exact zm170v hN_ x_ N_ 0 I_ (by omega) h11
  | n_ + 1, k_, x_, I_, h_, h28, h11 => by
    have ih_ := fun (x_ : Int32) (I_ : zIn) h28 h11 => zm170f (L_ := L_) hN_ hM_ n_ (k_ + 1) x_ I_ (by omega) h28 h11
    simp only [← zisucc] at ih_
    have hk : k_ < 60 := by omega
    have T86 : ∀ (x_ : Int32) (J_ : zIn), J_ 7 0 28 = Int32.ofNat M_ → J_ 7 0 11 = Int32.ofNat N_ → zY none 6 170 86 [some (zwR 7 0), some (zwI x_), some (zwI (Int32.ofNat k_))] [] J_ L_ 0 (zRet (some (zwI (zefL n_ (k_ + 1) x_ J_).1)) (zevE (zevL N_ 0 (zefL n_ (k_ + 1) x_ J_).2)) L_) := by
      intro x_ J_ a_ b_
      refine zY.go 2 rfl ?_
      exact ih_ x_ J_ a_ b_
    have T76 : (I_ 30 32 k_ = 0 ∨ I_ 30 32 k_ = 1) → zY none 6 170 76 [some (zwR 7 0), some (zwI x_), some (zwI (Int32.ofNat k_))] [] I_ L_ 0 (zRet (some (zwI (zefL (n_ + 1) k_ x_ I_).1)) (zevE (zevL N_ 0 (zefL (n_ + 1) k_ x_ I_).2)) L_) := by
      intro hc_
      unfold zefL
      rw [if_pos hc_]
      refine zY.go 4 rfl ?_
      refine zY.si rfl rfl hk ?_
      refine zY.go 1 rfl ?_
      exact T86 _ _ ((zset_ne (by simp)).trans h28) ((zset_ne (by simp)).trans h11)
    refine zY.go 3 rfl ?_
    show zY _ _ _ _ _ [zwI (I_ 7 0 28), zwI (Int32.ofNat k_)] _ _ _ _
    rw [h28]
    refine zY.bn rfl (by omega) (by omega) (fun hT_ => absurd hT_ (show ¬ M_ ≤ k_ by omega)) (fun _ => ?_)
    refine zY.go 3 rfl ?_
    refine zY.ai rfl rfl hk ?_
    refine zY.bi rfl (fun hp => T76 (Or.inl hp)) (fun hp => ?_)
    refine zY.go 3 rfl ?_
    refine zY.ai rfl rfl hk ?_
    refine zY.go 1 rfl ?_
    refine zY.bc rfl (fun hp2 => ?_) (fun hp2 => ?_)
    · have hc_ : ¬ (I_ 30 32 k_ = 0 ∨ I_ 30 32 k_ = 1) := fun e_ => e_.elim hp hp2
      unfold zefL
      rw [if_neg hc_]
      exact T86 x_ I_ h28 h11
    · exact T76 (Or.inr (Decidable.byContradiction hp2))
/-- P k: k minutes have passed -/
theorem zm170l {P_ : Nat → zIn → Prop} {L_ : zLi} {N_ M_ T K_ : Nat} (hN_ : N_ ≤ 4) (hM_ : M_ ≤ 60) (hT_ : T + K_ = 600) (hI : ∀ k_ I_, P_ k_ I_ → I_ 7 0 2 = Int32.ofNat (T + k_) ∧ I_ 7 0 28 = Int32.ofNat M_ ∧ I_ 7 0 11 = Int32.ofNat N_) (hS_ : ∀ k_ I_, k_ < K_ → P_ k_ I_ → zYm 5 165 [zwR 7 0] I_ L_ 0 (fun r_ I' L' => r_ = .inl none ∧ P_ (k_ + 1) I' ∧ L' = L_)) : ∀ (n_ k_ : Nat) (I_ : zIn), n_ + k_ = K_ → P_ k_ I_ → zY none 6 170 28 [some (zwR 7 0), none, none] [] I_ L_ 0 (fun r_ I' L' => ∃ J_, P_ K_ J_ ∧ r_ = .inl (some (zwI (zefL M_ 0 0 J_).1)) ∧ I' = zefA N_ M_ J_ ∧ L' = L_)
  | 0, k_, I_, h_, hp => by
    have hk : k_ = K_ := by omega
    subst hk
    obtain ⟨a_, b_, c_⟩ := hI k_ I_ hp
    refine zY.go 3 rfl ?_
    show zY _ _ _ _ _ [zwI (Int32.ofNat 600), zwI (I_ 7 0 2)] _ _ _ _
    rw [a_]
    refine zY.bn rfl (by omega) (by omega) (fun _ => ?_) (fun hF => absurd (show 600 ≤ T + k_ by omega) hF)
    refine zY.go 4 rfl ?_
    refine zY.mono (zm170f hN_ hM_ M_ 0 0 I_ (by omega) b_ c_) (Nat.le_refl _) (fun r_ I' L' hq => ⟨I_, hp, hq.1, hq.2.1, hq.2.2⟩)
  | n_ + 1, k_, I_, h_, hp => by
    have ih_ := fun (I_ : zIn) hp => zm170l hN_ hM_ hT_ hI hS_ n_ (k_ + 1) I_ (by omega) hp
    obtain ⟨a_, b_, c_⟩ := hI k_ I_ hp
    refine zY.go 3 rfl ?_
    show zY _ _ _ _ _ [zwI (Int32.ofNat 600), zwI (I_ 7 0 2)] _ _ _ _
    rw [a_]
    refine zY.bn rfl (by omega) (by omega) (fun hT2 => absurd hT2 (show ¬ 600 ≤ T + k_ by omega)) (fun _ => ?_)
    refine zY.go 1 rfl ?_
    refine zY.c (hS_ k_ I_ (by omega) hp) rfl rfl rfl rfl (Nat.le_of_ble_eq_true rfl) rfl (by decide) rfl (by decide) (by decide) (fun r_ I' L' hq => ⟨none, hq.1, ?_⟩)
    obtain ⟨_, h2, rfl⟩ := hq
    refine zY.go 1 rfl ?_
    exact ih_ I' h2
theorem zm170b {P_ : Nat → zIn → Prop} {I_ : zIn} {L_ : zLi} {N_ M_ T K_ : Nat} (h4 : ¬ I_ 7 0 1 = 400) (hN_ : N_ ≤ 4) (hM_ : M_ ≤ 60) (hT_ : T + K_ = 600) (hI : ∀ k_ I_, P_ k_ I_ → I_ 7 0 2 = Int32.ofNat (T + k_) ∧ I_ 7 0 28 = Int32.ofNat M_ ∧ I_ 7 0 11 = Int32.ofNat N_) (hS_ : ∀ k_ I_, k_ < K_ → P_ k_ I_ → zYm 5 165 [zwR 7 0] I_ L_ 0 (fun r_ I' L' => r_ = .inl none ∧ P_ (k_ + 1) I' ∧ L' = L_)) (hp : P_ 0 (zset I_ 7 0 0 0)) : zYm 6 170 [zwR 7 0] I_ L_ 0 (fun r_ I' L' => ∃ J_, P_ K_ J_ ∧ r_ = .inl (some (zwI (zefL M_ 0 0 J_).1)) ∧ I' = zefA N_ M_ J_ ∧ L' = L_) := by
  refine zYm.of (Nat.le_of_ble_eq_true rfl) rfl ?_
  refine zY.go 4 rfl ?_
  refine zY.bc rfl (fun _ => ?_) (fun hp => absurd (Decidable.byContradiction hp) h4)
  refine zY.go 4 rfl ?_
  show zY _ _ _ _ _ [zwI (zset I_ 7 0 0 0 7 0 0)] _ _ _ _
  rw [zset_is]
  refine zY.bi rfl (fun _ => ?_) (fun hp => absurd (show (0 : Int32) ≤ 0 by decide) hp)
  exact zm170l hN_ hM_ hT_ hI hS_ K_ 0 _ (by omega) hp
