/-! CONTRACTS OF THE MODEL: leastDrive -/
def zfq (K_ J_ : zIn) : Prop := ∀ c_ i_ f_, ¬ (c_ = 30 ∧ (43 ≤ i_ ∧ i_ ≤ 46 ∨ i_ = 51)) → ¬ (c_ = 7 ∧ i_ = 0 ∧ f_ = 42) → K_ c_ i_ f_ = J_ c_ i_ f_
theorem zfq.rfl {I_ : zIn} : zfq I_ I_ := fun _ _ _ _ _ => Eq.refl _
theorem zfq.trans {K_ J_ I_ : zIn} (h1 : zfq K_ J_) (h2 : zfq J_ I_) : zfq K_ I_ := fun c_ i_ f_ a_ b_ => (h1 c_ i_ f_ a_ b_).trans (h2 c_ i_ f_ a_ b_)
theorem zfd.fq {K_ J_ : zIn} (h_ : zfd K_ J_) : zfq K_ J_ := fun c_ i_ f_ a_ b_ => h_ c_ i_ f_ (fun e_ => a_ ⟨e_.1, by omega⟩) b_
theorem zfx.fq {K_ J_ : zIn} (h_ : zfx K_ J_) : zfq K_ J_ := fun c_ i_ f_ a_ _ => h_ c_ i_ f_ (fun e_ => a_ ⟨e_.1, by omega⟩)
theorem zfq.ro {K_ J_ : zIn} {v_ : Nat} {l : List Nat} (h_ : zfq K_ J_) (hl : zRo J_ v_ l) : zRo K_ v_ l := ⟨(h_ 30 27 v_ (by simp) (by simp)).trans hl.1, hl.2.1, fun k_ s_ hs => ⟨(h_ 30 26 _ (by simp) (by simp)).trans (hl.2.2 k_ s_ hs).1, (hl.2.2 k_ s_ hs).2⟩⟩
theorem zfq.mq {K_ J_ : zIn} {q_ : Nat} (h_ : zfq K_ J_) (hq : zMq J_ q_) : zMq K_ q_ := by
  unfold zMq at hq ⊢
  rw [h_ 30 29 q_ (by simp) (by simp)]; exact hq
def zfac : Nat → Nat
  | 0 => 1
  | n_ + 1 => (n_ + 1) * zfac n_
theorem zfac_le : ∀ n_, n_ ≤ 6 → zfac n_ ≤ 720 := by decide
def zldP (J_ : zIn) (v_ : Nat) (l : List Nat) (F_ : List Nat → Bool) (c_ : Nat) (y_ : Int32) : Int32 := if zorB J_ v_ l c_ = true ∧ F_ (zord l.length c_ l) = true then (if y_ = -1 ∨ zdm J_ (zord l.length c_ l) (J_ 30 17 v_) (J_ 30 12 v_) < y_ then zdm J_ (zord l.length c_ l) (J_ 30 17 v_) (J_ 30 12 v_) else y_) else y_
def zldQ (J_ : zIn) (v_ : Nat) (l : List Nat) (F_ : List Nat → Bool) : Nat → Nat → Int32 → Int32
  | 0, _, y_ => y_
  | n_ + 1, c_, y_ => zldQ J_ v_ l F_ n_ (c_ + 1) (zldP J_ v_ l F_ c_ y_)
theorem zmpl_fq {K_ J_ : zIn} (h_ : zfq K_ J_) (s_ : Nat) : zmpl K_ s_ = zmpl J_ s_ := by
  unfold zmpl
  rw [h_ 30 30 _ (by simp) (by simp), h_ 30 31 _ (by simp) (by simp)]
theorem zkm_fq {K_ J_ : zIn} (h_ : zfq K_ J_) : ∀ (l : List Nat) (p_ w_ : Int32), zkm K_ l p_ w_ = zkm J_ l p_ w_
  | [], _, _ => rfl
  | s_ :: r_, p_, w_ => by
    unfold zkm
    rw [zmpl_fq h_, zkm_fq h_ r_]
theorem zdm_fq {K_ J_ : zIn} (h_ : zfq K_ J_) (l : List Nat) (v_ : Nat) : zdm K_ l (K_ 30 17 v_) (K_ 30 12 v_) = zdm J_ l (J_ 30 17 v_) (J_ 30 12 v_) := by
  unfold zdm
  rw [zkm_fq h_, h_ 30 17 v_ (by simp) (by simp), h_ 30 12 v_ (by simp) (by simp)]
theorem zorB_fq {K_ J_ : zIn} (h_ : zfq K_ J_) (v_ : Nat) (l : List Nat) (c_ : Nat) : zorB K_ v_ l c_ = zorB J_ v_ l c_ := by
  unfold zorB
  rw [h_ 31 19 v_ (by simp) (by simp)]
theorem zm185a {I_ : zIn} {L_ : zLi} {x_ : Int32} (hx : zbt x_ 0 (I_ 7 0 11 - 1) = false) : zYm 7 185 [zwR 7 0, zwI x_] I_ L_ 0 (zRet (some (zwI 0)) (zset I_ 7 0 0 1) L_) := by
  refine zYm.of (Nat.le_of_ble_eq_true rfl) rfl ?_
  refine zY.go 3 rfl ?_
  refine zY.cr zm129 rfl rfl rfl rfl (Nat.le_of_ble_eq_true rfl) rfl (by decide) rfl (by decide) (by decide) ?_
  rw [hx]
  refine zY.bi rfl (fun hp => absurd (show (0 : Int32) = 0 from rfl) hp) (fun _ => ?_)
  refine zY.go 5 rfl ?_
  show zY _ _ _ _ _ [zwI (zset I_ 7 0 0 1 7 0 0)] _ _ _ _
  rw [zset_is]
  refine zY.bi rfl (fun _ => ?_) (fun hp => absurd (show (0 : Int32) < 1 by decide) hp)
  refine zY.go 2 rfl ?_
  show zY _ _ _ _ _ [zwI (zset I_ 7 0 0 1 7 0 0)] _ _ _ _
  rw [zset_is]
  refine zY.bi rfl (fun hp => absurd hp zle1) (fun _ => ?_)
  refine zY.go 2 rfl ?_
  exact zY.ri rfl rfl ⟨rfl, rfl, rfl⟩
theorem zm185b {I_ J_ : zIn} {L_ : zLi} {v_ : Nat} {l : List Nat} (hv : v_ < 4) (hx : zbt (Int32.ofNat v_) 0 (I_ 7 0 11 - 1) = true) (hJ : zset I_ 7 0 0 0 = J_) (hro : zRo J_ v_ l) (h6 : 6 < l.length) : zYm 7 185 [zwR 7 0, zwI (Int32.ofNat v_)] I_ L_ 0 (zRet (some (zwI (-1))) J_ L_) := by
  have hl := hro.2.1
  refine zYm.of (Nat.le_of_ble_eq_true rfl) rfl ?_
  refine zY.go 3 rfl ?_
  refine zY.cr zm129 rfl rfl rfl rfl (Nat.le_of_ble_eq_true rfl) rfl (by decide) rfl (by decide) (by decide) ?_
  rw [hx]
  refine zY.bi rfl (fun _ => ?_) (fun hp => absurd (show ¬ (1 : Int32) = 0 by decide) hp)
  refine zY.go 4 rfl ?_
  show zY _ _ _ _ _ [zwI (zset I_ 7 0 0 0 7 0 0)] _ _ _ _
  rw [zset_is]
  refine zY.bi rfl (fun hp => absurd (show (0 : Int32) < 0 from hp) (by decide)) (fun _ => ?_)
  rw [hJ]
  refine zY.go 3 rfl ?_
  refine zY.ai rfl rfl hv ?_
  rw [hro.1]
  refine zY.go 1 rfl ?_
  show zY _ _ _ _ _ [zwI (Int32.ofNat 6), zwI (Int32.ofNat l.length)] _ _ _ _
  refine zY.bn rfl (by omega) (by omega) (fun hp => absurd (show l.length ≤ 6 from hp) (by omega)) (fun _ => ?_)
  refine zY.go 2 rfl ?_
  show zY _ _ _ _ _ [zwI (J_ 7 0 0)] _ _ _ _
  rw [← hJ, zset_is]
  refine zY.bi rfl (fun _ => ?_) (fun hp => absurd (show (0 : Int32) ≤ 0 by decide) hp)
  refine zY.go 1 rfl ?_
  exact zY.ri rfl rfl ⟨rfl, rfl, rfl⟩
theorem zm185f {J_ : zIn} {L_ : zLi} {v_ : Nat} {l : List Nat} {Q_ : zPost} (hv : v_ < 4) (hro : zRo J_ v_ l) (h6 : l.length ≤ 6) (hY : zY none 7 185 77 [some (zwR 7 0), some (zwI (Int32.ofNat v_)), some (zwI (Int32.ofNat (zfac l.length))), some (zwI (-1)), some (zwI (Int32.ofNat 0)), none] [] J_ L_ 0 Q_) : ∀ (n_ k_ : Nat), n_ + k_ = l.length + 1 → 2 ≤ k_ → zY none 7 185 52 [some (zwR 7 0), some (zwI (Int32.ofNat v_)), some (zwI (Int32.ofNat (zfac (k_ - 1)))), some (zwI (Int32.ofNat k_)), none, none] [] J_ L_ 0 Q_
  | 0, k_, h_, h2 => by
    refine zY.go 4 rfl ?_
    refine zY.ai rfl rfl hv ?_
    rw [hro.1]
    refine zY.bn rfl (by omega) (by omega) (fun _ => ?_) (fun hF => absurd (show l.length < k_ by omega) hF)
    refine zY.go 4 rfl ?_
    rw [show k_ - 1 = l.length by omega]
    exact hY
  | n_ + 1, k_, h_, h2 => by
    refine zY.go 4 rfl ?_
    refine zY.ai rfl rfl hv ?_
    rw [hro.1]
    refine zY.bn rfl (by omega) (by omega) (fun hT_ => absurd hT_ (show ¬ l.length < k_ by omega)) (fun _ => ?_)
    refine zY.go 6 rfl ?_
    rw [zisucc, ← Int32.ofNat_mul]
    have ih_ := zm185f hv hro h6 hY n_ (k_ + 1) (by omega) (by omega)
    rw [show zfac (k_ + 1 - 1) = zfac (k_ - 1) * k_ by
      obtain ⟨j_, rfl⟩ : ∃ j_, k_ = j_ + 1 := ⟨k_ - 1, by omega⟩
      show (j_ + 1) * zfac j_ = zfac j_ * (j_ + 1)
      exact Nat.mul_comm _ _] at ih_
    exact ih_
theorem zm185l {J_ : zIn} {L_ : zLi} {v_ m_ A_ : Nat} {l : List Nat} {F_ : List Nat → Bool} (hv : v_ < 4) (hro : zRo J_ v_ l) (h6 : l.length ≤ 6) (hA : A_ ≤ 720) (hlf : ¬ J_ 31 19 v_ = 0 → l ≠ []) (hmq : ∀ c_, ∀ s_ ∈ zord l.length c_ l, zMq J_ (s_ / 2)) (hc_ : J_ 30 25 v_ = Int32.ofNat m_) (hm3 : m_ ≤ 3) (hO : ∀ c_, c_ < A_ → zorB J_ v_ l c_ = true → ∀ K_, zfq K_ J_ → zmrO K_ (zord l.length c_ l) m_) (hF : ∀ c_, c_ < A_ → zorB J_ v_ l c_ = true → ∀ K_, zfq K_ J_ → zTr K_ (zord l.length c_ l) → (zmrT K_ v_ (zord l.length c_ l) m_).1 = F_ (zord l.length c_ l)) : ∀ (n_ c_ : Nat) (y_ : Int32) (K_ : zIn) (k5_ : Option zW), n_ + c_ = A_ → zfq K_ J_ → zY none 7 185 77 [some (zwR 7 0), some (zwI (Int32.ofNat v_)), some (zwI (Int32.ofNat A_)), some (zwI y_), some (zwI (Int32.ofNat c_)), k5_] [] K_ L_ 0 (fun r_ I' L' => r_ = .inl (some (zwI (zldQ J_ v_ l F_ n_ c_ y_))) ∧ zfq I' J_ ∧ L' = L_)
  | 0, c_, y_, K_, k5_, h_, hK_ => by
    refine zY.go 2 rfl ?_
    refine zY.bn rfl (by omega) (by omega) (fun _ => ?_) (fun hF => absurd (show A_ ≤ c_ by omega) hF)
    refine zY.go 1 rfl ?_
    exact zY.ri rfl rfl ⟨rfl, hK_, rfl⟩
  | n_ + 1, c_, y_, K_, k5_, h_, hK_ => by
    have ih_ := fun (y_ : Int32) (K_ : zIn) (k5_ : Option zW) hK_ => zm185l (L_ := L_) hv hro h6 hA hlf hmq hc_ hm3 hO hF n_ (c_ + 1) y_ K_ k5_ (by omega) hK_
    simp only [← zisucc] at ih_
    have T126 : ∀ (y' : Int32) (K_ : zIn) (k5_ : Option zW), zfq K_ J_ → zldP J_ v_ l F_ c_ y_ = y' → zY none 7 185 126 [some (zwR 7 0), some (zwI (Int32.ofNat v_)), some (zwI (Int32.ofNat A_)), some (zwI y'), some (zwI (Int32.ofNat c_)), k5_] [] K_ L_ 0 (fun r_ I' L' => r_ = .inl (some (zwI (zldQ J_ v_ l F_ (n_ + 1) c_ y_))) ∧ zfq I' J_ ∧ L' = L_) := by
      intro y' K_ k5_ hK_ he
      unfold zldQ
      rw [he]
      refine zY.go 2 rfl ?_
      exact ih_ y' K_ k5_ hK_
    refine zY.go 2 rfl ?_
    refine zY.bn rfl (by omega) (by omega) (fun hT_ => absurd hT_ (show ¬ A_ ≤ c_ by omega)) (fun _ => ?_)
    refine zY.go 3 rfl ?_
    refine zY.c (zm186 (c_ := c_) hv (hK_.ro hro) (by omega) (fun e_ => hlf (by rw [← hK_ 31 19 v_ (by simp) (by simp)]; exact e_))) rfl rfl rfl rfl (Nat.le_of_ble_eq_true rfl) rfl (by decide) rfl (by decide) (by decide) (fun r_ I' L' hq => ⟨_, hq.1, ?_⟩)
    obtain ⟨_, q2_, q3_, rfl⟩ := hq
    have hK1 : zfq I' J_ := q3_.fq.trans hK_
    show zY _ _ _ _ _ [zwI (if zorB K_ v_ l c_ = true then 1 else 0)] _ _ _ _
    rw [zorB_fq hK_]
    refine zY.we rfl (fun hb_ => T126 y_ I' k5_ hK1 (if_neg (fun e_ => by rw [hb_] at e_; cases e_.1))) (fun hb_ => ?_)
    have hcA : c_ < A_ := by omega
    refine zY.go 2 rfl ?_
    refine zY.cr (zm148 q2_ hv (fun s_ hs => hK1.mq (hmq c_ s_ hs)) ((hK1 30 25 v_ (by simp) (by simp)).trans hc_) hm3 (hO c_ hcA hb_ I' hK1)) rfl rfl rfl rfl (Nat.le_of_ble_eq_true rfl) rfl (by decide) rfl (by decide) (by decide) ?_
    have hFv := hF c_ hcA hb_ I' hK1 q2_
    show zY _ _ _ _ _ [zwI (if (zmrT I' v_ (zord l.length c_ l) m_).1 = true then 1 else 0)] _ _ _ _
    rw [hFv]
    have fx : zfx (zmrT I' v_ (zord l.length c_ l) m_).2 I' := zmrT_fx
    have hK2 : zfq (zmrT I' v_ (zord l.length c_ l) m_).2 J_ := fx.fq.trans hK1
    refine zY.we rfl (fun hf => T126 y_ _ k5_ hK2 (if_neg (fun e_ => by rw [hf] at e_; cases e_.2))) (fun hf => ?_)
    refine zY.go 2 rfl ?_
    refine zY.cr (zm144 (fx.tr q2_) hv) rfl rfl rfl rfl (Nat.le_of_ble_eq_true rfl) rfl (by decide) rfl (by decide) (by decide) ?_
    rw [zdm_fq hK2]
    have hcond : zorB J_ v_ l c_ = true ∧ F_ (zord l.length c_ l) = true := ⟨hb_, hf⟩
    have T119 : (y_ = -1 ∨ zdm J_ (zord l.length c_ l) (J_ 30 17 v_) (J_ 30 12 v_) < y_) → zY none 7 185 119 [some (zwR 7 0), some (zwI (Int32.ofNat v_)), some (zwI (Int32.ofNat A_)), some (zwI y_), some (zwI (Int32.ofNat c_)), some (zwI (zdm J_ (zord l.length c_ l) (J_ 30 17 v_) (J_ 30 12 v_)))] [] (zmrT I' v_ (zord l.length c_ l) m_).2 L' 0 (fun r_ I' L'' => r_ = .inl (some (zwI (zldQ J_ v_ l F_ (n_ + 1) c_ y_))) ∧ zfq I' J_ ∧ L'' = L') := by
      intro hd_
      refine zY.go 3 rfl ?_
      exact T126 _ _ _ hK2 (by unfold zldP; rw [if_pos hcond, if_pos hd_])
    refine zY.go 3 rfl ?_
    refine zY.bc rfl (fun hp => T119 (Or.inl hp)) (fun hp => ?_)
    refine zY.go 2 rfl ?_
    refine zY.bc rfl (fun hp2 => ?_) (fun hp2 => T119 (Or.inr (Int32.not_le.mp hp2)))
    refine zY.go 2 rfl ?_
    exact T126 _ _ _ hK2 (by unfold zldP; rw [if_pos hcond, if_neg (fun e_ => e_.elim hp (fun e2_ => Int32.not_le.mpr e2_ hp2))])
theorem zm185c {I_ J_ : zIn} {L_ : zLi} {v_ m_ : Nat} {l : List Nat} {F_ : List Nat → Bool} (hv : v_ < 4) (hx : zbt (Int32.ofNat v_) 0 (I_ 7 0 11 - 1) = true) (hJ : zset I_ 7 0 0 0 = J_) (hro : zRo J_ v_ l) (h6 : l.length ≤ 6) (hlf : ¬ J_ 31 19 v_ = 0 → l ≠ []) (hmq : ∀ c_, ∀ s_ ∈ zord l.length c_ l, zMq J_ (s_ / 2)) (hc_ : J_ 30 25 v_ = Int32.ofNat m_) (hm3 : m_ ≤ 3) (hO : ∀ c_, c_ < zfac l.length → zorB J_ v_ l c_ = true → ∀ K_, zfq K_ J_ → zmrO K_ (zord l.length c_ l) m_) (hF : ∀ c_, c_ < zfac l.length → zorB J_ v_ l c_ = true → ∀ K_, zfq K_ J_ → zTr K_ (zord l.length c_ l) → (zmrT K_ v_ (zord l.length c_ l) m_).1 = F_ (zord l.length c_ l)) : zYm 7 185 [zwR 7 0, zwI (Int32.ofNat v_)] I_ L_ 0 (fun r_ I' L' => r_ = .inl (some (zwI (zldQ J_ v_ l F_ (zfac l.length) 0 (-1)))) ∧ zfq I' J_ ∧ L' = L_) := by
  have hY := zm185l (L_ := L_) hv hro h6 (zfac_le l.length h6) hlf hmq hc_ hm3 hO hF (zfac l.length) 0 (-1) J_ none (by omega) zfq.rfl
  refine zYm.of (Nat.le_of_ble_eq_true rfl) rfl ?_
  refine zY.go 3 rfl ?_
  refine zY.cr zm129 rfl rfl rfl rfl (Nat.le_of_ble_eq_true rfl) rfl (by decide) rfl (by decide) (by decide) ?_
  rw [hx]
  refine zY.bi rfl (fun _ => ?_) (fun hp => absurd (show ¬ (1 : Int32) = 0 by decide) hp)
  refine zY.go 4 rfl ?_
  show zY _ _ _ _ _ [zwI (zset I_ 7 0 0 0 7 0 0)] _ _ _ _
  rw [zset_is]
  refine zY.bi rfl (fun hp => absurd (show (0 : Int32) < 0 from hp) (by decide)) (fun _ => ?_)
  rw [hJ]
  refine zY.go 3 rfl ?_
  refine zY.ai rfl rfl hv ?_
  rw [hro.1]
  refine zY.go 1 rfl ?_
  show zY _ _ _ _ _ [zwI (Int32.ofNat 6), zwI (Int32.ofNat l.length)] _ _ _ _
  refine zY.bn rfl (by omega) (by omega) (fun _ => ?_) (fun hp => absurd (show l.length ≤ 6 from h6) hp)
  refine zY.go 4 rfl ?_
  by_cases h2 : 2 ≤ l.length
  · exact zm185f hv hro h6 hY (l.length - 1) 2 (by omega) (by omega)
  · have e1_ : zfac l.length = 1 := by
      have : l.length = 0 ∨ l.length = 1 := by omega
      rcases this with h_ | h_ <;> rw [h_] <;> rfl
    rw [e1_] at hY
    refine zY.go 4 rfl ?_
    refine zY.ai rfl rfl hv ?_
    rw [hro.1]
    show zY _ _ _ _ _ [zwI (Int32.ofNat l.length), zwI (Int32.ofNat 2)] _ _ _ _
    refine zY.bn rfl (by omega) (by omega) (fun _ => ?_) (fun hF => absurd (show l.length < 2 by omega) hF)
    refine zY.go 4 rfl ?_
    rw [e1_]
    exact hY
