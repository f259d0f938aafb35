/-! CONTRACTS OF THE MODEL: leastDrive -/
def zfq (K_ J_ : zIn) : Prop := ∀ c_ i_ f_, ¬ (c_ = 30 ∧ (43 ≤ i_ ∧ i_ ≤ 46 ∨ i_ = 51)) → ¬ (c_ = 7 ∧ i_ = 0 ∧ f_ = 42) → K_ c_ i_ f_ = J_ c_ i_ f_
theorem zfq.rfl {I_ : zIn} : zfq I_ I_ := fun _ _ _ _ _ => Eq.refl _
theorem zfq.trans {K_ J_ I_ : zIn} (h1 : zfq K_ J_) (h2 : zfq J_ I_) : zfq K_ I_ := fun c_ i_ f_ a_ b_ => (h1 c_ i_ f_ a_ b_).trans (h2 c_ i_ f_ a_ b_)
theorem zfd.fq {K_ J_ : zIn} (h_ : zfd K_ J_) : zfq K_ J_ := fun c_ i_ f_ a_ b_ => h_ c_ i_ f_ (fun e_ => a_ ⟨e_.1, by omega⟩) b_
theorem zfx.fq {K_ J_ : zIn} (h_ : zfx K_ J_) : zfq K_ J_ := fun c_ i_ f_ a_ _ => h_ c_ i_ f_ (fun e_ => a_ ⟨e_.1, by omega⟩)
theorem zfq.ro {K_ J_ : zIn} {v_ : Nat} {l : List Nat} (h_ : zfq K_ J_) (hl : zRo J_ v_ l) : zRo K_ v_ l := ⟨(h_ 30 27 v_ (by simp) (by simp)).trans hl.1, hl.2.1, fun k_ s_ hs => ⟨(h_ 30 26 _ (by simp) (by simp)).trans (hl.2.2 k_ s_ hs).1, (hl.2.2 k_ s_ hs).2⟩⟩
theorem zfq.mq {K_ J_ : zIn} {q_ : Nat} (h_ : zfq K_ J_) (hq : zMq J_ q_) : zMq K_ q_ := by
  unfold zMq at hq ⊢
  rw [h_ 30 29 q_ (by simp) (by simp)]; exact hq
def zfac : Nat → Nat
  | 0 => 1
  | n_ + 1 => (n_ + 1) * zfac n_
theorem zfac_le : ∀ n_, n_ ≤ 6 → zfac n_ ≤ 720 := by decide
def zldP (J_ : zIn) (v_ : Nat) (l : List Nat) (F_ : List Nat → Bool) (c_ : Nat) (y_ : Int32) : Int32 := if zorB J_ v_ l c_ = true ∧ F_ (zord l.length c_ l) = true then (if y_ = -1 ∨ zdm J_ (zord l.length c_ l) (J_ 30 17 v_) (J_ 30 12 v_) < y_ then zdm J_ (zord l.length c_ l) (J_ 30 17 v_) (J_ 30 12 v_) else y_) else y_
def zldQ (J_ : zIn) (v_ : Nat) (l : List Nat) (F_ : List Nat → Bool) : Nat → Nat → Int32 → Int32
  | 0, _, y_ => y_
  | n_ + 1, c_, y_ => zldQ J_ v_ l F_ n_ (c_ + 1) (zldP J_ v_ l F_ c_ y_)
theorem zmpl_fq {K_ J_ : zIn} (h_ : zfq K_ J_) (s_ : Nat) : zmpl K_ s_ = zmpl J_ s_ := by
  unfold zmpl
  rw [h_ 30 30 _ (by simp) (by simp), h_ 30 31 _ (by simp) (by simp)]
theorem zkm_fq {K_ J_ : zIn} (h_ : zfq K_ J_) : ∀ (l : List Nat) (p_ w_ : Int32), zkm K_ l p_ w_ = zkm J_ l p_ w_
  | [], _, _ => rfl
  | s_ :: r_, p_, w_ => by
    unfold zkm
    rw [zmpl_fq h_, zkm_fq h_ r_]
theorem zdm_fq {K_ J_ : zIn} (h_ : zfq K_ J_) (l : List Nat) (v_ : Nat) : zdm K_ l (K_ 30 17 v_) (K_ 30 12 v_) = zdm J_ l (J_ 30 17 v_) (J_ 30 12 v_) := by
  unfold zdm
  rw [zkm_fq h_, h_ 30 17 v_ (by simp) (by simp), h_ 30 12 v_ (by simp) (by simp)]
theorem zorB_fq {K_ J_ : zIn} (h_ : zfq K_ J_) (v_ : Nat) (l : List Nat) (c_ : Nat) : zorB K_ v_ l c_ = zorB J_ v_ l c_ := by
  unfold zorB
  rw [h_ 31 19 v_ (by simp) (by simp)]
