/-! THE CALLS: ask, answered -/
theorem zzaqf {x_ y_ w_ : Int32} : zaqF x_ y_ w_ = true ↔ (0 ≤ x_ ∧ x_ ≤ 35) ∧ (0 ≤ y_ ∧ y_ ≤ 35) ∧ (0 ≤ w_ ∧ w_ ≤ 600) ∧ ¬ x_ = y_ := by
  unfold zaqF
  rw [Bool.and_eq_true, Bool.and_eq_true, Bool.and_eq_true, zzbt, zzbt, zzbt, decide_eq_true_iff]
