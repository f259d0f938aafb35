/-! THE MODEL'S ROUTES AS LISTS -/
theorem ztrI_ne {v_ c_ i_ f_ : Nat} (h_ : ¬ (c_ = 30 ∧ i_ = 43)) : ∀ (m_ k_ : Nat) (I_ : zIn), ztrI v_ m_ k_ I_ c_ i_ f_ = I_ c_ i_ f_
  | 0, _, _ => rfl
  | m_ + 1, k_, I_ => by
    unfold ztrI
    rw [ztrI_ne h_ m_, zset_ne (fun e_ => h_ ⟨e_.1, e_.2.1⟩)]
theorem ztrI_at {v_ : Nat} : ∀ (m_ k_ : Nat) (I_ : zIn) (j_ : Nat), ztrI v_ m_ k_ I_ 30 43 j_ = if k_ ≤ j_ ∧ j_ < k_ + m_ then I_ 30 26 (16 * v_ + j_) else I_ 30 43 j_
  | 0, k_, I_, j_ => by rw [if_neg (by omega)]; rfl
  | m_ + 1, k_, I_, j_ => by
    unfold ztrI
    rw [ztrI_at m_ (k_ + 1), zset_ne (i' := 26) (by simp)]
    by_cases hj : j_ = k_
    · subst hj
      rw [if_neg (by omega), if_pos (by omega), zset_is]
    · rw [zset_ne (fun e_ => hj e_.2.2)]
      by_cases hk : k_ ≤ j_ ∧ j_ < k_ + (m_ + 1)
      · rw [if_pos (by omega), if_pos hk]
      · rw [if_neg (by omega), if_neg hk]
theorem zkpI_ne {v_ c_ i_ f_ : Nat} (h_ : ¬ (c_ = 30 ∧ i_ = 26)) : ∀ (m_ k_ : Nat) (I_ : zIn), zkpI v_ m_ k_ I_ c_ i_ f_ = I_ c_ i_ f_
  | 0, _, _ => rfl
  | m_ + 1, k_, I_ => by
    unfold zkpI
    rw [zkpI_ne h_ m_, zset_ne (fun e_ => h_ ⟨e_.1, e_.2.1⟩)]
theorem zkpI_at {v_ : Nat} : ∀ (m_ k_ : Nat) (I_ : zIn) (j_ : Nat), zkpI v_ m_ k_ I_ 30 26 j_ = if 16 * v_ + k_ ≤ j_ ∧ j_ < 16 * v_ + k_ + m_ then I_ 30 43 (j_ - 16 * v_) else I_ 30 26 j_
  | 0, k_, I_, j_ => by rw [if_neg (by omega)]; rfl
  | m_ + 1, k_, I_, j_ => by
    unfold zkpI
    rw [zkpI_at m_ (k_ + 1), zset_ne (i' := 43) (by simp)]
    by_cases hj : j_ = 16 * v_ + k_
    · subst hj
      rw [if_neg (by omega), if_pos (by omega), zset_is, Nat.add_sub_cancel_left]
    · rw [zset_ne (fun e_ => hj e_.2.2)]
      by_cases hk : 16 * v_ + k_ ≤ j_ ∧ j_ < 16 * v_ + k_ + (m_ + 1)
      · rw [if_pos (by omega), if_pos hk]
      · rw [if_neg (by omega), if_neg hk]
theorem zpsI_at : ∀ (m_ k_ : Nat) (I_ : zIn) (j_ : Nat), m_ ≤ k_ → zpsI m_ k_ I_ 30 43 j_ = if k_ - m_ < j_ ∧ j_ ≤ k_ then I_ 30 43 (j_ - 1) else I_ 30 43 j_
  | 0, k_, I_, j_, _ => by rw [if_neg (by omega)]; rfl
  | m_ + 1, k_, I_, j_, hm_ => by
    unfold zpsI
    rw [zpsI_at m_ (k_ - 1) _ j_ (by omega)]
    by_cases hj : j_ = k_
    · subst hj
      rw [if_neg (by omega), if_pos (by omega), zset_is]
    · rw [zset_ne (f' := j_) (fun e_ => hj e_.2.2)]
      by_cases hk : k_ - (m_ + 1) < j_ ∧ j_ ≤ k_
      · rw [if_pos (by omega), if_pos hk, zset_ne (fun e_ => by omega)]
      · rw [if_neg (by omega), if_neg hk]
theorem ztsI_ne {c_ i_ f_ : Nat} (h_ : ¬ (c_ = 30 ∧ i_ = 43)) : ∀ (m_ k_ : Nat) (I_ : zIn), ztsI m_ k_ I_ c_ i_ f_ = I_ c_ i_ f_
  | 0, _, _ => rfl
  | m_ + 1, k_, I_ => by
    unfold ztsI
    rw [ztsI_ne h_ m_, zset_ne (fun e_ => h_ ⟨e_.1, e_.2.1⟩)]
theorem ztsI_at : ∀ (m_ k_ : Nat) (I_ : zIn) (j_ : Nat), ztsI m_ k_ I_ 30 43 j_ = if k_ ≤ j_ ∧ j_ < k_ + m_ then I_ 30 43 (j_ + 1) else I_ 30 43 j_
  | 0, k_, I_, j_ => by rw [if_neg (by omega)]; rfl
  | m_ + 1, k_, I_, j_ => by
    unfold ztsI
    rw [ztsI_at m_ (k_ + 1)]
    by_cases hj : j_ = k_
    · subst hj
      rw [if_neg (by omega), if_pos (by omega), zset_is]
    · rw [zset_ne (f' := j_) (fun e_ => hj e_.2.2)]
      by_cases hk : k_ ≤ j_ ∧ j_ < k_ + (m_ + 1)
      · rw [if_pos (by omega), if_pos hk, zset_ne (fun e_ => by omega)]
      · rw [if_neg (by omega), if_neg hk]
def zRo (I_ : zIn) (v_ : Nat) (l : List Nat) : Prop := I_ 30 27 v_ = Int32.ofNat l.length ∧ l.length ≤ 16 ∧ ∀ k_ s_, l[k_]? = some s_ → I_ 30 26 (16 * v_ + k_) = Int32.ofNat s_ ∧ s_ < 120
theorem ztry_ne {I_ : zIn} {v_ n_ c_ i_ f_ : Nat} (h_ : ¬ (c_ = 30 ∧ i_ = 43)) (h2 : ¬ (c_ = 7 ∧ i_ = 0 ∧ f_ = 42)) : ztry I_ v_ n_ c_ i_ f_ = I_ c_ i_ f_ := by
  unfold ztry
  rw [ztrI_ne h_, zset_ne h2]
theorem ztry_tr {I_ : zIn} {v_ : Nat} {l : List Nat} (h_ : zRo I_ v_ l) : zTr (ztry I_ v_ l.length) l := by
  refine ⟨?_, by have := h_.2.1; omega, fun k_ s_ hs => ⟨?_, (h_.2.2 k_ s_ hs).2⟩⟩
  · unfold ztry
    rw [ztrI_ne (by simp), zset_is]
  · obtain ⟨hlt, _⟩ := List.getElem?_eq_some_iff.mp hs
    unfold ztry
    rw [ztrI_at, if_pos (by omega), zset_ne (by simp)]
    exact (h_.2.2 k_ s_ hs).1
theorem zpst_ne {I_ : zIn} {n_ a_ s_ c_ i_ f_ : Nat} (h_ : ¬ (c_ = 30 ∧ i_ = 43)) (h2 : ¬ (c_ = 7 ∧ i_ = 0 ∧ f_ = 42)) : zpst I_ n_ a_ s_ c_ i_ f_ = I_ c_ i_ f_ := by
  unfold zpst
  rw [zset_ne h2, zset_ne (fun e_ => h_ ⟨e_.1, e_.2.1⟩), zpsI_ne h_]
theorem zpst_tr {I_ : zIn} {l : List Nat} {a_ s_ : Nat} (h_ : zTr I_ l) (ha_ : a_ ≤ l.length) (hn : l.length ≤ 19) (hs : s_ < 120) : zTr (zpst I_ l.length a_ s_) (l.insertIdx a_ s_) := by
  have eL : (l.insertIdx a_ s_).length = l.length + 1 := by rw [List.length_insertIdx, if_pos ha_]
  refine ⟨?_, by omega, fun k_ t_ ht => ?_⟩
  · unfold zpst
    rw [zset_is, eL]
  · unfold zpst
    rw [zset_ne (by simp)]
    rw [List.getElem?_insertIdx] at ht
    by_cases h1 : k_ < a_
    · rw [if_pos h1] at ht
      rw [zset_ne (fun e_ => by omega), zpsI_at _ _ _ _ (by omega), if_neg (by omega)]
      exact h_.2.2 k_ t_ ht
    · rw [if_neg h1] at ht
      by_cases h2 : k_ = a_
      · subst h2
        rw [if_pos rfl, if_pos ha_] at ht
        rw [zset_is]
        cases ht
        exact ⟨rfl, hs⟩
      · rw [if_neg h2] at ht
        obtain ⟨hlt, _⟩ := List.getElem?_eq_some_iff.mp ht
        rw [zset_ne (fun e_ => h2 e_.2.2), zpsI_at _ _ _ _ (by omega), if_pos (by omega)]
        exact h_.2.2 (k_ - 1) t_ ht
theorem ztst_ne {I_ : zIn} {n_ a_ c_ i_ f_ : Nat} (h_ : ¬ (c_ = 30 ∧ i_ = 43)) (h2 : ¬ (c_ = 7 ∧ i_ = 0 ∧ f_ = 42)) : ztst I_ n_ a_ c_ i_ f_ = I_ c_ i_ f_ := by
  unfold ztst
  rw [ztsI_ne h_, zset_ne h2]
theorem ztst_tr {I_ : zIn} {l : List Nat} {a_ : Nat} (h_ : zTr I_ l) (ha_ : a_ < l.length) : zTr (ztst I_ l.length a_) (l.eraseIdx a_) := by
  have h20 := h_.2.1
  have eL : (l.eraseIdx a_).length = l.length - 1 := by rw [List.length_eraseIdx, if_pos ha_]
  refine ⟨?_, by omega, fun k_ t_ ht => ?_⟩
  · unfold ztst
    rw [ztsI_ne (by simp), zset_is, eL]
  · unfold ztst
    rw [ztsI_at]
    rw [List.getElem?_eraseIdx] at ht
    by_cases h1 : k_ < a_
    · rw [if_pos h1] at ht
      rw [if_neg (by omega), zset_ne (by simp)]
      exact h_.2.2 k_ t_ ht
    · rw [if_neg h1] at ht
      obtain ⟨hlt, _⟩ := List.getElem?_eq_some_iff.mp ht
      rw [if_pos (by omega), zset_ne (by simp)]
      exact h_.2.2 (k_ + 1) t_ ht
theorem zkep_ne {I_ : zIn} {v_ n_ c_ i_ f_ : Nat} (h_ : ¬ (c_ = 30 ∧ i_ = 26)) (h2 : ¬ (c_ = 30 ∧ i_ = 27 ∧ f_ = v_)) : zkep I_ v_ n_ c_ i_ f_ = I_ c_ i_ f_ := by
  unfold zkep
  rw [zkpI_ne h_, zset_ne h2]
theorem zkep_ro {I_ : zIn} {v_ : Nat} {l : List Nat} (h_ : zTr I_ l) (hn : l.length ≤ 16) : zRo (zkep I_ v_ l.length) v_ l := by
  refine ⟨?_, hn, fun k_ s_ hs => ⟨?_, (h_.2.2 k_ s_ hs).2⟩⟩
  · unfold zkep
    rw [zkpI_ne (by simp), zset_is]
  · obtain ⟨hlt, _⟩ := List.getElem?_eq_some_iff.mp hs
    unfold zkep
    rw [zkpI_at, if_pos (by omega), zset_ne (by simp), Nat.add_sub_cancel_left]
    exact (h_.2.2 k_ s_ hs).1
theorem zkep_ro_ne {I_ : zIn} {v_ w_ n_ : Nat} {l : List Nat} (h_ : zRo I_ w_ l) (hn : n_ ≤ 16) (hv : w_ ≠ v_) : zRo (zkep I_ v_ n_) w_ l := by
  have hl := h_.2.1
  refine ⟨?_, h_.2.1, fun k_ s_ hs => ⟨?_, (h_.2.2 k_ s_ hs).2⟩⟩
  · rw [zkep_ne (by simp) (fun e_ => hv e_.2.2)]
    exact h_.1
  · obtain ⟨hlt, _⟩ := List.getElem?_eq_some_iff.mp hs
    unfold zkep
    rw [zkpI_at, if_neg (by omega), zset_ne (by simp)]
    exact (h_.2.2 k_ s_ hs).1

