/-! CONTRACTS OF THE MODEL: plan, backAt -/
theorem zTr_set {I_ : zIn} {l : List Nat} {j_ k_ : Nat} {x_ : Int32} (h_ : zTr I_ l) (hj : j_ ≠ 43) : zTr (zset I_ 30 j_ k_ x_) l := by
  refine ⟨(zset_ne (by simp)).trans h_.1, h_.2.1, fun k' s_ hs => ?_⟩
  rw [zset_ne (fun e_ => hj e_.2.1.symm)]
  exact h_.2.2 k' s_ hs
theorem zMq_set {I_ : zIn} {q_ j_ k_ : Nat} {x_ : Int32} (h_ : zMq I_ q_) (hj : j_ ≠ 29) : zMq (zset I_ 30 j_ k_ x_) q_ := by
  unfold zMq
  rw [zset_ne (fun e_ => hj e_.2.1.symm)]
  exact h_
def zplv (I_ : zIn) (s_ : Nat) (lv d_ : Int32) : Int32 := if s_ % 2 = 0 ∧ lv < I_ 30 34 (s_ / 2) - d_ then I_ 30 34 (s_ / 2) - d_ else lv
def zpl1 (I_ : zIn) (v_ k_ s_ : Nat) (lv p_ : Int32) : zIn :=
  if k_ = 0 ∧ ¬ I_ 31 19 v_ = 0 then zset (zset I_ 30 44 k_ (I_ 30 20 v_)) 30 45 k_ (zset I_ 30 44 k_ (I_ 30 20 v_) 30 21 v_)
  else zset (zset I_ 30 44 k_ (zplv I_ s_ lv (2 * zspm p_ (zmpl I_ s_)) + 2 * zspm p_ (zmpl I_ s_))) 30 45 k_ (zset I_ 30 44 k_ (zplv I_ s_ lv (2 * zspm p_ (zmpl I_ s_)) + 2 * zspm p_ (zmpl I_ s_)) 30 44 k_ + (2 + 2 * zmkd (zset I_ 30 44 k_ (zplv I_ s_ lv (2 * zspm p_ (zmpl I_ s_)) + 2 * zspm p_ (zmpl I_ s_))) (s_ / 2)))
def zplm (v_ : Nat) : List Nat → Nat → Int32 → Int32 → zIn → zIn
  | [], _, _, _, I_ => I_
  | s_ :: r_, k_, lv, p_, I_ => zplm v_ r_ (k_ + 1) (zpl1 I_ v_ k_ s_ lv p_ 30 45 k_) (zmpl (zpl1 I_ v_ k_ s_ lv p_) s_) (zpl1 I_ v_ k_ s_ lv p_)
theorem zpl1_tr {I_ : zIn} {v_ k_ s_ : Nat} {lv p_ : Int32} {l : List Nat} (h_ : zTr I_ l) : zTr (zpl1 I_ v_ k_ s_ lv p_) l := by
  unfold zpl1
  split <;> exact zTr_set (zTr_set h_ (by decide)) (by decide)
theorem zpl1_mq {I_ : zIn} {v_ k_ s_ q_ : Nat} {lv p_ : Int32} (h_ : zMq I_ q_) : zMq (zpl1 I_ v_ k_ s_ lv p_) q_ := by
  unfold zpl1
  split <;> exact zMq_set (zMq_set h_ (by decide)) (by decide)
def zpln (I_ : zIn) (v_ : Nat) (l : List Nat) : zIn := zplm v_ l 0 (if I_ 7 0 2 + 1 < I_ 30 18 v_ then I_ 30 18 v_ else I_ 7 0 2 + 1) (I_ 30 17 v_) I_
