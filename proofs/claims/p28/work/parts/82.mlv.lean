/-! CONTRACTS OF THE MODEL: leave, lift -/
theorem zMq_s31 {I_ : zIn} {q_ j_ k_ : Nat} {x_ : Int32} (h_ : zMq I_ q_) : zMq (zset I_ 31 j_ k_ x_) q_ := by
  unfold zMq
  rw [zset_ne (fun e_ => by have := e_.1; omega)]
  exact h_
theorem zMq_s7 {I_ : zIn} {q_ j_ k_ : Nat} {x_ : Int32} (h_ : zMq I_ q_) : zMq (zset I_ 7 j_ k_ x_) q_ := by
  unfold zMq
  rw [zset_ne (fun e_ => by have := e_.1; omega)]
  exact h_
def zlv0 (I_ : zIn) (v_ s_ : Nat) : Int32 := 2 * zspm (I_ 30 17 v_) (zmpl I_ s_)
def zlv1 (I_ : zIn) (v_ : Nat) (d_ : Int32) : zIn := zset (zset I_ 31 19 v_ 1) 30 20 v_ (zset I_ 31 19 v_ 1 7 0 2 + d_)
def zlv2 (I_ : zIn) (v_ s_ : Nat) (d_ : Int32) : zIn := zset (zlv1 I_ v_ d_) 30 21 v_ (zlv1 I_ v_ d_ 7 0 2 + d_ + (2 + 2 * zmkd (zlv1 I_ v_ d_) (s_ / 2)))
def zlvM (I_ : zIn) (v_ s_ : Nat) : zIn := if s_ % 2 = 1 ∨ I_ 30 34 (s_ / 2) - zlv0 I_ v_ s_ ≤ I_ 7 0 2 then zlv2 I_ v_ s_ (zlv0 I_ v_ s_) else I_
theorem zle1 : ¬ (1 : Int32) ≤ 0 := by decide
