/-! CONTRACTS OF THE MODEL: done -/
def zdn1 (I_ : zIn) (v_ : Nat) : zIn := zset (zset I_ 31 19 v_ 0) 31 22 v_ 0
def zdn2 (I_ : zIn) (v_ s_ : Nat) : zIn := zset (zdn1 I_ v_) 30 17 v_ (zmpl (zdn1 I_ v_) s_)
def zdn3 (I_ : zIn) (v_ s_ : Nat) : zIn := zset (zdn2 I_ v_ s_) 30 18 v_ (zdn2 I_ v_ s_ 7 0 2)
def zdn4 (I_ : zIn) (v_ s_ n_ : Nat) : zIn := zkep (ztst (ztry (zdn3 I_ v_ s_) v_ (n_ + 1)) (n_ + 1) 0) v_ n_
theorem zdn3_ne {I_ : zIn} {v_ s_ c_ i_ f_ : Nat} (h1 : ¬ (c_ = 31 ∧ (i_ = 19 ∨ i_ = 22))) (h2 : ¬ (c_ = 30 ∧ (i_ = 17 ∨ i_ = 18))) : zdn3 I_ v_ s_ c_ i_ f_ = I_ c_ i_ f_ := by
  unfold zdn3 zdn2 zdn1
  rw [zset_ne (fun e_ => h2 ⟨e_.1, Or.inr e_.2.1⟩), zset_ne (fun e_ => h2 ⟨e_.1, Or.inl e_.2.1⟩), zset_ne (fun e_ => h1 ⟨e_.1, Or.inr e_.2.1⟩), zset_ne (fun e_ => h1 ⟨e_.1, Or.inl e_.2.1⟩)]
theorem zdn4_ne {I_ : zIn} {v_ s_ n_ c_ i_ f_ : Nat} (h1 : ¬ (c_ = 31 ∧ (i_ = 19 ∨ i_ = 22))) (h2 : ¬ (c_ = 30 ∧ (i_ = 17 ∨ i_ = 18 ∨ i_ = 26 ∨ i_ = 27 ∨ i_ = 43))) (h3 : ¬ (c_ = 7 ∧ i_ = 0 ∧ f_ = 42)) : zdn4 I_ v_ s_ n_ c_ i_ f_ = I_ c_ i_ f_ := by
  unfold zdn4
  rw [zkep_ne (fun e_ => h2 ⟨e_.1, by omega⟩) (fun e_ => h2 ⟨e_.1, by omega⟩), ztst_ne (fun e_ => h2 ⟨e_.1, by omega⟩) h3, ztry_ne (fun e_ => h2 ⟨e_.1, by omega⟩) h3, zdn3_ne h1 (fun e_ => h2 ⟨e_.1, by omega⟩)]
theorem zdn3_ro {I_ : zIn} {v_ s_ : Nat} {l : List Nat} (h_ : zRo I_ v_ l) : zRo (zdn3 I_ v_ s_) v_ l := ⟨(zdn3_ne (by simp) (by simp)).trans h_.1, h_.2.1, fun k_ t_ ht => ⟨(zdn3_ne (by simp) (by simp)).trans (h_.2.2 k_ t_ ht).1, (h_.2.2 k_ t_ ht).2⟩⟩
theorem zdn4_mq {I_ : zIn} {v_ s_ n_ q_ : Nat} (h_ : zMq I_ q_) : zMq (zdn4 I_ v_ s_ n_) q_ := by
  unfold zMq at *
  rw [zdn4_ne (by simp) (by simp) (by simp)]
  exact h_
theorem zdn4_kd {I_ : zIn} {v_ s_ n_ q_ : Nat} : zmkd (zdn4 I_ v_ s_ n_) q_ = zmkd I_ q_ := by
  unfold zmkd zmrd
  rw [zdn4_ne (i_ := 29) (by simp) (by simp) (by simp), zdn4_ne (i_ := 7) (by simp) (by simp) (by simp)]
theorem zdn4_pc {I_ : zIn} {v_ s_ n_ r_ : Nat} : zpkC (zdn4 I_ v_ s_ n_) v_ r_ = zpkC I_ v_ r_ := by
  unfold zpkC
  rw [zdn4_kd, zdn4_ne (i_ := 41) (by simp) (by simp) (by simp), zdn4_ne (i_ := 16) (by simp) (by simp) (by simp)]
def zdnM (I_ : zIn) (v_ s_ : Nat) (l : List Nat) (m_ d_ : Nat) : zIn := if s_ % 2 = 0 then zpkM (zdn4 I_ v_ s_ l.length) v_ (s_ / 2) m_ l d_ else zdrM (zdn4 I_ v_ s_ l.length) v_ (s_ / 2)
