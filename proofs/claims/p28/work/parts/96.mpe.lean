/-! CONTRACTS OF THE MODEL: pass, end, by an invariant of minutes -/
def zevV (v_ : Nat) (I_ : zIn) : zIn := zset (zset (zset (zset (zset (zset (zset I_ 30 17 v_ (I_ 30 12 v_)) 30 18 v_ 0) 31 19 v_ 0) 31 22 v_ 0) 30 23 v_ 0) 30 25 v_ 0) 30 27 v_ 0
def zevL : Nat → Nat → zIn → zIn
  | 0, _, I_ => I_
  | n_ + 1, v_, I_ => zevL n_ (v_ + 1) (zevV v_ I_)
def zevE (I_ : zIn) : zIn := zset (zset I_ 7 0 1 (I_ 7 0 1 + 1)) 7 0 2 0
def zefL : Nat → Nat → Int32 → zIn → Int32 × zIn
  | 0, _, x_, I_ => (x_, I_)
  | n_ + 1, k_, x_, I_ => if I_ 30 32 k_ = 0 ∨ I_ 30 32 k_ = 1 then zefL n_ (k_ + 1) (x_ + 1) (zset I_ 30 32 k_ 5) else zefL n_ (k_ + 1) x_ I_
theorem zefL_ne {c_ i_ f_ : Nat} (h_ : ¬ (c_ = 30 ∧ i_ = 32)) : ∀ (n_ k_ : Nat) (x_ : Int32) (I_ : zIn), (zefL n_ k_ x_ I_).2 c_ i_ f_ = I_ c_ i_ f_
  | 0, _, _, _ => rfl
  | n_ + 1, k_, x_, I_ => by
    unfold zefL
    split
    · rw [zefL_ne h_ n_ (k_ + 1) (x_ + 1) (zset I_ 30 32 k_ 5)]
      exact zset_ne (fun e_ => h_ ⟨e_.1, e_.2.1⟩)
    · exact zefL_ne h_ n_ (k_ + 1) x_ I_
def zefA (N_ m_ : Nat) (I_ : zIn) : zIn := zevE (zevL N_ 0 (zefL m_ 0 0 I_).2)
