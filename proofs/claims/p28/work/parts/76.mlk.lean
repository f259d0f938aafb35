/-! CONTRACTS OF THE MODEL: look, its outer loop -/
def zlkC (I_ : zIn) (v_ r_ : Nat) : Bool := decide (¬ zmkd I_ r_ = 2) || (decide (¬ I_ 31 16 v_ = 0) && decide (I_ 30 8 (zmrd I_ r_) ≤ I_ 30 15 v_))
def zlkF (I_ : zIn) (v_ : Nat) : Nat := if I_ 31 19 v_ = 0 then 0 else 1
def zlkA (I_ : zIn) (v_ : Nat) (l : List Nat) (r_ m_ : Nat) : zIn := if zlkC I_ v_ r_ = true ∧ l.length ≤ 14 then zlkP v_ l r_ m_ (zlkG (ztry I_ v_ l.length) v_ l) (l.length + 1 - zlkF I_ v_) (zlkF I_ v_) (ztry I_ v_ l.length) else ztry I_ v_ l.length
theorem zlkA_fz {I_ : zIn} {v_ r_ m_ : Nat} {l : List Nat} : zfz (zlkA I_ v_ l r_ m_) I_ := by
  unfold zlkA
  split
  · exact (zlkP_fz _ _ _).trans zfz.rfl.try
  · exact zfz.rfl.try
