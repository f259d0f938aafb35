/-! CONTRACTS OF THE MODEL: isLate, isLong, traffic -/
def zilM (I_ : zIn) (r_ : Nat) : Bool := decide (¬ I_ 30 36 r_ = -1) && decide (I_ 30 34 r_ + 20 < I_ 30 36 r_)
def zigM (I_ : zIn) (r_ : Nat) : Bool := decide (¬ I_ 30 38 r_ = -1) && decide (zmlt I_ r_ (I_ 30 37 r_) < I_ 30 38 r_)
theorem zle2 : ¬ (2 : Int32) ≤ 0 := by decide
