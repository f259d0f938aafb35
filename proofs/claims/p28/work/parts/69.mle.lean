/-! CONTRACTS OF THE MODEL: leaves -/
def zbt (x_ lo_ hi_ : Int32) : Bool := decide (lo_ ≤ x_) && decide (x_ ≤ hi_)
def zap (x_ y_ : Int32) : Int32 := if x_ ≤ y_ then y_ - x_ else x_ - y_
def zspm (x_ y_ : Int32) : Int32 := zap (x_ / 6) (y_ / 6) + zap (x_ - x_ / 6 * 6) (y_ - y_ / 6 * 6)
/-- a request's number and its rider's are places of the rows -/
def zMq (I_ : zIn) (q_ : Nat) : Prop := q_ < 60 ∧ 0 ≤ I_ 30 29 q_ ∧ (I_ 30 29 q_).toNatClampNeg < 16
def zmrd (I_ : zIn) (q_ : Nat) : Nat := (I_ 30 29 q_).toNatClampNeg
theorem zMq.rd {I_ : zIn} {q_ : Nat} (h_ : zMq I_ q_) : I_ 30 29 q_ = Int32.ofNat (zmrd I_ q_) := (Int32.ofNat_toNatClampNeg _ h_.2.1).symm
theorem zs2d : ∀ s_, s_ < 200 → Int32.ofNat s_ / 2 = Int32.ofNat (s_ / 2) ∧ Int32.ofNat s_ - Int32.ofNat s_ / 2 * 2 = Int32.ofNat (s_ % 2) := by decide +kernel
def zmkd (I_ : zIn) (q_ : Nat) : Int32 := I_ 30 7 (zmrd I_ q_)
def zmse (I_ : zIn) (q_ : Nat) : Int32 := (if zmkd I_ q_ = 2 then 2 else 1) + (if I_ 31 10 (zmrd I_ q_) = 0 then 0 else 1)
def zmpl (I_ : zIn) (s_ : Nat) : Int32 := if s_ % 2 = 0 then I_ 30 30 (s_ / 2) else I_ 30 31 (s_ / 2)
def zmlt (I_ : zIn) (q_ : Nat) (x_ : Int32) : Int32 := x_ + 10 + 2 * (2 * zspm (I_ 30 30 q_) (I_ 30 31 q_))
