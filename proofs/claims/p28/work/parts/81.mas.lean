/-! CONTRACTS OF THE MODEL: askedBy, isSuspended -/
def zaB (I_ : zIn) (q_ k_ : Nat) : Bool := decide (I_ 30 29 k_ = Int32.ofNat q_) && (decide (I_ 7 0 1 - 30 < I_ 30 39 k_) && decide (¬ I_ 30 32 k_ = 6))
def zaN (I_ : zIn) (q_ : Nat) (b_ : Bool) (k_ : Nat) : Int32 := if zaB I_ q_ k_ = true ∧ (b_ = false ∨ ¬ I_ 31 40 k_ = 0) then 1 else 0
def zaL (I_ : zIn) (q_ : Nat) (b_ : Bool) : Nat → Nat → Int32 → Int32
  | 0, _, w_ => w_
  | n_ + 1, k_, w_ => zaL I_ q_ b_ n_ (k_ + 1) (w_ + zaN I_ q_ b_ k_)
def zasM (I_ : zIn) (q_ : Nat) (b_ : Bool) (N_ : Nat) : Int32 := zaL I_ q_ b_ N_ 0 0
def zsuM (I_ : zIn) (q_ N_ : Nat) : Bool := decide (3 ≤ zasM I_ q_ true N_) && decide (zasM I_ q_ false N_ ≤ 5 * zasM I_ q_ true N_)
