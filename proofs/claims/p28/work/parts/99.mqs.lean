/-! CONTRACTS OF THE MODEL: seatsAnew, patterns, count, money -/
def zsqN (J_ : zIn) (v_ k_ : Nat) : Int32 := if J_ 30 32 k_ = 1 ∧ J_ 30 35 k_ = Int32.ofNat v_ then zmse J_ k_ else 0
def zsqL (J_ : zIn) (v_ : Nat) : Nat → Nat → Int32 → Int32
  | 0, _, x_ => x_
  | n_ + 1, k_, x_ => zsqL J_ v_ n_ (k_ + 1) (x_ + zsqN J_ v_ k_)
def zptA (J_ : zIn) (k_ : Nat) : Int32 := if J_ 30 33 k_ = 1 ∨ J_ 30 33 k_ = 2 then 0 else 1
def zptR (J_ : zIn) (k_ : Nat) : Int32 := if J_ 30 33 k_ = 3 then 1 else 0
def zptS (J_ : zIn) (k_ : Nat) : Int32 := if J_ 30 32 k_ = 2 then 1 else 0
def zptB (J_ : zIn) (k_ : Nat) : Int32 := if J_ 30 32 k_ = 2 ∧ (zilM J_ k_ = true ∨ zigM J_ k_ = true) then 1 else 0
def zptV (a_ r_ s_ b_ : Int32) : Int32 := (if 2 ≤ r_ ∧ a_ < 20 * r_ then 1 else 0) + (if s_ < 10 * b_ then 2 else 0)
def zptL (J_ : zIn) : Nat → Nat → Int32 → Int32 → Int32 → Int32 → Int32
  | 0, _, a_, r_, s_, b_ => zptV a_ r_ s_ b_
  | n_ + 1, k_, a_, r_, s_, b_ => if J_ 7 0 1 - 20 < J_ 30 39 k_ then zptL J_ n_ (k_ + 1) (a_ + zptA J_ k_) (r_ + zptR J_ k_) (s_ + zptS J_ k_) (b_ + zptB J_ k_) else zptL J_ n_ (k_ + 1) a_ r_ s_ b_
def zctM (J_ : zIn) (r_ : Nat) : Nat → Bool
  | 7 => zilM J_ r_
  | 8 => zigM J_ r_
  | 9 => decide (¬ J_ 31 40 r_ = 0)
  | k_ => decide (J_ 30 32 r_ = Int32.ofNat k_)
def zctL (J_ : zIn) (w_ : Nat) : Nat → Nat → Int32 → Int32
  | 0, _, x_ => x_
  | n_ + 1, k_, x_ => zctL J_ w_ n_ (k_ + 1) (x_ + if zctM J_ k_ w_ = true then 1 else 0)
def zmoN (J_ : zIn) (k_ : Nat) : Int32 := if J_ 30 32 k_ = 2 ∧ zilM J_ k_ = false ∧ zigM J_ k_ = false then 200 + 20 * zspm (J_ 30 30 k_) (J_ 30 31 k_) else 0
def zmoL (J_ : zIn) : Nat → Nat → Int64 → Int64
  | 0, _, x_ => x_
  | n_ + 1, k_, x_ => zmoL J_ n_ (k_ + 1) (x_ + (zmoN J_ k_).toInt64)
