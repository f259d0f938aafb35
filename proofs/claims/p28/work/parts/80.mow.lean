/-! CONTRACTS OF THE MODEL: nearest, isOwed, hasLeftFor -/
def zneL (I_ : zIn) (x_ : Int32) : Nat → Nat → Int32 → Int32
  | 0, _, w_ => w_
  | n_ + 1, k_, w_ => zneL I_ x_ n_ (k_ + 1) (if ¬ I_ 31 4 k_ = 0 ∧ zspm x_ (Int32.ofNat k_) < w_ then zspm x_ (Int32.ofNat k_) else w_)
def znea (I_ : zIn) (x_ : Int32) : Int32 := zneL I_ x_ 36 0 99
def zwlk (I_ : zIn) (q_ : Nat) : Int32 := if ¬ I_ 7 0 3 = 0 ∧ ¬ I_ 30 7 q_ = 0 then I_ 30 9 q_ / 2 else I_ 30 9 q_
def zowM (I_ : zIn) (q_ : Nat) (x_ y_ : Int32) : Bool := decide (I_ 7 0 5 = 0) || decide (zwlk I_ q_ < znea I_ x_ + znea I_ y_)
def zhlf (I_ : zIn) (v_ r_ : Nat) : Bool := decide (¬ I_ 31 19 v_ = 0) && decide (I_ 30 26 (16 * v_) = Int32.ofNat (2 * r_))
theorem z16v {v_ : Nat} : 16 * Int32.ofNat v_ = Int32.ofNat (16 * v_) := by rw [Int32.ofNat_mul]; rfl
