/-! CONTRACTS OF THE MODEL: dropped, picked -/
def zdr2 (I_ : zIn) (v_ r_ : Nat) : zIn := zset (zset I_ 30 38 r_ (I_ 30 20 v_)) 30 32 r_ 2
def zdr3 (I_ : zIn) (v_ r_ : Nat) : zIn := zset (zdr2 I_ v_ r_) 30 23 v_ (zdr2 I_ v_ r_ 30 23 v_ - zmse (zdr2 I_ v_ r_) r_)
def zdrM (I_ : zIn) (v_ r_ : Nat) : zIn := zset (zdr3 I_ v_ r_) 30 25 v_ (zdr3 I_ v_ r_ 30 25 v_ - (if zmkd (zdr3 I_ v_ r_) r_ = 2 then 1 else 0))
def zpk2 (I_ : zIn) (v_ r_ : Nat) : zIn := zset (zset I_ 30 36 r_ (I_ 30 20 v_)) 30 37 r_ (zset I_ 30 36 r_ (I_ 30 20 v_) 30 21 v_)
def zpkN (J_ : zIn) (r_ : Nat) : zIn := zset (zset J_ 30 32 r_ (if J_ 31 41 r_ = 0 then 5 else 3)) 31 40 r_ (zbo (zset J_ 30 32 r_ (if J_ 31 41 r_ = 0 then 5 else 3) 31 41 r_))
def zpk4 (J_ : zIn) (v_ r_ : Nat) : zIn := zset (zset J_ 30 32 r_ 1) 30 23 v_ (zset J_ 30 32 r_ 1 30 23 v_ + zmse (zset J_ 30 32 r_ 1) r_)
def zpk5 (J_ : zIn) (v_ r_ m_ : Nat) : zIn := zset (zpk4 J_ v_ r_) 30 24 (3 * v_ + m_) (Int32.ofNat r_)
def zpkS (J_ : zIn) (v_ r_ m_ : Nat) : zIn := if zmkd J_ r_ = 2 then zset (zpk5 J_ v_ r_ m_) 30 25 v_ (zpk5 J_ v_ r_ m_ 30 25 v_ + 1) else zpk4 J_ v_ r_
def zpkC (I_ : zIn) (v_ r_ : Nat) : Bool := decide (¬ I_ 31 41 r_ = 0) || (decide (zmkd I_ r_ = 2) && decide (I_ 31 16 v_ = 0))
def zpkM (I_ : zIn) (v_ r_ m_ : Nat) (l : List Nat) (d_ : Nat) : zIn := if zpkC I_ v_ r_ = true then ztoF (zpkN (zpk2 I_ v_ r_) r_) v_ l r_ d_ else zpkS (zpk2 I_ v_ r_) v_ r_ m_
