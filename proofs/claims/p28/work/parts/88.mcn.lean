/-! CONTRACTS OF THE MODEL: cancel -/
def zcn3 (J_ : zIn) (v_ : Nat) (l : List Nat) (r_ d_ : Nat) : zIn := zset (ztoF (zset J_ 7 0 0 0) v_ l r_ d_) 30 32 r_ 4
def zcn4 (J_ : zIn) (v_ : Nat) (l : List Nat) (r_ d_ : Nat) : zIn := zset (zcn3 J_ v_ l r_ d_) 31 40 r_ (if zcn3 J_ v_ l r_ d_ 30 34 r_ - zcn3 J_ v_ l r_ d_ 7 0 2 < 60 then 1 else 0)
