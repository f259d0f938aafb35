/-! CONTRACTS OF THE MODEL: rider -/
def zriZ (J_ : zIn) (n_ : Nat) (k_ w_ a_ b_ : Int32) : zIn := zset (zset (zset (zset J_ 30 7 n_ k_) 30 8 n_ w_) 30 9 n_ a_) 31 10 n_ b_
def zriM (J_ : zIn) (n_ : Nat) (k_ w_ a_ b_ : Int32) : zIn := zset (zriZ J_ n_ k_ w_ a_ b_) 7 0 6 (zriZ J_ n_ k_ w_ a_ b_ 7 0 6 + 1)
