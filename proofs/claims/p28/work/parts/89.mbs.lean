/-! CONTRACTS OF THE MODEL: busStop -/
def zbsD (J_ : zIn) (p_ : Nat) (b_ : Int32) : Int32 := if zbo (J_ 31 4 p_) = b_ then 0 else if b_ = 0 then -1 else 1
def zbsM (J_ : zIn) (p_ : Nat) (b_ : Int32) : zIn := zset (zset J_ 7 0 5 (J_ 7 0 5 + zbsD J_ p_ b_)) 31 4 p_ b_
