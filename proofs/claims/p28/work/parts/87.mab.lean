/-! CONTRACTS OF THE MODEL: absent -/
def zabM (J_ : zIn) (r_ : Nat) : zIn := if J_ 30 32 r_ = 0 then zset (zset J_ 7 0 0 0) 31 41 r_ 1 else zset J_ 7 0 0 2
