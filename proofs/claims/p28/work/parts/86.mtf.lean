/-! CONTRACTS OF THE MODEL: traffic -/
def ztf1 (J_ : zIn) (v_ : Nat) (y_ : Int32) : zIn := zset J_ 30 20 v_ (J_ 30 20 v_ + y_)
def ztf2 (J_ : zIn) (v_ : Nat) (y_ : Int32) : zIn := zset (ztf1 J_ v_ y_) 30 21 v_ (ztf1 J_ v_ y_ 30 21 v_ + y_)
def ztf3 (J_ : zIn) (v_ : Nat) (y_ : Int32) : zIn := zset J_ 30 18 v_ ((if J_ 7 0 2 < J_ 30 18 v_ then J_ 30 18 v_ else J_ 7 0 2) + y_)
def ztfM (J_ : zIn) (v_ : Nat) (y_ : Int32) : zIn := if J_ 31 19 v_ = 0 then ztf3 J_ v_ y_ else ztf2 J_ v_ y_
def ztfV (J_ : zIn) (v_ : Nat) (y_ : Int32) : Int32 := if J_ 31 19 v_ = 0 then ztf3 J_ v_ y_ 30 18 v_ else ztf2 J_ v_ y_ 30 21 v_
