/-! CONTRACTS OF THE MODEL: riderOf, requestOf -/
def zroM (J_ : zIn) (q_ N_ : Nat) : Nat → Int32
  | 0 => zasM J_ q_ false N_
  | 1 => zasM J_ q_ true N_
  | _ => if zsuM J_ q_ N_ = true then 1 else 0
def zrqM (J_ : zIn) (r_ : Nat) : Nat → Int32
  | 0 => J_ 30 32 r_
  | 1 => J_ 30 33 r_
  | 2 => J_ 30 34 r_
  | 3 => J_ 30 35 r_
  | 4 => J_ 30 36 r_
  | 5 => J_ 30 37 r_
  | 6 => J_ 30 38 r_
  | 7 => if zilM J_ r_ = true then 1 else 0
  | 8 => if zigM J_ r_ = true then 1 else 0
  | 9 => J_ 30 39 r_
  | _ => zbo (J_ 31 40 r_)
