/-! CONTRACTS OF THE MODEL: ask -/
def zaqF (y_ z_ w_ : Int32) : Bool := zbt y_ 0 35 && (zbt z_ 0 35 && (zbt w_ 0 600 && decide (¬ y_ = z_)))
def zak3 (J_ : zIn) (n_ : Nat) (x_ y_ z_ : Int32) : zIn := zset (zset (zset J_ 30 29 n_ x_) 30 30 n_ y_) 30 31 n_ z_
def zak4 (J_ : zIn) (n_ : Nat) (x_ y_ z_ : Int32) : zIn := zset (zak3 J_ n_ x_ y_ z_) 30 39 n_ (zak3 J_ n_ x_ y_ z_ 7 0 1)
def zakZ (J_ : zIn) (n_ : Nat) (x_ y_ z_ : Int32) : zIn := zset (zset (zset (zset (zak4 J_ n_ x_ y_ z_) 30 36 n_ (-1)) 30 37 n_ (-1)) 30 38 n_ (-1)) 30 32 n_ 0
def zakD (K_ : zIn) (n_ : Nat) (w_ : Int32) : zIn := zset (zset (zset (zset K_ 30 32 n_ 6) 30 33 n_ w_) 30 34 n_ (-1)) 30 35 n_ (-1)
def zakE (K_ : zIn) : zIn := zset K_ 7 0 28 (K_ 7 0 28 + 1)
def zakM (J_ : zIn) (n_ q_ : Nat) (y_ z_ w_ : Int32) (N_ : Nat) (R_ : Nat → List Nat) (M_ : Nat → Nat) : zIn :=
  if zowM J_ q_ y_ z_ = false then zakE (zakD (zakZ J_ n_ (Int32.ofNat q_) y_ z_) n_ 1)
  else if zsuM J_ q_ n_ = true then zakE (zakD (zakZ J_ n_ (Int32.ofNat q_) y_ z_) n_ 2)
  else if (zpNA (zakZ J_ n_ (Int32.ofNat q_) y_ z_) N_ R_ M_ n_ w_).1 = true then zakE (zpNA (zakZ J_ n_ (Int32.ofNat q_) y_ z_) N_ R_ M_ n_ w_).2
  else zakE (zakD (zpNA (zakZ J_ n_ (Int32.ofNat q_) y_ z_) N_ R_ M_ n_ w_).2 n_ 3)
