/-! CONTRACTS OF THE MODEL: vehicleOf, stopOf, drive -/
def zvoM (K_ : zIn) (v_ : Nat) (l : List Nat) (m_ : Nat) : Nat → Int32 × zIn
  | 0 => (K_ 30 17 v_, K_)
  | 1 => (K_ 30 18 v_, K_)
  | 2 => (Int32.ofNat l.length, K_)
  | 3 => (K_ 30 23 v_, K_)
  | 4 => (K_ 30 25 v_, K_)
  | 5 => (zbo (K_ 31 19 v_), K_)
  | 6 => (zbo (K_ 31 16 v_), K_)
  | 7 => (if l = [] then -1 else zmba (zpln K_ v_ l) v_ l, zpln K_ v_ l)
  | _ => (if (zmrT K_ v_ l m_).1 = true then 1 else 0, (zmrT K_ v_ l m_).2)
def zsoM (K_ : zIn) (s_ j_ : Nat) : Nat → Int32
  | 0 => Int32.ofNat (s_ / 2)
  | 1 => Int32.ofNat (s_ % 2)
  | 2 => K_ 30 44 j_
  | _ => K_ 30 45 j_
