/-! CONTRACTS OF THE MODEL: promiseNear, takeOut -/
def zpN1 (N_ : Nat) (R_ : Nat → List Nat) (M_ : Nat → Nat) (r_ : Nat) (x_ y_ : Int32) (I_ : zIn) : Bool × zIn := if (zprA I_ N_ R_ M_ r_ (x_ + y_)).1 = true then zprA I_ N_ R_ M_ r_ (x_ + y_) else zprA (zprA I_ N_ R_ M_ r_ (x_ + y_)).2 N_ R_ M_ r_ (x_ - y_)
def zpNL (N_ : Nat) (R_ : Nat → List Nat) (M_ : Nat → Nat) (r_ : Nat) (x_ : Int32) : Nat → Nat → Bool × zIn → Bool × zIn
  | 0, _, A_ => A_
  | n_ + 1, k_, A_ => if A_.1 = true then A_ else zpNL N_ R_ M_ r_ x_ n_ (k_ + 1) (zpN1 N_ R_ M_ r_ x_ (Int32.ofNat (10 * k_)) A_.2)
def zpNA (I_ : zIn) (N_ : Nat) (R_ : Nat → List Nat) (M_ : Nat → Nat) (r_ : Nat) (x_ : Int32) : Bool × zIn := zpNL N_ R_ M_ r_ x_ 6 1 (zprA I_ N_ R_ M_ r_ x_)
theorem z10k {k_ : Nat} : Int32.ofNat (10 * k_) + 10 = Int32.ofNat (10 * (k_ + 1)) := (Int32.ofNat_add (10 * k_) 10).symm
def ztoL (l : List Nat) (r_ : Nat) : List Nat := match zlx (2 * r_) l 0 none with
  | none => l
  | some p_ => l.eraseIdx p_
def ztoI (I_ : zIn) (v_ : Nat) (l : List Nat) (r_ : Nat) : zIn := match zlx (2 * r_) l 0 none with
  | none => ztry I_ v_ l.length
  | some p_ => ztst (ztry I_ v_ l.length) l.length p_
theorem ztoI_tr {I_ : zIn} {v_ r_ : Nat} {l : List Nat} (h_ : zRo I_ v_ l) : zTr (ztoI I_ v_ l r_) (ztoL l r_) := by
  have t0_ := ztry_tr h_
  unfold ztoI ztoL
  cases e_ : zlx (2 * r_) l 0 none with
  | none => exact t0_
  | some p_ => exact ztst_tr t0_ (zlx_lt l 0 none l.length (by omega) (fun _ h_ => by cases h_) p_ e_)
def ztoF (I_ : zIn) (v_ : Nat) (l : List Nat) (r_ d_ : Nat) : zIn := zkep (ztst (ztoI I_ v_ l r_) (ztoL l r_).length d_) v_ ((ztoL l r_).length - 1)
