/-! CONTRACTS OF THE MODEL: the route that is tried -/
theorem zof_eq {a_ b_ : Nat} (ha_ : a_ < 100000) (hb_ : b_ < 100000) : Int32.ofNat a_ = Int32.ofNat b_ ↔ a_ = b_ := ⟨fun e_ => by have := zicl ha_; rw [e_, zicl hb_] at this; exact this.symm, fun e_ => by rw [e_]⟩
theorem z16k {v_ k_ : Nat} : 16 * Int32.ofNat v_ + Int32.ofNat k_ = Int32.ofNat (16 * v_ + k_) := by rw [Int32.ofNat_add, Int32.ofNat_mul]; rfl
/-- tries holds l -/
def zTr (I_ : zIn) (l : List Nat) : Prop := I_ 7 0 42 = Int32.ofNat l.length ∧ l.length ≤ 20 ∧ ∀ k_ s_, l[k_]? = some s_ → I_ 30 43 k_ = Int32.ofNat s_ ∧ s_ < 120
def ztrI (v_ : Nat) : Nat → Nat → zIn → zIn
  | 0, _, I_ => I_
  | m_ + 1, k_, I_ => ztrI v_ m_ (k_ + 1) (zset I_ 30 43 k_ (I_ 30 26 (16 * v_ + k_)))
def ztry (I_ : zIn) (v_ n_ : Nat) : zIn := ztrI v_ n_ 0 (zset I_ 7 0 42 (Int32.ofNat n_))
/-- keepTry -/
def zkpI (v_ : Nat) : Nat → Nat → zIn → zIn
  | 0, _, I_ => I_
  | m_ + 1, k_, I_ => zkpI v_ m_ (k_ + 1) (zset I_ 30 26 (16 * v_ + k_) (I_ 30 43 k_))
def zkep (I_ : zIn) (v_ n_ : Nat) : zIn := zkpI v_ n_ 0 (zset I_ 30 27 v_ (Int32.ofNat n_))
/-- putStop: n stops are moved up, from the last one down -/
def zpsI : Nat → Nat → zIn → zIn
  | 0, _, I_ => I_
  | m_ + 1, k_, I_ => zpsI m_ (k_ - 1) (zset I_ 30 43 k_ (I_ 30 43 (k_ - 1)))
theorem zpsI_ne {c_ i_ f_ : Nat} (h_ : ¬ (c_ = 30 ∧ i_ = 43)) : ∀ (m_ k_ : Nat) (I_ : zIn), zpsI m_ k_ I_ c_ i_ f_ = I_ c_ i_ f_
  | 0, _, _ => rfl
  | m_ + 1, k_, I_ => by
    unfold zpsI
    rw [zpsI_ne h_ m_, zset_ne (fun e_ => h_ ⟨e_.1, e_.2.1⟩)]
def zpst (I_ : zIn) (n_ a_ s_ : Nat) : zIn := zset (zset (zpsI (n_ - a_) n_ I_) 30 43 a_ (Int32.ofNat s_)) 7 0 42 (Int32.ofNat (n_ + 1))
/-- takeStop -/
def ztsI : Nat → Nat → zIn → zIn
  | 0, _, I_ => I_
  | m_ + 1, k_, I_ => ztsI m_ (k_ + 1) (zset I_ 30 43 k_ (I_ 30 43 (k_ + 1)))
def ztst (I_ : zIn) (n_ a_ : Nat) : zIn := ztsI (n_ - 1 - a_) a_ (zset I_ 7 0 42 (Int32.ofNat (n_ - 1)))
