/-! CONTRACTS OF THE MODEL: find, driveOfTry, isTooLate -/
def zlx (t_ : Nat) : List Nat → Nat → Option Nat → Option Nat
  | [], _, o => o
  | s_ :: r_, k_, o => zlx t_ r_ (k_ + 1) (if s_ = t_ then some k_ else o)
def zox : Option Nat → Int32
  | none => -1
  | some j_ => Int32.ofNat j_
theorem zlx_lt {t_ : Nat} : ∀ (l : List Nat) (k_ : Nat) (o : Option Nat) (N_ : Nat), k_ + l.length ≤ N_ → (∀ j_, o = some j_ → j_ < N_) → ∀ j_, zlx t_ l k_ o = some j_ → j_ < N_
  | [], _, _, _, _, h_ => h_
  | s_ :: r_, k_, o, N_, hk, h_ => by
    unfold zlx
    have hk' : k_ + 1 + r_.length ≤ N_ := by simp at hk; omega
    refine zlx_lt r_ (k_ + 1) _ N_ hk' (fun j_ hj => ?_)
    split at hj
    · cases hj; simp at hk; omega
    · exact h_ j_ hj
def zkm (I_ : zIn) : List Nat → Int32 → Int32 → Int32 × Int32
  | [], p_, w_ => (p_, w_)
  | s_ :: r_, p_, w_ => zkm I_ r_ (zmpl I_ s_) (w_ + 2 * zspm p_ (zmpl I_ s_))
def zdm (I_ : zIn) (l : List Nat) (p_ base_ : Int32) : Int32 := (zkm I_ l p_ 0).2 + 2 * zspm (zkm I_ l p_ 0).1 base_
theorem z2q {q_ : Nat} : 2 * Int32.ofNat q_ = Int32.ofNat (2 * q_) := by rw [Int32.ofNat_mul]; rfl
/-- when the pick of a request ends -/
def zpeo (I_ : zIn) (l : List Nat) (q_ : Nat) : Int32 := match zlx (2 * q_) l 0 none with
  | none => I_ 30 37 q_
  | some j_ => I_ 30 45 j_
def zmtl (I_ : zIn) (l : List Nat) (k_ s_ : Nat) : Bool := if s_ % 2 = 0 then decide (I_ 30 34 (s_ / 2) + 20 < I_ 30 44 k_) else decide (zmlt I_ (s_ / 2) (zpeo I_ l (s_ / 2)) < I_ 30 44 k_)
