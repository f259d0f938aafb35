/-! CONTRACTS OF THE MODEL: minute, by an invariant -/
def zmiD (I_ : zIn) (v_ s_ : Nat) (l : List Nat) (m_ d_ : Nat) : Prop := zMq I_ (s_ / 2) ∧ I_ 30 25 v_ = Int32.ofNat m_ ∧ (s_ % 2 = 0 → zpkC I_ v_ (s_ / 2) = false → zmkd I_ (s_ / 2) = 2 → m_ < 3) ∧ (s_ % 2 = 0 → I_ 30 35 (s_ / 2) = Int32.ofNat v_) ∧ zRo I_ v_ (s_ :: l) ∧ (s_ % 2 = 0 → zlx (2 * (s_ / 2) + 1) (ztoL l (s_ / 2)) 0 none = some d_)
def zmiA (I_ : zIn) (v_ s_ : Nat) (l : List Nat) (m_ d_ : Nat) : zIn := if s_ % 2 = 1 ∧ zmkd I_ (s_ / 2) = 2 ∧ I_ 31 16 v_ = 0 ∧ I_ 31 22 v_ = 0 then zset (zset I_ 31 22 v_ 1) 30 21 v_ (zset I_ 31 22 v_ 1 30 21 v_ + 30) else zdnM I_ v_ s_ l m_ d_
def zmi1 (v_ : Nat) (I_ : zIn) (G_ : zIn → Prop) : Prop := (¬ I_ 31 19 v_ = 0 → I_ 30 21 v_ = I_ 7 0 2 → ∃ s_ l m_ d_, zmiD I_ v_ s_ l m_ d_ ∧ G_ (zmiA I_ v_ s_ l m_ d_)) ∧ (¬ (¬ I_ 31 19 v_ = 0 ∧ I_ 30 21 v_ = I_ 7 0 2) → G_ I_)
def zmi2 (v_ : Nat) (J_ : zIn) (G_ : zIn → Prop) : Prop := (J_ 31 19 v_ = 0 → J_ 30 18 v_ ≤ J_ 7 0 2 → ∃ l, zRo J_ v_ l ∧ (∀ s_ r_, l = s_ :: r_ → zMq J_ (s_ / 2) ∧ G_ (zlvM J_ v_ s_)) ∧ (l = [] → G_ J_)) ∧ (¬ (J_ 31 19 v_ = 0 ∧ J_ 30 18 v_ ≤ J_ 7 0 2) → G_ J_)
def zmiW (v_ : Nat) (I_ : zIn) (G_ : zIn → Prop) : Prop := zmi1 v_ I_ (fun J_ => zmi2 v_ J_ G_)
theorem znp0 {n_ : Nat} (hn : n_ < 1000) : ¬ Int32.ofNat (n_ + 1) ≤ 0 := by
  have h_ := zile (a := n_ + 1) (b := 0) (by omega) (by omega)
  exact fun e_ => absurd (h_.mp e_) (by omega)
