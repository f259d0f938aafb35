/-! CONTRACTS OF THE MODEL: order -/
theorem zidv {a_ b_ : Nat} (ha_ : a_ < 100000) (hb_ : b_ < 100000) : Int32.ofNat a_ / Int32.ofNat b_ = Int32.ofNat (a_ / b_) := by
  have hq : a_ / b_ ≤ a_ := Nat.div_le_self a_ b_
  apply Int32.toInt_inj.mp
  rw [Int32.toInt_div, Int32.toInt_ofNat_of_lt (by omega), Int32.toInt_ofNat_of_lt (by omega), Int32.toInt_ofNat_of_lt (by omega), ← Int.ofNat_tdiv]
  generalize a_ / b_ = q_ at hq ⊢
  exact Int.bmod_eq_of_le (by omega) (by omega)
theorem zirm {a_ b_ : Nat} (ha_ : a_ < 100000) (hb_ : b_ < 100000) : Int32.ofNat a_ - Int32.ofNat a_ / Int32.ofNat b_ * Int32.ofNat b_ = Int32.ofNat (a_ % b_) := by
  rw [zidv ha_ hb_, ← Int32.ofNat_mul, ← Int32.ofNat_sub _ _ (Nat.div_mul_le_self a_ b_), Nat.mod_eq_sub_div_mul]
section
variable {sc_ : zScr} {d_ m_ pc len_ a_ b0 : Nat} {ls : zWs} {rest_ : List zW} {I_ : zIn} {L_ : zLi} {Q_ : zPost} {imm_ : Int32} {q_ : Nat} {x_ y_ : Int32}
theorem zY.dv (hk : zcode m_ pc = some (.idiv, len_, imm_, q_, b0)) (hy : ¬ y_ = 0) (hY : zY sc_ (d_ + 1) m_ (pc + len_) ls (zwI (x_ / y_) :: rest_) I_ L_ a_ Q_) : zY sc_ (d_ + 1) m_ pc ls (zwI y_ :: zwI x_ :: rest_) I_ L_ a_ Q_ := by
  refine zY.go 1 ?_ hY
  have e_ : zpW .idiv imm_ ls (zwI y_ :: zwI x_ :: rest_) = some (ls, zwI (x_ / y_) :: rest_) := if_neg hy
  unfold zgo
  rw [hk]
  show (match zpW .idiv imm_ ls (zwI y_ :: zwI x_ :: rest_) with
        | none => none
        | some (ls', st') => zgo 0 m_ (pc + len_) ls' st' I_ L_) = _
  rw [e_]; rfl
theorem zY.rm (hk : zcode m_ pc = some (.irem, len_, imm_, q_, b0)) (hy : ¬ y_ = 0) (hY : zY sc_ (d_ + 1) m_ (pc + len_) ls (zwI (x_ - x_ / y_ * y_) :: rest_) I_ L_ a_ Q_) : zY sc_ (d_ + 1) m_ pc ls (zwI y_ :: zwI x_ :: rest_) I_ L_ a_ Q_ := by
  refine zY.go 1 ?_ hY
  have e_ : zpW .irem imm_ ls (zwI y_ :: zwI x_ :: rest_) = some (ls, zwI (x_ - x_ / y_ * y_) :: rest_) := if_neg hy
  unfold zgo
  rw [hk]
  show (match zpW .irem imm_ ls (zwI y_ :: zwI x_ :: rest_) with
        | none => none
        | some (ls', st') => zgo 0 m_ (pc + len_) ls' st' I_ L_) = _
  rw [e_]; rfl
end
/-- the order of a number -/
def zord : Nat → Nat → List Nat → List Nat
  | 0, _, _ => []
  | n_ + 1, c_, l => match l[c_ % (n_ + 1)]? with
    | none => []
    | some s_ => s_ :: zord n_ (c_ / (n_ + 1)) (l.eraseIdx (c_ % (n_ + 1)))
def zfd (J_ I_ : zIn) : Prop := ∀ c_ i_ f_, ¬ (c_ = 30 ∧ (i_ = 43 ∨ i_ = 51)) → ¬ (c_ = 7 ∧ i_ = 0 ∧ f_ = 42) → J_ c_ i_ f_ = I_ c_ i_ f_
theorem zfd.rfl {I_ : zIn} : zfd I_ I_ := fun _ _ _ _ _ => Eq.refl _
theorem zfd.trans {K_ J_ I_ : zIn} (h1 : zfd K_ J_) (h2 : zfd J_ I_) : zfd K_ I_ := fun c_ i_ f_ a_ b_ => (h1 c_ i_ f_ a_ b_).trans (h2 c_ i_ f_ a_ b_)
theorem zfd.set {J_ I_ : zIn} {j_ k_ : Nat} {x_ : Int32} (h_ : zfd J_ I_) (h1 : j_ = 43 ∨ j_ = 51) : zfd (zset J_ 30 j_ k_ x_) I_ := fun c_ i_ f_ a_ b_ => (zset_ne (fun e_ => a_ ⟨e_.1, by rw [e_.2.1]; exact h1⟩)).trans (h_ c_ i_ f_ a_ b_)
theorem zfd.set7 {J_ I_ : zIn} {x_ : Int32} (h_ : zfd J_ I_) : zfd (zset J_ 7 0 42 x_) I_ := fun c_ i_ f_ a_ b_ => (zset_ne b_).trans (h_ c_ i_ f_ a_ b_)
def zLkd (I_ : zIn) (l : List Nat) : Prop := ∀ k_ s_, l[k_]? = some s_ → I_ 30 51 k_ = Int32.ofNat s_ ∧ s_ < 120
def zshI : Nat → Nat → zIn → zIn
  | 0, _, I_ => I_
  | m_ + 1, k_, I_ => zshI m_ (k_ + 1) (zset I_ 30 51 k_ (I_ 30 51 (k_ + 1)))
theorem zshI_ne {c_ i_ f_ : Nat} (h_ : ¬ (c_ = 30 ∧ i_ = 51)) : ∀ (m_ k_ : Nat) (I_ : zIn), zshI m_ k_ I_ c_ i_ f_ = I_ c_ i_ f_
  | 0, _, _ => rfl
  | m_ + 1, k_, I_ => by
    unfold zshI
    rw [zshI_ne h_ m_ (k_ + 1) _]
    exact zset_ne (fun e_ => h_ ⟨e_.1, e_.2.1⟩)
theorem zshI_at : ∀ (m_ k_ : Nat) (I_ : zIn) (j_ : Nat), zshI m_ k_ I_ 30 51 j_ = if k_ ≤ j_ ∧ j_ < k_ + m_ then I_ 30 51 (j_ + 1) else I_ 30 51 j_
  | 0, k_, I_, j_ => by
    rw [if_neg (by omega)]; rfl
  | m_ + 1, k_, I_, j_ => by
    unfold zshI
    rw [zshI_at m_ (k_ + 1) _ j_]
    by_cases h1 : k_ + 1 ≤ j_ ∧ j_ < k_ + 1 + m_
    · rw [if_pos h1, if_pos (by omega), zset_ne (by omega)]
    · rw [if_neg h1]
      by_cases h2 : j_ = k_
      · subst h2
        rw [if_pos (by omega), zset_is]
      · rw [if_neg (by omega), zset_ne (by omega)]
theorem zshI_fd {m_ k_ : Nat} {I_ : zIn} : zfd (zshI m_ k_ I_) I_ := fun _ _ _ a_ _ => zshI_ne (fun e_ => a_ ⟨e_.1, Or.inr e_.2⟩) m_ k_ I_
def zorC (l : List Nat) (k_ s_ : Nat) : Bool := decide (s_ % 2 = 0) || decide (zox (zlx (s_ - 1) l 0 none) ≤ Int32.ofNat k_)
def zorA (l : List Nat) : List Nat → Nat → Bool → Bool
  | [], _, b_ => b_
  | s_ :: r_, k_, b_ => zorA l r_ (k_ + 1) (b_ && zorC l k_ s_)
def zorB (I_ : zIn) (v_ : Nat) (l : List Nat) (c_ : Nat) : Bool := zorA (zord l.length c_ l) (zord l.length c_ l) 0 (decide (I_ 31 19 v_ = 0) || decide ((zord l.length c_ l).head? = l.head?))
theorem zord_len : ∀ (n_ c_ : Nat) (l : List Nat), l.length = n_ → (zord n_ c_ l).length = n_
  | 0, _, _, _ => rfl
  | n_ + 1, c_, l, h_ => by
    have ha_ : c_ % (n_ + 1) < n_ + 1 := Nat.mod_lt _ (by omega)
    obtain ⟨s_, hs⟩ : ∃ s_, l[c_ % (n_ + 1)]? = some s_ := ⟨_, List.getElem?_eq_getElem (by omega)⟩
    have ho : zord (n_ + 1) c_ l = s_ :: zord n_ (c_ / (n_ + 1)) (l.eraseIdx (c_ % (n_ + 1))) := by
      show (match l[c_ % (n_ + 1)]? with | none => [] | some s_ => s_ :: zord n_ (c_ / (n_ + 1)) (l.eraseIdx (c_ % (n_ + 1)))) = _
      rw [hs]
    rw [ho, List.length_cons, zord_len n_ _ _ (by rw [List.length_eraseIdx_of_lt (by omega)]; omega)]
def zcyI : Nat → Nat → zIn → zIn
  | 0, _, I_ => I_
  | m_ + 1, k_, I_ => zcyI m_ (k_ + 1) (zset I_ 30 51 k_ (I_ 30 43 k_))
theorem zcyI_ne {c_ i_ f_ : Nat} (h_ : ¬ (c_ = 30 ∧ i_ = 51)) : ∀ (m_ k_ : Nat) (I_ : zIn), zcyI m_ k_ I_ c_ i_ f_ = I_ c_ i_ f_
  | 0, _, _ => rfl
  | m_ + 1, k_, I_ => by
    unfold zcyI
    rw [zcyI_ne h_ m_ (k_ + 1) _]
    exact zset_ne (fun e_ => h_ ⟨e_.1, e_.2.1⟩)
theorem zcyI_at : ∀ (m_ k_ : Nat) (I_ : zIn) (j_ : Nat), zcyI m_ k_ I_ 30 51 j_ = if k_ ≤ j_ ∧ j_ < k_ + m_ then I_ 30 43 j_ else I_ 30 51 j_
  | 0, k_, I_, j_ => by
    rw [if_neg (by omega)]; rfl
  | m_ + 1, k_, I_, j_ => by
    unfold zcyI
    rw [zcyI_at m_ (k_ + 1) _ j_]
    by_cases h1 : k_ + 1 ≤ j_ ∧ j_ < k_ + 1 + m_
    · rw [if_pos h1, if_pos (by omega), zset_ne (by omega)]
    · rw [if_neg h1]
      by_cases h2 : j_ = k_
      · subst h2
        rw [if_pos (by omega), zset_is]
      · rw [if_neg (by omega), zset_ne (by omega)]
