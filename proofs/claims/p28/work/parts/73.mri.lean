/-! CONTRACTS OF THE MODEL: isRight -/
def zfx (J_ I_ : zIn) : Prop := ∀ c_ i_ f_, ¬ (c_ = 30 ∧ 44 ≤ i_ ∧ i_ ≤ 46) → J_ c_ i_ f_ = I_ c_ i_ f_
theorem zfx.rfl {I_ : zIn} : zfx I_ I_ := fun _ _ _ _ => Eq.refl _
theorem zfx.set {J_ I_ : zIn} {j_ k_ : Nat} {x_ : Int32} (h_ : zfx J_ I_) (h1 : 44 ≤ j_) (h2 : j_ ≤ 46) : zfx (zset J_ 30 j_ k_ x_) I_ := fun c_ i_ f_ hc_ => (zset_ne (fun e_ => hc_ ⟨e_.1, by omega, by omega⟩)).trans (h_ c_ i_ f_ hc_)
theorem zfx.trans {K_ J_ I_ : zIn} (h1 : zfx K_ J_) (h2 : zfx J_ I_) : zfx K_ I_ := fun c_ i_ f_ hc_ => (h1 c_ i_ f_ hc_).trans (h2 c_ i_ f_ hc_)
theorem zfx.tr {J_ I_ : zIn} {l : List Nat} (h_ : zfx J_ I_) (hl : zTr I_ l) : zTr J_ l := ⟨(h_ 7 0 42 (by simp)).trans hl.1, hl.2.1, fun k_ s_ hs => ⟨(h_ 30 43 k_ (by simp)).trans (hl.2.2 k_ s_ hs).1, (hl.2.2 k_ s_ hs).2⟩⟩
theorem zfx.mq {J_ I_ : zIn} {q_ : Nat} (h_ : zfx J_ I_) (hq : zMq I_ q_) : zMq J_ q_ := by
  unfold zMq at *
  rw [h_ 30 29 q_ (by simp)]
  exact hq
theorem zfx.kd {J_ I_ : zIn} (h_ : zfx J_ I_) (q_ : Nat) : zmkd J_ q_ = zmkd I_ q_ := by
  unfold zmkd zmrd
  rw [h_ 30 29 q_ (by simp), h_ 30 7 _ (by simp)]
theorem zplm_fx {v_ : Nat} : ∀ (l : List Nat) (k_ : Nat) (lv p_ : Int32) (I_ : zIn), zfx (zplm v_ l k_ lv p_ I_) I_
  | [], _, _, _, _ => zfx.rfl
  | s_ :: r_, k_, lv, p_, I_ => by
    unfold zplm
    refine (zplm_fx r_ (k_ + 1) _ _ _).trans ?_
    unfold zpl1
    split
    · exact (zfx.rfl.set (by decide) (by decide)).set (by decide) (by decide)
    · exact (zfx.rfl.set (by decide) (by decide)).set (by decide) (by decide)
theorem zpln_fx {I_ : zIn} {v_ : Nat} {l : List Nat} : zfx (zpln I_ v_ l) I_ := zplm_fx _ _ _ _ _
def zcpS (v_ : Nat) : Nat → Nat → zIn → zIn
  | 0, _, I_ => I_
  | n_ + 1, k_, I_ => zcpS v_ n_ (k_ + 1) (zset I_ 30 46 k_ (I_ 30 24 (3 * v_ + k_)))
theorem zcpS_fx {v_ : Nat} : ∀ (n_ k_ : Nat) (I_ : zIn), zfx (zcpS v_ n_ k_ I_) I_
  | 0, _, _ => zfx.rfl
  | n_ + 1, k_, I_ => (zcpS_fx n_ (k_ + 1) _).trans (zfx.rfl.set (by decide) (by decide))
def zmba (I_ : zIn) (v_ : Nat) (l : List Nat) : Int32 := I_ 30 45 (l.length - 1) + 2 * zspm (zmpl I_ (l.getLast?.getD 0)) (I_ 30 12 v_)
def zmrE (I_ : zIn) (v_ : Nat) (l : List Nat) : Bool := l.isEmpty || decide (zmba I_ v_ l ≤ 600)
def zmch (I_ : zIn) (s_ : Nat) : Nat := if zmkd I_ (s_ / 2) = 2 then 1 else 0
def zmsA (I_ : zIn) (m_ s_ : Nat) : zIn := if zmkd I_ (s_ / 2) = 2 then zset I_ 30 46 m_ (Int32.ofNat (s_ / 2)) else I_
def zmrP (I_ : zIn) (v_ : Nat) (l : List Nat) (k_ : Nat) (u_ : Int32) (m_ s_ : Nat) : Bool := !zmtl I_ l k_ s_ && (decide (u_ + zmse I_ (s_ / 2) ≤ zmsA I_ m_ s_ 30 13 v_) && decide (Int32.ofNat (m_ + zmch I_ s_) ≤ zmsA I_ m_ s_ 30 14 v_))
def zmrD (I_ : zIn) (l : List Nat) (k_ m_ s_ : Nat) : Bool := !zmtl I_ l k_ s_ && (decide (zmch I_ s_ = 0) || decide (I_ 30 46 (m_ - 1) = Int32.ofNat (s_ / 2)))
def zmrF (v_ : Nat) (l : List Nat) : List Nat → Nat → Int32 → Nat → Bool → zIn → Bool × zIn
  | [], _, _, _, b_, I_ => (b_ && zmrE I_ v_ l, I_)
  | s_ :: r_, k_, u_, m_, b_, I_ =>
    if b_ = false then (false, I_)
    else if s_ % 2 = 0 then zmrF v_ l r_ (k_ + 1) (u_ + zmse I_ (s_ / 2)) (m_ + zmch I_ s_) (zmrP I_ v_ l k_ u_ m_ s_) (zmsA I_ m_ s_)
    else zmrF v_ l r_ (k_ + 1) (u_ - zmse I_ (s_ / 2)) (m_ - zmch I_ s_) (zmrD I_ l k_ m_ s_) I_
def zmrO (I_ : zIn) : List Nat → Nat → Prop
  | [], _ => True
  | s_ :: r_, m_ => if s_ % 2 = 0 then m_ < 24 ∧ zmrO I_ r_ (m_ + zmch I_ s_) else (zmch I_ s_ = 0 ∨ 1 ≤ m_ ∧ m_ ≤ 24) ∧ zmrO I_ r_ (m_ - zmch I_ s_)
theorem zmch_fx {J_ I_ : zIn} (h_ : zfx J_ I_) (s_ : Nat) : zmch J_ s_ = zmch I_ s_ := by
  unfold zmch
  rw [h_.kd]
theorem zmrO_fx {J_ I_ : zIn} (h_ : zfx J_ I_) : ∀ (l : List Nat) (m_ : Nat), zmrO I_ l m_ → zmrO J_ l m_
  | [], _, _ => trivial
  | s_ :: r_, m_, hm_ => by
    unfold zmrO at *
    rw [zmch_fx h_]
    split
    · rename_i hs
      rw [if_pos hs] at hm_
      exact ⟨hm_.1, zmrO_fx h_ r_ _ hm_.2⟩
    · rename_i hs
      rw [if_neg hs] at hm_
      exact ⟨hm_.1, zmrO_fx h_ r_ _ hm_.2⟩
theorem zmsA_fx {I_ : zIn} {m_ s_ : Nat} : zfx (zmsA I_ m_ s_) I_ := by
  unfold zmsA
  split
  · exact zfx.rfl.set (by decide) (by decide)
  · exact zfx.rfl
def zbi (b_ : Bool) : Int32 := if b_ = true then 1 else 0
theorem z3k {v_ k_ : Nat} : 3 * Int32.ofNat v_ + Int32.ofNat k_ = Int32.ofNat (3 * v_ + k_) := by rw [Int32.ofNat_add, Int32.ofNat_mul]; rfl
def zmrT (I_ : zIn) (v_ : Nat) (l : List Nat) (m_ : Nat) : Bool × zIn := zmrF v_ l l 0 (zpln I_ v_ l 30 23 v_) m_ true (zcpS v_ m_ 0 (zpln I_ v_ l))
