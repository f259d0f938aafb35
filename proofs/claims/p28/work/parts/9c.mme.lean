/-! CONTRACTS OF THE MODEL: mended, mend -/
def zmdK (J_ : zIn) (v_ : Nat) (l : List Nat) : zIn := zpln (ztry J_ v_ l.length) v_ l
def zmdA (J_ : zIn) (v_ : Nat) (l : List Nat) (r_ d' N_ : Nat) (R_ : Nat → List Nat) (M_ : Nat → Nat) : Bool × zIn := zputA (ztoF (zmdK J_ v_ l) v_ l r_ d') N_ R_ M_ r_
def zmdR (A_ : zIn) (v_ : Nat) (l : List Nat) (r_ p_ d_ : Nat) : zIn := zkep (zlkT A_ v_ l r_ p_ d_) v_ (l.length + 2)
def zmdM (J_ : zIn) (v_ : Nat) (l : List Nat) (r_ p_ d_ d' N_ : Nat) (R_ : Nat → List Nat) (M_ : Nat → Nat) : Bool × zIn :=
  if zmtl (zmdK J_ v_ l) l p_ (2 * r_) = false ∧ zmtl (zmdK J_ v_ l) l d_ (2 * r_ + 1) = false then (false, zmdK J_ v_ l)
  else if (zmdA J_ v_ l r_ d' N_ R_ M_).1 = true then zmdA J_ v_ l r_ d' N_ R_ M_ else (false, zmdR (zmdA J_ v_ l r_ d' N_ R_ M_).2 v_ (R_ v_) r_ p_ d_)
theorem zmdK_fz {J_ : zIn} {v_ : Nat} {l : List Nat} : zfz (zmdK J_ v_ l) J_ := (zfx.fz zpln_fx).trans (zfz.try zfz.rfl)
def zlwI : List Nat → Nat → zIn → zIn
  | [], _, I_ => I_
  | s_ :: r_, m_, I_ => if s_ % 2 = 0 then zlwI r_ (m_ + 1) (zset I_ 30 51 m_ (Int32.ofNat (s_ / 2))) else zlwI r_ m_ I_
theorem zlwI_ne {c_ i_ f_ : Nat} (h_ : ¬ (c_ = 30 ∧ i_ = 51)) : ∀ (l : List Nat) (m_ : Nat) (I_ : zIn), zlwI l m_ I_ c_ i_ f_ = I_ c_ i_ f_
  | [], _, _ => rfl
  | s_ :: r_, m_, I_ => by
    unfold zlwI
    split
    · rw [zlwI_ne h_ r_ (m_ + 1) _]
      exact zset_ne (fun e_ => h_ ⟨e_.1, e_.2.1⟩)
    · exact zlwI_ne h_ r_ m_ I_
theorem zlwI_lo : ∀ (l : List Nat) (m_ : Nat) (I_ : zIn) (k_ : Nat), k_ < m_ → zlwI l m_ I_ 30 51 k_ = I_ 30 51 k_
  | [], _, _, _, _ => rfl
  | s_ :: r_, m_, I_, k_, h_ => by
    unfold zlwI
    split
    · rw [zlwI_lo r_ (m_ + 1) _ k_ (by omega)]
      exact zset_ne (by omega)
    · exact zlwI_lo r_ m_ I_ k_ h_
theorem zlwI_at : ∀ (l : List Nat) (m_ : Nat) (I_ : zIn) (k_ q_ : Nat), (zpks l)[k_]? = some q_ → zlwI l m_ I_ 30 51 (m_ + k_) = Int32.ofNat q_
  | [], _, _, _, _, h_ => by simp [zpks] at h_
  | s_ :: r_, m_, I_, k_, q_, h_ => by
    unfold zpks at h_
    unfold zlwI
    split at h_
    · rename_i h2
      rw [if_pos h2]
      cases k_ with
      | zero =>
        simp at h_
        subst h_
        show zlwI r_ (m_ + 1) _ 30 51 m_ = _
        rw [zlwI_lo r_ (m_ + 1) _ m_ (by omega), zset_is]
      | succ k_ =>
        have h3 : (zpks r_)[k_]? = some q_ := by simpa using h_
        have := zlwI_at r_ (m_ + 1) (zset I_ 30 51 m_ (Int32.ofNat (s_ / 2))) k_ q_ h3
        rw [show m_ + (k_ + 1) = m_ + 1 + k_ by omega]
        exact this
    · rename_i h2
      rw [if_neg h2]
      exact zlwI_at r_ m_ I_ k_ q_ h_
