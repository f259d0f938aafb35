/-! CONTRACTS OF THE MODEL: askedBy, isSuspended -/
def zaB (I_ : zIn) (q_ k_ : Nat) : Bool := decide (I_ 30 29 k_ = Int32.ofNat q_) && (decide (I_ 7 0 1 - 30 < I_ 30 39 k_) && decide (¬ I_ 30 32 k_ = 6))
def zaN (I_ : zIn) (q_ : Nat) (b_ : Bool) (k_ : Nat) : Int32 := if zaB I_ q_ k_ = true ∧ (b_ = false ∨ ¬ I_ 31 40 k_ = 0) then 1 else 0
def zaL (I_ : zIn) (q_ : Nat) (b_ : Bool) : Nat → Nat → Int32 → Int32
  | 0, _, w_ => w_
  | n_ + 1, k_, w_ => zaL I_ q_ b_ n_ (k_ + 1) (w_ + zaN I_ q_ b_ k_)
theorem zm137l (I_ : zIn) (L_ : zLi) (q_ N_ : Nat) (b_ : Bool) (hN_ : N_ ≤ 60) (h28 : I_ 7 0 28 = Int32.ofNat N_) : ∀ (n_ k_ : Nat) (w_ : Int32) (k5_ : Option zW), n_ + k_ = N_ → zY none 1 137 5 [some (zwR 7 0), some (zwI (Int32.ofNat q_)), some (zwI (zbi b_)), some (zwI w_), some (zwI (Int32.ofNat k_)), k5_] [] I_ L_ 0 (zRet (some (zwI (zaL I_ q_ b_ n_ k_ w_))) I_ L_)
  | 0, k_, w_, k5_, hn => by
    refine zY.go 3 rfl ?_
    show zY _ _ _ _ _ [zwI (I_ 7 0 28), zwI (Int32.ofNat k_)] _ _ _ _
    rw [h28]
    refine zY.bn rfl (by omega) (by omega) (fun _ => ?_) (fun hF => absurd (show N_ ≤ k_ by omega) hF)
    refine zY.go 1 rfl ?_
    exact zY.ri rfl rfl ⟨rfl, rfl, rfl⟩
  | n_ + 1, k_, w_, k5_, hn => by
    have h29 : k_ < zas30 29 := by show k_ < 60; omega
    have h39 : k_ < zas30 39 := h29
    have h32 : k_ < zas30 32 := h29
    have h40 : k_ < zas31 40 := h29
    have ih_ := fun k5_ => zm137l I_ L_ q_ N_ b_ hN_ h28 n_ (k_ + 1) (w_ + zaN I_ q_ b_ k_) k5_ (by omega)
    rw [← zisucc] at ih_
    have T86 : ∀ x_ k5_, x_ = zaN I_ q_ b_ k_ → zY none 1 137 86 [some (zwR 7 0), some (zwI (Int32.ofNat q_)), some (zwI (zbi b_)), some (zwI w_), some (zwI (Int32.ofNat k_)), k5_] [zwI x_, zwI w_] I_ L_ 0 (zRet (some (zwI (zaL I_ q_ b_ (n_ + 1) k_ w_))) I_ L_) := by
      intro x_ k5_ hx
      rw [← hx] at ih_
      unfold zaL
      rw [← hx]
      refine zY.go 4 rfl ?_
      exact ih_ k5_
    have T59 : ∀ (t_ : Bool) k5_, t_ = zaB I_ q_ k_ → zY none 1 137 59 [some (zwR 7 0), some (zwI (Int32.ofNat q_)), some (zwI (zbi b_)), some (zwI w_), some (zwI (Int32.ofNat k_)), k5_] [zwI (zbi t_)] I_ L_ 0 (zRet (some (zwI (zaL I_ q_ b_ (n_ + 1) k_ w_))) I_ L_) := by
      intro t_ k5_ ht
      refine zY.go 3 rfl ?_
      cases t_ with
      | false =>
        refine zY.bi rfl (fun _ => ?_) (fun hp => absurd (show zbi false = 0 from rfl) hp)
        refine zY.go 1 rfl ?_
        exact T86 0 _ (if_neg (fun h_ => by rw [← ht] at h_; exact absurd h_.1 (by decide))).symm
      | true =>
        refine zY.bi rfl (fun hp => absurd (show (1 : Int32) = 0 from hp) (by decide)) (fun _ => ?_)
        refine zY.go 1 rfl ?_
        cases b_ with
        | false =>
          refine zY.bi rfl (fun _ => ?_) (fun hp => absurd (show zbi false = 0 from rfl) hp)
          refine zY.go 2 rfl ?_
          exact T86 1 _ (if_pos ⟨ht.symm, Or.inl rfl⟩).symm
        | true =>
          refine zY.bi rfl (fun hp => absurd (show (1 : Int32) = 0 from hp) (by decide)) (fun _ => ?_)
          refine zY.go 3 rfl ?_
          refine zY.ab rfl rfl h40 ?_
          refine zY.bi rfl (fun hp => ?_) (fun hp => ?_)
          · refine zY.go 1 rfl ?_
            exact T86 0 _ (if_neg (fun h_ => h_.2.elim (fun e_ => by cases e_) (fun e_ => e_ (zbo_0.mp hp)))).symm
          · refine zY.go 2 rfl ?_
            exact T86 1 _ (if_pos ⟨ht.symm, Or.inr (fun e_ => hp (zbo_0.mpr e_))⟩).symm
    refine zY.go 3 rfl ?_
    show zY _ _ _ _ _ [zwI (I_ 7 0 28), zwI (Int32.ofNat k_)] _ _ _ _
    rw [h28]
    refine zY.bn rfl (by omega) (by omega) (fun hT_ => absurd hT_ (show ¬ N_ ≤ k_ by omega)) (fun _ => ?_)
    refine zY.go 3 rfl ?_
    refine zY.ai rfl rfl h29 ?_
    refine zY.go 1 rfl ?_
    refine zY.bc rfl (fun hp22 => ?_) (fun hp22 => ?_)
    · refine zY.go 1 rfl ?_
      exact T59 false _ (by unfold zaB; rw [decide_eq_false (show ¬ I_ 30 29 k_ = Int32.ofNat q_ from hp22)]; rfl)
    · have h22 : I_ 30 29 k_ = Int32.ofNat q_ := Decidable.byContradiction hp22
      refine zY.go 3 rfl ?_
      refine zY.ai rfl rfl h39 ?_
      refine zY.go 4 rfl ?_
      refine zY.bc rfl (fun hp39 => ?_) (fun hp39 => ?_)
      · refine zY.go 1 rfl ?_
        exact T59 false _ (by unfold zaB; rw [decide_eq_true h22, decide_eq_false (show ¬ I_ 7 0 1 - 30 < I_ 30 39 k_ from Int32.not_lt.mpr hp39)]; rfl)
      · have h39' : I_ 7 0 1 - 30 < I_ 30 39 k_ := Int32.not_le.mp hp39
        refine zY.go 3 rfl ?_
        refine zY.ai rfl rfl h32 ?_
        refine zY.go 1 rfl ?_
        refine zY.bc rfl (fun hp51 => ?_) (fun hp51 => ?_)
        · refine zY.go 1 rfl ?_
          exact T59 false _ (by unfold zaB; rw [decide_eq_true h22, decide_eq_true h39', decide_eq_false (show ¬ ¬ I_ 30 32 k_ = 6 from fun h_ => h_ hp51)]; rfl)
        · refine zY.go 2 rfl ?_
          exact T59 true _ (by unfold zaB; rw [decide_eq_true h22, decide_eq_true h39', decide_eq_true (show ¬ I_ 30 32 k_ = 6 from hp51)]; rfl)
def zasM (I_ : zIn) (q_ : Nat) (b_ : Bool) (N_ : Nat) : Int32 := zaL I_ q_ b_ N_ 0 0
theorem zm137 {I_ : zIn} {L_ : zLi} {q_ N_ : Nat} {b_ : Bool} (hN_ : N_ ≤ 60) (h28 : I_ 7 0 28 = Int32.ofNat N_) : zYm 1 137 [zwR 7 0, zwI (Int32.ofNat q_), zwI (zbi b_)] I_ L_ 0 (zRet (some (zwI (zasM I_ q_ b_ N_))) I_ L_) := by
  refine zYm.of (Nat.le_of_ble_eq_true rfl) rfl ?_
  refine zY.go 4 rfl ?_
  exact zm137l I_ L_ q_ N_ b_ hN_ h28 N_ 0 0 _ (by omega)
def zsuM (I_ : zIn) (q_ N_ : Nat) : Bool := decide (3 ≤ zasM I_ q_ true N_) && decide (zasM I_ q_ false N_ ≤ 5 * zasM I_ q_ true N_)
theorem zm136 {I_ : zIn} {L_ : zLi} {q_ N_ : Nat} (hN_ : N_ ≤ 60) (h28 : I_ 7 0 28 = Int32.ofNat N_) : zYm 2 136 [zwR 7 0, zwI (Int32.ofNat q_)] I_ L_ 0 (zRb (zsuM I_ q_ N_, I_, L_)) := by
  unfold zsuM
  refine zYm.of (Nat.le_of_ble_eq_true rfl) rfl ?_
  refine zY.go 3 rfl ?_
  refine zY.cr (zm137 (b_ := true) hN_ h28) rfl rfl rfl rfl (Nat.le_of_ble_eq_true rfl) rfl (by decide) rfl (by decide) (by decide) ?_
  refine zY.go 3 rfl ?_
  refine zY.bc rfl (fun hp9 => ?_) (fun hp9 => ?_)
  · rw [decide_eq_false (show ¬ 3 ≤ zasM I_ q_ true N_ from Int32.not_le.mpr hp9)]
    refine zY.go 1 rfl ?_
    exact zY.rb rfl rfl (Or.inl rfl) ⟨rfl, rfl, rfl⟩
  · rw [decide_eq_true (show 3 ≤ zasM I_ q_ true N_ from Int32.not_lt.mp hp9)]
    refine zY.go 6 rfl ?_
    refine zY.cr (zm137 (b_ := false) hN_ h28) rfl rfl rfl rfl (Nat.le_of_ble_eq_true rfl) rfl (by decide) rfl (by decide) (by decide) ?_
    refine zY.bc rfl (fun hp21 => ?_) (fun hp21 => ?_)
    · rw [decide_eq_false (Int32.not_le.mpr hp21)]
      refine zY.go 1 rfl ?_
      exact zY.rb rfl rfl (Or.inl rfl) ⟨rfl, rfl, rfl⟩
    · rw [decide_eq_true (Int32.not_lt.mp hp21)]
      refine zY.go 2 rfl ?_
      exact zY.rb rfl rfl (Or.inr rfl) ⟨rfl, rfl, rfl⟩
