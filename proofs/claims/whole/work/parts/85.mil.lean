/-! CONTRACTS OF THE MODEL: isLate, isLong, traffic -/
def zilM (I_ : zIn) (r_ : Nat) : Bool := decide (¬ I_ 30 36 r_ = -1) && decide (I_ 30 34 r_ + 20 < I_ 30 36 r_)
theorem zm179 {I_ : zIn} {L_ : zLi} {r_ : Nat} (hr : r_ < 60) : zYm 1 179 [zwR 7 0, zwI (Int32.ofNat r_)] I_ L_ 0 (zRb (zilM I_ r_, I_, L_)) := by
  unfold zilM
  refine zYm.of (Nat.le_of_ble_eq_true rfl) rfl ?_
  refine zY.go 3 rfl ?_
  refine zY.ai rfl rfl hr ?_
  refine zY.go 1 rfl ?_
  refine zY.bc rfl (fun hp7 => ?_) (fun hp7 => ?_)
  · rw [decide_eq_false (show ¬ ¬ I_ 30 36 r_ = -1 from fun h_ => h_ hp7)]
    refine zY.go 1 rfl ?_
    exact zY.rb rfl rfl (Or.inl rfl) ⟨rfl, rfl, rfl⟩
  · rw [decide_eq_true (show ¬ I_ 30 36 r_ = -1 from hp7)]
    refine zY.go 3 rfl ?_
    refine zY.ai rfl rfl hr ?_
    refine zY.go 3 rfl ?_
    refine zY.ai rfl rfl hr ?_
    refine zY.go 2 rfl ?_
    refine zY.bc rfl (fun hp25 => ?_) (fun hp25 => ?_)
    · rw [decide_eq_false (show ¬ I_ 30 34 r_ + 20 < I_ 30 36 r_ from Int32.not_lt.mpr hp25)]
      refine zY.go 1 rfl ?_
      exact zY.rb rfl rfl (Or.inl rfl) ⟨rfl, rfl, rfl⟩
    · rw [decide_eq_true (show I_ 30 34 r_ + 20 < I_ 30 36 r_ from Int32.not_le.mp hp25)]
      refine zY.go 2 rfl ?_
      exact zY.rb rfl rfl (Or.inr rfl) ⟨rfl, rfl, rfl⟩
def zigM (I_ : zIn) (r_ : Nat) : Bool := decide (¬ I_ 30 38 r_ = -1) && decide (zmlt I_ r_ (I_ 30 37 r_) < I_ 30 38 r_)
theorem zm180 {I_ : zIn} {L_ : zLi} {r_ : Nat} (hr : r_ < 60) : zYm 5 180 [zwR 7 0, zwI (Int32.ofNat r_)] I_ L_ 0 (zRb (zigM I_ r_, I_, L_)) := by
  unfold zigM
  refine zYm.of (Nat.le_of_ble_eq_true rfl) rfl ?_
  refine zY.go 3 rfl ?_
  refine zY.ai rfl rfl hr ?_
  refine zY.go 1 rfl ?_
  refine zY.bc rfl (fun hp7 => ?_) (fun hp7 => ?_)
  · rw [decide_eq_false (show ¬ ¬ I_ 30 38 r_ = -1 from fun h_ => h_ hp7)]
    refine zY.go 1 rfl ?_
    exact zY.rb rfl rfl (Or.inl rfl) ⟨rfl, rfl, rfl⟩
  · rw [decide_eq_true (show ¬ I_ 30 38 r_ = -1 from hp7)]
    refine zY.go 3 rfl ?_
    refine zY.ai rfl rfl hr ?_
    refine zY.go 5 rfl ?_
    refine zY.ai rfl rfl hr ?_
    refine zY.cr (zm154 hr) rfl rfl rfl rfl (Nat.le_of_ble_eq_true rfl) rfl (by decide) rfl (by decide) (by decide) ?_
    refine zY.bc rfl (fun hp27 => ?_) (fun hp27 => ?_)
    · rw [decide_eq_false (show ¬ zmlt I_ r_ (I_ 30 37 r_) < I_ 30 38 r_ from Int32.not_lt.mpr hp27)]
      refine zY.go 1 rfl ?_
      exact zY.rb rfl rfl (Or.inl rfl) ⟨rfl, rfl, rfl⟩
    · rw [decide_eq_true (show zmlt I_ r_ (I_ 30 37 r_) < I_ 30 38 r_ from Int32.not_le.mp hp27)]
      refine zY.go 2 rfl ?_
      exact zY.rb rfl rfl (Or.inr rfl) ⟨rfl, rfl, rfl⟩
theorem zle2 : ¬ (2 : Int32) ≤ 0 := by decide
theorem zm171t {I_ : zIn} {L_ : zLi} {x_ y_ t_ : Int32} (ht : t_ = 1 ∨ t_ = 2) {k_ : Option zW} (h_ : I_ 7 0 0 = t_) : zY none 3 171 32 [some (zwR 7 0), some (zwI x_), some (zwI y_)] [] I_ L_ 0 (zRet (some (zwI 0)) I_ L_) := by
  refine zY.go 2 rfl ?_
  show zY _ _ _ _ _ [zwI (I_ 7 0 0)] _ _ _ _
  rw [h_]
  refine zY.bi rfl (fun hp => ?_) (fun _ => ?_)
  · rcases ht with rfl | rfl
    · exact absurd hp zle1
    · exact absurd hp zle2
  · refine zY.go 1 rfl ?_
    exact zY.ri rfl rfl ⟨rfl, rfl, rfl⟩
theorem zm171a {I_ : zIn} {L_ : zLi} {x_ y_ : Int32} (hx : zbt x_ 0 (I_ 7 0 11 - 1) = false) : zYm 3 171 [zwR 7 0, zwI x_, zwI y_] I_ L_ 0 (zRet (some (zwI 0)) (zset I_ 7 0 0 1) L_) := by
  refine zYm.of (Nat.le_of_ble_eq_true rfl) rfl ?_
  refine zY.go 3 rfl ?_
  refine zY.cr zm129 rfl rfl rfl rfl (Nat.le_of_ble_eq_true rfl) rfl (by decide) rfl (by decide) (by decide) ?_
  rw [hx]
  refine zY.bi rfl (fun hp => absurd (show (0 : Int32) = 0 from rfl) hp) (fun _ => ?_)
  refine zY.go 3 rfl ?_
  exact zm171t (k_ := none) (Or.inl rfl) zset_is
theorem zm171b {I_ : zIn} {L_ : zLi} {x_ y_ : Int32} (hx : zbt x_ 0 (I_ 7 0 11 - 1) = true) (hy : zbt y_ 1 60 = false) : zYm 3 171 [zwR 7 0, zwI x_, zwI y_] I_ L_ 0 (zRet (some (zwI 0)) (zset I_ 7 0 0 2) L_) := by
  refine zYm.of (Nat.le_of_ble_eq_true rfl) rfl ?_
  refine zY.go 3 rfl ?_
  refine zY.cr zm129 rfl rfl rfl rfl (Nat.le_of_ble_eq_true rfl) rfl (by decide) rfl (by decide) (by decide) ?_
  rw [hx]
  refine zY.bi rfl (fun _ => ?_) (fun hp => absurd (show ¬ (1 : Int32) = 0 by decide) hp)
  refine zY.go 4 rfl ?_
  refine zY.cr zm123 rfl rfl rfl rfl (Nat.le_of_ble_eq_true rfl) rfl (by decide) rfl (by decide) (by decide) ?_
  rw [hy]
  refine zY.bi rfl (fun hp => absurd (show (0 : Int32) = 0 from rfl) hp) (fun _ => ?_)
  refine zY.go 3 rfl ?_
  exact zm171t (k_ := none) (Or.inr rfl) zset_is
