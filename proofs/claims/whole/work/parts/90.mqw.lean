/-! CONTRACTS OF THE MODEL: owes -/
theorem zm176a {I_ : zIn} {L_ : zLi} {x_ y_ z_ : Int32} (hx : zbt x_ 0 (I_ 7 0 6 - 1) = false) : zYm 5 176 [zwR 7 0, zwI x_, zwI y_, zwI z_] I_ L_ 0 (zRet (some (zwI 0)) (zset I_ 7 0 0 1) L_) := by
  refine zYm.of (Nat.le_of_ble_eq_true rfl) rfl ?_
  refine zY.go 3 rfl ?_
  refine zY.cr zm131 rfl rfl rfl rfl (Nat.le_of_ble_eq_true rfl) rfl (by decide) rfl (by decide) (by decide) ?_
  rw [hx]
  refine zY.bi rfl (fun hp => absurd (show (0 : Int32) = 0 from rfl) hp) (fun _ => ?_)
  refine zY.go 5 rfl ?_
  show zY _ _ _ _ _ [zwI (zset I_ 7 0 0 1 7 0 0)] _ _ _ _
  rw [zset_is]
  refine zY.bi rfl (fun _ => ?_) (fun hp => absurd (show ¬ (1 : Int32) = 0 by decide) hp)
  refine zY.go 1 rfl ?_
  exact zY.rb rfl rfl (Or.inl rfl) ⟨rfl, rfl, rfl⟩
theorem zm176b {I_ : zIn} {L_ : zLi} {x_ y_ z_ : Int32} (hx : zbt x_ 0 (I_ 7 0 6 - 1) = true) (hyz : ¬ (zbt y_ 0 35 = true ∧ zbt z_ 0 35 = true)) : zYm 5 176 [zwR 7 0, zwI x_, zwI y_, zwI z_] I_ L_ 0 (zRet (some (zwI 0)) (zset I_ 7 0 0 2) L_) := by
  refine zYm.of (Nat.le_of_ble_eq_true rfl) rfl ?_
  refine zY.go 3 rfl ?_
  refine zY.cr zm131 rfl rfl rfl rfl (Nat.le_of_ble_eq_true rfl) rfl (by decide) rfl (by decide) (by decide) ?_
  rw [hx]
  refine zY.bi rfl (fun _ => ?_) (fun hp => absurd (show ¬ (1 : Int32) = 0 by decide) hp)
  refine zY.go 2 rfl ?_
  refine zY.cr zm126 rfl rfl rfl rfl (Nat.le_of_ble_eq_true rfl) rfl (by decide) rfl (by decide) (by decide) ?_
  cases hy : zbt y_ 0 35 with
  | false =>
    refine zY.bi rfl (fun _ => ?_) (fun hp => absurd (show (0 : Int32) = 0 from rfl) hp)
    refine zY.go 5 rfl ?_
    show zY _ _ _ _ _ [zwI (zset I_ 7 0 0 2 7 0 0)] _ _ _ _
    rw [zset_is]
    refine zY.bi rfl (fun _ => ?_) (fun hp => absurd (show ¬ (2 : Int32) = 0 by decide) hp)
    refine zY.go 1 rfl ?_
    exact zY.rb rfl rfl (Or.inl rfl) ⟨rfl, rfl, rfl⟩
  | true =>
    refine zY.bi rfl (fun hp => absurd (show (1 : Int32) = 0 from hp) (by decide)) (fun _ => ?_)
    refine zY.go 2 rfl ?_
    refine zY.cr zm126 rfl rfl rfl rfl (Nat.le_of_ble_eq_true rfl) rfl (by decide) rfl (by decide) (by decide) ?_
    cases hz : zbt z_ 0 35 with
    | true => exact absurd ⟨hy, hz⟩ hyz
    | false =>
      refine zY.bi rfl (fun hp => absurd (show (0 : Int32) = 0 from rfl) hp) (fun _ => ?_)
      refine zY.go 5 rfl ?_
      show zY _ _ _ _ _ [zwI (zset I_ 7 0 0 2 7 0 0)] _ _ _ _
      rw [zset_is]
      refine zY.bi rfl (fun _ => ?_) (fun hp => absurd (show ¬ (2 : Int32) = 0 by decide) hp)
      refine zY.go 1 rfl ?_
      exact zY.rb rfl rfl (Or.inl rfl) ⟨rfl, rfl, rfl⟩
theorem zm176c {I_ J_ : zIn} {L_ : zLi} {q_ : Nat} {y_ z_ : Int32} (hq : q_ < 16) (hx : zbt (Int32.ofNat q_) 0 (I_ 7 0 6 - 1) = true) (hy : zbt y_ 0 35 = true) (hz : zbt z_ 0 35 = true) (hJ : zset I_ 7 0 0 0 = J_) : zYm 5 176 [zwR 7 0, zwI (Int32.ofNat q_), zwI y_, zwI z_] I_ L_ 0 (zRb (zowM J_ q_ y_ z_, J_, L_)) := by
  refine zYm.of (Nat.le_of_ble_eq_true rfl) rfl ?_
  refine zY.go 3 rfl ?_
  refine zY.cr zm131 rfl rfl rfl rfl (Nat.le_of_ble_eq_true rfl) rfl (by decide) rfl (by decide) (by decide) ?_
  rw [hx]
  refine zY.bi rfl (fun _ => ?_) (fun hp => absurd (show ¬ (1 : Int32) = 0 by decide) hp)
  refine zY.go 2 rfl ?_
  refine zY.cr zm126 rfl rfl rfl rfl (Nat.le_of_ble_eq_true rfl) rfl (by decide) rfl (by decide) (by decide) ?_
  rw [hy]
  refine zY.bi rfl (fun hp => absurd (show (1 : Int32) = 0 from hp) (by decide)) (fun _ => ?_)
  refine zY.go 2 rfl ?_
  refine zY.cr zm126 rfl rfl rfl rfl (Nat.le_of_ble_eq_true rfl) rfl (by decide) rfl (by decide) (by decide) ?_
  rw [hz]
  refine zY.bi rfl (fun _ => ?_) (fun hp => absurd (show ¬ (1 : Int32) = 0 by decide) hp)
  refine zY.go 4 rfl ?_
  show zY _ _ _ _ _ [zwI (zset I_ 7 0 0 0 7 0 0)] _ _ _ _
  rw [zset_is]
  refine zY.bi rfl (fun hp => absurd (show (0 : Int32) = 0 from rfl) hp) (fun _ => ?_)
  rw [hJ]
  refine zY.go 4 rfl ?_
  refine zY.cr (zm132 hq) rfl rfl rfl rfl (Nat.le_of_ble_eq_true rfl) rfl (by decide) rfl (by decide) (by decide) ?_
  cases hb_ : zowM J_ q_ y_ z_ with
  | false =>
    refine zY.bi rfl (fun _ => ?_) (fun hp => absurd (show (0 : Int32) = 0 from rfl) hp)
    refine zY.go 1 rfl ?_
    exact zY.rb rfl rfl (Or.inl rfl) ⟨rfl, rfl, rfl⟩
  | true =>
    refine zY.bi rfl (fun hp => absurd (show (1 : Int32) = 0 from hp) (by decide)) (fun _ => ?_)
    refine zY.go 2 rfl ?_
    exact zY.rb rfl rfl (Or.inr rfl) ⟨rfl, rfl, rfl⟩
