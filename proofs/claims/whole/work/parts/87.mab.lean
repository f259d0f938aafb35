/-! CONTRACTS OF THE MODEL: absent -/
theorem zm163a {I_ : zIn} {L_ : zLi} {x_ : Int32} (hx : zbt x_ 0 (I_ 7 0 28 - 1) = false) : zYm 3 163 [zwR 7 0, zwI x_] I_ L_ 0 (zRet none (zset I_ 7 0 0 1) L_) := by
  refine zYm.of (Nat.le_of_ble_eq_true rfl) rfl ?_
  refine zY.go 3 rfl ?_
  refine zY.cr zm159 rfl rfl rfl rfl (Nat.le_of_ble_eq_true rfl) rfl (by decide) rfl (by decide) (by decide) ?_
  rw [hx]
  refine zY.bi rfl (fun hp => absurd (show (0 : Int32) = 0 from rfl) hp) (fun _ => ?_)
  refine zY.go 5 rfl ?_
  show zY _ _ _ _ _ [zwI (zset I_ 7 0 0 1 7 0 0)] _ _ _ _
  rw [zset_is]
  refine zY.bi rfl (fun _ => ?_) (fun hp => absurd (show ¬ (1 : Int32) = 0 by decide) hp)
  refine zY.go 2 rfl ?_
  show zY _ _ _ _ _ [zwI (zset I_ 7 0 0 1 7 0 0)] _ _ _ _
  rw [zset_is]
  refine zY.bi rfl (fun _ => ?_) (fun hp => absurd (show ¬ (1 : Int32) = 0 by decide) hp)
  exact zY.rv rfl rfl ⟨rfl, rfl, rfl⟩
def zabM (J_ : zIn) (r_ : Nat) : zIn := if J_ 30 32 r_ = 0 then zset (zset J_ 7 0 0 0) 31 41 r_ 1 else zset J_ 7 0 0 2
theorem zm163b {I_ : zIn} {L_ : zLi} {r_ : Nat} (hr : r_ < 60) (hx : zbt (Int32.ofNat r_) 0 (I_ 7 0 28 - 1) = true) : zYm 3 163 [zwR 7 0, zwI (Int32.ofNat r_)] I_ L_ 0 (zRet none (zabM (zset I_ 7 0 0 0) r_) L_) := by
  refine zYm.of (Nat.le_of_ble_eq_true rfl) rfl ?_
  refine zY.go 3 rfl ?_
  refine zY.cr zm159 rfl rfl rfl rfl (Nat.le_of_ble_eq_true rfl) rfl (by decide) rfl (by decide) (by decide) ?_
  rw [hx]
  refine zY.bi rfl (fun _ => ?_) (fun hp => absurd (show ¬ (1 : Int32) = 0 by decide) hp)
  refine zY.go 4 rfl ?_
  show zY _ _ _ _ _ [zwI (zset I_ 7 0 0 0 7 0 0)] _ _ _ _
  rw [zset_is]
  refine zY.bi rfl (fun hp => absurd (show (0 : Int32) = 0 from rfl) hp) (fun _ => ?_)
  generalize zset I_ 7 0 0 0 = J_
  unfold zabM
  refine zY.go 4 rfl ?_
  refine zY.ai rfl rfl hr ?_
  refine zY.bi rfl (fun hp31 => ?_) (fun hp31 => ?_)
  · rw [if_pos (show J_ 30 32 r_ = 0 from hp31)]
    refine zY.go 4 rfl ?_
    show zY _ _ _ _ _ [zwI (zset J_ 7 0 0 0 7 0 0)] _ _ _ _
    rw [zset_is]
    refine zY.bi rfl (fun hp => absurd (show (0 : Int32) = 0 from rfl) hp) (fun _ => ?_)
    refine zY.go 4 rfl ?_
    refine zY.sb rfl rfl hr (Or.inr rfl) ?_
    exact zY.rv rfl rfl ⟨rfl, rfl, rfl⟩
  · rw [if_neg (show ¬ J_ 30 32 r_ = 0 from hp31)]
    refine zY.go 5 rfl ?_
    show zY _ _ _ _ _ [zwI (zset J_ 7 0 0 2 7 0 0)] _ _ _ _
    rw [zset_is]
    refine zY.bi rfl (fun _ => ?_) (fun hp => absurd (show ¬ (2 : Int32) = 0 by decide) hp)
    exact zY.rv rfl rfl ⟨rfl, rfl, rfl⟩
