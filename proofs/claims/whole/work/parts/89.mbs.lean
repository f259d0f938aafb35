/-! CONTRACTS OF THE MODEL: busStop -/
theorem zm125a {I_ : zIn} {L_ : zLi} {x_ b_ : Int32} (hx : zbt x_ 0 35 = false) : zYm 3 125 [zwR 7 0, zwI x_, zwI b_] I_ L_ 0 (zRet (some (zwI 0)) (zset I_ 7 0 0 1) L_) := by
  refine zYm.of (Nat.le_of_ble_eq_true rfl) rfl ?_
  refine zY.go 3 rfl ?_
  refine zY.cr zm126 rfl rfl rfl rfl (Nat.le_of_ble_eq_true rfl) rfl (by decide) rfl (by decide) (by decide) ?_
  rw [hx]
  refine zY.bi rfl (fun hp => absurd (show (0 : Int32) = 0 from rfl) hp) (fun _ => ?_)
  refine zY.go 5 rfl ?_
  show zY _ _ _ _ _ [zwI (zset I_ 7 0 0 1 7 0 0)] _ _ _ _
  rw [zset_is]
  refine zY.bi rfl (fun hp => absurd hp zle1) (fun _ => ?_)
  refine zY.go 1 rfl ?_
  exact zY.ri rfl rfl ⟨rfl, rfl, rfl⟩
def zbsD (J_ : zIn) (p_ : Nat) (b_ : Int32) : Int32 := if zbo (J_ 31 4 p_) = b_ then 0 else if b_ = 0 then -1 else 1
def zbsM (J_ : zIn) (p_ : Nat) (b_ : Int32) : zIn := zset (zset J_ 7 0 5 (J_ 7 0 5 + zbsD J_ p_ b_)) 31 4 p_ b_
theorem zm125b {I_ J_ : zIn} {L_ : zLi} {p_ : Nat} {b_ : Int32} (hp36 : p_ < 36) (hb_ : b_ = 0 ∨ b_ = 1) (hx : zbt (Int32.ofNat p_) 0 35 = true) (hJ : zset I_ 7 0 0 0 = J_) : zYm 3 125 [zwR 7 0, zwI (Int32.ofNat p_), zwI b_] I_ L_ 0 (zRet (some (zwI (zbsM J_ p_ b_ 7 0 5))) (zbsM J_ p_ b_) L_) := by
  refine zYm.of (Nat.le_of_ble_eq_true rfl) rfl ?_
  refine zY.go 3 rfl ?_
  refine zY.cr zm126 rfl rfl rfl rfl (Nat.le_of_ble_eq_true rfl) rfl (by decide) rfl (by decide) (by decide) ?_
  rw [hx]
  refine zY.bi rfl (fun _ => ?_) (fun hp => absurd (show ¬ (1 : Int32) = 0 by decide) hp)
  refine zY.go 4 rfl ?_
  show zY _ _ _ _ _ [zwI (zset I_ 7 0 0 0 7 0 0)] _ _ _ _
  rw [zset_is]
  refine zY.bi rfl (fun _ => ?_) (fun hp => absurd (show (0 : Int32) ≤ 0 by decide) hp)
  rw [hJ]
  unfold zbsM
  refine zY.go 6 rfl ?_
  refine zY.ab rfl rfl hp36 ?_
  refine zY.go 1 rfl ?_
  refine zY.bc rfl (fun hp38 => ?_) (fun hp38 => ?_)
  · have hn : ¬ zbo (J_ 31 4 p_) = b_ := hp38
    refine zY.go 1 rfl ?_
    refine zY.bi rfl (fun hp46 => ?_) (fun hp46 => ?_)
    · have e_ : zbsD J_ p_ b_ = -1 := by unfold zbsD; rw [if_neg hn, if_pos (show b_ = 0 from hp46)]
      rw [e_]
      refine zY.go 7 rfl ?_
      refine zY.sb rfl rfl hp36 hb_ ?_
      refine zY.go 2 rfl ?_
      exact zY.ri rfl rfl ⟨rfl, rfl, rfl⟩
    · have e_ : zbsD J_ p_ b_ = 1 := by unfold zbsD; rw [if_neg hn, if_neg (show ¬ b_ = 0 from hp46)]
      rw [e_]
      refine zY.go 8 rfl ?_
      refine zY.sb rfl rfl hp36 hb_ ?_
      refine zY.go 2 rfl ?_
      exact zY.ri rfl rfl ⟨rfl, rfl, rfl⟩
  · have e_ : zbsD J_ p_ b_ = 0 := if_pos (Decidable.byContradiction hp38)
    rw [e_]
    refine zY.go 8 rfl ?_
    refine zY.sb rfl rfl hp36 hb_ ?_
    refine zY.go 2 rfl ?_
    exact zY.ri rfl rfl ⟨rfl, rfl, rfl⟩
