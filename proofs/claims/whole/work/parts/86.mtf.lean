/-! CONTRACTS OF THE MODEL: traffic -/
def ztf1 (J_ : zIn) (v_ : Nat) (y_ : Int32) : zIn := zset J_ 30 20 v_ (J_ 30 20 v_ + y_)
def ztf2 (J_ : zIn) (v_ : Nat) (y_ : Int32) : zIn := zset (ztf1 J_ v_ y_) 30 21 v_ (ztf1 J_ v_ y_ 30 21 v_ + y_)
def ztf3 (J_ : zIn) (v_ : Nat) (y_ : Int32) : zIn := zset J_ 30 18 v_ ((if J_ 7 0 2 < J_ 30 18 v_ then J_ 30 18 v_ else J_ 7 0 2) + y_)
def ztfM (J_ : zIn) (v_ : Nat) (y_ : Int32) : zIn := if J_ 31 19 v_ = 0 then ztf3 J_ v_ y_ else ztf2 J_ v_ y_
def ztfV (J_ : zIn) (v_ : Nat) (y_ : Int32) : Int32 := if J_ 31 19 v_ = 0 then ztf3 J_ v_ y_ 30 18 v_ else ztf2 J_ v_ y_ 30 21 v_
theorem zm171s {J_ : zIn} {L_ : zLi} {v_ : Nat} {y_ : Int32} (hv : v_ < 4) : zY none 3 171 41 [some (zwR 7 0), some (zwI (Int32.ofNat v_)), some (zwI y_)] [] J_ L_ 0 (zRet (some (zwI (ztfV J_ v_ y_))) (ztfM J_ v_ y_) L_) := by
  unfold ztfV ztfM
  refine zY.go 3 rfl ?_
  refine zY.ab rfl rfl hv ?_
  refine zY.bi rfl (fun hp47 => ?_) (fun hp47 => ?_)
  · have h_ : J_ 31 19 v_ = 0 := zbo_0.mp hp47
    rw [if_pos h_, if_pos h_]
    refine zY.go 6 rfl ?_
    refine zY.ai rfl rfl hv ?_
    refine zY.go 2 rfl ?_
    have T110 : ∀ x_, x_ = (if J_ 7 0 2 < J_ 30 18 v_ then J_ 30 18 v_ else J_ 7 0 2) + y_ → zY none 3 171 110 [some (zwR 7 0), some (zwI (Int32.ofNat v_)), some (zwI y_)] [zwI x_, zwI (Int32.ofNat v_), zwR 30 18] J_ L_ 0 (zRet (some (zwI (ztf3 J_ v_ y_ 30 18 v_))) (ztf3 J_ v_ y_) L_) := by
      intro x_ hx
      subst hx
      refine zY.si rfl rfl hv ?_
      change zY _ _ _ _ _ _ (ztf3 J_ v_ y_) _ _ _
      refine zY.go 3 rfl ?_
      refine zY.ai rfl rfl hv ?_
      exact zY.ri rfl rfl ⟨rfl, rfl, rfl⟩
    refine zY.bc rfl (fun hp92 => ?_) (fun hp92 => ?_)
    · refine zY.go 4 rfl ?_
      exact T110 _ (by rw [if_neg (Int32.not_lt.mpr hp92)])
    · refine zY.go 3 rfl ?_
      refine zY.ai rfl rfl hv ?_
      refine zY.go 3 rfl ?_
      exact T110 _ (by rw [if_pos (Int32.not_le.mp hp92)])
  · have h_ : ¬ J_ 31 19 v_ = 0 := fun h_ => hp47 (zbo_0.mpr h_)
    rw [if_neg h_, if_neg h_]
    refine zY.go 4 rfl ?_
    refine zY.ai rfl rfl hv ?_
    refine zY.go 2 rfl ?_
    refine zY.si rfl rfl hv ?_
    change zY _ _ _ _ _ _ (ztf1 J_ v_ y_) _ _ _
    refine zY.go 4 rfl ?_
    refine zY.ai rfl rfl hv ?_
    refine zY.go 2 rfl ?_
    refine zY.si rfl rfl hv ?_
    change zY _ _ _ _ _ _ (ztf2 J_ v_ y_) _ _ _
    refine zY.go 3 rfl ?_
    refine zY.ai rfl rfl hv ?_
    exact zY.ri rfl rfl ⟨rfl, rfl, rfl⟩
theorem zm171c {I_ : zIn} {L_ : zLi} {v_ : Nat} {y_ : Int32} (hv : v_ < 4) (hx : zbt (Int32.ofNat v_) 0 (I_ 7 0 11 - 1) = true) (hy : zbt y_ 1 60 = true) : zYm 3 171 [zwR 7 0, zwI (Int32.ofNat v_), zwI y_] I_ L_ 0 (zRet (some (zwI (ztfV (zset I_ 7 0 0 0) v_ y_))) (ztfM (zset I_ 7 0 0 0) v_ y_) L_) := by
  refine zYm.of (Nat.le_of_ble_eq_true rfl) rfl ?_
  refine zY.go 3 rfl ?_
  refine zY.cr zm129 rfl rfl rfl rfl (Nat.le_of_ble_eq_true rfl) rfl (by decide) rfl (by decide) (by decide) ?_
  rw [hx]
  refine zY.bi rfl (fun _ => ?_) (fun hp => absurd (show ¬ (1 : Int32) = 0 by decide) hp)
  refine zY.go 4 rfl ?_
  refine zY.cr zm123 rfl rfl rfl rfl (Nat.le_of_ble_eq_true rfl) rfl (by decide) rfl (by decide) (by decide) ?_
  rw [hy]
  refine zY.bi rfl (fun _ => ?_) (fun hp => absurd (show ¬ (1 : Int32) = 0 by decide) hp)
  refine zY.go 4 rfl ?_
  show zY _ _ _ _ _ [zwI (zset I_ 7 0 0 0 7 0 0)] _ _ _ _
  rw [zset_is]
  refine zY.bi rfl (fun _ => ?_) (fun hp => absurd (show (0 : Int32) ≤ 0 by decide) hp)
  exact zm171s hv
