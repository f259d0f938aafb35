/-! CONTRACTS OF THE MODEL: rider refused -/
theorem zm122t {J_ : zIn} {L_ : zLi} {k_ w_ a_ b_ t_ : Int32} (ht : t_ = 1 ∨ t_ = 2) : zY none 2 122 56 [some (zwR 7 0), some (zwI k_), some (zwI w_), some (zwI a_), some (zwI b_)] [] (zset J_ 7 0 0 t_) L_ 0 (zRet (some (zwI 0)) (zset J_ 7 0 0 t_) L_) := by
  refine zY.go 2 rfl ?_
  show zY _ _ _ _ _ [zwI (zset J_ 7 0 0 t_ 7 0 0)] _ _ _ _
  rw [zset_is]
  refine zY.bi rfl (fun hp => ?_) (fun _ => ?_)
  · rcases ht with rfl | rfl
    · exact absurd hp zle1
    · exact absurd hp zle2
  · refine zY.go 1 rfl ?_
    exact zY.ri rfl rfl ⟨rfl, rfl, rfl⟩
theorem zm122a {I_ : zIn} {L_ : zLi} {k_ w_ a_ b_ : Int32} (hno : ¬ (zbt k_ 0 2 = true ∧ zbt w_ 30 300 = true ∧ zbt a_ 0 10 = true)) : zYm 2 122 [zwR 7 0, zwI k_, zwI w_, zwI a_, zwI b_] I_ L_ 0 (zRet (some (zwI 0)) (zset I_ 7 0 0 1) L_) := by
  refine zYm.of (Nat.le_of_ble_eq_true rfl) rfl ?_
  refine zY.go 5 rfl ?_
  refine zY.cr zm123 rfl rfl rfl rfl (Nat.le_of_ble_eq_true rfl) rfl (by decide) rfl (by decide) (by decide) ?_
  cases hk : zbt k_ 0 2 with
  | false =>
    refine zY.bi rfl (fun _ => ?_) (fun hp => absurd (show (0 : Int32) = 0 from rfl) hp)
    refine zY.go 3 rfl ?_
    exact zm122t (Or.inl rfl)
  | true =>
    refine zY.bi rfl (fun hp => absurd (show (1 : Int32) = 0 from hp) (by decide)) (fun _ => ?_)
    refine zY.go 4 rfl ?_
    refine zY.cr zm123 rfl rfl rfl rfl (Nat.le_of_ble_eq_true rfl) rfl (by decide) rfl (by decide) (by decide) ?_
    cases hw : zbt w_ 30 300 with
    | false =>
      refine zY.bi rfl (fun _ => ?_) (fun hp => absurd (show (0 : Int32) = 0 from rfl) hp)
      refine zY.go 3 rfl ?_
      exact zm122t (Or.inl rfl)
    | true =>
      refine zY.bi rfl (fun hp => absurd (show (1 : Int32) = 0 from hp) (by decide)) (fun _ => ?_)
      refine zY.go 4 rfl ?_
      refine zY.cr zm123 rfl rfl rfl rfl (Nat.le_of_ble_eq_true rfl) rfl (by decide) rfl (by decide) (by decide) ?_
      cases ha_ : zbt a_ 0 10 with
      | true => exact absurd ⟨hk, hw, ha_⟩ hno
      | false =>
        refine zY.bi rfl (fun hp => absurd (show (0 : Int32) = 0 from rfl) hp) (fun _ => ?_)
        refine zY.go 3 rfl ?_
        exact zm122t (Or.inl rfl)
theorem zm122b {I_ : zIn} {L_ : zLi} {k_ w_ a_ b_ : Int32} (h6 : I_ 7 0 6 = Int32.ofNat 16) (hk : zbt k_ 0 2 = true) (hw : zbt w_ 30 300 = true) (ha_ : zbt a_ 0 10 = true) : zYm 2 122 [zwR 7 0, zwI k_, zwI w_, zwI a_, zwI b_] I_ L_ 0 (zRet (some (zwI 0)) (zset I_ 7 0 0 2) L_) := by
  refine zYm.of (Nat.le_of_ble_eq_true rfl) rfl ?_
  refine zY.go 5 rfl ?_
  refine zY.cr zm123 rfl rfl rfl rfl (Nat.le_of_ble_eq_true rfl) rfl (by decide) rfl (by decide) (by decide) ?_
  rw [hk]
  refine zY.bi rfl (fun hp => absurd (show (1 : Int32) = 0 from hp) (by decide)) (fun _ => ?_)
  refine zY.go 4 rfl ?_
  refine zY.cr zm123 rfl rfl rfl rfl (Nat.le_of_ble_eq_true rfl) rfl (by decide) rfl (by decide) (by decide) ?_
  rw [hw]
  refine zY.bi rfl (fun hp => absurd (show (1 : Int32) = 0 from hp) (by decide)) (fun _ => ?_)
  refine zY.go 4 rfl ?_
  refine zY.cr zm123 rfl rfl rfl rfl (Nat.le_of_ble_eq_true rfl) rfl (by decide) rfl (by decide) (by decide) ?_
  rw [ha_]
  refine zY.bi rfl (fun _ => ?_) (fun hp => absurd (show ¬ (1 : Int32) = 0 by decide) hp)
  refine zY.go 3 rfl ?_
  show zY _ _ _ _ _ [zwI (Int32.ofNat 16), zwI (I_ 7 0 6), zwR 7 0] _ _ _ _
  rw [h6]
  refine zY.bn rfl (by omega) (by omega) (fun hp => absurd (show 16 = 16 from rfl) hp) (fun _ => ?_)
  refine zY.go 3 rfl ?_
  exact zm122t (Or.inr rfl)
