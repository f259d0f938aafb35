/-! CONTRACTS OF THE MODEL: rider -/
def zriZ (J_ : zIn) (n_ : Nat) (k_ w_ a_ b_ : Int32) : zIn := zset (zset (zset (zset J_ 30 7 n_ k_) 30 8 n_ w_) 30 9 n_ a_) 31 10 n_ b_
def zriM (J_ : zIn) (n_ : Nat) (k_ w_ a_ b_ : Int32) : zIn := zset (zriZ J_ n_ k_ w_ a_ b_) 7 0 6 (zriZ J_ n_ k_ w_ a_ b_ 7 0 6 + 1)
theorem zm122s {J_ : zIn} {L_ : zLi} {n_ : Nat} {k_ w_ a_ b_ : Int32} (hn : n_ < 16) (h6 : J_ 7 0 6 = Int32.ofNat n_) (hb_ : b_ = 0 ∨ b_ = 1) : zY none 2 122 65 [some (zwR 7 0), some (zwI k_), some (zwI w_), some (zwI a_), some (zwI b_)] [] J_ L_ 0 (zRet (some (zwI (zriM J_ n_ k_ w_ a_ b_ 7 0 6 - 1))) (zriM J_ n_ k_ w_ a_ b_) L_) := by
  refine zY.go 5 rfl ?_
  refine zY.si rfl h6 hn ?_
  refine zY.go 5 rfl ?_
  refine zY.si rfl ((zset_ne (by simp)).trans h6) hn ?_
  refine zY.go 5 rfl ?_
  refine zY.si rfl ((zset_ne (by simp)).trans ((zset_ne (by simp)).trans h6)) hn ?_
  refine zY.go 5 rfl ?_
  refine zY.sb rfl ((zset_ne (by simp)).trans ((zset_ne (by simp)).trans ((zset_ne (by simp)).trans h6))) hn hb_ ?_
  change zY _ _ _ _ _ _ (zriZ J_ n_ k_ w_ a_ b_) _ _ _
  refine zY.go 10 rfl ?_
  exact zY.ri rfl rfl ⟨rfl, rfl, rfl⟩
theorem zm122c {I_ J_ : zIn} {L_ : zLi} {n_ : Nat} {k_ w_ a_ b_ : Int32} (hn : n_ < 16) (h6 : I_ 7 0 6 = Int32.ofNat n_) (hb_ : b_ = 0 ∨ b_ = 1) (hk : zbt k_ 0 2 = true) (hw : zbt w_ 30 300 = true) (ha_ : zbt a_ 0 10 = true) (hJ : zset I_ 7 0 0 0 = J_) : zYm 2 122 [zwR 7 0, zwI k_, zwI w_, zwI a_, zwI b_] I_ L_ 0 (zRet (some (zwI (zriM J_ n_ k_ w_ a_ b_ 7 0 6 - 1))) (zriM J_ n_ k_ w_ a_ b_) L_) := by
  have h6' : J_ 7 0 6 = Int32.ofNat n_ := by rw [← hJ]; exact (zset_ne (by simp)).trans h6
  refine zYm.of (Nat.le_of_ble_eq_true rfl) rfl ?_
  refine zY.go 5 rfl ?_
  refine zY.cr zm123 rfl rfl rfl rfl (Nat.le_of_ble_eq_true rfl) rfl (by decide) rfl (by decide) (by decide) ?_
  rw [hk]
  refine zY.bi rfl (fun hp => absurd (show (1 : Int32) = 0 from hp) (by decide)) (fun _ => ?_)
  refine zY.go 4 rfl ?_
  refine zY.cr zm123 rfl rfl rfl rfl (Nat.le_of_ble_eq_true rfl) rfl (by decide) rfl (by decide) (by decide) ?_
  rw [hw]
  refine zY.bi rfl (fun hp => absurd (show (1 : Int32) = 0 from hp) (by decide)) (fun _ => ?_)
  refine zY.go 4 rfl ?_
  refine zY.cr zm123 rfl rfl rfl rfl (Nat.le_of_ble_eq_true rfl) rfl (by decide) rfl (by decide) (by decide) ?_
  rw [ha_]
  refine zY.bi rfl (fun _ => ?_) (fun hp => absurd (show ¬ (1 : Int32) = 0 by decide) hp)
  refine zY.go 3 rfl ?_
  show zY _ _ _ _ _ [zwI (Int32.ofNat 16), zwI (I_ 7 0 6), zwR 7 0] _ _ _ _
  rw [h6]
  refine zY.bn rfl (by omega) (by omega) (fun _ => ?_) (fun hp => absurd (show ¬ n_ = 16 by omega) hp)
  refine zY.go 4 rfl ?_
  show zY _ _ _ _ _ [zwI (zset I_ 7 0 0 0 7 0 0)] _ _ _ _
  rw [zset_is]
  refine zY.bi rfl (fun _ => ?_) (fun hp => absurd (show (0 : Int32) ≤ 0 by decide) hp)
  rw [hJ]
  exact zm122s hn h6' hb_
