/-! CONTRACTS OF THE MODEL: riderOf, requestOf -/
theorem zm177r {I_ : zIn} {L_ : zLi} {x_ y_ t_ : Int32} (ht : t_ = 1 ∨ t_ = 2) : zY none 3 177 28 [some (zwR 7 0), some (zwI x_), some (zwI y_)] [zwI t_, zwR 7 0] I_ L_ 0 (zRet (some (zwI 0)) (zset I_ 7 0 0 t_) L_) := by
  refine zY.go 3 rfl ?_
  show zY _ _ _ _ _ [zwI (zset I_ 7 0 0 t_ 7 0 0)] _ _ _ _
  rw [zset_is]
  refine zY.bi rfl (fun hp => ?_) (fun _ => ?_)
  · rcases ht with rfl | rfl
    · exact absurd hp zle1
    · exact absurd hp zle2
  · refine zY.go 1 rfl ?_
    exact zY.ri rfl rfl ⟨rfl, rfl, rfl⟩
theorem zm177a {I_ : zIn} {L_ : zLi} {x_ y_ : Int32} (hx : zbt x_ 0 (I_ 7 0 6 - 1) = false) : zYm 3 177 [zwR 7 0, zwI x_, zwI y_] I_ L_ 0 (zRet (some (zwI 0)) (zset I_ 7 0 0 1) L_) := by
  refine zYm.of (Nat.le_of_ble_eq_true rfl) rfl ?_
  refine zY.go 3 rfl ?_
  refine zY.cr zm131 rfl rfl rfl rfl (Nat.le_of_ble_eq_true rfl) rfl (by decide) rfl (by decide) (by decide) ?_
  rw [hx]
  refine zY.bi rfl (fun hp => absurd (show (0 : Int32) = 0 from rfl) hp) (fun _ => ?_)
  refine zY.go 2 rfl ?_
  exact zm177r (Or.inl rfl)
theorem zm177b {I_ : zIn} {L_ : zLi} {x_ y_ : Int32} (hx : zbt x_ 0 (I_ 7 0 6 - 1) = true) (hy : zbt y_ 0 2 = false) : zYm 3 177 [zwR 7 0, zwI x_, zwI y_] I_ L_ 0 (zRet (some (zwI 0)) (zset I_ 7 0 0 2) L_) := by
  refine zYm.of (Nat.le_of_ble_eq_true rfl) rfl ?_
  refine zY.go 3 rfl ?_
  refine zY.cr zm131 rfl rfl rfl rfl (Nat.le_of_ble_eq_true rfl) rfl (by decide) rfl (by decide) (by decide) ?_
  rw [hx]
  refine zY.bi rfl (fun _ => ?_) (fun hp => absurd (show ¬ (1 : Int32) = 0 by decide) hp)
  refine zY.go 4 rfl ?_
  refine zY.cr zm123 rfl rfl rfl rfl (Nat.le_of_ble_eq_true rfl) rfl (by decide) rfl (by decide) (by decide) ?_
  rw [hy]
  refine zY.bi rfl (fun hp => absurd (show (0 : Int32) = 0 from rfl) hp) (fun _ => ?_)
  refine zY.go 2 rfl ?_
  exact zm177r (Or.inr rfl)
def zroM (J_ : zIn) (q_ N_ : Nat) : Nat → Int32
  | 0 => zasM J_ q_ false N_
  | 1 => zasM J_ q_ true N_
  | _ => if zsuM J_ q_ N_ = true then 1 else 0
theorem zm177c {I_ J_ : zIn} {L_ : zLi} {q_ N_ k_ : Nat} (hx : zbt (Int32.ofNat q_) 0 (I_ 7 0 6 - 1) = true) (hy : zbt (Int32.ofNat k_) 0 2 = true) (hk : k_ ≤ 2) (hN_ : N_ ≤ 60) (hJ : zset I_ 7 0 0 0 = J_) (h28 : J_ 7 0 28 = Int32.ofNat N_) : zYm 3 177 [zwR 7 0, zwI (Int32.ofNat q_), zwI (Int32.ofNat k_)] I_ L_ 0 (zRet (some (zwI (zroM J_ q_ N_ k_))) J_ L_) := by
  refine zYm.of (Nat.le_of_ble_eq_true rfl) rfl ?_
  refine zY.go 3 rfl ?_
  refine zY.cr zm131 rfl rfl rfl rfl (Nat.le_of_ble_eq_true rfl) rfl (by decide) rfl (by decide) (by decide) ?_
  rw [hx]
  refine zY.bi rfl (fun _ => ?_) (fun hp => absurd (show ¬ (1 : Int32) = 0 by decide) hp)
  refine zY.go 4 rfl ?_
  refine zY.cr zm123 rfl rfl rfl rfl (Nat.le_of_ble_eq_true rfl) rfl (by decide) rfl (by decide) (by decide) ?_
  rw [hy]
  refine zY.bi rfl (fun _ => ?_) (fun hp => absurd (show ¬ (1 : Int32) = 0 by decide) hp)
  refine zY.go 4 rfl ?_
  show zY _ _ _ _ _ [zwI (zset I_ 7 0 0 0 7 0 0)] _ _ _ _
  rw [zset_is]
  refine zY.bi rfl (fun _ => ?_) (fun hp => absurd (show (0 : Int32) ≤ 0 by decide) hp)
  rw [hJ]
  refine zY.go 2 rfl ?_
  show zY _ _ _ _ _ [zwI (Int32.ofNat 2), zwI (Int32.ofNat k_)] _ _ _ _
  refine zY.bn rfl (by omega) (by omega) (fun hp => ?_) (fun hp => ?_)
  · have hk2 : k_ = 2 := by have h_ : 2 ≤ k_ := hp; omega
    subst hk2
    refine zY.go 2 rfl ?_
    refine zY.cr (zm136 hN_ h28) rfl rfl rfl rfl (Nat.le_of_ble_eq_true rfl) rfl (by decide) rfl (by decide) (by decide) ?_
    show zY _ _ _ _ _ [zwI (if zsuM J_ q_ N_ = true then 1 else 0)] _ _ _ _
    refine zY.we rfl (fun hs => ?_) (fun hs => ?_)
    · rw [show zroM J_ q_ N_ 2 = 0 by simp [zroM, hs]]
      refine zY.go 1 rfl ?_
      exact zY.ri rfl rfl ⟨rfl, rfl, rfl⟩
    · rw [show zroM J_ q_ N_ 2 = 1 by simp [zroM, hs]]
      refine zY.go 2 rfl ?_
      exact zY.ri rfl rfl ⟨rfl, rfl, rfl⟩
  · refine zY.go 4 rfl ?_
    show zY _ _ _ _ _ [zwI (Int32.ofNat 1), zwI (Int32.ofNat k_), zwI (Int32.ofNat q_), zwR 7 0] _ _ _ _
    refine zY.bn rfl (by omega) (by omega) (fun hp2 => ?_) (fun hp2 => ?_)
    · have hk0 : k_ = 0 := by have h_ : ¬ 2 ≤ k_ := hp; have h2 : ¬ k_ = 1 := hp2; omega
      subst hk0
      refine zY.go 1 rfl ?_
      refine zY.cr (zm137 (b_ := false) hN_ h28) rfl rfl rfl rfl (Nat.le_of_ble_eq_true rfl) rfl (by decide) rfl (by decide) (by decide) ?_
      refine zY.go 1 rfl ?_
      exact zY.ri rfl rfl ⟨rfl, rfl, rfl⟩
    · have hk1 : k_ = 1 := Decidable.byContradiction hp2
      subst hk1
      refine zY.go 2 rfl ?_
      refine zY.cr (zm137 (b_ := true) hN_ h28) rfl rfl rfl rfl (Nat.le_of_ble_eq_true rfl) rfl (by decide) rfl (by decide) (by decide) ?_
      refine zY.go 1 rfl ?_
      exact zY.ri rfl rfl ⟨rfl, rfl, rfl⟩
theorem zm178r {I_ : zIn} {L_ : zLi} {x_ y_ t_ : Int32} (ht : t_ = 1 ∨ t_ = 2) : zY none 6 178 29 [some (zwR 7 0), some (zwI x_), some (zwI y_)] [zwI t_, zwR 7 0] I_ L_ 0 (zRet (some (zwI 0)) (zset I_ 7 0 0 t_) L_) := by
  refine zY.go 3 rfl ?_
  show zY _ _ _ _ _ [zwI (zset I_ 7 0 0 t_ 7 0 0)] _ _ _ _
  rw [zset_is]
  refine zY.bi rfl (fun hp => ?_) (fun _ => ?_)
  · rcases ht with rfl | rfl
    · exact absurd hp zle1
    · exact absurd hp zle2
  · refine zY.go 1 rfl ?_
    exact zY.ri rfl rfl ⟨rfl, rfl, rfl⟩
theorem zm178a {I_ : zIn} {L_ : zLi} {x_ y_ : Int32} (hx : zbt x_ 0 (I_ 7 0 28 - 1) = false) : zYm 6 178 [zwR 7 0, zwI x_, zwI y_] I_ L_ 0 (zRet (some (zwI 0)) (zset I_ 7 0 0 1) L_) := by
  refine zYm.of (Nat.le_of_ble_eq_true rfl) rfl ?_
  refine zY.go 3 rfl ?_
  refine zY.cr zm159 rfl rfl rfl rfl (Nat.le_of_ble_eq_true rfl) rfl (by decide) rfl (by decide) (by decide) ?_
  rw [hx]
  refine zY.bi rfl (fun hp => absurd (show (0 : Int32) = 0 from rfl) hp) (fun _ => ?_)
  refine zY.go 2 rfl ?_
  exact zm178r (Or.inl rfl)
theorem zm178b {I_ : zIn} {L_ : zLi} {x_ y_ : Int32} (hx : zbt x_ 0 (I_ 7 0 28 - 1) = true) (hy : zbt y_ 0 10 = false) : zYm 6 178 [zwR 7 0, zwI x_, zwI y_] I_ L_ 0 (zRet (some (zwI 0)) (zset I_ 7 0 0 2) L_) := by
  refine zYm.of (Nat.le_of_ble_eq_true rfl) rfl ?_
  refine zY.go 3 rfl ?_
  refine zY.cr zm159 rfl rfl rfl rfl (Nat.le_of_ble_eq_true rfl) rfl (by decide) rfl (by decide) (by decide) ?_
  rw [hx]
  refine zY.bi rfl (fun _ => ?_) (fun hp => absurd (show ¬ (1 : Int32) = 0 by decide) hp)
  refine zY.go 4 rfl ?_
  refine zY.cr zm123 rfl rfl rfl rfl (Nat.le_of_ble_eq_true rfl) rfl (by decide) rfl (by decide) (by decide) ?_
  rw [hy]
  refine zY.bi rfl (fun hp => absurd (show (0 : Int32) = 0 from rfl) hp) (fun _ => ?_)
  refine zY.go 2 rfl ?_
  exact zm178r (Or.inr rfl)
def zrqM (J_ : zIn) (r_ : Nat) : Nat → Int32
  | 0 => J_ 30 32 r_
  | 1 => J_ 30 33 r_
  | 2 => J_ 30 34 r_
  | 3 => J_ 30 35 r_
  | 4 => J_ 30 36 r_
  | 5 => J_ 30 37 r_
  | 6 => J_ 30 38 r_
  | 7 => if zilM J_ r_ = true then 1 else 0
  | 8 => if zigM J_ r_ = true then 1 else 0
  | 9 => J_ 30 39 r_
  | _ => zbo (J_ 31 40 r_)
theorem zm178c {I_ J_ : zIn} {L_ : zLi} {r_ k_ : Nat} (hr : r_ < 60) (hx : zbt (Int32.ofNat r_) 0 (I_ 7 0 28 - 1) = true) (hy : zbt (Int32.ofNat k_) 0 10 = true) (hk : k_ ≤ 10) (hJ : zset I_ 7 0 0 0 = J_) : zYm 6 178 [zwR 7 0, zwI (Int32.ofNat r_), zwI (Int32.ofNat k_)] I_ L_ 0 (zRet (some (zwI (zrqM J_ r_ k_))) J_ L_) := by
  refine zYm.of (Nat.le_of_ble_eq_true rfl) rfl ?_
  refine zY.go 3 rfl ?_
  refine zY.cr zm159 rfl rfl rfl rfl (Nat.le_of_ble_eq_true rfl) rfl (by decide) rfl (by decide) (by decide) ?_
  rw [hx]
  refine zY.bi rfl (fun _ => ?_) (fun hp => absurd (show ¬ (1 : Int32) = 0 by decide) hp)
  refine zY.go 4 rfl ?_
  refine zY.cr zm123 rfl rfl rfl rfl (Nat.le_of_ble_eq_true rfl) rfl (by decide) rfl (by decide) (by decide) ?_
  rw [hy]
  refine zY.bi rfl (fun _ => ?_) (fun hp => absurd (show ¬ (1 : Int32) = 0 by decide) hp)
  refine zY.go 4 rfl ?_
  show zY _ _ _ _ _ [zwI (zset I_ 7 0 0 0 7 0 0)] _ _ _ _
  rw [zset_is]
  refine zY.bi rfl (fun _ => ?_) (fun hp => absurd (show (0 : Int32) ≤ 0 by decide) hp)
  rw [hJ]
  refine zY.go 1 rfl ?_
  obtain rfl | rfl | rfl | rfl | rfl | rfl | rfl | rfl | rfl | rfl | rfl : k_ = 0 ∨ k_ = 1 ∨ k_ = 2 ∨ k_ = 3 ∨ k_ = 4 ∨ k_ = 5 ∨ k_ = 6 ∨ k_ = 7 ∨ k_ = 8 ∨ k_ = 9 ∨ k_ = 10 := by omega
  · refine zY.sw (t_ := 96) rfl rfl rfl ?_
    refine zY.go 3 rfl ?_
    refine zY.ai rfl rfl hr ?_
    exact zY.ri rfl rfl ⟨rfl, rfl, rfl⟩
  · refine zY.sw (t_ := 103) rfl rfl rfl ?_
    refine zY.go 3 rfl ?_
    refine zY.ai rfl rfl hr ?_
    exact zY.ri rfl rfl ⟨rfl, rfl, rfl⟩
  · refine zY.sw (t_ := 110) rfl rfl rfl ?_
    refine zY.go 3 rfl ?_
    refine zY.ai rfl rfl hr ?_
    exact zY.ri rfl rfl ⟨rfl, rfl, rfl⟩
  · refine zY.sw (t_ := 117) rfl rfl rfl ?_
    refine zY.go 3 rfl ?_
    refine zY.ai rfl rfl hr ?_
    exact zY.ri rfl rfl ⟨rfl, rfl, rfl⟩
  · refine zY.sw (t_ := 124) rfl rfl rfl ?_
    refine zY.go 3 rfl ?_
    refine zY.ai rfl rfl hr ?_
    exact zY.ri rfl rfl ⟨rfl, rfl, rfl⟩
  · refine zY.sw (t_ := 131) rfl rfl rfl ?_
    refine zY.go 3 rfl ?_
    refine zY.ai rfl rfl hr ?_
    exact zY.ri rfl rfl ⟨rfl, rfl, rfl⟩
  · refine zY.sw (t_ := 138) rfl rfl rfl ?_
    refine zY.go 3 rfl ?_
    refine zY.ai rfl rfl hr ?_
    exact zY.ri rfl rfl ⟨rfl, rfl, rfl⟩
  · refine zY.sw (t_ := 145) rfl rfl rfl ?_
    refine zY.go 2 rfl ?_
    refine zY.cr (zm179 hr) rfl rfl rfl rfl (Nat.le_of_ble_eq_true rfl) rfl (by decide) rfl (by decide) (by decide) ?_
    show zY _ _ _ _ _ [zwI (if zilM J_ r_ = true then 1 else 0)] _ _ _ _
    refine zY.we rfl (fun hs => ?_) (fun hs => ?_)
    · rw [show zrqM J_ r_ 7 = 0 by simp [zrqM, hs]]
      refine zY.go 1 rfl ?_
      exact zY.ri rfl rfl ⟨rfl, rfl, rfl⟩
    · rw [show zrqM J_ r_ 7 = 1 by simp [zrqM, hs]]
      refine zY.go 2 rfl ?_
      exact zY.ri rfl rfl ⟨rfl, rfl, rfl⟩
  · refine zY.sw (t_ := 159) rfl rfl rfl ?_
    refine zY.go 2 rfl ?_
    refine zY.cr (zm180 hr) rfl rfl rfl rfl (Nat.le_of_ble_eq_true rfl) rfl (by decide) rfl (by decide) (by decide) ?_
    show zY _ _ _ _ _ [zwI (if zigM J_ r_ = true then 1 else 0)] _ _ _ _
    refine zY.we rfl (fun hs => ?_) (fun hs => ?_)
    · rw [show zrqM J_ r_ 8 = 0 by simp [zrqM, hs]]
      refine zY.go 1 rfl ?_
      exact zY.ri rfl rfl ⟨rfl, rfl, rfl⟩
    · rw [show zrqM J_ r_ 8 = 1 by simp [zrqM, hs]]
      refine zY.go 2 rfl ?_
      exact zY.ri rfl rfl ⟨rfl, rfl, rfl⟩
  · refine zY.sw (t_ := 173) rfl rfl rfl ?_
    refine zY.go 3 rfl ?_
    refine zY.ai rfl rfl hr ?_
    exact zY.ri rfl rfl ⟨rfl, rfl, rfl⟩
  · refine zY.sw (t_ := 180) rfl rfl rfl ?_
    refine zY.go 3 rfl ?_
    refine zY.ab rfl rfl hr ?_
    refine zY.bi rfl (fun hp => ?_) (fun hp => ?_)
    · rw [show zrqM J_ r_ 10 = 0 from hp]
      refine zY.go 1 rfl ?_
      exact zY.ri rfl rfl ⟨rfl, rfl, rfl⟩
    · rw [show zrqM J_ r_ 10 = 1 from if_neg (fun e_ => hp (zbo_0.mpr e_))]
      refine zY.go 2 rfl ?_
      exact zY.ri rfl rfl ⟨rfl, rfl, rfl⟩
