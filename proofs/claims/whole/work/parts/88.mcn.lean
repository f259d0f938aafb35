/-! CONTRACTS OF THE MODEL: cancel -/
theorem zm158a {I_ : zIn} {L_ : zLi} {x_ : Int32} (hx : zbt x_ 0 (I_ 7 0 28 - 1) = false) : zYm 3 158 [zwR 7 0, zwI x_] I_ L_ 0 (zRet (some (zwI 0)) (zset I_ 7 0 0 1) L_) := by
  refine zYm.of (Nat.le_of_ble_eq_true rfl) rfl ?_
  refine zY.go 3 rfl ?_
  refine zY.cr zm159 rfl rfl rfl rfl (Nat.le_of_ble_eq_true rfl) rfl (by decide) rfl (by decide) (by decide) ?_
  rw [hx]
  refine zY.bi rfl (fun hp => absurd (show (0 : Int32) = 0 from rfl) hp) (fun _ => ?_)
  refine zY.go 5 rfl ?_
  show zY _ _ _ _ _ [zwI (zset I_ 7 0 0 1 7 0 0)] _ _ _ _
  rw [zset_is]
  refine zY.bi rfl (fun _ => ?_) (fun hp => absurd (show ¬ (1 : Int32) = 0 by decide) hp)
  refine zY.go 2 rfl ?_
  show zY _ _ _ _ _ [zwI (zset I_ 7 0 0 1 7 0 0)] _ _ _ _
  rw [zset_is]
  refine zY.bi rfl (fun hp => absurd hp zle1) (fun _ => ?_)
  refine zY.go 1 rfl ?_
  exact zY.rb rfl rfl (Or.inl rfl) ⟨rfl, rfl, rfl⟩
theorem zm158b {I_ J_ : zIn} {L_ : zLi} {r_ v_ : Nat} (hr : r_ < 60) (hv : v_ < 4) (hx : zbt (Int32.ofNat r_) 0 (I_ 7 0 28 - 1) = true) (hJ : zset I_ 7 0 0 0 = J_) (hrv : J_ 30 32 r_ = 0 → J_ 30 35 r_ = Int32.ofNat v_) (hno : J_ 30 32 r_ = 0 → zhlf J_ v_ r_ = true) : zYm 3 158 [zwR 7 0, zwI (Int32.ofNat r_)] I_ L_ 0 (zRet (some (zwI 0)) (zset J_ 7 0 0 2) L_) := by
  have T54 : zY none 3 158 50 [some (zwR 7 0), some (zwI (Int32.ofNat r_))] [] (zset J_ 7 0 0 2) L_ 0 (zRet (some (zwI 0)) (zset J_ 7 0 0 2) L_) := by
    refine zY.go 2 rfl ?_
    show zY _ _ _ _ _ [zwI (zset J_ 7 0 0 2 7 0 0)] _ _ _ _
    rw [zset_is]
    refine zY.bi rfl (fun hp => absurd hp zle2) (fun _ => ?_)
    refine zY.go 1 rfl ?_
    exact zY.rb rfl rfl (Or.inl rfl) ⟨rfl, rfl, rfl⟩
  refine zYm.of (Nat.le_of_ble_eq_true rfl) rfl ?_
  refine zY.go 3 rfl ?_
  refine zY.cr zm159 rfl rfl rfl rfl (Nat.le_of_ble_eq_true rfl) rfl (by decide) rfl (by decide) (by decide) ?_
  rw [hx]
  refine zY.bi rfl (fun _ => ?_) (fun hp => absurd (show ¬ (1 : Int32) = 0 by decide) hp)
  refine zY.go 4 rfl ?_
  show zY _ _ _ _ _ [zwI (zset I_ 7 0 0 0 7 0 0)] _ _ _ _
  rw [zset_is]
  refine zY.bi rfl (fun hp => absurd (show (0 : Int32) = 0 from rfl) hp) (fun _ => ?_)
  rw [hJ]
  refine zY.go 4 rfl ?_
  refine zY.ai rfl rfl hr ?_
  refine zY.bi rfl (fun hp31 => ?_) (fun hp31 => ?_)
  · refine zY.go 3 rfl ?_
    exact T54
  · have h0 : J_ 30 32 r_ = 0 := Decidable.byContradiction hp31
    refine zY.go 2 rfl ?_
    refine zY.cr (zm160 hr hv (hrv h0)) rfl rfl rfl rfl (Nat.le_of_ble_eq_true rfl) rfl (by decide) rfl (by decide) (by decide) ?_
    rw [hno h0]
    refine zY.bi rfl (fun hp => absurd (show (1 : Int32) = 0 from hp) (by decide)) (fun _ => ?_)
    refine zY.go 3 rfl ?_
    exact T54
def zcn3 (J_ : zIn) (v_ : Nat) (l : List Nat) (r_ d_ : Nat) : zIn := zset (ztoF (zset J_ 7 0 0 0) v_ l r_ d_) 30 32 r_ 4
def zcn4 (J_ : zIn) (v_ : Nat) (l : List Nat) (r_ d_ : Nat) : zIn := zset (zcn3 J_ v_ l r_ d_) 31 40 r_ (if zcn3 J_ v_ l r_ d_ 30 34 r_ - zcn3 J_ v_ l r_ d_ 7 0 2 < 60 then 1 else 0)
theorem zm158c {I_ J_ : zIn} {L_ : zLi} {r_ v_ d_ : Nat} {l : List Nat} (hr : r_ < 60) (hv : v_ < 4) (hx : zbt (Int32.ofNat r_) 0 (I_ 7 0 28 - 1) = true) (hJ : zset I_ 7 0 0 0 = J_) (h0 : J_ 30 32 r_ = 0) (hrv : J_ 30 35 r_ = Int32.ofNat v_) (hno : zhlf J_ v_ r_ = false) (hro : zRo J_ v_ l) (hd_ : zlx (2 * r_ + 1) (ztoL l r_) 0 none = some d_) : zYm 3 158 [zwR 7 0, zwI (Int32.ofNat r_)] I_ L_ 0 (zRet (some (zwI (zbo (zcn4 J_ v_ l r_ d_ 31 40 r_)))) (zcn4 J_ v_ l r_ d_) L_) := by
  have hrv2 : zset J_ 7 0 0 0 30 35 r_ = Int32.ofNat v_ := (zset_ne (by simp)).trans hrv
  have hro2 : zRo (zset J_ 7 0 0 0) v_ l := ⟨(zset_ne (by simp)).trans hro.1, hro.2.1, fun k_ s_ hs => ⟨(zset_ne (by simp)).trans (hro.2.2 k_ s_ hs).1, (hro.2.2 k_ s_ hs).2⟩⟩
  refine zYm.of (Nat.le_of_ble_eq_true rfl) rfl ?_
  refine zY.go 3 rfl ?_
  refine zY.cr zm159 rfl rfl rfl rfl (Nat.le_of_ble_eq_true rfl) rfl (by decide) rfl (by decide) (by decide) ?_
  rw [hx]
  refine zY.bi rfl (fun _ => ?_) (fun hp => absurd (show ¬ (1 : Int32) = 0 by decide) hp)
  refine zY.go 4 rfl ?_
  show zY _ _ _ _ _ [zwI (zset I_ 7 0 0 0 7 0 0)] _ _ _ _
  rw [zset_is]
  refine zY.bi rfl (fun hp => absurd (show (0 : Int32) = 0 from rfl) hp) (fun _ => ?_)
  rw [hJ]
  refine zY.go 4 rfl ?_
  refine zY.ai rfl rfl hr ?_
  refine zY.bi rfl (fun hp31 => absurd h0 hp31) (fun _ => ?_)
  refine zY.go 2 rfl ?_
  refine zY.cr (zm160 hr hv hrv) rfl rfl rfl rfl (Nat.le_of_ble_eq_true rfl) rfl (by decide) rfl (by decide) (by decide) ?_
  rw [hno]
  refine zY.bi rfl (fun _ => ?_) (fun hp => absurd (show (0 : Int32) = 0 from rfl) hp)
  refine zY.go 4 rfl ?_
  show zY _ _ _ _ _ [zwI (zset J_ 7 0 0 0 7 0 0)] _ _ _ _
  rw [zset_is]
  refine zY.bi rfl (fun _ => ?_) (fun hp => absurd (show (0 : Int32) ≤ 0 by decide) hp)
  refine zY.go 2 rfl ?_
  refine zY.cr (zm161 hr hv hrv2 hro2 hd_) rfl rfl rfl rfl (Nat.le_of_ble_eq_true rfl) rfl (by decide) rfl (by decide) (by decide) ?_
  refine zY.go 4 rfl ?_
  refine zY.si rfl rfl hr ?_
  change zY _ _ _ _ _ _ (zcn3 J_ v_ l r_ d_) _ _ _
  refine zY.go 6 rfl ?_
  refine zY.ai rfl rfl hr ?_
  refine zY.go 4 rfl ?_
  have T97 : ∀ x_ : Int32, x_ = (if zcn3 J_ v_ l r_ d_ 30 34 r_ - zcn3 J_ v_ l r_ d_ 7 0 2 < 60 then 1 else 0) → (x_ = 0 ∨ x_ = 1) → zY none 3 158 97 [some (zwR 7 0), some (zwI (Int32.ofNat r_))] [zwI x_, zwI (Int32.ofNat r_), zwR 31 40] (zcn3 J_ v_ l r_ d_) L_ 0 (zRet (some (zwI (zbo (zcn4 J_ v_ l r_ d_ 31 40 r_)))) (zcn4 J_ v_ l r_ d_) L_) := by
    intro x_ hx h01
    subst hx
    refine zY.sb rfl rfl hr h01 ?_
    change zY _ _ _ _ _ _ (zcn4 J_ v_ l r_ d_) _ _ _
    refine zY.go 3 rfl ?_
    refine zY.ab rfl rfl hr ?_
    exact zY.rb rfl rfl (zbo_01 _) ⟨rfl, rfl, rfl⟩
  refine zY.bc rfl (fun hp89 => ?_) (fun hp89 => ?_)
  · refine zY.go 1 rfl ?_
    exact T97 0 (if_neg (Int32.not_lt.mpr hp89)).symm (Or.inl rfl)
  · refine zY.go 2 rfl ?_
    exact T97 1 (if_pos (Int32.not_le.mp hp89)).symm (Or.inr rfl)
