/-! CONTRACTS OF THE MODEL: dropped, picked -/
def zdr2 (I_ : zIn) (v_ r_ : Nat) : zIn := zset (zset I_ 30 38 r_ (I_ 30 20 v_)) 30 32 r_ 2
def zdr3 (I_ : zIn) (v_ r_ : Nat) : zIn := zset (zdr2 I_ v_ r_) 30 23 v_ (zdr2 I_ v_ r_ 30 23 v_ - zmse (zdr2 I_ v_ r_) r_)
def zdrM (I_ : zIn) (v_ r_ : Nat) : zIn := zset (zdr3 I_ v_ r_) 30 25 v_ (zdr3 I_ v_ r_ 30 25 v_ - (if zmkd (zdr3 I_ v_ r_) r_ = 2 then 1 else 0))
theorem zm168 {I_ : zIn} {L_ : zLi} {v_ r_ : Nat} (hv : v_ < 4) (hmq : zMq I_ r_) : zYm 3 168 [zwR 7 0, zwI (Int32.ofNat v_), zwI (Int32.ofNat r_)] I_ L_ 0 (zRet none (zdrM I_ v_ r_) L_) := by
  have h60 : r_ < zas30 38 := hmq.1
  have h32 : r_ < zas30 32 := hmq.1
  have m2_ : zMq (zdr2 I_ v_ r_) r_ := zMq_set (zMq_set hmq (by decide)) (by decide)
  have m3_ : zMq (zdr3 I_ v_ r_) r_ := zMq_set m2_ (by decide)
  refine zYm.of (Nat.le_of_ble_eq_true rfl) rfl ?_
  refine zY.go 6 rfl ?_
  refine zY.ai rfl rfl hv ?_
  refine zY.si rfl rfl h60 ?_
  refine zY.go 4 rfl ?_
  refine zY.si rfl rfl h32 ?_
  change zY _ _ _ _ _ _ (zdr2 I_ v_ r_) _ _ _
  refine zY.go 4 rfl ?_
  refine zY.ai rfl rfl hv ?_
  refine zY.go 2 rfl ?_
  refine zY.cr (zm155 m2_) rfl rfl rfl rfl (Nat.le_of_ble_eq_true rfl) rfl (by decide) rfl (by decide) (by decide) ?_
  refine zY.go 1 rfl ?_
  refine zY.si rfl rfl hv ?_
  change zY _ _ _ _ _ _ (zdr3 I_ v_ r_) _ _ _
  refine zY.go 4 rfl ?_
  refine zY.ai rfl rfl hv ?_
  refine zY.go 2 rfl ?_
  refine zY.cr (zm142 m3_) rfl rfl rfl rfl (Nat.le_of_ble_eq_true rfl) rfl (by decide) rfl (by decide) (by decide) ?_
  refine zY.go 1 rfl ?_
  unfold zdrM
  refine zY.bc rfl (fun hp46 => ?_) (fun hp46 => ?_)
  · rw [if_neg hp46]
    refine zY.go 2 rfl ?_
    refine zY.si rfl rfl hv ?_
    exact zY.rv rfl rfl ⟨rfl, rfl, rfl⟩
  · rw [if_pos (Decidable.byContradiction hp46)]
    refine zY.go 3 rfl ?_
    refine zY.si rfl rfl hv ?_
    exact zY.rv rfl rfl ⟨rfl, rfl, rfl⟩
def zpk2 (I_ : zIn) (v_ r_ : Nat) : zIn := zset (zset I_ 30 36 r_ (I_ 30 20 v_)) 30 37 r_ (zset I_ 30 36 r_ (I_ 30 20 v_) 30 21 v_)
def zpkN (J_ : zIn) (r_ : Nat) : zIn := zset (zset J_ 30 32 r_ (if J_ 31 41 r_ = 0 then 5 else 3)) 31 40 r_ (zbo (zset J_ 30 32 r_ (if J_ 31 41 r_ = 0 then 5 else 3) 31 41 r_))
def zpk4 (J_ : zIn) (v_ r_ : Nat) : zIn := zset (zset J_ 30 32 r_ 1) 30 23 v_ (zset J_ 30 32 r_ 1 30 23 v_ + zmse (zset J_ 30 32 r_ 1) r_)
def zpk5 (J_ : zIn) (v_ r_ m_ : Nat) : zIn := zset (zpk4 J_ v_ r_) 30 24 (3 * v_ + m_) (Int32.ofNat r_)
def zpkS (J_ : zIn) (v_ r_ m_ : Nat) : zIn := if zmkd J_ r_ = 2 then zset (zpk5 J_ v_ r_ m_) 30 25 v_ (zpk5 J_ v_ r_ m_ 30 25 v_ + 1) else zpk4 J_ v_ r_
def zpkC (I_ : zIn) (v_ r_ : Nat) : Bool := decide (¬ I_ 31 41 r_ = 0) || (decide (zmkd I_ r_ = 2) && decide (I_ 31 16 v_ = 0))
def zpkM (I_ : zIn) (v_ r_ m_ : Nat) (l : List Nat) (d_ : Nat) : zIn := if zpkC I_ v_ r_ = true then ztoF (zpkN (zpk2 I_ v_ r_) r_) v_ l r_ d_ else zpkS (zpk2 I_ v_ r_) v_ r_ m_
theorem zm167 {I_ : zIn} {L_ : zLi} {v_ r_ m_ d_ : Nat} {l : List Nat} (hv : v_ < 4) (hmq : zMq I_ r_) (hm_ : I_ 30 25 v_ = Int32.ofNat m_) (hm3 : zpkC I_ v_ r_ = false → zmkd I_ r_ = 2 → m_ < 3) (hrv : I_ 30 35 r_ = Int32.ofNat v_) (hro : zRo I_ v_ l) (hd_ : zlx (2 * r_ + 1) (ztoL l r_) 0 none = some d_) : zYm 3 167 [zwR 7 0, zwI (Int32.ofNat v_), zwI (Int32.ofNat r_)] I_ L_ 0 (zRet none (zpkM I_ v_ r_ m_ l d_) L_) := by
  have hr := hmq.1
  have h36 : r_ < zas30 36 := hr
  have h41 : r_ < zas31 41 := hr
  have m2_ : zMq (zpk2 I_ v_ r_) r_ := zMq_set (zMq_set hmq (by decide)) (by decide)
  have e41_ : zpk2 I_ v_ r_ 31 41 r_ = I_ 31 41 r_ := by unfold zpk2; rw [zset_ne (by simp), zset_ne (by simp)]
  have e16_ : zpk2 I_ v_ r_ 31 16 v_ = I_ 31 16 v_ := by unfold zpk2; rw [zset_ne (by simp), zset_ne (by simp)]
  have e25_ : zpk2 I_ v_ r_ 30 25 v_ = Int32.ofNat m_ := by unfold zpk2; rw [zset_ne (by simp), zset_ne (by simp)]; exact hm_
  have e35 : zpk2 I_ v_ r_ 30 35 r_ = Int32.ofNat v_ := by unfold zpk2; rw [zset_ne (by simp), zset_ne (by simp)]; exact hrv
  have ekd : zmkd (zpk2 I_ v_ r_) r_ = zmkd I_ r_ := by
    unfold zmkd zmrd zpk2
    rw [zset_ne (i' := 7) (by simp), zset_ne (i' := 7) (by simp), zset_ne (i' := 29) (by simp), zset_ne (i' := 29) (by simp)]
  have hro2 : zRo (zpk2 I_ v_ r_) v_ l := by
    refine ⟨?_, hro.2.1, fun k_ s_ hs => ⟨?_, (hro.2.2 k_ s_ hs).2⟩⟩
    · unfold zpk2; rw [zset_ne (by simp), zset_ne (by simp)]; exact hro.1
    · unfold zpk2; rw [zset_ne (by simp), zset_ne (by simp)]; exact (hro.2.2 k_ s_ hs).1
  have T61 : ∀ k3_, zpkC I_ v_ r_ = true → zY none 3 167 61 [some (zwR 7 0), some (zwI (Int32.ofNat v_)), some (zwI (Int32.ofNat r_)), k3_] [] (zpk2 I_ v_ r_) L_ 0 (zRet none (zpkM I_ v_ r_ m_ l d_) L_) := by
    intro k3_ hc_
    have e_ : zpkM I_ v_ r_ m_ l d_ = ztoF (zpkN (zpk2 I_ v_ r_) r_) v_ l r_ d_ := if_pos hc_
    rw [e_]
    generalize zpk2 I_ v_ r_ = J_ at *
    have T80 : ∀ x_, x_ = (if J_ 31 41 r_ = 0 then 5 else 3) → zY none 3 167 80 [some (zwR 7 0), some (zwI (Int32.ofNat v_)), some (zwI (Int32.ofNat r_)), k3_] [zwI x_, zwI (Int32.ofNat r_), zwR 30 32] J_ L_ 0 (zRet none (ztoF (zpkN J_ r_) v_ l r_ d_) L_) := by
      intro x_ hx
      subst hx
      have e35' : zpkN J_ r_ 30 35 r_ = Int32.ofNat v_ := by unfold zpkN; rw [zset_ne (by simp), zset_ne (by simp)]; exact e35
      have hro3 : zRo (zpkN J_ r_) v_ l := by
        refine ⟨?_, hro2.2.1, fun k_ s_ hs => ⟨?_, (hro2.2.2 k_ s_ hs).2⟩⟩
        · unfold zpkN; rw [zset_ne (by simp), zset_ne (by simp)]; exact hro2.1
        · unfold zpkN; rw [zset_ne (by simp), zset_ne (by simp)]; exact (hro2.2.2 k_ s_ hs).1
      refine zY.si rfl rfl hr ?_
      refine zY.go 6 rfl ?_
      refine zY.ab rfl rfl h41 ?_
      refine zY.sb rfl rfl hr (zbo_01 _) ?_
      change zY _ _ _ _ _ _ (zpkN J_ r_) _ _ _
      refine zY.go 2 rfl ?_
      refine zY.cr (zm161 hr hv e35' hro3 hd_) rfl rfl rfl rfl (Nat.le_of_ble_eq_true rfl) rfl (by decide) rfl (by decide) (by decide) ?_
      exact zY.rv rfl rfl ⟨rfl, rfl, rfl⟩
    refine zY.go 6 rfl ?_
    refine zY.ab rfl rfl h41 ?_
    refine zY.bi rfl (fun hp => ?_) (fun hp => ?_)
    · refine zY.go 1 rfl ?_
      exact T80 5 (if_pos (zbo_0.mp hp)).symm
    · refine zY.go 2 rfl ?_
      exact T80 3 (if_neg (fun h_ => hp (zbo_0.mpr h_))).symm
  have T99 : zpkC I_ v_ r_ = false → zY none 3 167 99 [some (zwR 7 0), some (zwI (Int32.ofNat v_)), some (zwI (Int32.ofNat r_)), some (zwI (if zmkd I_ r_ = 2 then 1 else 0))] [] (zpk2 I_ v_ r_) L_ 0 (zRet none (zpkM I_ v_ r_ m_ l d_) L_) := by
    intro hc_
    have e_ : zpkM I_ v_ r_ m_ l d_ = zpkS (zpk2 I_ v_ r_) v_ r_ m_ := if_neg (fun h_ => by rw [hc_] at h_; cases h_)
    have hm3' := hm3 hc_
    rw [e_]
    unfold zpkS
    rw [ekd]
    generalize zpk2 I_ v_ r_ = J_ at *
    have m3_ : zMq (zset J_ 30 32 r_ 1) r_ := zMq_set m2_ (by decide)
    have e25' : zpk4 J_ v_ r_ 30 25 v_ = Int32.ofNat m_ := by unfold zpk4; rw [zset_ne (by simp), zset_ne (by simp)]; exact e25_
    refine zY.go 4 rfl ?_
    refine zY.si rfl rfl hr ?_
    refine zY.go 4 rfl ?_
    refine zY.ai rfl rfl hv ?_
    refine zY.go 2 rfl ?_
    refine zY.cr (zm155 m3_) rfl rfl rfl rfl (Nat.le_of_ble_eq_true rfl) rfl (by decide) rfl (by decide) (by decide) ?_
    refine zY.go 1 rfl ?_
    refine zY.si rfl rfl hv ?_
    change zY _ _ _ _ _ _ (zpk4 J_ v_ r_) _ _ _
    refine zY.go 1 rfl ?_
    by_cases hk : zmkd I_ r_ = 2
    · rw [if_pos hk, if_pos hk]
      have h24 : 3 * v_ + m_ < zas30 24 := by have := hm3' hk; show 3 * v_ + m_ < 12; omega
      refine zY.bi rfl (fun hp => absurd (show (1 : Int32) = 0 from hp) (by decide)) (fun _ => ?_)
      refine zY.go 8 rfl ?_
      refine zY.ai rfl rfl hv ?_
      rw [e25']
      refine zY.go 2 rfl ?_
      refine zY.si rfl z3k h24 ?_
      change zY _ _ _ _ _ _ (zpk5 J_ v_ r_ m_) _ _ _
      refine zY.go 4 rfl ?_
      refine zY.ai rfl rfl hv ?_
      refine zY.go 2 rfl ?_
      refine zY.si rfl rfl hv ?_
      exact zY.rv rfl rfl ⟨rfl, rfl, rfl⟩
    · rw [if_neg hk, if_neg hk]
      refine zY.bi rfl (fun _ => ?_) (fun hp => absurd (show (0 : Int32) = 0 from rfl) hp)
      exact zY.rv rfl rfl ⟨rfl, rfl, rfl⟩
  have T14 : ∀ x_, x_ = (if zmkd I_ r_ = 2 then 1 else 0) → zY none 3 167 14 [some (zwR 7 0), some (zwI (Int32.ofNat v_)), some (zwI (Int32.ofNat r_)), none] [zwI x_] I_ L_ 0 (zRet none (zpkM I_ v_ r_ m_ l d_) L_) := by
    intro x_ hx
    subst hx
    refine zY.go 7 rfl ?_
    refine zY.ai rfl rfl hv ?_
    refine zY.si rfl rfl h36 ?_
    refine zY.go 6 rfl ?_
    refine zY.ai rfl rfl hv ?_
    refine zY.si rfl rfl hr ?_
    change zY _ _ _ _ _ _ (zpk2 I_ v_ r_) _ _ _
    refine zY.go 3 rfl ?_
    refine zY.ab rfl rfl h41 ?_
    rw [e41_]
    refine zY.bi rfl (fun hp45 => ?_) (fun hp45 => ?_)
    · exact T61 _ (by unfold zpkC; rw [decide_eq_true (show ¬ I_ 31 41 r_ = 0 from fun h_ => hp45 (zbo_0.mpr h_))]; rfl)
    · have h41' : I_ 31 41 r_ = 0 := zbo_0.mp (Decidable.byContradiction hp45)
      refine zY.go 1 rfl ?_
      by_cases hk : zmkd I_ r_ = 2
      · rw [if_pos hk] at T99 ⊢
        refine zY.bi rfl (fun hp => absurd (show (1 : Int32) = 0 from hp) (by decide)) (fun _ => ?_)
        refine zY.go 3 rfl ?_
        refine zY.ab rfl rfl hv ?_
        rw [e16_]
        refine zY.bi rfl (fun hp58 => ?_) (fun hp58 => ?_)
        · exact T99 (by unfold zpkC; rw [decide_eq_false (show ¬ ¬ I_ 31 41 r_ = 0 from fun h_ => h_ h41'), decide_eq_false (show ¬ I_ 31 16 v_ = 0 from fun h_ => hp58 (zbo_0.mpr h_)), Bool.and_false]; rfl)
        · exact T61 _ (by unfold zpkC; rw [decide_eq_true hk, decide_eq_true (show I_ 31 16 v_ = 0 from zbo_0.mp (Decidable.byContradiction hp58)), Bool.and_true, Bool.or_true])
      · rw [if_neg hk] at T99 ⊢
        refine zY.bi rfl (fun _ => ?_) (fun hp => absurd (show (0 : Int32) = 0 from rfl) hp)
        exact T99 (by unfold zpkC; rw [decide_eq_false (show ¬ ¬ I_ 31 41 r_ = 0 from fun h_ => h_ h41'), decide_eq_false hk]; rfl)
  refine zYm.of (Nat.le_of_ble_eq_true rfl) rfl ?_
  refine zY.go 2 rfl ?_
  refine zY.cr (zm142 hmq) rfl rfl rfl rfl (Nat.le_of_ble_eq_true rfl) rfl (by decide) rfl (by decide) (by decide) ?_
  refine zY.go 1 rfl ?_
  refine zY.bc rfl (fun hp => ?_) (fun hp => ?_)
  · refine zY.go 1 rfl ?_
    exact T14 0 (if_neg hp).symm
  · refine zY.go 2 rfl ?_
    exact T14 1 (if_pos (Decidable.byContradiction hp)).symm
