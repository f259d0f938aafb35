/-! THE LAW: the end of a turn -/
abbrev zlLw (x9 x10 x11 x12 x13 x14 x15 x16 x17 x18 x19 x20 x21 x22 x23 x24 x25 x26 : Option zW) : zWs := [some (zwK 1), some (zwR 6 0), some (zwR 30 60), some (zwR 30 61), some (zwR 30 62), some (zwR 30 63), some (zwR 30 64), some (zwR 30 65), some (zwR 30 66), x9, x10, x11, x12, x13, x14, x15, x16, x17, x18, x19, x20, x21, x22, x23, x24, x25, x26]
theorem zcnt_app {f_ : Nat → Bool} {q_ : Nat} : ∀ (l : List Nat) (x_ : Int32), zcnt f_ (l ++ [q_]) x_ = zcnt f_ l x_ + (if f_ q_ = true then 1 else 0)
  | [], x_ => by
    show (if f_ q_ = true then x_ + 1 else x_) = x_ + (if f_ q_ = true then 1 else 0)
    cases f_ q_
    · exact (Int32.add_zero x_).symm
    · rfl
  | r_ :: l, x_ => zcnt_app l _
theorem zmon_app {I_ : zIn} {q_ : Nat} : ∀ (l : List Nat) (x_ : Int64), zmon I_ (l ++ [q_]) x_ = zmon I_ l x_ + (zfar (I_ 1 q_)).toInt64
  | [], _ => rfl
  | r_ :: l, x_ => zmon_app l _
theorem zti0 {x_ : Int32} (h_ : 0 ≤ x_.toInt) : (0 : Int32) ≤ x_ := by
  rw [Int32.le_iff_toInt_le]; exact h_
theorem zlat_l {r_ : Nat → Int32} (h1 : -1 ≤ (r_ 7).toInt) (h2 : (r_ 7).toInt ≤ 600) : zlat r_ = (decide (0 ≤ r_ 10) && decide (r_ 7 + 20 < r_ 10)) := by
  have e20 : (r_ 7 + 20).toInt = (r_ 7).toInt + 20 := by
    rw [Int32.toInt_add, show (20 : Int32).toInt = 20 from rfl, Int.bmod_eq_of_le (by omega) (by omega)]
  unfold zlat
  by_cases h_ : r_ 7 + 20 < r_ 10
  · have h3 : 0 ≤ r_ 10 := Int32.le_trans (zti0 (by omega)) (Int32.le_of_lt h_)
    have h4 : ¬ r_ 10 = -1 := fun e_ => by rw [e_] at h3; exact absurd h3 (by decide)
    rw [decide_eq_true h_, decide_eq_true h3, decide_eq_true h4]
  · rw [decide_eq_false h_, Bool.and_false, Bool.and_false]
theorem zlon_l {r_ : Nat → Int32} {x_ z_ : Int32} (h1 : -1 ≤ (r_ 11).toInt) (h2 : (r_ 11).toInt ≤ 600) (hx : zzpc x_) (hz : zzpc z_) (h4 : r_ 4 = 10 + 4 * zspm x_ z_) : zlon r_ = (decide (0 ≤ r_ 12) && decide (r_ 11 + 10 + 2 * (2 * zspm x_ z_) < r_ 12)) := by
  obtain ⟨a_, ha_, rfl⟩ := hx
  obtain ⟨b_, hb_, rfl⟩ := hz
  obtain ⟨s1_, s2_⟩ := zspB a_ ha_ b_ hb_
  have e_ : r_ 11 + 10 + 2 * (2 * zspm (Int32.ofNat a_) (Int32.ofNat b_)) = r_ 11 + r_ 4 := by
    rw [h4, Int32.add_assoc, ← Int32.mul_assoc]; rfl
  rw [e_]
  have e4_ : (r_ 4).toInt = 10 + 4 * (zspm (Int32.ofNat a_) (Int32.ofNat b_)).toInt := by
    have e5_ : (4 * zspm (Int32.ofNat a_) (Int32.ofNat b_)).toInt = 4 * (zspm (Int32.ofNat a_) (Int32.ofNat b_)).toInt := by
      rw [Int32.toInt_mul]
      show (4 * _ : Int).bmod _ = _
      exact Int.bmod_eq_of_le (by omega) (by omega)
    rw [h4, Int32.toInt_add, e5_, show (10 : Int32).toInt = 10 from rfl, Int.bmod_eq_of_le (by omega) (by omega)]
  have e20 : (r_ 11 + r_ 4).toInt = (r_ 11).toInt + (r_ 4).toInt := by
    rw [Int32.toInt_add, Int.bmod_eq_of_le (by omega) (by omega)]
  unfold zlon
  by_cases h_ : r_ 11 + r_ 4 < r_ 12
  · have h3 : 0 ≤ r_ 12 := Int32.le_trans (zti0 (by omega)) (Int32.le_of_lt h_)
    have h4 : ¬ r_ 12 = -1 := fun e_ => by rw [e_] at h3; exact absurd h3 (by decide)
    rw [decide_eq_true h_, decide_eq_true h3, decide_eq_true h4]
  · rw [decide_eq_false h_, Bool.and_false, Bool.and_false]
theorem zlgc {x_ : Int64} : lg_cmp x_ x_ = 0 := by
  unfold lg_cmp; simp
section
variable {I_ I' : zIn} {L_ L' : zLi} {M_ t_ t' y_ y' bus j_ v_ p_ a_ b_ m_ turn_ T r_ : Nat} {xs : Nat → Int32} {Q_ : zPost} {x14 x15 x16 x17 x18 x19 x20 x21 x22 x23 x24 x25 x26 : Option zW} {z16 z21 z22 : Int32}
theorem zJ.bnds (h_ : zJ I_ L_ M_ t_) (hr : r_ < M_) : zzpc (I_ 1 r_ 1) ∧ zzpc (I_ 1 r_ 2) ∧ I_ 1 r_ 4 = 10 + 4 * zspm (I_ 1 r_ 1) (I_ 1 r_ 2) ∧ (-1 ≤ (I_ 1 r_ 7).toInt ∧ (I_ 1 r_ 7).toInt ≤ 600) ∧ -1 ≤ (I_ 1 r_ 11).toInt ∧ (I_ 1 r_ 11).toInt ≤ 600 := by
  obtain ⟨⟨D_, hR, et⟩, hx, hb_, h6⟩ := h_
  obtain ⟨_, b2, b3, b4, b5, b6, _⟩ := (hR.2.2.1 r_ hr).1
  exact ⟨b4 ▸ b2, b5 ▸ b3, by rw [b6, b4, b5], (hb_ r_ hr).1, (hb_ r_ hr).2⟩
theorem zq62' {k_ : Nat} (h_ : zJ I_ L_ M_ t_) (hr : r_ < M_) (hk : k_ ≤ 10) : zYm 4 62 [zwR 6 0, zwI (Int32.ofNat r_), zwI (Int32.ofNat k_)] I_ L_ 0 (zRet (some (zwI (zrtl (I_ 1 r_) k_))) I_ L_) := by
  obtain ⟨⟨D_, hR, et⟩, _⟩ := h_
  exact zq62 k_ hR hr hk
set_option maxRecDepth 100000 in
/-- whether it was late -/
theorem zoe1 (h_ : zJ I_ L_ M_ t_) (hr : r_ < M_) (hX : zY (some (T, xs)) 20 210 1673 (zlLw (some (zwI 1)) (some (zwI (Int32.ofNat bus))) (some (zwI (Int32.ofNat M_))) (some (zwI (Int32.ofNat y_))) (some (zwI (Int32.ofNat turn_))) x14 x15 (some (zwI z16)) (some (zwL (zmon I_ (List.range r_) 0))) none (some (zwI (zcnt (fun q_ => zctd (I_ 1 q_) 7) (List.range r_) 0))) (some (zwI (Int32.ofNat r_))) (some (zwI (I_ 1 r_ 10))) (some (zwI z22)) (some (zwI (if zlat (I_ 1 r_) = true then 1 else 0))) x24 x25 x26) [] I_ L_ a_ Q_) : zY (some (T, xs)) 20 210 1646 (zlLw (some (zwI 1)) (some (zwI (Int32.ofNat bus))) (some (zwI (Int32.ofNat M_))) (some (zwI (Int32.ofNat y_))) (some (zwI (Int32.ofNat turn_))) x14 x15 (some (zwI z16)) (some (zwL (zmon I_ (List.range r_) 0))) none (some (zwI (zcnt (fun q_ => zctd (I_ 1 q_) 7) (List.range r_) 0))) (some (zwI (Int32.ofNat r_))) (some (zwI (I_ 1 r_ 10))) (some (zwI z22)) x23 x24 x25 x26) [] I_ L_ a_ Q_ := by
  have hM_ : M_ ≤ 60 := by obtain ⟨⟨D_, hR, et⟩, _⟩ := h_; exact hR.1.2.2.2.2.2.2.2.1
  obtain ⟨b1, b2, b3, b4, b5⟩ := h_.bnds hr
  have el := zlat_l (r_ := I_ 1 r_) b4.1 b4.2
  refine zY.go 1 rfl ?_
  refine zY.bi rfl (fun hp => ?_) (fun hp => ?_)
  · refine zY.go 2 rfl ?_
    rw [el, decide_eq_false (Int32.not_le.mpr hp), Bool.false_and] at hX
    exact hX
  · rw [decide_eq_true (Int32.not_lt.mp hp), Bool.true_and] at el
    refine zY.go 4 rfl ?_
    refine zY.cr (zq62' (k_ := 2) h_ hr (by decide)) rfl rfl rfl rfl (Nat.le_of_ble_eq_true rfl) rfl (by decide) rfl (by decide) (Nat.zero_le _) ?_
    refine zY.go 2 rfl ?_
    refine zY.bc rfl (fun hp2 => ?_) (fun hp2 => ?_)
    · refine zY.go 2 rfl ?_
      rw [el, decide_eq_false (show ¬ I_ 1 r_ 7 + 20 < I_ 1 r_ 10 from Int32.not_lt.mpr hp2)] at hX
      exact hX
    · refine zY.go 3 rfl ?_
      rw [el, decide_eq_true (show I_ 1 r_ 7 + 20 < I_ 1 r_ 10 from Int32.not_le.mp hp2)] at hX
      exact hX
set_option maxRecDepth 100000 in
/-- whether it was long -/
theorem zoe2 (h_ : zJ I_ L_ M_ t_) (hT_ : zTie I_ M_) (hr : r_ < M_) (hX : zY (some (T, xs)) 20 210 1716 (zlLw (some (zwI 1)) (some (zwI (Int32.ofNat bus))) (some (zwI (Int32.ofNat M_))) (some (zwI (Int32.ofNat y_))) (some (zwI (Int32.ofNat turn_))) x14 x15 (some (zwI z16)) (some (zwL (zmon I_ (List.range r_) 0))) none (some (zwI (zcnt (fun q_ => zctd (I_ 1 q_) 7) (List.range r_) 0))) (some (zwI (Int32.ofNat r_))) (some (zwI z21)) (some (zwI (I_ 1 r_ 12))) (some (zwI (if zlat (I_ 1 r_) = true then 1 else 0))) (some (zwI (if zlon (I_ 1 r_) = true then 1 else 0))) x25 x26) [] I_ L_ a_ Q_) : zY (some (T, xs)) 20 210 1673 (zlLw (some (zwI 1)) (some (zwI (Int32.ofNat bus))) (some (zwI (Int32.ofNat M_))) (some (zwI (Int32.ofNat y_))) (some (zwI (Int32.ofNat turn_))) x14 x15 (some (zwI z16)) (some (zwL (zmon I_ (List.range r_) 0))) none (some (zwI (zcnt (fun q_ => zctd (I_ 1 q_) 7) (List.range r_) 0))) (some (zwI (Int32.ofNat r_))) (some (zwI z21)) (some (zwI (I_ 1 r_ 12))) (some (zwI (if zlat (I_ 1 r_) = true then 1 else 0))) x24 x25 x26) [] I_ L_ a_ Q_ := by
  have hM_ : M_ ≤ 60 := by obtain ⟨⟨D_, hR, et⟩, _⟩ := h_; exact hR.1.2.2.2.2.2.2.2.1
  obtain ⟨b1, b2, b3, b4, b5⟩ := h_.bnds hr
  have el := zlon_l (r_ := I_ 1 r_) b5.1 b5.2 b1 b2 b3
  obtain ⟨t1_, t2_, t3_⟩ := hT_.1 r_ hr
  refine zY.go 1 rfl ?_
  refine zY.bi rfl (fun hp => ?_) (fun hp => ?_)
  · refine zY.go 2 rfl ?_
    rw [el, decide_eq_false (Int32.not_le.mpr hp), Bool.false_and] at hX
    exact hX
  · rw [decide_eq_true (Int32.not_lt.mp hp), Bool.true_and] at el
    refine zY.go 4 rfl ?_
    refine zY.cr (zq62' (k_ := 5) h_ hr (by decide)) rfl rfl rfl rfl (Nat.le_of_ble_eq_true rfl) rfl (by decide) rfl (by decide) (Nat.zero_le _) ?_
    refine zY.go 5 rfl ?_
    refine zY.ai (n_ := r_) rfl rfl (by show r_ < 60; omega) ?_
    refine zY.go 2 rfl ?_
    refine zY.ai (n_ := r_) rfl rfl (by show r_ < 60; omega) ?_
    rw [t2_, t3_]
    refine zY.cr za124 rfl rfl rfl rfl (Nat.le_of_ble_eq_true rfl) rfl (by decide) rfl (by decide) (Nat.zero_le _) ?_
    refine zY.go 2 rfl ?_
    refine zY.bc rfl (fun hp2 => ?_) (fun hp2 => ?_)
    · refine zY.go 2 rfl ?_
      rw [el, decide_eq_false (show ¬ I_ 1 r_ 11 + 10 + 2 * (2 * zspm (I_ 1 r_ 1) (I_ 1 r_ 2)) < I_ 1 r_ 12 from Int32.not_lt.mpr hp2)] at hX
      exact hX
    · refine zY.go 3 rfl ?_
      rw [el, decide_eq_true (show I_ 1 r_ 11 + 10 + 2 * (2 * zspm (I_ 1 r_ 1) (I_ 1 r_ 2)) < I_ 1 r_ 12 from Int32.not_le.mp hp2)] at hX
      exact hX
set_option maxRecDepth 100000 in
/-- what the class tells of it is so -/
theorem zoe3 (h_ : zJ I_ L_ M_ t_) (hr : r_ < M_) (hX : zY (some (T, xs)) 20 210 1770 (zlLw (some (zwI 1)) (some (zwI (Int32.ofNat bus))) (some (zwI (Int32.ofNat M_))) (some (zwI (Int32.ofNat y_))) (some (zwI (Int32.ofNat turn_))) x14 x15 (some (zwI z16)) (some (zwL (zmon I_ (List.range r_) 0))) none (some (zwI (zcnt (fun q_ => zctd (I_ 1 q_) 7) (List.range r_) 0))) (some (zwI (Int32.ofNat r_))) (some (zwI z21)) (some (zwI z22)) (some (zwI (if zlat (I_ 1 r_) = true then 1 else 0))) (some (zwI (if zlon (I_ 1 r_) = true then 1 else 0))) x25 x26) [] I_ L_ a_ Q_) : zY (some (T, xs)) 20 210 1716 (zlLw (some (zwI 1)) (some (zwI (Int32.ofNat bus))) (some (zwI (Int32.ofNat M_))) (some (zwI (Int32.ofNat y_))) (some (zwI (Int32.ofNat turn_))) x14 x15 (some (zwI z16)) (some (zwL (zmon I_ (List.range r_) 0))) none (some (zwI (zcnt (fun q_ => zctd (I_ 1 q_) 7) (List.range r_) 0))) (some (zwI (Int32.ofNat r_))) (some (zwI z21)) (some (zwI z22)) (some (zwI (if zlat (I_ 1 r_) = true then 1 else 0))) (some (zwI (if zlon (I_ 1 r_) = true then 1 else 0))) x25 x26) [] I_ L_ a_ Q_ := by
  have hM_ : M_ ≤ 60 := by obtain ⟨⟨D_, hR, et⟩, _⟩ := h_; exact hR.1.2.2.2.2.2.2.2.1
  have g2 : zY (some (T, xs)) 20 210 1750 (zlLw (some (zwI 1)) (some (zwI (Int32.ofNat bus))) (some (zwI (Int32.ofNat M_))) (some (zwI (Int32.ofNat y_))) (some (zwI (Int32.ofNat turn_))) x14 x15 (some (zwI z16)) (some (zwL (zmon I_ (List.range r_) 0))) none (some (zwI (zcnt (fun q_ => zctd (I_ 1 q_) 7) (List.range r_) 0))) (some (zwI (Int32.ofNat r_))) (some (zwI z21)) (some (zwI z22)) (some (zwI (if zlat (I_ 1 r_) = true then 1 else 0))) (some (zwI (if zlon (I_ 1 r_) = true then 1 else 0))) x25 x26) [zwI (zrtl (I_ 1 r_) 8)] I_ L_ a_ Q_ := by
    show zY (some (T, xs)) 20 210 1750 (zlLw (some (zwI 1)) (some (zwI (Int32.ofNat bus))) (some (zwI (Int32.ofNat M_))) (some (zwI (Int32.ofNat y_))) (some (zwI (Int32.ofNat turn_))) x14 x15 (some (zwI z16)) (some (zwL (zmon I_ (List.range r_) 0))) none (some (zwI (zcnt (fun q_ => zctd (I_ 1 q_) 7) (List.range r_) 0))) (some (zwI (Int32.ofNat r_))) (some (zwI z21)) (some (zwI z22)) (some (zwI (if zlat (I_ 1 r_) = true then 1 else 0))) (some (zwI (if zlon (I_ 1 r_) = true then 1 else 0))) x25 x26) [zwI (if zlon (I_ 1 r_) = true then 1 else 0)] I_ L_ a_ Q_
    refine zY.go 1 rfl ?_
    refine zY.we rfl (fun hb_ => ?_) (fun hb_ => ?_)
    · rw [hb_] at hX ⊢
      refine zY.go 1 rfl ?_
      refine zY.bc rfl (fun hp => absurd rfl hp) (fun _ => ?_)
      refine zY.go 3 rfl ?_
      exact hX
    · rw [hb_] at hX ⊢
      refine zY.go 2 rfl ?_
      refine zY.bc rfl (fun hp => absurd rfl hp) (fun _ => ?_)
      refine zY.go 3 rfl ?_
      exact hX
  refine zY.go 1 rfl ?_
  refine zY.bi rfl (fun hp => absurd (show (1 : Int32) = 0 from hp) (by decide)) (fun _ => ?_)
  refine zY.go 3 rfl ?_
  refine zY.cr (zq62' (k_ := 7) h_ hr (by decide)) rfl rfl rfl rfl (Nat.le_of_ble_eq_true rfl) rfl (by decide) rfl (by decide) (Nat.zero_le _) ?_
  show zY (some (T, xs)) 20 210 1729 (zlLw (some (zwI 1)) (some (zwI (Int32.ofNat bus))) (some (zwI (Int32.ofNat M_))) (some (zwI (Int32.ofNat y_))) (some (zwI (Int32.ofNat turn_))) x14 x15 (some (zwI z16)) (some (zwL (zmon I_ (List.range r_) 0))) none (some (zwI (zcnt (fun q_ => zctd (I_ 1 q_) 7) (List.range r_) 0))) (some (zwI (Int32.ofNat r_))) (some (zwI z21)) (some (zwI z22)) (some (zwI (if zlat (I_ 1 r_) = true then 1 else 0))) (some (zwI (if zlon (I_ 1 r_) = true then 1 else 0))) x25 x26) [zwI (if zlat (I_ 1 r_) = true then 1 else 0)] I_ L_ a_ Q_
  refine zY.go 1 rfl ?_
  refine zY.we rfl (fun hb_ => ?_) (fun hb_ => ?_)
  · rw [hb_] at g2 ⊢
    refine zY.go 1 rfl ?_
    refine zY.bc rfl (fun hp => absurd rfl hp) (fun _ => ?_)
    refine zY.go 3 rfl ?_
    refine zY.cr (zq62' (k_ := 8) h_ hr (by decide)) rfl rfl rfl rfl (Nat.le_of_ble_eq_true rfl) rfl (by decide) rfl (by decide) (Nat.zero_le _) ?_
    exact g2
  · rw [hb_] at g2 ⊢
    refine zY.go 2 rfl ?_
    refine zY.bc rfl (fun hp => absurd rfl hp) (fun _ => ?_)
    refine zY.go 3 rfl ?_
    refine zY.cr (zq62' (k_ := 8) h_ hr (by decide)) rfl rfl rfl rfl (Nat.le_of_ble_eq_true rfl) rfl (by decide) rfl (by decide) (Nat.zero_le _) ?_
    exact g2
end
