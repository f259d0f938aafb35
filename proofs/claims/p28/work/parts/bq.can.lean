/-! THE LAW: what a turn does: cancel, absent -/
section
variable {I_ I' : zIn} {L_ L' : zLi} {M_ t_ t' y_ y' bus j_ v_ p_ a_ b_ m_ turn_ T B_ r_ : Nat} {xs : Nat → Int32} {Q_ : zPost} {x14 x15 x16 x17 x18 x19 x20 x21 x22 x23 x24 x25 x26 : Option zW} {z14_ z15 z16 z18 : Int32} {st_ lf_ : Bool}
set_option maxRecDepth 100000 in
theorem zocC1 (h_ : zLw I_ L_ M_ t_ y_ bus j_) (hr : r_ < M_) (hst : st_ = decide (I_ 1 r_ 5 = 0)) (hlf : I_ 1 r_ 5 = 0 → ∃ v_, v_ < 2 ∧ I_ 1 r_ 8 = Int32.ofNat v_ ∧ zlef I_ L_ v_ r_ = lf_) (hl0 : ¬ I_ 1 r_ 5 = 0 → lf_ = false) (ha_ : B_ + 200 ≤ a_) (hX : zoX T xs Q_ bus j_ turn_ y_ B_) : zY (some (T, xs)) 20 210 1041 (zlLw (some (zwI 1)) (some (zwI (Int32.ofNat bus))) (some (zwI (Int32.ofNat M_))) (some (zwI (Int32.ofNat y_))) (some (zwI (Int32.ofNat turn_))) (some (zwI z14_)) (some (zwI z15)) (some (zwI (Int32.ofNat t_))) (some (zwI (Int32.ofNat r_))) (some (zwI z18)) (some (zwI (if st_ = true then 1 else 0))) x20 x21 x22 x23 x24 x25 x26) [zwI (if lf_ = true then 1 else 0)] I_ L_ a_ Q_ := by
  have en := h_.1.now.1
  refine zY.go 4 rfl ?_
  refine zY.cr (zq62' (k_ := 2) h_.1 hr (by decide)) rfl rfl rfl rfl (Nat.le_of_ble_eq_true rfl) rfl (by decide) rfl (by decide) (Nat.zero_le _) ?_
  refine zY.go 3 rfl ?_
  refine zY.bc rfl (fun hp => ?_) (fun hp => ?_)
  · refine zY.go 6 rfl ?_
    refine zY.c (zc52 h_ hr) rfl rfl rfl rfl (Nat.le_of_ble_eq_true rfl) rfl (by decide) rfl (by decide) (by omega) (fun q_ I2_ L2_ hq => ?_)
    obtain ⟨x_, rfl, ex_, h2⟩ := hq
    refine ⟨_, rfl, ?_⟩
    refine zY.go 1 rfl ?_
    by_cases h0 : I_ 1 r_ 5 = 0
    · rw [if_pos h0] at ex_
      rw [decide_eq_true h0] at hst
      subst hst
      subst ex_
      refine zY.bi rfl (fun hp => absurd (show (1 : Int32) = 0 from hp) (by decide)) (fun _ => ?_)
      refine zY.go 2 rfl ?_
      refine zY.bc rfl (fun hp => absurd rfl hp) (fun _ => ?_)
      refine zY.go 4 rfl ?_
      exact hX I2_ L2_ M_ t_ y_ _ _ _ _ _ _ _ _ _ _ _ _ _ _ (by omega) h2 (by omega)
    · rw [if_neg h0] at ex_
      rw [decide_eq_false h0] at hst
      subst hst
      subst ex_
      refine zY.bi rfl (fun _ => ?_) (fun hp => absurd rfl hp)
      refine zY.go 1 rfl ?_
      refine zY.bc rfl (fun hp => absurd rfl hp) (fun _ => ?_)
      refine zY.go 4 rfl ?_
      exact hX I2_ L2_ M_ t_ y_ _ _ _ _ _ _ _ _ _ _ _ _ _ _ (by omega) h2 (by omega)
  · refine zY.go 6 rfl ?_
    refine zY.c (zc49 h_ hr) rfl rfl rfl rfl (Nat.le_of_ble_eq_true rfl) rfl (by decide) rfl (by decide) (by omega) (fun q_ I2_ L2_ hq => ?_)
    obtain ⟨x_, rfl, h2, x1_, x2_⟩ := hq
    refine ⟨_, rfl, ?_⟩
    refine zY.go 1 rfl ?_
    by_cases h0 : I_ 1 r_ 5 = 0
    · obtain ⟨v_, hv, e8, ef⟩ := hlf h0
      obtain ⟨y1, y2⟩ := x2_ h0 v_ hv e8
      rw [ef] at y1 y2
      rw [decide_eq_true h0] at hst
      subst hst
      refine zY.bi rfl (fun hp => absurd (show (1 : Int32) = 0 from hp) (by decide)) (fun _ => ?_)
      refine zY.go 1 rfl ?_
      cases lf_ with
      | true =>
        have ex_ := y1 rfl
        subst ex_
        refine zY.bi rfl (fun hp => absurd (show (1 : Int32) = 0 from hp) (by decide)) (fun _ => ?_)
        refine zY.go 2 rfl ?_
        refine zY.bc rfl (fun hp => absurd rfl hp) (fun _ => ?_)
        refine zY.go 4 rfl ?_
        refine zY.bi rfl (fun hp => absurd (show (1 : Int32) = 0 from hp) (by decide)) (fun _ => ?_)
        refine zY.go 1 rfl ?_
        refine zY.bi rfl (fun hp => absurd (show (1 : Int32) = 0 from hp) (by decide)) (fun _ => ?_)
        refine zY.go 1 rfl ?_
        refine zY.bi rfl (fun _ => ?_) (fun hp => absurd (show ¬ (1 : Int32) = 0 by decide) hp)
        refine zY.go 5 rfl ?_
        exact hX I2_ L2_ M_ t_ y_ _ _ _ _ _ _ _ _ _ _ _ _ _ _ (by omega) h2 (by omega)
      | false =>
        obtain ⟨ex_, e4_⟩ := y2 rfl
        rw [en] at ex_
        refine zY.bi rfl (fun _ => ?_) (fun hp => absurd rfl hp)
        have go_ : zY (some (T, xs)) 20 210 1100 (zlLw (some (zwI 1)) (some (zwI (Int32.ofNat bus))) (some (zwI (Int32.ofNat M_))) (some (zwI (Int32.ofNat y_))) (some (zwI (Int32.ofNat turn_))) (some (zwI z14_)) (some (zwI z15)) (some (zwI (Int32.ofNat t_))) (some (zwI (Int32.ofNat r_))) (some (zwI z18)) (some (zwI 1)) (some (zwI 0)) (some (zwI (I_ 1 r_ 7))) x22 x23 x24 x25 x26) [zwI x_, zwI x_] I2_ L2_ (a_ - 60) Q_ := by
          refine zY.bc rfl (fun hp => absurd rfl hp) (fun _ => ?_)
          refine zY.go 4 rfl ?_
          refine zY.bi rfl (fun hp => absurd (show (1 : Int32) = 0 from hp) (by decide)) (fun _ => ?_)
          refine zY.go 1 rfl ?_
          refine zY.bi rfl (fun hp => absurd (show (1 : Int32) = 0 from hp) (by decide)) (fun _ => ?_)
          refine zY.go 1 rfl ?_
          refine zY.bi rfl (fun hp => absurd rfl hp) (fun _ => ?_)
          refine zY.go 3 rfl ?_
          refine zY.cr (zq62' (k_ := 0) h2.1 hr (by decide)) rfl rfl rfl rfl (Nat.le_of_ble_eq_true rfl) rfl (by decide) rfl (by decide) (Nat.zero_le _) ?_
          show zY (some (T, xs)) 20 210 _ _ [zwI (I2_ 1 r_ 5)] I2_ L2_ _ Q_
          rw [e4_]
          refine zY.go 1 rfl ?_
          refine zY.bc rfl (fun hp => absurd rfl hp) (fun _ => ?_)
          refine zY.go 5 rfl ?_
          exact hX I2_ L2_ M_ t_ y_ _ _ _ _ _ _ _ _ _ _ _ _ _ _ (by omega) h2 (by omega)
        refine zY.go 4 rfl ?_
        refine zY.bc rfl (fun hp => ?_) (fun hp => ?_)
        · rw [if_neg (show ¬ I_ 1 r_ 7 - Int32.ofNat t_ < 60 from Int32.not_lt.mpr hp)] at ex_
          refine zY.go 1 rfl ?_
          rw [ex_] at go_ ⊢
          exact go_
        · rw [if_pos (show I_ 1 r_ 7 - Int32.ofNat t_ < 60 from Int32.not_le.mp hp)] at ex_
          refine zY.go 2 rfl ?_
          rw [ex_] at go_ ⊢
          exact go_
    · have ex_ := x1_ h0
      subst ex_
      have e0_ := hl0 h0
      subst e0_
      rw [decide_eq_false h0] at hst
      subst hst
      refine zY.bi rfl (fun _ => ?_) (fun hp => absurd rfl hp)
      refine zY.go 2 rfl ?_
      refine zY.bc rfl (fun hp => absurd rfl hp) (fun _ => ?_)
      refine zY.go 4 rfl ?_
      refine zY.bi rfl (fun hp => absurd (show (1 : Int32) = 0 from hp) (by decide)) (fun _ => ?_)
      refine zY.go 1 rfl ?_
      refine zY.bi rfl (fun _ => ?_) (fun hp => absurd rfl hp)
      refine zY.go 5 rfl ?_
      exact hX I2_ L2_ M_ t_ y_ _ _ _ _ _ _ _ _ _ _ _ _ _ _ (by omega) h2 (by omega)
set_option maxRecDepth 100000 in
theorem zocC (h_ : zLw I_ L_ M_ t_ y_ bus j_) (hM0 : 0 < M_) (ha_ : B_ + 200 ≤ a_) (hX : zoX T xs Q_ bus j_ turn_ y_ B_) : zY (some (T, xs)) 20 210 969 (zlLw (some (zwI 1)) (some (zwI (Int32.ofNat bus))) (some (zwI (Int32.ofNat M_))) (some (zwI (Int32.ofNat y_))) (some (zwI (Int32.ofNat turn_))) (some (zwI z14_)) (some (zwI z15)) (some (zwI (Int32.ofNat t_))) x17 x18 x19 x20 x21 x22 x23 x24 x25 x26) [] I_ L_ a_ Q_ := by
  obtain ⟨⟨⟨D_, hR, et⟩, _⟩, _⟩ := id h_
  have hM_ : M_ ≤ 60 := hR.1.2.2.2.2.2.2.2.1
  obtain ⟨r_, hr, er⟩ := zup_ok (v_ := z14_ / 32) (n_ := M_) hM0 (by omega)
  refine zY.go 4 rfl ?_
  refine zY.cr (za120 (y_ := Int32.ofNat M_) (fun e_ => by
    have := (zof_eq (a_ := M_) (b_ := 0) (by omega) (by omega)).mp e_
    omega)) rfl rfl rfl rfl (Nat.le_of_ble_eq_true rfl) rfl (by decide) rfl (by decide) (Nat.zero_le _) ?_
  rw [er]
  refine zY.go 4 rfl ?_
  refine zY.cr (zq62' (k_ := 3) h_.1 hr (by decide)) rfl rfl rfl rfl (Nat.le_of_ble_eq_true rfl) rfl (by decide) rfl (by decide) (Nat.zero_le _) ?_
  refine zY.go 4 rfl ?_
  refine zY.cr (zq62' (k_ := 0) h_.1 hr (by decide)) rfl rfl rfl rfl (Nat.le_of_ble_eq_true rfl) rfl (by decide) rfl (by decide) (Nat.zero_le _) ?_
  refine zY.bi rfl (fun hp => ?_) (fun hp => ?_)
  · have h0 : ¬ I_ 1 r_ 5 = 0 := hp
    refine zY.go 3 rfl ?_
    refine zY.bi rfl (fun _ => ?_) (fun hp => absurd rfl hp)
    refine zY.go 1 rfl ?_
    exact zocC1 (st_ := false) (lf_ := false) h_ hr (decide_eq_false h0).symm (fun e_ => absurd e_ h0) (fun _ => rfl) ha_ hX
  · have h0 : I_ 1 r_ 5 = 0 := Classical.not_not.mp hp
    obtain ⟨v_, hv, e8, _⟩ := zzst0 hR hr h0
    refine zY.go 4 rfl ?_
    refine zY.bi rfl (fun hp => absurd (show (1 : Int32) = 0 from hp) (by decide)) (fun _ => ?_)
    refine zY.go 3 rfl ?_
    show zY (some (T, xs)) 20 210 _ (zlLw (some (zwI 1)) (some (zwI (Int32.ofNat bus))) (some (zwI (Int32.ofNat M_))) (some (zwI (Int32.ofNat y_))) (some (zwI (Int32.ofNat turn_))) (some (zwI z14_)) (some (zwI z15)) (some (zwI (Int32.ofNat t_))) (some (zwI (Int32.ofNat r_))) (some (zwI (I_ 1 r_ 8))) (some (zwI 1)) x20 x21 x22 x23 x24 x25 x26) [zwI 5, zwI (I_ 1 r_ 8), zwR 6 0] I_ L_ _ Q_
    rw [e8]
    refine zY.c (zq63 (k_ := 5) hR hv (by decide)) rfl rfl rfl rfl (Nat.le_of_ble_eq_true rfl) rfl (by decide) rfl (by decide) (Nat.zero_le _) (fun q_ J2 K2 hq => ?_)
    obtain ⟨rfl, s2_⟩ := hq
    refine ⟨_, rfl, ?_⟩
    have h2 := h_.sq s2_
    have R2 := s2_.R hR
    have h02 : J2 1 r_ 5 = 0 := (s2_.o.a1 r_ (f_ := 5) (by omega)).trans h0
    have e82 : J2 1 r_ 8 = Int32.ofNat v_ := (s2_.o.a1 r_ (f_ := 8) (by omega)).trans e8
    have e10_ : J2 5 v_ 10 = 0 ↔ D_ 31 19 v_ = 0 := (R2.2.2.2.1 v_ hv).1.1.2.2.2.2.2.1
    refine zY.go 1 rfl ?_
    by_cases h10 : D_ 31 19 v_ = 0
    · refine zY.bc rfl (fun _ => ?_) (fun hp => absurd (show ¬ (if D_ 31 19 v_ = 0 then (0 : Int32) else 1) = 1 by rw [if_pos h10]; decide) hp)
      refine zY.go 1 rfl ?_
      refine zocC1 (st_ := true) (lf_ := false) h2 hr (decide_eq_true h02).symm (fun _ => ⟨v_, hv, e82, ?_⟩) (fun e_ => absurd h02 e_) (by omega) hX
      unfold zlef
      rw [decide_eq_false (fun hh => hh (e10_.mpr h10)), Bool.false_and]
    · refine zY.bc rfl (fun hp => absurd (show (if D_ 31 19 v_ = 0 then (0 : Int32) else 1) = 1 by rw [if_neg h10]) hp) (fun _ => ?_)
      have hj2 : ¬ J2 5 v_ 10 = 0 := fun e_ => h10 (e10_.mp e_)
      obtain ⟨s_, l, hl, _⟩ := (R2.2.2.2.1 v_ hv).2.1.1 hj2
      refine zY.go 4 rfl ?_
      refine zY.c (zq64 (k_ := 0) (j_ := 0) R2 hv (by rw [hl]; rfl) (by decide)) rfl rfl rfl rfl (Nat.le_of_ble_eq_true rfl) rfl (by decide) rfl (by decide) (Nat.zero_le _) (fun q_ J3 K3 hq => ?_)
      obtain ⟨rfl, s3_⟩ := hq
      refine ⟨_, rfl, ?_⟩
      have h3 := h2.sq s3_
      have R3 := s3_.R R2
      have h03 : J3 1 r_ 5 = 0 := (s3_.o.a1 r_ (f_ := 5) (by omega)).trans h02
      have e83 : J3 1 r_ 8 = Int32.ofNat v_ := (s3_.o.a1 r_ (f_ := 8) (by omega)).trans e82
      have e103_ : ¬ J3 5 v_ 10 = 0 := by rw [s3_.o.a5]; exact hj2
      have hs60 : s_ / 2 < M_ := ((R2.2.2.2.1 v_ hv).2.2.2.2.2.1 s_ (by rw [hl]; exact List.mem_cons_self)).1
      have elf : zlef J3 K3 v_ r_ = decide (s_ / 2 = r_) := by
        unfold zlef
        rw [decide_eq_true e103_, s3_.o.a24, hl, Bool.true_and]
      refine zY.go 1 rfl ?_
      by_cases hsr : s_ / 2 = r_
      · refine zY.bc rfl (fun hp => absurd (show Int32.ofNat (s_ / 2) = Int32.ofNat r_ by rw [hsr]) hp) (fun _ => ?_)
        refine zY.go 2 rfl ?_
        exact zocC1 (st_ := true) (lf_ := true) h3 hr (decide_eq_true h03).symm (fun _ => ⟨v_, hv, e83, by rw [elf, decide_eq_true hsr]⟩) (fun e_ => absurd h03 e_) (by omega) hX
      · refine zY.bc rfl (fun _ => ?_) (fun hp => absurd (fun e_ => hsr ((zof_eq (by omega) (by omega)).mp e_)) hp)
        refine zY.go 1 rfl ?_
        exact zocC1 (st_ := true) (lf_ := false) h3 hr (decide_eq_true h03).symm (fun _ => ⟨v_, hv, e83, by rw [elf, decide_eq_false hsr]⟩) (fun e_ => absurd h03 e_) (by omega) hX
end
