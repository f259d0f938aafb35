/-! THE LAW: what a turn does: traffic, the end of a day -/
section
variable {I_ I' : zIn} {L_ L' : zLi} {M_ t_ t' y_ y' bus j_ v_ p_ a_ b_ m_ turn_ T B_ : Nat} {xs : Nat → Int32} {Q_ : zPost} {x14 x15 x16 x17 x18 x19 x20 x21 x22 x23 x24 x25 x26 : Option zW} {z14_ z15 z16 : Int32}
set_option maxRecDepth 100000 in
theorem zocT (h_ : zLw I_ L_ M_ t_ y_ bus j_) (ha_ : B_ + 200 ≤ a_) (hX : zoX T xs Q_ bus j_ turn_ y_ B_) : zY (some (T, xs)) 20 210 1254 (zlLw (some (zwI 1)) (some (zwI (Int32.ofNat bus))) (some (zwI (Int32.ofNat M_))) (some (zwI (Int32.ofNat y_))) (some (zwI (Int32.ofNat turn_))) (some (zwI z14_)) (some (zwI z15)) (some (zwI (Int32.ofNat t_))) x17 x18 x19 x20 x21 x22 x23 x24 x25 x26) [] I_ L_ a_ Q_ := by
  obtain ⟨v_, hv, ev_⟩ := zup_ok (v_ := z14_ / 32) (n_ := 2) (by omega) (by omega)
  obtain ⟨k_, hk, ek⟩ := zup_ok (v_ := z14_ / 64) (n_ := 30) (by omega) (by omega)
  obtain ⟨⟨⟨D_, hR, et⟩, _⟩, _⟩ := id h_
  have fin_ : ∀ (J_ : zIn) (K_ : zLi) (d_ : Int32), zLw J_ K_ M_ t_ y_ bus j_ → zzR J_ K_ D_ 6 2 M_ → (J_ 5 v_ 10 = 0 → d_ = (if J_ 6 0 8 < J_ 5 v_ 12 then J_ 5 v_ 12 else J_ 6 0 8) + Int32.ofNat (k_ + 1)) → (¬ J_ 5 v_ 10 = 0 → ∃ s_ l, K_ 24 v_ = s_ :: l ∧ d_ = J_ 4 s_ 4 + Int32.ofNat (k_ + 1)) → zY (some (T, xs)) 20 210 1334 (zlLw (some (zwI 1)) (some (zwI (Int32.ofNat bus))) (some (zwI (Int32.ofNat M_))) (some (zwI (Int32.ofNat y_))) (some (zwI (Int32.ofNat turn_))) (some (zwI z14_)) (some (zwI z15)) (some (zwI (Int32.ofNat t_))) (some (zwI (Int32.ofNat v_))) (some (zwI (Int32.ofNat (k_ + 1)))) (some (zwI (D_ 30 18 v_))) (some (zwI d_)) x21 x22 x23 x24 x25 x26) [zwI (Int32.ofNat (k_ + 1)), zwI (Int32.ofNat v_), zwR 6 0] J_ K_ a_ Q_ := by
    intro J_ K_ d_ hJ hRJ e1_ e2_
    refine zY.c (zc57 hJ hv (n_ := k_ + 1) (by omega)) rfl rfl rfl rfl (Nat.le_of_ble_eq_true rfl) rfl (by decide) rfl (by decide) (by omega) (fun r_ I2_ L2_ hq => ?_)
    obtain ⟨x_, rfl, x1_, x2_, h2⟩ := hq
    refine ⟨_, rfl, ?_⟩
    have ex_ : x_ = d_ := by
      by_cases h10 : J_ 5 v_ 10 = 0
      · rw [x1_ h10, e1_ h10]
      · obtain ⟨s_, l, e3_, e4_⟩ := e2_ h10
        rw [x2_ h10 s_ l e3_, e4_]
    rw [ex_]
    refine zY.go 1 rfl ?_
    refine zY.bc rfl (fun hp => absurd rfl hp) (fun _ => ?_)
    refine zY.go 4 rfl ?_
    exact hX I2_ L2_ M_ t_ y_ _ _ _ _ _ _ _ _ _ _ _ _ _ _ (by omega) h2 (by omega)
  refine zY.go 4 rfl ?_
  refine zY.cr (za120 (y_ := 2) (by decide)) rfl rfl rfl rfl (Nat.le_of_ble_eq_true rfl) rfl (by decide) rfl (by decide) (Nat.zero_le _) ?_
  rw [show zup (z14_ / 32) 2 = Int32.ofNat v_ from ev_]
  refine zY.go 6 rfl ?_
  refine zY.cr (za120 (y_ := 30) (by decide)) rfl rfl rfl rfl (Nat.le_of_ble_eq_true rfl) rfl (by decide) rfl (by decide) (Nat.zero_le _) ?_
  rw [show zup (z14_ / 64) 30 = Int32.ofNat k_ from ek]
  refine zY.go 5 rfl ?_
  rw [show (1 : Int32) + Int32.ofNat k_ = Int32.ofNat (k_ + 1) by rw [Int32.add_comm]; exact zisucc k_]
  refine zY.c (zq63 (k_ := 1) hR hv (by decide)) rfl rfl rfl rfl (Nat.le_of_ble_eq_true rfl) rfl (by decide) rfl (by decide) (Nat.zero_le _) (fun r_ J2 K2 hq => ?_)
  obtain ⟨rfl, s2_⟩ := hq
  refine ⟨_, rfl, ?_⟩
  have h2 := h_.sq s2_
  have R2 := s2_.R hR
  refine zY.go 4 rfl ?_
  refine zY.c (zq63 (k_ := 5) R2 hv (by decide)) rfl rfl rfl rfl (Nat.le_of_ble_eq_true rfl) rfl (by decide) rfl (by decide) (Nat.zero_le _) (fun r_ J3 K3 hq => ?_)
  obtain ⟨rfl, s3_⟩ := hq
  refine ⟨_, rfl, ?_⟩
  have h3 := h2.sq s3_
  have R3 := s3_.R R2
  obtain ⟨v1_, v2, _⟩ := R3.2.2.2.1 v_ hv
  have e12_ : J3 5 v_ 12 = D_ 30 18 v_ := v1_.1.2.2.2.2.1
  have e10_ : J3 5 v_ 10 = 0 ↔ D_ 31 19 v_ = 0 := v1_.1.2.2.2.2.2.1
  have en : J3 6 0 8 = Int32.ofNat t_ := h3.1.now.1
  refine zY.go 1 rfl ?_
  by_cases h10 : D_ 31 19 v_ = 0
  · have hj := e10_.mpr h10
    refine zY.bc rfl (fun _ => ?_) (fun hp => absurd (show ¬ (if D_ 31 19 v_ = 0 then (0 : Int32) else 1) = 1 by rw [if_pos h10]; decide) hp)
    refine zY.go 2 rfl ?_
    refine zY.bc rfl (fun hp => ?_) (fun hp => ?_)
    · refine zY.go 7 rfl ?_
      refine fin_ J3 K3 (Int32.ofNat t_ + Int32.ofNat (k_ + 1)) h3 R3 (fun _ => ?_) (fun hh => absurd hj hh)
      rw [e12_, en, if_neg (show ¬ Int32.ofNat t_ < D_ 30 18 v_ from Int32.not_lt.mpr hp)]
    · refine zY.go 8 rfl ?_
      refine fin_ J3 K3 (D_ 30 18 v_ + Int32.ofNat (k_ + 1)) h3 R3 (fun _ => ?_) (fun hh => absurd hj hh)
      rw [e12_, en, if_pos (show Int32.ofNat t_ < D_ 30 18 v_ from Int32.not_le.mp hp)]
  · have hj : ¬ J3 5 v_ 10 = 0 := fun e_ => h10 (e10_.mp e_)
    obtain ⟨s_, l, hl, f3_, f4_, _⟩ := v2.1 hj
    refine zY.bc rfl (fun hp => absurd (show (if D_ 31 19 v_ = 0 then (0 : Int32) else 1) = 1 by rw [if_neg h10]) hp) (fun _ => ?_)
    refine zY.go 4 rfl ?_
    refine zY.c (zq64 (k_ := 3) (j_ := 0) R3 hv (by rw [hl]; rfl) (by decide)) rfl rfl rfl rfl (Nat.le_of_ble_eq_true rfl) rfl (by decide) rfl (by decide) (Nat.zero_le _) (fun r_ J4 K4 hq => ?_)
    obtain ⟨rfl, s4_⟩ := hq
    refine ⟨_, rfl, ?_⟩
    have h4 := h3.sq s4_
    have R4 := s4_.R R3
    obtain ⟨w1_, w2_, _⟩ := R4.2.2.2.1 v_ hv
    have hj4 : ¬ J4 5 v_ 10 = 0 := fun e_ => h10 (w1_.1.2.2.2.2.2.1.mp e_)
    obtain ⟨s', l', hl', g3_, g4, _⟩ := w2_.1 hj4
    have ez : zsq D_ v_ (K3 24 v_) s_ 0 3 = D_ 30 21 v_ := by
      show zzE (zzP D_ v_ (K3 24 v_)) 0 = D_ 30 21 v_
      rw [hl]
      unfold zzE zzP zzpt zzbe
      rw [if_pos ⟨rfl, h10⟩]
      rfl
    rw [ez]
    refine zY.go 7 rfl ?_
    exact fin_ J4 K4 (D_ 30 21 v_ + Int32.ofNat (k_ + 1)) h4 R4 (fun hh => absurd hh hj4) (fun _ => ⟨s', l', hl', by rw [g4]⟩)
theorem zcnt_st {k_ : Nat} (hk : k_ = 0 ∨ k_ = 1) (hr : ∀ r_, r_ < M_ → ¬ I_ 1 r_ 5 = 0 ∧ ¬ I_ 1 r_ 5 = 1) : zcnt (fun q_ => zctd (I_ 1 q_) k_) (List.range M_) 0 = 0 := by
  refine zcnt_0 _ _ (fun q_ hq => ?_)
  have := hr q_ (List.mem_range.mp hq)
  rcases hk with rfl | rfl
  · exact decide_eq_false this.1
  · exact decide_eq_false this.2
set_option maxRecDepth 100000 in
theorem zocE (h_ : zLw I_ L_ M_ t_ y_ bus j_) (hy : y_ < 400) (ha_ : B_ + 200 ≤ a_) (hX : zoX T xs Q_ bus j_ turn_ y_ B_) : zY (some (T, xs)) 20 210 1412 (zlLw (some (zwI 1)) (some (zwI (Int32.ofNat bus))) (some (zwI (Int32.ofNat M_))) (some (zwI (Int32.ofNat y_))) (some (zwI (Int32.ofNat turn_))) (some (zwI z14_)) (some (zwI z15)) (some (zwI (Int32.ofNat t_))) x17 x18 x19 x20 x21 x22 x23 x24 x25 x26) [] I_ L_ a_ Q_ := by
  refine zY.go 1 rfl ?_
  refine zY.c (zc55 h_ hy) rfl rfl rfl rfl (Nat.le_of_ble_eq_true rfl) rfl (by decide) rfl (by decide) (by omega) (fun r_ I1 L1 hq => ?_)
  obtain ⟨x_, rfl, hx, h1, hv, hr⟩ := hq
  refine ⟨_, rfl, ?_⟩
  refine zY.bi rfl (fun hp => absurd hp (Int32.not_lt.mpr hx)) (fun _ => ?_)
  refine zY.go 1 rfl ?_
  refine zY.cr zm25 rfl rfl rfl rfl (Nat.le_of_ble_eq_true rfl) rfl (by decide) rfl (by decide) (Nat.zero_le _) ?_
  rw [h1.1.now.1]
  refine zY.bi rfl (fun hp => absurd rfl hp) (fun _ => ?_)
  obtain ⟨⟨⟨D_, R1, _⟩, _⟩, _⟩ := id h1
  refine zY.go 3 rfl ?_
  refine zY.c (zq63 (v_ := 0) (k_ := 2) R1 (by omega) (by decide)) rfl rfl rfl rfl (Nat.le_of_ble_eq_true rfl) rfl (by decide) rfl (by decide) (Nat.zero_le _) (fun r_ I2_ L2_ hq => ?_)
  obtain ⟨rfl, s2_⟩ := hq
  refine ⟨_, rfl, ?_⟩
  have h2 := h1.sq s2_
  have R2 := s2_.R R1
  rw [(hv 0 (by omega)).1]
  refine zY.bi rfl (fun hp => absurd rfl hp) (fun _ => ?_)
  refine zY.go 3 rfl ?_
  refine zY.c (zq63 (v_ := 0) (k_ := 0) R2 (by omega) (by decide)) rfl rfl rfl rfl (Nat.le_of_ble_eq_true rfl) rfl (by decide) rfl (by decide) (Nat.zero_le _) (fun r_ I3 L3_ hq => ?_)
  obtain ⟨rfl, s3_⟩ := hq
  refine ⟨_, rfl, ?_⟩
  have h3 := h2.sq s3_
  have R3 := s3_.R R2
  have e0_ : D_ 30 17 0 = I3 30 66 0 := by
    have a1_ := ((R1.2.2.2.1 0 (by omega)).1).1.2.2.2.1
    have a2 := (hv 0 (by omega)).2.1
    have a3 := (h3.2.1.2.2 0 (by omega)).1
    rw [← a1_, a2, ← s2_.o.a5 0 1, ← s3_.o.a5 0 1]
    exact a3.symm
  refine zY.go 2 rfl ?_
  refine zY.ai (n_ := 0) rfl rfl (by show 0 < 8; omega) ?_
  rw [← e0_]
  refine zY.bc rfl (fun hp => absurd rfl hp) (fun _ => ?_)
  refine zY.go 3 rfl ?_
  refine zY.c (zq63 (v_ := 1) (k_ := 1) R3 (by omega) (by decide)) rfl rfl rfl rfl (Nat.le_of_ble_eq_true rfl) rfl (by decide) rfl (by decide) (Nat.zero_le _) (fun r_ I4 L4_ hq => ?_)
  obtain ⟨rfl, s4_⟩ := hq
  refine ⟨_, rfl, ?_⟩
  have h4 := h3.sq s4_
  have R4 := s4_.R R3
  have e1_ : D_ 30 18 1 = 0 := by
    rw [← ((R1.2.2.2.1 1 (by omega)).1).1.2.2.2.2.1]
    exact (hv 1 (by omega)).2.2
  have e22_ : L4_ 22 0 = List.range M_ := R4.1.2.2.2.2.2.2.1
  have e5_ : ∀ r_, r_ < M_ → ¬ I4 1 r_ 5 = 0 ∧ ¬ I4 1 r_ 5 = 1 := fun r_ hrM => by
    rw [s4_.o.a1 r_ (f_ := 5) (by omega), s3_.o.a1 r_ (f_ := 5) (by omega), s2_.o.a1 r_ (f_ := 5) (by omega)]
    exact hr r_ hrM
  show zY (some (T, xs)) 20 210 _ _ [zwI (D_ 30 18 1)] I4 L4_ _ Q_
  rw [e1_]
  refine zY.bi rfl (fun hp => absurd rfl hp) (fun _ => ?_)
  refine zY.go 5 rfl ?_
  refine zY.bi rfl (fun hp => absurd (show (1 : Int32) = 0 from hp) (by decide)) (fun _ => ?_)
  refine zY.go 1 rfl ?_
  refine zY.cr zm24 rfl rfl rfl rfl (Nat.le_of_ble_eq_true rfl) rfl (by decide) rfl (by decide) (Nat.zero_le _) ?_
  rw [h4.2.2.2.2.1]
  refine zY.go 1 rfl ?_
  refine zY.bc rfl (fun hp => absurd (zisucc y_).symm hp) (fun _ => ?_)
  refine zY.go 2 rfl ?_
  refine zY.cr (zm71t (k_ := 0) (by decide)) rfl rfl rfl rfl (Nat.le_of_ble_eq_true rfl) rfl (by decide) rfl (by decide) (Nat.zero_le _) ?_
  rw [e22_, zcnt_st (Or.inl rfl) e5_]
  refine zY.bi rfl (fun hp => absurd rfl hp) (fun _ => ?_)
  refine zY.go 2 rfl ?_
  refine zY.cr (zm71t (k_ := 1) (by decide)) rfl rfl rfl rfl (Nat.le_of_ble_eq_true rfl) rfl (by decide) rfl (by decide) (Nat.zero_le _) ?_
  rw [e22_, zcnt_st (Or.inr rfl) e5_]
  refine zY.bi rfl (fun hp => absurd rfl hp) (fun _ => ?_)
  refine zY.go 4 rfl ?_
  have := hX I4 L4_ M_ 0 (y_ + 1) (a_ - 60) z14_ z15 (Int32.ofNat t_) x17 x18 x19 x20 x21 x22 x23 x24 x25 x26 (by omega) h4 (by omega)
  rw [← zisucc] at this
  exact this
set_option maxRecDepth 100000 in
theorem zocF (h_ : zLw I_ L_ M_ t_ y_ bus j_) (hy : y_ < 400) (ha_ : B_ + 200 ≤ a_) (hX : zoX T xs Q_ bus j_ turn_ y_ B_) : zY (some (T, xs)) 20 210 1400 (zlLw (some (zwI 1)) (some (zwI (Int32.ofNat bus))) (some (zwI (Int32.ofNat M_))) (some (zwI (Int32.ofNat y_))) (some (zwI (Int32.ofNat turn_))) (some (zwI z14_)) (some (zwI z15)) (some (zwI (Int32.ofNat t_))) x17 x18 x19 x20 x21 x22 x23 x24 x25 x26) [] I_ L_ a_ Q_ := by
  refine zY.go 4 rfl ?_
  refine zY.cr (za120 (y_ := 4) (by decide)) rfl rfl rfl rfl (Nat.le_of_ble_eq_true rfl) rfl (by decide) rfl (by decide) (Nat.zero_le _) ?_
  refine zY.bi rfl (fun hp => ?_) (fun hp => ?_)
  · exact zocL h_ (by omega) hX
  · exact zocE h_ hy (by omega) hX
end
