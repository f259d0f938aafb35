/-! THE LAW: its vehicles, its bus -/
section
variable {I_ I' : zIn} {L_ L' : zLi} {p_ N_ T a_ k_ : Nat} {xs : Nat → Int32} {Q_ : zPost} {x10 x11 x12 x13 x14 x15 x16 x17 x18 x19 x20 x21 x22 x23 x24 x25 x26 : Option zW} {kx hx wx w_ : Int32}
theorem zveI_ne {y1 y2 y3 y4 : Int32} {c_ i_ f_ : Nat} (h_ : ¬ (c_ = 5 ∧ i_ = N_)) (h0 : ¬ (c_ = 0 ∧ i_ = N_)) (h99 : ¬ (c_ = 99 ∧ (i_ = 0 ∨ i_ = 5 ∨ i_ = 24 ∨ i_ = 25 ∨ i_ = 26 ∨ i_ = 27))) : zveI I_ N_ y1 y2 y3 y4 c_ i_ f_ = I_ c_ i_ f_ := by
  have hv : ∀ (J_ : zIn) (d_ : Nat), ¬ (c_ = 99 ∧ i_ = d_) → zvl J_ d_ N_ c_ i_ f_ = J_ c_ i_ f_ := fun J_ d_ hd_ => by
    unfold zvl znwI
    by_cases e_ : c_ = 99
    · rw [if_pos e_, if_neg (by omega), e_]
    · rw [if_neg e_]
      by_cases e2_ : c_ = d_ ∧ i_ = N_
      · rw [if_pos e2_, e2_.1, e2_.2]
      · rw [if_neg e2_]
  have hn : ∀ (J_ : zIn) (d_ : Nat) (r_ : Nat → Int32), ¬ (c_ = 99 ∧ i_ = d_) → ¬ (c_ = d_ ∧ i_ = N_) → znwI J_ d_ N_ r_ c_ i_ f_ = J_ c_ i_ f_ := fun J_ d_ r_ hd_ h2 => by
    unfold znwI
    by_cases e_ : c_ = 99
    · rw [if_pos e_, if_neg (by omega), e_]
    · rw [if_neg e_, if_neg h2]
  unfold zveI zveL
  rw [hn _ 5 _ (by omega) (by omega), hn _ 0 _ (by omega) (by omega), hv _ 27 (by omega), hv _ 26 (by omega), hv _ 25 (by omega), hv _ 24 (by omega)]
/-- one more vehicle -/
theorem zwSt.v {c0_ c1_ c2_ : Nat} {b0 b1 b2 b3 y4 : Int32} (h_ : zwSt I_ L_ p_ N_) (hN_ : N_ < 4) (h0 : c0_ ≤ 35) (h1 : 1 ≤ c1_ ∧ c1_ ≤ 8) (h2 : c2_ ≤ 3) (e0_ : b0 = Int32.ofNat c0_) (e1_ : b1 = Int32.ofNat c1_) (e2_ : b2 = Int32.ofNat c2_) : zwSt (zveI (zset (zset (zset (zset I_ 30 66 (4 * N_) b0) 30 66 (4 * N_ + 1) b1) 30 66 (4 * N_ + 2) b2) 30 66 (4 * N_ + 3) b3) N_ b0 b1 b2 y4) (zlup L_ 21 0 (L_ 21 0 ++ [N_])) p_ (N_ + 1) := by
  subst e0_
  subst e1_
  subst e2_
  obtain ⟨⟨D_, hR⟩, g1, g2, g3_, g4, g5_, g6⟩ := h_
  have R1 : zzR (zset (zset (zset (zset I_ 30 66 (4 * N_) (Int32.ofNat c0_)) 30 66 (4 * N_ + 1) (Int32.ofNat c1_)) 30 66 (4 * N_ + 2) (Int32.ofNat c2_)) 30 66 (4 * N_ + 3) b3) L_ D_ p_ N_ 0 := hR.s30.s30.s30.s30
  have nz : ∀ c_ i_ f_, ¬ (c_ = 30 ∧ i_ = 66 ∧ 4 * N_ ≤ f_ ∧ f_ ≤ 4 * N_ + 3) → zset (zset (zset (zset I_ 30 66 (4 * N_) (Int32.ofNat c0_)) 30 66 (4 * N_ + 1) (Int32.ofNat c1_)) 30 66 (4 * N_ + 2) (Int32.ofNat c2_)) 30 66 (4 * N_ + 3) b3 c_ i_ f_ = I_ c_ i_ f_ := fun c_ i_ f_ hc_ => by
    rw [zset_ne (by omega), zset_ne (by omega), zset_ne (by omega), zset_ne (by omega)]
  have k0_ : zset (zset (zset (zset I_ 30 66 (4 * N_) (Int32.ofNat c0_)) 30 66 (4 * N_ + 1) (Int32.ofNat c1_)) 30 66 (4 * N_ + 2) (Int32.ofNat c2_)) 30 66 (4 * N_ + 3) b3 30 66 (4 * N_) = Int32.ofNat c0_ := by rw [zset_ne (by omega), zset_ne (by omega), zset_ne (by omega), zset_is]
  have k1_ : zset (zset (zset (zset I_ 30 66 (4 * N_) (Int32.ofNat c0_)) 30 66 (4 * N_ + 1) (Int32.ofNat c1_)) 30 66 (4 * N_ + 2) (Int32.ofNat c2_)) 30 66 (4 * N_ + 3) b3 30 66 (4 * N_ + 1) = Int32.ofNat c1_ := by rw [zset_ne (by omega), zset_ne (by omega), zset_is]
  have k2_ : zset (zset (zset (zset I_ 30 66 (4 * N_) (Int32.ofNat c0_)) 30 66 (4 * N_ + 1) (Int32.ofNat c1_)) 30 66 (4 * N_ + 2) (Int32.ofNat c2_)) 30 66 (4 * N_ + 3) b3 30 66 (4 * N_ + 2) = Int32.ofNat c2_ := by rw [zset_ne (by omega), zset_is]
  generalize zset (zset (zset (zset I_ 30 66 (4 * N_) (Int32.ofNat c0_)) 30 66 (4 * N_ + 1) (Int32.ofNat c1_)) 30 66 (4 * N_ + 2) (Int32.ofNat c2_)) 30 66 (4 * N_ + 3) b3 = I1 at *
  have R2 := (zzsV (y4 := y4) R1 hN_ h0 h1 h2).1
  have e5_ : zveI I1 N_ (Int32.ofNat c0_) (Int32.ofNat c1_) (Int32.ofNat c2_) y4 5 N_ = zrw [0, Int32.ofNat c0_, Int32.ofNat c1_, Int32.ofNat c2_, y4, 0, 0, 0, 0, 1, 0, Int32.ofNat c0_, 0] := by
    unfold zveI
    rw [znwI_is (by omega)]
  refine ⟨⟨_, R2⟩, ⟨?_, ?_, ?_⟩, fun q_ hq => ?_, fun i_ hi_ => ?_, fun v_ => ?_, fun i_ hi_ => ?_, fun v_ hv => ?_⟩
  · rw [zveI_ne (by omega) (by omega) (by omega), nz _ _ _ (by omega)]; exact g1.1
  · rw [zveI_ne (by omega) (by omega) (by omega), nz _ _ _ (by omega)]; exact g1.2.1
  · rw [zveI_ne (by omega) (by omega) (by omega), nz _ _ _ (by omega)]; exact g1.2.2
  · rw [zveI_ne (by omega) (by omega) (by omega), nz _ _ _ (by omega)]; exact g2 q_ hq
  · rw [zveI_ne (by omega) (by omega) (by omega), nz _ _ _ (by omega)]; exact g3_ i_ hi_
  · rw [zlup_ne (by omega)]; exact g4 v_
  · rw [zveI_ne (c_ := 30) (by omega) (by omega) (by omega), zveI_ne (c_ := 30) (by omega) (by omega) (by omega), zveI_ne (c_ := 30) (by omega) (by omega) (by omega), zveI_ne (c_ := 2) (by omega) (by omega) (by omega), zveI_ne (c_ := 2) (by omega) (by omega) (by omega), zveI_ne (c_ := 2) (by omega) (by omega) (by omega), nz 30 60 i_ (by omega), nz 30 61 i_ (by omega), nz 30 62 i_ (by omega), nz 2 i_ 0 (by omega), nz 2 i_ 3 (by omega), nz 2 i_ 2 (by omega)]
    exact g5_ i_ hi_
  · rw [zveI_ne (c_ := 30) (by omega) (by omega) (by omega), zveI_ne (c_ := 30) (by omega) (by omega) (by omega), zveI_ne (c_ := 30) (by omega) (by omega) (by omega)]
    by_cases e_ : v_ = N_
    · subst e_
      rw [e5_, k0_, k1_, k2_]
      exact ⟨rfl, rfl, rfl⟩
    · rw [zveI_ne (c_ := 5) (by omega) (by omega) (by omega), zveI_ne (c_ := 5) (by omega) (by omega) (by omega), zveI_ne (c_ := 5) (by omega) (by omega) (by omega), nz 30 66 _ (by omega), nz 30 66 _ (by omega), nz 30 66 _ (by omega), nz 5 v_ 1 (by omega), nz 5 v_ 2 (by omega), nz 5 v_ 3 (by omega)]
      exact g6 v_ (by omega)
set_option maxRecDepth 100000 in
theorem zos2 (hT_ : T ≤ 1000) (hX : ∀ I_ L_ x11 a', a_ ≤ a' → zwSt I_ L_ 6 2 → zY (some (T, xs)) 20 210 336 (zlLw (some (zwI 1)) (some (zwI 2)) x11 x12 x13 x14 x15 x16 x17 x18 x19 x20 x21 x22 x23 x24 x25 x26) [] I_ L_ a' Q_) : ∀ (n_ N_ : Nat) (I_ : zIn) (L_ : zLi) (a' : Nat) (x11 : Option zW), n_ + N_ = 2 → 100 * n_ + a_ ≤ a' → zwSt I_ L_ 6 N_ → zY (some (T, xs)) 20 210 181 (zlLw (some (zwI 1)) (some (zwI (Int32.ofNat N_))) x11 x12 x13 x14 x15 x16 x17 x18 x19 x20 x21 x22 x23 x24 x25 x26) [] I_ L_ a' Q_
  | 0, N_, I_, L_, a', x11, hn, ha_, h_ => by
    have e_ : N_ = 2 := by omega
    subst e_
    refine zY.go 2 rfl ?_
    refine zY.bc rfl (fun _ => hX I_ L_ x11 a' (by omega) h_) (fun hq => absurd (Int32.le_refl 2) hq)
  | n_ + 1, N_, I_, L_, a', x11, hn, ha_, h_ => by
    obtain ⟨c0_, hc0, ec0⟩ := zup_ok (v_ := zcel T xs (6 + N_)) (n_ := 36) (by omega) (by omega)
    obtain ⟨c1_, hc1, ec1⟩ := zup_ok (v_ := zcel T xs (6 + N_) / 64) (n_ := 6) (by omega) (by omega)
    obtain ⟨c2_, hc2, ec2⟩ := zup_ok (v_ := zcel T xs (6 + N_) / 512) (n_ := 4) (by omega) (by omega)
    obtain ⟨c3_, hc3, ec3⟩ := zup_ok (v_ := zcel T xs (6 + N_) / 4096) (n_ := 100) (by omega) (by omega)
    obtain ⟨⟨D_, hR⟩, _⟩ := id h_
    have e21_ : (L_ 21 0).length = N_ := by rw [hR.1.2.2.2.1, List.length_range]
    obtain ⟨n5_, n0_, n24_, n25_, n26_, n27, l24, l25, l26, l27⟩ := hR.2.2.2.2.2.2.2.1 N_ (Nat.le_refl _)
    have i0_ : 4 * Int32.ofNat N_ = Int32.ofNat (4 * N_) := by rw [Int32.ofNat_mul]; rfl
    have i1_ : 4 * Int32.ofNat N_ + 1 = Int32.ofNat (4 * N_ + 1) := by rw [i0_, Int32.ofNat_add]; rfl
    have i2_ : 4 * Int32.ofNat N_ + 2 = Int32.ofNat (4 * N_ + 2) := by rw [i0_, Int32.ofNat_add]; rfl
    have i3_ : 4 * Int32.ofNat N_ + 3 = Int32.ofNat (4 * N_ + 3) := by rw [i0_, Int32.ofNat_add]; rfl
    have r0 : (0 : Int32) ≤ Int32.ofNat c0_ ∧ Int32.ofNat c0_ ≤ 35 := ⟨zige (by omega), (zile (b := 35) (by omega) (by omega)).mpr (by omega)⟩
    have r1_ : (1 : Int32) ≤ Int32.ofNat (2 + c1_) ∧ Int32.ofNat (2 + c1_) ≤ 8 := ⟨(zile (a := 1) (by omega) (by omega)).mpr (by omega), (zile (b := 8) (by omega) (by omega)).mpr (by omega)⟩
    have r2 : (0 : Int32) ≤ Int32.ofNat c2_ ∧ Int32.ofNat c2_ ≤ 3 := ⟨zige (by omega), (zile (b := 3) (by omega) (by omega)).mpr (by omega)⟩
    have r3 : (50 : Int32) ≤ Int32.ofNat (100 + c3_) ∧ Int32.ofNat (100 + c3_) ≤ 400 := ⟨(zile (a := 50) (by omega) (by omega)).mpr (by omega), (zile (b := 400) (by omega) (by omega)).mpr (by omega)⟩
    refine zY.go 2 rfl ?_
    refine zY.bc rfl (fun hq => absurd hq (Int32.not_le.mpr ((zilt (b := 2) (by omega) (by omega)).mpr (by omega)))) (fun _ => ?_)
    refine zY.go 4 rfl ?_
    refine zY.cl (n_ := 6 + N_) rfl (Int32.ofNat_add 6 N_).symm (by omega) hT_ (by decide) ?_
    refine zY.go 7 rfl ?_
    refine zY.cr (za120 (y_ := 36) (by decide)) rfl rfl rfl rfl (Nat.le_of_ble_eq_true rfl) rfl (by decide) rfl (by decide) (Nat.zero_le _) ?_
    rw [show zup (zcel T xs (6 + N_)) 36 = Int32.ofNat c0_ from ec0]
    refine zY.si (n_ := 4 * N_) rfl i0_ (by show 4 * N_ < 8; omega) ?_
    refine zY.go 11 rfl ?_
    refine zY.cr (za120 (y_ := 6) (by decide)) rfl rfl rfl rfl (Nat.le_of_ble_eq_true rfl) rfl (by decide) rfl (by decide) (Nat.zero_le _) ?_
    rw [show zup (zcel T xs (6 + N_) / 64) 6 = Int32.ofNat c1_ from ec1]
    refine zY.go 1 rfl ?_
    rw [show (2 : Int32) + Int32.ofNat c1_ = Int32.ofNat (2 + c1_) from (Int32.ofNat_add 2 c1_).symm]
    refine zY.si (n_ := 4 * N_ + 1) rfl i1_ (by show 4 * N_ + 1 < 8; omega) ?_
    refine zY.go 10 rfl ?_
    refine zY.cr (za120 (y_ := 4) (by decide)) rfl rfl rfl rfl (Nat.le_of_ble_eq_true rfl) rfl (by decide) rfl (by decide) (Nat.zero_le _) ?_
    rw [show zup (zcel T xs (6 + N_) / 512) 4 = Int32.ofNat c2_ from ec2]
    refine zY.si (n_ := 4 * N_ + 2) rfl i2_ (by show 4 * N_ + 2 < 8; omega) ?_
    refine zY.go 11 rfl ?_
    refine zY.cr (za120 (y_ := 100) (by decide)) rfl rfl rfl rfl (Nat.le_of_ble_eq_true rfl) rfl (by decide) rfl (by decide) (Nat.zero_le _) ?_
    rw [show zup (zcel T xs (6 + N_) / 4096) 100 = Int32.ofNat c3_ from ec3]
    refine zY.go 1 rfl ?_
    rw [show (100 : Int32) + Int32.ofNat c3_ = Int32.ofNat (100 + c3_) from (Int32.ofNat_add 100 c3_).symm]
    refine zY.si (n_ := 4 * N_ + 3) rfl i3_ (by show 4 * N_ + 3 < 8; omega) ?_
    have h4 := fun y4 => h_.v (c0_ := c0_) (c1_ := 2 + c1_) (c2_ := c2_) (b3 := Int32.ofNat (100 + c3_)) (y4 := y4) (by omega) (by omega) (by omega) (by omega) rfl rfl rfl
    have k0_ : zset (zset (zset (zset I_ 30 66 (4 * N_) (Int32.ofNat c0_)) 30 66 (4 * N_ + 1) (Int32.ofNat (2 + c1_))) 30 66 (4 * N_ + 2) (Int32.ofNat c2_)) 30 66 (4 * N_ + 3) (Int32.ofNat (100 + c3_)) 30 66 (4 * N_) = Int32.ofNat c0_ := by rw [zset_ne (by omega), zset_ne (by omega), zset_ne (by omega), zset_is]
    have k1_ : zset (zset (zset (zset I_ 30 66 (4 * N_) (Int32.ofNat c0_)) 30 66 (4 * N_ + 1) (Int32.ofNat (2 + c1_))) 30 66 (4 * N_ + 2) (Int32.ofNat c2_)) 30 66 (4 * N_ + 3) (Int32.ofNat (100 + c3_)) 30 66 (4 * N_ + 1) = Int32.ofNat (2 + c1_) := by rw [zset_ne (by omega), zset_ne (by omega), zset_is]
    have k2_ : zset (zset (zset (zset I_ 30 66 (4 * N_) (Int32.ofNat c0_)) 30 66 (4 * N_ + 1) (Int32.ofNat (2 + c1_))) 30 66 (4 * N_ + 2) (Int32.ofNat c2_)) 30 66 (4 * N_ + 3) (Int32.ofNat (100 + c3_)) 30 66 (4 * N_ + 2) = Int32.ofNat c2_ := by rw [zset_ne (by omega), zset_is]
    have k3_ : zset (zset (zset (zset I_ 30 66 (4 * N_) (Int32.ofNat c0_)) 30 66 (4 * N_ + 1) (Int32.ofNat (2 + c1_))) 30 66 (4 * N_ + 2) (Int32.ofNat c2_)) 30 66 (4 * N_ + 3) (Int32.ofNat (100 + c3_)) 30 66 (4 * N_ + 3) = Int32.ofNat (100 + c3_) := zset_is
    have m99 : ∀ i_ f_, zset (zset (zset (zset I_ 30 66 (4 * N_) (Int32.ofNat c0_)) 30 66 (4 * N_ + 1) (Int32.ofNat (2 + c1_))) 30 66 (4 * N_ + 2) (Int32.ofNat c2_)) 30 66 (4 * N_ + 3) (Int32.ofNat (100 + c3_)) 99 i_ f_ = I_ 99 i_ f_ := fun i_ f_ => by
      rw [zset_ne (by omega), zset_ne (by omega), zset_ne (by omega), zset_ne (by omega)]
    generalize zset (zset (zset (zset I_ 30 66 (4 * N_) (Int32.ofNat c0_)) 30 66 (4 * N_ + 1) (Int32.ofNat (2 + c1_))) 30 66 (4 * N_ + 2) (Int32.ofNat c2_)) 30 66 (4 * N_ + 3) (Int32.ofNat (100 + c3_)) = I1 at *
    refine zY.go 1 rfl ?_
    refine zY.bi rfl (fun hq => absurd (show (1 : Int32) = 0 from hq) (by decide)) (fun _ => ?_)
    refine zY.go 5 rfl ?_
    refine zY.ai (n_ := 4 * N_) rfl i0_ (by show 4 * N_ < 8; omega) ?_
    rw [k0_]
    refine zY.go 6 rfl ?_
    refine zY.ai (n_ := 4 * N_ + 1) rfl i1_ (by show 4 * N_ + 1 < 8; omega) ?_
    rw [k1_]
    refine zY.go 6 rfl ?_
    refine zY.ai (n_ := 4 * N_ + 2) rfl i2_ (by show 4 * N_ + 2 < 8; omega) ?_
    rw [k2_]
    refine zY.go 6 rfl ?_
    refine zY.ai (n_ := 4 * N_ + 3) rfl i3_ (by show 4 * N_ + 3 < 8; omega) ?_
    rw [k3_]
    refine zY.cr (zm39t (v_ := N_) r0 r1_ r2 r3 e21_ (by omega) (by rw [m99]; exact n5_) (by rw [m99]; exact n0_) (by rw [m99]; exact n24_) (by rw [m99]; exact n25_) (by rw [m99]; exact n26_) (by rw [m99]; exact n27) l24 l25 l26 l27) rfl rfl rfl rfl (Nat.le_of_ble_eq_true rfl) rfl (by decide) rfl (by decide) (by omega) ?_
    refine zY.go 1 rfl ?_
    refine zY.bc rfl (fun hq => absurd rfl hq) (fun _ => ?_)
    refine zY.go 5 rfl ?_
    have := zos2 hT_ hX n_ (N_ + 1) _ _ (a' - 100) (some (zwI (zcel T xs (6 + N_)))) (by omega) (by omega) (h4 (Int32.ofNat (100 + c3_)))
    rw [← zisucc] at this
    exact this
/-- the state when the turns begin -/
theorem zwSt.l {bus : Nat} (h_ : zwSt I_ L_ 6 2) (hb_ : bus < 40) (hR : ∃ D_, zzR I' L_ D_ 6 2 0) (h31 : ∀ k_, k_ < 36 → (I' 31 0 k_ = 0 ↔ ¬ k_ = bus)) (hne : ∀ c_ i_ f_, ¬ c_ = 31 → I' c_ i_ f_ = I_ c_ i_ f_) : zLw I' L_ 0 0 0 bus 0 := by
  obtain ⟨_, g1, g2, g3_, g4, g5_, g6⟩ := h_
  obtain ⟨D_, hR⟩ := hR
  refine ⟨⟨⟨D_, hR, ?_⟩, fun v_ hv => ?_, fun r_ hr => absurd hr (Nat.not_lt_zero r_), by omega⟩, ⟨fun r_ hr => absurd hr (Nat.not_lt_zero r_), fun i_ hi_ => ?_, fun v_ hv => ?_⟩, h31, ?_, ?_, fun i_ hi_ => ?_⟩
  · rw [← zqnow hR, hne 6 0 8 (by omega), g1.2.2]; rfl
  · unfold zxs
    rw [g4 v_]
    exact ⟨List.Pairwise.nil, fun q_ hq => by cases hq⟩
  · rw [hne 30 60 i_ (by omega), hne 30 61 i_ (by omega), hne 30 62 i_ (by omega), hne 2 i_ 0 (by omega), hne 2 i_ 3 (by omega), hne 2 i_ 2 (by omega)]
    exact g5_ i_ hi_
  · rw [hne 30 66 _ (by omega), hne 30 66 _ (by omega), hne 30 66 _ (by omega), hne 5 v_ 1 (by omega), hne 5 v_ 2 (by omega), hne 5 v_ 3 (by omega)]
    exact g6 v_ hv
  · rw [hne 6 0 6 (by omega)]; exact g1.1
  · rw [hne 6 0 7 (by omega), g1.2.1]; rfl
  · rw [hne 99 30 i_ (by omega)]; exact g3_ i_ (by omega)
set_option maxRecDepth 100000 in
theorem zos3 {x11 x12 x13 : Option zW} (hT_ : T ≤ 1000) (ha_ : 10900 ≤ a_) (h_ : zwSt I_ L_ 6 2) (hQ : ∀ I' L', Q_ (.inl (some (zwI 1))) I' L') : zY (some (T, xs)) 20 210 336 (zlLw (some (zwI 1)) (some (zwI 2)) x11 x12 x13 x14 x15 x16 x17 x18 x19 x20 x21 x22 x23 x24 x25 x26) [] I_ L_ a_ Q_ := by
  obtain ⟨bus, hb_, eb⟩ := zup_ok (v_ := zcel T xs 8) (n_ := 40) (by omega) (by omega)
  obtain ⟨⟨D_, hR⟩, g1, g2, _⟩ := id h_
  have go_ : ∀ I', (∃ D_, zzR I' L_ D_ 6 2 0) → (∀ k_, k_ < 36 → (I' 31 0 k_ = 0 ↔ ¬ k_ = bus)) → (∀ c_ i_ f_, ¬ c_ = 31 → I' c_ i_ f_ = I_ c_ i_ f_) → zY (some (T, xs)) 20 210 372 (zlLw (some (zwI 1)) (some (zwI (Int32.ofNat bus))) x11 x12 x13 x14 x15 x16 x17 x18 x19 x20 x21 x22 x23 x24 x25 x26) [] I' L_ a_ Q_ := fun I' h1 h2 h3 => by
    refine zY.go 9 rfl ?_
    exact zoLp (bus := bus) hT_ hb_ hQ 36 9 I' L_ 0 0 0 0 a_ _ _ _ _ _ _ _ _ _ _ _ _ _ rfl (by omega) (h_.l hb_ h1 h2 h3) (by omega)
  refine zY.go 2 rfl ?_
  refine zY.cl (n_ := 8) rfl rfl (by omega) hT_ (by decide) ?_
  refine zY.go 1 rfl ?_
  refine zY.cr (za120 (y_ := 40) (by decide)) rfl rfl rfl rfl (Nat.le_of_ble_eq_true rfl) rfl (by decide) rfl (by decide) (Nat.zero_le _) ?_
  rw [show zup (zcel T xs 8) 40 = Int32.ofNat bus from eb]
  refine zY.go 2 rfl ?_
  refine zY.bi rfl (fun hq => absurd (show (1 : Int32) = 0 from hq) (by decide)) (fun _ => ?_)
  refine zY.go 2 rfl ?_
  refine zY.bc rfl (fun hq => ?_) (fun hq => ?_)
  · have h35 : 35 < bus := (zilt (a := 35) (by omega) (by omega)).mp hq
    exact go_ I_ ⟨D_, hR⟩ (fun k_ hk => ⟨fun _ => by omega, fun _ => g2 k_ hk⟩) (fun _ _ _ _ => rfl)
  · have h35 : bus < 36 := by
      have : ¬ 35 < bus := fun hh => hq ((zilt (a := 35) (by omega) (by omega)).mpr hh)
      omega
    have h31 : ∀ k_, k_ < 36 → (zset I_ 31 0 bus 1 31 0 k_ = 0 ↔ ¬ k_ = bus) := fun k_ hk => by
      by_cases e_ : k_ = bus
      · rw [e_, zset_is]
        exact ⟨fun hh => absurd hh (by decide), fun hh => absurd rfl hh⟩
      · rw [zset_ne (by omega)]
        exact ⟨fun _ => e_, fun _ => g2 k_ hk⟩
    refine zY.go 3 rfl ?_
    refine zY.cr (zm36t (k_ := bus) (x_ := 1) h35 (Or.inr rfl)) rfl rfl rfl rfl (Nat.le_of_ble_eq_true rfl) rfl (by decide) rfl (by decide) (Nat.zero_le _) ?_
    have e1_ : zcb (zset I_ 31 0 bus 1) 36 0 0 = 1 := by
      rw [zcb_one 36 0 0 rfl (fun i_ _ hi_ => h31 i_ hi_), if_pos ⟨Nat.zero_le _, h35⟩]; rfl
    rw [e1_]
    refine zY.go 1 rfl ?_
    refine zY.bc rfl (fun hq2 => absurd rfl hq2) (fun _ => ?_)
    exact go_ _ ⟨_, (zzsB hR h35 (Or.inr rfl)).1⟩ h31 (fun c_ i_ f_ hc_ => zset_ne (by omega))
end
