/-! THE LAW: its riders -/
theorem zzR.s30 {C_ D_ : zIn} {L_ : zLi} {p_ N_ M_ i_ k_ : Nat} {x_ : Int32} (h_ : zzR C_ L_ D_ p_ N_ M_) : zzR (zset C_ 30 i_ k_ x_) L_ D_ p_ N_ M_ := h_.cg ⟨fun c_ i_ f_ hc_ h1 h4 => zset_ne (by omega), fun s_ hs f_ => zset_ne (by omega)⟩ zzm.rfl (fun _ _ _ _ => rfl)
theorem zzR.n30 {C_ D_ : zIn} {L_ : zLi} {p_ N_ M_ i_ : Nat} {r_ : Nat → Int32} (h_ : zzR C_ L_ D_ p_ N_ M_) : zzR (znwI C_ 30 i_ r_) L_ D_ p_ N_ M_ := by
  refine h_.cg ⟨fun c_ j_ f_ hc_ h1 h4 => ?_, fun s_ hs f_ => ?_⟩ zzm.rfl (fun _ _ _ _ => rfl)
  · unfold znwI
    by_cases e_ : c_ = 99
    · rw [if_pos e_, if_neg (by omega), e_]
    · rw [if_neg e_, if_neg (by omega)]
  · unfold znwI
    rw [if_neg (by omega), if_neg (by omega)]
def zwTr (I_ : zIn) (p_ : Nat) : Prop := ∀ i_, i_ < p_ → I_ 30 60 i_ = I_ 2 i_ 0 ∧ (if I_ 2 i_ 0 = 2 then 2 else 1) + I_ 30 61 i_ = I_ 2 i_ 3 ∧ I_ 30 62 i_ = I_ 2 i_ 2
def zwTv (I_ : zIn) (N_ : Nat) : Prop := ∀ v_, v_ < N_ → I_ 30 66 (4 * v_) = I_ 5 v_ 1 ∧ I_ 30 66 (4 * v_ + 1) = I_ 5 v_ 2 ∧ I_ 30 66 (4 * v_ + 2) = I_ 5 v_ 3
/-- the state while the law begins -/
def zwSt (I_ : zIn) (L_ : zLi) (p_ N_ : Nat) : Prop := (∃ D_, zzR I_ L_ D_ p_ N_ 0) ∧ (I_ 6 0 6 = 0 ∧ I_ 6 0 7 = 0 ∧ I_ 6 0 8 = 0) ∧ (∀ k_, k_ < 36 → I_ 31 0 k_ = 0) ∧ (∀ i_, 100 ≤ i_ → ¬ I_ 99 30 i_ = 1) ∧ (∀ v_, L_ 26 v_ = []) ∧ zwTr I_ p_ ∧ zwTv I_ N_
section
variable {I_ I' : zIn} {L_ L' : zLi} {p_ N_ T a_ k_ : Nat} {xs : Nat → Int32} {Q_ : zPost} {x10 x11 x12 x13 x14 x15 x16 x17 x18 x19 x20 x21 x22 x23 x24 x25 x26 : Option zW} {kx hx wx w_ : Int32}
theorem zrdI_ne {y_ : Int32} {c_ i_ f_ : Nat} (h_ : ¬ (c_ = 2 ∧ i_ = p_)) (h99 : ¬ (c_ = 99 ∧ i_ = 2)) : zrdI I_ p_ kx w_ wx y_ c_ i_ f_ = I_ c_ i_ f_ := by
  unfold zrdI znwI
  by_cases e_ : c_ = 99
  · rw [if_pos e_, if_neg (by omega), e_]
  · rw [if_neg e_, if_neg h_]
/-- one more rider -/
theorem zwSt.r {y_ : Int32} (h_ : zwSt I_ L_ p_ 0) (hp : p_ < 16) (hk : k_ ≤ 2) (hh : hx = if y_ = 0 then 0 else 1) : zwSt (zrdI (zset (zset (zset I_ 30 60 p_ (Int32.ofNat k_)) 30 61 p_ hx) 30 62 p_ wx) p_ (Int32.ofNat k_) w_ wx y_) (zlup L_ 20 0 (L_ 20 0 ++ [p_])) (p_ + 1) 0 := by
  obtain ⟨⟨D_, hR⟩, g1, g2, g3_, g4, g5_, g6⟩ := h_
  have R1 : zzR (zset (zset (zset I_ 30 60 p_ (Int32.ofNat k_)) 30 61 p_ hx) 30 62 p_ wx) L_ D_ p_ 0 0 := hR.s30.s30.s30
  have nz : ∀ c_ i_ f_, ¬ (c_ = 30 ∧ f_ = p_) → zset (zset (zset I_ 30 60 p_ (Int32.ofNat k_)) 30 61 p_ hx) 30 62 p_ wx c_ i_ f_ = I_ c_ i_ f_ := fun c_ i_ f_ hc_ => by
    rw [zset_ne (by omega), zset_ne (by omega), zset_ne (by omega)]
  have k0_ : zset (zset (zset I_ 30 60 p_ (Int32.ofNat k_)) 30 61 p_ hx) 30 62 p_ wx 30 60 p_ = Int32.ofNat k_ := by rw [zset_ne (by omega), zset_ne (by omega), zset_is]
  have k1_ : zset (zset (zset I_ 30 60 p_ (Int32.ofNat k_)) 30 61 p_ hx) 30 62 p_ wx 30 61 p_ = hx := by rw [zset_ne (by omega), zset_is]
  have k2_ : zset (zset (zset I_ 30 60 p_ (Int32.ofNat k_)) 30 61 p_ hx) 30 62 p_ wx 30 62 p_ = wx := zset_is
  generalize zset (zset (zset I_ 30 60 p_ (Int32.ofNat k_)) 30 61 p_ hx) 30 62 p_ wx = I1 at *
  have R2 := (zzsR (w_ := w_) (l := wx) (y_ := y_) R1 hp hk).1
  have e2_ : zrdI I1 p_ (Int32.ofNat k_) w_ wx y_ 2 p_ = zrw [Int32.ofNat k_, w_, wx, (if Int32.ofNat k_ = 2 then 2 else 1) + (if y_ = 0 then 0 else 1), if Int32.ofNat k_ = 2 then 6 else if Int32.ofNat k_ = 1 then 4 else 2] := by
    unfold zrdI
    rw [znwI_is (by omega)]
  refine ⟨⟨_, R2⟩, ⟨?_, ?_, ?_⟩, fun q_ hq => ?_, fun i_ hi_ => ?_, fun v_ => ?_, fun i_ hi_ => ?_, fun v_ hv => absurd hv (Nat.not_lt_zero v_)⟩
  · rw [zrdI_ne (by omega) (by omega), nz _ _ _ (by omega)]; exact g1.1
  · rw [zrdI_ne (by omega) (by omega), nz _ _ _ (by omega)]; exact g1.2.1
  · rw [zrdI_ne (by omega) (by omega), nz _ _ _ (by omega)]; exact g1.2.2
  · rw [zrdI_ne (by omega) (by omega), nz _ _ _ (by omega)]; exact g2 q_ hq
  · rw [zrdI_ne (by omega) (by omega), nz _ _ _ (by omega)]; exact g3_ i_ hi_
  · rw [zlup_ne (by omega)]; exact g4 v_
  · rw [zrdI_ne (c_ := 30) (by omega) (by omega), zrdI_ne (c_ := 30) (by omega) (by omega), zrdI_ne (c_ := 30) (by omega) (by omega)]
    by_cases e_ : i_ = p_
    · subst e_
      rw [e2_, k0_, k1_, k2_]
      refine ⟨rfl, ?_, rfl⟩
      rw [hh]; rfl
    · rw [zrdI_ne (c_ := 2) (by omega) (by omega), zrdI_ne (c_ := 2) (by omega) (by omega), zrdI_ne (c_ := 2) (by omega) (by omega), nz 30 60 i_ (by omega), nz 30 61 i_ (by omega), nz 30 62 i_ (by omega), nz 2 i_ 0 (by omega), nz 2 i_ 3 (by omega), nz 2 i_ 2 (by omega)]
      exact g5_ i_ (by omega)
set_option maxRecDepth 100000 in
theorem zos1 (hT_ : T ≤ 1000) (hX : ∀ I_ L_ x11 a', a_ ≤ a' → zwSt I_ L_ 6 0 → zY (some (T, xs)) 20 210 178 (zlLw (some (zwI 1)) (some (zwI 6)) x11 x12 x13 x14 x15 x16 x17 x18 x19 x20 x21 x22 x23 x24 x25 x26) [] I_ L_ a' Q_) : ∀ (n_ p_ : Nat) (I_ : zIn) (L_ : zLi) (a' : Nat) (x11 : Option zW), n_ + p_ = 6 → 60 * n_ + a_ ≤ a' → zwSt I_ L_ p_ 0 → zY (some (T, xs)) 20 210 54 (zlLw (some (zwI 1)) (some (zwI (Int32.ofNat p_))) x11 x12 x13 x14 x15 x16 x17 x18 x19 x20 x21 x22 x23 x24 x25 x26) [] I_ L_ a' Q_
  | 0, p_, I_, L_, a', x11, hn, ha_, h_ => by
    have e_ : p_ = 6 := by omega
    subst e_
    refine zY.go 2 rfl ?_
    refine zY.bc rfl (fun _ => hX I_ L_ x11 a' (by omega) h_) (fun hq => absurd (Int32.le_refl 6) hq)
  | n_ + 1, p_, I_, L_, a', x11, hn, ha_, h_ => by
    obtain ⟨k_, hk, ek⟩ := zup_ok (v_ := zcel T xs p_) (n_ := 3) (by omega) (by omega)
    obtain ⟨k1_, hk1, ek1⟩ := zup_ok (v_ := zcel T xs p_ / 64) (n_ := 11) (by omega) (by omega)
    obtain ⟨k2_, hk2, ek2⟩ := zup_ok (v_ := zcel T xs p_ / 1024) (n_ := 100) (by omega) (by omega)
    obtain ⟨⟨D_, hR⟩, _⟩ := id h_
    have e20 : (L_ 20 0).length = p_ := by rw [hR.1.1, List.length_range]
    have hi_ := hR.2.2.2.2.2.1 p_ (Nat.le_refl _)
    have hkk : (0 : Int32) ≤ Int32.ofNat k_ ∧ Int32.ofNat k_ ≤ 2 := ⟨zige (by omega), (zile (b := 2) (by omega) (by omega)).mpr (by omega)⟩
    have hww : (30 : Int32) ≤ Int32.ofNat (60 + k2_) ∧ Int32.ofNat (60 + k2_) ≤ 300 := ⟨(zile (a := 30) (by omega) (by omega)).mpr (by omega), (zile (b := 300) (by omega) (by omega)).mpr (by omega)⟩
    have hll : (0 : Int32) ≤ Int32.ofNat k1_ ∧ Int32.ofNat k1_ ≤ 10 := ⟨zige (by omega), (zile (b := 10) (by omega) (by omega)).mpr (by omega)⟩
    have go_ : ∀ hx : Int32, hx = 0 ∨ hx = 1 → zY (some (T, xs)) 20 210 99 (zlLw (some (zwI 1)) (some (zwI (Int32.ofNat p_))) (some (zwI (zcel T xs p_))) x12 x13 x14 x15 x16 x17 x18 x19 x20 x21 x22 x23 x24 x25 x26) [zwI hx, zwI (Int32.ofNat p_), zwR 30 61] (zset I_ 30 60 p_ (Int32.ofNat k_)) L_ a' Q_ := by
      intro hx h01
      refine zY.si (n_ := p_) rfl rfl (by show p_ < 6; omega) ?_
      refine zY.go 6 rfl ?_
      refine zY.cr (za120 (y_ := 11) (by decide)) rfl rfl rfl rfl (Nat.le_of_ble_eq_true rfl) rfl (by decide) rfl (by decide) (Nat.zero_le _) ?_
      rw [show zup (zcel T xs p_ / 64) 11 = Int32.ofNat k1_ from ek1]
      refine zY.si (n_ := p_) rfl rfl (by show p_ < 6; omega) ?_
      have k60 : zset (zset (zset I_ 30 60 p_ (Int32.ofNat k_)) 30 61 p_ hx) 30 62 p_ (Int32.ofNat k1_) 30 60 p_ = Int32.ofNat k_ := by rw [zset_ne (by omega), zset_ne (by omega), zset_is]
      have k61 : zset (zset (zset I_ 30 60 p_ (Int32.ofNat k_)) 30 61 p_ hx) 30 62 p_ (Int32.ofNat k1_) 30 61 p_ = hx := by rw [zset_ne (by omega), zset_is]
      have k62 : zset (zset (zset I_ 30 60 p_ (Int32.ofNat k_)) 30 61 p_ hx) 30 62 p_ (Int32.ofNat k1_) 30 62 p_ = Int32.ofNat k1_ := zset_is
      have i99 : zset (zset (zset I_ 30 60 p_ (Int32.ofNat k_)) 30 61 p_ hx) 30 62 p_ (Int32.ofNat k1_) 99 2 p_ ≠ 1 := by
        rw [zset_ne (by omega), zset_ne (by omega), zset_ne (by omega)]; exact hi_
      have fin_ : ∀ y_ : Int32, hx = (if y_ = 0 then 0 else 1) → zY (some (T, xs)) 20 210 157 (zlLw (some (zwI 1)) (some (zwI (Int32.ofNat p_))) (some (zwI (zcel T xs p_))) x12 x13 x14 x15 x16 x17 x18 x19 x20 x21 x22 x23 x24 x25 x26) [zwI y_, zwI (Int32.ofNat k1_), zwI (Int32.ofNat (60 + k2_)), zwI (Int32.ofNat k_), zwR 6 0] (zset (zset (zset I_ 30 60 p_ (Int32.ofNat k_)) 30 61 p_ hx) 30 62 p_ (Int32.ofNat k1_)) L_ a' Q_ := by
        intro y_ hy
        refine zY.cr (zm32t (i_ := p_) hkk hww hll (by omega) i99) rfl rfl rfl rfl (Nat.le_of_ble_eq_true rfl) rfl (by decide) rfl (by decide) (by omega) ?_
        rw [e20]
        refine zY.go 1 rfl ?_
        refine zY.bc rfl (fun hq => absurd rfl hq) (fun _ => ?_)
        refine zY.go 5 rfl ?_
        have := zos1 hT_ hX n_ (p_ + 1) _ _ (a' - 60) (some (zwI (zcel T xs p_))) (by omega) (by omega) (h_.r (k_ := k_) (w_ := Int32.ofNat (60 + k2_)) (wx := Int32.ofNat k1_) (y_ := y_) (by omega) (by omega) hy)
        rw [← zisucc] at this
        exact this
      refine zY.go 1 rfl ?_
      refine zY.bi rfl (fun hq => absurd (show (1 : Int32) = 0 from hq) (by decide)) (fun _ => ?_)
      refine zY.go 3 rfl ?_
      refine zY.ai (n_ := p_) rfl rfl (by show p_ < 6; omega) ?_
      rw [k60]
      refine zY.go 5 rfl ?_
      refine zY.cr (za120 (y_ := 100) (by decide)) rfl rfl rfl rfl (Nat.le_of_ble_eq_true rfl) rfl (by decide) rfl (by decide) (Nat.zero_le _) ?_
      rw [show zup (zcel T xs p_ / 1024) 100 = Int32.ofNat k2_ from ek2]
      refine zY.go 1 rfl ?_
      rw [show (60 : Int32) + Int32.ofNat k2_ = Int32.ofNat (60 + k2_) from (Int32.ofNat_add 60 k2_).symm]
      refine zY.go 2 rfl ?_
      refine zY.ai (n_ := p_) rfl rfl (by show p_ < 6; omega) ?_
      rw [k62]
      refine zY.go 2 rfl ?_
      refine zY.ai (n_ := p_) rfl rfl (by show p_ < 6; omega) ?_
      rw [k61]
      refine zY.go 1 rfl ?_
      refine zY.bc rfl (fun hq => ?_) (fun hq => ?_)
      · refine zY.go 1 rfl ?_
        exact fin_ 0 (h01.resolve_right hq)
      · refine zY.go 2 rfl ?_
        exact fin_ 1 (Classical.not_not.mp hq)
    refine zY.go 2 rfl ?_
    refine zY.bc rfl (fun hq => absurd hq (Int32.not_le.mpr ((zilt (b := 6) (by omega) (by omega)).mpr (by omega)))) (fun _ => ?_)
    refine zY.go 2 rfl ?_
    refine zY.cl rfl rfl (by omega) hT_ (by decide) ?_
    refine zY.go 5 rfl ?_
    refine zY.cr (za120 (y_ := 3) (by decide)) rfl rfl rfl rfl (Nat.le_of_ble_eq_true rfl) rfl (by decide) rfl (by decide) (Nat.zero_le _) ?_
    rw [show zup (zcel T xs p_) 3 = Int32.ofNat k_ from ek]
    refine zY.si (n_ := p_) rfl rfl (by show p_ < 6; omega) ?_
    refine zY.go 6 rfl ?_
    refine zY.cr (za120 (y_ := 4) (by decide)) rfl rfl rfl rfl (Nat.le_of_ble_eq_true rfl) rfl (by decide) rfl (by decide) (Nat.zero_le _) ?_
    refine zY.bi rfl (fun _ => ?_) (fun _ => ?_)
    · refine zY.go 1 rfl ?_
      exact go_ 0 (Or.inl rfl)
    · refine zY.go 2 rfl ?_
      exact go_ 1 (Or.inr rfl)
end
