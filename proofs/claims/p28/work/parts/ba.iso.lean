/-! THE LAW'S isSo: a pick or a drop, checked -/
section
variable {I0_ I_ I' : zIn} {L0_ L_ L' : zLi} {D_ : zIn} {M_ v_ j_ : Nat} {a_ : Nat} {Q_ : zPost}
variable {x23 x24 x25 x26 x27 x28 x29 x30 x31 x32 : Option zW} {y11 y13 y20 y29 p_ lv u_ w_ z14_ z31_ : Int32} {c_ k_ s_ : Nat} {rb lf_ : Bool}
set_option maxRecDepth 100000 in
theorem zoP (hR0 : zzR I0_ L0_ D_ 6 2 M_) (hv : v_ < 2) (hT_ : zTie I0_ M_) (hE : zEv I0_ L0_ I_ L_) (hs : (L0_ 24 v_)[k_]? = some s_) (he : s_ % 2 = 0) (hc20 : c_ < 20)
    (hu1 : u_ + zmse D_ (s_ / 2) ≤ D_ 30 13 v_) (hu2 : Int32.ofNat (c_ + zmch D_ s_) ≤ D_ 30 14 v_)
    (hX : ∀ I', (∀ f_, I' 30 (100 + 2 * j_) f_ = I_ 30 (100 + 2 * j_) f_) → (∀ f_, f_ < c_ → I' 30 (101 + 2 * j_) f_ = I_ 30 (101 + 2 * j_) f_) → (zmkd D_ (s_ / 2) = 2 → I' 30 (101 + 2 * j_) c_ = Int32.ofNat (s_ / 2)) → (∀ i_, I' 99 30 i_ = I_ 99 30 i_) → zEv I0_ L0_ I' L_ → zY none 18 126 799 (zlS6 v_ M_ j_ (some (zwI (Int32.ofNat (L0_ 24 v_).length))) (some (zwI p_)) (some (zwI y13)) (some (zwI z14_)) (some (zwI (u_ + zmse D_ (s_ / 2)))) (some (zwI (Int32.ofNat (c_ + zmch D_ s_)))) (some (zwI w_)) (some (zwI 1)) (some (zwI (if (rb && !zztl D_ (L0_ 24 v_) (zzP D_ v_ (L0_ 24 v_)) k_ s_) = true then 1 else 0))) (some (zwI y20)) (some (zwI (-1))) (some (zwI (Int32.ofNat k_))) (some (zwI (Int32.ofNat (s_ / 2)))) (some (zwI (if (!decide (s_ % 2 = 0)) = true then 1 else 0))) (some (zwI (zmkd D_ (s_ / 2)))) (some (zwI (zmpl D_ s_))) (some (zwI (2 * zspm p_ (zmpl D_ s_)))) (some (zwI (if lf_ = true then 1 else 0))) (some (zwI y29)) (some (zwI (zzB (zzP D_ v_ (L0_ 24 v_)) k_))) x31 x32) [] I' L_ a_ Q_) : zY none 18 126 528 (zlS6 v_ M_ j_ (some (zwI (Int32.ofNat (L0_ 24 v_).length))) (some (zwI p_)) (some (zwI y13)) (some (zwI z14_)) (some (zwI u_)) (some (zwI (Int32.ofNat c_))) (some (zwI w_)) (some (zwI 1)) (some (zwI (if rb = true then 1 else 0))) (some (zwI y20)) (some (zwI (-1))) (some (zwI (Int32.ofNat k_))) (some (zwI (Int32.ofNat (s_ / 2)))) (some (zwI (if (!decide (s_ % 2 = 0)) = true then 1 else 0))) (some (zwI (zmkd D_ (s_ / 2)))) (some (zwI (zmpl D_ s_))) (some (zwI (2 * zspm p_ (zmpl D_ s_)))) (some (zwI (if lf_ = true then 1 else 0))) (some (zwI y29)) (some (zwI (zzB (zzP D_ v_ (L0_ 24 v_)) k_))) x31 x32) [] I_ L_ a_ Q_ := by
  have hR := hE.1.R hR0
  have hM_ := hR.1.2.2.2.2.2.2.2.1
  have hT2 := hE.tie hT_
  obtain ⟨hq, ⟨uu, hu, g1, g2, g3_⟩, g4, g5_, g6, g7, g8, g9⟩ := zst hR hT2 hv (by rw [hE.1.a24]; exact hs)
  have hcars := hT2.2.2 v_ hv
  have hcv := (hR.2.2.2.1 v_ hv).1.1
  have e13_ : I_ 30 66 (4 * v_ + 1) = D_ 30 13 v_ := hcars.2.1.trans hcv.2.1
  have e14_ : I_ 30 66 (4 * v_ + 2) = D_ 30 14 v_ := hcars.2.2.trans hcv.2.2.1
  have ei1 : 4 * Int32.ofNat v_ + 1 = Int32.ofNat (4 * v_ + 1) := by rw [Int32.ofNat_add, Int32.ofNat_mul]; rfl
  have ei2 : 4 * Int32.ofNat v_ + 2 = Int32.ofNat (4 * v_ + 2) := by rw [Int32.ofNat_add, Int32.ofNat_mul]; rfl
  have etl : zztl D_ (L0_ 24 v_) (zzP D_ v_ (L0_ 24 v_)) k_ s_ = decide (D_ 30 34 (s_ / 2) + 20 < zzB (zzP D_ v_ (L0_ 24 v_)) k_) := by unfold zztl; rw [if_pos he]
  -- from 761
  have h761 : ∀ (J_ : zIn) (nb : Bool), nb = (rb && !zztl D_ (L0_ 24 v_) (zzP D_ v_ (L0_ 24 v_)) k_ s_) → (∀ f_, J_ 30 66 f_ = I_ 30 66 f_) → zY none 18 126 799 (zlS6 v_ M_ j_ (some (zwI (Int32.ofNat (L0_ 24 v_).length))) (some (zwI p_)) (some (zwI y13)) (some (zwI z14_)) (some (zwI (u_ + zmse D_ (s_ / 2)))) (some (zwI (Int32.ofNat (c_ + zmch D_ s_)))) (some (zwI w_)) (some (zwI 1)) (some (zwI (if (rb && !zztl D_ (L0_ 24 v_) (zzP D_ v_ (L0_ 24 v_)) k_ s_) = true then 1 else 0))) (some (zwI y20)) (some (zwI (-1))) (some (zwI (Int32.ofNat k_))) (some (zwI (Int32.ofNat (s_ / 2)))) (some (zwI (if (!decide (s_ % 2 = 0)) = true then 1 else 0))) (some (zwI (zmkd D_ (s_ / 2)))) (some (zwI (zmpl D_ s_))) (some (zwI (2 * zspm p_ (zmpl D_ s_)))) (some (zwI (if lf_ = true then 1 else 0))) (some (zwI y29)) (some (zwI (zzB (zzP D_ v_ (L0_ 24 v_)) k_))) x31 x32) [] J_ L_ a_ Q_ → zY none 18 126 761 (zlS6 v_ M_ j_ (some (zwI (Int32.ofNat (L0_ 24 v_).length))) (some (zwI p_)) (some (zwI y13)) (some (zwI z14_)) (some (zwI (u_ + zmse D_ (s_ / 2)))) (some (zwI (Int32.ofNat (c_ + zmch D_ s_)))) (some (zwI w_)) (some (zwI 1)) (some (zwI (if nb = true then 1 else 0))) (some (zwI y20)) (some (zwI (-1))) (some (zwI (Int32.ofNat k_))) (some (zwI (Int32.ofNat (s_ / 2)))) (some (zwI (if (!decide (s_ % 2 = 0)) = true then 1 else 0))) (some (zwI (zmkd D_ (s_ / 2)))) (some (zwI (zmpl D_ s_))) (some (zwI (2 * zspm p_ (zmpl D_ s_)))) (some (zwI (if lf_ = true then 1 else 0))) (some (zwI y29)) (some (zwI (zzB (zzP D_ v_ (L0_ 24 v_)) k_))) x31 x32) [] J_ L_ a_ Q_ := by
    intro J_ nb enb h66 hY
    rw [← enb] at hY
    refine zY.go 1 rfl ?_
    refine zY.we rfl (fun hb_ => ?_) (fun hb_ => ?_)
    · rw [hb_] at hY ⊢
      refine zY.go 2 rfl ?_
      exact hY
    · rw [hb_] at hY ⊢
      refine zY.go 7 rfl ?_
      refine zY.ai (n_ := 4 * v_ + 1) rfl ei1 (by show _ < 8; omega) ?_
      rw [h66, e13_]
      refine zY.bc rfl (fun hp => absurd hu1 (Int32.not_le.mpr hp)) (fun _ => ?_)
      refine zY.go 7 rfl ?_
      refine zY.ai (n_ := 4 * v_ + 2) rfl ei2 (by show _ < 8; omega) ?_
      rw [h66, e14_]
      refine zY.bc rfl (fun hp => absurd hu2 (Int32.not_le.mpr hp)) (fun _ => ?_)
      refine zY.go 3 rfl ?_
      exact hY
  -- from 719
  have h719 : ∀ (nb : Bool), nb = (rb && !zztl D_ (L0_ 24 v_) (zzP D_ v_ (L0_ 24 v_)) k_ s_) → zY none 18 126 719 (zlS6 v_ M_ j_ (some (zwI (Int32.ofNat (L0_ 24 v_).length))) (some (zwI p_)) (some (zwI y13)) (some (zwI z14_)) (some (zwI u_)) (some (zwI (Int32.ofNat c_))) (some (zwI w_)) (some (zwI 1)) (some (zwI (if nb = true then 1 else 0))) (some (zwI y20)) (some (zwI (-1))) (some (zwI (Int32.ofNat k_))) (some (zwI (Int32.ofNat (s_ / 2)))) (some (zwI (if (!decide (s_ % 2 = 0)) = true then 1 else 0))) (some (zwI (zmkd D_ (s_ / 2)))) (some (zwI (zmpl D_ s_))) (some (zwI (2 * zspm p_ (zmpl D_ s_)))) (some (zwI (if lf_ = true then 1 else 0))) (some (zwI y29)) (some (zwI (zzB (zzP D_ v_ (L0_ 24 v_)) k_))) x31 x32) [] I_ L_ a_ Q_ := by
    intro nb enb
    refine zY.go 5 rfl ?_
    refine zY.ai (n_ := s_ / 2) rfl rfl (by show _ < 60; omega) ?_
    refine zY.ai (n_ := uu) rfl g1 (by show _ < 6; omega) ?_
    refine zY.cr za125 rfl rfl rfl rfl (Nat.le_of_ble_eq_true rfl) rfl (by decide) rfl (by decide) (Nat.zero_le _) ?_
    rw [← g2, g3_]
    refine zY.go 4 rfl ?_
    refine zY.bc rfl (fun hp => ?_) (fun hp => ?_)
    · have hne : ¬ zmkd D_ (s_ / 2) = 2 := by rw [← g2]; exact hp
      have ech : zmch D_ s_ = 0 := if_neg hne
      have := h761 I_ nb enb (fun _ => rfl) (hX I_ (fun _ => rfl) (fun _ _ => rfl) (fun e_ => absurd e_ hne) (fun _ => rfl) hE)
      rw [ech, Nat.add_zero, ← g2] at this
      exact this
    · have h2 : zmkd D_ (s_ / 2) = 2 := by rw [← g2]; exact Classical.not_not.mp hp
      have ech : zmch D_ s_ = 1 := if_pos h2
      have h755 : zY none 18 126 755 (zlS6 v_ M_ j_ (some (zwI (Int32.ofNat (L0_ 24 v_).length))) (some (zwI p_)) (some (zwI y13)) (some (zwI z14_)) (some (zwI (u_ + zmse D_ (s_ / 2)))) (some (zwI (Int32.ofNat c_))) (some (zwI w_)) (some (zwI 1)) (some (zwI (if nb = true then 1 else 0))) (some (zwI y20)) (some (zwI (-1))) (some (zwI (Int32.ofNat k_))) (some (zwI (Int32.ofNat (s_ / 2)))) (some (zwI (if (!decide (s_ % 2 = 0)) = true then 1 else 0))) (some (zwI (I_ 30 60 uu))) (some (zwI (zmpl D_ s_))) (some (zwI (2 * zspm p_ (zmpl D_ s_)))) (some (zwI (if lf_ = true then 1 else 0))) (some (zwI y29)) (some (zwI (zzB (zzP D_ v_ (L0_ 24 v_)) k_))) x31 x32) [zwI (Int32.ofNat c_), zwR 30 (101 + 2 * j_)] I_ L_ a_ Q_ := by
        refine zY.go 1 rfl ?_
        refine zY.si (n_ := c_) rfl rfl (by rw [(zas_t j_).2]; omega) ?_
        refine zY.go 1 rfl ?_
        have := h761 (zset I_ 30 (101 + 2 * j_) c_ (Int32.ofNat (s_ / 2))) nb enb (fun _ => zset_ne (by omega)) (hX _ (fun _ => zset_ne (by omega)) (fun f_ hf => zset_ne (by omega)) (fun _ => zset_is) (fun _ => zset_ne (by omega)) (hE.set (by omega)))
        rw [ech, ← g2, ← zisucc] at this
        exact this
      refine zY.go 2 rfl ?_
      refine zY.bi rfl (fun hp => ?_) (fun hp => ?_)
      · have hc0 : c_ = 0 := by
          by_cases e_ : c_ = 0
          · exact e_
          · have h1 : Int32.ofNat c_ ≤ Int32.ofNat 0 := hp
            have h2 := (zile (a := c_) (b := 0) (by omega) (by omega)).mp h1
            omega
        refine zY.go 1 rfl ?_
        rw [hc0] at h755 ⊢
        exact h755
      · refine zY.go 2 rfl ?_
        exact h755
  refine zY.go 1 rfl ?_
  refine zY.we rfl (fun hb_ => ?_) (fun hb_ => by rw [decide_eq_true he] at hb_; cases hb_)
  refine zY.go 1 rfl ?_
  refine zY.we rfl (fun hb2 => ?_) (fun hb2 => ?_)
  · refine zY.go 2 rfl ?_
    have := h719 false (by rw [hb2]; rfl)
    exact this
  · refine zY.go 4 rfl ?_
    refine zY.cr (zq62 2 hR hq (by decide)) rfl rfl rfl rfl (Nat.le_of_ble_eq_true rfl) rfl (by decide) rfl (by decide) (Nat.zero_le _) ?_
    refine zY.go 2 rfl ?_
    refine zY.bc rfl (fun hp => ?_) (fun hp => ?_)
    · refine zY.go 2 rfl ?_
      exact h719 false (by
        have h1 : D_ 30 34 (s_ / 2) + 20 < zzB (zzP D_ v_ (L0_ 24 v_)) k_ := by rw [← g6]; exact hp
        rw [etl, decide_eq_true h1, Bool.not_true, Bool.and_false])
    · refine zY.go 3 rfl ?_
      exact h719 true (by
        have h1 : ¬ D_ 30 34 (s_ / 2) + 20 < zzB (zzP D_ v_ (L0_ 24 v_)) k_ := by rw [← g6]; exact hp
        rw [etl, decide_eq_false h1, hb2]; rfl)
end
