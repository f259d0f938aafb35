/-! THE LAW'S isSo: a drop, checked -/
section
variable {I0_ I_ I' : zIn} {L0_ L_ L' : zLi} {D_ : zIn} {M_ v_ j_ : Nat} {a_ : Nat} {Q_ : zPost}
variable {x23 x24 x25 x26 x27 x28 x29 x30 x31 x32 : Option zW} {y11 y13 y20 y29 p_ lv u_ w_ z14_ z31_ : Int32} {c_ k_ s_ : Nat} {rb lf_ : Bool}
theorem zsub1 {c_ : Nat} (h_ : 1 ≤ c_) : Int32.ofNat c_ - 1 = Int32.ofNat (c_ - 1) := (Int32.ofNat_sub c_ 1 h_).symm
set_option maxRecDepth 100000 in
theorem zoD (hR0 : zzR I0_ L0_ D_ 6 2 M_) (hv : v_ < 2) (hT_ : zTie I0_ M_) (hE : zEv I0_ L0_ I_ L_) (hs : (L0_ 24 v_)[k_]? = some s_) (ho : ¬ s_ % 2 = 0) (hc20 : c_ < 20)
    (he : ∀ f_, f_ < k_ → I_ 30 (100 + 2 * j_) f_ = zzE (zzP D_ v_ (L0_ 24 v_)) f_)
    (hch : zmkd D_ (s_ / 2) = 2 → 1 ≤ c_ ∧ I_ 30 (101 + 2 * j_) (c_ - 1) = Int32.ofNat (s_ / 2))
    (hX : ∀ I' L' z31_ z32, (∀ i_ f_, I' 30 i_ f_ = I_ 30 i_ f_) → (∀ i_, I' 99 30 i_ = I_ 99 30 i_) → zEv I0_ L0_ I' L' → zY none 18 126 799 (zlS6 v_ M_ j_ (some (zwI (Int32.ofNat (L0_ 24 v_).length))) (some (zwI p_)) (some (zwI y13)) (some (zwI z14_)) (some (zwI (u_ - zmse D_ (s_ / 2)))) (some (zwI (Int32.ofNat (c_ - zmch D_ s_)))) (some (zwI w_)) (some (zwI 1)) (some (zwI (if (rb && !zztl D_ (L0_ 24 v_) (zzP D_ v_ (L0_ 24 v_)) k_ s_) = true then 1 else 0))) (some (zwI y20)) (some (zwI (-1))) (some (zwI (Int32.ofNat k_))) (some (zwI (Int32.ofNat (s_ / 2)))) (some (zwI (if (!decide (s_ % 2 = 0)) = true then 1 else 0))) (some (zwI (zmkd D_ (s_ / 2)))) (some (zwI (zmpl D_ s_))) (some (zwI (2 * zspm p_ (zmpl D_ s_)))) (some (zwI (if lf_ = true then 1 else 0))) (some (zwI y29)) (some (zwI (zzB (zzP D_ v_ (L0_ 24 v_)) k_))) (some (zwI z31_)) (some (zwI z32))) [] I' L' a_ Q_) : zY none 18 126 528 (zlS6 v_ M_ j_ (some (zwI (Int32.ofNat (L0_ 24 v_).length))) (some (zwI p_)) (some (zwI y13)) (some (zwI z14_)) (some (zwI u_)) (some (zwI (Int32.ofNat c_))) (some (zwI w_)) (some (zwI 1)) (some (zwI (if rb = true then 1 else 0))) (some (zwI y20)) (some (zwI (-1))) (some (zwI (Int32.ofNat k_))) (some (zwI (Int32.ofNat (s_ / 2)))) (some (zwI (if (!decide (s_ % 2 = 0)) = true then 1 else 0))) (some (zwI (zmkd D_ (s_ / 2)))) (some (zwI (zmpl D_ s_))) (some (zwI (2 * zspm p_ (zmpl D_ s_)))) (some (zwI (if lf_ = true then 1 else 0))) (some (zwI y29)) (some (zwI (zzB (zzP D_ v_ (L0_ 24 v_)) k_))) x31 x32) [] I_ L_ a_ Q_ := by
  have hR := hE.1.R hR0
  have hM_ := hR.1.2.2.2.2.2.2.2.1
  have hT2 := hE.tie hT_
  have hQ := zzQ_of hR0 hv
  obtain ⟨hq, _, _, _, _, g7, _, _⟩ := zst hR hT2 hv (by rw [hE.1.a24]; exact hs)
  have hpe : (zpk D_ (L0_ 24 v_) (zzP D_ v_ (L0_ 24 v_)) (s_ / 2) k_) = zzpe D_ (L0_ 24 v_) (zzP D_ v_ (L0_ 24 v_)) (s_ / 2) := zpk_end (A_ := []) hQ.2.2.1 (zzHO_of hQ.2.2.2.2.2.1 (fun q_ hq => (hQ.2.2.2.2.2.2 q_ hq).2)) hs ho
  have etl : zztl D_ (L0_ 24 v_) (zzP D_ v_ (L0_ 24 v_)) k_ s_ = decide (zmlt D_ (s_ / 2) (zpk D_ (L0_ 24 v_) (zzP D_ v_ (L0_ 24 v_)) (s_ / 2) k_) < zzB (zzP D_ v_ (L0_ 24 v_)) k_) := by rw [hpe]; unfold zztl; rw [if_neg ho]
  -- from 673
  have h673 : ∀ (J_ : zIn) (K_ : zLi) (z32 : Int32) (nb : Bool), nb = (rb && !zztl D_ (L0_ 24 v_) (zzP D_ v_ (L0_ 24 v_)) k_ s_) → zY none 18 126 799 (zlS6 v_ M_ j_ (some (zwI (Int32.ofNat (L0_ 24 v_).length))) (some (zwI p_)) (some (zwI y13)) (some (zwI z14_)) (some (zwI (u_ - zmse D_ (s_ / 2)))) (some (zwI (Int32.ofNat (c_ - zmch D_ s_)))) (some (zwI w_)) (some (zwI 1)) (some (zwI (if (rb && !zztl D_ (L0_ 24 v_) (zzP D_ v_ (L0_ 24 v_)) k_ s_) = true then 1 else 0))) (some (zwI y20)) (some (zwI (-1))) (some (zwI (Int32.ofNat k_))) (some (zwI (Int32.ofNat (s_ / 2)))) (some (zwI (if (!decide (s_ % 2 = 0)) = true then 1 else 0))) (some (zwI (zmkd D_ (s_ / 2)))) (some (zwI (zmpl D_ s_))) (some (zwI (2 * zspm p_ (zmpl D_ s_)))) (some (zwI (if lf_ = true then 1 else 0))) (some (zwI y29)) (some (zwI (zzB (zzP D_ v_ (L0_ 24 v_)) k_))) (some (zwI (zpk D_ (L0_ 24 v_) (zzP D_ v_ (L0_ 24 v_)) (s_ / 2) k_))) (some (zwI z32))) [] J_ K_ a_ Q_ → zY none 18 126 673 (zlS6 v_ M_ j_ (some (zwI (Int32.ofNat (L0_ 24 v_).length))) (some (zwI p_)) (some (zwI y13)) (some (zwI z14_)) (some (zwI (u_ - zmse D_ (s_ / 2)))) (some (zwI (Int32.ofNat c_))) (some (zwI w_)) (some (zwI 1)) (some (zwI (if nb = true then 1 else 0))) (some (zwI y20)) (some (zwI (-1))) (some (zwI (Int32.ofNat k_))) (some (zwI (Int32.ofNat (s_ / 2)))) (some (zwI (if (!decide (s_ % 2 = 0)) = true then 1 else 0))) (some (zwI (zmkd D_ (s_ / 2)))) (some (zwI (zmpl D_ s_))) (some (zwI (2 * zspm p_ (zmpl D_ s_)))) (some (zwI (if lf_ = true then 1 else 0))) (some (zwI y29)) (some (zwI (zzB (zzP D_ v_ (L0_ 24 v_)) k_))) (some (zwI (zpk D_ (L0_ 24 v_) (zzP D_ v_ (L0_ 24 v_)) (s_ / 2) k_))) (some (zwI z32))) [] J_ K_ a_ Q_ := by
    intro J_ K_ z32 nb enb hY
    rw [← enb] at hY
    refine zY.go 3 rfl ?_
    refine zY.bc rfl (fun hp => ?_) (fun hp => ?_)
    · have ech : zmch D_ s_ = 0 := if_neg (show ¬ zmkd D_ (s_ / 2) = 2 from hp)
      rw [ech, Nat.sub_zero] at hY
      refine zY.go 4 rfl ?_
      rw [Int32.sub_zero]
      exact hY
    · have h2 : zmkd D_ (s_ / 2) = 2 := Classical.not_not.mp hp
      have ech : zmch D_ s_ = 1 := if_pos h2
      rw [ech, ← zsub1 (hch h2).1] at hY
      refine zY.go 5 rfl ?_
      exact hY
  -- from 621
  have h621 : ∀ (J_ : zIn) (K_ : zLi) (z32 : Int32) (nb : Bool), nb = (rb && !zztl D_ (L0_ 24 v_) (zzP D_ v_ (L0_ 24 v_)) k_ s_) → (∀ i_ f_, J_ 30 i_ f_ = I_ 30 i_ f_) → (∀ i_, J_ 99 30 i_ = I_ 99 30 i_) → zEv I0_ L0_ J_ K_ → zY none 18 126 621 (zlS6 v_ M_ j_ (some (zwI (Int32.ofNat (L0_ 24 v_).length))) (some (zwI p_)) (some (zwI y13)) (some (zwI z14_)) (some (zwI u_)) (some (zwI (Int32.ofNat c_))) (some (zwI w_)) (some (zwI 1)) (some (zwI (if nb = true then 1 else 0))) (some (zwI y20)) (some (zwI (-1))) (some (zwI (Int32.ofNat k_))) (some (zwI (Int32.ofNat (s_ / 2)))) (some (zwI (if (!decide (s_ % 2 = 0)) = true then 1 else 0))) (some (zwI (zmkd D_ (s_ / 2)))) (some (zwI (zmpl D_ s_))) (some (zwI (2 * zspm p_ (zmpl D_ s_)))) (some (zwI (if lf_ = true then 1 else 0))) (some (zwI y29)) (some (zwI (zzB (zzP D_ v_ (L0_ 24 v_)) k_))) (some (zwI (zpk D_ (L0_ 24 v_) (zzP D_ v_ (L0_ 24 v_)) (s_ / 2) k_))) (some (zwI z32))) [] J_ K_ a_ Q_ := by
    intro J_ K_ z32 nb enb h30 h99 hEJ
    obtain ⟨hq, ⟨uu, hu, g1, g2, g3_⟩, g4, g5_, g6, g7, g8, g9⟩ := zst (hEJ.1.R hR0) (hEJ.tie hT_) hv (by rw [hEJ.1.a24]; exact hs)
    have hY := h673 J_ K_ z32 nb enb (hX J_ K_ _ _ h30 h99 hEJ)
    refine zY.go 5 rfl ?_
    refine zY.ai (n_ := s_ / 2) rfl rfl (by show _ < 60; omega) ?_
    refine zY.ai (n_ := uu) rfl g1 (by show _ < 6; omega) ?_
    refine zY.cr za125 rfl rfl rfl rfl (Nat.le_of_ble_eq_true rfl) rfl (by decide) rfl (by decide) (Nat.zero_le _) ?_
    rw [← g2, g3_]
    rw [← g2] at hY
    refine zY.go 3 rfl ?_
    refine zY.we rfl (fun hb_ => ?_) (fun hb_ => ?_)
    · rw [hb_] at hY ⊢
      refine zY.go 2 rfl ?_
      exact hY
    · rw [hb_] at hY ⊢
      refine zY.go 2 rfl ?_
      refine zY.bc rfl (fun hp => ?_) (fun hp => ?_)
      · refine zY.go 3 rfl ?_
        exact hY
      · have h2 : zmkd D_ (s_ / 2) = 2 := by rw [← g2]; exact Classical.not_not.mp hp
        obtain ⟨c1_, c2_⟩ := hch h2
        refine zY.go 1 rfl ?_
        refine zY.bi rfl (fun hp => ?_) (fun _ => ?_)
        · have h1 : Int32.ofNat c_ ≤ Int32.ofNat 0 := hp
          have h2 := (zile (a := c_) (b := 0) (by omega) (by omega)).mp h1
          omega
        · refine zY.go 4 rfl ?_
          refine zY.ai (n_ := c_ - 1) rfl (zsub1 c1_) (by rw [(zas_t j_).2]; omega) ?_
          rw [h30 (101 + 2 * j_) (c_ - 1), c2_]
          refine zY.go 1 rfl ?_
          refine zY.bc rfl (fun hp => absurd rfl hp) (fun _ => ?_)
          refine zY.go 3 rfl ?_
          exact hY
  refine zY.go 1 rfl ?_
  refine zY.we rfl (fun hb_ => by rw [decide_eq_false ho] at hb_; cases hb_) (fun hb_ => ?_)
  refine zY.go 3 rfl ?_
  refine zY.cr (zq62 5 hR hq (by decide)) rfl rfl rfl rfl (Nat.le_of_ble_eq_true rfl) rfl (by decide) rfl (by decide) (Nat.zero_le _) ?_
  refine zY.go 3 rfl ?_
  have hJ := zoJ (p_ := p_) (y13 := y13) (z14_ := z14_) (u_ := u_) (c_ := c_) (w_ := w_) (rb := rb) (y20 := y20) (lf_ := lf_) (y29 := y29) (j_ := j_) (a_ := a_) (Q_ := Q_) hR0 hv hs ho (I_ := I_) (fun J_ K_ z32 hEJ h30 h99 => ?_) he k_ 0 I_ L_ (by omega) hE (fun _ _ => rfl) (fun _ => rfl)
  · have e0_ : zpk D_ (L0_ 24 v_) (zzP D_ v_ (L0_ 24 v_)) (s_ / 2) 0 = zrtl (I_ 1 (s_ / 2)) 5 := by
      show D_ 30 37 (s_ / 2) = I_ 1 (s_ / 2) 11
      exact g7.symm
    rw [e0_] at hJ
    exact hJ
  · obtain ⟨_, _, g4, g5_, _, _, _, _⟩ := zst (hEJ.1.R hR0) (hEJ.tie hT_) hv (by rw [hEJ.1.a24]; exact hs)
    refine zY.go 1 rfl ?_
    refine zY.we rfl (fun hb2 => ?_) (fun hb2 => ?_)
    · refine zY.go 2 rfl ?_
      exact h621 J_ K_ z32 false (by rw [hb2]; rfl) h30 h99 hEJ
    · refine zY.go 7 rfl ?_
      refine zY.ai (n_ := s_ / 2) rfl rfl (by show _ < 60; omega) ?_
      rw [g4]
      refine zY.go 2 rfl ?_
      refine zY.ai (n_ := s_ / 2) rfl rfl (by show _ < 60; omega) ?_
      rw [g5_]
      refine zY.cr za124 rfl rfl rfl rfl (Nat.le_of_ble_eq_true rfl) rfl (by decide) rfl (by decide) (Nat.zero_le _) ?_
      refine zY.go 2 rfl ?_
      refine zY.bc rfl (fun hp => ?_) (fun hp => ?_)
      · refine zY.go 2 rfl ?_
        exact h621 J_ K_ z32 false (by
          have h1 : zmlt D_ (s_ / 2) (zpk D_ (L0_ 24 v_) (zzP D_ v_ (L0_ 24 v_)) (s_ / 2) k_) < zzB (zzP D_ v_ (L0_ 24 v_)) k_ := hp
          rw [etl, decide_eq_true h1, Bool.not_true, Bool.and_false]) h30 h99 hEJ
      · refine zY.go 3 rfl ?_
        exact h621 J_ K_ z32 true (by
          have h1 : ¬ zmlt D_ (s_ / 2) (zpk D_ (L0_ 24 v_) (zzP D_ v_ (L0_ 24 v_)) (s_ / 2) k_) < zzB (zzP D_ v_ (L0_ 24 v_)) k_ := hp
          rw [etl, decide_eq_false h1, hb2]; rfl) h30 h99 hEJ
end
