/-! THE LAW'S isSo: a stop of the route, what it is -/
section
variable {I0_ I_ I' : zIn} {L0_ L_ L' : zLi} {D_ : zIn} {M_ v_ j_ : Nat} {a_ : Nat} {Q_ : zPost}
/-- what is known of a stop's request -/
theorem zst {k_ s_ : Nat} (h_ : zzR I_ L_ D_ 6 2 M_) (hT_ : zTie I_ M_) (hv : v_ < 2) (hs : (L_ 24 v_)[k_]? = some s_) : s_ / 2 < M_ ∧ (∃ u_, u_ < 6 ∧ I_ 30 63 (s_ / 2) = Int32.ofNat u_ ∧ I_ 30 60 u_ = zmkd D_ (s_ / 2) ∧ (if I_ 30 60 u_ = 2 then 2 else 1) + I_ 30 61 u_ = zmse D_ (s_ / 2)) ∧ I_ 30 64 (s_ / 2) = D_ 30 30 (s_ / 2) ∧ I_ 30 65 (s_ / 2) = D_ 30 31 (s_ / 2) ∧ I_ 1 (s_ / 2) 7 = D_ 30 34 (s_ / 2) ∧ I_ 1 (s_ / 2) 11 = D_ 30 37 (s_ / 2) ∧ I_ 1 (s_ / 2) 8 = Int32.ofNat v_ ∧ zzpc (zmpl D_ s_) := by
  have hm_ := List.mem_of_getElem? hs
  have ht := (h_.2.2.2.1 v_ hv).2.2
  obtain ⟨hq, h8, _⟩ := ht.2.2.2.1 s_ hm_
  have hb_ := (h_.2.2.1 (s_ / 2) hq).1
  obtain ⟨u_, k', hu, hk', e1_, e2_, e3_, e4_, e5_, e6_, e7_⟩ := zzrd hb_ h_.1.2.1 h_.2.1
  have t1_ := hT_.1 _ hq
  have t2_ := hT_.2.1 u_ hu
  obtain ⟨u2_, hu2, e8, _⟩ := hb_.1
  have eu : u2_ = u_ := by rw [← e1_, e8, zicl (by omega)]
  subst eu
  refine ⟨hq, ⟨u2_, hu, t1_.1.trans e8, ?_, ?_⟩, t1_.2.1.trans hb_.2.2.2.1, t1_.2.2.trans hb_.2.2.2.2.1, hb_.2.2.2.2.2.2.1, hb_.2.2.2.2.2.2.2, h8, ?_⟩
  · rw [t2_.1, e3_, e4_]
  · rw [t2_.1, t2_.2.1, ← (zzsm hb_ h_.1.2.1 h_.2.1).1]
    unfold zsea
    rw [e1_]
  · unfold zmpl
    split
    · exact hb_.2.1
    · exact hb_.2.2.1
variable {x23 x24 x25 x26 x27 x28 x29 x30 x31 x32 : Option zW} {y11 y13 y20 p_ lv u_ w_ : Int32} {c_ k_ s_ : Nat} {rb : Bool}
theorem zoA (hR0 : zzR I0_ L0_ D_ 6 2 M_) (hv : v_ < 2) (hT_ : zTie I0_ M_) (hE : zEv I0_ L0_ I_ L_) (hs : (L0_ 24 v_)[k_]? = some s_)
    (hX : ∀ I' L', zEv I0_ L0_ I' L' → (∀ f_, I' 30 (100 + 2 * j_) f_ = I_ 30 (100 + 2 * j_) f_) → (∀ f_, I' 30 (101 + 2 * j_) f_ = I_ 30 (101 + 2 * j_) f_) → (∀ i_, I' 99 30 i_ = I_ 99 30 i_) → zY none 18 126 397 (zlS6 v_ M_ j_ (some (zwI (Int32.ofNat (L0_ 24 v_).length))) (some (zwI p_)) (some (zwI y13)) (some (zwI lv)) (some (zwI u_)) (some (zwI (Int32.ofNat c_))) (some (zwI w_)) (some (zwI 1)) (some (zwI (if rb = true then 1 else 0))) (some (zwI y20)) (some (zwI (-1))) (some (zwI (Int32.ofNat k_))) (some (zwI (Int32.ofNat (s_ / 2)))) (some (zwI (if (!decide (s_ % 2 = 0)) = true then 1 else 0))) (some (zwI (zmkd D_ (s_ / 2)))) (some (zwI (zmpl D_ s_))) (some (zwI (2 * zspm p_ (zmpl D_ s_)))) (some (zwI (if (decide (k_ = 0) && !decide (D_ 31 19 v_ = 0)) = true then 1 else 0))) (some (zwI (D_ 30 34 (s_ / 2) - 2 * zspm p_ (zmpl D_ s_)))) x30 x31 x32) [] I' L' a_ Q_) : zY none 18 126 289 (zlS6 v_ M_ j_ (some (zwI (Int32.ofNat (L0_ 24 v_).length))) (some (zwI p_)) (some (zwI y13)) (some (zwI lv)) (some (zwI u_)) (some (zwI (Int32.ofNat c_))) (some (zwI w_)) (some (zwI 1)) (some (zwI (if rb = true then 1 else 0))) (some (zwI y20)) (some (zwI (-1))) (some (zwI (Int32.ofNat k_))) x23 x24 x25 x26 x27 x28 x29 x30 x31 x32) [] I_ L_ a_ Q_ := by
  have hR := hE.1.R hR0
  have hM_ := hR.1.2.2.2.2.2.2.2.1
  have hk : k_ < (L0_ 24 v_).length := (List.getElem?_eq_some_iff.mp hs).1
  have hl : (L0_ 24 v_).length ≤ 16 := (zzA26 hR0 hv).2
  refine zY.go 2 rfl ?_
  refine zY.bn rfl (by omega) (by omega) (fun hT_ => absurd hT_ (show ¬ (L0_ 24 v_).length ≤ k_ by omega)) (fun _ => ?_)
  refine zY.go 4 rfl ?_
  refine zY.c (zq64 (k_ := 0) hR hv (by rw [hE.1.a24]; exact hs) (by decide)) rfl rfl rfl rfl (Nat.le_of_ble_eq_true rfl) rfl (by decide) rfl (by decide) (Nat.zero_le _) (fun r_ I1 L1 hq => ?_)
  obtain ⟨rfl, s1_⟩ := hq
  refine ⟨_, rfl, ?_⟩
  have hE1 := hE.sq s1_
  refine zY.go 5 rfl ?_
  refine zY.c (zq64 (k_ := 1) (hE1.1.R hR0) hv (by rw [hE1.1.a24]; exact hs) (by decide)) rfl rfl rfl rfl (Nat.le_of_ble_eq_true rfl) rfl (by decide) rfl (by decide) (Nat.zero_le _) (fun r_ I2_ L2_ hq => ?_)
  obtain ⟨rfl, s2_⟩ := hq
  refine ⟨_, rfl, ?_⟩
  have hE2 := hE1.sq s2_
  have hR2 := hE2.1.R hR0
  have hT2 := hE2.tie hT_
  have hs2 : (L2_ 24 v_)[k_]? = some s_ := by rw [hE2.1.a24]; exact hs
  obtain ⟨hq, ⟨uu, hu, g1, g2, g3_⟩, g4, g5_, g6, g7, g8, g9⟩ := zst hR2 hT2 hv hs2
  have h23 : ∀ I3 L3_, zEv I0_ L0_ I3 L3_ → (∀ f_, I3 30 (100 + 2 * j_) f_ = I_ 30 (100 + 2 * j_) f_) → (∀ f_, I3 30 (101 + 2 * j_) f_ = I_ 30 (101 + 2 * j_) f_) → (∀ i_, I3 99 30 i_ = I_ 99 30 i_) → ∀ lf_ : Bool, (decide (k_ = 0) && !decide (D_ 31 19 v_ = 0)) = lf_ → zY none 18 126 383 (zlS6 v_ M_ j_ (some (zwI (Int32.ofNat (L0_ 24 v_).length))) (some (zwI p_)) (some (zwI y13)) (some (zwI lv)) (some (zwI u_)) (some (zwI (Int32.ofNat c_))) (some (zwI w_)) (some (zwI 1)) (some (zwI (if rb = true then 1 else 0))) (some (zwI y20)) (some (zwI (-1))) (some (zwI (Int32.ofNat k_))) (some (zwI (Int32.ofNat (s_ / 2)))) (some (zwI (if (!decide (s_ % 2 = 0)) = true then 1 else 0))) (some (zwI (zmkd D_ (s_ / 2)))) (some (zwI (zmpl D_ s_))) (some (zwI (2 * zspm p_ (zmpl D_ s_)))) x28 x29 x30 x31 x32) [zwI (if lf_ = true then 1 else 0)] I3 L3_ a_ Q_ := fun I3 L3_ hE3 a1_ a2 a3 lf_ elf => by
    subst elf
    have hR3 := hE3.1.R hR0
    have g6' : I3 1 (s_ / 2) 7 = D_ 30 34 (s_ / 2) := by rw [hE3.1.a1 _ (by omega), ← hE2.1.a1 _ (by omega)]; exact g6
    refine zY.go 4 rfl ?_
    refine zY.cr (zq62 2 hR3 hq (by decide)) rfl rfl rfl rfl (Nat.le_of_ble_eq_true rfl) rfl (by decide) rfl (by decide) (Nat.zero_le _) ?_
    refine zY.go 3 rfl ?_
    show zY _ _ _ _ (zlS6 v_ M_ j_ _ _ _ _ _ _ _ _ _ _ _ _ _ _ _ _ _ _ (some (zwI (I3 1 (s_ / 2) 7 - _))) _ _ _) _ _ _ _ _
    rw [g6']
    exact hX I3 L3_ hE3 a1_ a2 a3
  have h23b : zY none 18 126 363 (zlS6 v_ M_ j_ (some (zwI (Int32.ofNat (L0_ 24 v_).length))) (some (zwI p_)) (some (zwI y13)) (some (zwI lv)) (some (zwI u_)) (some (zwI (Int32.ofNat c_))) (some (zwI w_)) (some (zwI 1)) (some (zwI (if rb = true then 1 else 0))) (some (zwI y20)) (some (zwI (-1))) (some (zwI (Int32.ofNat k_))) (some (zwI (Int32.ofNat (s_ / 2)))) (some (zwI (if (!decide (s_ % 2 = 0)) = true then 1 else 0))) (some (zwI (zmkd D_ (s_ / 2)))) (some (zwI (zmpl D_ s_))) (some (zwI (2 * zspm p_ (zmpl D_ s_)))) x28 x29 x30 x31 x32) [] I2_ L2_ a_ Q_ := by
    have b1 : ∀ f_, I2_ 30 (100 + 2 * j_) f_ = I_ 30 (100 + 2 * j_) f_ := fun f_ => ((s2_.a30 _ f_).1).trans (s1_.a30 _ f_).1
    have b2 : ∀ f_, I2_ 30 (101 + 2 * j_) f_ = I_ 30 (101 + 2 * j_) f_ := fun f_ => ((s2_.a30 _ f_).1).trans (s1_.a30 _ f_).1
    have b3 : ∀ i_, I2_ 99 30 i_ = I_ 99 30 i_ := fun i_ => ((s2_.a30 i_ 0).2).trans (s1_.a30 i_ 0).2
    refine zY.go 1 rfl ?_
    refine zY.bi rfl (fun hp => ?_) (fun hp => ?_)
    · have hk0 : ¬ k_ = 0 := fun e_ => hp (by rw [e_]; rfl)
      refine zY.go 1 rfl ?_
      exact h23 I2_ L2_ hE2 b1 b2 b3 false (by rw [decide_eq_false hk0]; rfl)
    · have hk0 : k_ = 0 := (zof_eq (b_ := 0) (by omega) (by omega)).mp (Classical.not_not.mp hp)
      refine zY.go 3 rfl ?_
      refine zY.c (zq63 (k_ := 5) hR2 hv (by decide)) rfl rfl rfl rfl (Nat.le_of_ble_eq_true rfl) rfl (by decide) rfl (by decide) (Nat.zero_le _) (fun r_ I3 L3_ hq => ?_)
      obtain ⟨rfl, s3_⟩ := hq
      refine ⟨_, rfl, ?_⟩
      have hE3 := hE2.sq s3_
      have d1_ : ∀ f_, I3 30 (100 + 2 * j_) f_ = I_ 30 (100 + 2 * j_) f_ := fun f_ => ((s3_.a30 _ f_).1).trans (b1 f_)
      have d2_ : ∀ f_, I3 30 (101 + 2 * j_) f_ = I_ 30 (101 + 2 * j_) f_ := fun f_ => ((s3_.a30 _ f_).1).trans (b2 f_)
      have d3_ : ∀ i_, I3 99 30 i_ = I_ 99 30 i_ := fun i_ => ((s3_.a30 i_ 0).2).trans (b3 i_)
      refine zY.go 1 rfl ?_
      refine zY.bc rfl (fun hp => ?_) (fun hp => ?_)
      · refine zY.go 1 rfl ?_
        exact h23 I3 L3_ hE3 d1_ d2_ d3_ false (by
          have hd_ : D_ 31 19 v_ = 0 := by
            by_cases e_ : D_ 31 19 v_ = 0
            · exact e_
            · exact absurd (show (if D_ 31 19 v_ = 0 then (0 : Int32) else 1) = 1 from if_neg e_) hp
          rw [decide_eq_true hd_, Bool.not_true, Bool.and_false])
      · refine zY.go 2 rfl ?_
        exact h23 I3 L3_ hE3 d1_ d2_ d3_ true (by
          have hd_ : ¬ D_ 31 19 v_ = 0 := fun e_ => hp (by
            show ¬ (if D_ 31 19 v_ = 0 then (0 : Int32) else 1) = 1
            rw [if_pos e_]; decide)
          rw [decide_eq_true hk0, decide_eq_false hd_]; rfl)
  have h24 : ∀ dp : Bool, (!decide (s_ % 2 = 0)) = dp → zY none 18 126 323 (zlS6 v_ M_ j_ (some (zwI (Int32.ofNat (L0_ 24 v_).length))) (some (zwI p_)) (some (zwI y13)) (some (zwI lv)) (some (zwI u_)) (some (zwI (Int32.ofNat c_))) (some (zwI w_)) (some (zwI 1)) (some (zwI (if rb = true then 1 else 0))) (some (zwI y20)) (some (zwI (-1))) (some (zwI (Int32.ofNat k_))) (some (zwI (Int32.ofNat (s_ / 2)))) x24 x25 x26 x27 x28 x29 x30 x31 x32) [zwI (if dp = true then 1 else 0)] I2_ L2_ a_ Q_ := fun dp edp => by
    refine zY.go 4 rfl ?_
    refine zY.ai (n_ := s_ / 2) rfl rfl (by show _ < 60; omega) ?_
    refine zY.ai (n_ := uu) rfl g1 (by show _ < 6; omega) ?_
    rw [g2]
    refine zY.go 2 rfl ?_
    refine zY.we rfl (fun hb_ => ?_) (fun hb_ => ?_)
    · subst hb_
      have he : s_ % 2 = 0 := by
        by_cases e_ : s_ % 2 = 0
        · exact e_
        · rw [decide_eq_false e_] at edp; cases edp
      have epl : zmpl D_ s_ = D_ 30 30 (s_ / 2) := by unfold zmpl; rw [if_pos he]
      refine zY.go 2 rfl ?_
      refine zY.ai (n_ := s_ / 2) rfl rfl (by show _ < 60; omega) ?_
      rw [g4, ← epl]
      refine zY.go 3 rfl ?_
      refine zY.cr za124 rfl rfl rfl rfl (Nat.le_of_ble_eq_true rfl) rfl (by decide) rfl (by decide) (Nat.zero_le _) ?_
      refine zY.go 1 rfl ?_
      rw [edp] at h23b
      exact h23b
    · subst hb_
      have he : ¬ s_ % 2 = 0 := by
        intro e_
        rw [decide_eq_true e_] at edp; cases edp
      have epl : zmpl D_ s_ = D_ 30 31 (s_ / 2) := by unfold zmpl; rw [if_neg he]
      refine zY.go 2 rfl ?_
      refine zY.ai (n_ := s_ / 2) rfl rfl (by show _ < 60; omega) ?_
      rw [g5_, ← epl]
      refine zY.go 4 rfl ?_
      refine zY.cr za124 rfl rfl rfl rfl (Nat.le_of_ble_eq_true rfl) rfl (by decide) rfl (by decide) (Nat.zero_le _) ?_
      refine zY.go 1 rfl ?_
      rw [edp] at h23b
      exact h23b
  refine zY.go 1 rfl ?_
  refine zY.bc rfl (fun hp => ?_) (fun hp => ?_)
  · have he : s_ % 2 = 0 := by
      by_cases e_ : s_ % 2 = 0
      · exact e_
      · exact absurd (show (if s_ % 2 = 0 then (0 : Int32) else 1) = 1 from if_neg e_) hp
    refine zY.go 1 rfl ?_
    exact h24 false (by rw [decide_eq_true he]; rfl)
  · have he : ¬ s_ % 2 = 0 := fun e_ => hp (by
      show ¬ (if s_ % 2 = 0 then (0 : Int32) else 1) = 1
      rw [if_pos e_]; decide)
    refine zY.go 2 rfl ?_
    exact h24 true (by rw [decide_eq_false he]; rfl)
end
