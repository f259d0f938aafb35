/-! THE LAW'S isSo: a stop of the route, when it begins and ends -/
section
variable {I0_ I_ I' : zIn} {L0_ L_ L' : zLi} {D_ : zIn} {M_ v_ j_ : Nat} {a_ : Nat} {Q_ : zPost}
variable {x23 x24 x25 x26 x27 x28 x29 x30 x31 x32 : Option zW} {y11 y13 y20 p_ lv u_ w_ : Int32} {c_ k_ s_ : Nat} {rb : Bool}
theorem zzBE {P_ : List (Int32 × Int32)} {x_ : Int32 × Int32} (h_ : P_[k_]? = some x_) : zzB P_ k_ = x_.1 ∧ zzE P_ k_ = x_.2 := by
  unfold zzB zzE
  rw [h_]
  exact ⟨rfl, rfl⟩
set_option maxRecDepth 100000 in
/-- the minutes told are those that the law finds -/
theorem zoC {z14_ : Int32} (hR0 : zzR I0_ L0_ D_ 6 2 M_) (hv : v_ < 2) (hE : zEv I0_ L0_ I_ L_) (hs : (L0_ 24 v_)[k_]? = some s_) (hP : (zzP D_ v_ (L0_ 24 v_))[k_]? = some (zzbe D_ v_ k_ s_ lv p_))
    (hX : ∀ I' L', zEv I0_ L0_ I' L' → (∀ f_, ¬ f_ = k_ → I' 30 (100 + 2 * j_) f_ = I_ 30 (100 + 2 * j_) f_) → I' 30 (100 + 2 * j_) k_ = (zzbe D_ v_ k_ s_ lv p_).2 → (∀ f_, I' 30 (101 + 2 * j_) f_ = I_ 30 (101 + 2 * j_) f_) → (∀ i_, I' 99 30 i_ = I_ 99 30 i_) → zY none 18 126 528 (zlS6 v_ M_ j_ (some (zwI (Int32.ofNat (L0_ 24 v_).length))) (some (zwI p_)) (some (zwI y13)) (some (zwI (zzbe D_ v_ k_ s_ lv p_).2)) (some (zwI u_)) (some (zwI (Int32.ofNat c_))) (some (zwI w_)) (some (zwI 1)) (some (zwI (if rb = true then 1 else 0))) (some (zwI y20)) (some (zwI (-1))) (some (zwI (Int32.ofNat k_))) (some (zwI (Int32.ofNat (s_ / 2)))) (some (zwI (if (!decide (s_ % 2 = 0)) = true then 1 else 0))) (some (zwI (zmkd D_ (s_ / 2)))) (some (zwI (zmpl D_ s_))) (some (zwI (2 * zspm p_ (zmpl D_ s_)))) (some (zwI (if (decide (k_ = 0) && !decide (D_ 31 19 v_ = 0)) = true then 1 else 0))) (some (zwI (D_ 30 34 (s_ / 2) - 2 * zspm p_ (zmpl D_ s_)))) (some (zwI (zzbe D_ v_ k_ s_ lv p_).1)) x31 x32) [] I' L' a_ Q_) :
    zY none 18 126 440 (zlS6 v_ M_ j_ (some (zwI (Int32.ofNat (L0_ 24 v_).length))) (some (zwI p_)) (some (zwI y13)) (some (zwI z14_)) (some (zwI u_)) (some (zwI (Int32.ofNat c_))) (some (zwI w_)) (some (zwI 1)) (some (zwI (if rb = true then 1 else 0))) (some (zwI y20)) (some (zwI (-1))) (some (zwI (Int32.ofNat k_))) (some (zwI (Int32.ofNat (s_ / 2)))) (some (zwI (if (!decide (s_ % 2 = 0)) = true then 1 else 0))) (some (zwI (zmkd D_ (s_ / 2)))) (some (zwI (zmpl D_ s_))) (some (zwI (2 * zspm p_ (zmpl D_ s_)))) (some (zwI (if (decide (k_ = 0) && !decide (D_ 31 19 v_ = 0)) = true then 1 else 0))) (some (zwI (D_ 30 34 (s_ / 2) - 2 * zspm p_ (zmpl D_ s_)))) (some (zwI (zzbe D_ v_ k_ s_ lv p_).1)) x31 x32) [] I_ L_ a_ Q_ := by
  have hR := hE.1.R hR0
  have hM_ := hR.1.2.2.2.2.2.2.2.1
  have hk : k_ < (L0_ 24 v_).length := (List.getElem?_eq_some_iff.mp hs).1
  have hl : (L0_ 24 v_).length ≤ 16 := (zzA26 hR0 hv).2
  obtain ⟨p1_, p2_⟩ := zzBE hP
  -- from the store on
  have h468 : ∀ I1 L1, zEv I0_ L0_ I1 L1 → (∀ f_, I1 30 (100 + 2 * j_) f_ = I_ 30 (100 + 2 * j_) f_) → (∀ f_, I1 30 (101 + 2 * j_) f_ = I_ 30 (101 + 2 * j_) f_) → (∀ i_, I1 99 30 i_ = I_ 99 30 i_) → zY none 18 126 468 (zlS6 v_ M_ j_ (some (zwI (Int32.ofNat (L0_ 24 v_).length))) (some (zwI p_)) (some (zwI y13)) (some (zwI z14_)) (some (zwI u_)) (some (zwI (Int32.ofNat c_))) (some (zwI w_)) (some (zwI 1)) (some (zwI (if rb = true then 1 else 0))) (some (zwI y20)) (some (zwI (-1))) (some (zwI (Int32.ofNat k_))) (some (zwI (Int32.ofNat (s_ / 2)))) (some (zwI (if (!decide (s_ % 2 = 0)) = true then 1 else 0))) (some (zwI (zmkd D_ (s_ / 2)))) (some (zwI (zmpl D_ s_))) (some (zwI (2 * zspm p_ (zmpl D_ s_)))) (some (zwI (if (decide (k_ = 0) && !decide (D_ 31 19 v_ = 0)) = true then 1 else 0))) (some (zwI (D_ 30 34 (s_ / 2) - 2 * zspm p_ (zmpl D_ s_)))) (some (zwI (zzbe D_ v_ k_ s_ lv p_).1)) x31 x32) [zwI (zzbe D_ v_ k_ s_ lv p_).2, zwI (Int32.ofNat k_), zwR 30 (100 + 2 * j_)] I1 L1 a_ Q_ := by
    intro I1 L1 hE1 a1_ a2 a3
    refine zY.si (n_ := k_) rfl rfl (by rw [(zas_t j_).1]; omega) ?_
    have hE2 := hE1.set (p_ := 100 + 2 * j_) (k_ := k_) (x_ := (zzbe D_ v_ k_ s_ lv p_).2) (by omega)
    have b0 : zset I1 30 (100 + 2 * j_) k_ (zzbe D_ v_ k_ s_ lv p_).2 30 (100 + 2 * j_) k_ = (zzbe D_ v_ k_ s_ lv p_).2 := zset_is
    have b1 : ∀ f_, ¬ f_ = k_ → zset I1 30 (100 + 2 * j_) k_ (zzbe D_ v_ k_ s_ lv p_).2 30 (100 + 2 * j_) f_ = I_ 30 (100 + 2 * j_) f_ := fun f_ hf => by rw [zset_ne (by omega)]; exact a1_ f_
    have b2 : ∀ f_, zset I1 30 (100 + 2 * j_) k_ (zzbe D_ v_ k_ s_ lv p_).2 30 (101 + 2 * j_) f_ = I_ 30 (101 + 2 * j_) f_ := fun f_ => by rw [zset_ne (by omega)]; exact a2 f_
    have b3 : ∀ i_, zset I1 30 (100 + 2 * j_) k_ (zzbe D_ v_ k_ s_ lv p_).2 99 30 i_ = I_ 99 30 i_ := fun i_ => by rw [zset_ne (by omega)]; exact a3 i_
    generalize zset I1 30 (100 + 2 * j_) k_ (zzbe D_ v_ k_ s_ lv p_).2 = J_ at hE2 b0 b1 b2 b3 ⊢
    refine zY.go 1 rfl ?_
    refine zY.bi rfl (fun hp => absurd (show (1 : Int32) = 0 from hp) (by decide)) (fun _ => ?_)
    refine zY.go 4 rfl ?_
    refine zY.c (zq64 (k_ := 2) (hE2.1.R hR0) hv (by rw [hE2.1.a24]; exact hs) (by decide)) rfl rfl rfl rfl (Nat.le_of_ble_eq_true rfl) rfl (by decide) rfl (by decide) (Nat.zero_le _) (fun r_ I3 L3_ hq => ?_)
    obtain ⟨rfl, s3_⟩ := hq
    refine ⟨_, rfl, ?_⟩
    have hE3 := hE2.sq s3_
    refine zY.go 1 rfl ?_
    refine zY.bc rfl (fun hp => absurd (show zzB (zzP D_ v_ (L1 24 v_)) k_ = (zzbe D_ v_ k_ s_ lv p_).1 by rw [hE1.1.a24]; exact p1_) hp) (fun _ => ?_)
    refine zY.go 4 rfl ?_
    refine zY.c (zq64 (k_ := 3) (hE3.1.R hR0) hv (by rw [hE3.1.a24]; exact hs) (by decide)) rfl rfl rfl rfl (Nat.le_of_ble_eq_true rfl) rfl (by decide) rfl (by decide) (Nat.zero_le _) (fun r_ I4 L4_ hq => ?_)
    obtain ⟨rfl, s4_⟩ := hq
    refine ⟨_, rfl, ?_⟩
    have hE4 := hE3.sq s4_
    have c0_ : ∀ f_, I4 30 (100 + 2 * j_) f_ = J_ 30 (100 + 2 * j_) f_ := fun f_ => ((s4_.a30 _ f_).1).trans (s3_.a30 _ f_).1
    refine zY.go 2 rfl ?_
    refine zY.ai (n_ := k_) rfl rfl (by rw [(zas_t j_).1]; omega) ?_
    refine zY.bc rfl (fun hp => absurd (show zzE (zzP D_ v_ (L3_ 24 v_)) k_ = I4 30 (100 + 2 * j_) k_ by rw [hE3.1.a24, c0_, b0]; exact p2_) hp) (fun _ => ?_)
    have hq := (((hE4.1.R hR0).2.2.2.1 v_ hv).2.2.2.2.2.1 s_ (by rw [hE4.1.a24]; exact List.mem_of_getElem? hs))
    refine zY.go 3 rfl ?_
    refine zY.cr (zq62 3 (hE4.1.R hR0) hq.1 (by decide)) rfl rfl rfl rfl (Nat.le_of_ble_eq_true rfl) rfl (by decide) rfl (by decide) (Nat.zero_le _) ?_
    refine zY.go 1 rfl ?_
    refine zY.bc rfl (fun hp => absurd (show I4 1 (s_ / 2) 8 = Int32.ofNat v_ from hq.2.1) hp) (fun _ => ?_)
    refine zY.go 5 rfl ?_
    refine zY.ai (n_ := k_) rfl rfl (by rw [(zas_t j_).1]; omega) ?_
    rw [c0_, b0]
    refine zY.go 1 rfl ?_
    exact hX I4 L4_ hE4 (fun f_ hf => (c0_ f_).trans (b1 f_ hf)) ((c0_ k_).trans b0) (fun f_ => (((s4_.a30 _ f_).1).trans (s3_.a30 _ f_).1).trans (b2 f_)) (fun i_ => (((s4_.a30 i_ 0).2).trans (s3_.a30 i_ 0).2).trans (b3 i_))
  refine zY.go 3 rfl ?_
  refine zY.we rfl (fun hb_ => ?_) (fun hb_ => ?_)
  · have hz : (zzbe D_ v_ k_ s_ lv p_).2 = (zzbe D_ v_ k_ s_ lv p_).1 + 2 + 2 * zmkd D_ (s_ / 2) := by
      have hn : ¬ (k_ = 0 ∧ ¬ D_ 31 19 v_ = 0) := by
        rintro ⟨e1_, e2_⟩
        rw [decide_eq_true e1_, decide_eq_false e2_] at hb_
        cases hb_
      unfold zzbe
      rw [if_neg hn, Int32.add_assoc _ 2]
    refine zY.go 7 rfl ?_
    have := h468 I_ L_ hE (fun _ => rfl) (fun _ => rfl) (fun _ => rfl)
    rw [hz] at this
    exact this
  · have hk0 : k_ = 0 := by
      by_cases e_ : k_ = 0
      · exact e_
      · rw [decide_eq_false e_] at hb_; cases hb_
    refine zY.go 4 rfl ?_
    refine zY.c (zq64 (j_ := 0) (k_ := 3) (s_ := s_) hR hv (by rw [hE.1.a24, ← hk0]; exact hs) (by decide)) rfl rfl rfl rfl (Nat.le_of_ble_eq_true rfl) rfl (by decide) rfl (by decide) (Nat.zero_le _) (fun r_ I1 L1 hq => ?_)
    obtain ⟨rfl, s1_⟩ := hq
    refine ⟨_, rfl, ?_⟩
    refine zY.go 1 rfl ?_
    have := h468 I1 L1 (hE.sq s1_) (fun f_ => (s1_.a30 _ f_).1) (fun f_ => (s1_.a30 _ f_).1) (fun i_ => (s1_.a30 i_ 0).2)
    have e3_ : zsq D_ v_ (L_ 24 v_) s_ 0 3 = (zzbe D_ v_ k_ s_ lv p_).2 := by
      show zzE (zzP D_ v_ (L_ 24 v_)) 0 = _
      rw [hE.1.a24, ← p2_, hk0]
    rw [e3_]
    exact this
set_option maxRecDepth 100000 in
theorem zoB2 (hR0 : zzR I0_ L0_ D_ 6 2 M_) (hv : v_ < 2) (hE : zEv I0_ L0_ I_ L_) (hs : (L0_ 24 v_)[k_]? = some s_) (hP : (zzP D_ v_ (L0_ 24 v_))[k_]? = some (zzbe D_ v_ k_ s_ lv p_))
    (hX : ∀ I' L', zEv I0_ L0_ I' L' → (∀ f_, ¬ f_ = k_ → I' 30 (100 + 2 * j_) f_ = I_ 30 (100 + 2 * j_) f_) → I' 30 (100 + 2 * j_) k_ = (zzbe D_ v_ k_ s_ lv p_).2 → (∀ f_, I' 30 (101 + 2 * j_) f_ = I_ 30 (101 + 2 * j_) f_) → (∀ i_, I' 99 30 i_ = I_ 99 30 i_) → zY none 18 126 528 (zlS6 v_ M_ j_ (some (zwI (Int32.ofNat (L0_ 24 v_).length))) (some (zwI p_)) (some (zwI y13)) (some (zwI (zzbe D_ v_ k_ s_ lv p_).2)) (some (zwI u_)) (some (zwI (Int32.ofNat c_))) (some (zwI w_)) (some (zwI 1)) (some (zwI (if rb = true then 1 else 0))) (some (zwI y20)) (some (zwI (-1))) (some (zwI (Int32.ofNat k_))) (some (zwI (Int32.ofNat (s_ / 2)))) (some (zwI (if (!decide (s_ % 2 = 0)) = true then 1 else 0))) (some (zwI (zmkd D_ (s_ / 2)))) (some (zwI (zmpl D_ s_))) (some (zwI (2 * zspm p_ (zmpl D_ s_)))) (some (zwI (if (decide (k_ = 0) && !decide (D_ 31 19 v_ = 0)) = true then 1 else 0))) (some (zwI (D_ 30 34 (s_ / 2) - 2 * zspm p_ (zmpl D_ s_)))) (some (zwI (zzbe D_ v_ k_ s_ lv p_).1)) x31 x32) [] I' L' a_ Q_) :
    zY none 18 126 397 (zlS6 v_ M_ j_ (some (zwI (Int32.ofNat (L0_ 24 v_).length))) (some (zwI p_)) (some (zwI y13)) (some (zwI lv)) (some (zwI u_)) (some (zwI (Int32.ofNat c_))) (some (zwI w_)) (some (zwI 1)) (some (zwI (if rb = true then 1 else 0))) (some (zwI y20)) (some (zwI (-1))) (some (zwI (Int32.ofNat k_))) (some (zwI (Int32.ofNat (s_ / 2)))) (some (zwI (if (!decide (s_ % 2 = 0)) = true then 1 else 0))) (some (zwI (zmkd D_ (s_ / 2)))) (some (zwI (zmpl D_ s_))) (some (zwI (2 * zspm p_ (zmpl D_ s_)))) (some (zwI (if (decide (k_ = 0) && !decide (D_ 31 19 v_ = 0)) = true then 1 else 0))) (some (zwI (D_ 30 34 (s_ / 2) - 2 * zspm p_ (zmpl D_ s_)))) x30 x31 x32) [] I_ L_ a_ Q_ := by
  have hR := hE.1.R hR0
  have hk : k_ < (L0_ 24 v_).length := (List.getElem?_eq_some_iff.mp hs).1
  have hl : (L0_ 24 v_).length ≤ 16 := (zzA26 hR0 hv).2
  obtain ⟨p1_, p2_⟩ := zzBE hP
  have h418 : ∀ lv1, lv1 = zplv D_ s_ lv (2 * zspm p_ (zmpl D_ s_)) → zY none 18 126 418 (zlS6 v_ M_ j_ (some (zwI (Int32.ofNat (L0_ 24 v_).length))) (some (zwI p_)) (some (zwI y13)) (some (zwI lv1)) (some (zwI u_)) (some (zwI (Int32.ofNat c_))) (some (zwI w_)) (some (zwI 1)) (some (zwI (if rb = true then 1 else 0))) (some (zwI y20)) (some (zwI (-1))) (some (zwI (Int32.ofNat k_))) (some (zwI (Int32.ofNat (s_ / 2)))) (some (zwI (if (!decide (s_ % 2 = 0)) = true then 1 else 0))) (some (zwI (zmkd D_ (s_ / 2)))) (some (zwI (zmpl D_ s_))) (some (zwI (2 * zspm p_ (zmpl D_ s_)))) (some (zwI (if (decide (k_ = 0) && !decide (D_ 31 19 v_ = 0)) = true then 1 else 0))) (some (zwI (D_ 30 34 (s_ / 2) - 2 * zspm p_ (zmpl D_ s_)))) x30 x31 x32) [] I_ L_ a_ Q_ := by
    intro lv1 e1_
    refine zY.go 1 rfl ?_
    refine zY.we rfl (fun hb_ => ?_) (fun hb_ => ?_)
    · have hz : (zzbe D_ v_ k_ s_ lv p_).1 = lv1 + 2 * zspm p_ (zmpl D_ s_) := by
        have hn : ¬ (k_ = 0 ∧ ¬ D_ 31 19 v_ = 0) := by
          rintro ⟨e1_, e2_⟩
          rw [decide_eq_true e1_, decide_eq_false e2_] at hb_
          cases hb_
        unfold zzbe
        rw [if_neg hn, e1_]
      refine zY.go 4 rfl ?_
      have := zoC (z14_ := lv1) (u_ := u_) (w_ := w_) (c_ := c_) (rb := rb) (y13 := y13) (y20 := y20) (x31 := x31) (x32 := x32) hR0 hv hE hs hP hX
      rw [hz] at this
      exact this
    · have hk0 : k_ = 0 := by
        by_cases e_ : k_ = 0
        · exact e_
        · rw [decide_eq_false e_] at hb_; cases hb_
      refine zY.go 4 rfl ?_
      refine zY.c (zq64 (j_ := 0) (k_ := 2) (s_ := s_) hR hv (by rw [hE.1.a24, ← hk0]; exact hs) (by decide)) rfl rfl rfl rfl (Nat.le_of_ble_eq_true rfl) rfl (by decide) rfl (by decide) (Nat.zero_le _) (fun r_ I1 L1 hq => ?_)
      obtain ⟨rfl, s1_⟩ := hq
      refine ⟨_, rfl, ?_⟩
      have e3_ : zsq D_ v_ (L_ 24 v_) s_ 0 2 = (zzbe D_ v_ k_ s_ lv p_).1 := by
        show zzB (zzP D_ v_ (L_ 24 v_)) 0 = _
        rw [hE.1.a24, ← p1_, hk0]
      rw [e3_]
      refine zY.go 2 rfl ?_
      have := zoC (z14_ := lv1) (u_ := u_) (w_ := w_) (c_ := c_) (rb := rb) (y13 := y13) (y20 := y20) (x31 := x31) (x32 := x32) hR0 hv (hE.sq s1_) hs hP (fun I' L' c1_ c2_ c3_ c4_ c5_ => hX I' L' c1_ (fun f_ hf => (c2_ f_ hf).trans (s1_.a30 _ f_).1) c3_ (fun f_ => (c4_ f_).trans (s1_.a30 _ f_).1) (fun i_ => (c5_ i_).trans (s1_.a30 i_ 0).2))
      exact this
  refine zY.go 1 rfl ?_
  refine zY.wn rfl (fun hb_ => ?_) (fun hb_ => ?_)
  · have he : ¬ s_ % 2 = 0 := by
      intro e_
      rw [decide_eq_true e_] at hb_; cases hb_
    refine zY.go 2 rfl ?_
    exact h418 lv (by unfold zplv; rw [if_neg (fun e_ => he e_.1)])
  · have he : s_ % 2 = 0 := by
      by_cases e_ : s_ % 2 = 0
      · exact e_
      · rw [decide_eq_false e_] at hb_; cases hb_
    refine zY.go 2 rfl ?_
    refine zY.bc rfl (fun hp => ?_) (fun hp => ?_)
    · refine zY.go 2 rfl ?_
      exact h418 lv (by unfold zplv; rw [if_neg (fun e_ => absurd e_.2 (Int32.not_lt.mpr hp))])
    · refine zY.go 3 rfl ?_
      exact h418 _ (by unfold zplv; rw [if_pos ⟨he, Int32.not_le.mp hp⟩])
end
