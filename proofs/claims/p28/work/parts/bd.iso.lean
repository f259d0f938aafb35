/-! THE LAW'S isSo: its end -/
theorem zspB : ∀ x_, x_ < 36 → ∀ y_, y_ < 36 → 0 ≤ (zspm (Int32.ofNat x_) (Int32.ofNat y_)).toInt ∧ (zspm (Int32.ofNat x_) (Int32.ofNat y_)).toInt ≤ 10 := by decide +kernel
theorem zspC {x_ y_ : Int32} (hx : zzpc x_) (hy : zzpc y_) : (2 * zspm x_ y_).toInt = 2 * (zspm x_ y_).toInt ∧ 0 ≤ (zspm x_ y_).toInt ∧ (zspm x_ y_).toInt ≤ 10 := by
  obtain ⟨m_, hm_, rfl⟩ := hx
  obtain ⟨n_, hn, rfl⟩ := hy
  obtain ⟨h1, h2⟩ := zspB m_ hm_ n_ hn
  refine ⟨?_, h1, h2⟩
  rw [Int32.toInt_mul, show (2 : Int32).toInt = 2 by decide, Int.bmod_eq_of_le (by omega) (by omega)]
theorem zkmB {D_ : zIn} : ∀ (l : List Nat) (p_ w_ : Int32), (∀ s_ ∈ l, zzpc (zmpl D_ s_)) → zzpc p_ → 0 ≤ w_.toInt → w_.toInt + 20 * l.length ≤ 800 → (zzpc (zkm D_ l p_ w_).1 ∧ 0 ≤ (zkm D_ l p_ w_).2.toInt ∧ (zkm D_ l p_ w_).2.toInt ≤ w_.toInt + 20 * l.length)
  | [], p_, w_, _, hp, h0, h1 => ⟨hp, h0, by show w_.toInt ≤ _; simp⟩
  | s_ :: l, p_, w_, hs, hp, h0, h1 => by
    have hs1 := hs s_ List.mem_cons_self
    obtain ⟨e1_, e2_, e3_⟩ := zspC hp hs1
    rw [List.length_cons] at h1 ⊢
    have ew : (w_ + 2 * zspm p_ (zmpl D_ s_)).toInt = w_.toInt + 2 * (zspm p_ (zmpl D_ s_)).toInt := by rw [zziadd2 (by omega) (by omega), e1_]
    obtain ⟨a1_, a2, a3⟩ := zkmB l (zmpl D_ s_) (w_ + 2 * zspm p_ (zmpl D_ s_)) (fun t_ ht => hs t_ (List.mem_cons_of_mem _ ht)) hs1 (by omega) (by omega)
    exact ⟨a1_, a2, by show (zkm D_ l (zmpl D_ s_) (w_ + 2 * zspm p_ (zmpl D_ s_))).2.toInt ≤ _; omega⟩
theorem zdmB {D_ : zIn} {l : List Nat} {p_ b_ : Int32} (hs : ∀ s_ ∈ l, zzpc (zmpl D_ s_)) (hp : zzpc p_) (hb_ : zzpc b_) (hl : l.length ≤ 20) : 0 ≤ zdm D_ l p_ b_ := by
  obtain ⟨a1_, a2, a3⟩ := zkmB l p_ 0 hs hp (by decide) (by rw [show (0 : Int32).toInt = 0 by decide]; omega)
  rw [show (0 : Int32).toInt = 0 by decide] at a3
  obtain ⟨e1_, e2_, e3_⟩ := zspC a1_ hb_
  unfold zdm
  rw [Int32.le_iff_toInt_le, zziadd2 (by omega) (by omega), e1_, show (0 : Int32).toInt = 0 by decide]
  omega
theorem zck_ti {D_ : zIn} {v_ : Nat} {S_ : List Nat} {P_ : List (Int32 × Int32)} (h13 : (D_ 30 13 v_).toInt ≤ 8) : ∀ (r_ : List Nat) (k_ : Nat) (u_ : Int32) (st_ : List Nat), zzfe D_ v_ r_ u_.toInt st_ → -(3 * (k_ : Int)) ≤ u_.toInt → u_.toInt ≤ 8 → k_ + r_.length ≤ 30 → zzck D_ v_ S_ P_ r_ k_ u_ st_ = zti D_ S_ P_ r_ k_
  | [], _, _, _, _, _, _, _ => rfl
  | s_ :: r_, k_, u_, st_, hf, h1, h2, h3 => by
    have hse := zzse (D_ := D_) (s_ / 2)
    rw [List.length_cons] at h3
    unfold zzck zti
    by_cases hp : s_ % 2 = 0
    · obtain ⟨f1_, f2_, f3_⟩ := (zzfe_e hp).mp hf
      have eu : (u_ + zmse D_ (s_ / 2)).toInt = u_.toInt + (zmse D_ (s_ / 2)).toInt := zziadd2 (by omega) (by omega)
      rw [if_pos hp, decide_eq_true (show u_ + zmse D_ (s_ / 2) ≤ D_ 30 13 v_ by rw [Int32.le_iff_toInt_le, eu]; exact f1_), decide_eq_true f2_, Bool.and_self, Bool.and_true, zck_ti h13 r_ (k_ + 1) _ _ (by rw [eu]; exact f3_) (by rw [eu]; omega) (by rw [eu]; omega) (by omega)]
    · obtain ⟨f1_, f2_⟩ := (zzfe_o hp).mp hf
      have eu : (u_ - zmse D_ (s_ / 2)).toInt = u_.toInt - (zmse D_ (s_ / 2)).toInt := zzisub (by omega) (by omega)
      have e3_ : (decide (zmch D_ s_ = 0) || decide (st_.getLast? = some (s_ / 2))) = true := by
        rcases f1_ with f1_ | f1_
        · rw [decide_eq_true f1_]; rfl
        · rw [decide_eq_true f1_, Bool.or_true]
      rw [if_neg hp, e3_, Bool.and_true, zck_ti h13 r_ (k_ + 1) _ _ (by rw [eu]; exact f2_) (by rw [eu]; omega) (by rw [eu]; omega) (by omega)]
theorem zlfiL {D_ : zIn} {v_ : Nat} : ∀ (r_ : List Nat) (k_ : Nat) (lv p_ w_ : Int32), ¬ r_ = [] → zlfi D_ v_ r_ k_ lv p_ = zzE (zzpt D_ v_ r_ k_ lv p_) (r_.length - 1) ∧ (zkm D_ r_ p_ w_).1 = zmpl D_ (r_.getLast?.getD 0)
  | [], _, _, _, _, h_ => absurd rfl h_
  | [s_], k_, lv, p_, w_, _ => ⟨rfl, rfl⟩
  | s_ :: t_ :: r_, k_, lv, p_, w_, _ => by
    obtain ⟨a1_, a2⟩ := zlfiL (D_ := D_) (v_ := v_) (t_ :: r_) (k_ + 1) (zzbe D_ v_ k_ s_ lv p_).2 (zmpl D_ s_) (w_ + 2 * zspm p_ (zmpl D_ s_)) (by simp)
    refine ⟨?_, ?_⟩
    · show zlfi D_ v_ (t_ :: r_) (k_ + 1) (zzbe D_ v_ k_ s_ lv p_).2 (zmpl D_ s_) = zzE (zzbe D_ v_ k_ s_ lv p_ :: zzpt D_ v_ (t_ :: r_) (k_ + 1) (zzbe D_ v_ k_ s_ lv p_).2 (zmpl D_ s_)) (r_.length + 1)
      rw [a1_]
      rfl
    · rw [List.getLast?_cons_cons]
      exact a2
section
variable {I0_ I_ : zIn} {L0_ L_ : zLi} {D_ : zIn} {M_ v_ j_ : Nat} {a_ : Nat} {Q_ : zPost} {y13 y20 u_ c_ : Int32} {x23 x24 x25 x26 x27 x28 x29 x30 x31 x32 : Option zW}
set_option maxRecDepth 100000 in
theorem zoZ (hR0 : zzR I0_ L0_ D_ 6 2 M_) (hv : v_ < 2) (hT_ : zTie I0_ M_) (hE : zEv I0_ L0_ I_ L_) (hQ : ∀ I' L', zEv I0_ L0_ I' L' → Q_ (.inl (some (zwI 1))) I' L') : zY none 18 126 289 (zlS6 v_ M_ j_ (some (zwI (Int32.ofNat (L0_ 24 v_).length))) (some (zwI (zkm D_ (L0_ 24 v_) (D_ 30 17 v_) 0).1)) (some (zwI y13)) (some (zwI (zlfi D_ v_ (L0_ 24 v_) 0 (if D_ 7 0 2 + 1 < D_ 30 18 v_ then D_ 30 18 v_ else D_ 7 0 2 + 1) (D_ 30 17 v_)))) (some (zwI u_)) (some (zwI c_)) (some (zwI (zkm D_ (L0_ 24 v_) (D_ 30 17 v_) 0).2)) (some (zwI 1)) (some (zwI (if (true && zti D_ (L0_ 24 v_) (zzP D_ v_ (L0_ 24 v_)) (L0_ 24 v_) 0) = true then 1 else 0))) (some (zwI y20)) (some (zwI (-1))) (some (zwI (Int32.ofNat (L0_ 24 v_).length))) x23 x24 x25 x26 x27 x28 x29 x30 x31 x32) [] I_ L_ a_ Q_ := by
  have hM_ := hR0.1.2.2.2.2.2.2.2.1
  have hl16 : (L0_ 24 v_).length ≤ 16 := (zzA26 hR0 hv).2
  have hq0 := zzQ_of hR0 hv
  have hH := zzH_of hq0
  have hpl : ∀ s_ ∈ (L0_ 24 v_), zzpc (zmpl D_ s_) := fun s_ hs => (hq0.2.2.2.1 s_ hs).2.1.2.1
  have hp17 : zzpc (D_ 30 17 v_) := hH.1.2.2.2.2.2.2.1
  have hp12 : zzpc (D_ 30 12 v_) := hH.1.2.2.2.2.2.2.2
  have ei0 : 4 * Int32.ofNat v_ = Int32.ofNat (4 * v_) := by rw [Int32.ofNat_mul]; rfl
  have e12_ : ∀ J_ K_, zEv I0_ L0_ J_ K_ → J_ 30 66 (4 * v_) = D_ 30 12 v_ := fun J_ K_ h_ => ((h_.tie hT_).2.2 v_ hv).1.trans ((h_.1.R hR0).2.2.2.1 v_ hv).1.1.1
  have hfe := (hR0.2.2.2.1 v_ hv).2.2.2.2.2.2.2.2.1
  have hti : zzck D_ v_ (L0_ 24 v_) (zzP D_ v_ (L0_ 24 v_)) (L0_ 24 v_) 0 (D_ 30 23 v_) (zchl I0_ (L0_ 26 v_)) = zti D_ (L0_ 24 v_) (zzP D_ v_ (L0_ 24 v_)) (L0_ 24 v_) 0 := zck_ti hH.2.2.1 _ 0 _ _ hfe (by have := hH.2.2.2.1; omega) hH.2.2.2.2.1 (by omega)
  have hrt : (zzrt D_ v_ (L0_ 24 v_) (zchl I0_ (L0_ 26 v_))) = (zti D_ (L0_ 24 v_) (zzP D_ v_ (L0_ 24 v_)) (L0_ 24 v_) 0 && zzen D_ v_ (L0_ 24 v_) (zzP D_ v_ (L0_ 24 v_))) := by unfold zzrt; rw [hti]
  have hba : ¬ (L0_ 24 v_) = [] → (zlfi D_ v_ (L0_ 24 v_) 0 (if D_ 7 0 2 + 1 < D_ 30 18 v_ then D_ 30 18 v_ else D_ 7 0 2 + 1) (D_ 30 17 v_)) + (2 * zspm (zkm D_ (L0_ 24 v_) (D_ 30 17 v_) 0).1 (D_ 30 12 v_)) = zzba D_ v_ (L0_ 24 v_) (zzP D_ v_ (L0_ 24 v_)) := by
    intro hne
    obtain ⟨b1, b2⟩ := zlfiL (D_ := D_) (v_ := v_) (L0_ 24 v_) 0 (if D_ 7 0 2 + 1 < D_ 30 18 v_ then D_ 30 18 v_ else D_ 7 0 2 + 1) (D_ 30 17 v_) 0 hne
    rw [b1, b2]
    rfl
  have hdm : zdm D_ (L0_ 24 v_) (D_ 30 17 v_) (D_ 30 12 v_) = (zkm D_ (L0_ 24 v_) (D_ 30 17 v_) 0).2 + (2 * zspm (zkm D_ (L0_ 24 v_) (D_ 30 17 v_) 0).1 (D_ 30 12 v_)) := rfl
  have est : ∀ J_ K_, zEv I0_ L0_ J_ K_ → zchl J_ (K_ 26 v_) = (zchl I0_ (L0_ 26 v_)) := fun J_ K_ h_ => by rw [h_.chl, h_.1.a26]
  -- 995
  have h995 : ∀ (J_ : zIn) (K_ : zLi) (rt : Bool) (x23 : Option zW) (x_ : Int32), zEv I0_ L0_ J_ K_ → zY none 18 126 995 (zlS6 v_ M_ j_ (some (zwI (Int32.ofNat (L0_ 24 v_).length))) (some (zwI (zkm D_ (L0_ 24 v_) (D_ 30 17 v_) 0).1)) (some (zwI y13)) (some (zwI (zlfi D_ v_ (L0_ 24 v_) 0 (if D_ 7 0 2 + 1 < D_ 30 18 v_ then D_ 30 18 v_ else D_ 7 0 2 + 1) (D_ 30 17 v_)))) (some (zwI u_)) (some (zwI c_)) (some (zwI (zkm D_ (L0_ 24 v_) (D_ 30 17 v_) 0).2)) (some (zwI 1)) (some (zwI (if rt = true then 1 else 0))) (some (zwI y20)) (some (zwI (-1))) (some (zwI (2 * zspm (zkm D_ (L0_ 24 v_) (D_ 30 17 v_) 0).1 (D_ 30 12 v_)))) (some (zwI x_)) x24 x25 x26 x27 x28 x29 x30 x31 x32) [] J_ K_ a_ Q_ := by
    intro J_ K_ rt x23 x_ hJ
    refine zY.go 2 rfl ?_
    exact zY.rb rfl rfl (Or.inr rfl) (hQ J_ K_ hJ)
  -- 949
  have h949 : ∀ (J_ : zIn) (K_ : zLi) (x_ : Int32) (rt : Bool), rt = (zzrt D_ v_ (L0_ 24 v_) (zchl I0_ (L0_ 26 v_))) → zEv I0_ L0_ J_ K_ → ((L0_ 24 v_).length ≤ 6 → rt = true → 0 ≤ x_ ∧ x_ ≤ (zkm D_ (L0_ 24 v_) (D_ 30 17 v_) 0).2 + (2 * zspm (zkm D_ (L0_ 24 v_) (D_ 30 17 v_) 0).1 (D_ 30 12 v_))) → zY none 18 126 949 (zlS6 v_ M_ j_ (some (zwI (Int32.ofNat (L0_ 24 v_).length))) (some (zwI (zkm D_ (L0_ 24 v_) (D_ 30 17 v_) 0).1)) (some (zwI y13)) (some (zwI (zlfi D_ v_ (L0_ 24 v_) 0 (if D_ 7 0 2 + 1 < D_ 30 18 v_ then D_ 30 18 v_ else D_ 7 0 2 + 1) (D_ 30 17 v_)))) (some (zwI u_)) (some (zwI c_)) (some (zwI (zkm D_ (L0_ 24 v_) (D_ 30 17 v_) 0).2)) (some (zwI 1)) (some (zwI (if rt = true then 1 else 0))) (some (zwI y20)) (some (zwI (-1))) (some (zwI (2 * zspm (zkm D_ (L0_ 24 v_) (D_ 30 17 v_) 0).1 (D_ 30 12 v_)))) x23 x24 x25 x26 x27 x28 x29 x30 x31 x32) [zwI x_] J_ K_ a_ Q_ := by
    intro J_ K_ x_ rt ert hJ hx
    refine zY.go 2 rfl ?_
    refine zY.bi rfl (fun hp => absurd (show (1 : Int32) = 0 from hp) (by decide)) (fun _ => ?_)
    refine zY.go 2 rfl ?_
    refine zY.bc rfl (fun hp => ?_) (fun hp => ?_)
    · have h6 : (L0_ 24 v_).length ≤ 6 := (zile (a := (L0_ 24 v_).length) (b := 6) (by omega) (by omega)).mp hp
      refine zY.go 1 rfl ?_
      refine zY.we rfl (fun hb_ => ?_) (fun hb_ => ?_)
      · exact h995 J_ K_ rt x23 x_ hJ
      · obtain ⟨c1_, c2_⟩ := hx h6 hb_
        refine zY.go 1 rfl ?_
        refine zY.bi rfl (fun hp => absurd hp (Int32.not_lt.mpr c1_)) (fun _ => ?_)
        refine zY.go 4 rfl ?_
        refine zY.bc rfl (fun hp => absurd c2_ (Int32.not_le.mpr hp)) (fun _ => ?_)
        exact h995 J_ K_ rt x23 x_ hJ
    · have h6 : 6 < (L0_ 24 v_).length := by
        rcases Nat.lt_or_ge 6 (L0_ 24 v_).length with e_ | e_
        · exact e_
        · exact absurd ((zile (a := (L0_ 24 v_).length) (b := 6) (by omega) (by omega)).mpr e_) hp
      refine zY.go 2 rfl ?_
      refine zY.c (zq69 (hJ.1.R hR0) hv) rfl rfl rfl rfl (Nat.le_of_ble_eq_true rfl) rfl (by decide) rfl (by decide) (Nat.zero_le _) (fun r_ J2 K2 hq => ?_)
      obtain ⟨x2_, rfl, ⟨g1, _⟩, s2_⟩ := hq
      refine ⟨_, rfl, ?_⟩
      rw [g1 (by rw [hJ.1.a24]; exact h6)]
      refine zY.go 1 rfl ?_
      refine zY.bc rfl (fun hp => absurd rfl hp) (fun _ => ?_)
      refine zY.go 1 rfl ?_
      exact h995 J2 K2 rt x23 x_ (hJ.sq s2_)
  -- 919
  have h919 : ∀ (J_ : zIn) (K_ : zLi) (rt : Bool), rt = (zzrt D_ v_ (L0_ 24 v_) (zchl I0_ (L0_ 26 v_))) → zEv I0_ L0_ J_ K_ → zY none 18 126 919 (zlS6 v_ M_ j_ (some (zwI (Int32.ofNat (L0_ 24 v_).length))) (some (zwI (zkm D_ (L0_ 24 v_) (D_ 30 17 v_) 0).1)) (some (zwI y13)) (some (zwI (zlfi D_ v_ (L0_ 24 v_) 0 (if D_ 7 0 2 + 1 < D_ 30 18 v_ then D_ 30 18 v_ else D_ 7 0 2 + 1) (D_ 30 17 v_)))) (some (zwI u_)) (some (zwI c_)) (some (zwI (zkm D_ (L0_ 24 v_) (D_ 30 17 v_) 0).2)) (some (zwI 1)) (some (zwI (if rt = true then 1 else 0))) (some (zwI y20)) (some (zwI (-1))) (some (zwI (2 * zspm (zkm D_ (L0_ 24 v_) (D_ 30 17 v_) 0).1 (D_ 30 12 v_)))) x23 x24 x25 x26 x27 x28 x29 x30 x31 x32) [] J_ K_ a_ Q_ := by
    intro J_ K_ rt ert hJ
    refine zY.go 4 rfl ?_
    refine zY.cr zm25 rfl rfl rfl rfl (Nat.le_of_ble_eq_true rfl) rfl (by decide) rfl (by decide) (Nat.zero_le _) ?_
    refine zY.go 1 rfl ?_
    refine zY.rm rfl (by decide) ?_
    refine zY.bi rfl (fun hp => ?_) (fun hp => ?_)
    · refine zY.go 2 rfl ?_
      refine zY.c (zq69 (hJ.1.R hR0) hv) rfl rfl rfl rfl (Nat.le_of_ble_eq_true rfl) rfl (by decide) rfl (by decide) (Nat.zero_le _) (fun r_ J2 K2 hq => ?_)
      obtain ⟨x2_, rfl, ⟨_, g2⟩, s2_⟩ := hq
      refine ⟨_, rfl, ?_⟩
      refine h949 J2 K2 x2_ rt ert (hJ.sq s2_) (fun h6 hr => ?_)
      rw [hJ.1.a24, est J_ K_ hJ] at g2
      obtain ⟨⟨q_, q1_, q2_⟩, q3_⟩ := g2 h6 (ert ▸ hr)
      refine ⟨?_, by rw [← hdm]; exact q3_⟩
      rw [q2_]
      exact zdmB (fun s_ hs => hpl s_ (q1_.mem_iff.mp hs)) hp17 hp12 (by rw [q1_.length_eq]; omega)
    · refine zY.go 4 rfl ?_
      exact h949 J_ K_ _ rt ert hJ (fun _ _ => ⟨by rw [← hdm]; exact zdmB hpl hp17 hp12 (by omega), Int32.le_refl _⟩)
  -- 899
  have h899 : ∀ (J_ : zIn) (K_ : zLi) (rt : Bool), rt = (zzrt D_ v_ (L0_ 24 v_) (zchl I0_ (L0_ 26 v_))) → zEv I0_ L0_ J_ K_ → zY none 18 126 899 (zlS6 v_ M_ j_ (some (zwI (Int32.ofNat (L0_ 24 v_).length))) (some (zwI (zkm D_ (L0_ 24 v_) (D_ 30 17 v_) 0).1)) (some (zwI y13)) (some (zwI (zlfi D_ v_ (L0_ 24 v_) 0 (if D_ 7 0 2 + 1 < D_ 30 18 v_ then D_ 30 18 v_ else D_ 7 0 2 + 1) (D_ 30 17 v_)))) (some (zwI u_)) (some (zwI c_)) (some (zwI (zkm D_ (L0_ 24 v_) (D_ 30 17 v_) 0).2)) (some (zwI 1)) (some (zwI (if rt = true then 1 else 0))) (some (zwI y20)) (some (zwI (-1))) (some (zwI (2 * zspm (zkm D_ (L0_ 24 v_) (D_ 30 17 v_) 0).1 (D_ 30 12 v_)))) x23 x24 x25 x26 x27 x28 x29 x30 x31 x32) [] J_ K_ a_ Q_ := by
    intro J_ K_ rt ert hJ
    refine zY.go 3 rfl ?_
    refine zY.c (zq63 (k_ := 8) (hJ.1.R hR0) hv (by decide)) rfl rfl rfl rfl (Nat.le_of_ble_eq_true rfl) rfl (by decide) rfl (by decide) (Nat.zero_le _) (fun r_ J2 K2 hq => ?_)
    obtain ⟨rfl, s2_⟩ := hq
    refine ⟨_, rfl, ?_⟩
    have e8 : zvq D_ v_ (K_ 24 v_) (zchl J_ (K_ 26 v_)) 8 = if rt = true then 1 else 0 := by
      rw [hJ.1.a24, est J_ K_ hJ, ert]
      rfl
    rw [e8]
    have hY := h919 J2 K2 rt ert (hJ.sq s2_)
    refine zY.go 1 rfl ?_
    refine zY.we rfl (fun hb_ => ?_) (fun hb_ => ?_)
    · rw [hb_] at hY ⊢
      refine zY.go 1 rfl ?_
      refine zY.bc rfl (fun hp => absurd rfl hp) (fun _ => ?_)
      exact hY
    · rw [hb_] at hY ⊢
      refine zY.go 2 rfl ?_
      refine zY.bc rfl (fun hp => absurd rfl hp) (fun _ => ?_)
      exact hY
  -- 855
  have h855 : ∀ rt : Bool, rt = (zzrt D_ v_ (L0_ 24 v_) (zchl I0_ (L0_ 26 v_))) → zY none 18 126 855 (zlS6 v_ M_ j_ (some (zwI (Int32.ofNat (L0_ 24 v_).length))) (some (zwI (zkm D_ (L0_ 24 v_) (D_ 30 17 v_) 0).1)) (some (zwI y13)) (some (zwI (zlfi D_ v_ (L0_ 24 v_) 0 (if D_ 7 0 2 + 1 < D_ 30 18 v_ then D_ 30 18 v_ else D_ 7 0 2 + 1) (D_ 30 17 v_)))) (some (zwI u_)) (some (zwI c_)) (some (zwI (zkm D_ (L0_ 24 v_) (D_ 30 17 v_) 0).2)) (some (zwI 1)) (some (zwI (if (true && zti D_ (L0_ 24 v_) (zzP D_ v_ (L0_ 24 v_)) (L0_ 24 v_) 0) = true then 1 else 0))) (some (zwI y20)) (some (zwI (-1))) (some (zwI (2 * zspm (zkm D_ (L0_ 24 v_) (D_ 30 17 v_) 0).1 (D_ 30 12 v_)))) x23 x24 x25 x26 x27 x28 x29 x30 x31 x32) [zwI (if rt = true then 1 else 0)] I_ L_ a_ Q_ := by
    intro rt ert
    refine zY.go 2 rfl ?_
    refine zY.bi rfl (fun hp => absurd (show (1 : Int32) = 0 from hp) (by decide)) (fun _ => ?_)
    refine zY.go 2 rfl ?_
    refine zY.cr (zq68 (hE.1.R hR0) hv) rfl rfl rfl rfl (Nat.le_of_ble_eq_true rfl) rfl (by decide) rfl (by decide) (Nat.zero_le _) ?_
    refine zY.go 3 rfl ?_
    refine zY.bc rfl (fun hp => absurd (show zdm D_ (L_ 24 v_) (D_ 30 17 v_) (D_ 30 12 v_) = (zkm D_ (L0_ 24 v_) (D_ 30 17 v_) 0).2 + (2 * zspm (zkm D_ (L0_ 24 v_) (D_ 30 17 v_) 0).1 (D_ 30 12 v_)) by rw [hE.1.a24]; exact hdm) hp) (fun _ => ?_)
    refine zY.go 3 rfl ?_
    refine zY.c (zq63 (k_ := 7) (hE.1.R hR0) hv (by decide)) rfl rfl rfl rfl (Nat.le_of_ble_eq_true rfl) rfl (by decide) rfl (by decide) (Nat.zero_le _) (fun r_ J2 K2 hq => ?_)
    obtain ⟨rfl, s2_⟩ := hq
    refine ⟨_, rfl, ?_⟩
    have e7_ : zvq D_ v_ (L_ 24 v_) (zchl I_ (L_ 26 v_)) 7 = if (L0_ 24 v_) = [] then -1 else zzba D_ v_ (L0_ 24 v_) (zzP D_ v_ (L0_ 24 v_)) := by
      rw [hE.1.a24]; rfl
    rw [e7_]
    refine zY.go 1 rfl ?_
    refine zY.bi rfl (fun hp => ?_) (fun hp => ?_)
    · have hne : ¬ (L0_ 24 v_) = [] := fun e_ => hp (by rw [e_]; rfl)
      refine zY.go 3 rfl ?_
      refine zY.bc rfl (fun hp => absurd (show (if (L0_ 24 v_) = [] then -1 else zzba D_ v_ (L0_ 24 v_) (zzP D_ v_ (L0_ 24 v_))) = (zlfi D_ v_ (L0_ 24 v_) 0 (if D_ 7 0 2 + 1 < D_ 30 18 v_ then D_ 30 18 v_ else D_ 7 0 2 + 1) (D_ 30 17 v_)) + (2 * zspm (zkm D_ (L0_ 24 v_) (D_ 30 17 v_) 0).1 (D_ 30 12 v_)) by rw [if_neg hne, hba hne]) hp) (fun _ => ?_)
      exact h899 J2 K2 rt ert (hE.sq s2_)
    · have he : (L0_ 24 v_) = [] := by
        have h0 : Int32.ofNat (L0_ 24 v_).length = Int32.ofNat 0 := Classical.not_not.mp hp
        have h1 := (zof_eq (a_ := (L0_ 24 v_).length) (b_ := 0) (by omega) (by omega)).mp h0
        exact List.eq_nil_of_length_eq_zero h1
      refine zY.go 2 rfl ?_
      refine zY.bc rfl (fun hp => absurd (show (if (L0_ 24 v_) = [] then (-1 : Int32) else zzba D_ v_ (L0_ 24 v_) (zzP D_ v_ (L0_ 24 v_))) = -1 from if_pos he) hp) (fun _ => ?_)
      exact h899 J2 K2 rt ert (hE.sq s2_)
  refine zY.go 2 rfl ?_
  refine zY.bn rfl (by omega) (by omega) (fun _ => ?_) (fun hF => absurd (Nat.le_refl _) hF)
  refine zY.go 5 rfl ?_
  refine zY.ai (n_ := 4 * v_) rfl ei0 (by show _ < 8; omega) ?_
  rw [e12_ I_ L_ hE]
  refine zY.cr za124 rfl rfl rfl rfl (Nat.le_of_ble_eq_true rfl) rfl (by decide) rfl (by decide) (Nat.zero_le _) ?_
  refine zY.go 2 rfl ?_
  refine zY.we rfl (fun hb_ => ?_) (fun hb_ => ?_)
  · refine zY.go 1 rfl ?_
    exact h855 false (by rw [Bool.true_and] at hb_; rw [hrt, hb_]; rfl)
  · have hb' : zti D_ (L0_ 24 v_) (zzP D_ v_ (L0_ 24 v_)) (L0_ 24 v_) 0 = true := by rw [Bool.true_and] at hb_; exact hb_
    refine zY.go 1 rfl ?_
    refine zY.bi rfl (fun hp => ?_) (fun hp => ?_)
    · have he : (L0_ 24 v_) = [] := by
        have h0 : Int32.ofNat (L0_ 24 v_).length = Int32.ofNat 0 := hp
        have h1 := (zof_eq (a_ := (L0_ 24 v_).length) (b_ := 0) (by omega) (by omega)).mp h0
        exact List.eq_nil_of_length_eq_zero h1
      refine zY.go 2 rfl ?_
      exact h855 true (by rw [hrt, hb']; unfold zzen; rw [he]; rfl)
    · have hne : ¬ (L0_ 24 v_) = [] := fun e_ => hp (by rw [e_]; rfl)
      have hem : (L0_ 24 v_).isEmpty = false := by
        cases hS_ : (L0_ 24 v_) with
        | nil => exact absurd hS_ hne
        | cons s_ l => rfl
      refine zY.go 4 rfl ?_
      refine zY.bc rfl (fun hp => ?_) (fun hp => ?_)
      · refine zY.go 1 rfl ?_
        exact h855 false (by
          have h1 : ¬ zzba D_ v_ (L0_ 24 v_) (zzP D_ v_ (L0_ 24 v_)) ≤ 600 := by rw [← hba hne]; exact Int32.not_le.mpr hp
          rw [hrt, hb']; unfold zzen; rw [hem, decide_eq_false h1]; rfl)
      · refine zY.go 2 rfl ?_
        exact h855 true (by
          have h1 : zzba D_ v_ (L0_ 24 v_) (zzP D_ v_ (L0_ 24 v_)) ≤ 600 := by rw [← hba hne]; exact Int32.not_lt.mp hp
          rw [hrt, hb']; unfold zzen; rw [hem, decide_eq_true h1]; rfl)
end
