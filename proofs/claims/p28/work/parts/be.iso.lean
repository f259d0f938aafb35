/-! THE LAW'S isSo: the whole of it -/
def zo6Q (I0_ : zIn) (L0_ : zLi) (j_ : Nat) : zPost := fun r_ I' L' => r_ = .inl (some (zwI 1)) ∧ zSo I0_ L0_ I' L' ∧ (∀ i_ f_, i_ < 100 → I' 30 i_ f_ = I0_ 30 i_ f_) ∧ ∀ i_, I' 99 30 i_ = 1 → I0_ 99 30 i_ = 1 ∨ i_ < 102 + 2 * j_
theorem zTie.so {I_ I' : zIn} {L_ L' : zLi} {M_ : Nat} (hT_ : zTie I_ M_) (h_ : zSo I_ L_ I' L') (h30 : ∀ i_ f_, i_ < 100 → I' 30 i_ f_ = I_ 30 i_ f_) : zTie I' M_ := by
  refine ⟨fun r_ hr => ?_, fun i_ hi_ => ?_, fun w_ hw => ?_⟩
  · rw [h30 63 r_ (by omega), h30 64 r_ (by omega), h30 65 r_ (by omega), h_.a1 r_ (by omega), h_.a1 r_ (by omega), h_.a1 r_ (by omega)]
    exact hT_.1 r_ hr
  · rw [h30 60 i_ (by omega), h30 61 i_ (by omega), h30 62 i_ (by omega), h_.a2, h_.a2, h_.a2]
    exact hT_.2.1 i_ hi_
  · rw [h30 66 _ (by omega), h30 66 _ (by omega), h30 66 _ (by omega), h_.a5, h_.a5, h_.a5]
    exact hT_.2.2 w_ hw
theorem zxs.so {I_ I' : zIn} {L_ L' : zLi} {v_ : Nat} (hx : zxs I_ L_ v_ (I_ 6 0 8)) (h_ : zSo I_ L_ I' L') : zxs I' L' v_ (I' 6 0 8) := by
  unfold zxs
  rw [h_.a26, h_.a6]
  refine ⟨hx.1.imp (fun {a_ b_} hab => ?_), fun q_ hq => ?_⟩
  · rw [h_.a1 a_ (by omega), h_.a1 b_ (by omega)]; exact hab
  · rw [h_.a1 q_ (by omega)]; exact hx.2 q_ hq
section
variable {I0_ : zIn} {L0_ : zLi} {D_ : zIn} {M_ v_ j_ : Nat} {a_ : Nat} {Q_ : zPost}
set_option maxRecDepth 100000 in
theorem zo247 {y13 y20 x22 : Int32} {x23 x24 x25 x26 x27 x28 x29 x30 x31 x32 : Option zW} {I_ : zIn} {L_ : zLi} (hR0 : zzR I0_ L0_ D_ 6 2 M_) (hv : v_ < 2) (hT_ : zTie I0_ M_) (hE : zEv I0_ L0_ I_ L_) (hc_ : ∀ k_ q_, (zchl I0_ (L0_ 26 v_))[k_]? = some q_ → I_ 30 (101 + 2 * j_) k_ = Int32.ofNat q_)
    (hQ : ∀ I' L', zEv I0_ L0_ I' L' → Q_ (.inl (some (zwI 1))) I' L') : zY none 18 126 247 (zlS6 v_ M_ j_ (some (zwI (Int32.ofNat (L0_ 24 v_).length))) (some (zwI (D_ 30 17 v_))) (some (zwI y13)) (some (zwI (if D_ 7 0 2 + 1 < D_ 30 18 v_ then D_ 30 18 v_ else D_ 7 0 2 + 1))) (some (zwI (D_ 30 23 v_))) (some (zwI (Int32.ofNat (zchl I0_ (L0_ 26 v_)).length))) (some (zwI 0)) (some (zwI 1)) (some (zwI 1)) (some (zwI y20)) (some (zwI (-1))) (some (zwI x22)) x23 x24 x25 x26 x27 x28 x29 x30 x31 x32) [] I_ L_ a_ Q_ := by
  have hl16 : (L0_ 24 v_).length ≤ 16 := (zzA26 hR0 hv).2
  have h2 := hR0.2.2.2.1 v_ hv
  have hq0 := zzQ_of hR0 hv
  have hH := zzH_of hq0
  have hl3 : (zchl I0_ (L0_ 26 v_)).length ≤ 3 := h2.1.2.2.2.2.2.2.2.2.2.2.2.1
  have fin_ : ∀ (J_ : zIn) (K_ : zLi), zEv I0_ L0_ J_ K_ → (∀ k_ q_, (zchl I0_ (L0_ 26 v_))[k_]? = some q_ → J_ 30 (101 + 2 * j_) k_ = Int32.ofNat q_) → zY none 18 126 289 (zlS6 v_ M_ j_ (some (zwI (Int32.ofNat (L0_ 24 v_).length))) (some (zwI (D_ 30 17 v_))) (some (zwI y13)) (some (zwI (if D_ 7 0 2 + 1 < D_ 30 18 v_ then D_ 30 18 v_ else D_ 7 0 2 + 1))) (some (zwI (D_ 30 23 v_))) (some (zwI (Int32.ofNat (zchl I0_ (L0_ 26 v_)).length))) (some (zwI 0)) (some (zwI 1)) (some (zwI 1)) (some (zwI y20)) (some (zwI (-1))) (some (zwI (Int32.ofNat 0))) x23 x24 x25 x26 x27 x28 x29 x30 x31 x32) [] J_ K_ a_ Q_ := by
    intro J_ K_ hJ hcJ
    have := zoK (a_ := a_) (Q_ := Q_) (j_ := j_) (y13 := y13) (y20 := y20) hR0 hv hT_ (L0_ 24 v_) 0 J_ K_ (D_ 30 17 v_) (if D_ 7 0 2 + 1 < D_ 30 18 v_ then D_ 30 18 v_ else D_ 7 0 2 + 1) (D_ 30 23 v_) 0 (zchl I0_ (L0_ 26 v_)) (zchl I0_ (L0_ 26 v_)).length true x23 x24 x25 x26 x27 x28 x29 x30 x31 x32 rfl rfl rfl ?fe (by omega) ?u1_ ?u2_ hcJ (fun f_ hf => absurd hf (Nat.not_lt_zero f_)) hJ (Nat.zero_le _) (fun I' L' u' c' z23 z24 z25 z26 z27 z28_ z29_ z30 z31_ z32 hE' h99 => zoZ hR0 hv hT_ hE' hQ)
    · exact this
    · exact h2.2.2.2.2.2.2.2.2.1
    · have := hH.2.2.2.1; omega
    · exact hH.2.2.2.2.1
  have e1_ : ∀ J_ K_, zEv I0_ L0_ J_ K_ → zvq D_ v_ (K_ 24 v_) (zchl J_ (K_ 26 v_)) 3 = D_ 30 23 v_ := fun _ _ _ => rfl
  have e4_ : ∀ J_ K_, zEv I0_ L0_ J_ K_ → zvq D_ v_ (K_ 24 v_) (zchl J_ (K_ 26 v_)) 4 = Int32.ofNat (zchl I0_ (L0_ 26 v_)).length := fun J_ K_ h_ => by
    show Int32.ofNat (zchl J_ (K_ 26 v_)).length = _
    rw [h_.chl, h_.1.a26]
  refine zY.go 3 rfl ?_
  refine zY.c (zq63 (k_ := 3) (hE.1.R hR0) hv (by decide)) rfl rfl rfl rfl (Nat.le_of_ble_eq_true rfl) rfl (by decide) rfl (by decide) (Nat.zero_le _) (fun r_ J2 K2 hq => ?_)
  obtain ⟨rfl, s2_⟩ := hq
  refine ⟨_, rfl, ?_⟩
  have hE2 := hE.sq s2_
  refine zY.go 1 rfl ?_
  refine zY.bc rfl (fun hp => absurd rfl hp) (fun _ => ?_)
  refine zY.go 2 rfl ?_
  refine zY.cr (zq67 (hE2.1.R hR0) hv) rfl rfl rfl rfl (Nat.le_of_ble_eq_true rfl) rfl (by decide) rfl (by decide) (Nat.zero_le _) ?_
  refine zY.go 1 rfl ?_
  refine zY.bc rfl (fun hp => absurd rfl hp) (fun _ => ?_)
  refine zY.go 3 rfl ?_
  refine zY.c (zq63 (k_ := 4) (hE2.1.R hR0) hv (by decide)) rfl rfl rfl rfl (Nat.le_of_ble_eq_true rfl) rfl (by decide) rfl (by decide) (Nat.zero_le _) (fun r_ J3 K3 hq => ?_)
  obtain ⟨rfl, s3_⟩ := hq
  refine ⟨_, rfl, ?_⟩
  rw [e4_ _ _ hE2]
  have hE3 := hE2.sq s3_
  refine zY.go 1 rfl ?_
  refine zY.bc rfl (fun hp => absurd rfl hp) (fun _ => ?_)
  refine zY.go 5 rfl ?_
  exact fin_ J3 K3 hE3 (fun k_ q_ hk => by rw [(s3_.a30 _ _).1, (s2_.a30 _ _).1]; exact hc_ k_ q_ hk)
set_option maxRecDepth 100000 in
theorem zo126 (hR : zzR I0_ L0_ D_ 6 2 M_) (hv : v_ < 2) (hx : zxs I0_ L0_ v_ (I0_ 6 0 8)) (hT_ : zTie I0_ M_) (hf : ∀ i_, 100 + 2 * j_ ≤ i_ → ¬ I0_ 99 30 i_ = 1) : zYm 18 126 [zwR 6 0, zwI (Int32.ofNat v_), zwI (Int32.ofNat M_), zwR 30 63, zwR 30 64, zwR 30 65, zwR 30 60, zwR 30 61, zwR 30 66] I0_ L0_ 38 (zo6Q I0_ L0_ j_) := by
  refine zYm.of (ls := [some (zwR 6 0), some (zwI (Int32.ofNat v_)), some (zwI (Int32.ofNat M_)), some (zwR 30 63), some (zwR 30 64), some (zwR 30 65), some (zwR 30 60), some (zwR 30 61), some (zwR 30 66), none, none, none, none, none, none, none, none, none, none, none, none, none, none, none, none, none, none, none, none, none, none, none, none]) (Nat.le_of_ble_eq_true rfl) rfl ?_
  refine zY.go 1 rfl ?_
  refine zY.na (j_ := 100 + 2 * j_) (n_ := 16) rfl rfl (zas_t j_).1 (hf _ (Nat.le_refl _)) (by decide) ?_
  have f2_ : ¬ znwI I0_ 30 (100 + 2 * j_) (fun _ => 0) 99 30 (101 + 2 * j_) = 1 := by
    rw [znwI_99]
    rintro (⟨_, h_⟩ | h_)
    · omega
    · exact hf _ (by omega) h_
  refine zY.go 2 rfl ?_
  refine zY.na (j_ := 101 + 2 * j_) (n_ := 20) rfl rfl (zas_t j_).2 f2_ (by decide) ?_
  generalize hI2 : znwI (znwI I0_ 30 (100 + 2 * j_) fun _ => 0) 30 (101 + 2 * j_) (fun _ => 0) = I2_
  have hS_ : zSo I0_ L0_ I2_ L0_ := by rw [← hI2]; exact zSo.new.trans zSo.new
  have h30 : ∀ i_ f_, i_ < 100 → I2_ 30 i_ f_ = I0_ 30 i_ f_ := fun i_ f_ hi_ => by
    rw [← hI2, znwI_ne (by decide) (by omega), znwI_ne (by decide) (by omega)]
  have h99 : ∀ i_, I2_ 99 30 i_ = 1 → I0_ 99 30 i_ = 1 ∨ i_ < 102 + 2 * j_ := fun i_ hi_ => by
    rw [← hI2, znwI_99, znwI_99] at hi_
    rcases hi_ with ⟨_, h_⟩ | ⟨_, h_⟩ | h_
    · exact Or.inr (by omega)
    · exact Or.inr (by omega)
    · exact Or.inl h_
  have hR2 : zzR I2_ L0_ D_ 6 2 M_ := hS_.R hR
  have hT2 := hT_.so hS_ h30
  have hx2 := hx.so hS_
  have hQ : ∀ I' L', zEv I2_ L0_ I' L' → zo6Q I0_ L0_ j_ (.inl (some (zwI 1))) I' L' := fun I' L' h_ => ⟨rfl, hS_.trans h_.1, fun i_ f_ hi_ => (h_.2.1 i_ f_ hi_).trans (h30 i_ f_ hi_), fun i_ hi_ => h99 i_ (by rw [← h_.2.2 i_]; exact hi_)⟩
  have go_ : ∀ (Q_ : zPost) (a_ : Nat) (hQ : ∀ I' L', zEv I2_ L0_ I' L' → Q_ (.inl (some (zwI 1))) I' L') (J_ : zIn) (K_ : zLi) (y_ : Int32), zEv I2_ L0_ J_ K_ → zY none 18 126 81 (zlS6 v_ M_ j_ (some (zwI (Int32.ofNat (L0_ 24 v_).length))) (some (zwI (D_ 30 17 v_))) (some (zwI y_)) (some (zwI (if D_ 7 0 2 + 1 < D_ 30 18 v_ then D_ 30 18 v_ else D_ 7 0 2 + 1))) (some (zwI 0)) (some (zwI 0)) (some (zwI 0)) (some (zwI 1)) (some (zwI 1)) (some (zwI (-1))) (some (zwI 0)) none none none none none none none none none none none) [] J_ K_ a_ Q_ := fun Q_ a_ hQ J_ K_ y_ hJ =>
    zoW hR2 hv hx2 hT2 (fun I_ L_ x20 x22 x23 hE hc_ => zo247 hR2 hv hT2 hE hc_ hQ) (L0_ 26 v_).length 0 J_ K_ 0 none none (Nat.add_zero _) hJ (fun k_ q_ hk => by simp [zchl] at hk) (Int32.le_refl _)
  have hE := zEv.rfl (I_ := I2_) (L_ := L0_)
  refine zY.go 4 rfl ?_
  refine zY.c (zq63 (k_ := 2) hR2 hv (by decide)) rfl rfl rfl rfl (Nat.le_of_ble_eq_true rfl) rfl (by decide) rfl (by decide) (Nat.zero_le _) (fun r_ J2 K2 hq => ?_)
  obtain ⟨rfl, s2_⟩ := hq
  refine ⟨_, rfl, ?_⟩
  have hE2 := hE.sq s2_
  refine zY.go 4 rfl ?_
  refine zY.c (zq63 (k_ := 0) (hE2.1.R hR2) hv (by decide)) rfl rfl rfl rfl (Nat.le_of_ble_eq_true rfl) rfl (by decide) rfl (by decide) (Nat.zero_le _) (fun r_ J3 K3 hq => ?_)
  obtain ⟨rfl, s3_⟩ := hq
  refine ⟨_, rfl, ?_⟩
  have hE3 := hE2.sq s3_
  refine zY.go 4 rfl ?_
  refine zY.c (zq63 (k_ := 1) (hE3.1.R hR2) hv (by decide)) rfl rfl rfl rfl (Nat.le_of_ble_eq_true rfl) rfl (by decide) rfl (by decide) (Nat.zero_le _) (fun r_ J4 K4 hq => ?_)
  obtain ⟨rfl, s4_⟩ := hq
  refine ⟨_, rfl, ?_⟩
  have hE4 := hE3.sq s4_
  have en := zqnow (hE4.1.R hR2)
  refine zY.go 3 rfl ?_
  refine zY.cr zm25 rfl rfl rfl rfl (Nat.le_of_ble_eq_true rfl) rfl (by decide) rfl (by decide) (Nat.zero_le _) ?_
  rw [en]
  refine zY.go 2 rfl ?_
  refine zY.bc rfl (fun hp => ?_) (fun hp => ?_)
  · refine zY.go 1 rfl ?_
    refine zY.cr zm25 rfl rfl rfl rfl (Nat.le_of_ble_eq_true rfl) rfl (by decide) rfl (by decide) (Nat.zero_le _) ?_
    rw [en]
    refine zY.go 17 rfl ?_
    have := fun a_ => go_ (zo6Q I0_ L0_ j_) a_ hQ J4 K4 (D_ 30 18 v_) hE4
    rw [if_neg (show ¬ D_ 7 0 2 + 1 < D_ 30 18 v_ from Int32.not_lt.mpr hp)] at this
    exact this _
  · refine zY.go 17 rfl ?_
    have := fun a_ => go_ (zo6Q I0_ L0_ j_) a_ hQ J4 K4 (D_ 30 18 v_) hE4
    rw [if_pos (show D_ 7 0 2 + 1 < D_ 30 18 v_ from Int32.not_le.mp hp)] at this
    exact this _
end
