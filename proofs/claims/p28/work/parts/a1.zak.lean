/-! THE CALLS: ask -/
theorem zzExtD {C_ D_ X_ K_ : zIn} {L_ Lx : zLi} {p_ N_ M_ i_ a_ b_ : Nat} {why : Int32} (h_ : zzR C_ L_ D_ p_ N_ M_) (hi_ : i_ < p_) (hM_ : M_ < 60) (ha_ : a_ < 36) (hb_ : b_ < 36)
    (hX : ∀ c_ j_ f_, (c_ = 1 ∨ c_ = 2 ∨ c_ = 4 ∨ c_ = 5 ∨ c_ = 6 ∨ (c_ = 31 ∧ j_ = 0)) → ¬ (c_ = 1 ∧ (f_ = 9 ∨ j_ = M_)) → ¬ (c_ = 4 ∧ (f_ = 3 ∨ f_ = 4 ∨ j_ / 2 = M_)) → X_ c_ j_ f_ = C_ c_ j_ f_) (hXZ : ∀ s_ ∈ zzZ C_ L_ N_, ∀ f_, X_ 4 s_ f_ = C_ 4 s_ f_)
    (hX99 : ∀ c_ j_, ¬ (c_ = 1 ∧ j_ = M_) → ¬ (c_ = 4 ∧ j_ / 2 = M_) → X_ 99 c_ j_ = C_ 99 c_ j_) (hXM : ∀ f_, ¬ f_ = 9 → ¬ f_ = 7 → X_ 1 M_ f_ = zaqI C_ M_ i_ (Int32.ofNat a_) (Int32.ofNat b_) 1 M_ f_)
    (hK_ : ∀ c_ j_ f_, (c_ = 7 ∨ c_ = 30 ∨ (c_ = 31 ∧ ¬ j_ = 0)) → ¬ (c_ = 30 ∧ (43 ≤ j_ ∧ j_ ≤ 46 ∨ j_ = 51)) → ¬ (c_ = 7 ∧ j_ = 0 ∧ (42 ≤ f_ ∧ f_ ≤ 50)) → ¬ (c_ = 30 ∧ j_ = 34 ∧ f_ = M_) → K_ c_ j_ f_ = zakZ D_ M_ (Int32.ofNat i_) (Int32.ofNat a_) (Int32.ofNat b_) c_ j_ f_)
    (hL : ∀ c_ u_, ¬ (c_ = 27 ∧ u_ < N_) → Lx c_ u_ = L_ c_ u_) : zzR (zdny X_ M_ why) (zlup Lx 22 0 (Lx 22 0 ++ [M_])) (zakE (zakD K_ M_ why)) p_ N_ (M_ + 1) := by
  obtain ⟨k1_, k2_, k3_, k4_, k5_, k6_, k7_, k8_, k9⟩ := zzakZ_is (D_ := D_) (n_ := M_) (x_ := Int32.ofNat i_) (y_ := Int32.ofNat a_) (z_ := Int32.ofNat b_)
  obtain ⟨w1_, w2_, w3_⟩ := zzdny_is (C_ := X_) (q_ := M_) (z_ := why)
  obtain ⟨u1_, u2_, u3, u4_⟩ := zzakD_is (K_ := K_) (n_ := M_) (w_ := why)
  have hp16 := h_.1.2.1
  have e22_ : Lx 22 0 = List.range M_ := (hL 22 0 (by simp)).trans h_.1.2.2.2.2.2.2.1
  have nE : ∀ c_ j_ f_, ¬ (c_ = 7 ∧ j_ = 0 ∧ f_ = 28) → zakE (zakD K_ M_ why) c_ j_ f_ = zakD K_ M_ why c_ j_ f_ := fun c_ j_ f_ hh => zset_ne hh
  have r30 : ∀ j_, 29 ≤ j_ → j_ ≤ 39 → ¬ (j_ = 32 ∨ j_ = 33 ∨ j_ = 34 ∨ j_ = 35) → zakE (zakD K_ M_ why) 30 j_ M_ = zakZ D_ M_ (Int32.ofNat i_) (Int32.ofNat a_) (Int32.ofNat b_) 30 j_ M_ := fun j_ x1_ x2_ x3 => by
    rw [nE _ _ _ (by omega), zzakD (by omega), hK_ 30 j_ M_ (by simp) (by omega) (by omega) (by omega)]
  have rM : ∀ f_, ¬ f_ = 9 → ¬ (f_ = 5 ∨ f_ = 6 ∨ f_ = 7) → zdny X_ M_ why 1 M_ f_ = zrw [Int32.ofNat i_, Int32.ofNat a_, Int32.ofNat b_, C_ 6 0 7, 10 + 4 * zstp (Int32.ofNat a_) (Int32.ofNat b_), 0, 0, -1, -1, -1, -1, -1, -1, 0, 0] f_ := fun f_ x1_ x2_ => by
    rw [zzdny (by omega), hXM f_ x1_ (by omega), zzaq_is]
  have x4_ := h_.2.2.2.2.2.2.2.2.1 M_ (Nat.le_refl _) hM_
  have d40_ : zakE (zakD K_ M_ why) 31 40 M_ = 0 := by rw [nE _ _ _ (by omega), zzakD (by omega), hK_ 31 40 M_ (by simp) (by omega) (by omega) (by omega), zzakZ (by omega)]; exact x4_.2.1
  have d41_ : zakE (zakD K_ M_ why) 31 41 M_ = 0 := by rw [nE _ _ _ (by omega), zzakD (by omega), hK_ 31 41 M_ (by simp) (by omega) (by omega) (by omega), zzakZ (by omega)]; exact x4_.2.2
  have pa : zzpc (Int32.ofNat a_) := ⟨a_, ha_, rfl⟩
  have pb : zzpc (Int32.ofNat b_) := ⟨b_, hb_, rfl⟩
  refine zzExt h_ hM_ (fun c_ j_ f_ a1_ a2 a3 => ?_) (fun s_ hs f_ => ?_) (fun c_ j_ a1_ a2 => ?_) (fun c_ j_ f_ a1_ a2 a3 a4 => ?_) ?_ ?_ (fun c_ u_ a1_ a2 a3 => ?_) ?_ ?_ w1_
  · rw [zzdny (by omega)]; exact hX c_ j_ f_ a1_ a2 a3
  · rw [zzdny (by omega)]; exact hXZ s_ hs f_
  · rw [zzdny (by omega)]; exact hX99 c_ j_ a1_ a2
  · rw [nE _ _ _ (by omega), zzakD (by omega), hK_ c_ j_ f_ a1_ a2 (by omega) (by omega), zzakZ (by omega)]
  · show zset (zakD K_ M_ why) 7 0 28 (zakD K_ M_ why 7 0 28 + 1) 7 0 28 = _
    rw [zset_is, zzakD (by omega), hK_ 7 0 28 (by simp) (by omega) (by omega) (by omega), zzakZ (by omega), h_.1.2.2.2.2.2.2.2.2.1, zisucc]
  · rw [zlup_self, e22_, List.range_succ]
  · rw [zlup_ne (by omega)]; exact hL c_ u_ a2
  · refine ⟨⟨i_, hi_, ?_, ?_⟩, ?_, ?_, ?_, ?_, ?_, ?_, ?_⟩
    · rw [rM 0 (by omega) (by omega)]; rfl
    · rw [r30 29 (by omega) (by omega) (by omega)]; exact k1_
    · rw [r30 30 (by omega) (by omega) (by omega), k2_]; exact pa
    · rw [r30 31 (by omega) (by omega) (by omega), k3_]; exact pb
    · rw [r30 30 (by omega) (by omega) (by omega), k2_, rM 1 (by omega) (by omega)]; rfl
    · rw [r30 31 (by omega) (by omega) (by omega), k3_, rM 2 (by omega) (by omega)]; rfl
    · rw [r30 30 (by omega) (by omega) (by omega), k2_, r30 31 (by omega) (by omega) (by omega), k3_, rM 4 (by omega) (by omega), ← zzstp pa pb]; rfl
    · rw [w3_, nE _ _ _ (by omega), u3]
    · rw [r30 37 (by omega) (by omega) (by omega), k6_, rM 11 (by omega) (by omega)]; rfl
  · refine ⟨?_, ?_, ?_, ?_, ?_, ?_, ?_, ?_⟩
    · rw [r30 39 (by omega) (by omega) (by omega), k4_, rM 3 (by omega) (by omega)]
      exact h_.1.2.2.2.2.2.2.2.2.2.2.1
    · rw [w1_, nE _ _ _ (by omega), u1_]
    · rw [w2_, nE _ _ _ (by omega), u2_]
    · rw [nE _ _ _ (by omega), u4_, rM 8 (by omega) (by omega)]; rfl
    · rw [r30 36 (by omega) (by omega) (by omega), k5_, rM 10 (by omega) (by omega)]; rfl
    · rw [r30 38 (by omega) (by omega) (by omega), k7_, rM 12 (by omega) (by omega)]; rfl
    · rw [d41_, rM 13 (by omega) (by omega)]
      exact ⟨fun _ => rfl, fun _ => rfl⟩
    · rw [d40_]
      unfold znos
      rw [w1_]
      exact ⟨fun e_ => absurd e_ (by rw [show decide ((6 : Int32) = 3) = false by decide, show decide ((6 : Int32) = 4) = false by decide]; simp), fun e_ => absurd rfl e_⟩
theorem zzsK {C_ D_ : zIn} {L_ : zLi} {p_ N_ M_ i_ a_ b_ : Nat} {w_ : Int32} (h_ : zzR C_ L_ D_ p_ N_ M_) (hi_ : i_ < p_) (hM_ : M_ < 60) (ha_ : a_ < 36) (hb_ : b_ < 36) : zPk (zakZ D_ M_ (Int32.ofNat i_) (Int32.ofNat a_) (Int32.ofNat b_)) N_ (fun v_ => L_ 24 v_) (fun v_ => (zchl C_ (L_ 26 v_)).length) M_ ∧ zzco (zask C_ L_ M_ i_ (Int32.ofNat a_) (Int32.ofNat b_) w_).1 C_ ∧ zzmo (zakM D_ M_ i_ (Int32.ofNat a_) (Int32.ofNat b_) w_ N_ (fun v_ => L_ 24 v_) (fun v_ => (zchl C_ (L_ 26 v_)).length)) D_ ∧ zakM D_ M_ i_ (Int32.ofNat a_) (Int32.ofNat b_) w_ N_ (fun v_ => L_ 24 v_) (fun v_ => (zchl C_ (L_ 26 v_)).length) 7 0 0 = D_ 7 0 0 ∧ zzR (zask C_ L_ M_ i_ (Int32.ofNat a_) (Int32.ofNat b_) w_).1 (zask C_ L_ M_ i_ (Int32.ofNat a_) (Int32.ofNat b_) w_).2 (zakM D_ M_ i_ (Int32.ofNat a_) (Int32.ofNat b_) w_ N_ (fun v_ => L_ 24 v_) (fun v_ => (zchl C_ (L_ 26 v_)).length)) p_ N_ (M_ + 1) := by
  have pa : zzpc (Int32.ofNat a_) := ⟨a_, ha_, rfl⟩
  have pb : zzpc (Int32.ofNat b_) := ⟨b_, hb_, rfl⟩
  have hp16 := h_.1.2.1
  have hN4 := h_.1.2.2.2.2.1
  have e22_ : L_ 22 0 = List.range M_ := h_.1.2.2.2.2.2.2.1
  have s24 : ∀ v_, v_ < N_ → ∀ s_ ∈ L_ 24 v_, ¬ s_ / 2 = M_ := fun v_ hv s_ hs => by have := ((h_.2.2.2.1 v_ hv).2.2.2.2.2.1 s_ hs).1; omega
  have s25 : ∀ v_, v_ < N_ → ∀ s_ ∈ L_ 25 v_, ¬ s_ / 2 = M_ := fun v_ hv s_ hs => by have := ((h_.2.2.2.1 v_ hv).2.2.2.2.2.2.2.2.2.1 s_ hs).1; omega
  have s26 : ∀ v_, v_ < N_ → ∀ q_ ∈ L_ 26 v_, q_ < M_ := fun v_ hv q_ hq => ((h_.2.2.2.1 v_ hv).2.2.2.2.2.2.1 q_ hq).1
  have sZ : ∀ s_ ∈ zzZ C_ L_ N_, ¬ s_ / 2 = M_ := fun s_ hs => by
    obtain ⟨v_, hv, _, h0⟩ := zzZ_mem.mp hs
    exact s24 v_ hv s_ (List.mem_of_getElem? h0)
  obtain ⟨k1_, k2_, k3_, k4_, k5_, k6_, k7_, k8_, k9⟩ := zzakZ_is (D_ := D_) (n_ := M_) (x_ := Int32.ofNat i_) (y_ := Int32.ofNat a_) (z_ := Int32.ofNat b_)
  obtain ⟨p1_, p2_, p3_, p4_⟩ := zzps_is (C_ := zaqI C_ M_ i_ (Int32.ofNat a_) (Int32.ofNat b_)) (q_ := M_)
  generalize hDb : zakZ D_ M_ (Int32.ofNat i_) (Int32.ofNat a_) (Int32.ofNat b_) = Db at *
  have nDb : ∀ c_ j_ f_, ¬ (c_ = 30 ∧ 29 ≤ j_ ∧ j_ ≤ 39 ∧ f_ = M_) → Db c_ j_ f_ = D_ c_ j_ f_ := fun c_ j_ f_ hh => by rw [← hDb]; exact zzakZ hh
  generalize hCa : zaqI C_ M_ i_ (Int32.ofNat a_) (Int32.ofNat b_) = Ca at *
  have nCa : ∀ c_ j_ f_, ¬ (c_ = 1 ∧ j_ = M_) → ¬ (c_ = 99 ∧ j_ = 1 ∧ f_ = M_) → Ca c_ j_ f_ = C_ c_ j_ f_ := fun c_ j_ f_ h1 h2 => by rw [← hCa]; exact zzaq h1 h2
  have rCa : ∀ f_, Ca 1 M_ f_ = zrw [Int32.ofNat i_, Int32.ofNat a_, Int32.ofNat b_, C_ 6 0 7, 10 + 4 * zstp (Int32.ofNat a_) (Int32.ofNat b_), 0, 0, -1, -1, -1, -1, -1, -1, 0, 0] f_ := fun f_ => by rw [← hCa]; exact zzaq_is
  generalize hCb : zps Ca M_ = Cb at *
  have nCb : ∀ c_ j_ f_, ¬ (c_ = 4 ∧ j_ / 2 = M_) → ¬ (c_ = 99 ∧ j_ = 4 ∧ f_ / 2 = M_) → Cb c_ j_ f_ = Ca c_ j_ f_ := fun c_ j_ f_ h1 h2 => by rw [← hCb]; exact zzps h1 h2
  have nC2 : ∀ c_ j_ f_, ¬ (c_ = 1 ∧ j_ = M_) → ¬ (c_ = 4 ∧ j_ / 2 = M_) → ¬ (c_ = 99 ∧ (j_ = 1 ∧ f_ = M_ ∨ j_ = 4 ∧ f_ / 2 = M_)) → Cb c_ j_ f_ = C_ c_ j_ f_ := fun c_ j_ f_ h1 h2 h3 => by rw [nCb c_ j_ f_ h2 (by omega), nCa c_ j_ f_ h1 (by omega)]
  have rCb : ∀ f_, Cb 1 M_ f_ = zrw [Int32.ofNat i_, Int32.ofNat a_, Int32.ofNat b_, C_ 6 0 7, 10 + 4 * zstp (Int32.ofNat a_) (Int32.ofNat b_), 0, 0, -1, -1, -1, -1, -1, -1, 0, 0] f_ := fun f_ => by rw [nCb 1 M_ f_ (by simp) (by simp), rCa]
  have zZ : zzZ Cb L_ N_ = zzZ C_ L_ N_ := by
    unfold zzZ
    congr 1
    funext v_
    rw [nC2 5 v_ 10 (by simp) (by simp) (by simp)]
  have hch : ∀ v_, v_ < N_ → zchl Cb (L_ 26 v_) = zchl C_ (L_ 26 v_) := fun v_ hv => zzfchlm (fun q_ hq => by
    have hq2 := s26 v_ hv q_ hq
    unfold zchr
    rw [nC2 1 q_ 0 (by omega) (by simp) (by simp), nC2 2 _ 0 (by simp) (by simp) (by simp)])
  have hN0 : ∀ z_, zzN0 (zset Cb 1 M_ 7 z_) L_ (zset Db 30 34 M_ z_) p_ N_ M_ := fun z_ => by
    refine ⟨hM_, hp16, hN4, fun j_ hj => (h_.2.1 j_ hj).ix (fun f_ => by rw [zset_ne (by simp)]; exact nC2 2 j_ f_ (by simp) (by simp) (by simp)) (by rw [zset_ne (by simp)]; exact nDb _ _ _ (by omega)) (by rw [zset_ne (by simp)]; exact nDb _ _ _ (by omega)) (by rw [zset_ne (by simp)]; exact nDb _ _ _ (by omega)) (by rw [zset_ne (by simp)]; exact nDb _ _ _ (by omega)), ?_, ?_, ?_, ?_, fun v_ hv => ⟨s24 v_ hv, fun hm_ => absurd (s26 v_ hv M_ hm_) (by omega)⟩⟩
    · unfold zzRb
      rw [zset_is, zset_is, zset_ne (by simp), zset_ne (by simp), zset_ne (by simp), zset_ne (by simp), zset_ne (by simp), zset_ne (by simp), zset_ne (by simp), zset_ne (by simp), zset_ne (by simp), k1_, k2_, k3_, k6_, rCb, rCb, rCb, rCb, rCb]
      refine ⟨⟨i_, hi_, rfl, rfl⟩, pa, pb, rfl, rfl, ?_, rfl, rfl⟩
      rw [← zzstp pa pb]; rfl
    · rw [zset_ne (by simp), zset_ne (by simp), p1_, rCa, rCb]
    · rw [zset_ne (by simp), zset_ne (by simp), p2_, rCa, rCb]
    · rw [zset_ne (by simp), rCb]; rfl
  have hQ : ∀ z_, ∀ v_, v_ < N_ → zzQ (zset Cb 1 M_ 7 z_) L_ (zset Db 30 34 M_ z_) v_ := fun z_ v_ hv => by
    refine zzQ.cg1 (r_ := M_) (zzQ_of h_ hv) (fun c_ j_ f_ hc_ => ?_) (fun j_ f_ h1 h2 => ?_) (fun j_ f_ hj => ?_) (s24 v_ hv) (fun q_ hq => by have := s26 v_ hv q_ hq; omega)
    · rw [zset_ne (by omega)]; exact nC2 c_ j_ f_ (by omega) (by omega) (by omega)
    · rw [zset_ne (by omega)]; exact nDb 30 j_ f_ (by omega)
    · rw [zset_ne (by omega)]; exact nDb 31 j_ f_ (by omega)
  have hBs : zzBs Cb L_ Db p_ N_ M_ (D_ 7 0 2) := by
    refine ⟨(nDb 7 0 2 (by simp)).symm, ?_, h_.1.2.2.2.1, fun z_ => ⟨hN0 z_, hQ z_⟩⟩
    rw [nC2 6 0 8 (by simp) (by simp) (by simp)]
    exact h_.1.2.2.2.2.2.2.2.2.2.1
  have hPk : zPk Db N_ (fun v_ => L_ 24 v_) (fun v_ => (zchl C_ (L_ 26 v_)).length) M_ := by
    have h1 := zzPk_of (hN0 0) (hQ 0) (by rw [zset_ne (by simp), nDb 7 0 11 (by simp)]; exact h_.1.2.2.2.2.2.1)
    have h2 : zPk Db N_ (fun v_ => L_ 24 v_) (fun v_ => (zchl (zset Cb 1 M_ 7 0) (L_ 26 v_)).length) M_ := zfw.pk (fun c_ j_ f_ a1_ a2 a3 => (zset_ne (fun e_ => a3 ⟨e_.1, e_.2.1⟩)).symm) h1
    refine ⟨h2.1, h2.2.1, fun v_ hv => ?_, h2.2.2.2⟩
    have h3 := h2.2.2.1 v_ hv
    have e_ : zchl (zset Cb 1 M_ 7 0) (L_ 26 v_) = zchl C_ (L_ 26 v_) := (zzfchl (fun q_ => by unfold zchr; rw [zset_ne (by simp), zset_ne (by simp)]) _).trans (hch v_ hv)
    show zLok Db v_ (L_ 24 v_) M_ (zchl C_ (L_ 26 v_)).length
    rw [← e_]
    exact h3
  have hchA : ∀ v_, zchl Cb (L_ 26 v_) = zchl C_ (L_ 26 v_) := fun v_ => by
    rcases Nat.lt_or_ge v_ N_ with hv | hv
    · exact hch v_ hv
    · exact zzfchlm (fun q_ hq => by
        rw [(h_.2.2.2.2.2.2.2.1 v_ hv).2.2.2.2.2.2.2.2.1] at hq
        exact absurd hq (List.not_mem_nil))
  have hmN2 : (fun v_ => (zchl Cb (L_ 26 v_)).length) = (fun v_ => (zchl C_ (L_ 26 v_)).length) := funext (fun v_ => congrArg List.length (hchA v_))
  have hPr := zzPr (w_ := w_) hBs
  rw [hmN2] at hPr
  have hzo : zowd Ca i_ (Int32.ofNat a_) (Int32.ofNat b_) = zowM D_ i_ (Int32.ofNat a_) (Int32.ofNat b_) := by
    rw [zzowd_cg (C_ := C_) (fun f_ => nCa 31 0 f_ (by simp) (by simp)) (nCa 6 0 6 (by simp) (by simp)) (fun f_ => nCa 2 i_ f_ (by simp) (by simp))]
    exact zzow h_ hi_ pa pb
  have hzs : zsus Ca L_ i_ = zsuM D_ i_ M_ := by
    rw [zzsus_cg (C_ := C_) (fun q_ hq f_ _ => nCa 1 q_ f_ (by rw [e22_, List.mem_range] at hq; omega) (by simp)) (nCa 6 0 7 (by simp) (by simp))]
    exact zzsus h_ hi_
  have coA : ∀ z_, zzco (zdny Ca M_ z_) C_ := fun z_ c_ j_ f_ hc_ => by rw [zzdny (by omega)]; exact nCa c_ j_ f_ (by omega) (by omega)
  have moE : ∀ K_, (∀ c_ j_ f_, ¬ (c_ = 30 ∧ (43 ≤ j_ ∧ j_ ≤ 46)) → ¬ (c_ = 7 ∧ j_ = 0 ∧ (42 ≤ f_ ∧ f_ ≤ 50)) → ¬ (c_ = 30 ∧ j_ = 34 ∧ f_ = M_) → K_ c_ j_ f_ = Db c_ j_ f_) → ∀ z_, zzmo (zakE (zakD K_ M_ z_)) D_ ∧ zakE (zakD K_ M_ z_) 7 0 0 = D_ 7 0 0 := fun K_ hK_ z_ => by
    refine ⟨fun c_ j_ f_ hc_ => ?_, ?_⟩
    · show zset _ 7 0 28 _ c_ j_ f_ = _
      rw [zset_ne (by omega), zzakD (by omega), hK_ c_ j_ f_ (by omega) (by omega) (by omega), nDb c_ j_ f_ (by omega)]
    · show zset _ 7 0 28 _ 7 0 0 = _
      rw [zset_ne (by simp), zzakD (by simp), hK_ 7 0 0 (by simp) (by simp) (by simp), nDb 7 0 0 (by simp)]
  have exA_ : ∀ z_, zzR (zdny Ca M_ z_) (zlup L_ 22 0 (L_ 22 0 ++ [M_])) (zakE (zakD Db M_ z_)) p_ N_ (M_ + 1) := fun z_ => zzExtD h_ hi_ hM_ ha_ hb_ (fun c_ j_ f_ a1_ a2 a3 => nCa c_ j_ f_ (by omega) (by omega)) (fun s_ hs f_ => nCa 4 s_ f_ (by simp) (by simp)) (fun c_ j_ a1_ a2 => nCa 99 c_ j_ (by simp) (by omega)) (fun f_ _ _ => by rw [hCa]) (fun c_ j_ f_ _ _ _ _ => by rw [hDb]) (fun _ _ _ => rfl)
  refine ⟨hPk, ?_⟩
  unfold zask zas1 zakM
  simp only [hCa, hDb, hCb, hzo, hzs]
  cases ho : zowM D_ i_ (Int32.ofNat a_) (Int32.ofNat b_) with
  | false =>
    simp only [if_true, if_false, Bool.false_eq_true]
    exact ⟨coA 1, (moE Db (fun _ _ _ _ _ _ => rfl) 1).1, (moE Db (fun _ _ _ _ _ _ => rfl) 1).2, exA_ 1⟩
  | true =>
    cases hsu : zsuM D_ i_ M_ with
    | true =>
      simp only [if_true, if_false, Bool.true_eq_false]
      exact ⟨coA 2, (moE Db (fun _ _ _ _ _ _ => rfl) 2).1, (moE Db (fun _ _ _ _ _ _ => rfl) 2).2, exA_ 2⟩
    | false =>
      simp only [if_true, if_false, Bool.true_eq_false, Bool.false_eq_true]
      generalize hA : zprl M_ w_ 13 0 Cb L_ = A_ at *
      generalize hB_ : zpNA Db N_ (fun v_ => L_ 24 v_) (fun v_ => (zchl C_ (L_ 26 v_)).length) M_ w_ = B_ at *
      rcases hPr with ⟨q1_, q2_, y0, y1, f1_, f2_, f3_⟩ | ⟨q1_, q2_, z_, b', pp, d_, J0, g1, g2, g3_, g4, g5_, g6, g7, g8, g9, g10, g11, g12, g13, g14⟩
      · simp only [q1_, q2_, Bool.false_eq_true, if_false]
        rw [zZ] at f1_
        have hX : ∀ c_ j_ f_, (c_ = 1 ∨ c_ = 2 ∨ c_ = 4 ∨ c_ = 5 ∨ c_ = 6 ∨ (c_ = 31 ∧ j_ = 0)) → ¬ (c_ = 1 ∧ (f_ = 9 ∨ j_ = M_)) → ¬ (c_ = 4 ∧ (f_ = 3 ∨ f_ = 4 ∨ j_ / 2 = M_)) → A_.2.1 c_ j_ f_ = C_ c_ j_ f_ := fun c_ j_ f_ a1_ a2 a3 => by
          rw [f1_.1 c_ j_ f_ ⟨by omega, by omega, by omega, by omega⟩, zset_ne (by omega), nC2 c_ j_ f_ (by omega) (by omega) (by omega)]
        have hXM : ∀ f_, ¬ f_ = 9 → ¬ f_ = 7 → A_.2.1 1 M_ f_ = zaqI C_ M_ i_ (Int32.ofNat a_) (Int32.ofNat b_) 1 M_ f_ := fun f_ a1_ a2 => by
          rw [hCa, f1_.1 1 M_ f_ ⟨by omega, by omega, by omega, by omega⟩, zset_ne (by omega), nCb 1 M_ f_ (by simp) (by simp)]
        have hK_ : ∀ c_ j_ f_, ¬ (c_ = 30 ∧ (43 ≤ j_ ∧ j_ ≤ 46)) → ¬ (c_ = 7 ∧ j_ = 0 ∧ (42 ≤ f_ ∧ f_ ≤ 50)) → ¬ (c_ = 30 ∧ j_ = 34 ∧ f_ = M_) → B_.2 c_ j_ f_ = Db c_ j_ f_ := fun c_ j_ f_ a1_ a2 a3 => by
          rw [f3_ c_ j_ f_ (by omega) (by omega), zset_ne a3]
        refine ⟨fun c_ j_ f_ hc_ => ?_, (moE B_.2 hK_ 3).1, (moE B_.2 hK_ 3).2, ?_⟩
        · rw [zzdny (by omega), f1_.1 c_ j_ f_ ⟨by omega, by omega, by omega, by omega⟩, zset_ne (by omega), nC2 c_ j_ f_ (by omega) (by omega) (by omega)]
        · exact zzExtD h_ hi_ hM_ ha_ hb_ hX (fun s_ hs f_ => by rw [f1_.2 s_ hs f_, zset_ne (by simp), nC2 4 s_ f_ (by simp) (by simp [sZ s_ hs]) (by simp)]) (fun c_ j_ a1_ a2 => by rw [f1_.1 99 c_ j_ ⟨by omega, by omega, by omega, by omega⟩, zset_ne (by simp), nC2 99 c_ j_ (by simp) (by simp) (by omega)]) hXM (fun c_ j_ f_ a1_ a2 a3 a4 => by rw [hDb]; exact hK_ c_ j_ f_ (by omega) a3 a4) f2_
      · simp only [q1_, q2_, if_true]
        rw [zZ] at g10
        have hX0 : ∀ c_ j_ f_, ¬ c_ = 0 → ¬ c_ = 3 → ¬ (c_ = 1 ∧ (f_ = 9 ∨ j_ = M_)) → ¬ (c_ = 4 ∧ (f_ = 3 ∨ f_ = 4 ∨ j_ / 2 = M_)) → ¬ (c_ = 99 ∧ (j_ = 1 ∧ f_ = M_ ∨ j_ = 4 ∧ f_ / 2 = M_)) → A_.2.1 c_ j_ f_ = C_ c_ j_ f_ := fun c_ j_ f_ a0_ a1_ a2 a3 a4 => by
          rw [g10.1 c_ j_ f_ ⟨a0_, a1_, by omega, by omega⟩, zset_ne (by omega), zset_ne (by omega), nC2 c_ j_ f_ (by omega) (by omega) (by omega)]
        have hXZ : ∀ s_ ∈ zzZ C_ L_ N_, ∀ f_, A_.2.1 4 s_ f_ = C_ 4 s_ f_ := fun s_ hs f_ => by rw [g10.2 s_ hs f_, zset_ne (by simp), zset_ne (by simp), nC2 4 s_ f_ (by simp) (by simp [sZ s_ hs]) (by simp)]
        have x7 : A_.2.1 1 M_ 7 = z_ := by rw [g10.1 1 M_ 7 ⟨by omega, by omega, by omega, by omega⟩, zset_ne (by simp), zset_is]
        have x8 : A_.2.1 1 M_ 8 = Int32.ofNat b' := by rw [g10.1 1 M_ 8 ⟨by omega, by omega, by omega, by omega⟩, zset_is]
        have xM : ∀ f_, ¬ f_ = 9 → ¬ f_ = 7 → ¬ f_ = 8 → A_.2.1 1 M_ f_ = zrw [Int32.ofNat i_, Int32.ofNat a_, Int32.ofNat b_, C_ 6 0 7, 10 + 4 * zstp (Int32.ofNat a_) (Int32.ofNat b_), 0, 0, -1, -1, -1, -1, -1, -1, 0, 0] f_ := fun f_ a1_ a2 a3 => by
          rw [g10.1 1 M_ f_ ⟨by omega, by omega, by omega, by omega⟩, zset_ne (by omega), zset_ne (by omega), rCb]
        have x4_ : ∀ t_ f_, ¬ (f_ = 3 ∨ f_ = 4) → A_.2.1 4 t_ f_ = Cb 4 t_ f_ := fun t_ f_ hf => by rw [g10.1 4 t_ f_ ⟨by omega, by omega, by omega, by omega⟩, zset_ne (by simp), zset_ne (by simp)]
        have x5_ : A_.2.1 1 M_ 5 = 0 := by rw [xM 5 (by omega) (by omega) (by omega)]; rfl
        have nK : ∀ c_ j_ f_, ¬ (c_ = 30 ∧ 43 ≤ j_ ∧ j_ ≤ 46) → ¬ (c_ = 7 ∧ j_ = 0 ∧ 42 ≤ f_ ∧ f_ ≤ 50) → ¬ (c_ = 30 ∧ j_ = 26 ∧ 16 * b' ≤ f_ ∧ f_ < 16 * b' + 16) → ¬ (c_ = 30 ∧ j_ = 27 ∧ f_ = b') → ¬ (c_ = 30 ∧ j_ = 35 ∧ f_ = M_) → ¬ (c_ = 30 ∧ j_ = 34 ∧ f_ = M_) → B_.2 c_ j_ f_ = Db c_ j_ f_ := fun c_ j_ f_ a1_ a2 a3 a4 a5 a6 => by
          rw [g14, zzpuW g8 a1_ a2 a3 a4 a5, g13 c_ j_ f_ (by omega) (by omega), zset_ne a6]
        have e28_ : B_.2 7 0 28 + 1 = Int32.ofNat (M_ + 1) := by
          rw [nK 7 0 28 (by simp) (by simp) (by simp) (by simp) (by simp) (by simp), nDb 7 0 28 (by simp), h_.1.2.2.2.2.2.2.2.2.1, zisucc]
        have mo1 : zzmo (zakE B_.2) D_ := fun c_ j_ f_ hc_ => by
          show zset _ 7 0 28 _ c_ j_ f_ = _
          rw [zset_ne (by omega), nK c_ j_ f_ (by omega) (by omega) (by omega) (by omega) (by omega) (by omega), nDb c_ j_ f_ (by omega)]
        have th0 : zakE B_.2 7 0 0 = D_ 7 0 0 := by
          show zset _ 7 0 28 _ 7 0 0 = _
          rw [zset_ne (by simp), nK 7 0 0 (by simp) (by simp) (by simp) (by simp) (by simp) (by simp), nDb 7 0 0 (by simp)]
        refine ⟨fun c_ j_ f_ hc_ => hX0 c_ j_ f_ (by omega) (by omega) (by omega) (by omega) (by omega), mo1, th0, ?_⟩
        have hnD : ∀ c_ j_ f_, ¬ (c_ = 30 ∧ (j_ = 34 ∨ j_ = 32 ∨ j_ = 35) ∧ f_ = M_) → ¬ (c_ = 7 ∧ j_ = 0 ∧ f_ = 28) → zset (zset (zset (zset Db 30 34 M_ z_) 30 32 M_ 6) 30 35 M_ (Int32.ofNat b')) 7 0 28 (Int32.ofNat (M_ + 1)) c_ j_ f_ = Db c_ j_ f_ := fun c_ j_ f_ a1_ a2 => by
          rw [zset_ne a2, zset_ne (by omega), zset_ne (by omega), zset_ne (by omega)]
        have hD34 : zset (zset (zset (zset Db 30 34 M_ z_) 30 32 M_ 6) 30 35 M_ (Int32.ofNat b')) 7 0 28 (Int32.ofNat (M_ + 1)) 30 34 M_ = z_ := by
          rw [zset_ne (by simp), zset_ne (by simp), zset_ne (by simp), zset_is]
        have hD32 : zset (zset (zset (zset Db 30 34 M_ z_) 30 32 M_ 6) 30 35 M_ (Int32.ofNat b')) 7 0 28 (Int32.ofNat (M_ + 1)) 30 32 M_ = 6 := by
          rw [zset_ne (by simp), zset_ne (by simp), zset_is]
        have hD35 : zset (zset (zset (zset Db 30 34 M_ z_) 30 32 M_ 6) 30 35 M_ (Int32.ofNat b')) 7 0 28 (Int32.ofNat (M_ + 1)) 30 35 M_ = Int32.ofNat b' := by
          rw [zset_ne (by simp), zset_is]
        have xf := h_.2.2.2.2.2.2.2.2.1 M_ (Nat.le_refl _) hM_
        have hC6 : ∀ f_, ¬ f_ = 5 → zset A_.2.1 1 M_ 5 6 1 M_ f_ = A_.2.1 1 M_ f_ := fun f_ hf => zset_ne (by simp [hf])
        have hE : zzR (zset A_.2.1 1 M_ 5 6) (zlup L_ 22 0 (L_ 22 0 ++ [M_])) (zset (zset (zset (zset Db 30 34 M_ z_) 30 32 M_ 6) 30 35 M_ (Int32.ofNat b')) 7 0 28 (Int32.ofNat (M_ + 1))) p_ N_ (M_ + 1) := by
          refine zzExt h_ hM_ (fun c_ j_ f_ a1_ a2 a3 => by rw [zset_ne (by omega)]; exact hX0 c_ j_ f_ (by omega) (by omega) a2 a3 (by omega)) (fun s_ hs f_ => by rw [zset_ne (by simp)]; exact hXZ s_ hs f_) (fun c_ j_ a1_ a2 => by rw [zset_ne (by simp)]; exact hX0 99 c_ j_ (by omega) (by omega) (by omega) (by omega) (by omega)) (fun c_ j_ f_ a1_ a2 a3 a4 => by rw [hnD c_ j_ f_ (by omega) (by omega)]; exact nDb c_ j_ f_ (by omega)) zset_is (by rw [zlup_self, e22_, List.range_succ]) (fun c_ u_ a1_ a2 a3 => zlup_ne a3) ?_ ?_ zset_is
          · unfold zzRb
            rw [hD34, hnD 30 29 M_ (by omega) (by omega), hnD 30 30 M_ (by omega) (by omega), hnD 30 31 M_ (by omega) (by omega), hnD 30 37 M_ (by omega) (by omega), k1_, k2_, k3_, k6_, hC6 0 (by omega), hC6 1 (by omega), hC6 2 (by omega), hC6 4 (by omega), hC6 7 (by omega), hC6 11 (by omega), x7, xM 0 (by omega) (by omega) (by omega), xM 1 (by omega) (by omega) (by omega), xM 2 (by omega) (by omega) (by omega), xM 4 (by omega) (by omega) (by omega), xM 11 (by omega) (by omega) (by omega)]
            refine ⟨⟨i_, hi_, rfl, rfl⟩, pa, pb, rfl, rfl, ?_, rfl, rfl⟩
            rw [← zzstp pa pb]; rfl
          · have hz : znos (zset A_.2.1 1 M_ 5 6 1 M_) = false := by
              unfold znos
              rw [zset_is]
              rw [show decide ((6 : Int32) = 3) = false by decide, show decide ((6 : Int32) = 4) = false by decide]; rfl
            unfold zzRc
            rw [hz, hD32, hD35, zset_is, hnD 30 39 M_ (by omega) (by omega), hnD 30 33 M_ (by omega) (by omega), hnD 30 36 M_ (by omega) (by omega), hnD 30 38 M_ (by omega) (by omega), hnD 31 41 M_ (by omega) (by omega), hnD 31 40 M_ (by omega) (by omega), k4_, k9, k5_, k7_, nDb 31 41 M_ (by omega), nDb 31 40 M_ (by omega), xf.1, xf.2.1, xf.2.2, hC6 3 (by omega), hC6 6 (by omega), hC6 8 (by omega), hC6 10 (by omega), hC6 12 (by omega), hC6 13 (by omega), x8, xM 3 (by omega) (by omega) (by omega), xM 6 (by omega) (by omega) (by omega), xM 10 (by omega) (by omega) (by omega), xM 12 (by omega) (by omega) (by omega), xM 13 (by omega) (by omega) (by omega)]
            refine ⟨h_.1.2.2.2.2.2.2.2.2.2.2.1, rfl, rfl, rfl, rfl, rfl, ⟨fun _ => rfl, fun _ => rfl⟩, ⟨fun e_ => absurd e_ (by decide), fun e_ => absurd rfl e_⟩⟩
        have nl : ∀ c_ u_, ¬ (c_ = 22 ∧ u_ = 0) → zlup L_ 22 0 (L_ 22 0 ++ [M_]) c_ u_ = L_ c_ u_ := fun c_ u_ hh => zlup_ne hh
        have hCX : zset (zset (zset A_.2.1 1 M_ 5 6) 1 M_ 5 0) 1 M_ 8 (Int32.ofNat b') = A_.2.1 := by
          rw [zzset2]
          have e1_ : zset A_.2.1 1 M_ 5 0 = A_.2.1 := by
            have := zzset_id (I_ := A_.2.1) (c_ := 1) (i_ := M_) (f_ := 5)
            rw [x5_] at this
            exact this
          rw [e1_]
          have := zzset_id (I_ := A_.2.1) (c_ := 1) (i_ := M_) (f_ := 8)
          rw [x8] at this
          exact this
        refine zzIns (b_ := b') (i_ := pp) (d_ := d_) hE (by omega) zset_is (by rw [hC6 11 (by omega), xM 11 (by omega) (by omega) (by omega)]; rfl) (by rw [zset_ne (by simp), x4_ _ _ (by omega), p1_, hC6 1 (by omega), rCa, xM 1 (by omega) (by omega) (by omega)]) (by rw [zset_ne (by simp), x4_ _ _ (by omega), p2_, hC6 2 (by omega), rCa, xM 2 (by omega) (by omega) (by omega)]) (by rw [zset_ne (by simp), x4_ _ _ (by omega), p3_]) (by rw [zset_ne (by simp), x4_ _ _ (by omega), p4_]) (fun v_ hv => ⟨by rw [nl 24 v_ (by simp)]; exact s24 v_ hv, by rw [nl 26 v_ (by simp)]; exact fun hm_ => absurd (s26 v_ hv M_ hm_) (by omega), by rw [nl 25 v_ (by simp)]; exact s25 v_ hv⟩) g3_ ?_ (by rw [nl 24 b' (by simp)]; exact g5_) g6 (by rw [nl 24 b' (by simp)]; exact g7) (by rw [nl 24 b' (by simp)]; exact g8) ?_ (by rw [hCX]; exact zzn.rfl) ?_ (fun c_ u_ a1_ a2 a3 => ?_) (fun c_ j_ f_ a1_ a2 a3 a4 a5 a6 => ?_) ?_ ?_ ?_
        · unfold zlkF at g4 ⊢
          rw [hnD 31 19 b' (by omega) (by omega)]
          exact g4
        · rw [nl 24 b' (by simp), nl 26 b' (by simp)]
          have hu : zzu (zset (zset (zset (zset Db 30 34 M_ z_) 30 32 M_ 6) 30 35 M_ (Int32.ofNat b')) 7 0 28 (Int32.ofNat (M_ + 1))) (zset Db 30 34 M_ z_) := by
            refine ⟨fun j_ f_ hj => ?_, fun f_ => ⟨?_, ?_⟩, ?_⟩
            · rw [zset_ne (by omega), zset_ne (by omega), zset_ne (by omega)]
            · rw [zset_ne (by omega), zset_ne (by omega), zset_ne (by omega)]
            · rw [zset_ne (by omega), zset_ne (by omega), zset_ne (by omega)]
            · rw [zset_ne (by omega), zset_ne (by omega), zset_ne (by omega)]
          have hcc : zchl (zset A_.2.1 1 M_ 5 6) (L_ 26 b') = zchl Cb (L_ 26 b') := zzfchlm (fun q_ hq => by
            have hq2 := s26 b' g3_ q_ hq
            unfold zchr
            rw [zset_ne (by simp), zset_ne (by simp), hX0 1 q_ 0 (by simp) (by simp) (by omega) (by simp) (by simp), hX0 2 _ 0 (by simp) (by simp) (by simp) (by simp) (by simp), nC2 1 q_ 0 (by omega) (by simp) (by simp), nC2 2 _ 0 (by simp) (by simp) (by simp)])
          rw [hu.rt, hcc]
          exact g9
        · rw [zlup_ne (by simp), nl 24 b' (by simp)]; exact g11
        · by_cases e_ : c_ = 22 ∧ u_ = 0
          · obtain ⟨rfl, rfl⟩ := e_
            rw [zlup_self, zlup_self, g12 22 0 (by simp) (by simp)]
          · rw [zlup_ne e_, zlup_ne e_]
            exact g12 c_ u_ a2 a3
        · by_cases e_ : c_ = 7 ∧ j_ = 0 ∧ f_ = 28
          · obtain ⟨rfl, rfl, rfl⟩ := e_
            show zset _ 7 0 28 _ 7 0 28 = _
            rw [zset_is, zset_is]; exact e28_
          · show zset _ 7 0 28 _ c_ j_ f_ = _
            rw [zset_ne e_]
            by_cases e2_ : c_ = 30 ∧ j_ = 34 ∧ f_ = M_
            · obtain ⟨rfl, rfl, rfl⟩ := e2_
              rw [hD34, g14, zzpuW g8 (by omega) (by omega) (by omega) (by omega) (by omega), g13 30 34 f_ (by simp) (by simp), zset_is]
            · rw [hnD c_ j_ f_ (by omega) (by omega), nK c_ j_ f_ (by omega) (by omega) a4 a5 (by omega) e2_]
        · show zset _ 7 0 28 _ 30 32 M_ = _
          rw [zset_ne (by simp), nK 30 32 M_ (by omega) (by omega) (by omega) (by omega) (by omega) (by omega)]
          exact k8_
        · show zset _ 7 0 28 _ 30 35 M_ = _
          rw [zset_ne (by simp), g14]
          unfold zpuW
          rw [zset_is]
        · rw [nl 24 b' (by simp)]
          have hroJ : zRo J0 b' (L_ 24 b') := g13.ro ((zzQ_of h_ g3_).1.2.2.2.2.2.1.ix (by rw [zset_ne (by simp)]; exact nDb _ _ _ (by omega)) (fun k_ _ => by rw [zset_ne (by simp)]; exact nDb _ _ _ (by omega)))
          have := zzpuW_ro (r_ := M_) (R_ := fun v_ => L_ 24 v_) hroJ hM_ g5_ g7 g8
          rw [g14]
          show zRo (zakE _) b' _
          exact this.ix (by show zset _ 7 0 28 _ 30 27 b' = _; exact zset_ne (by simp)) (fun k_ _ => by show zset _ 7 0 28 _ 30 26 _ = _; exact zset_ne (by simp))

