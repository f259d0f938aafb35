/-! THE CALLS: cancel; a request is taken out, put in, added -/
/-- a request that is in no route, put into one -/
theorem zzIns {C_ C'_ D_ D' : zIn} {L_ L' : zLi} {p_ N_ M_ b_ i_ d_ r_ : Nat} (h_ : zzR C_ L_ D_ p_ N_ M_) (hr : r_ < M_) (hst : C_ 1 r_ 5 = 6) (h11 : C_ 1 r_ 11 = -1) (h4a : C_ 4 (2 * r_) 2 = C_ 1 r_ 1) (h4b : C_ 4 (2 * r_ + 1) 2 = C_ 1 r_ 2) (h45a : C_ 4 (2 * r_) 5 = 0) (h45b : C_ 4 (2 * r_ + 1) 5 = 0) (hnr : ∀ w_, w_ < N_ → (∀ s_ ∈ L_ 24 w_, ¬ s_ / 2 = r_) ∧ ¬ r_ ∈ L_ 26 w_ ∧ ∀ s_ ∈ L_ 25 w_, ¬ s_ / 2 = r_) (hb_ : b_ < N_) (hf : zlkF D_ b_ ≤ i_) (hi_ : i_ ≤ (L_ 24 b_).length) (hid_ : i_ < d_) (hd_ : d_ ≤ (L_ 24 b_).length + 1) (h14 : (L_ 24 b_).length ≤ 14) (hrt : zzrt D_ b_ (zlkL (L_ 24 b_) r_ i_ d_) (zchl C_ (L_ 26 b_)) = true)
    (hC : zzn C'_ (zset (zset C_ 1 r_ 5 0) 1 r_ 8 (Int32.ofNat b_)) (zzZ C_ L_ N_)) (hL24 : L' 24 b_ = zlkL (L_ 24 b_) r_ i_ d_) (hL : ∀ c_ u_, ¬ c_ = 23 → ¬ (c_ = 27 ∧ u_ < N_) → ¬ (c_ = 24 ∧ u_ = b_) → L' c_ u_ = L_ c_ u_)
    (hD : ∀ c_ j_ f_, (c_ = 7 ∨ c_ = 30 ∨ (c_ = 31 ∧ ¬ j_ = 0)) → ¬ (c_ = 30 ∧ (43 ≤ j_ ∧ j_ ≤ 46 ∨ j_ = 51)) → ¬ (c_ = 7 ∧ j_ = 0 ∧ (f_ = 0 ∨ 42 ≤ f_ ∧ f_ ≤ 50)) → ¬ (c_ = 30 ∧ j_ = 26 ∧ 16 * b_ ≤ f_ ∧ f_ < 16 * b_ + 16) → ¬ (c_ = 30 ∧ j_ = 27 ∧ f_ = b_) → ¬ (c_ = 30 ∧ (j_ = 32 ∨ j_ = 35) ∧ f_ = r_) → D' c_ j_ f_ = D_ c_ j_ f_) (hD32 : D' 30 32 r_ = 0) (hD35 : D' 30 35 r_ = Int32.ofNat b_) (hro : zRo D' b_ (zlkL (L_ 24 b_) r_ i_ d_)) : zzR C'_ L' D' p_ N_ M_ := by
  obtain ⟨v1_, v2, v3⟩ := h_.2.2.2.1 b_ hb_
  obtain ⟨t1_, t2_, t3_, t4_, t5_, t6, t7, t8, t9⟩ := v3
  obtain ⟨gb, gc_⟩ := h_.2.2.1 r_ hr
  obtain ⟨m1_, m2_, m3_⟩ := hnr b_ hb_
  have hl16 := v1_.2.2.2.2.2.1.2.1
  have nc : ∀ c_ j_ f_, (c_ = 1 ∨ c_ = 2 ∨ c_ = 4 ∨ c_ = 5 ∨ c_ = 6 ∨ (c_ = 99 ∧ ¬ j_ = 30) ∨ (c_ = 31 ∧ j_ = 0)) → ¬ (c_ = 1 ∧ f_ = 9) → ¬ (c_ = 4 ∧ (f_ = 3 ∨ f_ = 4)) → ¬ (c_ = 1 ∧ j_ = r_ ∧ (f_ = 5 ∨ f_ = 8)) → C'_ c_ j_ f_ = C_ c_ j_ f_ := fun c_ j_ f_ a1_ a2 a3 a4 => by
    rw [hC.1 c_ j_ f_ a1_ a2 a3, zset_ne (by omega), zset_ne (by omega)]
  have nz : ∀ s_, s_ ∈ zzZ C_ L_ N_ → ∀ f_, C'_ 4 s_ f_ = C_ 4 s_ f_ := fun s_ hs f_ => by
    rw [hC.2 s_ hs f_, zset_ne (by simp), zset_ne (by simp)]
  have d30_ : ∀ j_ f_, ¬ (43 ≤ j_ ∧ j_ ≤ 46 ∨ j_ = 51) → ¬ (j_ = 26 ∧ 16 * b_ ≤ f_ ∧ f_ < 16 * b_ + 16) → ¬ (j_ = 27 ∧ f_ = b_) → ¬ ((j_ = 32 ∨ j_ = 35) ∧ f_ = r_) → D' 30 j_ f_ = D_ 30 j_ f_ := fun j_ f_ a1_ a2 a3 a4 => hD 30 j_ f_ (by simp) (by omega) (by omega) (by omega) (by omega) (by omega)
  have d31_ : ∀ j_ f_, ¬ j_ = 0 → D' 31 j_ f_ = D_ 31 j_ f_ := fun j_ f_ a_ => hD 31 j_ f_ (by simp [a_]) (by omega) (by omega) (by omega) (by omega) (by omega)
  have c5_ : C'_ 1 r_ 5 = 0 := by rw [hC.1 1 r_ 5 (by simp) (by simp) (by simp), zset_ne (by simp), zset_is]
  have c8_ : C'_ 1 r_ 8 = Int32.ofNat b_ := by rw [hC.1 1 r_ 8 (by simp) (by simp) (by simp), zset_is]
  have hs : ∀ q_, zsea C'_ q_ = zsea C_ q_ := fun q_ => by unfold zsea; rw [nc 1 q_ 0 (by simp) (by simp) (by simp) (by simp), nc 2 _ 3 (by simp) (by simp) (by simp) (by simp)]
  have hch : ∀ q_, zchr C'_ q_ = zchr C_ q_ := fun q_ => by unfold zchr; rw [nc 1 q_ 0 (by simp) (by simp) (by simp) (by simp), nc 2 _ 0 (by simp) (by simp) (by simp) (by simp)]
  have hkd : ∀ q_, zmkd D' q_ = zmkd D_ q_ := fun q_ => by unfold zmkd zmrd; rw [d30_ 29 q_ (by omega) (by omega) (by omega) (by omega), d30_ 7 _ (by omega) (by omega) (by omega) (by omega)]
  have hse : ∀ q_, zmse D' q_ = zmse D_ q_ := fun q_ => by unfold zmse; rw [hkd]; unfold zmrd; rw [d30_ 29 q_ (by omega) (by omega) (by omega) (by omega), d31_ 10 _ (by omega)]
  have hsq : ∀ w_, zsqL D' w_ M_ 0 0 = zsqL D_ w_ M_ 0 0 := fun w_ => zzsqr (r_ := r_) (fun j_ _ hj => ⟨d30_ 32 j_ (by omega) (by omega) (by omega) (by omega), d30_ 35 j_ (by omega) (by omega) (by omega) (by omega)⟩) hse (fun e_ => by rw [← gc_.2.1, hst] at e_; exact absurd e_.1 (by decide)) (fun e_ => by rw [hD32] at e_; exact absurd e_.1 (by decide))
  have hmem : ∀ s_ ∈ zlkL (L_ 24 b_) r_ i_ d_, s_ / 2 = r_ ∨ s_ ∈ L_ 24 b_ := fun s_ hs => zlkL_mem hi_ hd_ hs
  obtain ⟨nw1, nw2⟩ := zzlkL_new (r_ := r_) hi_ hd_
  refine zzRz h_ hb_ hr (fun c_ j_ f_ hh h9 => ?_) (fun f_ hf => nc 1 r_ f_ (by simp) (by omega) (by simp) (by omega)) (fun w_ hw hne s_ hs => ⟨nc 4 s_ 5 (by simp) (by simp) (by simp) (by simp), fun hl h0 => ?_⟩) (fun f_ hf => hD 7 0 f_ (by simp) (by omega) (by omega) (by omega) (by omega) (by omega)) (fun f_ => ⟨d30_ 7 f_ (by omega) (by omega) (by omega) (by omega), d30_ 8 f_ (by omega) (by omega) (by omega) (by omega), d30_ 9 f_ (by omega) (by omega) (by omega) (by omega), d31_ 10 f_ (by omega), d31_ 4 f_ (by omega)⟩) (fun j_ q_ a_ b' hq => d30_ j_ q_ (by omega) (by omega) (by omega) (by omega)) (fun q_ _ => ⟨d31_ 40 q_ (by omega), d31_ 41 q_ (by omega)⟩) (fun j_ w_ a_ b' c' d' hw => d30_ j_ w_ (by omega) (by omega) (by omega) (by omega)) (fun w_ _ => ⟨d31_ 16 w_ (by omega), d31_ 19 w_ (by omega), d31_ 22 w_ (by omega)⟩) (d30_ 13 b_ (by omega) (by omega) (by omega) (by omega)) (d30_ 14 b_ (by omega) (by omega) (by omega) (by omega)) (fun w_ j_ _ hj => d30_ 24 _ (by omega) (by omega) (by omega) (by omega)) (fun w_ k_ hw hk => d30_ 26 _ (by omega) (by omega) (by omega) (by omega)) (fun c_ u_ h1 h2 h3 => hL c_ u_ h1 h2 (fun e_ => h3 ⟨e_.2, Or.inl e_.1⟩)) ⟨?_, ?_, ?_⟩ ⟨?_, ?_, ?_⟩ (fun w_ hw _ => (hnr w_ hw).1) (fun w_ hw _ q_ hq e_ => (hnr w_ hw).2.1 (e_ ▸ hq)) (fun w_ hw _ s_ hs => Or.inl ((hnr w_ hw).2.2 s_ hs)) (fun w_ _ _ => hsq w_) (fun s_ _ hm_ => by rw [hL24]; exact zzlkL_in hi_ hd_ hm_) (fun q_ _ hm_ => by rw [hL 26 b_ (by simp) (by simp) (by simp)]; exact hm_)
  · refine nc c_ j_ f_ (by omega) h9 (by omega) (by omega)
  · have hz := zzZ_mem.mpr ⟨w_, hw, hl, h0⟩
    exact ⟨nz s_ hz 3, nz s_ hz 4⟩
  · obtain ⟨a1_, a2, a3, a4, a5, a6, a7, a8, a9, b1, b2, b3, b4⟩ := v1_
    unfold zzRv
    rw [hL24, hL 26 b_ (by simp) (by simp) (by simp), zzftak hs, zzfchl hch, nc 5 b_ 4 (by simp) (by simp) (by simp) (by simp), nc 5 b_ 9 (by simp) (by simp) (by simp) (by simp), d30_ 15 b_ (by omega) (by omega) (by omega) (by omega), d31_ 16 b_ (by omega), d30_ 13 b_ (by omega) (by omega) (by omega) (by omega), d30_ 14 b_ (by omega) (by omega) (by omega) (by omega), d30_ 23 b_ (by omega) (by omega) (by omega) (by omega), d30_ 25 b_ (by omega) (by omega) (by omega) (by omega)]
    refine ⟨a1_.ix (fun f_ => nc 5 b_ f_ (by simp) (by simp) (by simp) (by simp)) (fun j_ x_ y_ => d30_ j_ b_ (by omega) (by omega) (by omega) (by omega)) (d31_ 19 b_ (by omega)), a2, a3, a4, a5, hro, a7, a8, a9, b1, b2, b3, fun j_ q_ hj => by rw [d30_ 24 _ (by omega) (by omega) (by omega) (by omega)]; exact b4 j_ q_ hj⟩
  · obtain ⟨a1_, a2, a3⟩ := v2
    have hhd : ¬ C_ 5 b_ 10 = 0 → ∀ s_, (L_ 24 b_)[0]? = some s_ → (zlkL (L_ 24 b_) r_ i_ d_)[0]? = some s_ := fun hne s_ hs => by
      have hf1 : zlkF D_ b_ = 1 := if_neg (fun e_ => hne (v1_.1.2.2.2.2.2.1.mpr e_))
      rw [zzlkL0 (by omega) (by omega) (fun e_ => by rw [e_] at hs; simp at hs)]
      exact hs
    unfold zzRl
    rw [hL24, nc 5 b_ 10 (by simp) (by simp) (by simp) (by simp), d30_ 20 b_ (by omega) (by omega) (by omega) (by omega), d30_ 21 b_ (by omega) (by omega) (by omega) (by omega), d31_ 22 b_ (by omega)]
    refine ⟨fun hne => ?_, a2, fun s_ hs hne => ?_⟩
    · obtain ⟨s_, l, e1_, e2_, e3_, e4_⟩ := a1_ hne
      have hs0 : (L_ 24 b_)[0]? = some s_ := by rw [e1_]; rfl
      have hz := zzZ_mem.mpr ⟨b_, hb_, hne, hs0⟩
      have h0 := hhd hne s_ hs0
      cases hle : zlkL (L_ 24 b_) r_ i_ d_ with
      | nil => rw [hle] at h0; simp at h0
      | cons x_ y_ =>
        rw [hle] at h0
        have e_ : x_ = s_ := by simpa using h0
        subst e_
        refine ⟨x_, y_, rfl, ?_⟩
        rw [nz x_ hz, nz x_ hz, nz x_ hz]
        exact ⟨e2_, e3_, e4_⟩
    · rw [nc 4 s_ 5 (by simp) (by simp) (by simp) (by simp)] at hne
      rcases hmem s_ hs with e_ | e_
      · exfalso
        by_cases hp : s_ % 2 = 0
        · rw [show s_ = 2 * r_ by omega] at hne; exact hne h45a
        · rw [show s_ = 2 * r_ + 1 by omega] at hne; exact hne h45b
      · obtain ⟨x1_, x2_⟩ := a3 s_ e_ hne
        exact ⟨x1_, hhd x1_ s_ x2_⟩
  · unfold zzRt
    rw [hL24, hL 25 b_ (by simp) (by simp) (by simp), hL 26 b_ (by simp) (by simp) (by simp), zzfchl hch, d30_ 23 b_ (by omega) (by omega) (by omega) (by omega), hsq b_, zzsbd_n hs _ _ (fun s_ hs => nc 1 _ 5 (by simp) (by simp) (by simp) (by simp [m3_ s_ hs]))]
    refine ⟨zzlkL_nd t1_ m1_ hi_ hd_, t2_, t3_, fun s_ hs => ?_, fun q_ hq => ?_, zzvl_ins i_ _ _ d_ hid_ t6, ?_, fun s_ hs => ?_, t9⟩
    · rw [nc 1 _ 1 (by simp) (by simp) (by simp) (by simp), nc 1 _ 2 (by simp) (by simp) (by simp) (by simp), nc 4 s_ 2 (by simp) (by simp) (by simp) (by simp)]
      rcases hmem s_ hs with e_ | e_
      · rw [e_, c5_, c8_]
        refine ⟨hr, rfl, fun _ => rfl, fun _ => Or.inl rfl, ?_⟩
        by_cases hp : s_ % 2 = 0
        · rw [if_pos hp, show s_ = 2 * r_ by omega]; exact h4a
        · rw [if_neg hp, show s_ = 2 * r_ + 1 by omega]; exact h4b
      · have hne := m1_ s_ e_
        rw [nc 1 _ 8 (by simp) (by simp) (by simp) (by simp [hne]), nc 1 _ 5 (by simp) (by simp) (by simp) (by simp [hne])]
        exact t4_ s_ e_
    · have hne : ¬ q_ = r_ := fun e_ => m2_ (e_ ▸ hq)
      rw [nc 1 _ 8 (by simp) (by simp) (by simp) (by simp [hne]), nc 1 _ 5 (by simp) (by simp) (by simp) (by simp [hne])]
      exact t5_ q_ hq
    · obtain ⟨a_, ha_, e13_⟩ := v1_.2.2.2.1
      have h13 : (D_ 30 13 b_).toInt ≤ 8 := by rw [e13_, Int32.toInt_ofNat_of_lt (by omega)]; omega
      have h23 := Int32.le_iff_toInt_le.mp v1_.2.2.2.2.2.2.2.2.1
      have h0 := v1_.2.2.2.2.2.2.2.1
      unfold zzrt at hrt
      rw [Bool.and_eq_true] at hrt
      exact zzfe_m hkd hse (d30_ 13 b_ (by omega) (by omega) (by omega) (by omega)) (d30_ 14 b_ (by omega) (by omega) (by omega) (by omega)) _ _ _ (zzfe_ck h13 _ 0 _ _ (by omega) (by omega) (by rw [zzlkL_len hi_ hd_]; omega) hrt.1)
    · have hne := m3_ s_ hs
      rw [nc 1 _ 5 (by simp) (by simp) (by simp) (by simp [hne])]
      exact t8 s_ hs
  · exact gb.jx (fun f_ hf => nc 1 r_ f_ (by simp) (by omega) (by simp) (by omega)) (fun j_ hj => d30_ j_ r_ (by omega) (by omega) (by omega) (by omega))
  · obtain ⟨x1_, x2_, x3, x4_, x5_, x6, x7, x8⟩ := gc_
    have hz : znos (C'_ 1 r_) = znos (C_ 1 r_) := by
      unfold znos
      rw [c5_, hst, nc 1 r_ 14 (by simp) (by simp) (by simp) (by simp)]
      rw [show decide ((0 : Int32) = 3) = false by decide, show decide ((0 : Int32) = 4) = false by decide, show decide ((6 : Int32) = 3) = false by decide, show decide ((6 : Int32) = 4) = false by decide]
    unfold zzRc
    rw [hz, c5_, c8_, hD32, hD35, nc 1 r_ 3 (by simp) (by simp) (by simp) (by simp), nc 1 r_ 6 (by simp) (by simp) (by simp) (by simp), nc 1 r_ 10 (by simp) (by simp) (by simp) (by simp), nc 1 r_ 12 (by simp) (by simp) (by simp) (by simp), nc 1 r_ 13 (by simp) (by simp) (by simp) (by simp), d30_ 39 r_ (by omega) (by omega) (by omega) (by omega), d30_ 33 r_ (by omega) (by omega) (by omega) (by omega), d30_ 36 r_ (by omega) (by omega) (by omega) (by omega), d30_ 38 r_ (by omega) (by omega) (by omega) (by omega), d31_ 41 r_ (by omega), d31_ 40 r_ (by omega)]
    exact ⟨x1_, rfl, x3, rfl, x5_, x6, x7, x8⟩
  · refine ⟨fun _ => ⟨by rw [nc 1 r_ 11 (by simp) (by simp) (by simp) (by simp)]; exact h11, b_, hb_, c8_, by rw [hL24]; exact nw1, by rw [hL24]; exact nw2⟩, fun e_ => ?_⟩
    rw [c5_] at e_
    exact absurd e_ (by decide)

