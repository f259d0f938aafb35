/-! THE CALLS: end, answered -/
theorem zzEd {C_ D_ : zIn} {L_ : zLi} {p_ N_ M_ y_ : Nat} (h_ : zzR C_ L_ D_ p_ N_ M_) (hy : y_ < 400) (ey : D_ 7 0 1 = Int32.ofNat y_) : (zfao (L_ 22 0) C_ 0).1 = (zefL M_ 0 0 D_).1 ∧ zzR (zedy (zbgl (L_ 21 0) (zfao (L_ 22 0) C_ 0).2 L_)).1 (zedy (zbgl (L_ 21 0) (zfao (L_ 22 0) C_ 0).2 L_)).2 (zefA N_ M_ D_) p_ N_ M_ ∧ zzmo (zefA N_ M_ D_) D_ ∧ zefA N_ M_ D_ 7 0 0 = D_ 7 0 0 := by
  have hM60 := h_.1.2.2.2.2.2.2.2.1
  have e22_ : L_ 22 0 = List.range M_ := h_.1.2.2.2.2.2.2.1
  have e21_ : L_ 21 0 = List.range N_ := h_.1.2.2.2.1
  have st_ : ∀ r_, r_ < M_ → C_ 1 r_ 5 = D_ 30 32 r_ := fun r_ hr => (h_.2.2.1 r_ hr).2.2.1
  rw [e22_, e21_]
  have hcnt := zzcntE (M_ := M_) M_ 0 C_ D_ 0 (by omega) (fun j_ _ hj => st_ j_ hj)
  rw [List.drop_zero] at hcnt
  refine ⟨hcnt, ?_⟩
  have fC_ : ∀ c_ i_ f_, (zfao (List.range M_) C_ 0).2 c_ i_ f_ = if c_ = 1 ∧ i_ ∈ List.range M_ ∧ f_ = 5 ∧ (C_ 1 i_ 5 = 0 ∨ C_ 1 i_ 5 = 1) then 5 else C_ c_ i_ f_ := fun c_ i_ f_ => zzfao (C_ := C_) _ _ _ List.nodup_range (fun _ _ => rfl)
  have fD_ : ∀ c_ i_ f_, (zefL M_ 0 0 D_).2 c_ i_ f_ = if c_ = 30 ∧ i_ = 32 ∧ (0 ≤ f_ ∧ f_ < 0 + M_) ∧ (D_ 30 32 f_ = 0 ∨ D_ 30 32 f_ = 1) then 5 else D_ c_ i_ f_ := fun c_ i_ f_ => zzefL (D_ := D_) _ _ _ _ (fun _ _ => rfl)
  generalize hCf : (zfao (List.range M_) C_ 0).2 = Cf at *
  obtain ⟨g1, g2, g3_, g4⟩ := zzbgl (N_ := N_) N_ 0 Cf L_ (by omega)
  rw [List.drop_zero] at g1 g2 g3_ g4
  generalize hDf : (zefL M_ 0 0 D_).2 = Df at *
  obtain ⟨j1, j2_⟩ := zzevL (N_ := N_) N_ 0 Df (by omega)
  have eA_ : zefA N_ M_ D_ = zset (zset (zevL N_ 0 Df) 7 0 1 (zevL N_ 0 Df 7 0 1 + 1)) 7 0 2 0 := by unfold zefA zevE; rw [hDf]
  have eB : (zedy (zbgl (List.range N_) Cf L_)).1 = zset (zset (zbgl (List.range N_) Cf L_).1 6 0 7 ((zbgl (List.range N_) Cf L_).1 6 0 7 + 1)) 6 0 8 0 := rfl
  have eL : (zedy (zbgl (List.range N_) Cf L_)).2 = (zbgl (List.range N_) Cf L_).2 := rfl
  have oC : ∀ c_ i_ f_, ¬ (c_ = 1 ∧ i_ < M_ ∧ f_ = 5) → Cf c_ i_ f_ = C_ c_ i_ f_ := fun c_ i_ f_ hh => by
    rw [fC_, if_neg (fun e_ => hh ⟨e_.1, List.mem_range.mp e_.2.1, e_.2.2.1⟩)]
  have oD_ : ∀ c_ i_ f_, ¬ (c_ = 30 ∧ i_ = 32 ∧ f_ < M_) → Df c_ i_ f_ = D_ c_ i_ f_ := fun c_ i_ f_ hh => by
    rw [fD_, if_neg (by omega)]
  have nc : ∀ c_ i_ f_, ¬ (c_ = 1 ∧ i_ < M_ ∧ f_ = 5) → ¬ (c_ = 5 ∧ i_ < N_ ∧ (f_ = 10 ∨ f_ = 11 ∨ f_ = 12)) → ¬ (c_ = 6 ∧ i_ = 0 ∧ (f_ = 7 ∨ f_ = 8)) → (zedy (zbgl (List.range N_) Cf L_)).1 c_ i_ f_ = C_ c_ i_ f_ := fun c_ i_ f_ a_ b_ d_ => by
    rw [eB, zset_ne (by omega), zset_ne (by omega), g1 c_ i_ f_ (by omega), oC c_ i_ f_ a_]
  have nd_ : ∀ c_ i_ f_, ¬ (c_ = 30 ∧ i_ = 32 ∧ f_ < M_) → ¬ ((c_ = 30 ∧ (i_ = 17 ∨ i_ = 18 ∨ i_ = 23 ∨ i_ = 25 ∨ i_ = 27) ∨ c_ = 31 ∧ (i_ = 19 ∨ i_ = 22)) ∧ f_ < N_) → ¬ (c_ = 7 ∧ i_ = 0 ∧ (f_ = 1 ∨ f_ = 2)) → zefA N_ M_ D_ c_ i_ f_ = D_ c_ i_ f_ := fun c_ i_ f_ a_ b_ d_ => by
    rw [eA_, zset_ne (by omega), zset_ne (by omega), j1 c_ i_ f_ (by omega), oD_ c_ i_ f_ a_]
  have c5_ : ∀ r_, r_ < M_ → (zedy (zbgl (List.range N_) Cf L_)).1 1 r_ 5 = if C_ 1 r_ 5 = 0 ∨ C_ 1 r_ 5 = 1 then 5 else C_ 1 r_ 5 := fun r_ hr => by
    rw [eB, zset_ne (by simp), zset_ne (by simp), g1 1 r_ 5 (by simp), fC_]
    by_cases e_ : C_ 1 r_ 5 = 0 ∨ C_ 1 r_ 5 = 1
    · rw [if_pos ⟨rfl, List.mem_range.mpr hr, rfl, e_⟩, if_pos e_]
    · rw [if_neg (fun e2_ => e_ e2_.2.2.2), if_neg e_]
  have d32_ : ∀ r_, r_ < M_ → zefA N_ M_ D_ 30 32 r_ = if D_ 30 32 r_ = 0 ∨ D_ 30 32 r_ = 1 then 5 else D_ 30 32 r_ := fun r_ hr => by
    rw [eA_, zset_ne (by simp), zset_ne (by simp), j1 30 32 r_ (by simp), fD_]
    by_cases e_ : D_ 30 32 r_ = 0 ∨ D_ 30 32 r_ = 1
    · rw [if_pos ⟨rfl, rfl, by omega, e_⟩, if_pos e_]
    · rw [if_neg (fun e2_ => e_ e2_.2.2.2), if_neg e_]
  have not01 : ∀ x_ : Int32, ¬ (if x_ = 0 ∨ x_ = 1 then (5 : Int32) else x_) = 0 ∧ ¬ (if x_ = 0 ∨ x_ = 1 then (5 : Int32) else x_) = 1 := fun x_ => by
    by_cases e_ : x_ = 0 ∨ x_ = 1
    · rw [if_pos e_]; decide
    · rw [if_neg e_]; exact ⟨fun e2_ => e_ (Or.inl e2_), fun e2_ => e_ (Or.inr e2_)⟩
  have vC : ∀ v_, v_ < N_ → (zedy (zbgl (List.range N_) Cf L_)).1 5 v_ 10 = 0 ∧ (zedy (zbgl (List.range N_) Cf L_)).1 5 v_ 11 = C_ 5 v_ 1 ∧ (zedy (zbgl (List.range N_) Cf L_)).1 5 v_ 12 = 0 := fun v_ hv => by
    obtain ⟨x1_, x2_, x3⟩ := g2 v_ (Nat.zero_le _) hv
    rw [eB, zset_ne (by simp), zset_ne (by simp), zset_ne (by simp), zset_ne (by simp), zset_ne (by simp), zset_ne (by simp), ← oC 5 v_ 1 (by simp)]
    exact ⟨x1_, x2_, x3⟩
  have vD : ∀ v_, v_ < N_ → zefA N_ M_ D_ 30 17 v_ = D_ 30 12 v_ ∧ zefA N_ M_ D_ 30 18 v_ = 0 ∧ zefA N_ M_ D_ 31 19 v_ = 0 ∧ zefA N_ M_ D_ 31 22 v_ = 0 ∧ zefA N_ M_ D_ 30 23 v_ = 0 ∧ zefA N_ M_ D_ 30 25 v_ = 0 ∧ zefA N_ M_ D_ 30 27 v_ = 0 := fun v_ hv => by
    rw [← oD_ 30 12 v_ (by simp)]
    have := j2_ v_ (Nat.zero_le _) hv
    have hz : ∀ c_ i_, ¬ c_ = 7 → zefA N_ M_ D_ c_ i_ v_ = zevL N_ 0 Df c_ i_ v_ := fun c_ i_ hc_ => by rw [eA_, zset_ne (by omega), zset_ne (by omega)]
    rw [hz _ _ (by simp), hz _ _ (by simp), hz _ _ (by simp), hz _ _ (by simp), hz _ _ (by simp), hz _ _ (by simp), hz _ _ (by simp)]
    exact this
  have vL : ∀ v_, v_ < N_ → (zedy (zbgl (List.range N_) Cf L_)).2 24 v_ = [] ∧ (zedy (zbgl (List.range N_) Cf L_)).2 25 v_ = [] ∧ (zedy (zbgl (List.range N_) Cf L_)).2 26 v_ = [] := fun v_ hv => ⟨by rw [eL]; exact g4 24 v_ (by simp) (Nat.zero_le _) hv, by rw [eL]; exact g4 25 v_ (by simp) (Nat.zero_le _) hv, by rw [eL]; exact g4 26 v_ (by simp) (Nat.zero_le _) hv⟩
  have nl : ∀ c_ u_, ¬ ((c_ = 24 ∨ c_ = 25 ∨ c_ = 26) ∧ u_ < N_) → (zedy (zbgl (List.range N_) Cf L_)).2 c_ u_ = L_ c_ u_ := fun c_ u_ hh => by rw [eL]; exact g3_ c_ u_ (by omega)
  have g67 : (zedy (zbgl (List.range N_) Cf L_)).1 6 0 7 = C_ 6 0 7 + 1 := by
    rw [eB, zset_ne (by simp), zset_is, g1 6 0 7 (by simp), oC 6 0 7 (by simp)]
  have g68 : (zedy (zbgl (List.range N_) Cf L_)).1 6 0 8 = 0 := by rw [eB, zset_is]
  have g71 : zefA N_ M_ D_ 7 0 1 = D_ 7 0 1 + 1 := by
    rw [eA_, zset_ne (by simp), zset_is, j1 7 0 1 (by simp), oD_ 7 0 1 (by simp)]
  have g72 : zefA N_ M_ D_ 7 0 2 = 0 := by rw [eA_, zset_is]
  generalize hC' : (zedy (zbgl (List.range N_) Cf L_)).1 = C'_ at *
  generalize hL' : (zedy (zbgl (List.range N_) Cf L_)).2 = L' at *
  generalize hD' : zefA N_ M_ D_ = D' at *
  refine ⟨?_, fun c_ i_ f_ hh => nd_ c_ i_ f_ (by omega) (by omega) (by omega), nd_ 7 0 0 (by simp) (by simp) (by simp)⟩
  obtain ⟨h1, h2, h3, h4, h5, h6⟩ := h_
  refine ⟨?_, fun i_ hi_ => (h2 i_ hi_).ix (fun f_ => nc 2 i_ f_ (by simp) (by simp) (by simp)) (nd_ _ _ _ (by simp) (by simp) (by simp)) (nd_ _ _ _ (by simp) (by simp) (by simp)) (nd_ _ _ _ (by simp) (by simp) (by simp)) (nd_ _ _ _ (by simp) (by simp) (by simp)), fun r_ hr => ⟨(h3 r_ hr).1.jx (fun f_ hf => nc 1 r_ f_ (by omega) (by omega) (by omega)) (fun i_ hi_ => nd_ 30 i_ r_ (by omega) (by omega) (by omega)), ?_⟩, fun v_ hv => ?_, fun r_ hr => ?_, ?_⟩
  · obtain ⟨a1_, a2, a3, a4, a5, a6, a7, a8, a9, b1, b2, b3, b4, b5, b6, b7⟩ := h1
    unfold zzRg
    rw [nl 20 0 (by simp), nl 21 0 (by simp), nl 22 0 (by simp), nd_ 7 0 6 (by simp) (by simp) (by simp), nd_ 7 0 11 (by simp) (by simp) (by simp), nd_ 7 0 28 (by simp) (by simp) (by simp), nd_ 7 0 3 (by simp) (by simp) (by simp), nd_ 7 0 5 (by simp) (by simp) (by simp), nc 6 0 6 (by simp) (by simp) (by simp), g67, g68, g71, g72, b2]
    refine ⟨a1_, a2, a3, a4, a5, a6, a7, a8, a9, rfl, rfl, ⟨0, by omega, rfl⟩, ⟨y_ + 1, by omega, by rw [ey, zisucc]⟩, b5, fun k_ hk => ?_, ?_⟩
    · rw [nc 31 0 k_ (by simp) (by simp) (by simp), nd_ 31 4 k_ (by simp) (by simp) (by simp)]
      exact b6 k_ hk
    · rw [b7]
      exact (zzcb_n (fun f_ => nc 31 0 f_ (by simp) (by simp) (by simp)) 36 0 0).symm
  · obtain ⟨x1_, x2_, x3, x4_, x5_, x6, x7, x8⟩ := (h3 r_ hr).2
    unfold zzRc
    rw [c5_ r_ hr, d32_ r_ hr, nc 1 r_ 3 (by simp) (by simp) (by simp), nc 1 r_ 6 (by simp) (by simp) (by simp), nc 1 r_ 8 (by simp) (by simp) (by simp), nc 1 r_ 10 (by simp) (by simp) (by simp), nc 1 r_ 12 (by simp) (by simp) (by simp), nc 1 r_ 13 (by simp) (by simp) (by simp), nd_ 30 39 r_ (by simp) (by simp) (by simp), nd_ 30 33 r_ (by simp) (by simp) (by simp), nd_ 30 35 r_ (by simp) (by simp) (by simp), nd_ 30 36 r_ (by simp) (by simp) (by simp), nd_ 30 38 r_ (by simp) (by simp) (by simp), nd_ 31 41 r_ (by simp) (by simp) (by simp), nd_ 31 40 r_ (by simp) (by simp) (by simp), x2_]
    refine ⟨x1_, rfl, x3, x4_, x5_, x6, x7, ?_⟩
    have e14_ : C'_ 1 r_ 14 = C_ 1 r_ 14 := nc 1 r_ 14 (by simp) (by simp) (by simp)
    have e5_ := c5_ r_ hr
    unfold znos at x8 ⊢
    rw [e5_, e14_]
    by_cases e_ : C_ 1 r_ 5 = 0 ∨ C_ 1 r_ 5 = 1
    · rw [if_pos e_, ← x8]
      rcases e_ with e_ | e_
      · rw [e_]; simp
      · rw [e_]; simp
    · rw [if_neg e_]; exact x8
  · obtain ⟨v1_, v2, v3⟩ := h4 v_ hv
    obtain ⟨l24, l25, l26⟩ := vL v_ hv
    obtain ⟨p10, p11, p12⟩ := vC v_ hv
    obtain ⟨k17, k18, k19, k22, k23, k25, k27⟩ := vD v_ hv
    obtain ⟨a1_, a2, a3, a4, a5, a6, a7, a8, a9, b1, b2, b3, b4⟩ := v1_
    obtain ⟨w1_, w2_, w3_, w4_, w5, w6_, w7_, w8⟩ := a1_
    refine ⟨?_, ?_, ?_⟩
    · unfold zzRv zzcv
      rw [l24, l26, p10, p11, p12, k17, k18, k19, k23, k25, nc 5 v_ 1 (by simp) (by simp) (by simp), nc 5 v_ 2 (by simp) (by simp) (by simp), nc 5 v_ 3 (by simp) (by simp) (by simp), nc 5 v_ 4 (by simp) (by simp) (by simp), nc 5 v_ 9 (by simp) (by simp) (by simp), nd_ 30 12 v_ (by simp) (by simp) (by simp), nd_ 30 13 v_ (by simp) (by simp) (by simp), nd_ 30 14 v_ (by simp) (by simp) (by simp), nd_ 30 15 v_ (by simp) (by simp) (by simp), nd_ 31 16 v_ (by simp) (by simp) (by simp)]
      refine ⟨⟨w1_, w2_, w3_, w1_, rfl, Iff.rfl, w8, w8⟩, a2, a3, a4, a5, ⟨k27, Nat.zero_le _, fun k_ s_ hs => by simp at hs⟩, rfl, by decide, ?_, rfl, ?_, Nat.zero_le _, fun j_ q_ hj => ?_⟩
      · obtain ⟨m_, hm_, em⟩ := a4
        rw [em]
        exact (zile (a := 0) (by omega) (by omega)).mpr (Nat.zero_le _)
      · obtain ⟨m_, hm_, em⟩ := a5
        rw [em]
        exact (zile (a := 0) (by omega) (by omega)).mpr (Nat.zero_le _)
      · have : (zchl C'_ [])[j_]? = none := rfl
        rw [this] at hj
        exact absurd hj (by simp)
    · unfold zzRl
      rw [l24, p10]
      exact ⟨fun e_ => absurd rfl e_, fun _ => k22, fun s_ hs => absurd hs List.not_mem_nil⟩
    · have hz : zsqL D' v_ M_ 0 0 = 0 := by
        have key_ : ∀ n_ k_, n_ + k_ = M_ → zsqL D' v_ n_ k_ 0 = 0 := by
          intro n_
          induction n_ with
          | zero => intro k_ _; rfl
          | succ n_ ih_ =>
            intro k_ hk
            unfold zsqL
            have e_ : zsqN D' v_ k_ = 0 := by
              unfold zsqN
              rw [d32_ k_ (by omega), if_neg (fun e_ => (not01 _).2 e_.1)]
            rw [e_]
            exact ih_ (k_ + 1) (by omega)
        exact key_ M_ 0 (by omega)
      unfold zzRt
      rw [l24, l25, l26, hz]
      exact ⟨List.nodup_nil, List.nodup_nil, List.nodup_nil, fun s_ hs => absurd hs List.not_mem_nil, fun s_ hs => absurd hs List.not_mem_nil, trivial, trivial, fun s_ hs => absurd hs List.not_mem_nil, rfl⟩
  · refine ⟨fun e_ => ?_, fun e_ => ?_⟩
    · rw [c5_ r_ hr] at e_; exact absurd e_ (not01 _).1
    · rw [c5_ r_ hr] at e_; exact absurd e_ (not01 _).2
  · obtain ⟨a1_, a2, a3, a4, a5⟩ := h6
    refine ⟨fun i_ hi_ => ?_, fun r_ hr => ?_, fun v_ hv => ?_, fun r_ x1_ x2_ => ?_, fun v_ x1_ x2_ => ?_⟩
    · rw [nc 99 2 i_ (by simp) (by simp) (by simp)]; exact a1_ i_ hi_
    · rw [nc 99 1 r_ (by simp) (by simp) (by simp), nc 99 4 (2 * r_) (by simp) (by simp) (by simp), nc 99 4 (2 * r_ + 1) (by simp) (by simp) (by simp)]; exact a2 r_ hr
    · rw [nc 99 5 v_ (by simp) (by simp) (by simp), nc 99 0 v_ (by simp) (by simp) (by simp), nc 99 24 v_ (by simp) (by simp) (by simp), nc 99 25 v_ (by simp) (by simp) (by simp), nc 99 26 v_ (by simp) (by simp) (by simp), nc 99 27 v_ (by simp) (by simp) (by simp), nl 24 v_ (by omega), nl 25 v_ (by omega), nl 26 v_ (by omega), nl 27 v_ (by simp)]; exact a3 v_ hv
    · rw [nd_ 30 33 r_ (by simp) (by simp) (by simp), nd_ 31 40 r_ (by simp) (by simp) (by simp), nd_ 31 41 r_ (by simp) (by simp) (by simp)]; exact a4 r_ x1_ x2_
    · rw [nd_ 30 18 v_ (by simp) (by omega) (by simp), nd_ 31 19 v_ (by simp) (by omega) (by simp), nd_ 31 22 v_ (by simp) (by omega) (by simp), nd_ 30 23 v_ (by simp) (by omega) (by simp), nd_ 30 25 v_ (by simp) (by omega) (by simp), nd_ 30 27 v_ (by simp) (by omega) (by simp)]; exact a5 v_ x1_ x2_

