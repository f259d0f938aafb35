/-! THE MINUTE: a delay -/
theorem zzRw5 {C_ C'_ D_ D' : zIn} {L_ : zLi} {p_ N_ M_ w_ : Nat} (h_ : zzR C_ L_ D_ p_ N_ M_) (hc_ : ∀ c_ i_ f_, (c_ = 1 ∨ c_ = 2 ∨ c_ = 6 ∨ c_ = 99 ∨ (c_ = 4 ∧ f_ = 2) ∨ (c_ = 5 ∧ ¬ i_ = w_) ∨ (c_ = 31 ∧ i_ = 0)) → C'_ c_ i_ f_ = C_ c_ i_ f_) (hc4 : ∀ v_, v_ < N_ → ¬ v_ = w_ → ∀ s_ ∈ L_ 24 v_, C'_ 4 s_ 3 = C_ 4 s_ 3 ∧ C'_ 4 s_ 4 = C_ 4 s_ 4 ∧ C'_ 4 s_ 5 = C_ 4 s_ 5) (hd7 : ∀ f_, ¬ f_ = 0 → D' 7 0 f_ = D_ 7 0 f_) (hd_ : ∀ i_ f_, (f_ = w_ → ¬ (12 ≤ i_ ∧ i_ ≤ 25 ∧ ¬ i_ = 24)) → D' 30 i_ f_ = D_ 30 i_ f_) (hd1 : ∀ i_ f_, (f_ = w_ → ¬ (i_ = 16 ∨ i_ = 19 ∨ i_ = 22)) → D' 31 i_ f_ = D_ 31 i_ f_) (hw : w_ < N_ → zzRv C'_ L_ D' w_ ∧ zzRl C'_ L_ D' w_ ∧ D' 30 13 w_ = D_ 30 13 w_ ∧ D' 30 14 w_ = D_ 30 14 w_ ∧ D' 30 23 w_ = D_ 30 23 w_) (hwN : w_ < N_) : zzR C'_ L_ D' p_ N_ M_ := by
  obtain ⟨h1, h2, h3, h4, h5, h6⟩ := h_
  have hM60 := h1.2.2.2.2.2.2.2.1
  have h7 : ∀ f_, D' 30 7 f_ = D_ 30 7 f_ := fun f_ => hd_ 7 f_ (fun _ => by decide)
  have h10 : ∀ f_, D' 31 10 f_ = D_ 31 10 f_ := fun f_ => hd1 10 f_ (fun _ => by decide)
  have h29 : ∀ i_ f_, 29 ≤ i_ → i_ ≤ 39 → D' 30 i_ f_ = D_ 30 i_ f_ := fun i_ f_ a_ b_ => hd_ i_ f_ (fun _ => by omega)
  have hs : ∀ q_, zsea C'_ q_ = zsea C_ q_ := fun q_ => by unfold zsea; rw [hc_ 1 q_ 0 (by simp), hc_ 2 _ 3 (by simp)]
  have hch : ∀ q_, zchr C'_ q_ = zchr C_ q_ := fun q_ => by unfold zchr; rw [hc_ 1 q_ 0 (by simp), hc_ 2 _ 0 (by simp)]
  have hkd : ∀ q_, zmkd D' q_ = zmkd D_ q_ := fun q_ => by unfold zmkd zmrd; rw [h29 29 q_ (by decide) (by decide), h7]
  have hse : ∀ q_, zmse D' q_ = zmse D_ q_ := fun q_ => by unfold zmse; rw [hkd]; unfold zmrd; rw [h29 29 q_ (by decide) (by decide), h10]
  have hsq : ∀ v_, zsqL D' v_ M_ 0 0 = zsqL D_ v_ M_ 0 0 := fun v_ => zzsq_ix M_ 0 0 (fun j_ _ _ => by unfold zsqN; rw [h29 32 j_ (by decide) (by decide), h29 35 j_ (by decide) (by decide), hse])
  have ht : ∀ v_, v_ < N_ → D' 30 13 v_ = D_ 30 13 v_ → D' 30 14 v_ = D_ 30 14 v_ → D' 30 23 v_ = D_ 30 23 v_ → zzRt C'_ L_ D' M_ v_ := fun v_ hv e1_ e2_ e3_ => (h4 v_ hv).2.2.ix (Nat.le_refl _) rfl rfl rfl (fun s_ _ => ⟨hc_ 1 _ 1 (by simp), hc_ 1 _ 2 (by simp), hc_ 1 _ 5 (by simp), hc_ 1 _ 8 (by simp), hc_ 4 s_ 2 (by simp)⟩) (fun q_ _ => ⟨hc_ 1 q_ 5 (by simp), hc_ 1 q_ 8 (by simp)⟩) (fun s_ _ => hc_ 1 _ 5 (by simp)) (fun q_ _ => hs q_) (fun q_ _ => hch q_) (fun s_ _ => hkd _) (fun s_ _ => hse _) e1_ e2_ e3_ (hsq v_)
  refine ⟨?_, fun i_ hi_ => (h2 i_ hi_).ix (fun f_ => hc_ 2 i_ f_ (by simp)) (h7 i_) (hd_ 8 i_ (fun _ => by decide)) (hd_ 9 i_ (fun _ => by decide)) (h10 i_), fun r_ hr => ⟨(h3 r_ hr).1.ix (fun f_ _ => hc_ 1 r_ f_ (by simp)) (fun i_ a_ b_ => h29 i_ r_ a_ b_), (h3 r_ hr).2.ix (fun f_ _ => hc_ 1 r_ f_ (by simp)) (fun i_ a_ b_ => h29 i_ r_ a_ b_) (hd1 40 r_ (fun _ => by decide)) (hd1 41 r_ (fun _ => by decide))⟩, fun v_ hv => ?_, fun r_ hr => (h5 r_ hr).ix (hc_ 1 r_ 5 (by simp)) (hc_ 1 r_ 8 (by simp)) (hc_ 1 r_ 11 (by simp)) (fun _ _ h_ => h_) (fun _ _ h_ => h_) (fun _ _ h_ => h_), ?_⟩
  · obtain ⟨a1_, a2, a3, a4, a5, a6, a7, a8, a9, b1, b2, b3, b4, b5, b6, b7⟩ := h1
    unfold zzRg
    rw [hd7 6 (by decide), hd7 11 (by decide), hd7 28 (by decide), hd7 2 (by decide), hd7 1 (by decide), hd7 3 (by decide), hd7 5 (by decide), hc_ 6 0 8 (by simp), hc_ 6 0 7 (by simp), hc_ 6 0 6 (by simp), zzcb_n (fun f_ => hc_ 31 0 f_ (by simp))]
    refine ⟨a1_, a2, a3, a4, a5, a6, a7, a8, a9, b1, b2, b3, b4, b5, fun k_ hk => ?_, b7⟩
    rw [hc_ 31 0 k_ (by simp), hd1 4 k_ (fun _ => by decide)]
    exact b6 k_ hk
  · by_cases e_ : v_ = w_
    · subst e_
      obtain ⟨x1_, x2_, x3, x4_, x5_⟩ := hw hv
      exact ⟨x1_, x2_, ht v_ hv x3 x4_ x5_⟩
    · have hdv : ∀ i_, D' 30 i_ v_ = D_ 30 i_ v_ := fun i_ => hd_ i_ v_ (fun e2_ => absurd e2_ e_)
      have hdv1 : ∀ i_, D' 31 i_ v_ = D_ 31 i_ v_ := fun i_ => hd1 i_ v_ (fun e2_ => absurd e2_ e_)
      exact ⟨(h4 v_ hv).1.ix (fun f_ => hc_ 5 v_ f_ (by simp [e_])) rfl rfl (fun q_ _ => hs q_) (fun q_ _ => hch q_) (fun i_ _ _ => hdv i_) (hdv 25) (hdv1 16) (hdv1 19) (fun hro => hro.ix (hdv 27) (fun k_ _ => hd_ 26 _ (fun _ => by decide))) (fun j_ _ => hd_ 24 _ (fun _ => by decide)), (h4 v_ hv).2.1.ix (hc_ 5 v_ 10 (by simp [e_])) rfl (fun s_ hs => ⟨(hc4 v_ hv e_ s_ hs).2.2, fun _ _ => ⟨(hc4 v_ hv e_ s_ hs).1, (hc4 v_ hv e_ s_ hs).2.1⟩⟩) (hdv 20) (hdv 21) (hdv1 22), ht v_ hv (hdv 13) (hdv 14) (hdv 23)⟩
  · obtain ⟨a1_, a2, a3, a4, a5⟩ := h6
    refine ⟨fun i_ hi_ => ?_, fun r_ hr => ?_, fun v_ hv => ?_, fun r_ h1 h2 => ?_, fun v_ h1 h2 => ?_⟩
    · rw [hc_ 99 2 i_ (by simp)]; exact a1_ i_ hi_
    · rw [hc_ 99 1 r_ (by simp), hc_ 99 4 (2 * r_) (by simp), hc_ 99 4 (2 * r_ + 1) (by simp)]; exact a2 r_ hr
    · rw [hc_ 99 5 v_ (by simp), hc_ 99 0 v_ (by simp), hc_ 99 24 v_ (by simp), hc_ 99 25 v_ (by simp), hc_ 99 26 v_ (by simp), hc_ 99 27 v_ (by simp)]; exact a3 v_ hv
    · rw [h29 33 r_ (by decide) (by decide), hd1 40 r_ (fun _ => by decide), hd1 41 r_ (fun _ => by decide)]; exact a4 r_ h1 h2
    · have hvw : ¬ v_ = w_ := by omega
      rw [hd_ 18 v_ (fun e_ => absurd e_ hvw), hd_ 23 v_ (fun e_ => absurd e_ hvw), hd_ 25 v_ (fun e_ => absurd e_ hvw), hd_ 27 v_ (fun e_ => absurd e_ hvw), hd1 19 v_ (fun e_ => absurd e_ hvw), hd1 22 v_ (fun e_ => absurd e_ hvw)]; exact a5 v_ h1 h2
theorem zzDl {C_ D_ : zIn} {L_ : zLi} {p_ N_ M_ v_ s_ : Nat} {l : List Nat} (h_ : zzR C_ L_ D_ p_ N_ M_) (hv : v_ < N_) (hne : ¬ C_ 5 v_ 10 = 0) (hl : L_ 24 v_ = s_ :: l) : zzR (zset (zset C_ 4 s_ 5 1) 4 s_ 4 (zset C_ 4 s_ 5 1 4 s_ 4 + 30)) L_ (zset (zset D_ 31 22 v_ 1) 30 21 v_ (zset D_ 31 22 v_ 1 30 21 v_ + 30)) p_ N_ M_ := by
  obtain ⟨v1_, v2, v3⟩ := h_.2.2.2.1 v_ hv
  obtain ⟨s', l', e1_, e3_, e4_, e5_⟩ := v2.1 hne
  have hss : s' = s_ := by rw [hl] at e1_; exact (List.cons.inj e1_).1.symm
  subst hss
  rw [zset_ne (show ¬ (4 = 4 ∧ s' = s' ∧ 4 = 5) by simp), zset_ne (show ¬ (30 = 31 ∧ 21 = 22 ∧ v_ = v_) by simp), e4_]
  have nc : ∀ c_ i_ f_, ¬ (c_ = 4 ∧ i_ = s' ∧ (f_ = 4 ∨ f_ = 5)) → zset (zset C_ 4 s' 5 1) 4 s' 4 (D_ 30 21 v_ + 30) c_ i_ f_ = C_ c_ i_ f_ := fun c_ i_ f_ x1_ => by
    rw [zset_ne (by omega), zset_ne (by omega)]
  have nd_ : ∀ c_ i_ f_, ¬ (c_ = 31 ∧ i_ = 22 ∧ f_ = v_) → ¬ (c_ = 30 ∧ i_ = 21 ∧ f_ = v_) → zset (zset D_ 31 22 v_ 1) 30 21 v_ (D_ 30 21 v_ + 30) c_ i_ f_ = D_ c_ i_ f_ := fun c_ i_ f_ x1_ x2_ => by
    rw [zset_ne x2_, zset_ne x1_]
  have k5_ : zset (zset C_ 4 s' 5 1) 4 s' 4 (D_ 30 21 v_ + 30) 4 s' 5 = 1 := by rw [zset_ne (by simp), zset_is]
  have k4_ : zset (zset C_ 4 s' 5 1) 4 s' 4 (D_ 30 21 v_ + 30) 4 s' 4 = D_ 30 21 v_ + 30 := zset_is
  have k22 : zset (zset D_ 31 22 v_ 1) 30 21 v_ (D_ 30 21 v_ + 30) 31 22 v_ = 1 := by rw [zset_ne (by simp), zset_is]
  have k21 : zset (zset D_ 31 22 v_ 1) 30 21 v_ (D_ 30 21 v_ + 30) 30 21 v_ = D_ 30 21 v_ + 30 := zset_is
  generalize hC' : zset (zset C_ 4 s' 5 1) 4 s' 4 (D_ 30 21 v_ + 30) = C'_ at *
  generalize hD' : zset (zset D_ 31 22 v_ 1) 30 21 v_ (D_ 30 21 v_ + 30) = D' at *
  have hsm : s' ∈ L_ 24 v_ := by rw [hl]; exact List.mem_cons_self
  have hs : ∀ q_, zsea C'_ q_ = zsea C_ q_ := fun q_ => by unfold zsea; rw [nc 1 q_ 0 (by simp), nc 2 _ 3 (by simp)]
  have hch : ∀ q_, zchr C'_ q_ = zchr C_ q_ := fun q_ => by unfold zchr; rw [nc 1 q_ 0 (by simp), nc 2 _ 0 (by simp)]
  refine zzRw5 (w_ := v_) h_ (fun c_ i_ f_ hh => nc c_ i_ f_ (by omega)) (fun w_ hw hne t_ ht => ?_) (fun f_ _ => nd_ 7 0 f_ (by simp) (by simp)) (fun i_ f_ hf => nd_ 30 i_ f_ (by simp) (fun e_ => hf e_.2.2 (by omega))) (fun i_ f_ hf => nd_ 31 i_ f_ (fun e_ => hf e_.2.2 (by omega)) (by simp)) (fun _ => ⟨?_, ?_, nd_ _ _ _ (by simp) (by simp), nd_ _ _ _ (by simp) (by simp), nd_ _ _ _ (by simp) (by simp)⟩) hv
  · have hts : ¬ t_ = s' := fun e_ => hne (zzdsj h_ hw hv (e_ ▸ ht) hsm)
    exact ⟨nc 4 t_ 3 (by simp), nc 4 t_ 4 (by simp [hts]), nc 4 t_ 5 (by simp [hts])⟩
  · obtain ⟨a1_, a2, a3, a4, a5, a6, a7, a8, a9, b1, b2, b3, b4⟩ := v1_
    unfold zzcv at a1_
    unfold zzRv zzcv
    rw [zzftak hs, zzfchl hch, nc 5 v_ 1 (by simp), nc 5 v_ 2 (by simp), nc 5 v_ 3 (by simp), nc 5 v_ 11 (by simp), nc 5 v_ 12 (by simp), nc 5 v_ 10 (by simp), nd_ 30 12 v_ (by simp) (by simp), nd_ 30 17 v_ (by simp) (by simp), nd_ 30 18 v_ (by simp) (by simp), nd_ 31 19 v_ (by simp) (by simp), nc 5 v_ 4 (by simp), nc 5 v_ 9 (by simp), nd_ 30 13 v_ (by simp) (by simp), nd_ 30 14 v_ (by simp) (by simp), nd_ 30 15 v_ (by simp) (by simp), nd_ 31 16 v_ (by simp) (by simp), nd_ 30 23 v_ (by simp) (by simp), nd_ 30 25 v_ (by simp) (by simp)]
    exact ⟨a1_, a2, a3, a4, a5, a6.ix (nd_ _ _ _ (by simp) (by simp)) (fun k_ _ => nd_ _ _ _ (by simp) (by simp)), a7, a8, a9, b1, b2, b3, fun j_ q_ hj => by rw [nd_ 30 24 _ (by simp) (by simp)]; exact b4 j_ q_ hj⟩
  · unfold zzRl
    rw [nc 5 v_ 10 (by simp), k21, k22, nd_ 30 20 v_ (by simp) (by simp)]
    refine ⟨fun _ => ⟨s', l, hl, (nc 4 s' 3 (by simp)).trans e3_, k4_, by rw [k5_]⟩, fun e_ => absurd e_ hne, fun t_ ht hx => ?_⟩
    by_cases e_ : t_ = s'
    · subst e_; exact ⟨hne, by rw [hl]; rfl⟩
    · rw [nc 4 t_ 5 (by simp [e_])] at hx
      exact v2.2.2 t_ ht hx

