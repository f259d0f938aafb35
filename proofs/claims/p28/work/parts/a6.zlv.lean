/-! THE MINUTE: leaving -/
def zzfm (C_ D_ C'_ D' : zIn) : Prop := zzco C'_ C_ ∧ zzmo D' D_ ∧ D' 7 0 0 = D_ 7 0 0 ∧ D' 7 0 2 = D_ 7 0 2
theorem zzfm.rfl {C_ D_ : zIn} : zzfm C_ D_ C_ D_ := ⟨zzco.rfl, zzmo.rfl, Eq.refl _, Eq.refl _⟩
theorem zzfm.trans {C_ D_ C1_ D1 C2_ D2 : zIn} (h2 : zzfm C1_ D1 C2_ D2) (h1 : zzfm C_ D_ C1_ D1) : zzfm C_ D_ C2_ D2 := ⟨h2.1.trans h1.1, h2.2.1.trans h1.2.1, h2.2.2.1.trans h1.2.2.1, h2.2.2.2.trans h1.2.2.2⟩
theorem zzLv {C_ D_ : zIn} {L_ : zLi} {p_ N_ M_ v_ : Nat} (h_ : zzR C_ L_ D_ p_ N_ M_) (hv : v_ < N_) : zmi2 v_ D_ (fun D' => zzR (zlvd C_ L_ v_ (C_ 6 0 8)) L_ D' p_ N_ M_ ∧ zzfm C_ D_ (zlvd C_ L_ v_ (C_ 6 0 8)) D') := by
  obtain ⟨v1_, v2, v3⟩ := h_.2.2.2.1 v_ hv
  have hQ := zzQ_of h_ hv
  have e8 : C_ 6 0 8 = D_ 7 0 2 := h_.1.2.2.2.2.2.2.2.2.2.1
  obtain ⟨a1_, a2, a3, a4, a5, a6, a7, a8, a9, b1, b2, b3, b4⟩ := v1_
  obtain ⟨c1_, c2_, c3_, c4_, c5_, c6_, c7_, c8_⟩ := a1_
  refine ⟨fun e0_ hle => ⟨L_ 24 v_, a6, fun s_ r_ hl => ⟨(hQ.2.2.2.1 s_ (by rw [hl]; exact List.mem_cons_self)).2.2.2, ?_⟩, fun hl => ?_⟩, fun hn => ?_⟩
  · have h10 : C_ 5 v_ 10 = 0 := c6_.mpr e0_
    have hng : ¬ (¬ C_ 5 v_ 10 = 0 ∨ C_ 6 0 8 < C_ 5 v_ 12) := by
      rw [e8, c5_]
      exact fun e_ => e_.elim (fun e_ => e_ h10) (fun e_ => absurd e_ (Int32.not_lt.mpr hle))
    have hcs := (hQ.2.2.2.1 s_ (by rw [hl]; exact List.mem_cons_self)).2.1
    have e7_ : C_ 1 (s_ / 2) 7 = D_ 30 34 (s_ / 2) := hcs.2.2.1
    have ez : 2 * zstp (C_ 5 v_ 11) (C_ 4 s_ 2) = zlv0 D_ v_ s_ := by
      unfold zlv0
      rw [c4_, hcs.1, zzstp c7_ hcs.2.1]
    have hcd : (¬ s_ % 2 = 0 ∨ C_ 1 (s_ / 2) 7 - 2 * zstp (C_ 5 v_ 11) (C_ 4 s_ 2) ≤ C_ 6 0 8) ↔ (s_ % 2 = 1 ∨ D_ 30 34 (s_ / 2) - zlv0 D_ v_ s_ ≤ D_ 7 0 2) := by
      rw [ez, e7_, e8]
      exact or_congr (by omega) Iff.rfl
    unfold zlvd zlvM
    rw [if_neg hng]
    simp only [hl]
    by_cases hc_ : s_ % 2 = 1 ∨ D_ 30 34 (s_ / 2) - zlv0 D_ v_ s_ ≤ D_ 7 0 2
    · rw [if_pos (hcd.mpr hc_), if_pos hc_, ez, e8, hcs.2.2.2.2.1]
      have eD : zlv2 D_ v_ s_ (zlv0 D_ v_ s_) = zset (zset (zset D_ 31 19 v_ 1) 30 20 v_ (D_ 7 0 2 + zlv0 D_ v_ s_)) 30 21 v_ (D_ 7 0 2 + zlv0 D_ v_ s_ + (2 + 2 * zmkd D_ (s_ / 2))) := by
        unfold zlv2 zlv1
        rw [zset_ne (by simp), zset_ne (by simp), zset_ne (by simp)]
        have ek : zmkd (zset (zset D_ 31 19 v_ 1) 30 20 v_ (D_ 7 0 2 + zlv0 D_ v_ s_)) (s_ / 2) = zmkd D_ (s_ / 2) := by
          unfold zmkd zmrd
          rw [zset_ne (by simp), zset_ne (by simp), zset_ne (by simp), zset_ne (by simp)]
        rw [ek]
      rw [eD]
      generalize hA : D_ 7 0 2 + zlv0 D_ v_ s_ = A_
      generalize hB_ : A_ + (2 + 2 * zmkd D_ (s_ / 2)) = B_
      have nc : ∀ c_ i_ f_, ¬ (c_ = 5 ∧ i_ = v_ ∧ f_ = 10) → ¬ (c_ = 4 ∧ i_ = s_ ∧ (f_ = 3 ∨ f_ = 4)) → zset (zset (zset C_ 5 v_ 10 1) 4 s_ 3 A_) 4 s_ 4 B_ c_ i_ f_ = C_ c_ i_ f_ := fun c_ i_ f_ x1_ x2_ => by
        rw [zset_ne (by omega), zset_ne (by omega), zset_ne x1_]
      have nd_ : ∀ c_ i_ f_, ¬ (c_ = 31 ∧ i_ = 19 ∧ f_ = v_) → ¬ (c_ = 30 ∧ (i_ = 20 ∨ i_ = 21) ∧ f_ = v_) → zset (zset (zset D_ 31 19 v_ 1) 30 20 v_ A_) 30 21 v_ B_ c_ i_ f_ = D_ c_ i_ f_ := fun c_ i_ f_ x1_ x2_ => by
        rw [zset_ne (by omega), zset_ne (by omega), zset_ne x1_]
      have k10 : zset (zset (zset C_ 5 v_ 10 1) 4 s_ 3 A_) 4 s_ 4 B_ 5 v_ 10 = 1 := by rw [zset_ne (by simp), zset_ne (by simp), zset_is]
      have k3_ : zset (zset (zset C_ 5 v_ 10 1) 4 s_ 3 A_) 4 s_ 4 B_ 4 s_ 3 = A_ := by rw [zset_ne (by simp), zset_is]
      have k4_ : zset (zset (zset C_ 5 v_ 10 1) 4 s_ 3 A_) 4 s_ 4 B_ 4 s_ 4 = B_ := zset_is
      have k19 : zset (zset (zset D_ 31 19 v_ 1) 30 20 v_ A_) 30 21 v_ B_ 31 19 v_ = 1 := by rw [zset_ne (by simp), zset_ne (by simp), zset_is]
      have k20 : zset (zset (zset D_ 31 19 v_ 1) 30 20 v_ A_) 30 21 v_ B_ 30 20 v_ = A_ := by rw [zset_ne (by simp), zset_is]
      have k21 : zset (zset (zset D_ 31 19 v_ 1) 30 20 v_ A_) 30 21 v_ B_ 30 21 v_ = B_ := zset_is
      generalize hC' : zset (zset (zset C_ 5 v_ 10 1) 4 s_ 3 A_) 4 s_ 4 B_ = C'_ at *
      generalize hD' : zset (zset (zset D_ 31 19 v_ 1) 30 20 v_ A_) 30 21 v_ B_ = D' at *
      have hsm : s_ ∈ L_ 24 v_ := by rw [hl]; exact List.mem_cons_self
      refine ⟨?_, fun c_ i_ f_ hh => nc c_ i_ f_ (by omega) (by omega), fun c_ i_ f_ hh => nd_ c_ i_ f_ (by omega) (by omega), nd_ 7 0 0 (by simp) (by simp), nd_ 7 0 2 (by simp) (by simp)⟩
      have hs : ∀ q_, zsea C'_ q_ = zsea C_ q_ := fun q_ => by unfold zsea; rw [nc 1 q_ 0 (by simp) (by simp), nc 2 _ 3 (by simp) (by simp)]
      have hch : ∀ q_, zchr C'_ q_ = zchr C_ q_ := fun q_ => by unfold zchr; rw [nc 1 q_ 0 (by simp) (by simp), nc 2 _ 0 (by simp) (by simp)]
      refine zzRw (w_ := v_) h_ (fun c_ i_ f_ hh => nc c_ i_ f_ (by omega) (by omega)) (fun w_ hw hne t_ ht => ?_) (fun f_ _ => nd_ 7 0 f_ (by simp) (by simp)) (fun i_ f_ hf => nd_ 30 i_ f_ (by simp) (fun e_ => hf e_.2.2 (by omega))) (fun i_ f_ hf => nd_ 31 i_ f_ (fun e_ => hf e_.2.2 (by omega)) (by simp)) (fun _ => ⟨?_, ?_, nd_ _ _ _ (by simp) (by simp), nd_ _ _ _ (by simp) (by simp), nd_ _ _ _ (by simp) (by simp)⟩) hv
      · have hts : ¬ t_ = s_ := fun e_ => hne (zzdsj h_ hw hv (e_ ▸ ht) hsm)
        exact ⟨nc 4 t_ 3 (by simp) (by simp [hts]), nc 4 t_ 4 (by simp) (by simp [hts])⟩
      · unfold zzRv zzcv
        rw [zzftak hs, zzfchl hch, nc 5 v_ 1 (by simp) (by simp), nc 5 v_ 2 (by simp) (by simp), nc 5 v_ 3 (by simp) (by simp), nc 5 v_ 11 (by simp) (by simp), nc 5 v_ 12 (by simp) (by simp), k10, k19, nc 5 v_ 4 (by simp) (by simp), nc 5 v_ 9 (by simp) (by simp), nd_ 30 12 v_ (by simp) (by simp), nd_ 30 13 v_ (by simp) (by simp), nd_ 30 14 v_ (by simp) (by simp), nd_ 30 17 v_ (by simp) (by simp), nd_ 30 18 v_ (by simp) (by simp), nd_ 30 15 v_ (by simp) (by simp), nd_ 31 16 v_ (by simp) (by simp), nd_ 30 23 v_ (by simp) (by simp), nd_ 30 25 v_ (by simp) (by simp)]
        exact ⟨⟨c1_, c2_, c3_, c4_, c5_, Iff.rfl, c7_, c8_⟩, a2, a3, a4, a5, a6.ix (nd_ _ _ _ (by simp) (by simp)) (fun k_ _ => nd_ _ _ _ (by simp) (by simp)), a7, a8, a9, b1, b2, b3, fun j_ q_ hj => by rw [nd_ 30 24 _ (by simp) (by simp)]; exact b4 j_ q_ hj⟩
      · unfold zzRl
        rw [k10, k20, k21, nd_ 31 22 v_ (by simp) (by simp)]
        refine ⟨fun _ => ⟨s_, r_, hl, k3_, k4_, ?_⟩, fun e_ => absurd e_ (by decide), fun t_ ht hne => ?_⟩
        · rw [nc 4 s_ 5 (by simp) (by simp)]
          exact ⟨fun _ => v2.2.1 h10, fun _ => Classical.byContradiction (fun hne => (v2.2.2 s_ hsm hne).1 h10)⟩
        · rw [nc 4 t_ 5 (by simp) (by simp)] at hne
          exact absurd h10 (v2.2.2 t_ ht hne).1
    · rw [if_neg (fun e_ => hc_ (hcd.mp e_)), if_neg hc_]
      exact ⟨h_, zzfm.rfl⟩
  · have e_ : zlvd C_ L_ v_ (C_ 6 0 8) = C_ := by
      unfold zlvd
      split
      · rfl
      · simp only [hl]
    rw [e_]
    exact ⟨h_, zzfm.rfl⟩
  · have e_ : zlvd C_ L_ v_ (C_ 6 0 8) = C_ := by
      unfold zlvd
      rw [if_pos]
      refine Classical.byContradiction (fun e_ => hn ⟨?_, ?_⟩)
      · exact c6_.mp (Classical.byContradiction (fun e2_ => e_ (Or.inl e2_)))
      · have := fun e2_ => e_ (Or.inr e2_)
        rw [e8, c5_] at this
        exact Int32.not_lt.mp this
    rw [e_]
    exact ⟨h_, zzfm.rfl⟩

