/-! THE CALLS: rider -/
theorem zzrdI {C_ : zIn} {i_ : Nat} {k_ w_ l y_ : Int32} {c_ i' f_ : Nat} (h1 : ¬ (c_ = 2 ∧ i' = i_)) (h2 : ¬ (c_ = 99 ∧ i' = 2 ∧ f_ = i_)) : zrdI C_ i_ k_ w_ l y_ c_ i' f_ = C_ c_ i' f_ := by
  unfold zrdI znwI
  by_cases h_ : c_ = 99
  · subst h_
    rw [if_pos rfl, if_neg (fun e_ => h2 ⟨rfl, e_⟩)]
  · rw [if_neg h_, if_neg h1]
theorem zzrdI_is {C_ : zIn} {i_ : Nat} {k_ w_ l y_ : Int32} {f_ : Nat} : zrdI C_ i_ k_ w_ l y_ 2 i_ f_ = zrw [k_, w_, l, (if k_ = 2 then 2 else 1) + (if y_ = 0 then 0 else 1), if k_ = 2 then 6 else if k_ = 1 then 4 else 2] f_ := by
  unfold zrdI
  rw [znwI_is (by decide)]
theorem zzriM {D_ : zIn} {n_ : Nat} {k_ w_ a_ b_ : Int32} {c_ i_ f_ : Nat} (h1 : ¬ (c_ = 30 ∧ (i_ = 7 ∨ i_ = 8 ∨ i_ = 9) ∧ f_ = n_)) (h2 : ¬ (c_ = 31 ∧ i_ = 10 ∧ f_ = n_)) (h3 : ¬ (c_ = 7 ∧ i_ = 0 ∧ f_ = 6)) : zriM D_ n_ k_ w_ a_ b_ c_ i_ f_ = D_ c_ i_ f_ := by
  unfold zriM zriZ
  rw [zset_ne h3, zset_ne h2, zset_ne (by omega), zset_ne (by omega), zset_ne (by omega)]
theorem zzsR {C_ D_ : zIn} {L_ : zLi} {p_ N_ M_ k_ : Nat} {w_ l y_ : Int32} (h_ : zzR C_ L_ D_ p_ N_ M_) (hp : p_ < 16) (hk : k_ ≤ 2) : zzR (zrdI C_ p_ (Int32.ofNat k_) w_ l y_) (zlup L_ 20 0 (L_ 20 0 ++ [p_])) (zriM D_ p_ (Int32.ofNat k_) w_ l y_) (p_ + 1) N_ M_ ∧ zriM D_ p_ (Int32.ofNat k_) w_ l y_ 7 0 6 = Int32.ofNat (p_ + 1) := by
  obtain ⟨h1, h2, h3, h4, h5, h6⟩ := h_
  obtain ⟨a1_, a2, a3, a4, a5, a6, a7, a8, a9, b1, b2, b3, b4, b5, b6, b7⟩ := h1
  have nc : ∀ c_ i_ f_, ¬ (c_ = 2 ∧ i_ = p_) → ¬ (c_ = 99 ∧ i_ = 2 ∧ f_ = p_) → zrdI C_ p_ (Int32.ofNat k_) w_ l y_ c_ i_ f_ = C_ c_ i_ f_ := fun c_ i_ f_ => zzrdI
  have nd_ : ∀ c_ i_ f_, ¬ (c_ = 30 ∧ (i_ = 7 ∨ i_ = 8 ∨ i_ = 9) ∧ f_ = p_) → ¬ (c_ = 31 ∧ i_ = 10 ∧ f_ = p_) → ¬ (c_ = 7 ∧ i_ = 0 ∧ f_ = 6) → zriM D_ p_ (Int32.ofNat k_) w_ l y_ c_ i_ f_ = D_ c_ i_ f_ := fun c_ i_ f_ => zzriM
  have nl : ∀ c_ u_, ¬ (c_ = 20 ∧ u_ = 0) → zlup L_ 20 0 (L_ 20 0 ++ [p_]) c_ u_ = L_ c_ u_ := fun c_ u_ h_ => zlup_ne h_
  have e6_ : zriM D_ p_ (Int32.ofNat k_) w_ l y_ 7 0 6 = Int32.ofNat (p_ + 1) := by
    unfold zriM zriZ
    rw [zset_is, zset_ne (by simp), zset_ne (by simp), zset_ne (by simp), zset_ne (by simp), a3, zisucc]
  obtain ⟨x1_, x2_, x3, x4_, x5_⟩ := h6
  have hu : ∀ r_, r_ < M_ → ∃ u_, u_ < p_ ∧ (C_ 1 r_ 0).toNatClampNeg = u_ ∧ (D_ 30 29 r_).toNatClampNeg = u_ := fun r_ hr => by
    obtain ⟨⟨u_, hu, q1_, q2_⟩, _⟩ := (h3 r_ hr).1
    exact ⟨u_, hu, by rw [q1_, zicl (by omega)], by rw [q2_, zicl (by omega)]⟩
  have hs : ∀ q_, q_ < M_ → zsea (zrdI C_ p_ (Int32.ofNat k_) w_ l y_) q_ = zsea C_ q_ := fun q_ hq => by
    obtain ⟨u_, hu1, hu2, _⟩ := hu q_ hq
    unfold zsea
    rw [nc 1 q_ 0 (by simp) (by simp), hu2, nc 2 u_ 3 (by omega) (by omega)]
  have hch : ∀ q_, q_ < M_ → zchr (zrdI C_ p_ (Int32.ofNat k_) w_ l y_) q_ = zchr C_ q_ := fun q_ hq => by
    obtain ⟨u_, hu1, hu2, _⟩ := hu q_ hq
    unfold zchr
    rw [nc 1 q_ 0 (by simp) (by simp), hu2, nc 2 u_ 0 (by omega) (by omega)]
  have hkd : ∀ q_, q_ < M_ → zmkd (zriM D_ p_ (Int32.ofNat k_) w_ l y_) q_ = zmkd D_ q_ := fun q_ hq => by
    obtain ⟨u_, hu1, _, hu3⟩ := hu q_ hq
    unfold zmkd zmrd
    rw [nd_ 30 29 q_ (by omega) (by omega) (by omega), hu3, nd_ 30 7 u_ (by omega) (by omega) (by omega)]
  have hse : ∀ q_, q_ < M_ → zmse (zriM D_ p_ (Int32.ofNat k_) w_ l y_) q_ = zmse D_ q_ := fun q_ hq => by
    obtain ⟨u_, hu1, _, hu3⟩ := hu q_ hq
    unfold zmse
    rw [hkd q_ hq]
    unfold zmrd
    rw [nd_ 30 29 q_ (by omega) (by omega) (by omega), hu3, nd_ 31 10 u_ (by omega) (by omega) (by omega)]
  refine ⟨⟨?_, fun i_ hi_ => ?_, fun r_ hr => ⟨?_, (h3 r_ hr).2.ix (fun f_ _ => nc 1 r_ f_ (by simp) (by simp)) (fun i_ a_ b_ => nd_ 30 i_ r_ (by omega) (by omega) (by omega)) (nd_ 31 40 r_ (by omega) (by omega) (by omega)) (nd_ 31 41 r_ (by omega) (by omega) (by omega))⟩, fun v_ hv => ⟨?_, ?_, ?_⟩, fun r_ hr => ?_, ?_⟩, e6_⟩
  · unfold zzRg
    rw [e6_, zlup_self, nl 21 0 (by simp), nl 22 0 (by simp), nd_ 7 0 11 (by omega) (by omega) (by omega), nd_ 7 0 28 (by omega) (by omega) (by omega), nd_ 7 0 2 (by omega) (by omega) (by omega), nd_ 7 0 1 (by omega) (by omega) (by omega), nd_ 7 0 3 (by omega) (by omega) (by omega), nd_ 7 0 5 (by omega) (by omega) (by omega), nc 6 0 8 (by simp) (by simp), nc 6 0 7 (by simp) (by simp), nc 6 0 6 (by simp) (by simp), zzcb_n (fun f_ => nc 31 0 f_ (by simp) (by simp))]
    refine ⟨by rw [a1_, List.range_succ], by omega, rfl, a4, a5, a6, a7, a8, a9, b1, b2, b3, b4, b5, fun j_ hj => ?_, b7⟩
    rw [nc 31 0 j_ (by simp) (by simp), nd_ 31 4 j_ (by omega) (by omega) (by omega)]
    exact b6 j_ hj
  · by_cases e_ : i_ = p_
    · subst e_
      refine ⟨k_, hk, ?_, ?_, ?_, ?_, ?_, ?_⟩
      · rw [zzrdI_is]; rfl
      · unfold zriM zriZ
        rw [zset_ne (by simp), zset_ne (by simp), zset_ne (by simp), zset_ne (by simp), zset_is]
      · rw [zzrdI_is]
        unfold zriM zriZ
        rw [zset_ne (by simp), zset_ne (by simp), zset_ne (by simp), zset_is]; rfl
      · rw [zzrdI_is]
        unfold zriM zriZ
        rw [zset_ne (by simp), zset_ne (by simp), zset_is]; rfl
      · rw [zzrdI_is]
        unfold zriM zriZ
        rw [zset_ne (by simp), zset_is]
        show (if Int32.ofNat k_ = 2 then (2 : Int32) else 1) + (if y_ = 0 then 0 else 1) = _
        by_cases hk2 : k_ = 2
        · rw [if_pos ((zzk2 hk).1.mpr hk2), if_pos hk2]
        · rw [if_neg (fun e_ => hk2 ((zzk2 hk).1.mp e_)), if_neg hk2]
      · rw [zzrdI_is]
        show (if Int32.ofNat k_ = 2 then (6 : Int32) else if Int32.ofNat k_ = 1 then 4 else 2) = _
        obtain rfl | rfl | rfl : k_ = 0 ∨ k_ = 1 ∨ k_ = 2 := by omega
        · decide
        · decide
        · decide
    · exact (h2 i_ (by omega)).ix (fun f_ => nc 2 i_ f_ (by omega) (by omega)) (nd_ 30 7 i_ (by omega) (by omega) (by omega)) (nd_ 30 8 i_ (by omega) (by omega) (by omega)) (nd_ 30 9 i_ (by omega) (by omega) (by omega)) (nd_ 31 10 i_ (by omega) (by omega) (by omega))
  · have hb_ := (h3 r_ hr).1.jx (C'_ := zrdI C_ p_ (Int32.ofNat k_) w_ l y_) (D' := zriM D_ p_ (Int32.ofNat k_) w_ l y_) (fun f_ hf => nc 1 r_ f_ (by simp) (by simp)) (fun i_ hi_ => nd_ 30 i_ r_ (by omega) (by omega) (by omega))
    obtain ⟨⟨u_, hu1, q1_, q2_⟩, q3_⟩ := hb_
    exact ⟨⟨u_, by omega, q1_, q2_⟩, q3_⟩
  · have ht5 := (h4 v_ hv).2.2.2.2.2.2.1
    exact (h4 v_ hv).1.ix (fun f_ => nc 5 v_ f_ (by simp) (by simp)) (nl 24 v_ (by simp)) (nl 26 v_ (by simp)) (fun q_ hq => hs q_ (ht5 q_ hq).1) (fun q_ hq => hch q_ (ht5 q_ hq).1) (fun i_ a_ b_ => nd_ 30 i_ v_ (by omega) (by omega) (by omega)) (nd_ 30 25 v_ (by omega) (by omega) (by omega)) (nd_ 31 16 v_ (by omega) (by omega) (by omega)) (nd_ 31 19 v_ (by omega) (by omega) (by omega)) (fun hro => hro.ix (nd_ 30 27 v_ (by omega) (by omega) (by omega)) (fun k_ _ => nd_ 30 26 _ (by omega) (by omega) (by omega))) (fun j_ _ => nd_ 30 24 _ (by omega) (by omega) (by omega))
  · exact (h4 v_ hv).2.1.ix (nc 5 v_ 10 (by simp) (by simp)) (nl 24 v_ (by simp)) (fun s_ _ => ⟨nc 4 s_ 5 (by simp) (by simp), fun _ _ => ⟨nc 4 s_ 3 (by simp) (by simp), nc 4 s_ 4 (by simp) (by simp)⟩⟩) (nd_ 30 20 v_ (by omega) (by omega) (by omega)) (nd_ 30 21 v_ (by omega) (by omega) (by omega)) (nd_ 31 22 v_ (by omega) (by omega) (by omega))
  · have ht4 := (h4 v_ hv).2.2.2.2.2.1
    exact (h4 v_ hv).2.2.ix (Nat.le_refl _) (nl 24 v_ (by simp)) (nl 25 v_ (by simp)) (nl 26 v_ (by simp)) (fun s_ _ => ⟨nc _ _ _ (by simp) (by simp), nc _ _ _ (by simp) (by simp), nc _ _ _ (by simp) (by simp), nc _ _ _ (by simp) (by simp), nc _ _ _ (by simp) (by simp)⟩) (fun q_ _ => ⟨nc _ _ _ (by simp) (by simp), nc _ _ _ (by simp) (by simp)⟩) (fun s_ _ => nc _ _ _ (by simp) (by simp)) hs hch (fun s_ hs => hkd _ (ht4 s_ hs).1) (fun s_ hs => hse _ (ht4 s_ hs).1) (nd_ 30 13 v_ (by omega) (by omega) (by omega)) (nd_ 30 14 v_ (by omega) (by omega) (by omega)) (nd_ 30 23 v_ (by omega) (by omega) (by omega)) (zzsq_ix M_ 0 0 (fun j_ _ hj => by unfold zsqN; rw [nd_ 30 32 j_ (by omega) (by omega) (by omega), nd_ 30 35 j_ (by omega) (by omega) (by omega), hse j_ (by omega)]))
  · exact (h5 r_ hr).ix (nc _ _ _ (by simp) (by simp)) (nc _ _ _ (by simp) (by simp)) (nc _ _ _ (by simp) (by simp)) (fun v_ _ h_ => by rw [nl 24 v_ (by simp)]; exact h_) (fun v_ _ h_ => by rw [nl 24 v_ (by simp)]; exact h_) (fun v_ _ h_ => by rw [nl 26 v_ (by simp)]; exact h_)
  · refine ⟨fun i_ hi_ => ?_, fun r_ hr => ?_, fun v_ hv => ?_, fun r_ h1 h2 => ?_, fun v_ h1 h2 => ?_⟩
    · rw [nc 99 2 i_ (by simp) (by omega)]; exact x1_ i_ (by omega)
    · rw [nc 99 1 r_ (by simp) (by simp), nc 99 4 (2 * r_) (by simp) (by simp), nc 99 4 (2 * r_ + 1) (by simp) (by simp)]; exact x2_ r_ hr
    · rw [nc 99 5 v_ (by simp) (by simp), nc 99 0 v_ (by simp) (by simp), nc 99 24 v_ (by simp) (by simp), nc 99 25 v_ (by simp) (by simp), nc 99 26 v_ (by simp) (by simp), nc 99 27 v_ (by simp) (by simp), nl 24 v_ (by simp), nl 25 v_ (by simp), nl 26 v_ (by simp), nl 27 v_ (by simp)]; exact x3 v_ hv
    · rw [nd_ 30 33 r_ (by omega) (by omega) (by omega), nd_ 31 40 r_ (by omega) (by omega) (by omega), nd_ 31 41 r_ (by omega) (by omega) (by omega)]; exact x4_ r_ h1 h2
    · rw [nd_ 30 18 v_ (by omega) (by omega) (by omega), nd_ 31 19 v_ (by omega) (by omega) (by omega), nd_ 31 22 v_ (by omega) (by omega) (by omega), nd_ 30 23 v_ (by omega) (by omega) (by omega), nd_ 30 25 v_ (by omega) (by omega) (by omega), nd_ 30 27 v_ (by omega) (by omega) (by omega)]; exact x5_ v_ h1 h2
