/-! THE MINUTE: a drop is done -/
theorem zzDp {C_ D_ : zIn} {L_ : zLi} {p_ N_ M_ v_ s_ : Nat} {l : List Nat} (h_ : zzR C_ L_ D_ p_ N_ M_) (hv : v_ < N_) (hne : ¬ C_ 5 v_ 10 = 0) (hl : L_ 24 v_ = s_ :: l) (hodd : ¬ s_ % 2 = 0) : zzR (zset (zset (zfi1 C_ v_ s_ (D_ 7 0 2)) 1 (s_ / 2) 12 (zfi1 C_ v_ s_ (D_ 7 0 2) 4 s_ 3)) 1 (s_ / 2) 5 2) (zlup (zfiL L_ v_ s_) 26 v_ (ztka (s_ / 2) (zfiL L_ v_ s_ 26 v_).length (zfiL L_ v_ s_ 26 v_))) (zdrM (zdn4 D_ v_ s_ l.length) v_ (s_ / 2)) p_ N_ M_ ∧ zzfm C_ D_ (zset (zset (zfi1 C_ v_ s_ (D_ 7 0 2)) 1 (s_ / 2) 12 (zfi1 C_ v_ s_ (D_ 7 0 2) 4 s_ 3)) 1 (s_ / 2) 5 2) (zdrM (zdn4 D_ v_ s_ l.length) v_ (s_ / 2)) := by
  obtain ⟨v1_, v2, v3⟩ := h_.2.2.2.1 v_ hv
  obtain ⟨s', l', e1_, e3_, e4_, e5_⟩ := v2.1 hne
  have hss : s' = s_ := by rw [hl] at e1_; exact (List.cons.inj e1_).1.symm
  subst hss
  have hQ := zzQ_of h_ hv
  obtain ⟨a1_, a2, a3, a4, a5, a6, a7, a8, a9, b1, b2, b3, b4⟩ := v1_
  obtain ⟨c1_, c2_, c3_, c4_, c5_, c6_, c7_, c8_⟩ := a1_
  obtain ⟨t1_, t2_, t3_, t4_, t5_, t6, t7, t8, t9⟩ := v3
  have hN4 := h_.1.2.2.2.2.1
  have hM60 := h_.1.2.2.2.2.2.2.2.1
  have hsm : s' ∈ L_ 24 v_ := by rw [hl]; exact List.mem_cons_self
  obtain ⟨hqM, hq8, _, _, _⟩ := t4_ s' hsm
  rw [hl] at t1_ t6 t7
  have n1_ := (List.nodup_cons.mp t1_).1
  have n2_ := (List.nodup_cons.mp t1_).2
  obtain ⟨hqA, hvl⟩ := (zzvl_o hodd).mp t6
  obtain ⟨hlast, hfe⟩ := (zzfe_o hodd).mp t7
  have h51 := (t5_ _ hqA).2.1
  have hl16 : l.length ≤ 16 := by have := a6.2.1; rw [hl, List.length_cons] at this; omega
  obtain ⟨gb, gc_⟩ := h_.2.2.1 (s' / 2) hqM
  have hcs := (hQ.2.2.2.1 s' hsm).2.1
  have hsea : zsea C_ (s' / 2) = zmse D_ (s' / 2) := hcs.2.2.2.2.2.1
  have hchq : zchr C_ (s' / 2) = decide (zmkd D_ (s' / 2) = 2) := hcs.2.2.2.2.2.2.1
  obtain ⟨f1_, f2_, f3_, f4_⟩ := zzfiL hl
  obtain ⟨g1, g2, g3_, g4⟩ := zzfi1 (C_ := C_) (v_ := v_) (s_ := s') (x_ := D_ 7 0 2)
  have hro4 := zzdn4_ro (hl ▸ a6)
  obtain ⟨i1_, i2_, i3_, i4_⟩ := zzdn4_is (D_ := D_) (v_ := v_) (s_ := s') (n_ := l.length)
  have nDn : ∀ c_ i_ f_, ¬ (c_ = 31 ∧ (i_ = 19 ∨ i_ = 22) ∧ f_ = v_) → ¬ (c_ = 30 ∧ (i_ = 17 ∨ i_ = 18 ∨ i_ = 27) ∧ f_ = v_) → ¬ (c_ = 30 ∧ i_ = 26 ∧ 16 * v_ ≤ f_ ∧ f_ < 16 * v_ + 16) → ¬ (c_ = 30 ∧ i_ = 43) → ¬ (c_ = 7 ∧ i_ = 0 ∧ f_ = 42) → zdn4 D_ v_ s' l.length c_ i_ f_ = D_ c_ i_ f_ := fun c_ i_ f_ => zzdn4 hl16
  generalize hDn : zdn4 D_ v_ s' l.length = Dn at *
  have sDn : ∀ q_, zmse Dn q_ = zmse D_ q_ := fun q_ => by
    unfold zmse zmkd zmrd
    rw [nDn 30 29 q_ (by simp) (by simp) (by simp) (by simp) (by simp), nDn 30 7 _ (by simp) (by simp) (by simp) (by simp) (by simp), nDn 31 10 _ (by simp) (by simp) (by simp) (by simp) (by simp)]
  have kDn : ∀ q_, zmkd Dn q_ = zmkd D_ q_ := fun q_ => by
    unfold zmkd zmrd
    rw [nDn 30 29 q_ (by simp) (by simp) (by simp) (by simp) (by simp), nDn 30 7 _ (by simp) (by simp) (by simp) (by simp) (by simp)]
  have eD : zdrM Dn v_ (s' / 2) = zset (zset (zset (zset Dn 30 38 (s' / 2) (D_ 30 20 v_)) 30 32 (s' / 2) 2) 30 23 v_ (D_ 30 23 v_ - zmse D_ (s' / 2))) 30 25 v_ (D_ 30 25 v_ - (if zmkd D_ (s' / 2) = 2 then 1 else 0)) := by
    unfold zdrM zdr3 zdr2
    have x1_ : ∀ (y_ z_ w_ : Int32), zmkd (zset (zset (zset Dn 30 38 (s' / 2) y_) 30 32 (s' / 2) z_) 30 23 v_ w_) (s' / 2) = zmkd D_ (s' / 2) := fun y_ z_ w_ => by
      rw [← kDn]
      unfold zmkd zmrd
      rw [zset_ne (by simp), zset_ne (by simp), zset_ne (by simp), zset_ne (by simp), zset_ne (by simp), zset_ne (by simp)]
    have x2_ : ∀ (y_ z_ : Int32), zmse (zset (zset Dn 30 38 (s' / 2) y_) 30 32 (s' / 2) z_) (s' / 2) = zmse D_ (s' / 2) := fun y_ z_ => by
      rw [← sDn]
      unfold zmse zmkd zmrd
      rw [zset_ne (by simp), zset_ne (by simp), zset_ne (by simp), zset_ne (by simp), zset_ne (by simp), zset_ne (by simp)]
    rw [x1_, x2_, zset_ne (show ¬ (30 = 30 ∧ 25 = 23 ∧ v_ = v_) by simp), zset_ne (show ¬ (30 = 30 ∧ 25 = 32 ∧ v_ = s' / 2) by simp), zset_ne (show ¬ (30 = 30 ∧ 25 = 38 ∧ v_ = s' / 2) by simp), zset_ne (show ¬ (30 = 30 ∧ 23 = 32 ∧ v_ = s' / 2) by simp), zset_ne (show ¬ (30 = 30 ∧ 23 = 38 ∧ v_ = s' / 2) by simp), nDn 30 20 v_ (by simp) (by simp) (by simp) (by simp) (by simp), nDn 30 23 v_ (by simp) (by simp) (by simp) (by simp) (by simp), nDn 30 25 v_ (by simp) (by simp) (by simp) (by simp) (by simp)]
  rw [eD, g4 4 s' 3 (by simp), e3_, f3_, zztka]
  generalize hq : s' / 2 = q_ at *
  have nc : ∀ c_ i_ f_, ¬ (c_ = 5 ∧ i_ = v_ ∧ (f_ = 10 ∨ f_ = 11 ∨ f_ = 12)) → ¬ (c_ = 1 ∧ i_ = q_ ∧ (f_ = 5 ∨ f_ = 12)) → zset (zset (zfi1 C_ v_ s' (D_ 7 0 2)) 1 q_ 12 (D_ 30 20 v_)) 1 q_ 5 2 c_ i_ f_ = C_ c_ i_ f_ := fun c_ i_ f_ x1_ x2_ => by
    rw [zset_ne (by omega), zset_ne (by omega), g4 c_ i_ f_ x1_]
  have p10 : zset (zset (zfi1 C_ v_ s' (D_ 7 0 2)) 1 q_ 12 (D_ 30 20 v_)) 1 q_ 5 2 5 v_ 10 = 0 := by rw [zset_ne (by simp), zset_ne (by simp), g1]
  have p11 : zset (zset (zfi1 C_ v_ s' (D_ 7 0 2)) 1 q_ 12 (D_ 30 20 v_)) 1 q_ 5 2 5 v_ 11 = zmpl D_ s' := by rw [zset_ne (by simp), zset_ne (by simp), g2, hcs.1]
  have p12 : zset (zset (zfi1 C_ v_ s' (D_ 7 0 2)) 1 q_ 12 (D_ 30 20 v_)) 1 q_ 5 2 5 v_ 12 = D_ 7 0 2 := by rw [zset_ne (by simp), zset_ne (by simp), g3_]
  have p5_ : zset (zset (zfi1 C_ v_ s' (D_ 7 0 2)) 1 q_ 12 (D_ 30 20 v_)) 1 q_ 5 2 1 q_ 5 = 2 := zset_is
  have pq_ : zset (zset (zfi1 C_ v_ s' (D_ 7 0 2)) 1 q_ 12 (D_ 30 20 v_)) 1 q_ 5 2 1 q_ 12 = D_ 30 20 v_ := by rw [zset_ne (by simp), zset_is]
  generalize hC' : zset (zset (zfi1 C_ v_ s' (D_ 7 0 2)) 1 q_ 12 (D_ 30 20 v_)) 1 q_ 5 2 = C'_ at *
  have nd_ : ∀ c_ i_ f_, ¬ (c_ = 31 ∧ (i_ = 19 ∨ i_ = 22) ∧ f_ = v_) → ¬ (c_ = 30 ∧ (i_ = 17 ∨ i_ = 18 ∨ i_ = 23 ∨ i_ = 25 ∨ i_ = 27) ∧ f_ = v_) → ¬ (c_ = 30 ∧ i_ = 26 ∧ 16 * v_ ≤ f_ ∧ f_ < 16 * v_ + 16) → ¬ (c_ = 30 ∧ i_ = 43) → ¬ (c_ = 7 ∧ i_ = 0 ∧ f_ = 42) → ¬ (c_ = 30 ∧ (i_ = 38 ∨ i_ = 32) ∧ f_ = q_) → zset (zset (zset (zset Dn 30 38 q_ (D_ 30 20 v_)) 30 32 q_ 2) 30 23 v_ (D_ 30 23 v_ - zmse D_ q_)) 30 25 v_ (D_ 30 25 v_ - (if zmkd D_ q_ = 2 then 1 else 0)) c_ i_ f_ = D_ c_ i_ f_ := fun c_ i_ f_ x1_ x2_ x3 x4_ x5_ x6 => by
    rw [zset_ne (by omega), zset_ne (by omega), zset_ne (by omega), zset_ne (by omega), nDn c_ i_ f_ x1_ (by omega) x3 x4_ x5_]
  have nDD : ∀ c_ i_ f_, ¬ (c_ = 30 ∧ (i_ = 38 ∨ i_ = 32 ∨ i_ = 23 ∨ i_ = 25)) → zset (zset (zset (zset Dn 30 38 q_ (D_ 30 20 v_)) 30 32 q_ 2) 30 23 v_ (D_ 30 23 v_ - zmse D_ q_)) 30 25 v_ (D_ 30 25 v_ - (if zmkd D_ q_ = 2 then 1 else 0)) c_ i_ f_ = Dn c_ i_ f_ := fun c_ i_ f_ x1_ => by
    rw [zset_ne (by omega), zset_ne (by omega), zset_ne (by omega), zset_ne (by omega)]
  have k25 : zset (zset (zset (zset Dn 30 38 q_ (D_ 30 20 v_)) 30 32 q_ 2) 30 23 v_ (D_ 30 23 v_ - zmse D_ q_)) 30 25 v_ (D_ 30 25 v_ - (if zmkd D_ q_ = 2 then 1 else 0)) 30 25 v_ = D_ 30 25 v_ - (if zmkd D_ q_ = 2 then 1 else 0) := zset_is
  have k23 : zset (zset (zset (zset Dn 30 38 q_ (D_ 30 20 v_)) 30 32 q_ 2) 30 23 v_ (D_ 30 23 v_ - zmse D_ q_)) 30 25 v_ (D_ 30 25 v_ - (if zmkd D_ q_ = 2 then 1 else 0)) 30 23 v_ = D_ 30 23 v_ - zmse D_ q_ := by rw [zset_ne (by simp), zset_is]
  have k32 : zset (zset (zset (zset Dn 30 38 q_ (D_ 30 20 v_)) 30 32 q_ 2) 30 23 v_ (D_ 30 23 v_ - zmse D_ q_)) 30 25 v_ (D_ 30 25 v_ - (if zmkd D_ q_ = 2 then 1 else 0)) 30 32 q_ = 2 := by rw [zset_ne (by simp), zset_ne (by simp), zset_is]
  have k38 : zset (zset (zset (zset Dn 30 38 q_ (D_ 30 20 v_)) 30 32 q_ 2) 30 23 v_ (D_ 30 23 v_ - zmse D_ q_)) 30 25 v_ (D_ 30 25 v_ - (if zmkd D_ q_ = 2 then 1 else 0)) 30 38 q_ = D_ 30 20 v_ := by rw [zset_ne (by simp), zset_ne (by simp), zset_ne (by simp), zset_is]
  generalize hD' : zset (zset (zset (zset Dn 30 38 q_ (D_ 30 20 v_)) 30 32 q_ 2) 30 23 v_ (D_ 30 23 v_ - zmse D_ q_)) 30 25 v_ (D_ 30 25 v_ - (if zmkd D_ q_ = 2 then 1 else 0)) = D' at *
  have l24 : zlup (zfiL L_ v_ s') 26 v_ ((L_ 26 v_).filter (fun s_ => decide (¬ s_ = q_))) 24 v_ = l := by rw [zlup_ne (by simp)]; exact f1_
  have l25 : zlup (zfiL L_ v_ s') 26 v_ ((L_ 26 v_).filter (fun s_ => decide (¬ s_ = q_))) 25 v_ = L_ 25 v_ ++ [s'] := by rw [zlup_ne (by simp)]; exact f2_
  have l26 : zlup (zfiL L_ v_ s') 26 v_ ((L_ 26 v_).filter (fun s_ => decide (¬ s_ = q_))) 26 v_ = (L_ 26 v_).filter (fun s_ => decide (¬ s_ = q_)) := zlup_self
  have nl : ∀ c_ u_, ¬ (u_ = v_ ∧ (c_ = 24 ∨ c_ = 25 ∨ c_ = 26)) → zlup (zfiL L_ v_ s') 26 v_ ((L_ 26 v_).filter (fun s_ => decide (¬ s_ = q_))) c_ u_ = L_ c_ u_ := fun c_ u_ hh => by
    rw [zlup_ne (by omega)]; exact f4_ c_ u_ hh
  generalize hL' : zlup (zfiL L_ v_ s') 26 v_ ((L_ 26 v_).filter (fun s_ => decide (¬ s_ = q_))) = L' at *
  have hs : ∀ q_, zsea C'_ q_ = zsea C_ q_ := fun q_ => by unfold zsea; rw [nc 1 q_ 0 (by simp) (by simp), nc 2 _ 3 (by simp) (by simp)]
  have hch : ∀ q_, zchr C'_ q_ = zchr C_ q_ := fun q_ => by unfold zchr; rw [nc 1 q_ 0 (by simp) (by simp), nc 2 _ 0 (by simp) (by simp)]
  have hkd : ∀ q_, zmkd D' q_ = zmkd D_ q_ := fun q_ => by
    rw [← kDn]
    unfold zmkd zmrd
    rw [nDD 30 29 q_ (by simp), nDD 30 7 _ (by simp)]
  have hse : ∀ q_, zmse D' q_ = zmse D_ q_ := fun q_ => by
    rw [← sDn]
    unfold zmse zmkd zmrd
    rw [nDD 30 29 q_ (by simp), nDD 30 7 _ (by simp), nDD 31 10 _ (by simp)]
  -- the sums
  have htk := zztak_fil (C_ := C_) (L_ 26 v_) 0 t2_ hqA
  rw [a7, hsea] at htk
  have hA' : ∀ x_ ∈ (L_ 26 v_).filter (fun s_ => decide (¬ s_ = q_)), x_ ∈ L_ 26 v_ ∧ ¬ x_ = q_ := fun x_ hx => by
    rw [List.mem_filter, decide_eq_true_iff] at hx; exact hx
  have hle26 := (zzA26 h_ hv).1
  have hb_ := zztakB (C_ := C_) ((L_ 26 v_).filter (fun s_ => decide (¬ s_ = q_))) 0 (fun x_ hx => by
    have hxM := (t5_ x_ (hA' x_ hx).1).1
    obtain ⟨hxb, _⟩ := h_.2.2.1 x_ hxM
    rw [(zzsm hxb h_.1.2.1 h_.2.1).1]; exact zzse x_) (by decide) (by
    have := List.length_filter_le (fun s_ => decide (¬ s_ = q_)) (L_ 26 v_)
    have e0_ : (0 : Int32).toInt = 0 := by decide
    rw [e0_]; omega)
  have e0_ : (0 : Int32).toInt = 0 := by decide
  rw [e0_] at hb_
  have hlf := List.length_filter_le (fun s_ => decide (¬ s_ = q_)) (L_ 26 v_)
  have e23_ : D_ 30 23 v_ - zmse D_ q_ = ztak C_ ((L_ 26 v_).filter (fun s_ => decide (¬ s_ = q_))) 0 := by rw [htk]; grind
  have hsq3 := zzse (D_ := D_) q_
  have i23 : (D_ 30 23 v_).toInt = (ztak C_ ((L_ 26 v_).filter (fun s_ => decide (¬ s_ = q_))) 0).toInt + (zmse D_ q_).toInt := by
    rw [htk]; exact zziadd (by omega) (by omega)
  have hcl : zchl C_ ((L_ 26 v_).filter (fun s_ => decide (¬ s_ = q_))) = zzsd D_ s' (zchl C_ (L_ 26 v_)) := by
    rw [zzchl_fil]
    unfold zzsd
    rw [hq]
    by_cases hk : zmkd D_ q_ = 2
    · rw [if_pos hk]
      refine zzdl (t2_.sublist List.filter_sublist) ?_
      refine hlast.resolve_left (fun e_ => ?_)
      unfold zmch at e_
      rw [hq, if_pos hk] at e_
      exact absurd e_ (by decide)
    · rw [if_neg hk]
      refine zzfil (fun hm_ => ?_)
      have := (List.mem_filter.mp hm_).2
      rw [hchq, decide_eq_false hk] at this
      exact absurd this (by decide)
  have hqodd : s' = 2 * q_ + 1 := by omega
  have hlq : ∀ x_ ∈ l, ¬ x_ / 2 = q_ := fun x_ hx e_ => by
    by_cases hx2 : x_ % 2 = 0
    · have := (t4_ x_ (by rw [hl]; exact List.mem_cons_of_mem _ hx)).2.2.1 hx2
      rw [e_, h51] at this
      exact absurd this (by decide)
    · exact n1_ ((show s' = x_ by omega) ▸ hx)
  have h25v : ∀ x_ ∈ L_ 25 v_, x_ / 2 = q_ → x_ % 2 = 0 := fun x_ hx e_ => Classical.byContradiction (fun hx2 => by
    have := (t8 x_ hx).2.2 hx2
    rw [e_, h51] at this
    exact absurd this (by decide))
  have hs25 : ¬ s' ∈ L_ 25 v_ := fun hm_ => hodd (h25v s' hm_ hq)
  have e35 : D_ 30 35 q_ = Int32.ofNat v_ := by rw [← gc_.2.2.2.1]; exact hq8
  have e32 : D_ 30 32 q_ = 1 := by rw [← gc_.2.1]; exact h51
  refine ⟨zzRz (r_ := q_) h_ hv hqM (fun c_ i_ f_ hh _ => nc c_ i_ f_ (by omega) (by omega)) (fun f_ hf => nc 1 q_ f_ (by simp) (by omega)) (fun w_ _ _ t_ _ => ⟨nc _ _ _ (by simp) (by simp), fun _ _ => ⟨nc _ _ _ (by simp) (by simp), nc _ _ _ (by simp) (by simp)⟩⟩) (fun f_ hf => nd_ 7 0 f_ (by simp) (by simp) (by simp) (by simp) (by omega) (by simp)) (fun f_ => ⟨nd_ _ _ _ (by simp) (by simp) (by simp) (by simp) (by simp) (by simp), nd_ _ _ _ (by simp) (by simp) (by simp) (by simp) (by simp) (by simp), nd_ _ _ _ (by simp) (by simp) (by simp) (by simp) (by simp) (by simp), nd_ _ _ _ (by simp) (by simp) (by simp) (by simp) (by simp) (by simp), nd_ _ _ _ (by simp) (by simp) (by simp) (by simp) (by simp) (by simp)⟩) (fun i_ x_ a_ b_ hx => nd_ 30 i_ x_ (by omega) (by omega) (by omega) (by omega) (by omega) (by omega)) (fun x_ hx => ⟨nd_ 31 40 x_ (by simp) (by simp) (by simp) (by simp) (by simp) (by simp), nd_ 31 41 x_ (by simp) (by simp) (by simp) (by simp) (by simp) (by simp)⟩) (fun i_ w_ a_ b_ c_ c' hw => nd_ 30 i_ w_ (by omega) (by omega) (by omega) (by omega) (by omega) (by omega)) (fun w_ hw => ⟨nd_ _ _ _ (by simp [hw]) (by simp) (by simp) (by simp) (by simp) (by simp), nd_ _ _ _ (by simp [hw]) (by simp) (by simp) (by simp) (by simp) (by simp), nd_ _ _ _ (by simp [hw]) (by simp) (by simp) (by simp) (by simp) (by simp)⟩) (nd_ _ _ _ (by simp) (by simp) (by simp) (by simp) (by simp) (by simp)) (nd_ _ _ _ (by simp) (by simp) (by simp) (by simp) (by simp) (by simp)) (fun w_ j_ hw hj => nd_ _ _ _ (by simp) (by simp) (by simp) (by simp) (by simp) (by simp)) (fun w_ k_ hw hk => nd_ 30 26 _ (by simp) (by simp) (by omega) (by simp) (by simp) (by simp)) (fun c_ u_ h1 h2 h3 => nl c_ u_ h3) ⟨?_, ?_, ?_⟩ ⟨?_, ?_, ?_⟩ (fun w_ hw hwv t_ ht e_ => ?_) (fun w_ hw hwv t_ ht e_ => ?_) (fun w_ hw hwv t_ ht => ?_) (fun w_ hw hwv => zzsqr (r_ := q_) (fun j_ _ hj => ⟨nd_ 30 32 j_ (by simp) (by simp) (by simp) (by simp) (by simp) (by simp [hj]), nd_ 30 35 j_ (by simp) (by simp) (by simp) (by simp) (by simp) (by simp)⟩) hse (fun e_ => ?_) (fun e_ => ?_)) (fun t_ ht hm_ => ?_) (fun t_ ht hm_ => ?_), fun c_ i_ f_ hh => nc c_ i_ f_ (by omega) (by omega), fun c_ i_ f_ hh => nd_ c_ i_ f_ (by omega) (by omega) (by omega) (by omega) (by omega) (by omega), nd_ 7 0 0 (by simp) (by simp) (by simp) (by simp) (by simp) (by simp), nd_ 7 0 2 (by simp) (by simp) (by simp) (by simp) (by simp) (by simp)⟩
  · unfold zzRv zzcv
    rw [l24, l26, zzftak hs, zzfchl hch, p10, p11, p12, nc 5 v_ 1 (by simp) (by simp), nc 5 v_ 2 (by simp) (by simp), nc 5 v_ 3 (by simp) (by simp), nc 5 v_ 4 (by simp) (by simp), nc 5 v_ 9 (by simp) (by simp), k25, k23, e23_, hcl, nDD 31 19 v_ (by simp), i1_, nDD 30 17 v_ (by simp), i3_, nDD 30 18 v_ (by simp), i4_, nd_ 30 12 v_ (by simp) (by simp) (by simp) (by simp) (by simp) (by simp), nd_ 30 13 v_ (by simp) (by simp) (by simp) (by simp) (by simp) (by simp), nd_ 30 14 v_ (by simp) (by simp) (by simp) (by simp) (by simp) (by simp), nd_ 30 15 v_ (by simp) (by simp) (by simp) (by simp) (by simp) (by simp), nd_ 31 16 v_ (by simp) (by simp) (by simp) (by simp) (by simp) (by simp)]
    have hlen : (zzsd D_ s' (zchl C_ (L_ 26 v_))).length ≤ (zchl C_ (L_ 26 v_)).length ∧ D_ 30 25 v_ - (if zmkd D_ q_ = 2 then 1 else 0) = Int32.ofNat (zzsd D_ s' (zchl C_ (L_ 26 v_))).length := by
      rw [b1]
      unfold zzsd
      rw [hq]
      by_cases hk : zmkd D_ q_ = 2
      · rw [if_pos hk, if_pos hk, List.length_dropLast]
        have hpos : 1 ≤ (zchl C_ (L_ 26 v_)).length := by
          have hm_ : q_ ∈ zchl C_ (L_ 26 v_) := List.mem_filter.mpr ⟨hqA, by rw [hchq]; exact decide_eq_true hk⟩
          exact List.length_pos_of_mem hm_
        exact ⟨by omega, (Int32.ofNat_sub _ 1 hpos).symm⟩
      · rw [if_neg hk, if_neg hk, Int32.sub_zero]
        exact ⟨Nat.le_refl _, rfl⟩
    refine ⟨⟨c1_, c2_, c3_, rfl, rfl, ⟨fun _ => rfl, fun _ => rfl⟩, hcs.2.1, c8_⟩, a2, a3, a4, a5, hro4.ix (nDD _ _ _ (by simp)) (fun k_ _ => nDD _ _ _ (by simp)), rfl, by omega, ?_, hlen.2, ?_, by omega, fun j_ x_ hj => ?_⟩
    · rw [Int32.le_iff_toInt_le] at a9 ⊢
      omega
    · obtain ⟨m_, hm_, em⟩ := a5
      rw [em] at b2 ⊢
      rw [zile (by omega) (by omega)] at b2 ⊢
      omega
    · rw [nd_ 30 24 _ (by simp) (by simp) (by simp) (by simp) (by simp) (by simp)]
      refine b4 j_ x_ ?_
      unfold zzsd at hj
      split at hj
      · rw [List.getElem?_dropLast] at hj
        split at hj
        · exact hj
        · exact absurd hj (by simp)
      · exact hj
  · unfold zzRl
    rw [l24, p10, nDD 31 22 v_ (by simp), i2_]
    refine ⟨fun e_ => absurd rfl e_, fun _ => rfl, fun t_ ht hx => ?_⟩
    rw [nc 4 t_ 5 (by simp) (by simp)] at hx
    have h0 := (v2.2.2 t_ (by rw [hl]; exact List.mem_cons_of_mem _ ht) hx).2
    rw [hl] at h0
    have : s' = t_ := by simpa using h0
    exact absurd (this ▸ ht) n1_
  · unfold zzRt
    rw [l24, l25, l26, zzfchl hch, hcl, k23]
    refine ⟨n2_, t2_.sublist List.filter_sublist, List.nodup_append.mpr ⟨t3_, List.nodup_cons.mpr ⟨List.not_mem_nil, List.nodup_nil⟩, fun a_ ha_ b_ hb_ e_ => ?_⟩, fun t_ ht => ?_, fun t_ ht => ?_, zzvl_era _ _ _ hvl (fun hm_ => n1_ (hqodd ▸ hm_)) (fun x_ hx hxq => List.mem_filter.mpr ⟨hx, decide_eq_true hxq⟩), ?_, fun t_ ht => ?_, ?_⟩
    · rw [List.mem_singleton] at hb_
      exact hs25 (hb_ ▸ e_ ▸ ha_)
    · have htq := hlq t_ ht
      rw [nc 1 _ 8 (by simp) (by simp), nc 1 _ 5 (by simp) (by simp [htq]), nc 1 _ 1 (by simp) (by simp), nc 1 _ 2 (by simp) (by simp), nc 4 t_ 2 (by simp) (by simp)]
      exact t4_ t_ (by rw [hl]; exact List.mem_cons_of_mem _ ht)
    · obtain ⟨x1_, x2_⟩ := hA' t_ ht
      rw [nc 1 _ 8 (by simp) (by simp), nc 1 _ 5 (by simp) (by simp [x2_])]
      exact t5_ t_ x1_
    · have e_ : (D_ 30 23 v_ - zmse D_ q_).toInt = (D_ 30 23 v_).toInt - (zmse D_ q_).toInt := by rw [e23_]; omega
      rw [e_]
      exact zzfe_m hkd hse (nd_ _ _ _ (by simp) (by simp) (by simp) (by simp) (by simp) (by simp)) (nd_ _ _ _ (by simp) (by simp) (by simp) (by simp) (by simp) (by simp)) _ _ _ hfe
    · rw [List.mem_append, List.mem_singleton] at ht
      rcases ht with ht | rfl
      · refine ⟨(t8 t_ ht).1, ?_⟩
        by_cases e_ : t_ / 2 = q_
        · rw [e_, p5_]
          exact ⟨fun _ => by decide, fun _ => rfl⟩
        · rw [nc 1 _ 5 (by simp) (by simp [e_])]
          exact (t8 t_ ht).2
      · rw [hq, p5_]
        exact ⟨hqM, fun _ => by decide, fun _ => rfl⟩
    · have hx1 : zsqL D' v_ M_ 0 0 = zsqL D_ v_ M_ 0 0 - zmse D_ q_ := by
        rw [zzsq1 (D_ := D_) (r_ := q_) M_ 0 0 (Nat.zero_le _) (by omega) (fun j_ _ hj hne => by
          unfold zsqN
          rw [nd_ 30 32 j_ (by simp) (by simp) (by simp) (by simp) (by simp) (by simp [hne]), nd_ 30 35 j_ (by simp) (by simp) (by simp) (by simp) (by simp) (by simp), hse])]
        have y1 : zsqN D' v_ q_ = 0 := by
          unfold zsqN
          rw [k32, if_neg (fun e_ => absurd e_.1 (by decide))]
        have y2 : zsqN D_ v_ q_ = zmse D_ q_ := by
          unfold zsqN
          rw [if_pos ⟨e32, e35⟩]
        rw [y1, y2]
        grind
      rw [zzsbd_app, if_neg hodd, hq, hs, hsea, hx1, ← t9]
      congr 1
      have key_ : ∀ (r_ : List Nat) (x_ : Int32), (∀ t_ ∈ r_, t_ ∈ L_ 25 v_) → zsbd C'_ r_ x_ = zsbd C_ r_ x_ := by
        intro r_
        induction r_ with
        | nil => intro x_ _; rfl
        | cons t_ r_ ih_ =>
          intro x_ hr
          unfold zsbd
          rw [ih_ _ (fun u_ hu => hr u_ (List.mem_cons_of_mem _ hu)), hs]
          congr 1
          by_cases e_ : t_ / 2 = q_
          · rw [e_, p5_, h51, if_pos (h25v t_ (hr t_ List.mem_cons_self) e_), if_pos (h25v t_ (hr t_ List.mem_cons_self) e_)]
            rw [if_pos (Or.inr rfl), if_pos (Or.inl rfl)]
          · rw [nc 1 (t_ / 2) 5 (by simp) (by simp [e_])]
      exact key_ _ _ (fun t_ ht => ht)
  · exact gb.jx (fun f_ hf => nc 1 q_ f_ (by simp) (by omega)) (fun i_ hi_ => nd_ 30 i_ q_ (by simp) (by omega) (by omega) (by omega) (by simp) (by omega))
  · obtain ⟨x1_, x2_, x3, x4_, x5_, x6, x7, x8⟩ := gc_
    have z0 : D_ 31 40 q_ = 0 := Classical.byContradiction (fun e_ => by
      have := x8.mpr e_
      unfold znos at this
      rw [h51] at this
      exact absurd this (by rw [show decide ((1 : Int32) = 3) = false by decide, show decide ((1 : Int32) = 4) = false by decide]; simp))
    have z1 : znos (C'_ 1 q_) = false := by
      unfold znos
      rw [p5_, show decide ((2 : Int32) = 3) = false by decide, show decide ((2 : Int32) = 4) = false by decide]; rfl
    unfold zzRc
    rw [z1, nc 1 q_ 3 (by simp) (by simp), p5_, nc 1 q_ 6 (by simp) (by simp), nc 1 q_ 8 (by simp) (by simp), nc 1 q_ 10 (by simp) (by simp), pq_, nc 1 q_ 13 (by simp) (by simp), k32, k38, nd_ 30 39 q_ (by simp) (by simp) (by simp) (by simp) (by simp) (by simp), nd_ 30 33 q_ (by simp) (by simp) (by simp) (by simp) (by simp) (by simp), nd_ 30 35 q_ (by simp) (by simp) (by simp) (by simp) (by simp) (by simp), nd_ 30 36 q_ (by simp) (by simp) (by simp) (by simp) (by simp) (by simp), nd_ 31 41 q_ (by simp) (by simp) (by simp) (by simp) (by simp) (by simp), nd_ 31 40 q_ (by simp) (by simp) (by simp) (by simp) (by simp) (by simp), z0]
    exact ⟨x1_, rfl, x3, x4_, x5_, rfl, x7, ⟨fun e_ => absurd e_ (by decide), fun e_ => absurd rfl e_⟩⟩
  · refine ⟨fun e_ => ?_, fun e_ => ?_⟩
    · rw [p5_] at e_; exact absurd e_ (by decide)
    · rw [p5_] at e_; exact absurd e_ (by decide)
  · have := ((h_.2.2.2.1 w_ hw).2.2.2.2.2.1 t_ ht).2.1
    rw [e_, hq8] at this
    exact hwv ((zof_eq (by omega) (by omega)).mp this).symm
  · have := ((h_.2.2.2.1 w_ hw).2.2.2.2.2.2.1 t_ ht).2.2
    rw [e_, hq8] at this
    exact hwv ((zof_eq (by omega) (by omega)).mp this).symm
  · by_cases e_ : t_ / 2 = q_
    · refine Or.inr ⟨Classical.byContradiction (fun ho => ?_), h51, p5_⟩
      have := ((h_.2.2.2.1 w_ hw).2.2.2.2.2.2.2.2.2.1 t_ ht).2.2 ho
      rw [e_, h51] at this
      exact absurd this (by decide)
    · exact Or.inl e_
  · rw [e35] at e_
    exact hwv ((zof_eq (by omega) (by omega)).mp e_.2).symm
  · rw [k32] at e_
    exact absurd e_.1 (by decide)
  · rw [hl] at hm_
    rw [l24]
    exact (List.mem_cons.mp hm_).resolve_left (fun e_ => ht (e_ ▸ hq))
  · rw [l26]
    exact List.mem_filter.mpr ⟨hm_, decide_eq_true ht⟩

