/-! THE CALLS: cancel -/
theorem zzfil {t_ : Nat} {l : List Nat} (h_ : ¬ t_ ∈ l) : l.filter (fun s_ => decide (¬ s_ = t_)) = l := List.filter_eq_self.mpr (fun s_ hs => decide_eq_true (show ¬ s_ = t_ from fun e_ => h_ (by rw [← e_]; exact hs)))
theorem zzeraf {t_ : Nat} {l : List Nat} (hn : l.Nodup) (ht : t_ ∈ l) : l.eraseIdx (zpos t_ l) = l.filter (fun s_ => decide (¬ s_ = t_)) := by
  obtain ⟨l1, l2, e_⟩ := List.append_of_mem ht
  rw [e_] at hn ⊢
  have h1 := List.nodup_append.mp hn
  have hn2 : ¬ t_ ∈ l2 := (List.nodup_cons.mp h1.2.1).1
  have hn1 : ¬ t_ ∈ l1 := fun hx => h1.2.2 t_ hx t_ List.mem_cons_self rfl
  rw [zzpos_app l1 l2 hn1, zzera_app, List.filter_append, List.filter_cons_of_neg (by simp)]
  rw [zzfil hn1, zzfil hn2]
theorem zztoL {r_ : Nat} {l : List Nat} (hn : l.Nodup) : ztoL l r_ = l.filter (fun s_ => decide (¬ s_ = 2 * r_)) := by
  unfold ztoL
  by_cases h_ : 2 * r_ ∈ l
  · rw [zzlx_of hn h_]
    exact zzeraf hn h_
  · rw [zzlx_no l 0 none h_]
    exact (zzfil h_).symm
theorem zztoX {r_ : Nat} {l : List Nat} (hn : l.Nodup) (hd_ : 2 * r_ + 1 ∈ l) : ∃ d_, zlx (2 * r_ + 1) (ztoL l r_) 0 none = some d_ ∧ (ztoL l r_).eraseIdx d_ = zzwo r_ l ∧ d_ < (ztoL l r_).length := by
  have e_ := zztoL (r_ := r_) hn
  have hn2 : (ztoL l r_).Nodup := by rw [e_]; exact hn.sublist List.filter_sublist
  have hm_ : 2 * r_ + 1 ∈ ztoL l r_ := by
    rw [e_, List.mem_filter]
    exact ⟨hd_, decide_eq_true (by omega)⟩
  refine ⟨zpos (2 * r_ + 1) (ztoL l r_), zzlx_of hn2 hm_, ?_, (List.getElem?_eq_some_iff.mp (zzpos_at hm_)).1⟩
  rw [zzeraf hn2 hm_, e_, List.filter_filter]
  unfold zzwo
  refine List.filter_congr (fun s_ _ => ?_)
  by_cases h1 : s_ / 2 = r_
  · have h2 : s_ = 2 * r_ ∨ s_ = 2 * r_ + 1 := by omega
    rcases h2 with h2 | h2
    · simp [h2]
    · simp [h2]
      omega
  · have h3 : ¬ s_ = 2 * r_ := by omega
    have h4 : ¬ s_ = 2 * r_ + 1 := by omega
    simp [h1, h3, h4]
theorem zztoF_ro {I_ : zIn} {v_ r_ d_ : Nat} {l : List Nat} (h_ : zRo I_ v_ l) (hd_ : d_ < (ztoL l r_).length) (he : (ztoL l r_).eraseIdx d_ = zzwo r_ l) : zRo (ztoF I_ v_ l r_ d_) v_ (zzwo r_ l) := by
  have t1_ := ztst_tr (ztoI_tr (r_ := r_) h_) hd_
  have hlen : ((ztoL l r_).eraseIdx d_).length = (ztoL l r_).length - 1 := by rw [List.length_eraseIdx_of_lt hd_]
  have hl16 : (ztoL l r_).length ≤ 16 := by
    have h2 := h_.2.1
    unfold ztoL
    split
    · exact h2
    · rename_i p_ _
      have := List.length_eraseIdx_le l p_
      omega
  have t2_ := zkep_ro (v_ := v_) t1_ (by omega)
  rw [hlen, he] at t2_
  exact t2_
theorem zzkep26 {I_ : zIn} {v_ w_ n_ k_ : Nat} (hw : ¬ w_ = v_) (hk : k_ < 16) (hn : n_ ≤ 16) : zkep I_ v_ n_ 30 26 (16 * w_ + k_) = I_ 30 26 (16 * w_ + k_) := by
  unfold zkep
  rw [zkpI_at, if_neg (by omega), zset_ne (by simp)]
theorem zztoF_ne {I_ : zIn} {v_ r_ d_ c_ i_ f_ : Nat} {l : List Nat} (h1 : ¬ (c_ = 30 ∧ (i_ = 43 ∨ i_ = 26))) (h2 : ¬ (c_ = 7 ∧ i_ = 0 ∧ f_ = 42)) (h3 : ¬ (c_ = 30 ∧ i_ = 27 ∧ f_ = v_)) : ztoF I_ v_ l r_ d_ c_ i_ f_ = I_ c_ i_ f_ := by
  unfold ztoF ztoI
  rw [zkep_ne (fun e_ => h1 ⟨e_.1, Or.inr e_.2⟩) h3, ztst_ne (fun e_ => h1 ⟨e_.1, Or.inl e_.2⟩) h2]
  cases zlx (2 * r_) l 0 none with
  | none => exact ztry_ne (fun e_ => h1 ⟨e_.1, Or.inl e_.2⟩) h2
  | some p_ => exact (ztst_ne (fun e_ => h1 ⟨e_.1, Or.inl e_.2⟩) h2).trans (ztry_ne (fun e_ => h1 ⟨e_.1, Or.inl e_.2⟩) h2)
theorem zztoF_26 {I_ : zIn} {v_ r_ d_ w_ k_ : Nat} {l : List Nat} (hl : l.length ≤ 16) (hw : ¬ w_ = v_) (hk : k_ < 16) : ztoF I_ v_ l r_ d_ 30 26 (16 * w_ + k_) = I_ 30 26 (16 * w_ + k_) := by
  have hl16 : (ztoL l r_).length ≤ 16 := by
    unfold ztoL
    split
    · exact hl
    · rename_i p_ _
      have := List.length_eraseIdx_le l p_
      omega
  unfold ztoF ztoI
  rw [zzkep26 hw hk (by omega), ztst_ne (by simp) (by simp)]
  cases zlx (2 * r_) l 0 none with
  | none => exact ztry_ne (by simp) (by simp)
  | some p_ => exact (ztst_ne (by simp) (by simp)).trans (ztry_ne (by simp) (by simp))
/-- a PROMISED request stands in its vehicle's route, and nowhere else -/
theorem zzst0 {C_ D_ : zIn} {L_ : zLi} {p_ N_ M_ r_ : Nat} (h_ : zzR C_ L_ D_ p_ N_ M_) (hr : r_ < M_) (h0 : C_ 1 r_ 5 = 0) : ∃ v_, v_ < N_ ∧ C_ 1 r_ 8 = Int32.ofNat v_ ∧ C_ 1 r_ 11 = -1 ∧ 2 * r_ ∈ L_ 24 v_ ∧ 2 * r_ + 1 ∈ L_ 24 v_ ∧ (∀ w_, w_ < N_ → ¬ r_ ∈ L_ 26 w_) ∧ (∀ w_, w_ < N_ → ∀ s_ ∈ L_ 25 w_, ¬ s_ / 2 = r_) ∧ (∀ w_, w_ < N_ → ¬ w_ = v_ → ∀ s_ ∈ L_ 24 w_, ¬ s_ / 2 = r_) ∧ ∃ l1 l2 l3, L_ 24 v_ = l1 ++ 2 * r_ :: (l2 ++ (2 * r_ + 1) :: l3) := by
  obtain ⟨e11_, v_, hv, e8, m1_, m2_⟩ := (h_.2.2.2.2.1 r_ hr).1 h0
  have hN4 := h_.1.2.2.2.2.1
  have h26 : ∀ w_, w_ < N_ → ¬ r_ ∈ L_ 26 w_ := fun w_ hw hm_ => by
    have := ((h_.2.2.2.1 w_ hw).2.2.2.2.2.2.1 r_ hm_).2.1
    rw [h0] at this
    exact absurd this (by decide)
  refine ⟨v_, hv, e8, e11_, m1_, m2_, h26, fun w_ hw s_ hs e_ => ?_, fun w_ hw hne s_ hs e_ => ?_, ?_⟩
  · obtain ⟨_, x2_, x3⟩ := (h_.2.2.2.1 w_ hw).2.2.2.2.2.2.2.2.2.1 s_ hs
    rw [e_, h0] at x2_ x3
    by_cases hp : s_ % 2 = 0
    · exact x2_ hp rfl
    · exact absurd (x3 hp) (by decide)
  · have := ((h_.2.2.2.1 w_ hw).2.2.2.2.2.1 s_ hs).2.1
    rw [e_, e8] at this
    exact hne ((zof_eq (by omega) (by omega)).mp this).symm
  · exact zzvl_dec _ _ (h_.2.2.2.1 v_ hv).2.2.2.2.2.2.2.1 m2_ (h26 v_ hv)
theorem zzlef {C_ D_ : zIn} {L_ : zLi} {p_ N_ M_ r_ v_ : Nat} (h_ : zzR C_ L_ D_ p_ N_ M_) (hr : r_ < M_) (hv : v_ < N_) (h0 : C_ 1 r_ 5 = 0) : zlef C_ L_ v_ r_ = zhlf D_ v_ r_ := by
  obtain ⟨v1_, v2, v3⟩ := h_.2.2.2.1 v_ hv
  have hM_ := h_.1.2.2.2.2.2.2.2.1
  have hz := v1_.1.2.2.2.2.2.1
  unfold zlef zhlf
  by_cases hl : C_ 5 v_ 10 = 0
  · rw [decide_eq_false (show ¬ ¬ C_ 5 v_ 10 = 0 from fun e_ => e_ hl), decide_eq_false (show ¬ ¬ D_ 31 19 v_ = 0 from fun e_ => e_ (hz.mp hl)), Bool.false_and, Bool.false_and]
  · rw [decide_eq_true hl, decide_eq_true (show ¬ D_ 31 19 v_ = 0 from fun e_ => hl (hz.mpr e_)), Bool.true_and, Bool.true_and]
    obtain ⟨s_, l, e1_, e2_, e3_, e4_⟩ := v2.1 hl
    have hro : zRo D_ v_ (s_ :: l) := e1_ ▸ v1_.2.2.2.2.2.1
    obtain ⟨g1, g2⟩ := hro.2.2 0 s_ rfl
    rw [e1_]
    show decide (s_ / 2 = r_) = decide (D_ 30 26 (16 * v_ + 0) = Int32.ofNat (2 * r_))
    rw [g1]
    have hiff : s_ / 2 = r_ ↔ Int32.ofNat s_ = Int32.ofNat (2 * r_) := by
      rw [zof_eq (by omega) (by omega)]
      refine ⟨fun e_ => ?_, fun e_ => by omega⟩
      by_cases hp : s_ % 2 = 0
      · omega
      · exfalso
        have hvl := v3.2.2.2.2.2.1
        rw [e1_] at hvl
        have hm_ := ((zzvl_o hp).mp hvl).1
        have := (v3.2.2.2.2.1 _ hm_).2.1
        rw [e_, h0] at this
        exact absurd this (by decide)
    exact decide_eq_decide.mpr hiff
theorem zzsqr {D_ D' : zIn} {w_ M_ r_ : Nat} (hk : ∀ j_, j_ < M_ → ¬ j_ = r_ → D' 30 32 j_ = D_ 30 32 j_ ∧ D' 30 35 j_ = D_ 30 35 j_) (hse : ∀ q_, zmse D' q_ = zmse D_ q_) (hr : ¬ (D_ 30 32 r_ = 1 ∧ D_ 30 35 r_ = Int32.ofNat w_)) (hr' : ¬ (D' 30 32 r_ = 1 ∧ D' 30 35 r_ = Int32.ofNat w_)) : zsqL D' w_ M_ 0 0 = zsqL D_ w_ M_ 0 0 := zzsq_ix M_ 0 0 (fun j_ _ hj => by
  unfold zsqN
  by_cases e_ : j_ = r_
  · subst e_
    rw [if_neg hr, if_neg hr']
  · rw [(hk j_ (by omega) e_).1, (hk j_ (by omega) e_).2, hse])
theorem zzwo_hd {r_ s_ : Nat} {l : List Nat} (h_ : l[0]? = some s_) (hs : ¬ s_ / 2 = r_) : (zzwo r_ l)[0]? = some s_ := by
  cases l with
  | nil => simp at h_
  | cons a_ b_ =>
    have e_ : a_ = s_ := by simpa using h_
    rw [zzwo_ni (by rw [e_]; exact hs), e_]; rfl
theorem zzsC {C_ D_ : zIn} {L_ : zLi} {p_ N_ M_ r_ v_ d_ : Nat} (h_ : zzR C_ L_ D_ p_ N_ M_) (hr : r_ < M_) (h0 : C_ 1 r_ 5 = 0) (hv : v_ < N_) (e8 : C_ 1 r_ 8 = Int32.ofNat v_) (hno : zlef C_ L_ v_ r_ = false) (hd_ : d_ < (ztoL (L_ 24 v_) r_).length) (he : (ztoL (L_ 24 v_) r_).eraseIdx d_ = zzwo r_ (L_ 24 v_)) : zzR (zcnI C_ r_) (zlup L_ 24 v_ (zzwo r_ (L_ 24 v_))) (zcn4 D_ v_ (L_ 24 v_) r_ d_) p_ N_ M_ ∧ zcn4 D_ v_ (L_ 24 v_) r_ d_ 7 0 0 = 0 ∧ zzmo (zcn4 D_ v_ (L_ 24 v_) r_ d_) D_ ∧ (if znos (zcnI C_ r_ 1 r_) = true then (1 : Int32) else 0) = zbo (zcn4 D_ v_ (L_ 24 v_) r_ d_ 31 40 r_) := by
  obtain ⟨v', hv', e8', e11_, m1_, m2_, h26, h25, h24, l1, l2, l3, hl⟩ := zzst0 h_ hr h0
  have hN4 := h_.1.2.2.2.2.1
  have hvv : v' = v_ := (zof_eq (by omega) (by omega)).mp (e8'.symm.trans e8)
  subst hvv
  obtain ⟨v1_, v2, v3⟩ := h_.2.2.2.1 v' hv'
  obtain ⟨t1_, t2_, t3_, t4_, t5_, t6, t7, t8, t9⟩ := v3
  obtain ⟨gb, gc_⟩ := h_.2.2.1 r_ hr
  have hro := v1_.2.2.2.2.2.1
  have nc : ∀ c_ i_ f_, ¬ (c_ = 1 ∧ i_ = r_ ∧ (f_ = 5 ∨ f_ = 14)) → zcnI C_ r_ c_ i_ f_ = C_ c_ i_ f_ := fun c_ i_ f_ hh => by
    unfold zcnI; rw [zset_ne (by omega), zset_ne (by omega)]
  have nd_ : ∀ c_ i_ f_, ¬ (c_ = 30 ∧ (i_ = 43 ∨ i_ = 26)) → ¬ (c_ = 7 ∧ i_ = 0 ∧ (f_ = 42 ∨ f_ = 0)) → ¬ (c_ = 30 ∧ i_ = 27 ∧ f_ = v') → ¬ (c_ = 30 ∧ i_ = 32 ∧ f_ = r_) → ¬ (c_ = 31 ∧ i_ = 40 ∧ f_ = r_) → zcn4 D_ v' (L_ 24 v') r_ d_ c_ i_ f_ = D_ c_ i_ f_ := fun c_ i_ f_ h1 h2 h3 h4 h5 => by
    unfold zcn4 zcn3
    rw [zset_ne h5, zset_ne h4, zztoF_ne h1 (by omega) h3, zset_ne (by omega)]
  have nl : ∀ c_ u_, ¬ (c_ = 24 ∧ u_ = v') → zlup L_ 24 v' (zzwo r_ (L_ 24 v')) c_ u_ = L_ c_ u_ := fun c_ u_ h_ => zlup_ne h_
  have d32_ : zcn4 D_ v' (L_ 24 v') r_ d_ 30 32 r_ = 4 := by
    unfold zcn4 zcn3; rw [zset_ne (by simp), zset_is]
  have c5_ : zcnI C_ r_ 1 r_ 5 = 4 := by unfold zcnI; rw [zset_ne (by simp), zset_is]
  have e34 : zcn3 D_ v' (L_ 24 v') r_ d_ 30 34 r_ = C_ 1 r_ 7 := by
    unfold zcn3; rw [zset_ne (by simp), zztoF_ne (by simp) (by simp) (by simp), zset_ne (by simp), gb.2.2.2.2.2.2.1]
  have e72_ : zcn3 D_ v' (L_ 24 v') r_ d_ 7 0 2 = C_ 6 0 8 := by
    unfold zcn3; rw [zset_ne (by simp), zztoF_ne (by simp) (by simp) (by simp), zset_ne (by simp), h_.1.2.2.2.2.2.2.2.2.2.1]
  have d40_ : zcn4 D_ v' (L_ 24 v') r_ d_ 31 40 r_ = if C_ 1 r_ 7 - C_ 6 0 8 < 60 then 1 else 0 := by
    unfold zcn4; rw [zset_is, e34, e72_]
  have c14_ : zcnI C_ r_ 1 r_ 14 = if C_ 1 r_ 7 - C_ 6 0 8 < 60 then 1 else 0 := by
    unfold zcnI; rw [zset_is, zset_ne (by simp), zset_ne (by simp)]
  have hnos : znos (zcnI C_ r_ 1 r_) = true ↔ C_ 1 r_ 7 - C_ 6 0 8 < 60 := by
    unfold znos
    rw [c5_, c14_]
    by_cases hc_ : C_ 1 r_ 7 - C_ 6 0 8 < 60
    · rw [if_pos hc_]; exact ⟨fun _ => hc_, fun _ => by decide⟩
    · rw [if_neg hc_]; exact ⟨fun e_ => absurd e_ (by decide), fun e_ => absurd e_ hc_⟩
  have hse : ∀ q_, zmse (zcn4 D_ v' (L_ 24 v') r_ d_) q_ = zmse D_ q_ := fun q_ => by
    unfold zmse zmkd zmrd
    rw [nd_ 30 29 q_ (by simp) (by simp) (by simp) (by simp) (by simp), nd_ 30 7 _ (by simp) (by simp) (by simp) (by simp) (by simp), nd_ 31 10 _ (by simp) (by simp) (by simp) (by simp) (by simp)]
  have hkd : ∀ q_, zmkd (zcn4 D_ v' (L_ 24 v') r_ d_) q_ = zmkd D_ q_ := fun q_ => by
    unfold zmkd zmrd
    rw [nd_ 30 29 q_ (by simp) (by simp) (by simp) (by simp) (by simp), nd_ 30 7 _ (by simp) (by simp) (by simp) (by simp) (by simp)]
  have hs : ∀ q_, zsea (zcnI C_ r_) q_ = zsea C_ q_ := fun q_ => by unfold zsea; rw [nc 1 q_ 0 (by simp), nc 2 _ 3 (by simp)]
  have hch : ∀ q_, zchr (zcnI C_ r_) q_ = zchr C_ q_ := fun q_ => by unfold zchr; rw [nc 1 q_ 0 (by simp), nc 2 _ 0 (by simp)]
  have hsq : ∀ w_, zsqL (zcn4 D_ v' (L_ 24 v') r_ d_) w_ M_ 0 0 = zsqL D_ w_ M_ 0 0 := fun w_ => zzsqr (r_ := r_) (fun j_ _ hj => ⟨nd_ 30 32 j_ (by simp) (by simp) (by simp) (by simp [hj]) (by simp), nd_ 30 35 j_ (by simp) (by simp) (by simp) (by simp) (by simp)⟩) hse (fun e_ => by rw [← gc_.2.1, h0] at e_; exact absurd e_.1 (by decide)) (fun e_ => by rw [d32_] at e_; exact absurd e_.1 (by decide))
  have hnl : ∀ s_ ∈ zzwo r_ (L_ 24 v'), s_ ∈ L_ 24 v' ∧ ¬ s_ / 2 = r_ := fun s_ hs => zzwo_mem.mp hs
  refine ⟨?_, ?_, ?_, ?_⟩
  · refine zzRz h_ hv' hr (fun c_ i_ f_ hh _ => nc c_ i_ f_ (by omega)) (fun f_ hf => nc 1 r_ f_ (by omega)) (fun w_ _ _ s_ _ => ⟨nc _ _ _ (by simp), fun _ _ => ⟨nc _ _ _ (by simp), nc _ _ _ (by simp)⟩⟩) (fun f_ hf => nd_ 7 0 f_ (by simp) (by omega) (by simp) (by simp) (by simp)) (fun f_ => ⟨nd_ _ _ _ (by simp) (by simp) (by simp) (by simp) (by simp), nd_ _ _ _ (by simp) (by simp) (by simp) (by simp) (by simp), nd_ _ _ _ (by simp) (by simp) (by simp) (by simp) (by simp), nd_ _ _ _ (by simp) (by simp) (by simp) (by simp) (by simp), nd_ _ _ _ (by simp) (by simp) (by simp) (by simp) (by simp)⟩) (fun i_ q_ a_ b_ hq => nd_ 30 i_ q_ (by omega) (by omega) (by omega) (by omega) (by omega)) (fun q_ hq => ⟨nd_ 31 40 q_ (by simp) (by simp) (by simp) (by simp) (by simp [hq]), nd_ 31 41 q_ (by simp) (by simp) (by simp) (by simp) (by simp)⟩) (fun i_ w_ a_ b_ c_ c' hw => nd_ 30 i_ w_ (by omega) (by omega) (by omega) (by omega) (by omega)) (fun w_ hw => ⟨nd_ _ _ _ (by simp) (by simp) (by simp) (by simp) (by simp), nd_ _ _ _ (by simp) (by simp) (by simp) (by simp) (by simp), nd_ _ _ _ (by simp) (by simp) (by simp) (by simp) (by simp)⟩) (nd_ _ _ _ (by simp) (by simp) (by simp) (by simp) (by simp)) (nd_ _ _ _ (by simp) (by simp) (by simp) (by simp) (by simp)) (fun w_ j_ hw hj => nd_ _ _ _ (by simp) (by simp) (by simp) (by simp) (by simp)) (fun w_ k_ hw hk => ?_) (fun c_ u_ h1 h2 h3 => nl c_ u_ (fun e_ => h3 ⟨e_.2, Or.inl e_.1⟩)) ⟨?_, ?_, ?_⟩ ⟨?_, ?_, ?_⟩ h24 (fun w_ hw _ q_ hq e_ => h26 w_ hw (e_ ▸ hq)) (fun w_ hw _ s_ hs => Or.inl (h25 w_ hw s_ hs)) (fun w_ _ _ => hsq w_) (fun s_ hs hm_ => by rw [zlup_self]; exact zzwo_mem.mpr ⟨hm_, hs⟩) (fun q_ _ hm_ => by rw [nl 26 v' (by simp)]; exact hm_)
    · unfold zcn4 zcn3
      rw [zset_ne (by simp), zset_ne (by simp), zztoF_26 hro.2.1 hw hk, zset_ne (by simp)]
    · obtain ⟨a1_, a2, a3, a4, a5, a6, a7, a8, a9, b1, b2, b3, b4⟩ := v1_
      have hro' : zRo (zcn4 D_ v' (L_ 24 v') r_ d_) v' (zzwo r_ (L_ 24 v')) := by
        have h1 : zRo (zset D_ 7 0 0 0) v' (L_ 24 v') := a6.ix (zset_ne (by simp)) (fun k_ _ => zset_ne (by simp))
        have h2 := zztoF_ro h1 hd_ he
        unfold zcn4 zcn3
        exact h2.ix (by rw [zset_ne (by simp), zset_ne (by simp)]) (fun k_ _ => by rw [zset_ne (by simp), zset_ne (by simp)])
      unfold zzRv
      rw [zlup_self, nl 26 v' (by simp), zzftak hs, zzfchl hch, nc 5 v' 4 (by simp), nc 5 v' 9 (by simp), nd_ 30 15 v' (by simp) (by simp) (by simp) (by simp) (by simp), nd_ 31 16 v' (by simp) (by simp) (by simp) (by simp) (by simp), nd_ 30 13 v' (by simp) (by simp) (by simp) (by simp) (by simp), nd_ 30 14 v' (by simp) (by simp) (by simp) (by simp) (by simp), nd_ 30 23 v' (by simp) (by simp) (by simp) (by simp) (by simp), nd_ 30 25 v' (by simp) (by simp) (by simp) (by simp) (by simp)]
      refine ⟨a1_.ix (fun f_ => nc 5 v' f_ (by simp)) (fun i_ x_ y_ => nd_ 30 i_ v' (by omega) (by omega) (by omega) (by omega) (by omega)) (nd_ _ _ _ (by simp) (by simp) (by simp) (by simp) (by simp)), a2, a3, a4, a5, hro', a7, a8, a9, b1, b2, b3, fun j_ q_ hj => by rw [nd_ _ _ _ (by simp) (by simp) (by simp) (by simp) (by simp)]; exact b4 j_ q_ hj⟩
    · obtain ⟨a1_, a2, a3⟩ := v2
      have hhd : ¬ C_ 5 v' 10 = 0 → ∀ s_, (L_ 24 v')[0]? = some s_ → ¬ s_ / 2 = r_ := fun hne s_ hs e_ => by
        unfold zlef at hno
        rw [decide_eq_true hne, Bool.true_and] at hno
        cases hle : L_ 24 v' with
        | nil => rw [hle] at hs; simp at hs
        | cons a_ b_ =>
          rw [hle] at hs hno
          have e2_ : a_ = s_ := by simpa using hs
          exact absurd (show decide (a_ / 2 = r_) = true from decide_eq_true (by rw [e2_]; exact e_)) (by rw [show decide (a_ / 2 = r_) = false from hno]; decide)
      unfold zzRl
      rw [zlup_self, nc 5 v' 10 (by simp), nd_ 30 20 v' (by simp) (by simp) (by simp) (by simp) (by simp), nd_ 30 21 v' (by simp) (by simp) (by simp) (by simp) (by simp), nd_ 31 22 v' (by simp) (by simp) (by simp) (by simp) (by simp)]
      refine ⟨fun hne => ?_, a2, fun s_ hs hne => ?_⟩
      · obtain ⟨s_, l, e1_, e2_, e3_, e4_⟩ := a1_ hne
        have hs2 := hhd hne s_ (by rw [e1_]; rfl)
        refine ⟨s_, zzwo r_ l, by rw [e1_, zzwo_ni hs2], ?_⟩
        rw [nc 4 s_ 3 (by simp), nc 4 s_ 4 (by simp), nc 4 s_ 5 (by simp)]
        exact ⟨e2_, e3_, e4_⟩
      · rw [nc 4 s_ 5 (by simp)] at hne
        obtain ⟨x1_, x2_⟩ := a3 s_ (hnl s_ hs).1 hne
        exact ⟨x1_, zzwo_hd x2_ (hnl s_ hs).2⟩
    · unfold zzRt
      rw [zlup_self, nl 25 v' (by simp), nl 26 v' (by simp), zzfchl hch, nd_ 30 23 v' (by simp) (by simp) (by simp) (by simp) (by simp), hsq v', zzsbd_n hs _ _ (fun s_ hs => nc 1 _ 5 (by simp [h25 v' hv' s_ hs]))]
      refine ⟨zzwo_nd t1_, t2_, t3_, fun s_ hs => ?_, fun q_ hq => ?_, zzvl_wo _ _ _ t6 (fun x_ hx _ => hx), ?_, fun s_ hs => ?_, t9⟩
      · obtain ⟨x1_, x2_⟩ := hnl s_ hs
        rw [nc 1 _ 8 (by simp), nc 1 _ 5 (by simp [x2_]), nc 1 _ 1 (by simp), nc 1 _ 2 (by simp), nc 4 s_ 2 (by simp)]
        exact t4_ s_ x1_
      · have hqr : ¬ q_ = r_ := fun e_ => h26 v' hv' (e_ ▸ hq)
        rw [nc 1 _ 8 (by simp), nc 1 _ 5 (by simp [hqr])]
        exact t5_ q_ hq
      · have hcut : zzwo r_ (L_ 24 v') = l1 ++ (l2 ++ l3) := by rw [hl]; exact zzcut_wo (hl ▸ t1_)
        rw [hcut]
        refine zzfe_m hkd hse (nd_ _ _ _ (by simp) (by simp) (by simp) (by simp) (by simp)) (nd_ _ _ _ (by simp) (by simp) (by simp) (by simp) (by simp)) _ _ _ (zzfe_cut l1 l2 l3 _ _ (zzcut (hl ▸ t1_)).2.1 ?_ (hl ▸ t7))
        have hx := hro.2.1
        rw [hl] at hx
        simp only [List.length_append, List.length_cons] at hx
        have hy := v1_.2.2.2.2.2.2.2.2.2.2.2.1
        omega
      · have hne := h25 v' hv' s_ hs
        rw [nc 1 _ 5 (by simp [hne])]
        exact t8 s_ hs
    · exact gb.jx (fun f_ hf => nc 1 r_ f_ (by omega)) (fun i_ hi_ => nd_ 30 i_ r_ (by omega) (by omega) (by omega) (by omega) (by omega))
    · obtain ⟨x1_, x2_, x3, x4_, x5_, x6, x7, x8⟩ := gc_
      unfold zzRc
      rw [nc 1 r_ 3 (by simp), c5_, nc 1 r_ 6 (by simp), nc 1 r_ 8 (by simp), nc 1 r_ 10 (by simp), nc 1 r_ 12 (by simp), nc 1 r_ 13 (by simp), d32_, d40_, nd_ 30 39 r_ (by simp) (by simp) (by simp) (by simp) (by simp), nd_ 30 33 r_ (by simp) (by simp) (by simp) (by simp) (by simp), nd_ 30 35 r_ (by simp) (by simp) (by simp) (by simp) (by simp), nd_ 30 36 r_ (by simp) (by simp) (by simp) (by simp) (by simp), nd_ 30 38 r_ (by simp) (by simp) (by simp) (by simp) (by simp), nd_ 31 41 r_ (by simp) (by simp) (by simp) (by simp) (by simp)]
      refine ⟨x1_, rfl, x3, x4_, x5_, x6, x7, ?_⟩
      rw [hnos]
      by_cases hc_ : C_ 1 r_ 7 - C_ 6 0 8 < 60
      · rw [if_pos hc_]; exact ⟨fun _ => by decide, fun _ => hc_⟩
      · rw [if_neg hc_]; exact ⟨fun e_ => absurd e_ hc_, fun e_ => absurd rfl e_⟩
    · refine ⟨fun e_ => ?_, fun e_ => ?_⟩
      · rw [c5_] at e_; exact absurd e_ (by decide)
      · rw [c5_] at e_; exact absurd e_ (by decide)
  · unfold zcn4 zcn3
    rw [zset_ne (by simp), zset_ne (by simp), zztoF_ne (by simp) (by simp) (by simp), zset_is]
  · intro c_ i_ f_ hc_
    refine nd_ c_ i_ f_ (by omega) (by omega) (by omega) (by omega) (by omega)
  · rw [d40_]
    by_cases hc_ : C_ 1 r_ 7 - C_ 6 0 8 < 60
    · rw [if_pos (hnos.mpr hc_), if_pos hc_]; rfl
    · rw [if_neg (fun e_ => hc_ (hnos.mp e_)), if_neg hc_]; rfl

