/-! MATHEMATICS: what a search rests on, out of the relation -/
theorem zzrd {C_ D_ : zIn} {p_ r_ : Nat} (hb_ : zzRb C_ D_ p_ r_) (hp16 : p_ ≤ 16) (hp : ∀ i_, i_ < p_ → zzRp C_ D_ i_) : ∃ u_ k_, u_ < p_ ∧ k_ ≤ 2 ∧ (C_ 1 r_ 0).toNatClampNeg = u_ ∧ zmrd D_ r_ = u_ ∧ C_ 2 u_ 0 = Int32.ofNat k_ ∧ zmkd D_ r_ = Int32.ofNat k_ ∧ C_ 2 u_ 1 = D_ 30 8 u_ ∧ C_ 2 u_ 3 = (if k_ = 2 then 2 else 1) + (if D_ 31 10 u_ = 0 then 0 else 1) ∧ C_ 2 u_ 4 = Int32.ofNat (2 + 2 * k_) := by
  obtain ⟨⟨u_, hu, e1_, e2_⟩, _⟩ := hb_
  obtain ⟨k_, hk, g1, g2, g3_, g4, g5_, g6⟩ := hp u_ hu
  have hr : zmrd D_ r_ = u_ := by unfold zmrd; rw [e2_, zicl (by omega)]
  refine ⟨u_, k_, hu, hk, by rw [e1_, zicl (by omega)], hr, g1, ?_, g3_, g5_, g6⟩
  unfold zmkd
  rw [hr, g2]
theorem zzk2 {k_ : Nat} (hk : k_ ≤ 2) : (Int32.ofNat k_ = 2 ↔ k_ = 2) ∧ Int32.ofNat (2 + 2 * k_) = 2 + 2 * Int32.ofNat k_ := by
  obtain rfl | rfl | rfl : k_ = 0 ∨ k_ = 1 ∨ k_ = 2 := by omega
  · decide
  · decide
  · decide
theorem zzcs_of {C_ D_ : zIn} {p_ s_ : Nat} (hb_ : zzRb C_ D_ p_ (s_ / 2)) (hp16 : p_ ≤ 16) (hp : ∀ i_, i_ < p_ → zzRp C_ D_ i_) (h4 : C_ 4 s_ 2 = if s_ % 2 = 0 then C_ 1 (s_ / 2) 1 else C_ 1 (s_ / 2) 2) : zzcs C_ D_ s_ := by
  obtain ⟨u_, k_, hu, hk, e1_, e2_, e3_, e4_, e5_, e6_, e7_⟩ := zzrd hb_ hp16 hp
  obtain ⟨_, b2, b3, b4, b5, b6, b7, b8⟩ := hb_
  obtain ⟨k1_, k2_⟩ := zzk2 hk
  have hpl : C_ 4 s_ 2 = zmpl D_ s_ := by
    rw [h4]; unfold zmpl
    split
    · exact b4
    · exact b5
  refine ⟨hpl, ?_, b7, b6, ?_, ?_, ?_, b8⟩
  · unfold zmpl
    split
    · exact b2
    · exact b3
  · rw [e1_, e7_, e4_, k2_]
  · unfold zsea zmse
    rw [e1_, e6_, e4_, e2_]
    by_cases h_ : k_ = 2
    · rw [if_pos h_, if_pos (k1_.mpr h_)]
    · rw [if_neg h_, if_neg (fun e_ => h_ (k1_.mp e_))]
  · unfold zchr
    rw [e1_, e3_, e4_]
theorem zzMq {C_ D_ : zIn} {p_ r_ : Nat} (hb_ : zzRb C_ D_ p_ r_) (hp16 : p_ ≤ 16) (hr : r_ < 60) : zMq D_ r_ := by
  obtain ⟨⟨u_, hu, e1_, e2_⟩, _⟩ := hb_
  refine ⟨hr, ?_, ?_⟩
  · rw [e2_]; exact zige (by omega)
  · rw [e2_, zicl (by omega)]; omega
/-- what is known of a vehicle's route -/
def zzQ (C_ : zIn) (L_ : zLi) (D_ : zIn) (v_ : Nat) : Prop := zzRv C_ L_ D_ v_ ∧ (¬ C_ 5 v_ 10 = 0 → ∃ s_ l, L_ 24 v_ = s_ :: l ∧ C_ 4 s_ 3 = D_ 30 20 v_ ∧ C_ 4 s_ 4 = D_ 30 21 v_) ∧ (L_ 24 v_).Nodup ∧ (∀ s_ ∈ L_ 24 v_, s_ < 120 ∧ zzcs C_ D_ s_ ∧ C_ 1 (s_ / 2) 8 = Int32.ofNat v_ ∧ zMq D_ (s_ / 2)) ∧ zzHP D_ (L_ 24 v_) ∧ zzvl (L_ 24 v_) (L_ 26 v_) ∧ (∀ q_ ∈ L_ 26 v_, q_ < 60 ∧ ¬ 2 * q_ ∈ L_ 24 v_)
theorem zzQ_of {C_ D_ : zIn} {L_ : zLi} {p_ N_ M_ v_ : Nat} (h_ : zzR C_ L_ D_ p_ N_ M_) (hv : v_ < N_) : zzQ C_ L_ D_ v_ := by
  obtain ⟨h1, h2, h3, h4, h5, h6⟩ := h_
  obtain ⟨v1_, v2, v3⟩ := h4 v_ hv
  obtain ⟨t1_, t2_, t3_, t4_, t5_, t6, t7, t8, t9⟩ := v3
  have hp16 := h1.2.1
  have hM_ := h1.2.2.2.2.2.2.2.1
  have hN4 := h1.2.2.2.2.1
  have hvi : ∀ w_, w_ < N_ → Int32.ofNat w_ = Int32.ofNat v_ → w_ = v_ := fun w_ hw e_ => (zof_eq (by omega) (by omega)).mp e_
  refine ⟨v1_, fun hne => ?_, t1_, fun s_ hs => ?_, fun s_ hs ho => ?_, t6, fun q_ hq => ⟨?_, fun hm_ => ?_⟩⟩
  · obtain ⟨s_, l, a_, b_, c_, _⟩ := v2.1 hne
    exact ⟨s_, l, a_, b_, c_⟩
  · obtain ⟨a1_, a2, a3, a4, a5⟩ := t4_ s_ hs
    exact ⟨by omega, zzcs_of (h3 _ a1_).1 hp16 h2 a5, a2, zzMq (h3 _ a1_).1 hp16 (by omega)⟩
  · obtain ⟨a1_, a2, a3, a4, a5⟩ := t4_ s_ hs
    obtain ⟨r1_, r2⟩ := h5 _ a1_
    have e37 : C_ 1 (s_ / 2) 11 = D_ 30 37 (s_ / 2) := (h3 _ a1_).1.2.2.2.2.2.2.2
    refine ⟨fun hm_ => ?_, fun hm_ => ?_⟩
    · have h0 := (t4_ _ hm_).2.2.1 (by omega)
      rw [show 2 * (s_ / 2) / 2 = s_ / 2 by omega] at h0
      rw [← e37]
      exact (r1_ h0).1
    · rcases a4 ho with e_ | e_
      · obtain ⟨_, w_, hw, e8, m1_, _⟩ := r1_ e_
        rw [a2] at e8
        have := hvi w_ hw e8.symm
        subst this
        exact absurd m1_ hm_
      · rw [← e37]
        exact (r2 e_).1
  · have := (t5_ q_ hq).1
    omega
  · obtain ⟨a1_, a2, a3, a4, a5⟩ := t4_ _ hm_
    have h0 := a3 (by omega)
    rw [show 2 * q_ / 2 = q_ by omega, (t5_ q_ hq).2.1] at h0
    exact absurd h0 (by decide)
theorem zzlkL_nd {l : List Nat} {r_ i_ d_ : Nat} (hn : l.Nodup) (hr : ∀ s_ ∈ l, ¬ s_ / 2 = r_) (hi_ : i_ ≤ l.length) (hd_ : d_ ≤ l.length + 1) : (zlkL l r_ i_ d_).Nodup := by
  have h1 : (l.insertIdx i_ (2 * r_)).length = l.length + 1 := List.length_insertIdx_of_le_length hi_ _
  have p1_ : (l.insertIdx i_ (2 * r_)).Perm (2 * r_ :: l) := List.perm_insertIdx _ _ hi_
  have p2_ : (zlkL l r_ i_ d_).Perm ((2 * r_ + 1) :: l.insertIdx i_ (2 * r_)) := List.perm_insertIdx _ _ (by omega)
  refine p2_.nodup_iff.mpr (List.nodup_cons.mpr ⟨fun e_ => ?_, p1_.nodup_iff.mpr (List.nodup_cons.mpr ⟨fun e_ => hr _ e_ (by omega), hn⟩)⟩)
  rcases List.mem_cons.mp (p1_.mem_iff.mp e_) with e_ | e_
  · omega
  · exact hr _ e_ (by omega)
theorem zzlkL_len {l : List Nat} {r_ i_ d_ : Nat} (hi_ : i_ ≤ l.length) (hd_ : d_ ≤ l.length + 1) : (zlkL l r_ i_ d_).length = l.length + 2 := by
  unfold zlkL
  rw [List.length_insertIdx_of_le_length (by rw [List.length_insertIdx_of_le_length hi_]; exact hd_), List.length_insertIdx_of_le_length hi_]
theorem zzlkL_new {l : List Nat} {r_ i_ d_ : Nat} (hi_ : i_ ≤ l.length) (hd_ : d_ ≤ l.length + 1) : 2 * r_ ∈ zlkL l r_ i_ d_ ∧ 2 * r_ + 1 ∈ zlkL l r_ i_ d_ := by
  have h1 : (l.insertIdx i_ (2 * r_)).length = l.length + 1 := List.length_insertIdx_of_le_length hi_ _
  unfold zlkL
  exact ⟨(List.mem_insertIdx (by omega)).mpr (Or.inr ((List.mem_insertIdx hi_).mpr (Or.inl rfl))), (List.mem_insertIdx (by omega)).mpr (Or.inl rfl)⟩
/-- the request that is put -/
def zzN0 (C_ : zIn) (L_ : zLi) (D_ : zIn) (p_ N_ r_ : Nat) : Prop := r_ < 60 ∧ p_ ≤ 16 ∧ N_ ≤ 4 ∧ (∀ i_, i_ < p_ → zzRp C_ D_ i_) ∧ zzRb C_ D_ p_ r_ ∧ C_ 4 (2 * r_) 2 = C_ 1 r_ 1 ∧ C_ 4 (2 * r_ + 1) 2 = C_ 1 r_ 2 ∧ C_ 1 r_ 11 = -1 ∧ ∀ v_, v_ < N_ → (∀ s_ ∈ L_ 24 v_, ¬ s_ / 2 = r_) ∧ ¬ r_ ∈ L_ 26 v_
theorem zzN0.cs {C_ D_ : zIn} {L_ : zLi} {p_ N_ r_ s_ : Nat} (h_ : zzN0 C_ L_ D_ p_ N_ r_) (hs : s_ / 2 = r_) : zzcs C_ D_ s_ := by
  obtain ⟨a1_, a2, a3, a4, a5, a6, a7, a8, a9⟩ := h_
  refine zzcs_of (by rw [hs]; exact a5) a2 a4 ?_
  rw [hs]
  by_cases hp : s_ % 2 = 0
  · rw [if_pos hp, ← a6, show 2 * r_ = s_ by omega]
  · rw [if_neg hp, ← a7, show 2 * r_ + 1 = s_ by omega]
theorem zzcnd {C_ D_ : zIn} {L_ : zLi} {p_ N_ r_ v_ i_ d_ : Nat} (h0 : zzN0 C_ L_ D_ p_ N_ r_) (hq : zzQ C_ L_ D_ v_) (hv : v_ < N_) (hi_ : i_ ≤ (L_ 24 v_).length) (hd_ : d_ ≤ (L_ 24 v_).length + 1) (hid_ : i_ < d_) : (zlkL (L_ 24 v_) r_ i_ d_).Nodup ∧ (∀ s_ ∈ zlkL (L_ 24 v_) r_ i_ d_, s_ < 120 ∧ zzcs C_ D_ s_) ∧ zzHP D_ (zlkL (L_ 24 v_) r_ i_ d_) ∧ zzvl (zlkL (L_ 24 v_) r_ i_ d_) (L_ 26 v_) ∧ (∀ q_ ∈ L_ 26 v_, ¬ 2 * q_ ∈ zlkL (L_ 24 v_) r_ i_ d_) := by
  have h00 := h0
  obtain ⟨a1_, a2, a3, a4, a5, a6, a7, a8, a9⟩ := h0
  obtain ⟨q1_, q2_, q3_, q4_, q5_, q6_, q7_⟩ := hq
  obtain ⟨n1_, n2_⟩ := a9 v_ hv
  refine ⟨zzlkL_nd q3_ n1_ hi_ hd_, fun s_ hs => ?_, fun s_ hs ho => ?_, zzvl_ins i_ _ _ d_ hid_ q6_, fun q_ hq hm_ => ?_⟩
  · rcases zlkL_mem hi_ hd_ hs with e_ | e_
    · exact ⟨by omega, h00.cs e_⟩
    · exact ⟨(q4_ s_ e_).1, (q4_ s_ e_).2.1⟩
  · rcases zlkL_mem hi_ hd_ hs with e_ | e_
    · rw [e_]
      refine ⟨fun _ => ?_, fun hm_ => absurd (zzlkL_new hi_ hd_).1 hm_⟩
      rw [← a5.2.2.2.2.2.2.2]; exact a8
    · refine ⟨fun hm_ => (q5_ s_ e_ ho).1 ?_, fun hm_ => (q5_ s_ e_ ho).2 (fun h_ => hm_ (zzlkL_in hi_ hd_ h_))⟩
      rcases zlkL_mem hi_ hd_ hm_ with e2_ | e2_
      · exact absurd (by omega) (n1_ s_ e_)
      · exact e2_
  · rcases zlkL_mem hi_ hd_ hm_ with e2_ | e2_
    · exact n2_ (by rw [show r_ = q_ by omega]; exact hq)
    · exact (q7_ q_ hq).2 e2_
theorem zzchl_in {C_ : zIn} {A_ : List Nat} {q_ : Nat} (h_ : q_ ∈ zchl C_ A_) : q_ ∈ A_ := (List.mem_filter.mp h_).1
theorem zzH_of {C_ D_ : zIn} {L_ : zLi} {v_ : Nat} (hq : zzQ C_ L_ D_ v_) : zzH C_ D_ v_ (L_ 26 v_) (D_ 7 0 2) := by
  obtain ⟨q1_, q2_, q3_, q4_, q5_, q6_, q7_⟩ := hq
  obtain ⟨a1_, a2, a3, ⟨a_, ha_, e13_⟩, a5, a6, a7, a8, a9, b1, b2, b3, b4⟩ := q1_
  have h13 : (D_ 30 13 v_).toInt = a_ := by rw [e13_]; exact Int32.toInt_ofNat_of_lt (by omega)
  have h23 := Int32.le_iff_toInt_le.mp a9
  exact ⟨a1_, rfl, by omega, a8, by omega, a9, a7, b2, b3, b1, fun j_ q_ hj => ⟨b4 j_ q_ hj, (q7_ q_ (zzchl_in (List.mem_of_getElem? hj))).1⟩⟩
theorem zzcndO {C_ D_ : zIn} {L_ : zLi} {p_ N_ r_ v_ i_ d_ : Nat} (h0 : zzN0 C_ L_ D_ p_ N_ r_) (hq : zzQ C_ L_ D_ v_) (hv : v_ < N_) (hi_ : i_ ≤ (L_ 24 v_).length) (hd_ : d_ ≤ (L_ 24 v_).length + 1) (hid_ : i_ < d_) : zmrO D_ (zlkL (L_ 24 v_) r_ i_ d_) (zchl C_ (L_ 26 v_)).length := by
  obtain ⟨c1_, c2_, c3_, c4_, c5_⟩ := zzcnd h0 hq hv hi_ hd_ hid_
  have h3 := (zzH_of hq).2.2.2.2.2.2.2.2.1
  have hl := hq.1.2.2.2.2.2.1.2.1
  refine zzlo_O _ _ (zzlo_of _ (L_ 26 v_) (zchl C_ (L_ 26 v_)) c1_ c4_ (fun q_ hqA h2 hl => ?_)) (by rw [zzlkL_len hi_ hd_]; omega)
  have h8 := (c2_ _ hl).2.2.2.2.2.2.2.1
  rw [show (2 * q_ + 1) / 2 = q_ by omega] at h8
  unfold zchl
  rw [List.mem_filter]
  exact ⟨hqA, by rw [h8]; exact decide_eq_true h2⟩
theorem zzW_of {C_ D_ : zIn} {L_ : zLi} {p_ N_ r_ : Nat} (h0 : zzN0 C_ L_ D_ p_ N_ r_) (hQ : ∀ v_, v_ < N_ → zzQ C_ L_ D_ v_) : zzW C_ D_ L_ N_ r_ (D_ 7 0 2) (zzZ C_ L_ N_) := by
  have h00 := h0
  obtain ⟨a1_, a2, a3, a4, a5, a6, a7, a8, a9⟩ := h0
  refine ⟨a3, fun v_ hv => zzH_of (hQ v_ hv), fun v_ hv s_ hs => ((hQ v_ hv).2.2.2.1 s_ hs).2.1, fun v_ hv h14 i_ d_ hf hi_ hid_ hd_ => ?_, fun v_ hv => ⟨(hQ v_ hv).1.2.2.1, (hQ v_ hv).1.2.1⟩, ?_, fun v_ hv hne => ?_, fun s_ hs => ?_⟩
  · obtain ⟨c1_, c2_, c3_, c4_, c5_⟩ := zzcnd h00 (hQ v_ hv) hv hi_ hd_ hid_
    refine ⟨c1_, by rw [zzlkL_len hi_ hd_]; omega, c2_, c3_, c4_, c5_, fun hne s_ hs => ?_⟩
    obtain ⟨t_, l, e1_, e2_, e3_⟩ := (hQ v_ hv).2.1 hne
    have hf1 : zlkF D_ v_ = 1 := if_neg (fun e_ => hne ((hQ v_ hv).1.1.2.2.2.2.2.1.mpr e_))
    rw [zzlkL0 (by omega) (by omega) (by rw [e1_]; simp), e1_] at hs
    have e_ : t_ = s_ := by simpa using hs
    rw [← e_]
    exact ⟨e2_, e3_⟩
  · obtain ⟨u_, k_, hu, hk, e1_, e2_, e3_, e4_, e5_, e6_, e7_⟩ := zzrd a5 a2 a4
    rw [e1_, e2_, e3_, e4_, e5_]
    exact ⟨rfl, rfl⟩
  · obtain ⟨t_, l, e1_, e2_, e3_⟩ := (hQ v_ hv).2.1 hne
    exact ⟨by rw [e1_]; simp, fun s_ hs => zzZ_mem.mpr ⟨v_, hv, hne, hs⟩⟩
  · obtain ⟨w_, hw, hne, hs0⟩ := zzZ_mem.mp hs
    have hsw : s_ ∈ L_ 24 w_ := List.mem_of_getElem? hs0
    refine ⟨(a9 w_ hw).1 s_ hsw, fun v_ hv hsv => ?_⟩
    have e1_ := ((hQ v_ hv).2.2.2.1 s_ hsv).2.2.1
    have e2_ := ((hQ w_ hw).2.2.2.1 s_ hsw).2.2.1
    have e_ : v_ = w_ := (zof_eq (by omega) (by omega)).mp (e1_.symm.trans e2_)
    subst e_
    exact ⟨hne, hs0⟩
theorem zzPk_of {C_ D_ : zIn} {L_ : zLi} {p_ N_ r_ : Nat} (h0 : zzN0 C_ L_ D_ p_ N_ r_) (hQ : ∀ v_, v_ < N_ → zzQ C_ L_ D_ v_) (h11 : D_ 7 0 11 = Int32.ofNat N_) : zPk D_ N_ (fun v_ => L_ 24 v_) (fun v_ => (zchl C_ (L_ 26 v_)).length) r_ := by
  have h00 := h0
  obtain ⟨a1_, a2, a3, a4, a5, a6, a7, a8, a9⟩ := h0
  have hm_ := zzMq a5 a2 a1_
  refine ⟨a3, h11, fun v_ hv => ⟨by omega, hm_, (hQ v_ hv).1.2.2.2.2.2.1, fun s_ hs => ((hQ v_ hv).2.2.2.1 s_ hs).2.2.2, (hQ v_ hv).1.2.2.2.2.2.2.2.2.2.1, (hQ v_ hv).1.2.2.2.2.2.2.2.2.2.2.2.1, fun i_ d_ hi_ hid_ hd_ => zzcndO h00 (hQ v_ hv) hv hi_ hd_ hid_⟩, hm_⟩

