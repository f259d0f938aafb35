/-! THE MINUTE -/
theorem zzmi1 {v_ : Nat} {I_ : zIn} {G_ G' : zIn → Prop} (h_ : zmi1 v_ I_ G_) (hg : ∀ J_, G_ J_ → G' J_) : zmi1 v_ I_ G' := by
  refine ⟨fun a_ b_ => ?_, fun a_ => hg _ (h_.2 a_)⟩
  obtain ⟨s_, l, m_, d_, h1, h2⟩ := h_.1 a_ b_
  exact ⟨s_, l, m_, d_, h1, hg _ h2⟩
theorem zzmi2 {v_ : Nat} {I_ : zIn} {G_ G' : zIn → Prop} (h_ : zmi2 v_ I_ G_) (hg : ∀ J_, G_ J_ → G' J_) : zmi2 v_ I_ G' := by
  refine ⟨fun a_ b_ => ?_, fun a_ => hg _ (h_.2 a_)⟩
  obtain ⟨l, h1, h2, h3⟩ := h_.1 a_ b_
  exact ⟨l, h1, fun s_ r_ e_ => ⟨(h2 s_ r_ e_).1, hg _ (h2 s_ r_ e_).2⟩, fun e_ => hg _ (h3 e_)⟩
theorem zzFn {C_ D_ : zIn} {L_ : zLi} {p_ N_ M_ v_ : Nat} (h_ : zzR C_ L_ D_ p_ N_ M_) (hv : v_ < N_) : zmi1 v_ D_ (fun D' => zzR (zfnn C_ L_ v_ (C_ 6 0 8)).1 (zfnn C_ L_ v_ (C_ 6 0 8)).2 D' p_ N_ M_ ∧ zzfm C_ D_ (zfnn C_ L_ v_ (C_ 6 0 8)).1 D') := by
  obtain ⟨v1_, v2, v3⟩ := h_.2.2.2.1 v_ hv
  have hQ := zzQ_of h_ hv
  have e8 : C_ 6 0 8 = D_ 7 0 2 := h_.1.2.2.2.2.2.2.2.2.2.1
  have c6_ := v1_.1.2.2.2.2.2.1
  by_cases h10 : C_ 5 v_ 10 = 0
  · have e_ : zfnn C_ L_ v_ (C_ 6 0 8) = (C_, L_) := if_pos h10
    rw [e_]
    exact ⟨fun a_ _ => absurd (c6_.mp h10) a_, fun _ => ⟨h_, zzfm.rfl⟩⟩
  · obtain ⟨s_, l, hl, e3_, e4_, e5_⟩ := v2.1 h10
    have hsm : s_ ∈ L_ 24 v_ := by rw [hl]; exact List.mem_cons_self
    obtain ⟨hs120, hcs, hs8, hmq⟩ := hQ.2.2.2.1 s_ hsm
    obtain ⟨hqM, hq8, hq0, hq1, _⟩ := v3.2.2.2.1 s_ hsm
    obtain ⟨gb, gc_⟩ := h_.2.2.1 (s_ / 2) hqM
    have hchq : zchr C_ (s_ / 2) = decide (zmkd D_ (s_ / 2) = 2) := hcs.2.2.2.2.2.2.1
    have a3 := v1_.2.2.1
    refine ⟨fun a_ b_ => ?_, fun a_ => ?_⟩
    · have hnow : C_ 4 s_ 4 = D_ 7 0 2 := e4_.trans b_
      have hn := v3.1
      rw [hl] at hn
      have n2_ := (List.nodup_cons.mp hn).2
      have hd_ : s_ % 2 = 0 → ∃ d_, zlx (2 * (s_ / 2) + 1) (ztoL l (s_ / 2)) 0 none = some d_ ∧ (ztoL l (s_ / 2)).eraseIdx d_ = zzwo (s_ / 2) l ∧ d_ < (ztoL l (s_ / 2)).length := fun hev => by
        obtain ⟨v', hv', e8', _, m1_, m2_, _⟩ := zzst0 h_ hqM (hq0 hev)
        have hN4 := h_.1.2.2.2.2.1
        have hvv : v' = v_ := (zof_eq (by omega) (by omega)).mp (e8'.symm.trans hq8)
        subst hvv
        rw [hl] at m2_
        exact zztoX n2_ ((List.mem_cons.mp m2_).resolve_left (by omega))
      have hdx : ∃ d_, (s_ % 2 = 0 → zlx (2 * (s_ / 2) + 1) (ztoL l (s_ / 2)) 0 none = some d_ ∧ (ztoL l (s_ / 2)).eraseIdx d_ = zzwo (s_ / 2) l ∧ d_ < (ztoL l (s_ / 2)).length) := by
        by_cases hev : s_ % 2 = 0
        · obtain ⟨d_, hd2⟩ := hd_ hev
          exact ⟨d_, fun _ => hd2⟩
        · exact ⟨0, fun e_ => absurd e_ hev⟩
      obtain ⟨d_, hd_⟩ := hdx
      refine ⟨s_, l, (zchl C_ (L_ 26 v_)).length, d_, ⟨hmq, v1_.2.2.2.2.2.2.2.2.2.1, fun hev _ hk => (zzPa h_ hv h10 hl hev hnow).2.2 hk, fun _ => by rw [← gc_.2.2.2.1]; exact hq8, hl ▸ v1_.2.2.2.2.2.1, fun hev => (hd_ hev).1⟩, ?_⟩
      have hcd : (¬ s_ % 2 = 0 ∧ zchr C_ (s_ / 2) = true ∧ C_ 5 v_ 9 = 0 ∧ C_ 4 s_ 5 = 0) ↔ (s_ % 2 = 1 ∧ zmkd D_ (s_ / 2) = 2 ∧ D_ 31 16 v_ = 0 ∧ D_ 31 22 v_ = 0) := by
        rw [hchq, decide_eq_true_iff, a3, e5_]
        exact and_congr (by omega) Iff.rfl
      have eF : zfnn C_ L_ v_ (C_ 6 0 8) = (if ¬ s_ % 2 = 0 ∧ zchr C_ (s_ / 2) = true ∧ C_ 5 v_ 9 = 0 ∧ C_ 4 s_ 5 = 0 then (zset (zset C_ 4 s_ 5 1) 4 s_ 4 (zset C_ 4 s_ 5 1 4 s_ 4 + 30), L_) else zfi2 C_ L_ v_ s_ (C_ 6 0 8)) := by
        unfold zfnn
        rw [if_neg h10]
        simp only [hl]
        rw [if_pos (by rw [hnow, e8])]
      rw [eF]
      unfold zmiA
      by_cases hc_ : s_ % 2 = 1 ∧ zmkd D_ (s_ / 2) = 2 ∧ D_ 31 16 v_ = 0 ∧ D_ 31 22 v_ = 0
      · rw [if_pos (hcd.mpr hc_), if_pos hc_]
        refine ⟨zzDl h_ hv h10 hl, fun c_ i_ f_ hh => ?_, fun c_ i_ f_ hh => ?_, ?_, ?_⟩
        · show zset _ 4 s_ 4 _ c_ i_ f_ = _
          rw [zset_ne (by omega), zset_ne (by omega)]
        · rw [zset_ne (by omega), zset_ne (by omega)]
        · rw [zset_ne (by simp), zset_ne (by simp)]
        · rw [zset_ne (by simp), zset_ne (by simp)]
      · rw [if_neg (fun e_ => hc_ (hcd.mp e_)), if_neg hc_, e8]
        unfold zfi2 zdnM
        by_cases hev : s_ % 2 = 0
        · rw [if_pos hev, if_pos hev]
          have q13_ : zpi1 (zfi1 C_ v_ s_ (D_ 7 0 2)) s_ 1 (s_ / 2) 13 = C_ 1 (s_ / 2) 13 := by
            unfold zpi1
            rw [zset_ne (by simp), zset_ne (by simp), zzfi1.2.2.2 1 _ 13 (by simp)]
          have q9_ : zpi1 (zfi1 C_ v_ s_ (D_ 7 0 2)) s_ 5 v_ 9 = C_ 5 v_ 9 := by
            unfold zpi1
            rw [zset_ne (by simp), zset_ne (by simp), zzfi1.2.2.2 5 v_ 9 (by simp)]
          have qc : zchr (zpi1 (zfi1 C_ v_ s_ (D_ 7 0 2)) s_) (s_ / 2) = zchr C_ (s_ / 2) := by
            unfold zchr zpi1
            rw [zset_ne (by simp), zset_ne (by simp), zset_ne (by simp), zset_ne (by simp), zzfi1.2.2.2 1 _ 0 (by simp), zzfi1.2.2.2 2 _ 0 (by simp)]
          have h41 : C_ 1 (s_ / 2) 13 = 0 ↔ D_ 31 41 (s_ / 2) = 0 := gc_.2.2.2.2.2.2.1
          have ep : zpkC (zdn4 D_ v_ s_ l.length) v_ (s_ / 2) = zpkC D_ v_ (s_ / 2) := zdn4_pc
          unfold zpid zpkM
          rw [q13_, q9_, qc, ep]
          have hPn := fun (hd3 : d_ < (ztoL l (s_ / 2)).length) (hd2 : (ztoL l (s_ / 2)).eraseIdx d_ = zzwo (s_ / 2) l) => zzPn h_ hv h10 hl hev hd3 hd2
          by_cases h13 : C_ 1 (s_ / 2) 13 = 0
          · rw [if_neg (not_not_intro h13)]
            have hPn := hPn (hd_ hev).2.2 (hd_ hev).2.1
            rw [if_pos (h41.mp h13)] at hPn
            by_cases h5 : zchr C_ (s_ / 2) = true ∧ C_ 5 v_ 9 = 0
            · have ec : zpkC D_ v_ (s_ / 2) = true := by
                unfold zpkC
                rw [hchq, decide_eq_true_iff] at h5
                rw [decide_eq_true h5.1, decide_eq_true (a3.mp h5.2)]
                simp
              rw [if_pos h5, if_pos ec]
              exact hPn
            · have ec : ¬ zpkC D_ v_ (s_ / 2) = true := by
                unfold zpkC
                rw [decide_eq_false (not_not_intro (h41.mp h13)), Bool.false_or, Bool.and_eq_true, decide_eq_true_iff, decide_eq_true_iff]
                intro e_
                refine h5 ⟨?_, a3.mpr e_.2⟩
                rw [hchq]; exact decide_eq_true e_.1
              rw [if_neg h5, if_neg ec]
              obtain ⟨r1_, r2, _⟩ := zzPa h_ hv h10 hl hev hnow
              exact ⟨r1_, r2⟩
          · have hPn := hPn (hd_ hev).2.2 (hd_ hev).2.1
            rw [if_neg (fun e_ => h13 (h41.mpr e_))] at hPn
            have ec : zpkC D_ v_ (s_ / 2) = true := by
              unfold zpkC
              rw [decide_eq_true (show ¬ D_ 31 41 (s_ / 2) = 0 from fun e_ => h13 (h41.mpr e_))]
              rfl
            rw [if_pos h13, if_pos ec]
            exact hPn
        · rw [if_neg hev, if_neg hev]
          exact zzDp h_ hv h10 hl hev
    · have hne : ¬ C_ 4 s_ 4 = C_ 6 0 8 := fun e_ => a_ ⟨fun e2_ => h10 (c6_.mpr e2_), by rw [← e4_, e_, e8]⟩
      have e_ : zfnn C_ L_ v_ (C_ 6 0 8) = (C_, L_) := by
        unfold zfnn
        rw [if_neg h10]
        simp only [hl]
        rw [if_neg hne]
      rw [e_]
      exact ⟨h_, zzfm.rfl⟩
theorem zzVh {C_ D_ : zIn} {L_ : zLi} {p_ N_ M_ v_ : Nat} (h_ : zzR C_ L_ D_ p_ N_ M_) (hv : v_ < N_) : zmiW v_ D_ (fun D' => zzR (zpmv v_ C_ L_).1 (zpmv v_ C_ L_).2 D' p_ N_ M_ ∧ zzfm C_ D_ (zpmv v_ C_ L_).1 D') := by
  unfold zmiW
  refine zzmi1 (zzFn h_ hv) (fun J_ hJ => ?_)
  refine zzmi2 (zzLv hJ.1 hv) (fun K_ hK_ => ?_)
  exact ⟨hK_.1, hK_.2.trans hJ.2⟩
theorem zzTk {C_ D_ : zIn} {L_ : zLi} {p_ N_ M_ : Nat} (h_ : zzR C_ L_ D_ p_ N_ M_) {t_ : Nat} (ht : t_ < 600) (e_ : D_ 7 0 2 = Int32.ofNat t_) : zzR (zset C_ 6 0 8 (C_ 6 0 8 + 1)) L_ (zset D_ 7 0 2 (D_ 7 0 2 + 1)) p_ N_ M_ := by
  refine zzRgl h_ (fun c_ i_ f_ hc_ => zset_ne (by omega)) (fun i_ f_ => zset_ne (by simp)) (fun i_ f_ _ => zset_ne (by simp)) ?_
  obtain ⟨a1_, a2, a3, a4, a5, a6, a7, a8, a9, b1, b2, b3, b4, b5, b6, b7⟩ := h_.1
  have e7_ : ∀ f_, ¬ f_ = 2 → zset D_ 7 0 2 (D_ 7 0 2 + 1) 7 0 f_ = D_ 7 0 f_ := fun f_ h1 => zset_ne (by simp [h1])
  have e6_ : ∀ f_, ¬ f_ = 8 → zset C_ 6 0 8 (C_ 6 0 8 + 1) 6 0 f_ = C_ 6 0 f_ := fun f_ h1 => zset_ne (by simp [h1])
  unfold zzRg
  rw [e7_ 6 (by decide), e7_ 11 (by decide), e7_ 28 (by decide), e7_ 3 (by decide), e7_ 1 (by decide), e7_ 5 (by decide), e6_ 6 (by decide), e6_ 7 (by decide), zset_is, zset_is]
  refine ⟨a1_, a2, a3, a4, a5, a6, a7, a8, a9, by rw [b1], b2, ⟨t_ + 1, by omega, by rw [e_, zisucc]⟩, b4, b5, fun k_ hk => ?_, ?_⟩
  · rw [zset_ne (by simp), zset_ne (by simp)]
    exact b6 k_ hk
  · rw [b7]
    exact (zzcb_n (fun f_ => zset_ne (by simp)) 36 0 0).symm
theorem zpml_cons {v_ : Nat} {r_ : List Nat} {I_ : zIn} {L_ : zLi} : zpml (v_ :: r_) I_ L_ = zpml r_ (zpmv v_ I_ L_).1 (zpmv v_ I_ L_).2 := rfl
