/-! THE CALLS: mend, answered -/
theorem zzwoP {C_ D_ : zIn} {L_ : zLi} {p_ N_ M_ q_ v_ : Nat} (h_ : zzR C_ L_ D_ p_ N_ M_) (hq : q_ < M_) (h0 : C_ 1 q_ 5 = 0) (hv : v_ < N_) (e8 : C_ 1 q_ 8 = Int32.ofNat v_) : 2 * q_ ∈ L_ 24 v_ ∧ 2 * q_ + 1 ∈ L_ 24 v_ ∧ zpos (2 * q_) (L_ 24 v_) < zpos (2 * q_ + 1) (L_ 24 v_) ∧ zpos (2 * q_) (L_ 24 v_) ≤ (zzwo q_ (L_ 24 v_)).length ∧ zpos (2 * q_ + 1) (L_ 24 v_) ≤ (zzwo q_ (L_ 24 v_)).length + 1 ∧ (zzwo q_ (L_ 24 v_)).length ≤ 14 := by
  obtain ⟨v', hv', e8', e11_, m1_, m2_, h26, h25, h24, l1, l2, l3, hl⟩ := zzst0 h_ hq h0
  have hN4 := h_.1.2.2.2.2.1
  have hvv : v' = v_ := (zof_eq (by omega) (by omega)).mp (e8'.symm.trans e8)
  subst hvv
  have t1_ := (h_.2.2.2.1 v' hv').2.2.1
  have hl16 := (h_.2.2.2.1 v' hv').1.2.2.2.2.2.1.2.1
  have hwo : zzwo q_ (L_ 24 v') = l1 ++ (l2 ++ l3) := by rw [hl]; exact zzcut_wo (hl ▸ t1_)
  have hp : zpos (2 * q_) (L_ 24 v') = l1.length := by rw [hl]; exact zzcut_p (hl ▸ t1_)
  have hd_ : zpos (2 * q_ + 1) (L_ 24 v') = l1.length + 1 + l2.length := by rw [hl]; exact zzcut_d (hl ▸ t1_)
  have hlen : (zzwo q_ (L_ 24 v')).length + 2 = (L_ 24 v').length := by rw [hwo, hl]; simp only [List.length_append, List.length_cons]; omega
  refine ⟨m1_, m2_, by rw [hp, hd_]; omega, ?_, ?_, by omega⟩
  · rw [hp, hwo]; simp only [List.length_append]; omega
  · rw [hd_, hwo]; simp only [List.length_append]; omega
theorem zzml_of {C_ D_ : zIn} {L_ : zLi} {p_ N_ M_ v_ : Nat} (h_ : zzR C_ L_ D_ p_ N_ M_) (hv : v_ < N_) : zzml C_ L_ v_ M_ (zpks ((L_ 24 v_).drop (zfo C_ v_))) := by
  obtain ⟨v1_, v2, t1_, t2_, t3_, t4_, t5_, t6, _⟩ := h_.2.2.2.1 v_ hv
  refine ⟨zpks_nd (t1_.sublist (List.drop_sublist _ _)), fun j_ hj => ?_⟩
  have hm_ := zpks_mem.mp hj
  have hm2 := List.mem_of_mem_drop hm_
  obtain ⟨a1_, a2, a3, _⟩ := t4_ _ hm2
  rw [show 2 * j_ / 2 = j_ by omega] at a1_ a2 a3
  have e0_ := a3 (by omega)
  refine ⟨a1_, e0_, a2, ?_⟩
  unfold zlef
  by_cases e_ : C_ 5 v_ 10 = 0
  · rw [decide_eq_false (not_not_intro e_), Bool.false_and]
  · obtain ⟨s_, l, e1_, _⟩ := v2.1 e_
    unfold zfo at hm_
    rw [if_neg e_, e1_] at hm_
    rw [e1_] at t1_ t6
    rw [e1_]
    have hsl : ¬ 2 * j_ = s_ := fun e2_ => (List.nodup_cons.mp t1_).1 (e2_ ▸ hm_)
    have hsj : ¬ s_ / 2 = j_ := fun e2_ => by
      have hodd : ¬ s_ % 2 = 0 := by omega
      have := ((zzvl_o hodd).mp t6).1
      have h5 := (t5_ _ this).2.1
      rw [e2_, e0_] at h5
      exact absurd h5 (by decide)
    rw [decide_eq_true e_, Bool.true_and]
    exact decide_eq_false hsj
theorem zzO_mend {I_ : zIn} {L_ : zLi} {x_ : Int32} (h_ : zzRR0 I_ L_) : zzOk I_ L_ 13 58 10 172 [zwR 6 0, zwI x_] [zwR 7 0, zwI x_] zcdD := by
  obtain ⟨p_, N_, M_, h_⟩ := h_
  have hN4 := h_.1.2.2.2.2.1
  have hM60 := h_.1.2.2.2.2.2.2.2.1
  have e11_ : I_ 7 0 11 = Int32.ofNat N_ := h_.1.2.2.2.2.2.1
  have hl : (L_ 21 0).length = N_ := by rw [h_.1.2.2.2.1, List.length_range]
  rcases zzarg (x_ := x_) (n_ := N_) (by omega) with ⟨v_, hv, rfl, hx⟩ | ⟨hx1, hx2⟩
  · have hs : (L_ 21 0)[v_]? = some v_ := by rw [h_.1.2.2.2.1]; exact List.getElem?_range hv
    have hcgL : ∀ (C_ D_ : zIn) (K_ : zLi) (l : List Nat), zzR C_ K_ D_ p_ N_ M_ → zzR C_ (zlup K_ 23 0 l) D_ p_ N_ M_ := fun C_ D_ K_ l hh => hh.cg zzn.rfl zzm.rfl (fun c_ i_ h1 _ => zlup_ne (fun e_ => h1 e_.1))
    have hml0 := zzml_of h_ hv
    generalize hqs : zpks ((L_ 24 v_).drop (zfo I_ v_)) = qs at *
    have hml : zzml I_ (zlup L_ 23 0 qs) v_ M_ qs := ⟨hml0.1, fun j_ hj => by
      obtain ⟨a_, b_, c_, d_⟩ := hml0.2 j_ hj
      exact ⟨a_, b_, c_, (zzlefe rfl (fun _ => congrArg (fun l => l[0]?) (zlup_ne (by simp)))).trans d_⟩⟩
    have hl24 : (L_ 24 v_).length ≤ 16 := (zzA26 h_ hv).2
    have h1 : I_ 5 v_ 10 = 0 ∨ ¬ L_ 24 v_ = [] := by
      by_cases e_ : I_ 5 v_ 10 = 0
      · exact Or.inl e_
      · obtain ⟨s_, l, e1_, _⟩ := (h_.2.2.2.1 v_ hv).2.1.1 e_
        exact Or.inr (by rw [e1_]; exact List.cons_ne_nil _ _)
    have hc_ := zm58t (P_ := fun l C_ K_ => (∃ D_, zzR C_ K_ D_ p_ N_ M_) ∧ zzml C_ K_ v_ M_ l) hs (by omega) h1 (fun q_ r_ C_ K_ hh => by
      obtain ⟨⟨D_, hD⟩, hm_⟩ := hh
      obtain ⟨a_, b_, c_, d_⟩ := hm_.2 q_ List.mem_cons_self
      obtain ⟨w1_, w2_, w3_, _⟩ := zzwoP hD a_ b_ hv c_
      obtain ⟨l1, l2⟩ := zzA26 hD hv
      refine ⟨w1_, w2_, w3_, by omega, by omega, fun u_ hu => ?_⟩
      rw [hD.1.2.2.2.1, List.mem_range] at hu
      obtain ⟨l3, l4⟩ := zzA26 hD hu
      exact ⟨by omega, by omega, by omega⟩) (fun q_ r_ C_ K_ hh => by
      obtain ⟨⟨D_, hD⟩, hm_⟩ := hh
      obtain ⟨a_, b_, c_, d_⟩ := hm_.2 q_ List.mem_cons_self
      obtain ⟨w1_, w2_, w3_, _⟩ := zzwoP hD a_ b_ hv c_
      obtain ⟨d', _, x2_, x3⟩ := zztoX (r_ := q_) (hD.2.2.2.1 v_ hv).2.2.1 w2_
      obtain ⟨_, k_⟩ := zzmqS hD a_ b_ hv c_ d_ x2_ x3
      obtain ⟨_, k2_, k3_⟩ := k_ _ rfl
      exact ⟨⟨_, k2_⟩, zzml_go hm_ hv k3_⟩) (by rw [hqs]; exact ⟨⟨I_, hcgL _ _ _ _ h_⟩, hml⟩)
    have hmn : zmnd v_ I_ L_ = zmql v_ qs 0 I_ (zlup L_ 23 0 qs) := by unfold zmnd; rw [hqs]
    rw [hmn] at hc_
    refine zzSet h_ hc_ (by decide) (zzmqco hv qs 0 I_ _ ⟨I_, hcgL _ _ _ _ h_⟩ hml) (fun y_ J_ hJ e7_ e30 hR => ?_)
    have hcv := (hR.2.2.2.1 v_ hv).1.1.2.2.2.2.2.1
    have hfo : zlkF J_ v_ = zfo I_ v_ := by
      unfold zlkF zfo
      by_cases e_ : I_ 5 v_ 10 = 0
      · rw [if_pos e_, if_pos (hcv.mp e_)]
      · rw [if_neg e_, if_neg (fun e2_ => e_ (hcv.mpr e2_))]
    have hql : zpks ((L_ 24 v_).drop (zlkF J_ v_)) = qs := by rw [hfo]; exact hqs
    have hmo := zm172b (I_ := zset (zmql v_ qs 0 I_ (zlup L_ 23 0 qs)).2.1 32 0 0 y_) (L_ := (zmql v_ qs 0 I_ (zlup L_ 23 0 qs)).2.2) (l := L_ 24 v_) (P_ := fun k_ x_ K_ => ∃ C'_ L', zmql v_ qs 0 I_ (zlup L_ 23 0 qs) = zmql v_ (qs.drop k_) x_ C'_ L' ∧ zzR C'_ L' K_ p_ N_ M_ ∧ zzml C'_ L' v_ M_ (qs.drop k_) ∧ K_ 7 0 0 = 0 ∧ zzmo K_ J_ ∧ ∀ j_ q_, qs[j_]? = some q_ → K_ 30 51 j_ = Int32.ofNat q_) (by omega) (by rw [e7_ 11 (by decide), hR.1.2.2.2.2.2.1]; exact hx) hJ (hR.2.2.2.1 v_ hv).1.2.2.2.2.2.1 (fun hne => h1.resolve_left (fun e_ => hne (hcv.mp e_))) (fun k_ x_ K_ hP j_ q_ hj => by
      rw [hql] at hj
      obtain ⟨C'_, L', _, _, _, _, _, h51⟩ := hP
      exact h51 j_ q_ hj) (fun k_ x_ K_ q_ hk hP => ?_) ?_
    · refine hmo.mono (Nat.le_refl _) (Nat.le_refl _) (fun r2 I2_ L2_ hq => ?_)
      obtain ⟨x_, rfl, ⟨C'_, L', g1, g2, g3_, g4, g5_, g6⟩, rfl⟩ := hq
      rw [hql, List.drop_length] at g1
      rw [g1]
      exact ⟨rfl, rfl, g4, g5_, p_, N_, M_, g2⟩
    · rw [hql] at hk
      obtain ⟨C'_, L', g1, g2, g3_, g4, g5_, g6⟩ := hP
      rw [zdrop_cons hk] at g1 g3_
      obtain ⟨a_, b_, c_, d_⟩ := g3_.2 q_ List.mem_cons_self
      obtain ⟨w1_, w2_, w3_, w4_, w5, w6_⟩ := zzwoP g2 a_ b_ hv c_
      have hQ := zzQ_of g2 hv
      obtain ⟨d', x1_, x2_, x3⟩ := zztoX (r_ := q_) hQ.2.2.1 w2_
      obtain ⟨kk, kq⟩ := zzmqS g2 a_ b_ hv c_ d_ x2_ x3
      obtain ⟨s1_, s2_, s3_⟩ := kq _ rfl
      refine (zm173 (J_ := K_) (l := L' 24 v_) hv (by omega) hQ.1.2.2.2.2.2.1 (fun s_ hs => (hQ.2.2.2.1 s_ hs).2.2.2) (zzlx_of hQ.2.2.1 w1_) (zzlx_of hQ.2.2.1 w2_) (zzpos_at w1_) (zzpos_at w2_) (by rw [← (g2.2.2.1 q_ a_).2.2.2.2.1]; exact c_) x1_ kk (by show _ ≤ (zlup L' 24 v_ (zzwo q_ (L' 24 v_)) 24 v_).length; rw [zlup_self]; exact w4_) (by show _ ≤ (zlup L' 24 v_ (zzwo q_ (L' 24 v_)) 24 v_).length + 1; rw [zlup_self]; exact w5) (by show (zlup L' 24 v_ (zzwo q_ (L' 24 v_)) 24 v_).length ≤ 14; rw [zlup_self]; exact w6_)).mono (Nat.le_refl _) (Nat.le_refl _) (fun r_ I' L3_ hq => ?_)
      obtain ⟨rfl, rfl, rfl⟩ := hq
      refine ⟨_, rfl, ⟨_, _, ?_, s2_, zzml_go g3_ hv s3_, s3_.2.2.1.trans g4, s3_.2.1.trans g5_, fun j_ q' hj => (s3_.2.2.2.1 j_).trans (g6 j_ q' hj)⟩, rfl⟩
      rw [g1]
      refine (show zmql v_ (q_ :: qs.drop (k_ + 1)) x_ C'_ L' = zmql v_ (qs.drop (k_ + 1)) (if (zmq v_ q_ C'_ L').1 = true then x_ + 1 else x_) (zmq v_ q_ C'_ L').2.1 (zmq v_ q_ C'_ L').2.2 from rfl).trans ?_
      rw [s1_]
    · refine ⟨I_, zlup L_ 23 0 qs, rfl, ?_, hml, ?_, fun c_ j_ f_ hh => ?_, fun j_ q_ hj => ?_⟩
      · exact (hR.cg zzn.rfl (fun c_ j_ f_ a1_ a2 a3 => zlwI_ne (by omega) _ _ _) (fun c_ i_ h1 _ => zlup_ne (fun e_ => h1 e_.1)))
      · rw [zlwI_ne (by simp), ← hJ, zset_is]
      · exact zlwI_ne (by omega) _ _ _
      · have := zlwI_at ((L_ 24 v_).drop (zlkF J_ v_)) 0 J_ j_ q_ (by rw [hql]; exact hj)
        rw [Nat.zero_add] at this
        exact this
  · exact zzRef h_ (zm58x (by rw [hl]; exact hx1)) (by decide) (t_ := 1) rfl (fun w_ => zm172a (by rw [zz32, e11_]; exact hx2))
