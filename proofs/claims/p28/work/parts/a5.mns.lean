/-! THE CALLS: mend, answered -/
theorem zzwoP {C_ D_ : zIn} {L_ : zLi} {p_ N_ M_ q_ v_ : Nat} (h_ : zzR C_ L_ D_ p_ N_ M_) (hq : q_ < M_) (h0 : C_ 1 q_ 5 = 0) (hv : v_ < N_) (e8 : C_ 1 q_ 8 = Int32.ofNat v_) : 2 * q_ ∈ L_ 24 v_ ∧ 2 * q_ + 1 ∈ L_ 24 v_ ∧ zpos (2 * q_) (L_ 24 v_) < zpos (2 * q_ + 1) (L_ 24 v_) ∧ zpos (2 * q_) (L_ 24 v_) ≤ (zzwo q_ (L_ 24 v_)).length ∧ zpos (2 * q_ + 1) (L_ 24 v_) ≤ (zzwo q_ (L_ 24 v_)).length + 1 ∧ (zzwo q_ (L_ 24 v_)).length ≤ 14 := by
  obtain ⟨v', hv', e8', e11_, m1_, m2_, h26, h25, h24, l1, l2, l3, hl⟩ := zzst0 h_ hq h0
  have hN4 := h_.1.2.2.2.2.1
  have hvv : v' = v_ := (zof_eq (by omega) (by omega)).mp (e8'.symm.trans e8)
  subst hvv
  have t1_ := (h_.2.2.2.1 v' hv').2.2.1
  have hl16 := (h_.2.2.2.1 v' hv').1.2.2.2.2.2.1.2.1
  have hwo : zzwo q_ (L_ 24 v') = l1 ++ (l2 ++ l3) := by rw [hl]; exact zzcut_wo (hl ▸ t1_)
  have hp : zpos (2 * q_) (L_ 24 v') = l1.length := by rw [hl]; exact zzcut_p (hl ▸ t1_)
  have hd_ : zpos (2 * q_ + 1) (L_ 24 v') = l1.length + 1 + l2.length := by rw [hl]; exact zzcut_d (hl ▸ t1_)
  have hlen : (zzwo q_ (L_ 24 v')).length + 2 = (L_ 24 v').length := by rw [hwo, hl]; simp only [List.length_append, List.length_cons]; omega
  refine ⟨m1_, m2_, by rw [hp, hd_]; omega, ?_, ?_, by omega⟩
  · rw [hp, hwo]; simp only [List.length_append]; omega
  · rw [hd_, hwo]; simp only [List.length_append]; omega
theorem zzml_of {C_ D_ : zIn} {L_ : zLi} {p_ N_ M_ v_ : Nat} (h_ : zzR C_ L_ D_ p_ N_ M_) (hv : v_ < N_) : zzml C_ L_ v_ M_ (zpks ((L_ 24 v_).drop (zfo C_ v_))) := by
  obtain ⟨v1_, v2, t1_, t2_, t3_, t4_, t5_, t6, _⟩ := h_.2.2.2.1 v_ hv
  refine ⟨zpks_nd (t1_.sublist (List.drop_sublist _ _)), fun j_ hj => ?_⟩
  have hm_ := zpks_mem.mp hj
  have hm2 := List.mem_of_mem_drop hm_
  obtain ⟨a1_, a2, a3, _⟩ := t4_ _ hm2
  rw [show 2 * j_ / 2 = j_ by omega] at a1_ a2 a3
  have e0_ := a3 (by omega)
  refine ⟨a1_, e0_, a2, ?_⟩
  unfold zlef
  by_cases e_ : C_ 5 v_ 10 = 0
  · rw [decide_eq_false (not_not_intro e_), Bool.false_and]
  · obtain ⟨s_, l, e1_, _⟩ := v2.1 e_
    unfold zfo at hm_
    rw [if_neg e_, e1_] at hm_
    rw [e1_] at t1_ t6
    rw [e1_]
    have hsl : ¬ 2 * j_ = s_ := fun e2_ => (List.nodup_cons.mp t1_).1 (e2_ ▸ hm_)
    have hsj : ¬ s_ / 2 = j_ := fun e2_ => by
      have hodd : ¬ s_ % 2 = 0 := by omega
      have := ((zzvl_o hodd).mp t6).1
      have h5 := (t5_ _ this).2.1
      rw [e2_, e0_] at h5
      exact absurd h5 (by decide)
    rw [decide_eq_true e_, Bool.true_and]
    exact decide_eq_false hsj
