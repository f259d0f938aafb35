/-! THE LAW'S STATE: mend -/
section
variable {I_ I' : zIn} {L_ L' : zLi} {M_ t_ t' y_ y' bus j_ v_ : Nat} {s_ : Int32}
theorem zmqlR (hv : v_ < 2) : ∀ (l : List Nat) (y_ : Nat) (C_ : zIn) (K_ : zLi), (∃ D_, zzR C_ K_ D_ 6 2 M_) → zzml C_ K_ v_ M_ l → (∃ D_, zzR (zmql v_ l (Int32.ofNat y_) C_ K_).2.1 (zmql v_ l (Int32.ofNat y_) C_ K_).2.2 D_ 6 2 M_) ∧ (∃ y', y' ≤ y_ + l.length ∧ (zmql v_ l (Int32.ofNat y_) C_ K_).1 = Int32.ofNat y') ∧ ∀ u_, (zmql v_ l (Int32.ofNat y_) C_ K_).2.2 26 u_ = K_ 26 u_
  | [], y_, C_, K_, hD, _ => ⟨hD, ⟨y_, Nat.le_refl _, rfl⟩, fun _ => rfl⟩
  | q_ :: l, y_, C_, K_, ⟨D_, h_⟩, hm_ => by
    obtain ⟨a_, b_, c_, d_⟩ := hm_.2 q_ List.mem_cons_self
    obtain ⟨w1_, w2_, w3_, _⟩ := zzwoP h_ a_ b_ hv c_
    obtain ⟨d', _, x2_, x3⟩ := zztoX (r_ := q_) (h_.2.2.2.1 v_ hv).2.2.1 w2_
    obtain ⟨_, k_⟩ := zzmqS h_ a_ b_ hv c_ d_ x2_ x3
    obtain ⟨k1_, k2_, k3_⟩ := k_ _ rfl
    have e26_ : ∀ u_, (zmq v_ q_ C_ K_).2.2 26 u_ = K_ 26 u_ := fun u_ => zmq_ne (by omega) (by omega)
    unfold zmql
    by_cases hb_ : (zmq v_ q_ C_ K_).1 = true
    · rw [if_pos hb_, zisucc]
      obtain ⟨g1, ⟨y', g2, g3_⟩, g4⟩ := zmqlR hv l (y_ + 1) _ _ ⟨_, k2_⟩ (zzml_go hm_ hv k3_)
      exact ⟨g1, ⟨y', by rw [List.length_cons]; omega, g3_⟩, fun u_ => (g4 u_).trans (e26_ u_)⟩
    · rw [if_neg hb_]
      obtain ⟨g1, ⟨y', g2, g3_⟩, g4⟩ := zmqlR hv l y_ _ _ ⟨_, k2_⟩ (zzml_go hm_ hv k3_)
      exact ⟨g1, ⟨y', by rw [List.length_cons]; omega, g3_⟩, fun u_ => (g4 u_).trans (e26_ u_)⟩
theorem zc58 (h_ : zLw I_ L_ M_ t_ y_ bus j_) (hv : v_ < 2) : zYm 13 58 [zwR 6 0, zwI (Int32.ofNat v_)] I_ L_ 60 (zOkI (fun x_ I' L' => (∃ n_, n_ ≤ 16 ∧ x_ = Int32.ofNat n_) ∧ zLw I' L' M_ t_ y_ bus j_)) := by
  obtain ⟨⟨D_, hR, et⟩, hxs, hrb, h6⟩ := h_.1
  have hcgL : ∀ (C_ D_ : zIn) (K_ : zLi) (l : List Nat), zzR C_ K_ D_ 6 2 M_ → zzR C_ (zlup K_ 23 0 l) D_ 6 2 M_ := fun C_ D_ K_ l hh => hh.cg zzn.rfl zzm.rfl (fun c_ i_ h1 _ => zlup_ne (fun e_ => h1 e_.1))
  have hml0 := zzml_of hR hv
  have hpk : (zpks ((L_ 24 v_).drop (zfo I_ v_))).length ≤ 16 := by
    have a1_ := zpks_len ((L_ 24 v_).drop (zfo I_ v_))
    have a2 := (zzA26 hR hv).2
    rw [List.length_drop] at a1_
    omega
  generalize hqs : zpks ((L_ 24 v_).drop (zfo I_ v_)) = qs at *
  have hml : zzml I_ (zlup L_ 23 0 qs) v_ M_ qs := ⟨hml0.1, fun j_ hj => by
    obtain ⟨a_, b_, c_, d_⟩ := hml0.2 j_ hj
    exact ⟨a_, b_, c_, (zzlefe rfl (fun _ => congrArg (fun l => l[0]?) (zlup_ne (by simp)))).trans d_⟩⟩
  have hl24 : (L_ 24 v_).length ≤ 16 := (zzA26 hR hv).2
  have h1 : I_ 5 v_ 10 = 0 ∨ ¬ L_ 24 v_ = [] := by
    by_cases e_ : I_ 5 v_ 10 = 0
    · exact Or.inl e_
    · obtain ⟨s_, l, e1_, _⟩ := (hR.2.2.2.1 v_ hv).2.1.1 e_
      exact Or.inr (by rw [e1_]; exact List.cons_ne_nil _ _)
  have hc_ := zm58t (P_ := fun l C_ K_ => (∃ D_, zzR C_ K_ D_ 6 2 M_) ∧ zzml C_ K_ v_ M_ l) (zq21 hR hv) (by omega) h1 (fun q_ r_ C_ K_ hh => by
    obtain ⟨⟨D_, hD⟩, hm_⟩ := hh
    obtain ⟨a_, b_, c_, d_⟩ := hm_.2 q_ List.mem_cons_self
    obtain ⟨w1_, w2_, w3_, _⟩ := zzwoP hD a_ b_ hv c_
    obtain ⟨l1, l2⟩ := zzA26 hD hv
    refine ⟨w1_, w2_, w3_, by omega, by omega, fun u_ hu => ?_⟩
    rw [hD.1.2.2.2.1, List.mem_range] at hu
    obtain ⟨l3, l4⟩ := zzA26 hD hu
    exact ⟨by omega, by omega, by omega⟩) (fun q_ r_ C_ K_ hh => by
    obtain ⟨⟨D_, hD⟩, hm_⟩ := hh
    obtain ⟨a_, b_, c_, d_⟩ := hm_.2 q_ List.mem_cons_self
    obtain ⟨w1_, w2_, w3_, _⟩ := zzwoP hD a_ b_ hv c_
    obtain ⟨d', _, x2_, x3⟩ := zztoX (r_ := q_) (hD.2.2.2.1 v_ hv).2.2.1 w2_
    obtain ⟨_, k_⟩ := zzmqS hD a_ b_ hv c_ d_ x2_ x3
    obtain ⟨_, k2_, k3_⟩ := k_ _ rfl
    exact ⟨⟨_, k2_⟩, zzml_go hm_ hv k3_⟩) (by rw [hqs]; exact ⟨⟨D_, hcgL _ _ _ _ hR⟩, hml⟩)
  have hmn : zmnd v_ I_ L_ = zmql v_ qs (Int32.ofNat 0) I_ (zlup L_ 23 0 qs) := by unfold zmnd; rw [hqs]; rfl
  rw [hmn] at hc_
  obtain ⟨⟨D2, R2⟩, ⟨n_, n1_, n2_⟩, g3_⟩ := zmqlR hv qs 0 I_ _ ⟨D_, hcgL _ _ _ _ hR⟩ hml
  have nC : ∀ c_ i_ f_, zxq c_ i_ f_ → ¬ (c_ = 1 ∧ f_ = 8) → (zmql v_ qs (Int32.ofNat 0) I_ (zlup L_ 23 0 qs)).2.1 c_ i_ f_ = I_ c_ i_ f_ := fun c_ i_ f_ hx h8 => zmql_q hx h8 _ _ _ _
  refine (zYm.ok hc_ ⟨⟨n_, by omega, n2_⟩, h_.fx ⟨fun c_ i_ f_ hc_ => nC c_ i_ f_ ⟨by omega, by omega, by omega, by omega⟩ (by omega), fun q_ f_ _ hf => nC 1 q_ f_ ⟨by omega, by omega, by omega, by omega⟩ (by omega)⟩ ((nC 6 0 7 ⟨by omega, by omega, by omega, by omega⟩ (by omega)).trans h_.2.2.2.2.1) ⟨⟨_, R2, (zqnow R2).symm.trans ((nC 6 0 8 ⟨by omega, by omega, by omega, by omega⟩ (by omega)).trans ((zqnow hR).trans et))⟩, fun w_ hw => (hxs w_ hw).cg ((g3_ w_).trans (zlup_ne (by omega))) (fun q_ _ => nC 1 q_ 11 ⟨by omega, by omega, by omega, by omega⟩ (by omega)), fun q_ hq => ?_, h6⟩⟩).mono (Nat.le_refl _) (Nat.zero_le _) (fun _ _ _ hq => hq)
  rw [nC 1 q_ 7 ⟨by omega, by omega, by omega, by omega⟩ (by omega), nC 1 q_ 11 ⟨by omega, by omega, by omega, by omega⟩ (by omega)]
  exact hrb q_ hq
end
