/-! MATHEMATICS: of one vehicle and one request alone something changes -/
theorem zzRz {C_ C'_ D_ D' : zIn} {L_ L' : zLi} {p_ N_ M_ v_ r_ : Nat} (h_ : zzR C_ L_ D_ p_ N_ M_) (hvN : v_ < N_) (hrM : r_ < M_)
    (hc_ : ∀ c_ i_ f_, (c_ = 2 ∨ c_ = 6 ∨ (c_ = 99 ∧ ¬ i_ = 30) ∨ (c_ = 31 ∧ i_ = 0) ∨ (c_ = 1 ∧ ¬ i_ = r_) ∨ (c_ = 5 ∧ ¬ i_ = v_) ∨ (c_ = 4 ∧ f_ = 2)) → ¬ (c_ = 1 ∧ f_ = 9) → C'_ c_ i_ f_ = C_ c_ i_ f_)
    (hc0 : ∀ f_, (f_ = 0 ∨ f_ = 1 ∨ f_ = 2 ∨ f_ = 4) → C'_ 1 r_ f_ = C_ 1 r_ f_)
    (hc4 : ∀ w_, w_ < N_ → ¬ w_ = v_ → ∀ s_ ∈ L_ 24 w_, C'_ 4 s_ 5 = C_ 4 s_ 5 ∧ (¬ C_ 5 w_ 10 = 0 → (L_ 24 w_)[0]? = some s_ → C'_ 4 s_ 3 = C_ 4 s_ 3 ∧ C'_ 4 s_ 4 = C_ 4 s_ 4))
    (hd7 : ∀ f_, (f_ = 6 ∨ f_ = 11 ∨ f_ = 28 ∨ f_ = 2 ∨ f_ = 1 ∨ f_ = 3 ∨ f_ = 5) → D' 7 0 f_ = D_ 7 0 f_)
    (hdp : ∀ f_, D' 30 7 f_ = D_ 30 7 f_ ∧ D' 30 8 f_ = D_ 30 8 f_ ∧ D' 30 9 f_ = D_ 30 9 f_ ∧ D' 31 10 f_ = D_ 31 10 f_ ∧ D' 31 4 f_ = D_ 31 4 f_)
    (hdr : ∀ i_ q_, 29 ≤ i_ → i_ ≤ 39 → (¬ q_ = r_ ∨ i_ = 29 ∨ i_ = 30 ∨ i_ = 31) → D' 30 i_ q_ = D_ 30 i_ q_) (hdr1 : ∀ q_, ¬ q_ = r_ → D' 31 40 q_ = D_ 31 40 q_ ∧ D' 31 41 q_ = D_ 31 41 q_)
    (hdv : ∀ i_ w_, 12 ≤ i_ → i_ ≤ 27 → ¬ i_ = 24 → ¬ i_ = 26 → ¬ w_ = v_ → D' 30 i_ w_ = D_ 30 i_ w_) (hdv1 : ∀ w_, ¬ w_ = v_ → D' 31 16 w_ = D_ 31 16 w_ ∧ D' 31 19 w_ = D_ 31 19 w_ ∧ D' 31 22 w_ = D_ 31 22 w_)
    (hd13 : D' 30 13 v_ = D_ 30 13 v_) (hd14 : D' 30 14 v_ = D_ 30 14 v_)
    (hd24 : ∀ w_ j_, ¬ w_ = v_ → j_ < 3 → D' 30 24 (3 * w_ + j_) = D_ 30 24 (3 * w_ + j_)) (hd26 : ∀ w_ k_, ¬ w_ = v_ → k_ < 16 → D' 30 26 (16 * w_ + k_) = D_ 30 26 (16 * w_ + k_))
    (hL : ∀ c_ u_, ¬ c_ = 23 → ¬ (c_ = 27 ∧ u_ < N_) → ¬ (u_ = v_ ∧ (c_ = 24 ∨ c_ = 25 ∨ c_ = 26)) → L' c_ u_ = L_ c_ u_)
    (hv : zzRv C'_ L' D' v_ ∧ zzRl C'_ L' D' v_ ∧ zzRt C'_ L' D' M_ v_)
    (hr : zzRb C'_ D' p_ r_ ∧ zzRc C'_ D' r_ ∧ zzRr C'_ L' N_ r_)
    (h24 : ∀ w_, w_ < N_ → ¬ w_ = v_ → ∀ s_ ∈ L_ 24 w_, ¬ s_ / 2 = r_) (h26 : ∀ w_, w_ < N_ → ¬ w_ = v_ → ∀ q_ ∈ L_ 26 w_, ¬ q_ = r_)
    (h25 : ∀ w_, w_ < N_ → ¬ w_ = v_ → ∀ s_ ∈ L_ 25 w_, ¬ s_ / 2 = r_ ∨ (s_ % 2 = 0 ∧ C_ 1 r_ 5 = 1 ∧ C'_ 1 r_ 5 = 2))
    (hsq : ∀ w_, w_ < N_ → ¬ w_ = v_ → zsqL D' w_ M_ 0 0 = zsqL D_ w_ M_ 0 0)
    (hk24 : ∀ s_, ¬ s_ / 2 = r_ → s_ ∈ L_ 24 v_ → s_ ∈ L' 24 v_) (hk26 : ∀ q_, ¬ q_ = r_ → q_ ∈ L_ 26 v_ → q_ ∈ L' 26 v_) : zzR C'_ L' D' p_ N_ M_ := by
  have hvN2 := hvN
  obtain ⟨h1, h2, h3, h4, h5, h6⟩ := h_
  have hN4 := h1.2.2.2.2.1
  have hM60 := h1.2.2.2.2.2.2.2.1
  have g1 : ∀ q_ f_, ¬ q_ = r_ → ¬ f_ = 9 → C'_ 1 q_ f_ = C_ 1 q_ f_ := fun q_ f_ h9 hf => hc_ 1 q_ f_ (by simp [h9]) (fun e_ => hf e_.2)
  have g0 : ∀ q_ f_, (f_ = 0 ∨ f_ = 1 ∨ f_ = 2 ∨ f_ = 4) → C'_ 1 q_ f_ = C_ 1 q_ f_ := fun q_ f_ hf => by
    by_cases e_ : q_ = r_
    · subst e_; exact hc0 f_ hf
    · exact g1 q_ f_ e_ (by omega)
  have g2 : ∀ q_ f_, C'_ 2 q_ f_ = C_ 2 q_ f_ := fun q_ f_ => hc_ 2 q_ f_ (by simp) (by simp)
  have hs : ∀ q_, zsea C'_ q_ = zsea C_ q_ := fun q_ => by unfold zsea; rw [g0 q_ 0 (by simp), g2]
  have hch : ∀ q_, zchr C'_ q_ = zchr C_ q_ := fun q_ => by unfold zchr; rw [g0 q_ 0 (by simp), g2]
  have hkd : ∀ q_, zmkd D' q_ = zmkd D_ q_ := fun q_ => by unfold zmkd zmrd; rw [hdr 29 q_ (by decide) (by decide) (by simp), (hdp _).1]
  have hse : ∀ q_, zmse D' q_ = zmse D_ q_ := fun q_ => by unfold zmse; rw [hkd]; unfold zmrd; rw [hdr 29 q_ (by decide) (by decide) (by simp), (hdp _).2.2.2.1]
  refine ⟨?_, fun i_ hi_ => (h2 i_ hi_).ix (fun f_ => g2 i_ f_) (hdp i_).1 (hdp i_).2.1 (hdp i_).2.2.1 (hdp i_).2.2.2.1, fun q_ hq => ?_, fun w_ hw => ?_, fun q_ hq => ?_, ?_⟩
  · obtain ⟨a1_, a2, a3, a4, a5, a6, a7, a8, a9, b1, b2, b3, b4, b5, b6, b7⟩ := h1
    unfold zzRg
    rw [hd7 6 (by simp), hd7 11 (by simp), hd7 28 (by simp), hd7 2 (by simp), hd7 1 (by simp), hd7 3 (by simp), hd7 5 (by simp), hc_ 6 0 8 (by simp) (by simp), hc_ 6 0 7 (by simp) (by simp), hc_ 6 0 6 (by simp) (by simp), zzcb_n (fun f_ => hc_ 31 0 f_ (by simp) (by simp)), hL 20 0 (by simp) (by simp) (by simp), hL 21 0 (by simp) (by simp) (by simp), hL 22 0 (by simp) (by simp) (by simp)]
    refine ⟨a1_, a2, a3, a4, a5, a6, a7, a8, a9, b1, b2, b3, b4, b5, fun k_ hk => ?_, b7⟩
    rw [hc_ 31 0 k_ (by simp) (by simp), (hdp k_).2.2.2.2]
    exact b6 k_ hk
  · by_cases e_ : q_ = r_
    · subst e_; exact ⟨hr.1, hr.2.1⟩
    · exact ⟨(h3 q_ hq).1.ix (fun f_ hf => g1 q_ f_ e_ hf) (fun i_ a_ b_ => hdr i_ q_ a_ b_ (Or.inl e_)), (h3 q_ hq).2.ix (fun f_ hf => g1 q_ f_ e_ hf) (fun i_ a_ b_ => hdr i_ q_ a_ b_ (Or.inl e_)) (hdr1 q_ e_).1 (hdr1 q_ e_).2⟩
  · by_cases e_ : w_ = v_
    · subst e_; exact hv
    · have l24 := hL 24 w_ (by simp) (by simp) (by simp [e_])
      have l25 := hL 25 w_ (by simp) (by simp) (by simp [e_])
      have l26 := hL 26 w_ (by simp) (by simp) (by simp [e_])
      obtain ⟨v1_, v2, v3⟩ := h4 w_ hw
      refine ⟨v1_.ix (fun f_ => hc_ 5 w_ f_ (by simp [e_]) (by simp)) l24 l26 (fun q_ _ => hs q_) (fun q_ _ => hch q_) (fun i_ a_ b_ => hdv i_ w_ a_ (by omega) (by omega) (by omega) e_) (hdv 25 w_ (by decide) (by decide) (by decide) (by decide) e_) (hdv1 w_ e_).1 (hdv1 w_ e_).2.1 (fun hro => hro.ix (hdv 27 w_ (by decide) (by decide) (by decide) (by decide) e_) (fun k_ hk => hd26 w_ k_ e_ hk)) (fun j_ hj => hd24 w_ j_ e_ hj), v2.ix (hc_ 5 w_ 10 (by simp [e_]) (by simp)) l24 (fun s_ hs => hc4 w_ hw e_ s_ hs) (hdv 20 w_ (by decide) (by decide) (by decide) (by decide) e_) (hdv 21 w_ (by decide) (by decide) (by decide) (by decide) e_) (hdv1 w_ e_).2.2, ?_⟩
      obtain ⟨a1_, a2, a3, a4, a5, a6, a7, a8, a9⟩ := v3
      have e13_ := hdv 13 w_ (by decide) (by decide) (by decide) (by decide) e_
      have e14_ := hdv 14 w_ (by decide) (by decide) (by decide) (by decide) e_
      have e23_ := hdv 23 w_ (by decide) (by decide) (by decide) (by decide) e_
      have hsb : ∀ (l : List Nat) (x_ : Int32), (∀ s_ ∈ l, ¬ s_ / 2 = r_ ∨ (s_ % 2 = 0 ∧ C_ 1 r_ 5 = 1 ∧ C'_ 1 r_ 5 = 2)) → zsbd C'_ l x_ = zsbd C_ l x_ := by
        intro l
        induction l with
        | nil => intro x_ _; rfl
        | cons s_ l ih_ =>
          intro x_ hh
          unfold zsbd
          rw [hs, ih_ _ (fun s_ hs => hh s_ (List.mem_cons_of_mem _ hs))]
          rcases hh s_ List.mem_cons_self with g_ | ⟨g1', g2', g3'⟩
          · rw [g1 (s_ / 2) 5 g_ (by decide)]
          · by_cases g_ : s_ / 2 = r_
            · rw [g_, g2', g3', if_pos (Or.inr rfl), if_pos (Or.inl rfl)]
            · rw [g1 (s_ / 2) 5 g_ (by decide)]
      unfold zzRt
      rw [l24, l25, l26, zzfchl (fun q_ => hch q_), e23_, hsq w_ hw e_, hsb _ _ (h25 w_ hw e_)]
      refine ⟨a1_, a2, a3, fun s_ hs => ?_, fun q_ hq => ?_, a6, zzfe_m hkd hse e13_ e14_ _ _ _ a7, fun s_ hs => ?_, a9⟩
      · have hne := h24 w_ hw e_ s_ hs
        rw [g1 _ 8 hne (by decide), g1 _ 5 hne (by decide), g1 _ 1 hne (by decide), g1 _ 2 hne (by decide), hc_ 4 s_ 2 (by simp) (by simp)]
        exact a4 s_ hs
      · have hne := h26 w_ hw e_ q_ hq
        rw [g1 _ 8 hne (by decide), g1 _ 5 hne (by decide)]
        exact a5 q_ hq
      · obtain ⟨x1_, x2_, x3⟩ := a8 s_ hs
        by_cases g_ : s_ / 2 = r_
        · rcases h25 w_ hw e_ s_ hs with g' | ⟨g1', g2', g3'⟩
          · exact absurd g_ g'
          · rw [g_, g3']
            rw [g_] at x1_
            exact ⟨x1_, fun _ => by decide, fun hh => absurd g1' hh⟩
        · rw [g1 _ 5 g_ (by decide)]
          exact ⟨x1_, x2_, x3⟩
  · by_cases e_ : q_ = r_
    · subst e_; exact hr.2.2
    · refine (h5 q_ hq).ix (g1 q_ 5 e_ (by decide)) (g1 q_ 8 e_ (by decide)) (g1 q_ 11 e_ (by decide)) (fun w_ hw hm_ => ?_) (fun w_ hw hm_ => ?_) (fun w_ hw hm_ => ?_)
      · by_cases e2_ : w_ = v_
        · subst e2_; exact hk24 _ (by omega) hm_
        · rw [hL 24 w_ (by simp) (by simp) (by simp [e2_])]; exact hm_
      · by_cases e2_ : w_ = v_
        · subst e2_; exact hk24 _ (by omega) hm_
        · rw [hL 24 w_ (by simp) (by simp) (by simp [e2_])]; exact hm_
      · by_cases e2_ : w_ = v_
        · subst e2_; exact hk26 _ e_ hm_
        · rw [hL 26 w_ (by simp) (by simp) (by simp [e2_])]; exact hm_
  · obtain ⟨a1_, a2, a3, a4, a5⟩ := h6
    refine ⟨fun i_ hi_ => ?_, fun q_ hq => ?_, fun w_ hw => ?_, fun q_ h1 h2 => ?_, fun w_ h1 h2 => ?_⟩
    · rw [hc_ 99 2 i_ (by simp) (by simp)]; exact a1_ i_ hi_
    · rw [hc_ 99 1 q_ (by simp) (by simp), hc_ 99 4 (2 * q_) (by simp) (by simp), hc_ 99 4 (2 * q_ + 1) (by simp) (by simp)]; exact a2 q_ hq
    · have hwv : ¬ w_ = v_ := by omega
      rw [hc_ 99 5 w_ (by simp) (by simp), hc_ 99 0 w_ (by simp) (by simp), hc_ 99 24 w_ (by simp) (by simp), hc_ 99 25 w_ (by simp) (by simp), hc_ 99 26 w_ (by simp) (by simp), hc_ 99 27 w_ (by simp) (by simp), hL 24 w_ (by simp) (by simp) (by simp [hwv]), hL 25 w_ (by simp) (by simp) (by simp [hwv]), hL 26 w_ (by simp) (by simp) (by simp [hwv]), hL 27 w_ (by simp) (by omega) (by simp)]
      exact a3 w_ hw
    · have hqr : ¬ q_ = r_ := by omega
      rw [hdr 33 q_ (by decide) (by decide) (Or.inl hqr), (hdr1 q_ hqr).1, (hdr1 q_ hqr).2]; exact a4 q_ h1 h2
    · have hwv : ¬ w_ = v_ := by omega
      rw [hdv 18 w_ (by decide) (by decide) (by decide) (by decide) hwv, (hdv1 w_ hwv).2.1, (hdv1 w_ hwv).2.2, hdv 23 w_ (by decide) (by decide) (by decide) (by decide) hwv, hdv 25 w_ (by decide) (by decide) (by decide) (by decide) hwv, hdv 27 w_ (by decide) (by decide) (by decide) (by decide) hwv]; exact a5 w_ h1 h2
/-- a route without a request can still be driven -/
theorem zzfe_mid {D_ : zIn} {v_ q_ : Nat} : ∀ (l2 l3 : List Nat) (u_ : Int) (A_ B_ : List Nat), (∀ s_ ∈ l2, ¬ s_ / 2 = q_) → ¬ q_ ∈ B_ → A_.length + B_.length + l2.length ≤ 900 → zmkd D_ q_ = 2 → zzfe D_ v_ (l2 ++ (2 * q_ + 1) :: l3) (u_ + (zmse D_ q_).toInt) (A_ ++ q_ :: B_) → zzfe D_ v_ (l2 ++ l3) u_ (A_ ++ B_)
  | [], l3, u_, A_, B_, h2, hB_, hlen, hk, h_ => by
    obtain ⟨a_, b_⟩ := (zzfe_o (by omega)).mp h_
    rw [show (2 * q_ + 1) / 2 = q_ by omega] at a_ b_
    have hc_ : ¬ zmch D_ (2 * q_ + 1) = 0 := by
      unfold zmch
      rw [show (2 * q_ + 1) / 2 = q_ by omega, if_pos hk]; decide
    have hl := a_.resolve_left hc_
    have hBn : B_ = [] := by
      cases hb_ : B_ with
      | nil => rfl
      | cons x_ y_ =>
        exfalso
        have hne : ¬ B_ = [] := by rw [hb_]; simp
        have e_ : (A_ ++ q_ :: B_).getLast? = B_.getLast? := by
          rw [List.getLast?_append, List.getLast?_cons_of_ne_nil hne]
          rw [List.getLast?_eq_some_getLast hne]; rfl
        rw [e_] at hl
        exact hB_ (List.mem_of_getLast? hl)
    subst hBn
    have e1_ : zzsd D_ (2 * q_ + 1) (A_ ++ [q_]) = A_ := by
      unfold zzsd
      rw [show (2 * q_ + 1) / 2 = q_ by omega, if_pos hk, List.dropLast_concat]
    rw [e1_, show u_ + (zmse D_ q_).toInt - (zmse D_ q_).toInt = u_ by omega] at b_
    rw [List.append_nil]
    exact b_
  | s_ :: l2, l3, u_, A_, B_, h2, hB_, hlen, hk, h_ => by
    have hsq := h2 s_ List.mem_cons_self
    have h2' : ∀ s_ ∈ l2, ¬ s_ / 2 = q_ := fun s_ hs => h2 s_ (List.mem_cons_of_mem _ hs)
    rw [List.length_cons] at hlen
    have h' : zzfe D_ v_ (s_ :: (l2 ++ (2 * q_ + 1) :: l3)) (u_ + (zmse D_ q_).toInt) (A_ ++ q_ :: B_) := h_
    show zzfe D_ v_ (s_ :: (l2 ++ l3)) u_ (A_ ++ B_)
    have hq1 := zzse (D_ := D_) q_
    by_cases hp : s_ % 2 = 0
    · obtain ⟨a_, b_, c_⟩ := (zzfe_e hp).mp h'
      by_cases hc_ : zmkd D_ (s_ / 2) = 2
      · have e1_ : ∀ X_, zzst D_ s_ X_ = X_ ++ [s_ / 2] := fun X_ => if_pos hc_
        rw [e1_] at b_ c_
        refine (zzfe_e hp).mpr ⟨by omega, ?_, ?_⟩
        · rw [e1_]
          refine Int32.le_trans ((zile ?_ ?_).mpr ?_) b_
          · simp only [List.length_append, List.length_cons, List.length_nil]; omega
          · simp only [List.length_append, List.length_cons, List.length_nil]; omega
          · simp only [List.length_append, List.length_cons, List.length_nil]; omega
        · rw [e1_, List.append_assoc]
          refine zzfe_mid l2 l3 _ A_ (B_ ++ [s_ / 2]) h2' (fun e_ => ?_) (by rw [List.length_append, List.length_singleton]; omega) hk ?_
          · rcases List.mem_append.mp e_ with e_ | e_
            · exact hB_ e_
            · rw [List.mem_singleton] at e_; exact hsq e_.symm
          · rw [show u_ + (zmse D_ (s_ / 2)).toInt + (zmse D_ q_).toInt = u_ + (zmse D_ q_).toInt + (zmse D_ (s_ / 2)).toInt by omega, show A_ ++ q_ :: (B_ ++ [s_ / 2]) = (A_ ++ q_ :: B_) ++ [s_ / 2] by simp]
            exact c_
      · have e1_ : ∀ X_, zzst D_ s_ X_ = X_ := fun X_ => if_neg hc_
        rw [e1_] at b_ c_
        refine (zzfe_e hp).mpr ⟨by omega, ?_, ?_⟩
        · rw [e1_]
          refine Int32.le_trans ((zile ?_ ?_).mpr ?_) b_
          · simp only [List.length_append, List.length_cons, List.length_nil]; omega
          · simp only [List.length_append, List.length_cons, List.length_nil]; omega
          · simp only [List.length_append, List.length_cons, List.length_nil]; omega
        · rw [e1_]
          refine zzfe_mid l2 l3 _ A_ B_ h2' hB_ (by omega) hk ?_
          rw [show u_ + (zmse D_ (s_ / 2)).toInt + (zmse D_ q_).toInt = u_ + (zmse D_ q_).toInt + (zmse D_ (s_ / 2)).toInt by omega]
          exact c_
    · obtain ⟨a_, c_⟩ := (zzfe_o hp).mp h'
      by_cases hc_ : zmkd D_ (s_ / 2) = 2
      · have hch : ¬ zmch D_ s_ = 0 := by unfold zmch; rw [if_pos hc_]; decide
        have hl := a_.resolve_left hch
        have e1_ : ∀ X_, zzsd D_ s_ X_ = X_.dropLast := fun X_ => if_pos hc_
        have hBn : ¬ B_ = [] := fun hb_ => by
          rw [hb_, List.getLast?_append, List.getLast?_singleton] at hl
          exact hsq (Option.some.inj hl).symm
        have e_ : (A_ ++ q_ :: B_).getLast? = B_.getLast? := by
          rw [List.getLast?_append, List.getLast?_cons_of_ne_nil hBn]
          rw [List.getLast?_eq_some_getLast hBn]; rfl
        have e' : (A_ ++ B_).getLast? = B_.getLast? := by
          rw [List.getLast?_append]
          rw [List.getLast?_eq_some_getLast hBn]; rfl
        rw [e_] at hl
        rw [e1_] at c_
        refine (zzfe_o hp).mpr ⟨Or.inr (by rw [e']; exact hl), ?_⟩
        rw [e1_, List.dropLast_append_of_ne_nil hBn]
        rw [List.dropLast_append_of_ne_nil (by simp), List.dropLast_cons_of_ne_nil hBn] at c_
        refine zzfe_mid l2 l3 _ A_ B_.dropLast h2' (fun e_ => hB_ (List.dropLast_subset B_ e_)) (by rw [List.length_dropLast]; omega) hk ?_
        rw [show u_ - (zmse D_ (s_ / 2)).toInt + (zmse D_ q_).toInt = u_ + (zmse D_ q_).toInt - (zmse D_ (s_ / 2)).toInt by omega]
        exact c_
      · have e1_ : ∀ X_, zzsd D_ s_ X_ = X_ := fun X_ => if_neg hc_
        rw [e1_] at c_
        refine (zzfe_o hp).mpr ⟨Or.inl (by unfold zmch; rw [if_neg hc_]), ?_⟩
        rw [e1_]
        refine zzfe_mid l2 l3 _ A_ B_ h2' hB_ (by omega) hk ?_
        rw [show u_ - (zmse D_ (s_ / 2)).toInt + (zmse D_ q_).toInt = u_ + (zmse D_ q_).toInt - (zmse D_ (s_ / 2)).toInt by omega]
        exact c_
theorem zzfe_mid0 {D_ : zIn} {v_ q_ : Nat} : ∀ (l2 l3 : List Nat) (u_ : Int) (X_ : List Nat), ¬ zmkd D_ q_ = 2 → zzfe D_ v_ (l2 ++ (2 * q_ + 1) :: l3) (u_ + (zmse D_ q_).toInt) X_ → zzfe D_ v_ (l2 ++ l3) u_ X_
  | [], l3, u_, X_, hk, h_ => by
    obtain ⟨a_, b_⟩ := (zzfe_o (by omega)).mp h_
    rw [show (2 * q_ + 1) / 2 = q_ by omega] at b_
    have e1_ : zzsd D_ (2 * q_ + 1) X_ = X_ := by
      unfold zzsd
      rw [show (2 * q_ + 1) / 2 = q_ by omega, if_neg hk]
    rw [e1_, show u_ + (zmse D_ q_).toInt - (zmse D_ q_).toInt = u_ by omega] at b_
    exact b_
  | s_ :: l2, l3, u_, X_, hk, h_ => by
    have h' : zzfe D_ v_ (s_ :: (l2 ++ (2 * q_ + 1) :: l3)) (u_ + (zmse D_ q_).toInt) X_ := h_
    show zzfe D_ v_ (s_ :: (l2 ++ l3)) u_ X_
    have hq1 := zzse (D_ := D_) q_
    by_cases hp : s_ % 2 = 0
    · obtain ⟨a_, b_, c_⟩ := (zzfe_e hp).mp h'
      refine (zzfe_e hp).mpr ⟨by omega, b_, zzfe_mid0 l2 l3 _ _ hk ?_⟩
      rw [show u_ + (zmse D_ (s_ / 2)).toInt + (zmse D_ q_).toInt = u_ + (zmse D_ q_).toInt + (zmse D_ (s_ / 2)).toInt by omega]
      exact c_
    · obtain ⟨a_, c_⟩ := (zzfe_o hp).mp h'
      refine (zzfe_o hp).mpr ⟨a_, zzfe_mid0 l2 l3 _ _ hk ?_⟩
      rw [show u_ - (zmse D_ (s_ / 2)).toInt + (zmse D_ q_).toInt = u_ + (zmse D_ q_).toInt - (zmse D_ (s_ / 2)).toInt by omega]
      exact c_
theorem zzfe_cut {D_ : zIn} {v_ q_ : Nat} : ∀ (l1 l2 l3 : List Nat) (u_ : Int) (X_ : List Nat), (∀ s_ ∈ l2, ¬ s_ / 2 = q_) → X_.length + l1.length + l2.length ≤ 900 → zzfe D_ v_ (l1 ++ 2 * q_ :: (l2 ++ (2 * q_ + 1) :: l3)) u_ X_ → zzfe D_ v_ (l1 ++ (l2 ++ l3)) u_ X_
  | [], l2, l3, u_, X_, h2, hlen, h_ => by
    obtain ⟨a_, b_, c_⟩ := (zzfe_e (by omega)).mp h_
    rw [show 2 * q_ / 2 = q_ by omega] at c_
    by_cases hk : zmkd D_ q_ = 2
    · have e1_ : zzst D_ (2 * q_) X_ = X_ ++ q_ :: [] := by
        unfold zzst
        rw [show 2 * q_ / 2 = q_ by omega, if_pos hk]
      rw [e1_] at c_
      have := zzfe_mid l2 l3 u_ X_ [] h2 (by simp) (by simp at hlen ⊢; omega) hk c_
      rw [List.append_nil] at this
      exact this
    · have e1_ : zzst D_ (2 * q_) X_ = X_ := by
        unfold zzst
        rw [show 2 * q_ / 2 = q_ by omega, if_neg hk]
      rw [e1_] at c_
      exact zzfe_mid0 l2 l3 u_ X_ hk c_
  | s_ :: l1, l2, l3, u_, X_, h2, hlen, h_ => by
    rw [List.length_cons] at hlen
    have h' : zzfe D_ v_ (s_ :: (l1 ++ 2 * q_ :: (l2 ++ (2 * q_ + 1) :: l3))) u_ X_ := h_
    show zzfe D_ v_ (s_ :: (l1 ++ (l2 ++ l3))) u_ X_
    by_cases hp : s_ % 2 = 0
    · obtain ⟨a_, b_, c_⟩ := (zzfe_e hp).mp h'
      refine (zzfe_e hp).mpr ⟨a_, b_, zzfe_cut l1 l2 l3 _ _ h2 ?_ c_⟩
      unfold zzst
      split
      · rw [List.length_append, List.length_singleton]; omega
      · omega
    · obtain ⟨a_, c_⟩ := (zzfe_o hp).mp h'
      refine (zzfe_o hp).mpr ⟨a_, zzfe_cut l1 l2 l3 _ _ h2 ?_ c_⟩
      unfold zzsd
      split
      · rw [List.length_dropLast]; omega
      · omega
theorem zzfe_ck {D_ : zIn} {v_ : Nat} {l : List Nat} {P_ : List (Int32 × Int32)} (h13 : (D_ 30 13 v_).toInt ≤ 8) : ∀ (r_ : List Nat) (k_ : Nat) (u_ : Int32) (st_ : List Nat), -(3 * (k_ : Int)) ≤ u_.toInt → u_.toInt ≤ 8 → k_ + r_.length ≤ 30 → zzck D_ v_ l P_ r_ k_ u_ st_ = true → zzfe D_ v_ r_ u_.toInt st_
  | [], _, _, _, _, _, _, _ => trivial
  | s_ :: r_, k_, u_, st_, h0, h8, hk, h_ => by
    rw [List.length_cons] at hk
    have hq1 := zzse (D_ := D_) (s_ / 2)
    unfold zzck at h_
    by_cases hp : s_ % 2 = 0
    · rw [if_pos hp, Bool.and_eq_true, Bool.and_eq_true, Bool.and_eq_true] at h_
      obtain ⟨⟨_, a_, b_⟩, c_⟩ := h_
      have a' := of_decide_eq_true a_
      obtain ⟨d1_, d2_⟩ := zzadd (by omega) h8 h13 a'
      have e_ : (u_ + zmse D_ (s_ / 2)).toInt = u_.toInt + (zmse D_ (s_ / 2)).toInt := by
        rw [Int32.toInt_add]
        exact Int.bmod_eq_of_le (by omega) (by omega)
      have a2 := Int32.le_iff_toInt_le.mp a'
      have ih_ := zzfe_ck h13 r_ (k_ + 1) _ _ (by omega) d2_ (by omega) c_
      rw [e_] at ih_ a2
      exact (zzfe_e hp).mpr ⟨a2, of_decide_eq_true b_, ih_⟩
    · rw [if_neg hp, Bool.and_eq_true, Bool.and_eq_true, Bool.or_eq_true] at h_
      obtain ⟨⟨_, a_⟩, c_⟩ := h_
      have e_ : (u_ - zmse D_ (s_ / 2)).toInt = u_.toInt - (zmse D_ (s_ / 2)).toInt := by
        rw [Int32.toInt_sub]
        exact Int.bmod_eq_of_le (by omega) (by omega)
      have ih_ := zzfe_ck h13 r_ (k_ + 1) _ _ (by omega) (by omega) (by omega) c_
      rw [e_] at ih_
      refine (zzfe_o hp).mpr ⟨?_, ih_⟩
      rcases a_ with a_ | a_
      · exact Or.inl (of_decide_eq_true a_)
      · exact Or.inr (of_decide_eq_true a_)

