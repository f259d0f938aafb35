/-! LEAST DRIVE: both searches find the best of the same set -/
def zzGd (v_ : Nat) (C_ : zIn) (Z_ A_ : List Nat) (x_ : Int32) (R_ : List Nat → Prop) (dr : List Nat → Int32) (p_ : List Nat) : Prop := ∀ I_ L_, zzcf I_ C_ Z_ → L_ 24 v_ = p_ → L_ 26 v_ = A_ → ((zirt I_ L_ v_ x_).1 = true ↔ R_ p_) ∧ zzcf (zirt I_ L_ v_ x_).2.1 C_ Z_ ∧ zdrv I_ p_ (I_ 5 v_ 11) (I_ 5 v_ 1) = dr p_ ∧ ¬ dr p_ = -1
theorem zzlaf {v_ : Nat} {C_ I_ : zIn} {L_ : zLi} {Z_ A_ : List Nat} {x_ y_ : Int32} {R_ : List Nat → Prop} {dr : List Nat → Int32} {S_ : List Nat → Prop} (hg : zzGd v_ C_ Z_ A_ x_ R_ dr (L_ 24 v_)) (hI : zzcf I_ C_ Z_) (hA : L_ 26 v_ = A_) (hS_ : ∀ p_, S_ p_ ↔ p_ = L_ 24 v_) : zzBe R_ dr S_ y_ (zlaf v_ x_ y_ I_ L_).1 ∧ zzcf (zlaf v_ x_ y_ I_ L_).2.1 C_ Z_ := by
  obtain ⟨g1, g2, g3_, g4⟩ := hg I_ L_ hI rfl hA
  unfold zlaf
  rw [g3_]
  by_cases hc_ : y_ = -1 ∨ dr (L_ 24 v_) < y_
  · rw [if_pos hc_]
    refine ⟨zzBe.one hS_ g4 ⟨fun e_ => ?_, fun e_ => ?_⟩, g2⟩
    · show (if _ then _ else _) = _
      rw [if_pos (g1.mpr e_.1)]
    · show (if _ then _ else _) = _
      rw [if_neg (fun e2_ => e_ ⟨g1.mp e2_, hc_⟩)]
  · rw [if_neg hc_]
    exact ⟨zzBe.one hS_ g4 ⟨fun e_ => absurd e_.2 hc_, fun _ => rfl⟩, hI⟩
theorem zzla {v_ : Nat} {C_ : zIn} {Z_ A_ : List Nat} {x_ : Int32} {R_ : List Nat → Prop} {dr : List Nat → Int32} : ∀ (d_ f_ : Nat) (y_ : Int32) (I_ : zIn) (L_ : zLi), 6 ≤ f_ + d_ → f_ ≤ 6 → (L_ 24 v_).length ≤ 6 → (L_ 24 v_).Nodup → zzcf I_ C_ Z_ → L_ 26 v_ = A_ → (∀ p_, zzS0 f_ (L_ 24 v_) p_ → zzGd v_ C_ Z_ A_ x_ R_ dr p_) → zzBe R_ dr (zzS0 f_ (L_ 24 v_)) y_ (zla v_ x_ d_ f_ y_ I_ L_).1 ∧ zzcf (zla v_ x_ d_ f_ y_ I_ L_).2.1 C_ Z_
  | 0, f_, y_, I_, L_, hf, hf6, hl, hn, hI, hA, hg => by
    have hS_ : ∀ p_, zzS0 f_ (L_ 24 v_) p_ ↔ p_ = L_ 24 v_ := fun p_ => zzS0_leaf (by omega)
    exact zzlaf (hg _ ((hS_ _).mpr rfl)) hI hA hS_
  | d_ + 1, f_, y_, I_, L_, hf, hf6, hl, hn, hI, hA, hg => by
    unfold zla
    by_cases hc_ : (L_ 24 v_).length ≤ f_ ∨ 6 ≤ f_
    · rw [if_pos hc_]
      have hS_ : ∀ p_, zzS0 f_ (L_ 24 v_) p_ ↔ p_ = L_ 24 v_ := fun p_ => zzS0_leaf (by omega)
      exact zzlaf (hg _ ((hS_ _).mpr rfl)) hI hA hS_
    · rw [if_neg hc_]
      generalize hll : L_ 24 v_ = l at *
      have hfl : f_ < l.length := by omega
      have inner : ∀ (m_ i_ : Nat) (y_ : Int32) (I_ : zIn) (L' : zLi), m_ + i_ = l.length → f_ ≤ i_ → zzcf I_ C_ Z_ → L' 24 v_ = l → L' 26 v_ = A_ → zzBe R_ dr (fun p_ => ∃ i' s_, i_ ≤ i' ∧ l[i']? = some s_ ∧ (s_ % 2 = 0 ∨ ∀ j_, l[j_]? = some (2 * (s_ / 2)) → j_ < f_) ∧ zzS0 (f_ + 1) (zswp l f_ i') p_) y_ (zlal v_ f_ (zla v_ x_ d_ (f_ + 1)) m_ i_ y_ I_ L').1 ∧ zzcf (zlal v_ f_ (zla v_ x_ d_ (f_ + 1)) m_ i_ y_ I_ L').2.1 C_ Z_ := by
        intro m_
        induction m_ with
        | zero =>
          intro i_ y_ I_ L' hm_ hfi hI2 h24 h26
          refine ⟨zzBe.no (fun p_ hp => ?_), hI2⟩
          obtain ⟨i', s_, h1, h2, _⟩ := hp
          rw [List.getElem?_eq_none (by omega)] at h2
          exact absurd h2 (by simp)
        | succ m_ ih_ =>
          intro i_ y_ I_ L' hm_ hfi hI2 h24 h26
          obtain ⟨s_, hs⟩ : ∃ s_, l[i_]? = some s_ := ⟨_, List.getElem?_eq_getElem (by omega)⟩
          unfold zlal
          rw [h24, hs]
          have hcan := zzcan (s_ := s_) hn (show l.length ≤ 900 by omega) (show f_ ≤ 900 by omega)
          show zzBe _ _ _ _ (if s_ % 2 = 0 ∨ zfnd (2 * (s_ / 2)) l 0 < Int32.ofNat f_ then _ else _ : Int32 × (zIn × zLi)).1 ∧ zzcf (if s_ % 2 = 0 ∨ zfnd (2 * (s_ / 2)) l 0 < Int32.ofNat f_ then _ else _ : Int32 × (zIn × zLi)).2.1 C_ Z_
          by_cases hcd : s_ % 2 = 0 ∨ zfnd (2 * (s_ / 2)) l 0 < Int32.ofNat f_
          · rw [if_pos hcd]
            obtain ⟨w1_, w2_⟩ := zzswp (i_ := i_) hfl (show i_ < l.length by omega)
            have hw : zlup L' 24 v_ (zswp l f_ i_) 24 v_ = zswp l f_ i_ := zlup_self
            have h1 := zzla d_ (f_ + 1) y_ I_ (zlup L' 24 v_ (zswp l f_ i_)) (by omega) (by omega) (by rw [hw, w1_.length_eq]; exact hl) (by rw [hw]; exact w1_.nodup_iff.mpr hn) hI2 (by rw [zlup_ne (by simp)]; exact h26) (fun p_ hp => hg p_ ((zzS0_step hn hfl).mpr ⟨i_, s_, hfi, hs, hcan.mp hcd, by rw [hw] at hp; exact hp⟩))
            rw [hw] at h1
            have h2 := ih_ (i_ + 1) (zla v_ x_ d_ (f_ + 1) y_ I_ (zlup L' 24 v_ (zswp l f_ i_))).1 (zla v_ x_ d_ (f_ + 1) y_ I_ (zlup L' 24 v_ (zswp l f_ i_))).2.1 (zlup (zla v_ x_ d_ (f_ + 1) y_ I_ (zlup L' 24 v_ (zswp l f_ i_))).2.2 24 v_ l) (by omega) (by omega) h1.2 zlup_self (by rw [zlup_ne (by simp), zla_ne (by simp), zlup_ne (by simp)]; exact h26)
            refine ⟨(h1.1.trans h2.1).cg (fun p_ => ?_), h2.2⟩
            constructor
            · rintro ⟨i', s', a_, b_, c_, e_⟩
              by_cases hi_ : i' = i_
              · subst hi_; exact Or.inl e_
              · exact Or.inr ⟨i', s', by omega, b_, c_, e_⟩
            · rintro (e_ | ⟨i', s', a_, b_, c_, e_⟩)
              · exact ⟨i_, s_, Nat.le_refl _, hs, hcan.mp hcd, e_⟩
              · exact ⟨i', s', by omega, b_, c_, e_⟩
          · rw [if_neg hcd]
            have h2 := ih_ (i_ + 1) y_ I_ L' (by omega) (by omega) hI2 h24 h26
            refine ⟨h2.1.cg (fun p_ => ?_), h2.2⟩
            constructor
            · rintro ⟨i', s', a_, b_, c_, e_⟩
              by_cases hi_ : i' = i_
              · subst hi_
                rw [hs] at b_
                have : s_ = s' := by simpa using b_
                subst this
                exact absurd (hcan.mpr c_) hcd
              · exact ⟨i', s', by omega, b_, c_, e_⟩
            · rintro ⟨i', s', a_, b_, c_, e_⟩
              exact ⟨i', s', by omega, b_, c_, e_⟩
      obtain ⟨r1_, r2⟩ := inner (l.length - f_) f_ y_ I_ L_ (by omega) (Nat.le_refl _) hI hll hA
      exact ⟨r1_.cg (fun p_ => zzS0_step hn hfl), r2⟩
theorem zzldQ {J_ : zIn} {v_ : Nat} {l : List Nat} {F_ : List Nat → Bool} : ∀ (n_ c_ : Nat) (y_ : Int32), (∀ c', c_ ≤ c' → c' < c_ + n_ → zorB J_ v_ l c' = true → ¬ zdm J_ (zord l.length c' l) (J_ 30 17 v_) (J_ 30 12 v_) = -1) → zzBe (fun p_ => F_ p_ = true) (fun p_ => zdm J_ p_ (J_ 30 17 v_) (J_ 30 12 v_)) (fun p_ => ∃ c', c_ ≤ c' ∧ c' < c_ + n_ ∧ zorB J_ v_ l c' = true ∧ p_ = zord l.length c' l) y_ (zldQ J_ v_ l F_ n_ c_ y_)
  | 0, c_, y_, _ => zzBe.no (fun p_ hp => by obtain ⟨c', a_, b_, _⟩ := hp; omega)
  | n_ + 1, c_, y_, h_ => by
    unfold zldQ
    have h2 := zzldQ (F_ := F_) n_ (c_ + 1) (zldP J_ v_ l F_ c_ y_) (fun c' a_ b_ => h_ c' (by omega) (by omega))
    have h1 : zzBe (fun p_ => F_ p_ = true) (fun p_ => zdm J_ p_ (J_ 30 17 v_) (J_ 30 12 v_)) (fun p_ => zorB J_ v_ l c_ = true ∧ p_ = zord l.length c_ l) y_ (zldP J_ v_ l F_ c_ y_) := by
      by_cases hb_ : zorB J_ v_ l c_ = true
      · refine zzBe.one (l := zord l.length c_ l) (fun p_ => ⟨fun e_ => e_.2, fun e_ => ⟨hb_, e_⟩⟩) (h_ c_ (Nat.le_refl _) (by omega) hb_) ⟨fun e_ => ?_, fun e_ => ?_⟩
        · unfold zldP
          rw [if_pos ⟨hb_, e_.1⟩, if_pos e_.2]
        · unfold zldP
          by_cases hF : F_ (zord l.length c_ l) = true
          · rw [if_pos ⟨hb_, hF⟩, if_neg (fun e2_ => e_ ⟨hF, e2_⟩)]
          · rw [if_neg (fun e2_ => hF e2_.2)]
      · have e_ : zldP J_ v_ l F_ c_ y_ = y_ := by
          unfold zldP
          rw [if_neg (fun e2_ => hb_ e2_.1)]
        rw [e_]
        exact zzBe.no (fun p_ hp => hb_ hp.1)
    refine (h1.trans h2).cg (fun p_ => ?_)
    constructor
    · rintro ⟨c', a_, b_, d_, e_⟩
      by_cases hc_ : c' = c_
      · subst hc_; exact Or.inl ⟨d_, e_⟩
      · exact Or.inr ⟨c', by omega, by omega, d_, e_⟩
    · rintro (⟨d_, e_⟩ | ⟨c', a_, b_, d_, e_⟩)
      · exact ⟨c_, Nat.le_refl _, by omega, d_, e_⟩
      · exact ⟨c', by omega, by omega, d_, e_⟩
theorem zzpme {l : List Nat} {a_ : Nat} (ha_ : a_ < l.length) : (l[a_] :: l.eraseIdx a_).Perm l := by
  have h_ : l.take a_ ++ l[a_] :: l.drop (a_ + 1) = l := by
    rw [List.getElem_cons_drop, List.take_append_drop]
  rw [List.eraseIdx_eq_take_drop_succ]
  exact List.perm_middle.symm.trans (List.Perm.of_eq h_)
theorem zzord_p : ∀ (n_ c_ : Nat) (l : List Nat), l.length = n_ → (zord n_ c_ l).Perm l
  | 0, c_, l, h_ => by
    have : l = [] := List.length_eq_zero_iff.mp h_
    subst this
    exact List.Perm.refl _
  | n_ + 1, c_, l, h_ => by
    have ha_ : c_ % (n_ + 1) < l.length := by rw [h_]; exact Nat.mod_lt _ (by omega)
    have hs : l[c_ % (n_ + 1)]? = some l[c_ % (n_ + 1)] := List.getElem?_eq_getElem ha_
    unfold zord
    rw [hs]
    show (l[c_ % (n_ + 1)] :: zord n_ (c_ / (n_ + 1)) (l.eraseIdx (c_ % (n_ + 1)))).Perm l
    have h1 := zzord_p n_ (c_ / (n_ + 1)) (l.eraseIdx (c_ % (n_ + 1))) (by rw [List.length_eraseIdx, if_pos ha_, h_]; omega)
    exact (List.Perm.cons _ h1).trans (zzpme ha_)
theorem zzord_s : ∀ (n_ : Nat) (l p_ : List Nat), l.length = n_ → p_.Perm l → ∃ c_, c_ < zfac n_ ∧ zord n_ c_ l = p_
  | 0, l, p_, h_, hp => by
    have : l = [] := List.length_eq_zero_iff.mp h_
    subst this
    have := List.perm_nil.mp hp
    subst this
    exact ⟨0, by decide, rfl⟩
  | n_ + 1, l, p_, h_, hp => by
    have hl := hp.length_eq
    cases p_ with
    | nil => rw [h_] at hl; simp at hl
    | cons s_ r_ =>
      have hm_ : s_ ∈ l := hp.mem_iff.mp List.mem_cons_self
      obtain ⟨a_, ha_, ea⟩ := List.getElem_of_mem hm_
      have h2 : (s_ :: r_).Perm (s_ :: l.eraseIdx a_) := hp.trans (ea ▸ (zzpme ha_).symm)
      have h3 : r_.Perm (l.eraseIdx a_) := (List.perm_cons s_).mp h2
      obtain ⟨c_, hc_, ec⟩ := zzord_s n_ (l.eraseIdx a_) r_ (by rw [List.length_eraseIdx, if_pos ha_, h_]; omega) h3
      have e1_ : (a_ + (n_ + 1) * c_) % (n_ + 1) = a_ := by
        rw [Nat.add_mul_mod_self_left, Nat.mod_eq_of_lt (by omega)]
      have e2_ : (a_ + (n_ + 1) * c_) / (n_ + 1) = c_ := by
        rw [Nat.add_mul_div_left _ _ (by omega), Nat.div_eq_of_lt (by omega)]; omega
      refine ⟨a_ + (n_ + 1) * c_, ?_, ?_⟩
      · show a_ + (n_ + 1) * c_ < (n_ + 1) * zfac n_
        have : (n_ + 1) * (c_ + 1) ≤ (n_ + 1) * zfac n_ := Nat.mul_le_mul_left _ hc_
        rw [Nat.mul_add] at this
        omega
      · unfold zord
        rw [e1_, e2_, List.getElem?_eq_getElem ha_, ea]
        show s_ :: zord n_ c_ (l.eraseIdx a_) = _
        rw [ec]

