/-! THE CALLS: what is owed, counts, patterns, money -/
theorem zzap36 : ∀ a_, a_ < 6 → ∀ b_, b_ < 6 → ∀ c_, c_ < 6 → ∀ d_, d_ < 6 → zap (Int32.ofNat a_) (Int32.ofNat b_) + zap (Int32.ofNat c_) (Int32.ofNat d_) < 36 := by decide +kernel
theorem zzsp36 {x_ y_ : Int32} (hx : zzpc x_) (hy : zzpc y_) : zspm x_ y_ < 36 := by
  obtain ⟨a_, ha_, rfl⟩ := hx
  obtain ⟨b_, hb_, rfl⟩ := hy
  unfold zspm
  have e1_ : Int32.ofNat a_ / 6 = Int32.ofNat (a_ / 6) := zidv (b_ := 6) (by omega) (by omega)
  have e2_ : Int32.ofNat b_ / 6 = Int32.ofNat (b_ / 6) := zidv (b_ := 6) (by omega) (by omega)
  have e3_ : Int32.ofNat a_ - Int32.ofNat a_ / 6 * 6 = Int32.ofNat (a_ % 6) := zirm (b_ := 6) (by omega) (by omega)
  have e4_ : Int32.ofNat b_ - Int32.ofNat b_ / 6 * 6 = Int32.ofNat (b_ % 6) := zirm (b_ := 6) (by omega) (by omega)
  rw [e3_, e4_, e1_, e2_]
  exact zzap36 _ (by omega) _ (by omega) _ (by omega) _ (by omega)
def zzct (C_ : zIn) : Nat → Nat → Nat
  | 0, _ => 0
  | n_ + 1, k_ => (if C_ 31 0 k_ = 0 then 0 else 1) + zzct C_ n_ (k_ + 1)
theorem zzct_le {C_ : zIn} : ∀ (n_ k_ : Nat), zzct C_ n_ k_ ≤ n_
  | 0, _ => Nat.le_refl _
  | n_ + 1, k_ => by
    have h_ := zzct_le (C_ := C_) n_ (k_ + 1)
    unfold zzct
    split <;> omega
theorem zzcb {C_ : zIn} : ∀ (n_ k_ j_ : Nat), zcb C_ n_ k_ (Int32.ofNat j_) = Int32.ofNat (j_ + zzct C_ n_ k_)
  | 0, _, _ => rfl
  | n_ + 1, k_, j_ => by
    unfold zcb zzct
    by_cases h_ : C_ 31 0 k_ = 0
    · rw [if_pos h_, if_pos h_, zzcb n_ (k_ + 1) j_, Nat.zero_add]
    · rw [if_neg h_, if_neg h_, zisucc, zzcb n_ (k_ + 1) (j_ + 1)]
      congr 1; omega
theorem zzcb0 {C_ : zIn} : zcb C_ 36 0 0 = Int32.ofNat (zzct C_ 36 0) := by
  have h_ := zzcb (C_ := C_) 36 0 0
  rw [Nat.zero_add] at h_
  exact h_
theorem zznea {C_ D_ : zIn} {x_ : Int32} (hx : zzpc x_) (hb_ : ∀ k_, k_ < 36 → (C_ 31 0 k_ = 0 ↔ D_ 31 4 k_ = 0)) : ∀ (n_ k_ : Nat) (w_ w' : Int32), n_ + k_ = 36 → (w_ = w' ∨ (w_ = 36 ∧ w' = 99)) → (znb C_ x_ n_ k_ w_ = zneL D_ x_ n_ k_ w' ∨ (znb C_ x_ n_ k_ w_ = 36 ∧ zneL D_ x_ n_ k_ w' = 99 ∧ zzct C_ n_ k_ = 0))
  | 0, k_, w_, w', hk, h_ => by
    rcases h_ with h_ | h_
    · exact Or.inl h_
    · exact Or.inr ⟨h_.1, h_.2, rfl⟩
  | n_ + 1, k_, w_, w', hk, h_ => by
    unfold znb zneL zzct
    have hpk : zzpc (Int32.ofNat k_) := ⟨k_, by omega, rfl⟩
    have hsp := zzsp36 hx hpk
    rw [zzstp hx hpk]
    by_cases hc_ : C_ 31 0 k_ = 0
    · rw [if_pos hc_, if_pos hc_, if_neg (fun e_ => e_.1 ((hb_ k_ (by omega)).mp hc_)), Nat.zero_add]
      exact zznea hx hb_ n_ (k_ + 1) w_ w' (by omega) h_
    · have hd_ : ¬ D_ 31 4 k_ = 0 := fun e_ => hc_ ((hb_ k_ (by omega)).mpr e_)
      rw [if_neg hc_, if_neg hc_]
      have hne : (if zspm x_ (Int32.ofNat k_) < w_ then zspm x_ (Int32.ofNat k_) else w_) = (if ¬ D_ 31 4 k_ = 0 ∧ zspm x_ (Int32.ofNat k_) < w' then zspm x_ (Int32.ofNat k_) else w') := by
        rcases h_ with rfl | ⟨rfl, rfl⟩
        · by_cases hl : zspm x_ (Int32.ofNat k_) < w_
          · rw [if_pos hl, if_pos ⟨hd_, hl⟩]
          · rw [if_neg hl, if_neg (fun e_ => hl e_.2)]
        · rw [if_pos hsp, if_pos ⟨hd_, Int32.lt_of_lt_of_le hsp (by decide)⟩]
      rw [hne]
      rcases zznea hx hb_ n_ (k_ + 1) _ _ (by omega) (Or.inl rfl) with e_ | ⟨e1_, e2_, e3_⟩
      · exact Or.inl e_
      · have : ∀ (n_ k_ : Nat) (w_ : Int32), w_ < 36 ∨ w_ = w_ → True := fun _ _ _ _ => trivial
        exact Or.inl (e1_.trans (by
          exfalso
          have hmono : ∀ (n_ k_ : Nat) (w_ : Int32), zneL D_ x_ n_ k_ w_ = 99 → 99 ≤ w_ := by
            intro n_
            induction n_ with
            | zero => intro k_ w_ e_; rw [show w_ = 99 from e_]; exact Int32.le_refl _
            | succ n_ ih_ =>
              intro k_ w_ e_
              unfold zneL at e_
              have h3 := ih_ _ _ e_
              split at h3
              · rename_i h4
                exact Int32.le_trans h3 (Int32.le_of_lt h4.2)
              · exact h3
          have h5 := hmono _ _ _ e2_
          by_cases hl : ¬ D_ 31 4 k_ = 0 ∧ zspm x_ (Int32.ofNat k_) < w'
          · rw [if_pos hl] at h5
            exact absurd (Int32.lt_of_le_of_lt h5 hsp) (by decide)
          · rw [if_neg hl] at h5
            exact hl ⟨hd_, Int32.lt_of_lt_of_le hsp (Int32.le_trans (by decide) h5)⟩))
theorem zzow {C_ D_ : zIn} {L_ : zLi} {p_ N_ M_ i_ : Nat} {x_ y_ : Int32} (h_ : zzR C_ L_ D_ p_ N_ M_) (hi_ : i_ < p_) (hx : zzpc x_) (hy : zzpc y_) : zowd C_ i_ x_ y_ = zowM D_ i_ x_ y_ := by
  obtain ⟨a1_, a2, a3, a4, a5, a6, a7, a8, a9, b1, b2, b3, b4, b5, b6, b7⟩ := h_.1
  obtain ⟨k_, hk, e1_, e2_, e3_, e4_, e5_, e6_⟩ := h_.2.1 i_ hi_
  unfold zowd zowM
  rw [b7]
  by_cases h0 : zcb C_ 36 0 0 = 0
  · rw [decide_eq_true h0, Bool.true_or, Bool.true_or]
  · rw [decide_eq_false h0, Bool.false_or, Bool.false_or]
    have hc_ : ¬ zzct C_ 36 0 = 0 := fun e_ => h0 (by rw [zzcb0, e_]; rfl)
    have g_ : ∀ z_, zzpc z_ → znb C_ z_ 36 0 36 = znea D_ z_ := fun z_ hz => by
      rcases zznea hz b6 36 0 36 99 (by omega) (Or.inr ⟨rfl, rfl⟩) with e_ | ⟨_, _, e_⟩
      · exact e_
      · exact absurd e_ hc_
    rw [g_ x_ hx, g_ y_ hy]
    have hw : (if C_ 6 0 6 = 0 ∨ C_ 2 i_ 0 = 0 then C_ 2 i_ 2 else C_ 2 i_ 2 / 2) = zwlk D_ i_ := by
      unfold zwlk
      rw [e4_, e1_, e2_]
      by_cases hc2 : C_ 6 0 6 = 0 ∨ Int32.ofNat k_ = 0
      · rw [if_pos hc2, if_neg (fun e_ => by
          rcases hc2 with g_ | g_
          · exact e_.1 (b5.mp g_)
          · exact e_.2 g_)]
      · rw [if_neg hc2, if_pos ⟨fun e_ => hc2 (Or.inl (b5.mpr e_)), fun e_ => hc2 (Or.inr e_)⟩]
    rw [hw]
theorem zzdr2 {M_ k_ : Nat} (hk : k_ < M_) : (List.range M_).drop k_ = k_ :: (List.range M_).drop (k_ + 1) := zdrop_cons (List.getElem?_range hk)
theorem zzdr3 {M_ k_ : Nat} (hk : M_ ≤ k_) : (List.range M_).drop k_ = [] := List.drop_of_length_le (by rw [List.length_range]; exact hk)
theorem zzly {C_ D_ : zIn} {L_ : zLi} {p_ N_ M_ i_ r_ : Nat} {b_ : Bool} (h_ : zzR C_ L_ D_ p_ N_ M_) (hi_ : i_ < p_) (hr : r_ < M_) : (if zlyc C_ i_ (zbi b_) r_ = true then (1 : Int32) else 0) = zaN D_ i_ b_ r_ := by
  obtain ⟨⟨⟨u_, hu, q1_, q2_⟩, _⟩, c3_, c5_, c6_, c8_, c10_, c12_, c13_, c14_⟩ := h_.2.2.1 r_ hr
  have hp := h_.1.2.1
  have e7_ : C_ 6 0 7 = D_ 7 0 1 := h_.1.2.2.2.2.2.2.2.2.2.2.1
  have h1 : ((C_ 1 r_ 0).toNatClampNeg = i_) ↔ (D_ 30 29 r_ = Int32.ofNat i_) := by
    rw [q1_, q2_, zicl (by omega)]
    exact (zof_eq (by omega) (by omega)).symm
  have h2 : zlyc C_ i_ (zbi b_) r_ = true ↔ (zaB D_ i_ r_ = true ∧ (b_ = false ∨ ¬ D_ 31 40 r_ = 0)) := by
    unfold zlyc zaB zol
    rw [c5_, c3_, e7_, Bool.and_eq_true, Bool.and_eq_true, Bool.and_eq_true, Bool.and_eq_true, Bool.and_eq_true, Bool.or_eq_true, decide_eq_true_iff, decide_eq_true_iff, decide_eq_true_iff, decide_eq_true_iff, decide_eq_true_iff, h1, c14_]
    have hb_ : zbi b_ = 0 ↔ b_ = false := by cases b_ <;> decide
    rw [hb_]
    constructor
    · rintro ⟨x1_, x2_, x3, x4_⟩
      exact ⟨⟨x1_, x3, x2_⟩, x4_⟩
    · rintro ⟨⟨x1_, x3, x2_⟩, x4_⟩
      exact ⟨x1_, x2_, x3, x4_⟩
  unfold zaN
  by_cases hc_ : zlyc C_ i_ (zbi b_) r_ = true
  · rw [if_pos hc_, if_pos (h2.mp hc_)]
  · rw [if_neg hc_, if_neg (fun e_ => hc_ (h2.mpr e_))]
theorem zzcn1 {f_ : Nat → Bool} {g_ : Nat → Int32} {M_ : Nat} {F_ : Nat → Nat → Int32 → Int32} (hF0 : ∀ k_ x_, F_ 0 k_ x_ = x_) (hF : ∀ n_ k_ x_, F_ (n_ + 1) k_ x_ = F_ n_ (k_ + 1) (x_ + g_ k_)) (hg : ∀ k_, k_ < M_ → (if f_ k_ = true then (1 : Int32) else 0) = g_ k_) : ∀ (n_ k_ : Nat) (x_ : Int32), n_ + k_ = M_ → zcnt f_ ((List.range M_).drop k_) x_ = F_ n_ k_ x_
  | 0, k_, x_, h_ => by
    rw [zzdr3 (by omega), hF0]; rfl
  | n_ + 1, k_, x_, h_ => by
    rw [zzdr2 (by omega), hF, ← hg k_ (by omega)]
    unfold zcnt
    rw [zzcn1 hF0 hF hg n_ (k_ + 1) _ (by omega)]
    by_cases hc_ : f_ k_ = true
    · rw [if_pos hc_, if_pos hc_]
    · rw [if_neg hc_, if_neg hc_, Int32.add_zero]
theorem zzlately {C_ D_ : zIn} {L_ : zLi} {p_ N_ M_ i_ : Nat} {b_ : Bool} (h_ : zzR C_ L_ D_ p_ N_ M_) (hi_ : i_ < p_) : zcnt (zlyc C_ i_ (zbi b_)) (L_ 22 0) 0 = zasM D_ i_ b_ M_ := by
  rw [h_.1.2.2.2.2.2.2.1]
  have := zzcn1 (f_ := zlyc C_ i_ (zbi b_)) (g_ := zaN D_ i_ b_) (M_ := M_) (F_ := zaL D_ i_ b_) (fun _ _ => rfl) (fun _ _ _ => rfl) (fun k_ hk => zzly h_ hi_ hk) M_ 0 0 (by omega)
  rw [List.drop_zero] at this
  exact this
theorem zzsus {C_ D_ : zIn} {L_ : zLi} {p_ N_ M_ i_ : Nat} (h_ : zzR C_ L_ D_ p_ N_ M_) (hi_ : i_ < p_) : zsus C_ L_ i_ = zsuM D_ i_ M_ := by
  unfold zsus zsuM
  have e1_ : zcnt (zlyc C_ i_ 1) (L_ 22 0) 0 = zasM D_ i_ true M_ := zzlately (b_ := true) h_ hi_
  have e0_ : zcnt (zlyc C_ i_ 0) (L_ 22 0) 0 = zasM D_ i_ false M_ := zzlately (b_ := false) h_ hi_
  rw [e1_, e0_]
theorem zzlat {C_ D_ : zIn} {p_ r_ : Nat} (hb_ : zzRb C_ D_ p_ r_) (hc_ : zzRc C_ D_ r_) : zlat (C_ 1 r_) = zilM D_ r_ := by
  unfold zlat zilM
  rw [hc_.2.2.2.2.1, hb_.2.2.2.2.2.2.1]
theorem zzlon {C_ D_ : zIn} {p_ r_ : Nat} (hb_ : zzRb C_ D_ p_ r_) (hc_ : zzRc C_ D_ r_) : zlon (C_ 1 r_) = zigM D_ r_ := by
  unfold zlon zigM
  rw [hc_.2.2.2.2.2.1, hb_.2.2.2.2.2.2.2, hb_.2.2.2.2.2.1, zzlt4]
theorem zzrtl {C_ D_ : zIn} {p_ r_ : Nat} (hb_ : zzRb C_ D_ p_ r_) (hc_ : zzRc C_ D_ r_) (k_ : Nat) (hk : k_ ≤ 10) : zrtl (C_ 1 r_) k_ = zrqM D_ r_ k_ := by
  obtain rfl | rfl | rfl | rfl | rfl | rfl | rfl | rfl | rfl | rfl | rfl : k_ = 0 ∨ k_ = 1 ∨ k_ = 2 ∨ k_ = 3 ∨ k_ = 4 ∨ k_ = 5 ∨ k_ = 6 ∨ k_ = 7 ∨ k_ = 8 ∨ k_ = 9 ∨ k_ = 10 := by omega
  · exact hc_.2.1
  · exact hc_.2.2.1
  · exact hb_.2.2.2.2.2.2.1
  · exact hc_.2.2.2.1
  · exact hc_.2.2.2.2.1
  · exact hb_.2.2.2.2.2.2.2
  · exact hc_.2.2.2.2.2.1
  · show (if zlat (C_ 1 r_) = true then (1 : Int32) else 0) = (if zilM D_ r_ = true then 1 else 0)
    rw [zzlat hb_ hc_]
  · show (if zlon (C_ 1 r_) = true then (1 : Int32) else 0) = (if zigM D_ r_ = true then 1 else 0)
    rw [zzlon hb_ hc_]
  · exact hc_.1
  · have h_ := hc_.2.2.2.2.2.2.2
    show (if znos (C_ 1 r_) = true then (1 : Int32) else 0) = zbo (D_ 31 40 r_)
    unfold zbo
    by_cases e_ : D_ 31 40 r_ = 0
    · rw [if_pos e_, if_neg (fun g_ => (h_.mp g_) e_)]
    · rw [if_neg e_, if_pos (h_.mpr e_)]
theorem zzctd {C_ D_ : zIn} {p_ r_ : Nat} (hb_ : zzRb C_ D_ p_ r_) (hc_ : zzRc C_ D_ r_) (k_ : Nat) (hk : k_ ≤ 9) : zctd (C_ 1 r_) k_ = zctM D_ r_ k_ := by
  have h5 : ∀ j_, decide (C_ 1 r_ 5 = Int32.ofNat j_) = decide (D_ 30 32 r_ = Int32.ofNat j_) := fun j_ => by rw [hc_.2.1]
  obtain rfl | rfl | rfl | rfl | rfl | rfl | rfl | rfl | rfl | rfl : k_ = 0 ∨ k_ = 1 ∨ k_ = 2 ∨ k_ = 3 ∨ k_ = 4 ∨ k_ = 5 ∨ k_ = 6 ∨ k_ = 7 ∨ k_ = 8 ∨ k_ = 9 := by omega
  · exact h5 0
  · exact h5 1
  · exact h5 2
  · exact h5 3
  · exact h5 4
  · exact h5 5
  · exact h5 6
  · exact zzlat hb_ hc_
  · exact zzlon hb_ hc_
  · have h_ := hc_.2.2.2.2.2.2.2
    show znos (C_ 1 r_) = decide (¬ D_ 31 40 r_ = 0)
    by_cases e_ : D_ 31 40 r_ = 0
    · rw [decide_eq_false (fun g_ => g_ e_)]
      cases hz : znos (C_ 1 r_) with
      | false => rfl
      | true => exact absurd e_ (h_.mp hz)
    · rw [decide_eq_true e_]
      exact h_.mpr e_
theorem zzcount {C_ D_ : zIn} {L_ : zLi} {p_ N_ M_ w_ : Nat} (h_ : zzR C_ L_ D_ p_ N_ M_) (hw : w_ ≤ 9) : zcnt (fun q_ => zctd (C_ 1 q_) w_) (L_ 22 0) 0 = zctL D_ w_ M_ 0 0 := by
  rw [h_.1.2.2.2.2.2.2.1]
  have := zzcn1 (f_ := fun q_ => zctd (C_ 1 q_) w_) (g_ := fun k_ => if zctM D_ k_ w_ = true then 1 else 0) (M_ := M_) (F_ := zctL D_ w_) (fun _ _ => rfl) (fun _ _ _ => rfl) (fun k_ hk => by
    obtain ⟨hb_, hc_⟩ := h_.2.2.1 k_ hk
    show (if zctd (C_ 1 k_) w_ = true then (1 : Int32) else 0) = _
    rw [zzctd hb_ hc_ w_ hw]) M_ 0 0 (by omega)
  rw [List.drop_zero] at this
  exact this
theorem zzfar {C_ D_ : zIn} {p_ r_ : Nat} (hb_ : zzRb C_ D_ p_ r_) (hc_ : zzRc C_ D_ r_) : zfar (C_ 1 r_) = zmoN D_ r_ := by
  unfold zfar zmoN
  rw [hc_.2.1, zzlat hb_ hc_, zzlon hb_ hc_, hb_.2.2.2.1, hb_.2.2.2.2.1, zzstp hb_.2.1 hb_.2.2.1]
theorem zzmonL {C_ D_ : zIn} {p_ M_ : Nat} (h_ : ∀ r_, r_ < M_ → zzRb C_ D_ p_ r_ ∧ zzRc C_ D_ r_) : ∀ (n_ k_ : Nat) (x_ : Int64), n_ + k_ = M_ → zmon C_ ((List.range M_).drop k_) x_ = zmoL D_ n_ k_ x_
  | 0, k_, x_, hk => by
    rw [zzdr3 (by omega)]; rfl
  | n_ + 1, k_, x_, hk => by
    obtain ⟨hb_, hc_⟩ := h_ k_ (by omega)
    rw [zzdr2 (by omega)]
    unfold zmon zmoL
    rw [zzfar hb_ hc_, zzmonL h_ n_ (k_ + 1) _ (by omega)]
theorem zzpat {C_ D_ : zIn} {p_ M_ : Nat} (e7_ : C_ 6 0 7 = D_ 7 0 1) (h_ : ∀ r_, r_ < M_ → zzRb C_ D_ p_ r_ ∧ zzRc C_ D_ r_) : ∀ (n_ k_ : Nat) (a_ r_ s_ b_ : Int32), n_ + k_ = M_ → (if 2 ≤ (zpno C_ ((List.range M_).drop k_) r_ a_).1 ∧ (zpno C_ ((List.range M_).drop k_) r_ a_).2 < 20 * (zpno C_ ((List.range M_).drop k_) r_ a_).1 then (1 : Int32) else 0) + (if (zplr C_ ((List.range M_).drop k_) b_ s_).2 < 10 * (zplr C_ ((List.range M_).drop k_) b_ s_).1 then 2 else 0) = zptL D_ n_ k_ a_ r_ s_ b_
  | 0, k_, a_, r_, s_, b_, hk => by
    rw [zzdr3 (by omega)]; rfl
  | n_ + 1, k_, a_, r_, s_, b_, hk => by
    obtain ⟨hb_, hc_⟩ := h_ k_ (by omega)
    have ih_ := fun a_ r_ s_ b_ => zzpat e7_ h_ n_ (k_ + 1) a_ r_ s_ b_ (by omega)
    rw [zzdr2 (by omega)]
    unfold zpno zplr zptL zol
    rw [e7_, hc_.1, hc_.2.1, hc_.2.2.1, zzlat hb_ hc_, zzlon hb_ hc_]
    by_cases hd_ : D_ 7 0 1 - 20 < D_ 30 39 k_
    · rw [if_pos hd_, decide_eq_true hd_, ← ih_]
      have e1_ : (if (true = true ∧ ¬ D_ 30 33 k_ = 1 ∧ ¬ D_ 30 33 k_ = 2) then zpno C_ ((List.range M_).drop (k_ + 1)) (r_ + if D_ 30 33 k_ = 3 then 1 else 0) (a_ + 1) else zpno C_ ((List.range M_).drop (k_ + 1)) r_ a_) = zpno C_ ((List.range M_).drop (k_ + 1)) (r_ + zptR D_ k_) (a_ + zptA D_ k_) := by
        unfold zptR zptA
        by_cases c1_ : D_ 30 33 k_ = 1 ∨ D_ 30 33 k_ = 2
        · have c3_ : ¬ D_ 30 33 k_ = 3 := fun e_ => by rw [e_] at c1_; exact absurd c1_ (by decide)
          rw [if_neg (fun e_ => c1_.elim e_.2.1 e_.2.2), if_pos c1_, if_neg c3_, Int32.add_zero, Int32.add_zero]
        · rw [if_pos ⟨rfl, fun e_ => c1_ (Or.inl e_), fun e_ => c1_ (Or.inr e_)⟩, if_neg c1_]
      have e2_ : (if (true = true ∧ D_ 30 32 k_ = 2) then zplr C_ ((List.range M_).drop (k_ + 1)) (b_ + if zilM D_ k_ = true ∨ zigM D_ k_ = true then 1 else 0) (s_ + 1) else zplr C_ ((List.range M_).drop (k_ + 1)) b_ s_) = zplr C_ ((List.range M_).drop (k_ + 1)) (b_ + zptB D_ k_) (s_ + zptS D_ k_) := by
        unfold zptB zptS
        by_cases c1_ : D_ 30 32 k_ = 2
        · rw [if_pos ⟨rfl, c1_⟩, if_pos c1_]
          by_cases c2_ : zilM D_ k_ = true ∨ zigM D_ k_ = true
          · rw [if_pos c2_, if_pos ⟨c1_, c2_⟩]
          · rw [if_neg c2_, if_neg (fun e_ => c2_ e_.2)]
        · rw [if_neg (fun e_ => c1_ e_.2), if_neg c1_, if_neg (fun e_ => c1_ e_.1), Int32.add_zero, Int32.add_zero]
      rw [e1_, e2_]
    · rw [if_neg hd_, decide_eq_false hd_, ← ih_]
      have e1_ : (if (false = true ∧ ¬ D_ 30 33 k_ = 1 ∧ ¬ D_ 30 33 k_ = 2) then zpno C_ ((List.range M_).drop (k_ + 1)) (r_ + if D_ 30 33 k_ = 3 then 1 else 0) (a_ + 1) else zpno C_ ((List.range M_).drop (k_ + 1)) r_ a_) = zpno C_ ((List.range M_).drop (k_ + 1)) r_ a_ := if_neg (fun e_ => absurd e_.1 (by decide))
      have e2_ : (if (false = true ∧ D_ 30 32 k_ = 2) then zplr C_ ((List.range M_).drop (k_ + 1)) (b_ + if zilM D_ k_ = true ∨ zigM D_ k_ = true then 1 else 0) (s_ + 1) else zplr C_ ((List.range M_).drop (k_ + 1)) b_ s_) = zplr C_ ((List.range M_).drop (k_ + 1)) b_ s_ := if_neg (fun e_ => absurd e_.1 (by decide))
      rw [e1_, e2_]

