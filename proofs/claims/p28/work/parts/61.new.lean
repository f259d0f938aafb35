/-! NEW OBJECTS in typed heaps -/
/-- the numbers when (c, i) comes to be, with the row r -/
def znwI (I_ : zIn) (c_ i_ : Nat) (r_ : Nat → Int32) : zIn := fun c' i' f_ => if c' = 99 then (if i' = c_ ∧ f_ = i_ then 1 else I_ 99 i' f_) else if c' = c_ ∧ i' = i_ then r_ f_ else I_ c' i' f_
def znwA (lc : zAd) (c_ i_ A_ : Nat) : zAd := fun c' i' => if c' = c_ ∧ i' = i_ then A_ else lc c' i'
theorem znwI_99 {I_ : zIn} {c_ i_ : Nat} {r_ : Nat → Int32} {c' i' : Nat} : znwI I_ c_ i_ r_ 99 c' i' = 1 ↔ (c' = c_ ∧ i' = i_) ∨ I_ 99 c' i' = 1 := by
  unfold znwI
  rw [if_pos rfl]
  by_cases h_ : c' = c_ ∧ i' = i_
  · rw [if_pos h_]; exact ⟨fun _ => Or.inl h_, fun _ => rfl⟩
  · rw [if_neg h_]; exact ⟨fun e_ => Or.inr e_, fun e_ => e_.elim (fun e_ => absurd e_ h_) id⟩
theorem znwI_ne {I_ : zIn} {c_ i_ : Nat} {r_ : Nat → Int32} {c' i' : Nat} (h99 : c' ≠ 99) (h_ : ¬ (c' = c_ ∧ i' = i_)) : znwI I_ c_ i_ r_ c' i' = I_ c' i' := by
  funext f_
  unfold znwI
  rw [if_neg h99, if_neg h_]
theorem znwI_is {I_ : zIn} {c_ i_ : Nat} {r_ : Nat → Int32} (h99 : c_ ≠ 99) : znwI I_ c_ i_ r_ c_ i_ = r_ := by
  funext f_
  unfold znwI
  rw [if_neg h99, if_pos ⟨rfl, rfl⟩]
theorem znwA_ext {lc : zAd} {I_ : zIn} {c_ i_ A_ : Nat} {r_ : Nat → Int32} (hn : I_ 99 c_ i_ ≠ 1) : zExt lc I_ (znwA lc c_ i_ A_) (znwI I_ c_ i_ r_) := by
  intro c' i' hx
  refine ⟨znwI_99.mpr (Or.inr hx), ?_⟩
  unfold znwA
  rw [if_neg (fun e_ => by obtain ⟨rfl, rfl⟩ := e_; exact hn hx)]
/-- a cell that stands for nothing typed -/
def zfre (lc : zAd) (I_ : zIn) (h_ : zHp) (A_ : Nat) : Prop := (∀ c_ i_, I_ 99 c_ i_ = 1 → lc c_ i_ ≠ A_) ∧ ∃ a_ fs, h_[A_]? = some (a_, fs) ∧ a_ ≠ 103
theorem zRp.free_row {lc : zAd} {I_ : zIn} {L_ : zLi} {h_ : zHp} {cap_ er : Nat → Nat → Nat} (hr : zRp lc I_ L_ h_ cap_ er) {A_ c_ i_ : Nat} (hf : zfre lc I_ h_ A_) (hx : I_ 99 c_ i_ = 1) (h8 : zct c_ = 8) (hc_ : cap_ c_ i_ ≠ 0) : er c_ i_ ≠ A_ := by
  intro e_
  obtain ⟨_, a_, fs, h1, h2⟩ := hf
  obtain ⟨_, _, hl, _⟩ := (hr.1 c_ i_ hx).2.1 h8
  obtain ⟨fs', h3⟩ := hl.tag.2 hc_
  rw [e_, h1] at h3
  simp only [Option.some.injEq, Prod.mk.injEq] at h3
  exact h2 h3.1
theorem zRp.junk {lc : zAd} {I_ : zIn} {L_ : zLi} {h_ : zHp} {cap_ er : Nat → Nat → Nat} (hr : zRp lc I_ L_ h_ cap_ er) {A_ : Nat} (hf : zfre lc I_ h_ A_) (o : zOb) : zRp lc I_ L_ (h_.set A_ o) cap_ er := by
  refine ⟨fun c_ i_ hx => ?_, hr.2⟩
  obtain ⟨k1_, k2_, k3_⟩ := hr.1 c_ i_ hx
  refine ⟨k1_, fun e8 => ?_, fun e8 => ?_⟩
  · obtain ⟨a1_, a2, a3, a4⟩ := k2_ e8
    exact ⟨a1_, a2, a3.frame (zget_set_ne (Ne.symm (hf.1 c_ i_ hx))) (fun hc_ => zget_set_ne (Ne.symm (hr.free_row hf hx e8 hc_))), a4⟩
  · obtain ⟨b1, b2⟩ := k3_ e8
    exact ⟨by rw [zget_set_ne (Ne.symm (hf.1 c_ i_ hx))]; exact b1, b2⟩
/-- a free cell comes to stand for (c, i) -/
theorem zRp.reg {lc : zAd} {I_ : zIn} {L_ : zLi} {h_ : zHp} {cap_ er : Nat → Nat → Nat} (hr : zRp lc I_ L_ h_ cap_ er) {A_ c_ i_ : Nat} {r_ : Nat → Int32} (hf : zfre lc I_ h_ A_) (hn : I_ 99 c_ i_ ≠ 1) (hc_ : zct c_ ≠ 8) (hc9 : zct c_ ≠ 999) (hA : h_[A_]? = some (zct c_, (zfs c_ i_ r_).map (ztr lc))) (hok : ∀ w_ ∈ zfs c_ i_ r_, zok I_ w_) : zRp (znwA lc c_ i_ A_) (znwI I_ c_ i_ r_) L_ h_ cap_ er := by
  have h99 : c_ ≠ 99 := fun e_ => hc9 (by rw [e_]; rfl)
  have hE : zExt lc I_ (znwA lc c_ i_ A_) (znwI I_ c_ i_ r_) := znwA_ext hn
  have htr : ∀ l : List zW, (∀ w_ ∈ l, zok I_ w_) → l.map (ztr (znwA lc c_ i_ A_)) = l.map (ztr lc) := fun l hl => List.map_congr_left (fun w_ hw => hE.tr (hl w_ hw))
  have hAs : znwA lc c_ i_ A_ c_ i_ = A_ := by unfold znwA; rw [if_pos ⟨rfl, rfl⟩]
  have hAn : ∀ c' i', ¬ (c' = c_ ∧ i' = i_) → znwA lc c_ i_ A_ c' i' = lc c' i' := fun c' i' h_ => by unfold znwA; rw [if_neg h_]
  refine ⟨fun c' i' hx => ?_, fun c1_ i1_ c2_ i2_ x1_ x2_ he => ?_, fun c1_ i1_ c2_ i2_ x1_ x2_ a1_ a2 b1 b2 he => ?_, fun c' i' hx => ?_⟩
  · by_cases hs : c' = c_ ∧ i' = i_
    · obtain ⟨rfl, rfl⟩ := hs
      refine ⟨hc9, fun e_ => absurd e_ hc_, fun _ => ?_⟩
      rw [znwI_is h99, hAs, htr _ hok]
      exact ⟨hA, fun w_ hw => hE.ok (hok w_ hw)⟩
    · have hx0 : I_ 99 c' i' = 1 := (znwI_99.mp hx).elim (fun e_ => absurd e_ hs) id
      obtain ⟨k1_, k2_, k3_⟩ := hr.1 c' i' hx0
      have h99' : c' ≠ 99 := fun e_ => k1_ (by rw [e_]; rfl)
      refine ⟨k1_, fun e8 => ?_, fun e8 => ?_⟩
      · obtain ⟨a1_, a2, a3, a4⟩ := k2_ e8
        have hel : (L_ c' i').map (fun t_ => Value.ref (znwA lc c_ i_ A_ (zek c') t_)) = (L_ c' i').map (fun t_ => Value.ref (lc (zek c') t_)) := List.map_congr_left (fun t_ ht => congrArg Value.ref (hE (zek c') t_ (a4 t_ ht)).2)
        rw [hAn c' i' hs, hel]
        exact ⟨a1_, a2, a3, fun t_ ht => (hE _ _ (a4 t_ ht)).1⟩
      · obtain ⟨b1, b2⟩ := k3_ e8
        rw [hAn c' i' hs, znwI_ne h99' hs, htr _ b2]
        exact ⟨b1, fun w_ hw => hE.ok (b2 w_ hw)⟩
  · by_cases s1_ : c1_ = c_ ∧ i1_ = i_
    · by_cases s2_ : c2_ = c_ ∧ i2_ = i_
      · exact ⟨by omega, by omega⟩
      · exfalso
        have x2' : I_ 99 c2_ i2_ = 1 := (znwI_99.mp x2_).elim (fun e_ => absurd e_ s2_) id
        obtain ⟨rfl, rfl⟩ := s1_
        rw [hAs, hAn _ _ s2_] at he
        exact hf.1 c2_ i2_ x2' he.symm
    · have x1' : I_ 99 c1_ i1_ = 1 := (znwI_99.mp x1_).elim (fun e_ => absurd e_ s1_) id
      by_cases s2_ : c2_ = c_ ∧ i2_ = i_
      · exfalso
        obtain ⟨rfl, rfl⟩ := s2_
        rw [hAs, hAn _ _ s1_] at he
        exact hf.1 c1_ i1_ x1' he
      · have x2' : I_ 99 c2_ i2_ = 1 := (znwI_99.mp x2_).elim (fun e_ => absurd e_ s2_) id
        rw [hAn _ _ s1_, hAn _ _ s2_] at he
        exact hr.2.1 _ _ _ _ x1' x2' he
  · have x1' : I_ 99 c1_ i1_ = 1 := (znwI_99.mp x1_).elim (fun e_ => absurd (e_.1 ▸ a1_) hc_) id
    have x2' : I_ 99 c2_ i2_ = 1 := (znwI_99.mp x2_).elim (fun e_ => absurd (e_.1 ▸ a2) hc_) id
    exact hr.2.2.1 _ _ _ _ x1' x2' a1_ a2 b1 b2 he
  · exact hr.2.2.2 c' i' (fun e_ => hx (znwI_99.mpr (Or.inr e_)))
/-- .. for an empty list -/
theorem zRp.regl {lc : zAd} {I_ : zIn} {L_ : zLi} {h_ : zHp} {cap_ er : Nat → Nat → Nat} (hr : zRp lc I_ L_ h_ cap_ er) {A_ c_ i_ : Nat} {mc_ : Int32} (hf : zfre lc I_ h_ A_) (hn : I_ 99 c_ i_ ≠ 1) (hc_ : zct c_ = 8) (hi4 : i_ < 4) (hA : h_[A_]? = some (8, [.int mc_, .retAddr 1, .int 0])) (hL : L_ c_ i_ = []) : zRp (znwA lc c_ i_ A_) (znwI I_ c_ i_ (I_ c_ i_)) L_ h_ cap_ er := by
  have h99 : c_ ≠ 99 := fun e_ => by rw [e_] at hc_; exact absurd hc_ (by decide)
  have hE : zExt lc I_ (znwA lc c_ i_ A_) (znwI I_ c_ i_ (I_ c_ i_)) := znwA_ext hn
  have htr : ∀ l : List zW, (∀ w_ ∈ l, zok I_ w_) → l.map (ztr (znwA lc c_ i_ A_)) = l.map (ztr lc) := fun l hl => List.map_congr_left (fun w_ hw => hE.tr (hl w_ hw))
  have hAs : znwA lc c_ i_ A_ c_ i_ = A_ := by unfold znwA; rw [if_pos ⟨rfl, rfl⟩]
  have hAn : ∀ c' i', ¬ (c' = c_ ∧ i' = i_) → znwA lc c_ i_ A_ c' i' = lc c' i' := fun c' i' h_ => by unfold znwA; rw [if_neg h_]
  have hcap : cap_ c_ i_ = 0 := hr.2.2.2 c_ i_ hn
  refine ⟨fun c' i' hx => ?_, fun c1_ i1_ c2_ i2_ x1_ x2_ he => ?_, fun c1_ i1_ c2_ i2_ x1_ x2_ a1_ a2 b1 b2 he => ?_, fun c' i' hx => ?_⟩
  · by_cases hs : c' = c_ ∧ i' = i_
    · obtain ⟨rfl, rfl⟩ := hs
      refine ⟨by rw [hc_]; decide, fun _ => ?_, fun e_ => absurd hc_ e_⟩
      rw [hL, hAs, hcap]
      exact ⟨hi4, by omega, ⟨mc_, Or.inl ⟨hA, rfl, rfl⟩⟩, fun t_ ht => by cases ht⟩
    · have hx0 : I_ 99 c' i' = 1 := (znwI_99.mp hx).elim (fun e_ => absurd e_ hs) id
      obtain ⟨k1_, k2_, k3_⟩ := hr.1 c' i' hx0
      have h99' : c' ≠ 99 := fun e_ => k1_ (by rw [e_]; rfl)
      refine ⟨k1_, fun e8 => ?_, fun e8 => ?_⟩
      · obtain ⟨a1_, a2, a3, a4⟩ := k2_ e8
        have hel : (L_ c' i').map (fun t_ => Value.ref (znwA lc c_ i_ A_ (zek c') t_)) = (L_ c' i').map (fun t_ => Value.ref (lc (zek c') t_)) := List.map_congr_left (fun t_ ht => congrArg Value.ref (hE (zek c') t_ (a4 t_ ht)).2)
        rw [hAn c' i' hs, hel]
        exact ⟨a1_, a2, a3, fun t_ ht => (hE _ _ (a4 t_ ht)).1⟩
      · obtain ⟨b1, b2⟩ := k3_ e8
        rw [hAn c' i' hs, znwI_ne h99' hs, htr _ b2]
        exact ⟨b1, fun w_ hw => hE.ok (b2 w_ hw)⟩
  · by_cases s1_ : c1_ = c_ ∧ i1_ = i_
    · by_cases s2_ : c2_ = c_ ∧ i2_ = i_
      · exact ⟨by omega, by omega⟩
      · exfalso
        have x2' : I_ 99 c2_ i2_ = 1 := (znwI_99.mp x2_).elim (fun e_ => absurd e_ s2_) id
        obtain ⟨rfl, rfl⟩ := s1_
        rw [hAs, hAn _ _ s2_] at he
        exact hf.1 c2_ i2_ x2' he.symm
    · have x1' : I_ 99 c1_ i1_ = 1 := (znwI_99.mp x1_).elim (fun e_ => absurd e_ s1_) id
      by_cases s2_ : c2_ = c_ ∧ i2_ = i_
      · exfalso
        obtain ⟨rfl, rfl⟩ := s2_
        rw [hAs, hAn _ _ s1_] at he
        exact hf.1 c1_ i1_ x1' he
      · have x2' : I_ 99 c2_ i2_ = 1 := (znwI_99.mp x2_).elim (fun e_ => absurd e_ s2_) id
        rw [hAn _ _ s1_, hAn _ _ s2_] at he
        exact hr.2.1 _ _ _ _ x1' x2' he
  · by_cases s1_ : c1_ = c_ ∧ i1_ = i_
    · obtain ⟨rfl, rfl⟩ := s1_; exact absurd hcap b1
    · by_cases s2_ : c2_ = c_ ∧ i2_ = i_
      · obtain ⟨rfl, rfl⟩ := s2_; exact absurd hcap b2
      · have x1' : I_ 99 c1_ i1_ = 1 := (znwI_99.mp x1_).elim (fun e_ => absurd e_ s1_) id
        have x2' : I_ 99 c2_ i2_ = 1 := (znwI_99.mp x2_).elim (fun e_ => absurd e_ s2_) id
        exact hr.2.2.1 _ _ _ _ x1' x2' a1_ a2 b1 b2 he
  · exact hr.2.2.2 c' i' (fun e_ => hx (znwI_99.mpr (Or.inr e_)))
