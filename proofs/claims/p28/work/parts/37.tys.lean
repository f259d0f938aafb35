/-! TYPED HEAPS: lists change, garbage comes, room -/
theorem zsum_upd (f g : Nat → Nat) (i : Nat) (hne : ∀ j, j ≠ i → f j = g j) : ∀ n, (i < n → ((List.range n).map f).sum + g i = ((List.range n).map g).sum + f i) ∧ (n ≤ i → ((List.range n).map f).sum = ((List.range n).map g).sum)
  | 0 => ⟨fun h => absurd h (by omega), fun _ => rfl⟩
  | n + 1 => by
    obtain ⟨h1, h2⟩ := zsum_upd f g i hne n
    rw [List.range_succ, List.map_append, List.map_append, List.sum_append, List.sum_append]
    simp only [List.map_cons, List.map_nil, List.sum_cons, List.sum_nil, Nat.add_zero]
    refine ⟨fun h => ?_, fun h => ?_⟩
    · by_cases hn : n = i
      · subst hn
        rw [h2 (Nat.le_refl _)]; omega
      · have := h1 (by omega)
        have := hne n hn
        omega
    · rw [h2 (by omega), hne n (by omega)]
theorem zpot_upd {cap : Nat → Nat → Nat} {c i n : Nat} (hc : 20 ≤ c ∧ c < 28) (hi : i < 4) : zpot (fun c' i' => if c' = c ∧ i' = i then n else cap c' i') + (1000 - cap c i) = zpot cap + (1000 - n) := by
  obtain ⟨a, rfl⟩ : ∃ a, c = 20 + a := ⟨c - 20, by omega⟩
  unfold zpot
  have h1 := (zsum_upd (fun b => 1000 - (if 20 + a = 20 + a ∧ b = i then n else cap (20 + a) b)) (fun b => 1000 - cap (20 + a) b) i (fun j hj => by simp [hj]) 4).1 hi
  have h2 := (zsum_upd (fun a' => ((List.range 4).map fun b => 1000 - (if 20 + a' = 20 + a ∧ b = i then n else cap (20 + a') b)).sum) (fun a' => ((List.range 4).map fun b => 1000 - cap (20 + a') b).sum) a (fun j hj => by
    have : ¬ 20 + j = 20 + a := by omega
    simp only [this, false_and, if_false]) 8).1 (by omega)
  have e0 : (if 20 + a = 20 + a ∧ i = i then n else cap (20 + a) i) = n := if_pos ⟨rfl, rfl⟩
  rw [e0] at h1
  show ((List.range 8).map fun a' => ((List.range 4).map fun b => 1000 - (if 20 + a' = 20 + a ∧ b = i then n else cap (20 + a') b)).sum).sum + _ = _
  omega
theorem zLr.lt {h : zHp} {k e cap : Nat} {l : List Value} (hl : zLr h k e cap l) : k < h.length ∧ (cap ≠ 0 → e < h.length) := by
  obtain ⟨⟨fs, h1⟩, h2⟩ := hl.tag
  refine ⟨(List.getElem?_eq_some_iff.mp h1).1, fun hc => ?_⟩
  obtain ⟨fs', h3⟩ := h2 hc
  exact (List.getElem?_eq_some_iff.mp h3).1
theorem zRp.lt {lc : zAd} {I : zIn} {L : zLi} {h : zHp} {cap er : Nat → Nat → Nat} (hr : zRp lc I L h cap er) {c i : Nat} (hx : I 99 c i = 1) : lc c i < h.length := by
  obtain ⟨fs, h1⟩ := hr.tag hx
  exact (List.getElem?_eq_some_iff.mp h1).1
/-- a list changes -/
theorem zRp.lst {lc : zAd} {I : zIn} {L : zLi} {h h' : zHp} {cap er : Nat → Nat → Nat} (hr : zRp lc I L h cap er) {c i : Nat} (hx : I 99 c i = 1) (h8 : zct c = 8) {l' : List Nat} (hst : zLstep h h' (lc c i) (er c i) (cap c i) (l'.map fun t => Value.ref (lc (zek c) t))) (hel : ∀ t ∈ l', I 99 (zek c) t = 1) :
    ∃ cap' er', zRp lc I (zlup L c i l') h' cap' er' ∧ h'.length + zsz h' + 5 * zpot cap' ≤ h.length + zsz h + 5 * zpot cap := by
  obtain ⟨e', cap1, hl', hfr, hcase⟩ := hst
  obtain ⟨hi4, hcap, hl, _⟩ := (hr.1 c i hx).2.1 h8
  have hc28 := zct_list h8
  have hother : ∀ c' i', I 99 c' i' = 1 → ¬ (c' = c ∧ i' = i) → h'[lc c' i']? = h[lc c' i']? := by
    intro c' i' hx' hne
    refine hfr _ (fun e => hne (hr.2.1 _ _ _ _ hx' hx e)) ?_ (hr.lt hx')
    by_cases h0 : cap c i = 0
    · exact Or.inl h0
    · exact Or.inr (Ne.symm (hr.row hx' hx h8 h0))
  have hrow : ∀ c' i', I 99 c' i' = 1 → ¬ (c' = c ∧ i' = i) → zct c' = 8 → cap c' i' ≠ 0 → h'[er c' i']? = h[er c' i']? ∧ er c' i' < h.length := by
    intro c' i' hx' hne h8' hc0
    obtain ⟨_, _, hl2, _⟩ := (hr.1 c' i' hx').2.1 h8'
    have hlt := hl2.lt.2 hc0
    refine ⟨hfr _ (hr.row hx hx' h8' hc0) ?_ hlt, hlt⟩
    by_cases h0 : cap c i = 0
    · exact Or.inl h0
    · exact Or.inr (fun e => hne (hr.2.2.1 _ _ _ _ hx' hx h8' h8 hc0 h0 e))
  have hcap1 : cap1 ≤ 1000 := by rcases hcase with ⟨_, rfl, _⟩ | ⟨_, _, h1, _⟩ <;> omega
  refine ⟨fun c' i' => if c' = c ∧ i' = i then cap1 else cap c' i', fun c' i' => if c' = c ∧ i' = i then e' else er c' i', ⟨fun c' i' hx' => ?_, hr.2.1, fun c1 i1 c2 i2 x1 x2 a1 a2 b1 b2 he => ?_, fun c' i' hx' => ?_⟩, ?_⟩
  · by_cases hsame : c' = c ∧ i' = i
    · obtain ⟨rfl, rfl⟩ := hsame
      refine ⟨(hr.1 c' i' hx).1, fun _ => ?_, fun x => absurd h8 x⟩
      simp only [and_self, if_true, zlup]
      exact ⟨hi4, hcap1, hl', hel⟩
    · obtain ⟨k1, k2, k3⟩ := hr.1 c' i' hx'
      refine ⟨k1, fun e8 => ?_, fun e8 => ?_⟩
      · obtain ⟨a1, a2, a3, a4⟩ := k2 e8
        simp only [if_neg hsame, zlup]
        exact ⟨a1, a2, a3.frame (hother c' i' hx' hsame) (fun hc0 => (hrow c' i' hx' hsame e8 hc0).1), a4⟩
      · obtain ⟨b1, b2⟩ := k3 e8
        exact ⟨by rw [hother c' i' hx' hsame]; exact b1, b2⟩
  · by_cases s1 : c1 = c ∧ i1 = i
    · by_cases s2 : c2 = c ∧ i2 = i
      · exact ⟨by omega, by omega⟩
      · exfalso
        simp only [if_neg s2] at b2 he
        simp only [if_pos s1] at b1 he
        obtain ⟨r1, r2⟩ := hrow c2 i2 x2 s2 a2 b2
        rcases hcase with ⟨g1, g2, _⟩ | ⟨g1, _⟩
        · rw [g1] at he; rw [g2] at b1
          exact s2 (hr.2.2.1 _ _ _ _ x2 hx a2 h8 b2 b1 he.symm)
        · omega
    · by_cases s2 : c2 = c ∧ i2 = i
      · exfalso
        simp only [if_neg s1] at b1 he
        simp only [if_pos s2] at b2 he
        obtain ⟨r1, r2⟩ := hrow c1 i1 x1 s1 a1 b1
        rcases hcase with ⟨g1, g2, _⟩ | ⟨g1, _⟩
        · rw [g1] at he; rw [g2] at b2
          exact s1 (hr.2.2.1 _ _ _ _ x1 hx a1 h8 b1 b2 he)
        · omega
      · simp only [if_neg s1, if_neg s2] at b1 b2 he
        exact hr.2.2.1 _ _ _ _ x1 x2 a1 a2 b1 b2 he
  · have : ¬ (c' = c ∧ i' = i) := fun e => by obtain ⟨rfl, rfl⟩ := e; exact hx' hx
    simp only [if_neg this]
    exact hr.2.2.2 c' i' hx'
  · have hp := zpot_upd (cap := cap) (c := c) (i := i) (n := cap1) hc28 hi4
    rcases hcase with ⟨_, rfl, g3, g4⟩ | ⟨_, g2, g3, g4, g5, g6⟩
    · omega
    · omega
theorem zRp.push {lc : zAd} {I : zIn} {L : zLi} {h : zHp} {cap er : Nat → Nat → Nat} (hr : zRp lc I L h cap er) (o : zOb) : zRp lc I L (h ++ [o]) cap er := by
  have hk : ∀ q, q < h.length → (h ++ [o])[q]? = h[q]? := fun q hq => List.getElem?_append_left hq
  refine ⟨fun c i hx => ?_, hr.2⟩
  obtain ⟨k1, k2, k3⟩ := hr.1 c i hx
  refine ⟨k1, fun e8 => ?_, fun e8 => ?_⟩
  · obtain ⟨a1, a2, a3, a4⟩ := k2 e8
    exact ⟨a1, a2, a3.frame (hk _ (hr.lt hx)) (fun hc => hk _ (a3.lt.2 hc)), a4⟩
  · obtain ⟨b1, b2⟩ := k3 e8
    exact ⟨by rw [hk _ (hr.lt hx)]; exact b1, b2⟩
theorem zRep.le {lc : zAd} {I : zIn} {L : zLi} {h : zHp} {g g' : Nat} (hr : zRep lc I L h g) (hg : g ≤ g') : zRep lc I L h g' := by
  obtain ⟨cap, er, h1, h2⟩ := hr
  exact ⟨cap, er, h1, by omega⟩
theorem zRep.len {lc : zAd} {I : zIn} {L : zLi} {h : zHp} {g : Nat} (hr : zRep lc I L h g) : h.length ≤ g := by
  obtain ⟨cap, er, h1, h2⟩ := hr
  omega
theorem zRep.push {lc : zAd} {I : zIn} {L : zLi} {h : zHp} {g E : Nat} (hr : zRep lc I L h g) (hE : 9 ≤ E ∧ E < 12) : zRep lc I L (h ++ [(E, [])]) (g + 7) := by
  obtain ⟨cap, er, h1, h2⟩ := hr
  refine ⟨cap, er, h1.push _, ?_⟩
  rw [zsz_push]
  simp only [zosz, if_pos hE, List.length_append, List.length_cons, List.length_nil]
  omega
