/-! JDK's lists: get and set -/
theorem zLst.at {h : zHp} {k cap i : Nat} {l : List Value} {v : Value} (hl : zLst h k cap l) (hi : l[i]? = some v) : ∃ mc e t, h[k]? = some (8, [.int mc, .ref e, .int (Int32.ofNat l.length)]) ∧ h[e]? = some (103, l ++ t) ∧ (l ++ t)[i]? = some v ∧ cap = l.length + t.length := by
  obtain ⟨hlt, _⟩ := List.getElem?_eq_some_iff.mp hi
  obtain ⟨mc, ⟨h1, rfl, _⟩ | ⟨e, t, h1, h2, h3⟩⟩ := hl
  · simp at hi
  · exact ⟨mc, e, t, h1, h2, by rw [List.getElem?_append_left hlt]; exact hi, h3⟩
/-- elementData -/
theorem zj5 {h : zHp} {k cap i q : Nat} {l : List Value} (hl : zLst h k cap l) (hi : l[i]? = some (.ref q)) (hb : l.length < 10000) : zRn 0 5 [.ref k, .int (Int32.ofNat i)] h (.inl (some (.ref q)), h) := by
  obtain ⟨hlt, _⟩ := List.getElem?_eq_some_iff.mp hi
  obtain ⟨mc, e, t, h1, h2, h3, _⟩ := hl.at hi
  show zX' none 0 5 0 [some (.ref k), some (.int (Int32.ofNat i))] [] h _
  refine zX'.run 1 rfl ?_
  refine zX'.gf rfl h1 rfl ?_
  refine zX'.run 1 rfl ?_
  refine zX'.aa rfl h2 (zige (by omega)) (by rw [zicl (by omega)]; exact h3) ?_
  exact zX'.r rfl rfl rfl rfl
/-- get -/
theorem zj4 {h : zHp} {k cap i q : Nat} {l : List Value} (hl : zLst h k cap l) (hi : l[i]? = some (.ref q)) (hb : l.length < 10000) : zRn 2 4 [.ref k, .int (Int32.ofNat i)] h (.inl (some (.ref q)), h) := by
  obtain ⟨hlt, _⟩ := List.getElem?_eq_some_iff.mp hi
  obtain ⟨mc, e, h1⟩ := hl.sz
  show zX' none 2 4 0 [some (.ref k), some (.int (Int32.ofNat i))] [] h _
  refine zX'.run 2 rfl ?_
  refine zX'.gf rfl h1 rfl ?_
  refine zX'.c (as := [.int (Int32.ofNat i), .int (Int32.ofNat l.length)]) rfl rfl rfl rfl (by decide) rfl (by decide) rfl (zj19 (zige (by omega)) ((zilt (by omega) (by omega)).mpr hlt)) (Nat.le_refl _) ?_
  refine zX'.run 3 rfl ?_
  refine zX'.c (as := [.ref k, .int (Int32.ofNat i)]) rfl rfl rfl rfl (by decide) rfl (by decide) (by show (match h[k]? with | some (c, _) => decide (c = 8) | none => false) = true; rw [h1]; rfl) (zj5 hl hi hb) (by decide) ?_
  exact zX'.r rfl rfl rfl rfl
/-- set -/
theorem zj16 {h : zHp} {k cap i q w : Nat} {l : List Value} (hl : zLst h k cap l) (hi : l[i]? = some (.ref q)) (hb : l.length < 10000) (hw : ∃ c fs, h[w]? = some (c, fs) ∧ c < 9) : ∃ e t, (∃ mc, h[k]? = some (8, [.int mc, .ref e, .int (Int32.ofNat l.length)])) ∧ h[e]? = some (103, l ++ t) ∧ cap = l.length + t.length ∧ zRn 2 16 [.ref k, .int (Int32.ofNat i), .ref w] h (.inl (some (.ref q)), h.set e (103, l.set i (.ref w) ++ t)) := by
  obtain ⟨hlt, _⟩ := List.getElem?_eq_some_iff.mp hi
  obtain ⟨mc, e, t, h1, h2, h3, h4⟩ := hl.at hi
  obtain ⟨c, fs, hw1, hw2⟩ := hw
  refine ⟨e, t, ⟨mc, h1⟩, h2, h4, ?_⟩
  show zX' none 2 16 0 [some (.ref k), some (.int (Int32.ofNat i)), some (.ref w), none] [] h _
  refine zX'.run 2 rfl ?_
  refine zX'.gf rfl h1 rfl ?_
  refine zX'.c (as := [.int (Int32.ofNat i), .int (Int32.ofNat l.length)]) rfl rfl rfl rfl (by decide) rfl (by decide) rfl (zj19 (zige (by omega)) ((zilt (by omega) (by omega)).mpr hlt)) (Nat.le_refl _) ?_
  refine zX'.run 3 rfl ?_
  refine zX'.c (as := [.ref k, .int (Int32.ofNat i)]) rfl rfl rfl rfl (by decide) rfl (by decide) (by show (match h[k]? with | some (c, _) => decide (c = 8) | none => false) = true; rw [h1]; rfl) (zj5 hl hi hb) (by decide) ?_
  refine zX'.run 2 rfl ?_
  refine zX'.gf rfl h1 rfl ?_
  refine zX'.run 2 rfl ?_
  refine zX'.as rfl h2 (zige (by omega)) (by rw [zicl (by omega)]; simp; omega) (by unfold zafit; simp [hw1, hw2]) ?_
  refine zX'.run 1 rfl ?_
  refine zX'.r rfl rfl rfl ?_
  rw [zicl (by omega), List.set_append_left _ _ hlt]
