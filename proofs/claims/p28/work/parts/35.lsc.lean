/-! JDK's lists: remove, clear -/
theorem zj13 {h : zHp} {k e cap i q : Nat} {l : List Value} (hls : zLr h k e cap l) (hi : l[i]? = some (.ref q)) (hb : l.length ≤ 1000) (hcap : cap ≤ 1000) : ∃ h', zRn 2 13 [.ref k, .int (Int32.ofNat i)] h (.inl (some (.ref q)), h') ∧ zLstep h h' k e cap (l.eraseIdx i) := by
  obtain ⟨hlt, hq⟩ := List.getElem?_eq_some_iff.mp hi
  obtain ⟨mc, ⟨_, h2, _⟩ | ⟨t, h1, h2, h3, h4⟩⟩ := hls
  · rw [h2] at hlt; simp at hlt
  obtain ⟨a, b, hab, ha⟩ : ∃ a b, l = a ++ .ref q :: b ∧ a.length = i := ⟨l.take i, l.drop (i + 1), by rw [← hq, ← List.drop_eq_getElem_cons hlt, List.take_append_drop], by simp; omega⟩
  subst hab
  subst ha
  obtain ⟨t', ht', hr⟩ := zj14 h1 h2 (by rw [List.length_append]; omega)
  have hke : k ≠ e := fun x => by rw [x, h2] at h1; cases h1
  have hera : (a ++ Value.ref q :: b).eraseIdx a.length = a ++ b := by rw [List.eraseIdx_append_of_length_le (Nat.le_refl _), Nat.sub_self]; rfl
  have hn : (a ++ Value.ref q :: b).length = (a ++ b).length + 1 := by simp; omega
  refine ⟨(h.set k (8, [.int (mc + 1), .ref e, .int (Int32.ofNat (a ++ b).length)])).set e (103, (a ++ b) ++ t'), ?_, e, cap, ⟨mc + 1, Or.inr ⟨t', ?_, ?_, ?_, h4⟩⟩, fun q1 n1 n2 n3 => ?_, Or.inl ⟨rfl, rfl, by simp, ?_⟩⟩
  · show zX' none 2 13 0 [some (.ref k), some (.int (Int32.ofNat a.length)), none, none] [] h _
    refine zX'.run 2 rfl ?_
    refine zX'.gf rfl h1 rfl ?_
    refine zX'.c (as := [.int (Int32.ofNat a.length), .int (Int32.ofNat (a ++ Value.ref q :: b).length)]) rfl rfl rfl rfl (by decide) rfl (by decide) rfl (zj19 (zige (by omega)) ((zilt (by omega) (by omega)).mpr hlt)) (by decide) ?_
    refine zX'.run 2 rfl ?_
    refine zX'.gf rfl h1 rfl ?_
    refine zX'.run 3 rfl ?_
    refine zX'.aa rfl h2 (zige (by omega)) (by rw [zicl (by omega), List.getElem?_append_left hlt]; exact hi) ?_
    refine zX'.run 4 rfl ?_
    refine zX'.c (as := [.ref k, .ref e, .int (Int32.ofNat a.length)]) rfl rfl rfl rfl (by decide) rfl (by decide) (by show (match h[k]? with | some (c, _) => decide (c = 8) | none => false) = true; rw [h1]; rfl) hr (by decide) ?_
    refine zX'.run 1 rfl ?_
    exact zX'.r rfl rfl rfl rfl
  · rw [hera, zget_set_ne (Ne.symm hke)]; exact zget_set_self h1
  · rw [hera]; exact zget_set_self (by rw [zget_set_ne hke]; exact h2)
  · rw [hera, ht']; omega
  · rcases n2 with n2 | n2
    · omega
    rw [zget_set_ne (Ne.symm n2), zget_set_ne (Ne.symm n1)]
  · rw [zsz_row (by rw [zget_set_ne hke]; exact h2) (by simp [ht']; omega), zsz_set8 h1]
theorem zj12l {k e n : Nat} : ∀ (j i : Nat) (s : List Value) (H : zHp), i + j = n → n ≤ s.length → s.length ≤ 1000 → H[e]? = some (103, s) → ∃ s', s'.length = s.length ∧ ∀ x, zX' none 0 12 42 [some (.ref k), some (.ref e), some (.int (Int32.ofNat n)), some (.int (Int32.ofNat n))] [] (H.set e (103, s')) x → zX' none 0 12 27 [some (.ref k), some (.ref e), some (.int (Int32.ofNat n)), some (.int (Int32.ofNat i))] [] H x
  | 0, i, s, H, hij, hn, hs, he => by
    have : i = n := by omega
    subst this
    refine ⟨s, rfl, fun x hx => ?_⟩
    refine zX'.run 2 rfl ?_
    refine zX'.br (t := true) rfl rfl (congrArg some (Prod.ext (decide_eq_true (Int32.le_refl _)) rfl)) (fun _ => ?_) (fun q => by cases q)
    rw [zset_same he] at hx
    exact hx
  | j + 1, i, s, H, hij, hn, hs, he => by
    obtain ⟨s', hs', hx'⟩ := zj12l (k := k) (e := e) (n := n) j (i + 1) (s.set i .null) (H.set e (103, s.set i .null)) (by omega) (by simpa using hn) (by simpa using hs) (zget_set_self he)
    refine ⟨s', by simpa using hs', fun x hx => ?_⟩
    refine zX'.run 2 rfl ?_
    refine zX'.br (t := false) rfl rfl (congrArg some (Prod.ext (decide_eq_false (fun y => absurd ((zile (by omega) (by omega)).mp y) (by omega))) rfl)) (fun q => by cases q) (fun _ => ?_)
    refine zX'.run 3 rfl ?_
    refine zX'.as rfl he (zige (by omega)) (by rw [zicl (by omega)]; omega) rfl ?_
    rw [zicl (by omega)]
    refine zX'.run 2 rfl ?_
    show zX' none 0 12 27 [some (.ref k), some (.ref e), some (.int (Int32.ofNat n)), some (.int (Int32.ofNat i + 1))] [] _ _
    rw [zisucc]
    refine hx' x ?_
    rw [List.set_set]
    exact hx
theorem zj12 {h : zHp} {k e cap : Nat} {l : List Value} (hls : zLr h k e cap l) (hb : l.length ≤ 1000) (hcap : cap ≤ 1000) : ∃ h', zRn 0 12 [.ref k] h (.inl none, h') ∧ zLstep h h' k e cap [] := by
  obtain ⟨mc, ⟨h1, rfl, h3⟩ | ⟨t, h1, h2, h3, h4⟩⟩ := hls
  · refine ⟨h.set k (8, [.int (mc + 1), .retAddr 1, .int 0]), ?_, e, cap, ⟨mc + 1, Or.inl ⟨zget_set_self h1, rfl, h3⟩⟩, fun q n1 n2 n3 => zget_set_ne (Ne.symm n1), Or.inl ⟨rfl, rfl, by simp, zsz_set8 h1⟩⟩
    show zX' none 0 12 0 [some (.ref k), none, none, none] [] h _
    refine zX'.run 2 rfl ?_
    refine zX'.gf rfl h1 rfl ?_
    refine zX'.run 2 rfl ?_
    refine zX'.pf rfl h1 (by show 0 < 3; decide) rfl ?_
    refine zX'.run 1 rfl ?_
    refine zX'.gf rfl (zget_set_self h1) rfl ?_
    refine zX'.run 2 rfl ?_
    refine zX'.gf rfl (zget_set_self h1) rfl ?_
    refine zX'.run 4 rfl ?_
    refine zX'.pf rfl (zget_set_self h1) (by show 2 < 3; decide) rfl ?_
    refine zX'.run 3 rfl ?_
    refine zX'.br (t := true) rfl rfl rfl (fun _ => ?_) (fun q => by cases q)
    refine zX'.r rfl rfl rfl ?_
    rw [List.set_set]; rfl
  · have hke : k ≠ e := fun x => by rw [x, h2] at h1; cases h1
    suffices hS : ∃ s', s'.length = (l ++ t).length ∧ zRn 0 12 [.ref k] h (.inl none, (h.set k (8, [.int (mc + 1), .ref e, .int 0])).set e (103, s')) by
      obtain ⟨s', hs', hr⟩ := hS
      refine ⟨_, hr, e, cap, ⟨mc + 1, Or.inr ⟨s', ?_, ?_, ?_, h4⟩⟩, fun q1 n1 n2 n3 => ?_, Or.inl ⟨rfl, rfl, by simp, ?_⟩⟩
      · rw [zget_set_ne (Ne.symm hke)]; exact zget_set_self h1
      · exact zget_set_self (by rw [zget_set_ne hke]; exact h2)
      · rw [hs', List.length_append, h3]; simp
      · rcases n2 with n2 | n2
        · omega
        rw [zget_set_ne (Ne.symm n2), zget_set_ne (Ne.symm n1)]
      · rw [zsz_row (by rw [zget_set_ne hke]; exact h2) hs', zsz_set8 h1]
    obtain ⟨s', hs', hx'⟩ := zj12l (k := k) (e := e) (n := l.length) l.length 0 (l ++ t) (h.set k (8, [.int (mc + 1), .ref e, .int 0])) (by omega) (by simp) (by rw [List.length_append]; omega) (by rw [zget_set_ne hke]; exact h2)
    refine ⟨s', hs', ?_⟩
    show zX' none 0 12 0 [some (.ref k), none, none, none] [] h _
    refine zX'.run 2 rfl ?_
    refine zX'.gf rfl h1 rfl ?_
    refine zX'.run 2 rfl ?_
    refine zX'.pf rfl h1 (by show 0 < 3; decide) rfl ?_
    refine zX'.run 1 rfl ?_
    refine zX'.gf rfl (zget_set_self h1) rfl ?_
    refine zX'.run 2 rfl ?_
    refine zX'.gf rfl (zget_set_self h1) rfl ?_
    refine zX'.run 4 rfl ?_
    refine zX'.pf rfl (zget_set_self h1) (by show 2 < 3; decide) rfl ?_
    refine zX'.run 1 rfl ?_
    rw [List.set_set]
    refine hx' _ ?_
    exact zX'.r rfl rfl rfl rfl
