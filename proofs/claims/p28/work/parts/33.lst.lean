/-! JDK's lists: what a list's step does to the heap -/
/-- the list at k with the row e of cap places holds l -/
def zLr (h : zHp) (k e cap : Nat) (l : List Value) : Prop := ∃ mc : Int32, (h[k]? = some (8, [.int mc, .retAddr 1, .int 0]) ∧ l = [] ∧ cap = 0) ∨ (∃ t, h[k]? = some (8, [.int mc, .ref e, .int (Int32.ofNat l.length)]) ∧ h[e]? = some (103, l ++ t) ∧ cap = l.length + t.length ∧ 0 < cap)
theorem zLr.lst {h : zHp} {k e cap : Nat} {l : List Value} (hl : zLr h k e cap l) : zLst h k cap l := by
  obtain ⟨mc, ⟨h1, h2, h3⟩ | ⟨t, h1, h2, h3, _⟩⟩ := hl
  · exact ⟨mc, Or.inl ⟨h1, h2, h3⟩⟩
  · exact ⟨mc, Or.inr ⟨e, t, h1, h2, h3⟩⟩
def zLstep (h h' : zHp) (k e cap : Nat) (l' : List Value) : Prop := ∃ e' cap', zLr h' k e' cap' l' ∧ (∀ q, q ≠ k → (cap = 0 ∨ q ≠ e) → q < h.length → h'[q]? = h[q]?) ∧ ((e' = e ∧ cap' = cap ∧ h'.length = h.length ∧ zsz h' = zsz h) ∨ (e' = h.length ∧ cap < cap' ∧ cap' ≤ 1000 ∧ h'.length = h.length + 1 ∧ zsz h' = zsz h + cap' ∧ cap' + 1 ≤ 5 * (cap' - cap)))
theorem zisucc (n : Nat) : Int32.ofNat n + 1 = Int32.ofNat (n + 1) := (Int32.ofNat_add n 1).symm
theorem zishr : ∀ n, n < 700 → Int32.ofNat n >>> ((1 : Int32) &&& 31) = Int32.ofNat (n / 2) := by decide +kernel
theorem zisub1 : ∀ n, n < 700 → Int32.ofNat (n + 1) - Int32.ofNat n = Int32.ofNat 1 := by decide +kernel
theorem zine {a b : Nat} (ha : a < 100000) (hb : b < 100000) (h : a ≠ b) : Int32.ofNat a ≠ Int32.ofNat b := fun e => h (by have := zicl ha; rw [e, zicl hb] at this; exact this.symm)
/-- grow(int) from the empty row -/
theorem zj9e {h : zHp} {k : Nat} {mc : Int32} (hk : h[k]? = some (8, [.int mc, .retAddr 1, .int 0])) (hl : h.length < 1000000) : zRn 2 9 [.ref k, .int (Int32.ofNat 1)] h (.inl (some (.ref h.length)), (h ++ [(103, List.replicate 10 Value.null)]).set k (8, [.int mc, .ref h.length, .int 0])) := by
  show zX' none 2 9 0 [some (.ref k), some (.int (Int32.ofNat 1)), none, none] [] h _
  refine zX'.run 1 rfl ?_
  refine zX'.gf rfl hk rfl ?_
  refine zX'.al1 rfl ?_
  refine zX'.run 2 rfl ?_
  refine zX'.br (t := false) rfl rfl rfl (fun q => by cases q) (fun _ => ?_)
  refine zX'.run 1 rfl ?_
  refine zX'.gf rfl hk rfl ?_
  refine zX'.gs rfl ?_
  refine zX'.br (t := true) rfl rfl (show zbr _ (Value.retAddr 1 :: Value.retAddr 1 :: []) = some (true, []) by simp [zbr, zisr]) (fun _ => ?_) (fun q => by cases q)
  refine zX'.run 3 rfl ?_
  refine zX'.max rfl (by simp) ?_
  rw [show (if (10 : Int32) < Int32.ofNat 1 then Int32.ofNat 1 else (10 : Int32)) = Int32.ofNat 10 by decide]
  refine zX'.na rfl hl (by decide) ?_
  refine zX'.run 1 rfl ?_
  refine zX'.pf rfl (zget_push hk) (by show 1 < 3; decide) rfl ?_
  exact zX'.r rfl rfl rfl rfl
/-- grow(int) from a full row -/
theorem zj9f {h : zHp} {k e : Nat} {mc : Int32} {u : Value} {s : List Value} (hk : h[k]? = some (8, [.int mc, .ref e, u])) (he : h[e]? = some (103, s)) (h0 : 0 < s.length) (hs : s.length < 600) (hl : h.length < 1000000) : zRn 2 9 [.ref k, .int (Int32.ofNat (s.length + 1))] h (.inl (some (.ref h.length)), (h ++ [(103, s ++ List.replicate (max 1 (s.length / 2)) Value.null)]).set k (8, [.int mc, .ref h.length, u])) := by
  show zX' none 2 9 0 [some (.ref k), some (.int (Int32.ofNat (s.length + 1))), none, none] [] h _
  refine zX'.run 1 rfl ?_
  refine zX'.gf rfl hk rfl ?_
  refine zX'.al rfl he (by decide) ?_
  refine zX'.run 2 rfl ?_
  refine zX'.br (t := true) rfl rfl (congrArg some (Prod.ext (decide_eq_true ((zilt (a := 0) (by omega) (by omega)).mpr h0)) rfl)) (fun _ => ?_) (fun q => by cases q)
  refine zX'.run 7 rfl ?_
  show zX' none 2 9 27 _ [.int (Int32.ofNat s.length >>> ((1 : Int32) &&& 31)), .int (Int32.ofNat (s.length + 1) - Int32.ofNat s.length), .int (Int32.ofNat s.length)] _ _
  rw [zishr _ (by omega), zisub1 _ (by omega)]
  refine zX'.c (as := [.int (Int32.ofNat s.length), .int (Int32.ofNat 1), .int (Int32.ofNat (s.length / 2))]) rfl rfl rfl rfl (by decide) rfl (by decide) rfl (zj20 (by omega) (by omega) (by omega)) (by decide) ?_
  refine zX'.run 3 rfl ?_
  refine zX'.gf rfl hk rfl ?_
  refine zX'.run 1 rfl ?_
  refine zX'.c (as := [.ref e, .int (Int32.ofNat (s.length + max 1 (s.length / 2)))]) rfl rfl rfl rfl (by simp) rfl (by decide) rfl (zj17 he (by omega) (by omega) (by omega) hl) (by decide) ?_
  refine zX'.run 1 rfl ?_
  refine zX'.pf rfl (zget_push hk) (by show 1 < 3; decide) rfl ?_
  refine zX'.r rfl rfl rfl ?_
  rw [Nat.add_sub_cancel_left]; rfl
/-- grow() of a full list -/
theorem zj8 {h : zHp} {k e : Nat} {l : List Value} (hls : zLr h k e l.length l) (hb : l.length < 600) (hl : h.length < 1000000) : ∃ (mc : Int32) (u : Value) (t' : List Value), h[k]? = some (8, [.int mc, u, .int (Int32.ofNat l.length)]) ∧ 0 < t'.length ∧ l.length + t'.length + 1 ≤ 5 * t'.length ∧ l.length + t'.length ≤ 1000 ∧
    zRn 3 8 [.ref k] h (.inl (some (.ref h.length)), (h ++ [(103, l ++ t')]).set k (8, [.int mc, .ref h.length, .int (Int32.ofNat l.length)])) := by
  obtain ⟨mc, ⟨h1, rfl, h3⟩ | ⟨t, h1, h2, h3, h4⟩⟩ := hls
  · refine ⟨mc, _, List.replicate 10 Value.null, h1, by simp, by simp, by simp, ?_⟩
    show zX' none 3 8 0 [some (.ref k)] [] h _
    refine zX'.run 2 rfl ?_
    refine zX'.gf rfl h1 rfl ?_
    refine zX'.run 2 rfl ?_
    refine zX'.c (as := [.ref k, .int (Int32.ofNat 1)]) rfl rfl rfl rfl (by decide) rfl (by decide) (by show (match h[k]? with | some (c, _) => decide (c = 8) | none => false) = true; rw [h1]; rfl) (zj9e h1 hl) (by decide) ?_
    exact zX'.r rfl rfl rfl rfl
  · have ht : t = [] := List.length_eq_zero_iff.mp (by omega)
    subst ht
    rw [List.append_nil] at h2
    refine ⟨mc, _, List.replicate (max 1 (l.length / 2)) Value.null, h1, by simp; omega, by simp; omega, by simp; omega, ?_⟩
    show zX' none 3 8 0 [some (.ref k)] [] h _
    refine zX'.run 2 rfl ?_
    refine zX'.gf rfl h1 rfl ?_
    refine zX'.run 2 rfl ?_
    refine zX'.c (as := [.ref k, .int (Int32.ofNat (l.length + 1))]) rfl rfl rfl (by rw [← zisucc]; rfl) (by decide) rfl (by decide) (by show (match h[k]? with | some (c, _) => decide (c = 8) | none => false) = true; rw [h1]; rfl) (zj9f h1 h2 (by omega) hb hl) (by decide) ?_
    exact zX'.r rfl rfl rfl rfl
/-- what may stand in a list -/
def zEl (h : zHp) (v : Value) : Prop := ∃ q c fs, v = .ref q ∧ h[q]? = some (c, fs) ∧ c < 9
theorem zEl.fit {h : zHp} {v : Value} (hv : zEl h v) : zafit 103 h v = true := by
  obtain ⟨q, c, fs, rfl, hq, hc⟩ := hv
  unfold zafit
  simp [hq, hc]
theorem zEl.push {h : zHp} {v : Value} {o : zOb} (hv : zEl h v) : zEl (h ++ [o]) v := by
  obtain ⟨q, c, fs, rfl, hq, hc⟩ := hv
  exact ⟨q, c, fs, rfl, zget_push hq, hc⟩
theorem zEl.set {h : zHp} {v : Value} {k c' : Nat} {fs fs' : List Value} (hv : zEl h v) (hk : h[k]? = some (c', fs)) : zEl (h.set k (c', fs')) v := by
  obtain ⟨q, c, fs1, rfl, hq, hc⟩ := hv
  by_cases hqk : k = q
  · subst hqk
    rw [hk] at hq; cases hq
    exact ⟨k, c', fs', rfl, zget_set_self hk, hc⟩
  · exact ⟨q, c, fs1, rfl, by rw [zget_set_ne hqk]; exact hq, hc⟩
theorem zsz_set8 {h : zHp} {k : Nat} {a b c a' b' c' : Value} (hk : h[k]? = some (8, [a, b, c])) : zsz (h.set k (8, [a', b', c'])) = zsz h := zsz_set hk (by simp [zosz])
theorem zsz_row {h : zHp} {e : Nat} {s s' : List Value} (he : h[e]? = some (103, s)) (hl : s'.length = s.length) : zsz (h.set e (103, s')) = zsz h := zsz_set he (by simp [zosz, hl])
theorem zsz_new {h : zHp} {s : List Value} : zsz (h ++ [(103, s)]) = zsz h + s.length := by rw [zsz_push]; simp [zosz]
theorem zset_at {l t : List Value} {u v : Value} : (l ++ u :: t).set l.length v = (l ++ [v]) ++ t := by
  rw [List.set_append_right _ _ (Nat.le_refl _), Nat.sub_self]; simp
/-- add(E, Object[], int) -/
theorem zj7 {h : zHp} {k e cap : Nat} {l : List Value} {v r : Value} (hls : zLr h k e cap l) (hb : l.length < 600) (hcap : cap ≤ 1000) (hl : h.length < 1000000) (hv : zEl h v) (hr0 : cap = 0 → r = .retAddr 1) (hr1 : 0 < cap → r = .ref e) : ∃ h', zRn 4 7 [.ref k, v, r, .int (Int32.ofNat l.length)] h (.inl none, h') ∧ zLstep h h' k e cap (l ++ [v]) := by
  obtain ⟨q, cq, fq, rfl, hvq, hcq⟩ := hv
  have hv : zEl h (.ref q) := ⟨q, cq, fq, rfl, hvq, hcq⟩
  by_cases hfull : cap = l.length
  · subst hfull
    obtain ⟨mc, u, t', hk, ht, h5, h6, hg⟩ := zj8 hls hb hl
    obtain ⟨hklt, _⟩ := List.getElem?_eq_some_iff.mp hk
    obtain ⟨v0, t2, rfl⟩ : ∃ v0 t2, t' = v0 :: t2 := by
      cases t' with
      | nil => simp at ht
      | cons a b => exact ⟨a, b, rfl⟩
    have hkne : k ≠ h.length := by omega
    have hrow : ((h ++ [(103, l ++ v0 :: t2)]).set k (8, [.int mc, .ref h.length, .int (Int32.ofNat l.length)]))[h.length]? = some (103, l ++ v0 :: t2) := by rw [zget_set_ne hkne]; exact zget_last
    have hk2 : ((h ++ [(103, l ++ v0 :: t2)]).set k (8, [.int mc, .ref h.length, .int (Int32.ofNat l.length)]))[k]? = some (8, [.int mc, .ref h.length, .int (Int32.ofNat l.length)]) := zget_set_self (zget_push hk)
    refine ⟨(((h ++ [(103, l ++ v0 :: t2)]).set k (8, [.int mc, .ref h.length, .int (Int32.ofNat l.length)])).set h.length (103, (l ++ [Value.ref q]) ++ t2)).set k (8, [.int mc, .ref h.length, .int (Int32.ofNat (l ++ [Value.ref q]).length)]), ?_, ?_⟩
    · show zX' none 4 7 0 [some (.ref k), some (.ref q), some r, some (.int (Int32.ofNat l.length))] [] h _
      have hcont : ∀ w, zX' none 4 7 11 [some (.ref k), some (.ref q), some (.ref h.length), some (.int (Int32.ofNat l.length))] [] ((h ++ [(103, l ++ v0 :: t2)]).set k (8, [.int mc, .ref h.length, .int (Int32.ofNat l.length)])) w ∨ True := fun _ => Or.inr trivial
      have main : zX' none 4 7 6 [some (.ref k), some (.ref q), some r, some (.int (Int32.ofNat l.length))] [] h (.inl none, (((h ++ [(103, l ++ v0 :: t2)]).set k (8, [.int mc, .ref h.length, .int (Int32.ofNat l.length)])).set h.length (103, (l ++ [Value.ref q]) ++ t2)).set k (8, [.int mc, .ref h.length, .int (Int32.ofNat (l ++ [Value.ref q]).length)])) := by
        refine zX'.run 1 rfl ?_
        refine zX'.c (as := [.ref k]) rfl rfl rfl rfl (by decide) rfl (by decide) (by show (match h[k]? with | some (c, _) => decide (c = 8) | none => false) = true; rw [hk]; rfl) hg (by decide) ?_
        refine zX'.run 4 rfl ?_
        refine zX'.as rfl hrow (zige (by omega)) (by rw [zicl (by omega)]; simp) ((zEl.push hv).set (zget_push hk)).fit ?_
        rw [zicl (by omega), zset_at]
        refine zX'.run 4 rfl ?_
        refine zX'.pf rfl (by rw [zget_set_ne (Ne.symm hkne)]; exact hk2) (by show 2 < 3; decide) rfl ?_
        refine zX'.r rfl rfl rfl ?_
        show _ = (_, _)
        rw [show (l ++ [Value.ref q]).length = l.length + 1 by simp, ← zisucc]; rfl
      by_cases h0 : l.length = 0
      · rw [hr0 h0]
        rw [hr0 h0] at main
        refine zX'.run 2 rfl ?_
        refine zX'.al1 rfl ?_
        refine zX'.br (t := false) rfl rfl (congrArg some (Prod.ext (by show (!decide _) = false; rw [h0]; rfl) rfl)) (fun q => by cases q) (fun _ => main)
      · obtain ⟨mc2, ⟨_, a2, _⟩ | ⟨t, b1, b2, b3, b4⟩⟩ := hls
        · rw [a2] at h0; simp at h0
        rw [hr1 (by omega)]
        rw [hr1 (by omega)] at main
        have : t = [] := List.length_eq_zero_iff.mp (by omega)
        subst this
        refine zX'.run 2 rfl ?_
        refine zX'.al rfl b2 (by decide) ?_
        refine zX'.br (t := false) rfl rfl (congrArg some (Prod.ext (by show (!decide _) = false; rw [List.append_nil]; simp) rfl)) (fun q => by cases q) (fun _ => main)
    · refine ⟨h.length, (l ++ v0 :: t2).length, ⟨mc, Or.inr ⟨t2, zget_set_self (by rw [zget_set_ne (Ne.symm hkne)]; exact hk2), ?_, by simp; omega, by simp; omega⟩⟩, ?_, Or.inr ⟨rfl, by simp, by simp at *; omega, by simp, ?_, by simp at *; omega⟩⟩
      · rw [zget_set_ne hkne]; exact zget_set_self hrow
      · intro q1 n1 _ n3
        rw [zget_set_ne (Ne.symm n1), zget_set_ne (by omega), zget_set_ne (Ne.symm n1), List.getElem?_append_left n3]
      · rw [zsz_set8 (by rw [zget_set_ne (Ne.symm hkne)]; exact hk2), zsz_row hrow (by simp), zsz_set8 (zget_push hk), zsz_new]
  · obtain ⟨mc, ⟨h1, h2, h3⟩ | ⟨t, h1, h2, h3, h4⟩⟩ := hls
    · rw [h2] at hfull; simp at hfull; exact absurd h3 hfull
    obtain ⟨v0, t2, rfl⟩ : ∃ v0 t2, t = v0 :: t2 := by
      cases t with
      | nil => simp at h3; exact absurd h3 hfull
      | cons a b => exact ⟨a, b, rfl⟩
    have hke : k ≠ e := fun x => by rw [x, h2] at h1; cases h1
    have hrow : (h.set e (103, (l ++ [Value.ref q]) ++ t2))[e]? = some (103, (l ++ [Value.ref q]) ++ t2) := zget_set_self h2
    have hk2 : (h.set e (103, (l ++ [Value.ref q]) ++ t2))[k]? = some (8, [.int mc, .ref e, .int (Int32.ofNat l.length)]) := by rw [zget_set_ne (Ne.symm hke)]; exact h1
    rw [hr1 h4]
    refine ⟨(h.set e (103, (l ++ [Value.ref q]) ++ t2)).set k (8, [.int mc, .ref e, .int (Int32.ofNat (l ++ [Value.ref q]).length)]), ?_, e, cap, ⟨mc, Or.inr ⟨t2, zget_set_self hk2, by rw [zget_set_ne hke]; exact hrow, by simp at *; omega, h4⟩⟩, ?_, Or.inl ⟨rfl, rfl, by simp, ?_⟩⟩
    · show zX' none 4 7 0 [some (.ref k), some (.ref q), some (.ref e), some (.int (Int32.ofNat l.length))] [] h _
      refine zX'.run 2 rfl ?_
      refine zX'.al rfl h2 (by decide) ?_
      refine zX'.br (t := true) rfl rfl (congrArg some (Prod.ext (by show (!decide (Int32.ofNat l.length = Int32.ofNat (l ++ v0 :: t2).length)) = true; rw [decide_eq_false (zine (by omega) (by simp at *; omega) (by simp))]; rfl) rfl)) (fun _ => ?_) (fun q => by cases q)
      refine zX'.run 3 rfl ?_
      refine zX'.as rfl h2 (zige (by omega)) (by rw [zicl (by omega)]; simp) hv.fit ?_
      rw [zicl (by omega), zset_at]
      refine zX'.run 4 rfl ?_
      refine zX'.pf rfl hk2 (by show 2 < 3; decide) rfl ?_
      refine zX'.r rfl rfl rfl ?_
      show _ = (_, _)
      rw [show (l ++ [Value.ref q]).length = l.length + 1 by simp, ← zisucc]; rfl
    · intro q1 n1 n2 n3
      rcases n2 with n2 | n2
      · omega
      rw [zget_set_ne (Ne.symm n1), zget_set_ne (Ne.symm n2)]
    · rw [zsz_set8 hk2, zsz_row h2 (by simp)]
/-- add(E) -/
theorem zLr.up {h : zHp} {k e cap : Nat} {l : List Value} (hls : zLr h k e cap l) : ∃ (mc : Int32) (r : Value), h[k]? = some (8, [.int mc, r, .int (Int32.ofNat l.length)]) ∧ (cap = 0 → r = .retAddr 1) ∧ (0 < cap → r = .ref e) ∧ ∀ mc', zLr (h.set k (8, [.int mc', r, .int (Int32.ofNat l.length)])) k e cap l := by
  obtain ⟨mc, ⟨h1, rfl, h3⟩ | ⟨t, h1, h2, h3, h4⟩⟩ := hls
  · exact ⟨mc, _, h1, fun _ => rfl, fun x => by omega, fun mc' => ⟨mc', Or.inl ⟨zget_set_self h1, rfl, h3⟩⟩⟩
  · have hke : k ≠ e := fun x => by rw [x, h2] at h1; cases h1
    exact ⟨mc, _, h1, fun x => by omega, fun _ => rfl, fun mc' => ⟨mc', Or.inr ⟨t, zget_set_self h1, by rw [zget_set_ne hke]; exact h2, h3, h4⟩⟩⟩
theorem zLstep.pre {h h' : zHp} {k e cap : Nat} {l' : List Value} {a b c a' b' c' : Value} (hk : h[k]? = some (8, [a, b, c])) (hs : zLstep (h.set k (8, [a', b', c'])) h' k e cap l') : zLstep h h' k e cap l' := by
  obtain ⟨e', cap', h1, h2, h3⟩ := hs
  refine ⟨e', cap', h1, fun q n1 n2 n3 => ?_, ?_⟩
  · rw [h2 q n1 n2 (by simpa using n3), zget_set_ne (Ne.symm n1)]
  · rw [List.length_set, zsz_set8 hk] at h3
    exact h3
theorem zj6 {h : zHp} {k e cap : Nat} {l : List Value} {v : Value} (hls : zLr h k e cap l) (hb : l.length < 600) (hcap : cap ≤ 1000) (hl : h.length < 1000000) (hv : zEl h v) : ∃ h', zRn 5 6 [.ref k, v] h (.inl (some (.int 1)), h') ∧ zLstep h h' k e cap (l ++ [v]) := by
  obtain ⟨mc, r, hk, hr0, hr1, hup⟩ := hls.up
  have hv2 : zEl (h.set k (8, [.int (mc + 1), r, .int (Int32.ofNat l.length)])) v := hv.set hk
  obtain ⟨h', hg, hst⟩ := zj7 (hup (mc + 1)) hb hcap (by simpa using hl) hv2 hr0 hr1
  refine ⟨h', ?_, hst.pre hk⟩
  obtain ⟨q, cq, fq, rfl, hvq, hcq⟩ := hv
  have hr : r = .retAddr 1 ∨ r = .ref e := by rcases Nat.eq_zero_or_pos cap with x | x; exact Or.inl (hr0 x); exact Or.inr (hr1 x)
  show zX' none 5 6 0 [some (.ref k), some (.ref q)] [] h _
  refine zX'.run 2 rfl ?_
  refine zX'.gf rfl hk rfl ?_
  refine zX'.run 2 rfl ?_
  refine zX'.pf rfl hk (by show 0 < 3; decide) rfl ?_
  refine zX'.run 3 rfl ?_
  refine zX'.gf rfl (zget_set_self hk) rfl ?_
  refine zX'.run 1 rfl ?_
  refine zX'.gf rfl (zget_set_self hk) rfl ?_
  refine zX'.c (as := [.ref k, .ref q, r, .int (Int32.ofNat l.length)]) rfl rfl rfl rfl (by decide) (by rcases hr with rfl | rfl <;> rfl) (by decide) (by show (match (List.set h k _)[k]? with | some (c, _) => decide (c = 8) | none => false) = true; rw [zget_set_self hk]; rfl) hg (by decide) ?_
  refine zX'.run 1 rfl ?_
  exact zX'.r rfl rfl rfl rfl
