/-! JDK's lists: add at a place, remove, clear, set -/
theorem zisubn {a b : Nat} (h : b ≤ a) : Int32.ofNat a - Int32.ofNat b = Int32.ofNat (a - b) := by
  obtain ⟨c, rfl⟩ : ∃ c, a = c + b := ⟨a - b, by omega⟩
  rw [Int32.ofNat_add, Int32.add_sub_cancel, Nat.add_sub_cancel]
theorem zins_cpy {l t : List Value} {v0 v : Value} {i : Nat} (hi : i ≤ l.length) : (zcpy (l ++ v0 :: t) (l ++ v0 :: t) i (i + 1) (l.length - i)).set i v = (l.take i ++ v :: l.drop i) ++ t := by
  obtain ⟨a, b, rfl, rfl⟩ : ∃ a b, l = a ++ b ∧ i = a.length := ⟨l.take i, l.drop i, by simp, by simp; omega⟩
  obtain ⟨x, hx⟩ : ∃ x, (b ++ v0 :: t).take 1 = [x] := by cases b with
    | nil => exact ⟨v0, rfl⟩
    | cons y r => exact ⟨y, rfl⟩
  have h1 : ((a ++ b) ++ v0 :: t).take (a.length + 1) = a ++ [x] := by rw [List.append_assoc, List.take_append, List.take_of_length_le (by omega), Nat.add_sub_cancel_left, hx]
  have h2 : ((a ++ b) ++ v0 :: t).drop a.length = b ++ v0 :: t := by rw [List.append_assoc, List.drop_left]
  have h3 : ((a ++ b) ++ v0 :: t).drop (a.length + 1 + ((a ++ b).length - a.length)) = t := by
    rw [show a.length + 1 + ((a ++ b).length - a.length) = (a ++ b).length + 1 by simp; omega, List.drop_append, List.drop_of_length_le (by omega), Nat.add_sub_cancel_left]; rfl
  unfold zcpy
  rw [h1, h2, h3, show (a ++ b).length - a.length = b.length by simp, List.take_left, List.take_left, List.drop_left, List.append_assoc, List.set_append_right _ _ (Nat.le_refl _), Nat.sub_self]
  simp
theorem zrem_cpy {a b t : List Value} {x : Value} : ∃ t', t'.length = t.length + 1 ∧ (zcpy (a ++ x :: b ++ t) (a ++ x :: b ++ t) (a.length + 1) a.length b.length).set (a.length + b.length) .null = (a ++ b) ++ t' := by
  refine ⟨.null :: t, by simp, ?_⟩
  obtain ⟨y, hy⟩ : ∃ y, (x :: b).drop b.length = [y] := by
    have : ((x :: b).drop b.length).length = 1 := by simp
    exact List.length_eq_one_iff.mp this
  have h1 : (a ++ x :: b ++ t).take a.length = a := by rw [List.append_assoc, List.take_left]
  have h2 : (a ++ x :: b ++ t).drop (a.length + 1) = b ++ t := by
    rw [show a ++ x :: b ++ t = (a ++ [x]) ++ (b ++ t) by simp, show a.length + 1 = (a ++ [x]).length by simp, List.drop_left]
  have h3 : (a ++ x :: b ++ t).drop (a.length + b.length) = y :: t := by
    rw [List.append_assoc, List.drop_append, List.drop_of_length_le (by omega), Nat.add_sub_cancel_left, List.drop_append, hy, show b.length - (x :: b).length = 0 by simp]; rfl
  unfold zcpy
  rw [h1, h2, h3, List.take_left, ← List.append_assoc, ← List.length_append, zset_at]
  simp
/-- set -/
theorem zj16s {h : zHp} {k e cap i q w : Nat} {l : List Value} (hls : zLr h k e cap l) (hi : l[i]? = some (.ref q)) (hb : l.length < 10000) (hw : ∃ c fs, h[w]? = some (c, fs) ∧ c < 9) : ∃ h', zRn 2 16 [.ref k, .int (Int32.ofNat i), .ref w] h (.inl (some (.ref q)), h') ∧ zLstep h h' k e cap (l.set i (.ref w)) := by
  obtain ⟨e1, t, ⟨mc, hk⟩, he, hc, hr⟩ := zj16 hls.lst hi hb hw
  obtain ⟨hlt, _⟩ := List.getElem?_eq_some_iff.mp hi
  obtain ⟨mc2, ⟨_, h2, _⟩ | ⟨t2, h1, h2, h3, h4⟩⟩ := hls
  · rw [h2] at hlt; simp at hlt
  rw [hk] at h1
  simp only [Option.some.injEq, Prod.mk.injEq, List.cons.injEq, Value.ref.injEq, Value.int.injEq, true_and, and_true] at h1
  obtain ⟨rfl, rfl⟩ := h1
  rw [he] at h2
  simp only [Option.some.injEq, Prod.mk.injEq, true_and, List.append_cancel_left_eq] at h2
  subst h2
  have hke : k ≠ e1 := fun x => by rw [x, he] at hk; cases hk
  refine ⟨_, hr, e1, cap, ⟨mc, Or.inr ⟨t, ?_, zget_set_self he, by simpa using h3, h4⟩⟩, fun q n1 n2 n3 => ?_, Or.inl ⟨rfl, rfl, by simp, zsz_row he (by simp)⟩⟩
  · rw [zget_set_ne (Ne.symm hke), List.length_set]; exact hk
  · rcases n2 with n2 | n2
    · omega
    · rw [zget_set_ne (Ne.symm n2)]
/-- rangeCheckForAdd -/
theorem zj11 {h : zHp} {k i n : Nat} {a b : Value} (hk : h[k]? = some (8, [a, b, .int (Int32.ofNat n)])) (hi : i ≤ n) (hn : n < 10000) : zRn 0 11 [.ref k, .int (Int32.ofNat i)] h (.inl none, h) := by
  show zX' none 0 11 0 (some (.ref k) :: some (.int (Int32.ofNat i)) :: _) [] h _
  refine zX'.run 2 rfl ?_
  refine zX'.gf rfl hk rfl ?_
  refine zX'.br (t := false) rfl rfl (congrArg some (Prod.ext (decide_eq_false (fun x => ?_)) rfl)) (fun q => by cases q) (fun _ => ?_)
  · exact absurd ((zilt (by omega) (by omega)).mp x) (by omega)
  refine zX'.run 1 rfl ?_
  refine zX'.br (t := true) rfl rfl (congrArg some (Prod.ext (decide_eq_true (zige (by omega))) rfl)) (fun _ => ?_) (fun q => by cases q)
  exact zX'.r rfl rfl rfl rfl
/-- add(int, E), from behind the growth -/
theorem zj10t {h : zHp} {k e i q : Nat} {mc : Int32} {l t : List Value} {v0 : Value} (hk : h[k]? = some (8, [.int mc, .ref e, .int (Int32.ofNat l.length)])) (he : h[e]? = some (103, l ++ v0 :: t)) (hi : i ≤ l.length) (hb : l.length < 600) (ht : (l ++ v0 :: t).length ≤ 1000) (hv : zEl h (.ref q)) :
    zX' none 4 10 38 [some (.ref k), some (.int (Int32.ofNat i)), some (.ref q), some (.int (Int32.ofNat l.length)), some (.ref e)] [] h (.inl none, (h.set e (103, (l.take i ++ .ref q :: l.drop i) ++ t)).set k (8, [.int mc, .ref e, .int (Int32.ofNat (l.length + 1))])) := by
  have hke : k ≠ e := fun x => by rw [x, he] at hk; cases hk
  refine zX'.run 9 rfl ?_
  show zX' none 4 10 49 _ [.int (Int32.ofNat l.length - Int32.ofNat i), .int (Int32.ofNat i + 1), .ref e, .int (Int32.ofNat i), .ref e] _ _
  rw [zisubn hi, zisucc]
  refine zX'.cpy rfl (by simp) he he (by omega) (by omega) (by omega) (by simp; omega) (by simp; omega) ?_
  refine zX'.run 3 rfl ?_
  refine zX'.as rfl (zget_set_self he) (zige (by omega)) (by rw [zicl (by omega), zcpy_len (by simp; omega) (by simp; omega)]; simp; omega) (hv.set he).fit ?_
  rw [zicl (by omega), zins_cpy hi, List.set_set]
  refine zX'.run 4 rfl ?_
  refine zX'.pf rfl (by rw [zget_set_ne (Ne.symm hke)]; exact hk) (by show 2 < 3; decide) rfl ?_
  refine zX'.r rfl rfl rfl ?_
  show _ = (_, _)
  rw [← zisucc]; rfl
/-- add(int, E) -/
theorem zj10 {h : zHp} {k e cap i : Nat} {l : List Value} {v : Value} (hls : zLr h k e cap l) (hi : i ≤ l.length) (hb : l.length < 600) (hcap : cap ≤ 1000) (hl : h.length < 1000000) (hv : zEl h v) : ∃ h', zRn 4 10 [.ref k, .int (Int32.ofNat i), v] h (.inl none, h') ∧ zLstep h h' k e cap (l.take i ++ v :: l.drop i) := by
  obtain ⟨mc, r, hk, hr0, hr1, hup⟩ := hls.up
  have hk1 := zget_set_self (o' := (8, [.int (mc + 1), r, .int (Int32.ofNat l.length)])) hk
  have hv1 : zEl (h.set k (8, [.int (mc + 1), r, .int (Int32.ofNat l.length)])) v := hv.set hk
  obtain ⟨q, cq, fq, rfl, hvq, hcq⟩ := hv
  have hls1 := hup (mc + 1)
  have hlen1 : (h.set k (8, [.int (mc + 1), r, .int (Int32.ofNat l.length)])).length < 1000000 := by simpa using hl
  suffices hS : ∃ h', zX' none 4 10 15 [some (.ref k), some (.int (Int32.ofNat i)), some (.ref q), none, none] [] (h.set k (8, [.int (mc + 1), r, .int (Int32.ofNat l.length)])) (.inl none, h') ∧ zLstep (h.set k (8, [.int (mc + 1), r, .int (Int32.ofNat l.length)])) h' k e cap (l.take i ++ .ref q :: l.drop i) by
    obtain ⟨h', hg, hst⟩ := hS
    refine ⟨h', ?_, hst.pre hk⟩
    show zX' none 4 10 0 [some (.ref k), some (.int (Int32.ofNat i)), some (.ref q), none, none] [] h _
    refine zX'.run 2 rfl ?_
    refine zX'.c (as := [.ref k, .int (Int32.ofNat i)]) rfl rfl rfl rfl (by decide) rfl (by decide) (by show (match h[k]? with | some (c, _) => decide (c = 8) | none => false) = true; rw [hk]; rfl) (zj11 hk hi (by omega)) (by decide) ?_
    refine zX'.run 2 rfl ?_
    refine zX'.gf rfl hk rfl ?_
    refine zX'.run 2 rfl ?_
    refine zX'.pf rfl hk (by show 0 < 3; decide) rfl ?_
    exact hg
  generalize hH : h.set k (8, [.int (mc + 1), r, .int (Int32.ofNat l.length)]) = H at *
  have hzl : (l.take i ++ Value.ref q :: l.drop i).length = l.length + 1 := by simp; omega
  by_cases hfull : cap = l.length
  · subst hfull
    obtain ⟨mc', u, t', hk8, ht, h5, h6, hg⟩ := zj8 hls1 hb hlen1
    obtain ⟨hklt, _⟩ := List.getElem?_eq_some_iff.mp hk1
    obtain ⟨v0, t2, rfl⟩ : ∃ v0 t2, t' = v0 :: t2 := by
      cases t' with
      | nil => simp at ht
      | cons a b => exact ⟨a, b, rfl⟩
    have hkne : k ≠ H.length := by omega
    have hrow : ((H ++ [(103, l ++ v0 :: t2)]).set k (8, [.int mc', .ref H.length, .int (Int32.ofNat l.length)]))[H.length]? = some (103, l ++ v0 :: t2) := by rw [zget_set_ne hkne]; exact zget_last
    have hk2 : ((H ++ [(103, l ++ v0 :: t2)]).set k (8, [.int mc', .ref H.length, .int (Int32.ofNat l.length)]))[k]? = some (8, [.int mc', .ref H.length, .int (Int32.ofNat l.length)]) := zget_set_self (zget_push hk1)
    have hT := zj10t hk2 hrow hi hb (by simp at *; omega) ((zEl.push hv1).set (zget_push hk1))
    refine ⟨(((H ++ [(103, l ++ v0 :: t2)]).set k (8, [.int mc', .ref H.length, .int (Int32.ofNat l.length)])).set H.length (103, (l.take i ++ Value.ref q :: l.drop i) ++ t2)).set k (8, [.int mc', .ref H.length, .int (Int32.ofNat (l.length + 1))]), ?_, H.length, (l ++ v0 :: t2).length, ⟨mc', Or.inr ⟨t2, by rw [zget_set_self (by rw [zget_set_ne (Ne.symm hkne)]; exact hk2), hzl], ?_, by rw [hzl]; simp; omega, by simp; omega⟩⟩, ?_, Or.inr ⟨rfl, by simp, by simp at *; omega, by simp, ?_, by simp at *; omega⟩⟩
    · have main : zX' none 4 10 32 [some (.ref k), some (.int (Int32.ofNat i)), some (.ref q), some (.int (Int32.ofNat l.length)), some r] [] H (.inl none, (((H ++ [(103, l ++ v0 :: t2)]).set k (8, [.int mc', .ref H.length, .int (Int32.ofNat l.length)])).set H.length (103, (l.take i ++ Value.ref q :: l.drop i) ++ t2)).set k (8, [.int mc', .ref H.length, .int (Int32.ofNat (l.length + 1))])) := by
        refine zX'.run 1 rfl ?_
        refine zX'.c (as := [.ref k]) rfl rfl rfl rfl (by decide) rfl (by decide) (by show (match H[k]? with | some (c, _) => decide (c = 8) | none => false) = true; rw [hk1]; rfl) hg (by decide) ?_
        refine zX'.run 1 rfl ?_
        exact hT
      refine zX'.run 1 rfl ?_
      refine zX'.gf rfl hk1 rfl ?_
      refine zX'.run 3 rfl ?_
      refine zX'.gf rfl hk1 rfl ?_
      have hdone : ∀ x, zX' none 4 10 28 [some (.ref k), some (.int (Int32.ofNat i)), some (.ref q), some (.int (Int32.ofNat l.length)), some r] [r, .int (Int32.ofNat l.length)] H x → zX' none 4 10 25 [some (.ref k), some (.int (Int32.ofNat i)), some (.ref q), some (.int (Int32.ofNat l.length)), none] [r, .int (Int32.ofNat l.length)] H x := by
        intro x hx
        rcases Nat.eq_zero_or_pos l.length with x0 | x0
        · rw [hr0 x0] at hx ⊢
          exact zX'.run 2 rfl hx
        · rw [hr1 x0] at hx ⊢
          exact zX'.run 2 rfl hx
      refine hdone _ ?_
      by_cases h0 : l.length = 0
      · rw [hr0 h0]
        rw [hr0 h0] at main
        refine zX'.al1 rfl ?_
        exact zX'.br (t := false) rfl rfl (congrArg some (Prod.ext (by show (!decide _) = false; rw [h0]; rfl) rfl)) (fun q => by cases q) (fun _ => main)
      · obtain ⟨mc2, ⟨_, a2, _⟩ | ⟨t, b1, b2, b3, b4⟩⟩ := hls1
        · rw [a2] at h0; simp at h0
        rw [hr1 (by omega)]
        rw [hr1 (by omega)] at main
        have : t = [] := List.length_eq_zero_iff.mp (by omega)
        subst this
        refine zX'.al rfl b2 (by decide) ?_
        exact zX'.br (t := false) rfl rfl (congrArg some (Prod.ext (by show (!decide _) = false; rw [List.append_nil]; simp) rfl)) (fun q => by cases q) (fun _ => main)
    · rw [zget_set_ne hkne]; exact zget_set_self hrow
    · intro q1 n1 _ n3
      rw [zget_set_ne (Ne.symm n1), zget_set_ne (by omega), zget_set_ne (Ne.symm n1), List.getElem?_append_left n3]
    · rw [zsz_set8 (by rw [zget_set_ne (Ne.symm hkne)]; exact hk2), zsz_row hrow (by simp; omega), zsz_set8 (zget_push hk1), zsz_new]
  · obtain ⟨mc', ⟨h1, h2, h3⟩ | ⟨t, h1, h2, h3, h4⟩⟩ := hls1
    · rw [h2] at hfull; simp at hfull; exact absurd h3 hfull
    obtain ⟨v0, t2, rfl⟩ : ∃ v0 t2, t = v0 :: t2 := by
      cases t with
      | nil => simp at h3; exact absurd h3 hfull
      | cons a b => exact ⟨a, b, rfl⟩
    have hke : k ≠ e := fun x => by rw [x, h2] at h1; cases h1
    have hre := hr1 h4
    subst hre
    have hT := zj10t h1 h2 hi hb (by rw [List.length_append]; omega) hv1
    have hk2 : (H.set e (103, (l.take i ++ Value.ref q :: l.drop i) ++ t2))[k]? = some (8, [.int mc', .ref e, .int (Int32.ofNat l.length)]) := by rw [zget_set_ne (Ne.symm hke)]; exact h1
    refine ⟨_, ?_, e, cap, ⟨mc', Or.inr ⟨t2, by rw [zget_set_self hk2, hzl], by rw [zget_set_ne hke]; exact zget_set_self h2, by rw [hzl]; simp at *; omega, h4⟩⟩, ?_, Or.inl ⟨rfl, rfl, by simp, ?_⟩⟩
    · refine zX'.run 1 rfl ?_
      refine zX'.gf rfl h1 rfl ?_
      refine zX'.run 3 rfl ?_
      refine zX'.gf rfl h1 rfl ?_
      refine zX'.run 2 rfl ?_
      refine zX'.al rfl h2 (by decide) ?_
      refine zX'.br (t := true) rfl rfl (congrArg some (Prod.ext (by show (!decide (Int32.ofNat l.length = Int32.ofNat (l ++ v0 :: t2).length)) = true; rw [decide_eq_false (zine (by omega) (by simp at *; omega) (by simp))]; rfl) rfl)) (fun _ => ?_) (fun q => by cases q)
      exact hT
    · intro q1 n1 n2 n3
      rcases n2 with n2 | n2
      · omega
      rw [zget_set_ne (Ne.symm n1), zget_set_ne (Ne.symm n2)]
    · rw [zsz_set8 hk2, zsz_row h2 (by simp; omega)]
theorem zset_same {h : zHp} {q : Nat} {o : zOb} (hq : h[q]? = some o) : h.set q o = h := by
  obtain ⟨hlt, rfl⟩ := List.getElem?_eq_some_iff.mp hq
  exact List.set_getElem_self hlt
/-- fastRemove, remove -/
theorem zj14 {h : zHp} {k e : Nat} {mc : Int32} {a b t : List Value} {x : Value} (hk : h[k]? = some (8, [.int mc, .ref e, .int (Int32.ofNat (a ++ x :: b).length)])) (he : h[e]? = some (103, a ++ x :: b ++ t)) (hb : (a ++ x :: b ++ t).length ≤ 1000) :
    ∃ t', t'.length = t.length + 1 ∧ zRn 0 14 [.ref k, .ref e, .int (Int32.ofNat a.length)] h (.inl none, (h.set k (8, [.int (mc + 1), .ref e, .int (Int32.ofNat (a ++ b).length)])).set e (103, (a ++ b) ++ t')) := by
  have hke : k ≠ e := fun x => by rw [x, he] at hk; cases hk
  obtain ⟨t', ht', hz⟩ := zrem_cpy (a := a) (b := b) (t := t) (x := x)
  refine ⟨t', ht', ?_⟩
  have hlb : a.length + b.length + t.length < 1000 := by simp at hb; omega
  have hn : Int32.ofNat (a ++ x :: b).length - 1 = Int32.ofNat (a.length + b.length) := by
    have := zisubn (a := (a ++ x :: b).length) (b := 1) (by simp; omega)
    rw [show (a ++ x :: b).length - 1 = a.length + b.length by simp] at this
    exact this
  have he1 : ∀ o, (h.set k o)[e]? = some (103, a ++ x :: b ++ t) := fun o => by rw [zget_set_ne hke]; exact he
  show zX' none 0 14 0 [some (.ref k), some (.ref e), some (.int (Int32.ofNat a.length)), none] [] h _
  refine zX'.run 2 rfl ?_
  refine zX'.gf rfl hk rfl ?_
  refine zX'.run 2 rfl ?_
  refine zX'.pf rfl hk (by show 0 < 3; decide) rfl ?_
  refine zX'.run 1 rfl ?_
  refine zX'.gf rfl (zget_set_self hk) rfl ?_
  refine zX'.run 5 rfl ?_
  show zX' none 0 14 19 [some (.ref k), some (.ref e), some (.int (Int32.ofNat a.length)), some (.int (Int32.ofNat (a ++ x :: b).length - 1))] [.int (Int32.ofNat a.length), .int (Int32.ofNat (a ++ x :: b).length - 1)] _ _
  rw [hn]
  have tail : ∀ s, s.set (a.length + b.length) Value.null = (a ++ b) ++ t' → s.length = (a ++ x :: b ++ t).length → zX' none 0 14 34 [some (.ref k), some (.ref e), some (.int (Int32.ofNat a.length)), some (.int (Int32.ofNat (a.length + b.length)))] [] ((h.set k (8, [.int (mc + 1), .ref e, .int (Int32.ofNat (a ++ x :: b).length)])).set e (103, s)) (.inl none, (h.set k (8, [.int (mc + 1), .ref e, .int (Int32.ofNat (a ++ b).length)])).set e (103, (a ++ b) ++ t')) := by
    intro s hs hsl
    refine zX'.run 4 rfl ?_
    refine zX'.pf rfl (by rw [zget_set_ne (Ne.symm hke)]; exact zget_set_self hk) (by show 2 < 3; decide) rfl ?_
    refine zX'.run 1 rfl ?_
    refine zX'.as rfl (by rw [zget_set_ne hke]; exact zget_set_self (he1 _)) (zige (by omega)) (by rw [zicl (by omega), hsl]; simp; omega) rfl ?_
    refine zX'.r rfl rfl rfl ?_
    rw [zicl (by omega), hs]
    refine Prod.ext rfl ?_
    show List.set _ _ _ = List.set _ _ _
    rw [List.set_comm (l := h.set k (8, [.int (mc + 1), .ref e, .int (Int32.ofNat (a ++ x :: b).length)])) _ _ (Ne.symm hke), List.set_set, List.set_set, List.length_append]; rfl
  by_cases hb0 : b.length = 0
  · have hbn : b = [] := List.length_eq_zero_iff.mp hb0
    subst hbn
    refine zX'.br (t := true) rfl rfl (congrArg some (Prod.ext (decide_eq_true ((zile (by omega) (by omega)).mpr (by simp))) rfl)) (fun _ => ?_) (fun q => by cases q)
    have := tail (a ++ [x] ++ t) (by
      rw [← hz]
      congr 1
      unfold zcpy
      simp) rfl
    rw [zset_same (he1 _)] at this
    exact this
  · refine zX'.br (t := false) rfl rfl (congrArg some (Prod.ext (decide_eq_false (fun y => absurd ((zile (by omega) (by omega)).mp y) (by omega))) rfl)) (fun q => by cases q) (fun _ => ?_)
    refine zX'.run 9 rfl ?_
    show zX' none 0 14 31 _ [.int (Int32.ofNat (a.length + b.length) - Int32.ofNat a.length), .int (Int32.ofNat a.length), .ref e, .int (Int32.ofNat a.length + 1), .ref e] _ _
    rw [zisubn (by omega), Nat.add_sub_cancel_left, zisucc]
    refine zX'.cpy rfl (by simp) (he1 _) (he1 _) (by omega) (by omega) (by omega) (by simp; omega) (by simp; omega) ?_
    exact tail _ hz (zcpy_len (by simp; omega) (by simp; omega))
