/-! JDK's lists: a new list, and growth -/
theorem zget_set_self {h : zHp} {k : Nat} {o o' : zOb} (hk : h[k]? = some o) : (h.set k o')[k]? = some o' := by
  obtain ⟨hlt, _⟩ := List.getElem?_eq_some_iff.mp hk
  rw [List.getElem?_set_self hlt]
theorem zget_set_ne {h : zHp} {k q : Nat} {o' : zOb} (hne : k ≠ q) : (h.set k o')[q]? = h[q]? := List.getElem?_set_ne hne
theorem zget_push {h : zHp} {q : Nat} {o o' : zOb} (hq : h[q]? = some o) : (h ++ [o'])[q]? = some o := by
  obtain ⟨hlt, _⟩ := List.getElem?_eq_some_iff.mp hq
  rw [List.getElem?_append_left hlt]; exact hq
theorem zget_last {h : zHp} {o : zOb} : (h ++ [o])[h.length]? = some o := by simp
/-- Object's, AbstractCollection's, AbstractList's, ArrayList's <init> -/
theorem zj0 {h : zHp} {k : Nat} (hk : k < h.length) : zRn 0 0 [.ref k] h (.inl none, h) := by
  show zX' none 0 0 0 [some (.ref k)] [] h _
  refine zX'.run 1 rfl ?_
  refine zX'.ob rfl (by decide) ?_
  exact zX'.r rfl rfl rfl rfl
theorem zj1 {h : zHp} {k : Nat} {u v w : Value} (hk : h[k]? = some (8, [u, v, w])) : zRn 1 1 [.ref k] h (.inl none, h.set k (8, [.int 0, v, w])) := by
  obtain ⟨hlt, _⟩ := List.getElem?_eq_some_iff.mp hk
  show zX' none 1 1 0 [some (.ref k)] [] h _
  refine zX'.run 1 rfl ?_
  refine zX'.c (as := [.ref k]) rfl rfl rfl rfl (by decide) rfl (by decide) (by show decide (k < h.length) = true; exact decide_eq_true hlt) (zj0 hlt) (Nat.le_refl _) ?_
  refine zX'.run 2 rfl ?_
  refine zX'.pf rfl hk (by show 0 < 3; decide) rfl ?_
  exact zX'.r rfl rfl rfl rfl
theorem zj2 {h : zHp} {k : Nat} {u v w : Value} (hk : h[k]? = some (8, [u, v, w])) : zRn 2 2 [.ref k] h (.inl none, h.set k (8, [.int 0, .retAddr 1, w])) := by
  obtain ⟨hlt, _⟩ := List.getElem?_eq_some_iff.mp hk
  show zX' none 2 2 0 [some (.ref k)] [] h _
  refine zX'.run 1 rfl ?_
  refine zX'.c (as := [.ref k]) rfl rfl rfl rfl (by decide) rfl (by decide) (by show decide (k < h.length) = true; exact decide_eq_true hlt) (zj1 hk) (Nat.le_refl _) ?_
  refine zX'.run 1 rfl ?_
  refine zX'.gs rfl ?_
  refine zX'.pf rfl (zget_set_self hk) (by show 1 < 3; decide) rfl ?_
  refine zX'.r rfl rfl rfl ?_
  rw [List.set_set]; rfl
/-- newLength -/
theorem zimax {p q : Nat} (hp : p < 20000) (hq : q < 20000) : (if Int32.ofNat p < Int32.ofNat q then Int32.ofNat q else Int32.ofNat p) = Int32.ofNat (max p q) := by
  by_cases hc : p < q
  · rw [if_pos ((zilt (by omega) (by omega)).mpr hc), Nat.max_eq_right (by omega)]
  · rw [if_neg (fun x => hc ((zilt (by omega) (by omega)).mp x)), Nat.max_eq_left (by omega)]
theorem zimin {p q : Nat} (hp : p < 20000) (hq : q < 20000) : (if Int32.ofNat q < Int32.ofNat p then Int32.ofNat q else Int32.ofNat p) = Int32.ofNat (min p q) := by
  by_cases hc : q < p
  · rw [if_pos ((zilt (by omega) (by omega)).mpr hc), Nat.min_eq_right (by omega)]
  · rw [if_neg (fun x => hc ((zilt (by omega) (by omega)).mp x)), Nat.min_eq_left (by omega)]
theorem zj20 {h : zHp} {n p q : Nat} (hn : n + p < 20000) (hq : n + q < 20000) (h1 : 0 < n + p) : zRn 0 20 [.int (Int32.ofNat n), .int (Int32.ofNat p), .int (Int32.ofNat q)] h (.inl (some (.int (Int32.ofNat (n + max p q)))), h) := by
  have hA : Int32.ofNat n + Int32.ofNat (max p q) = Int32.ofNat (n + max p q) := (Int32.ofNat_add n (max p q)).symm
  have hB : n + max p q < 20000 := by omega
  have hC : 0 < n + max p q := by omega
  show zX' none 0 20 0 [some (.int (Int32.ofNat n)), some (.int (Int32.ofNat p)), some (.int (Int32.ofNat q)), none] [] h _
  refine zX'.run 3 rfl ?_
  refine zX'.max rfl (by simp) ?_
  rw [zimax (by omega) (by omega)]
  refine zX'.run 2 rfl ?_
  show zX' none 0 20 8 [some (.int (Int32.ofNat n)), some (.int (Int32.ofNat p)), some (.int (Int32.ofNat q)), some (.int (Int32.ofNat n + Int32.ofNat (max p q)))] [] h _
  rw [hA]
  generalize n + max p q = c at *
  refine zX'.run 2 rfl ?_
  refine zX'.br (t := false) rfl rfl (congrArg some (Prod.ext (decide_eq_false (fun x => ?_)) rfl)) (fun q => by cases q) (fun _ => ?_)
  · exact absurd x (Int32.not_le.mpr ((zilt (a := 0) (by omega) (by omega)).mpr hC))
  refine zX'.run 2 rfl ?_
  refine zX'.br (t := false) rfl rfl (congrArg some (Prod.ext (decide_eq_false (fun x => ?_)) rfl)) (fun q => by cases q) (fun _ => ?_)
  · have hlt : Int32.ofNat 2147483639 < Int32.ofNat c := x
    rw [Int32.ofNat_lt_iff_lt (by omega) (by omega)] at hlt
    omega
  refine zX'.run 1 rfl ?_
  exact zX'.r rfl rfl rfl rfl
/-- copyOf -/
theorem zj18 {h : zHp} {q n : Nat} {s : List Value} (hq : h[q]? = some (103, s)) (hs : s.length < 9000) (hn : s.length ≤ n) (hb : n < 9000) (hl : h.length < 1000000) : zRn 0 18 [.ref q, .int (Int32.ofNat n), .retAddr 2] h (.inl (some (.ref h.length)), h ++ [(103, s ++ List.replicate (n - s.length) .null)]) := by
  obtain ⟨hlt, _⟩ := List.getElem?_eq_some_iff.mp hq
  show zX' none 0 18 0 [some (.ref q), some (.int (Int32.ofNat n)), some (.retAddr 2), none] [] h _
  refine zX'.run 1 rfl ?_
  refine zX'.lc rfl ?_
  refine zX'.br (t := false) rfl rfl rfl (fun q => by cases q) (fun _ => ?_)
  refine zX'.run 1 rfl ?_
  refine zX'.na rfl hl (by omega) ?_
  refine zX'.run 7 rfl ?_
  refine zX'.al rfl (zget_push hq) (by decide) ?_
  refine zX'.run 1 rfl ?_
  refine zX'.min rfl (by simp) ?_
  rw [zimin (by omega) (by omega), Nat.min_eq_left hn]
  refine zX'.cpy (n := s.length) (sp := 0) (dp := 0) rfl (by simp) (zget_push hq) zget_last (by omega) (by omega) (by omega) (by omega) (by simp; omega) ?_
  refine zX'.run 1 rfl ?_
  refine zX'.r rfl rfl rfl ?_
  have hz : zcpy s (List.replicate n Value.null) 0 0 s.length = s ++ List.replicate (n - s.length) .null := by
    unfold zcpy
    simp
  rw [hz, List.set_append_right _ _ (Nat.le_refl _), Nat.sub_self]; rfl
theorem zj17 {h : zHp} {q n : Nat} {s : List Value} (hq : h[q]? = some (103, s)) (hs : s.length < 9000) (hn : s.length ≤ n) (hb : n < 9000) (hl : h.length < 1000000) : zRn 1 17 [.ref q, .int (Int32.ofNat n)] h (.inl (some (.ref h.length)), h ++ [(103, s ++ List.replicate (n - s.length) .null)]) := by
  show zX' none 1 17 0 [some (.ref q), some (.int (Int32.ofNat n))] [] h _
  refine zX'.run 3 rfl ?_
  refine zX'.gc rfl (by simp) hq ?_
  refine zX'.c (as := [.ref q, .int (Int32.ofNat n), .retAddr 2]) rfl rfl rfl rfl (by decide) rfl (by decide) rfl (zj18 hq hs hn hb hl) (Nat.le_refl _) ?_
  exact zX'.r rfl rfl rfl rfl
