/-! JDK's methods on the logical heap -/
/-- the list at k holds l, its row at e has t behind it -/
def zLst (h : zHp) (k : Nat) (cap : Nat) (l : List Value) : Prop := ∃ mc : Int32, (h[k]? = some (8, [.int mc, .retAddr 1, .int 0]) ∧ l = [] ∧ cap = 0) ∨ (∃ e t, h[k]? = some (8, [.int mc, .ref e, .int (Int32.ofNat l.length)]) ∧ h[e]? = some (103, l ++ t) ∧ cap = l.length + t.length)
theorem zicl {n : Nat} (hn : n < 100000) : (Int32.ofNat n).toNatClampNeg = n := Int32.toNatClampNeg_ofNat_of_lt (by omega)
theorem zile {a b : Nat} (ha : a < 100000) (hb : b < 100000) : Int32.ofNat a ≤ Int32.ofNat b ↔ a ≤ b := Int32.ofNat_le_iff_le (by omega) (by omega)
theorem zilt {a b : Nat} (ha : a < 100000) (hb : b < 100000) : Int32.ofNat a < Int32.ofNat b ↔ a < b := Int32.ofNat_lt_iff_lt (by omega) (by omega)
theorem zige {a : Nat} (ha : a < 100000) : (0 : Int32) ≤ Int32.ofNat a := (zile (a := 0) (by omega) ha).mpr (Nat.zero_le a)
theorem zLst.sz {h : zHp} {k cap : Nat} {l : List Value} (hl : zLst h k cap l) : ∃ mc e, h[k]? = some (8, [mc, e, .int (Int32.ofNat l.length)]) := by
  obtain ⟨mc, ⟨h1, rfl, _⟩ | ⟨e, t, h1, _⟩⟩ := hl
  · exact ⟨_, _, h1⟩
  · exact ⟨_, _, h1⟩
theorem zj21 {h : zHp} {i n : Int32} (h0 : 0 ≤ i) (hn : i < n) : zRn 0 21 [.int i, .int n, .null] h (.inl (some (.int i)), h) := by
  show zX' none 0 21 0 [some (.int i), some (.int n), some .null] [] h _
  refine zX'.run 1 rfl ?_
  refine zX'.br (t := false) rfl rfl (congrArg some (Prod.ext (decide_eq_false (Int32.not_lt.mpr h0)) rfl)) (fun q => by cases q) (fun _ => ?_)
  refine zX'.run 2 rfl ?_
  refine zX'.br (t := true) rfl rfl (congrArg some (Prod.ext (decide_eq_true hn) rfl)) (fun _ => ?_) (fun q => by cases q)
  refine zX'.run 1 rfl ?_
  exact zX'.r rfl rfl rfl rfl
theorem zj19 {h : zHp} {i n : Int32} (h0 : 0 ≤ i) (hn : i < n) : zRn 1 19 [.int i, .int n] h (.inl (some (.int i)), h) := by
  show zX' none 1 19 0 [some (.int i), some (.int n)] [] h _
  refine zX'.run 3 rfl ?_
  refine zX'.c (as := [.int i, .int n, .null]) rfl rfl rfl rfl (by decide) rfl (by decide) rfl (zj21 h0 hn) (Nat.le_refl _) ?_
  exact zX'.r rfl rfl rfl rfl
/-- size -/
theorem zj3 {h : zHp} {k cap : Nat} {l : List Value} (hl : zLst h k cap l) : zRn 0 3 [.ref k] h (.inl (some (.int (Int32.ofNat l.length))), h) := by
  obtain ⟨mc, e, hk⟩ := hl.sz
  show zX' none 0 3 0 [some (.ref k)] [] h _
  refine zX'.run 1 rfl ?_
  refine zX'.gf rfl hk rfl ?_
  exact zX'.r rfl rfl rfl rfl
/-- isEmpty -/
theorem zj15 {h : zHp} {k cap : Nat} {l : List Value} (hl : zLst h k cap l) (hb : l.length < 10000) : zRn 0 15 [.ref k] h (.inl (some (.int (if l.length = 0 then 1 else 0))), h) := by
  obtain ⟨mc, e, hk⟩ := hl.sz
  show zX' none 0 15 0 [some (.ref k)] [] h _
  refine zX'.run 1 rfl ?_
  refine zX'.gf rfl hk rfl ?_
  by_cases hz : l.length = 0
  · rw [if_pos hz, hz]
    refine zX'.br (t := false) rfl rfl rfl (fun q => by cases q) (fun _ => ?_)
    refine zX'.run 2 rfl ?_
    exact zX'.r rfl rfl rfl rfl
  · rw [if_neg hz]
    have hne : ¬ Int32.ofNat l.length = 0 := fun e => hz (by have := zicl (n := l.length) (by omega); rw [e] at this; exact this.symm)
    refine zX'.br (t := true) rfl rfl (congrArg some (Prod.ext (by show (!decide _) = true; rw [decide_eq_false hne]; rfl) rfl)) (fun _ => ?_) (fun q => by cases q)
    refine zX'.run 1 rfl ?_
    exact zX'.r rfl rfl rfl rfl
