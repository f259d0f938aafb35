/-! THE TYPED MACHINE: what a heap of the logical machine holds, as numbers by kind, place and field, and lists by kind and place -/
/-- a typed value: an int, a long, a reference to the place i of the kind c, or another (0 null, k + 1 the retAddr k) -/
abbrev zW : Type := Int32 ⊕ (Int64 ⊕ ((Nat × Nat) ⊕ Nat))
abbrev zIn : Type := Nat → Nat → Nat → Int32
abbrev zLi : Type := Nat → Nat → List Nat
abbrev zAd : Type := Nat → Nat → Nat
abbrev zWs : Type := List (Option zW)
abbrev zwI (x : Int32) : zW := .inl x
abbrev zwL (x : Int64) : zW := .inr (.inl x)
abbrev zwR (c i : Nat) : zW := .inr (.inr (.inl (c, i)))
abbrev zwK (k : Nat) : zW := .inr (.inr (.inr k))
def ztr (lc : zAd) : zW → Value
  | .inl x => .int x
  | .inr (.inl x) => .long x
  | .inr (.inr (.inl p)) => .ref (lc p.1 p.2)
  | .inr (.inr (.inr 0)) => .null
  | .inr (.inr (.inr (k + 1))) => .retAddr k
abbrev ztl (lc : zAd) (ls : zWs) : zLs := ls.map (Option.map (ztr lc))
abbrev zts (lc : zAd) (st : List zW) : List Value := st.map (ztr lc)
/-- the real class of a kind: 0 to 7 the class itself; 20 riders, 21 vehicles, 22 requests, 23 toMend, 24 stops, 25 doneStops, 26 aboard, 27 chairs (lists); 30 int arrays, 31 boolean arrays, 32 the law's long array -/
def zct (c : Nat) : Nat := if c < 8 then c else if c < 20 then 999 else if c < 28 then 8 else if c = 30 then 100 else if c = 31 then 101 else if c = 32 then 102 else 999
/-- the kind of a list's elements -/
def zek (c : Nat) : Nat := match c with
  | 20 => 2
  | 21 => 5
  | 22 => 1
  | 23 => 1
  | 24 => 4
  | 25 => 4
  | _ => 1
def zas30 (i : Nat) : Nat := match i with
  | 7 => 16
  | 8 => 16
  | 9 => 16
  | 12 => 4
  | 13 => 4
  | 14 => 4
  | 15 => 4
  | 17 => 4
  | 18 => 4
  | 20 => 4
  | 21 => 4
  | 23 => 4
  | 24 => 12
  | 25 => 4
  | 26 => 64
  | 27 => 4
  | 29 => 60
  | 30 => 60
  | 31 => 60
  | 32 => 60
  | 33 => 60
  | 34 => 60
  | 35 => 60
  | 36 => 60
  | 37 => 60
  | 38 => 60
  | 39 => 60
  | 43 => 20
  | 44 => 20
  | 45 => 20
  | 46 => 24
  | 51 => 16
  | 60 => 6
  | 61 => 6
  | 62 => 6
  | 63 => 60
  | 64 => 60
  | 65 => 60
  | 66 => 8
  | n => if 100 ≤ n then (if n % 2 = 0 then 16 else 20) else 0
def zas31 (i : Nat) : Nat := match i with
  | 0 => 36
  | 4 => 36
  | 10 => 16
  | 16 => 4
  | 19 => 4
  | 22 => 4
  | 40 => 60
  | 41 => 60
  | _ => 0
def zas (c i : Nat) : Nat := if c = 30 then zas30 i else if c = 31 then zas31 i else 1
def zbo (x : Int32) : Int32 := if x = 0 then 0 else 1
/-- an object's fields out of its numbers -/
def zfs (c i : Nat) (r : Nat → Int32) : List zW := match c with
  | 0 => [zwR 27 i, zwI (r 1), zwI (r 2), zwI (r 3)]
  | 1 => [zwR 2 (r 0).toNatClampNeg, zwI (r 1), zwI (r 2), zwI (r 3), zwI (r 4), zwI (r 5), zwI (r 6), zwI (r 7), zwI (r 8), zwI (r 9), zwI (r 10), zwI (r 11), zwI (r 12), zwI (zbo (r 13)), zwI (zbo (r 14))]
  | 2 => [zwI (r 0), zwI (r 1), zwI (r 2), zwI (r 3), zwI (r 4)]
  | 3 => [if r 0 = 0 then zwK 0 else zwR 5 ((r 0).toNatClampNeg - 1), zwI (r 1), zwI (r 2), zwI (r 3)]
  | 4 => [zwR 1 (i / 2), zwI (Int32.ofNat (i % 2)), zwI (r 2), zwI (r 3), zwI (r 4), zwI (zbo (r 5))]
  | 5 => [zwI (Int32.ofNat i), zwI (r 1), zwI (r 2), zwI (r 3), zwI (r 4), zwR 24 i, zwR 25 i, zwR 26 i, zwR 0 i, zwI (zbo (r 9)), zwI (zbo (r 10)), zwI (r 11), zwI (r 12)]
  | 6 => [zwR 20 0, zwR 21 0, zwR 22 0, zwR 23 0, zwR 31 0, zwR 3 0, zwI (zbo (r 6)), zwI (r 7), zwI (r 8)]
  | 7 => [zwI (r 0), zwI (r 1), zwI (r 2), zwI (zbo (r 3)), zwR 31 4, zwI (r 5), zwI (r 6), zwR 30 7, zwR 30 8, zwR 30 9, zwR 31 10, zwI (r 11), zwR 30 12, zwR 30 13, zwR 30 14, zwR 30 15, zwR 31 16, zwR 30 17, zwR 30 18, zwR 31 19, zwR 30 20, zwR 30 21, zwR 31 22, zwR 30 23, zwR 30 24, zwR 30 25, zwR 30 26, zwR 30 27, zwI (r 28), zwR 30 29, zwR 30 30, zwR 30 31, zwR 30 32, zwR 30 33, zwR 30 34, zwR 30 35, zwR 30 36, zwR 30 37, zwR 30 38, zwR 30 39, zwR 31 40, zwR 31 41, zwI (r 42), zwR 30 43, zwR 30 44, zwR 30 45, zwR 30 46, zwI (r 47), zwI (r 48), zwI (r 49), zwI (r 50), zwR 30 51]
  | 30 => (List.range (zas30 i)).map fun k => zwI (r k)
  | 31 => (List.range (zas31 i)).map fun k => zwI (zbo (r k))
  | 32 => [zwL (r 0).toInt64]
  | _ => []
/-- kind 99 says what there is -/
def zok (I : zIn) : zW → Prop
  | .inr (.inr (.inl p)) => I 99 p.1 p.2 = 1
  | _ => True
def zset (I : zIn) (c i f : Nat) (x : Int32) : zIn := fun c' i' f' => if c' = c ∧ i' = i ∧ f' = f then x else I c' i' f'
def zlup (L : zLi) (c i : Nat) (l : List Nat) : zLi := fun c' i' => if c' = c ∧ i' = i then l else L c' i'
def zpot (cap : Nat → Nat → Nat) : Nat := ((List.range 8).map fun a => ((List.range 4).map fun b => 1000 - cap (20 + a) b).sum).sum
def zRp (lc : zAd) (I : zIn) (L : zLi) (h : zHp) (cap er : Nat → Nat → Nat) : Prop :=
  (∀ c i, I 99 c i = 1 → zct c ≠ 999 ∧ (zct c = 8 → i < 4 ∧ cap c i ≤ 1000 ∧ zLr h (lc c i) (er c i) (cap c i) ((L c i).map fun t => Value.ref (lc (zek c) t)) ∧ ∀ t ∈ L c i, I 99 (zek c) t = 1) ∧ (zct c ≠ 8 → h[lc c i]? = some (zct c, (zfs c i (I c i)).map (ztr lc)) ∧ ∀ w ∈ zfs c i (I c i), zok I w)) ∧
  (∀ c i c' i', I 99 c i = 1 → I 99 c' i' = 1 → lc c i = lc c' i' → c = c' ∧ i = i') ∧
  (∀ c i c' i', I 99 c i = 1 → I 99 c' i' = 1 → zct c = 8 → zct c' = 8 → cap c i ≠ 0 → cap c' i' ≠ 0 → er c i = er c' i' → c = c' ∧ i = i') ∧
  (∀ c i, I 99 c i ≠ 1 → cap c i = 0)
def zRep (lc : zAd) (I : zIn) (L : zLi) (h : zHp) (g : Nat) : Prop := ∃ cap er, zRp lc I L h cap er ∧ h.length + zsz h + 5 * zpot cap ≤ g
theorem zct_list {c : Nat} (h : zct c = 8) : 20 ≤ c ∧ c < 28 := by
  unfold zct at h
  repeat' split at h
  all_goals omega
theorem zct_ne103 {c : Nat} : zct c ≠ 103 := by
  unfold zct
  repeat' split
  all_goals omega
theorem zct_ek {c : Nat} : zct (zek c) < 8 := by
  unfold zek
  split <;> decide
theorem zLr.frame {h h' : zHp} {k e cap : Nat} {l : List Value} (hl : zLr h k e cap l) (hk : h'[k]? = h[k]?) (he : cap ≠ 0 → h'[e]? = h[e]?) : zLr h' k e cap l := by
  obtain ⟨mc, ⟨h1, h2, h3⟩ | ⟨t, h1, h2, h3, h4⟩⟩ := hl
  · exact ⟨mc, Or.inl ⟨by rw [hk]; exact h1, h2, h3⟩⟩
  · exact ⟨mc, Or.inr ⟨t, by rw [hk]; exact h1, by rw [he (by omega)]; exact h2, h3, h4⟩⟩
theorem zLr.tag {h : zHp} {k e cap : Nat} {l : List Value} (hl : zLr h k e cap l) : (∃ fs, h[k]? = some (8, fs)) ∧ (cap ≠ 0 → ∃ fs, h[e]? = some (103, fs)) := by
  obtain ⟨mc, ⟨h1, h2, h3⟩ | ⟨t, h1, h2, h3, h4⟩⟩ := hl
  · exact ⟨⟨_, h1⟩, fun x => absurd h3 x⟩
  · exact ⟨⟨_, h1⟩, fun _ => ⟨_, h2⟩⟩
theorem zRp.tag {lc : zAd} {I : zIn} {L : zLi} {h : zHp} {cap er : Nat → Nat → Nat} (hr : zRp lc I L h cap er) {c i : Nat} (hx : I 99 c i = 1) : ∃ fs, h[lc c i]? = some (zct c, fs) := by
  by_cases h8 : zct c = 8
  · obtain ⟨_, _, hl, _⟩ := (hr.1 c i hx).2.1 h8
    rw [h8]; exact hl.tag.1
  · exact ⟨_, ((hr.1 c i hx).2.2 h8).1⟩
/-- a row of a list stands apart from all that is typed -/
theorem zRp.row {lc : zAd} {I : zIn} {L : zLi} {h : zHp} {cap er : Nat → Nat → Nat} (hr : zRp lc I L h cap er) {c i c' i' : Nat} (hx : I 99 c i = 1) (hx' : I 99 c' i' = 1) (h8 : zct c' = 8) (hc : cap c' i' ≠ 0) : er c' i' ≠ lc c i := by
  intro e
  obtain ⟨fs, h1⟩ := hr.tag hx
  obtain ⟨_, _, hl, _⟩ := (hr.1 c' i' hx').2.1 h8
  obtain ⟨fs', h2⟩ := hl.tag.2 hc
  rw [e, h1] at h2
  simp only [Option.some.injEq, Prod.mk.injEq] at h2
  exact zct_ne103 h2.1
/-- an object's numbers change -/
theorem zRp.upd {lc : zAd} {I I' : zIn} {L : zLi} {h : zHp} {cap er : Nat → Nat → Nat} (hr : zRp lc I L h cap er) {c i : Nat} (hx : I 99 c i = 1) (h8 : zct c ≠ 8) (hI : ∀ c' i', ¬ (c' = c ∧ i' = i) → I' c' i' = I c' i') (hc : c ≠ 99) (hok : ∀ w ∈ zfs c i (I' c i), zok I w) : zRp lc I' L (h.set (lc c i) (zct c, (zfs c i (I' c i)).map (ztr lc))) cap er := by
  have h99 : ∀ c' i', I' 99 c' i' = I 99 c' i' := fun c' i' => by rw [hI 99 c' (fun x => hc x.1.symm)]
  have hko : ∀ w, zok I w → zok I' w := by
    intro w hw
    unfold zok at hw ⊢
    split
    · rw [h99]; exact hw
    · trivial
  obtain ⟨fs0, hcell⟩ := hr.tag hx
  refine ⟨fun c' i' hx' => ?_, fun c1 i1 c2 i2 h1 h2 h3 => hr.2.1 c1 i1 c2 i2 (by rw [← h99]; exact h1) (by rw [← h99]; exact h2) h3, fun c1 i1 c2 i2 h1 h2 => hr.2.2.1 c1 i1 c2 i2 (by rw [← h99]; exact h1) (by rw [← h99]; exact h2), fun c1 i1 h1 => hr.2.2.2 c1 i1 (by rw [← h99]; exact h1)⟩
  rw [h99] at hx'
  obtain ⟨k1, k2, k3⟩ := hr.1 c' i' hx'
  refine ⟨k1, fun e8 => ?_, fun e8 => ?_⟩
  · obtain ⟨a1, a2, a3, a4⟩ := k2 e8
    refine ⟨a1, a2, a3.frame ?_ (fun hcap => ?_), fun t ht => by rw [h99]; exact a4 t ht⟩
    · refine zget_set_ne (fun e => ?_)
      obtain ⟨rfl, rfl⟩ := hr.2.1 _ _ _ _ hx hx' e
      exact h8 e8
    · exact zget_set_ne (Ne.symm (hr.row hx hx' e8 hcap))
  · by_cases hsame : c' = c ∧ i' = i
    · obtain ⟨rfl, rfl⟩ := hsame
      exact ⟨zget_set_self hcell, fun w hw => hko w (hok w hw)⟩
    · obtain ⟨b1, b2⟩ := k3 e8
      refine ⟨?_, fun w hw => ?_⟩
      · rw [zget_set_ne (fun e => hsame (by obtain ⟨e1, e2⟩ := hr.2.1 _ _ _ _ hx hx' e; exact ⟨e1.symm, e2.symm⟩)), hI c' i' hsame]
        exact b1
      · rw [hI c' i' hsame] at hw
        exact hko w (b2 w hw)
