/-! HOW THE LOGICAL MACHINE STANDS TO THE REAL ONE -/
def zV (em : Nat → Nat) (scb : Nat) (ws : va_W) (v v' : Value) : Prop := match v with
  | .ref k => ∃ (a : Nat) (e : va_E), ws[k]? = some (a, e) ∧ v' = .ref a
  | .retAddr k => v' = .ref (if k = 0 then scb else em k)
  | x => v' = x
def zSt (em : Nat → Nat) (scb : Nat) (ws : va_W) : List Value → List Value → Prop
  | [], [] => True
  | v :: r, v' :: r' => zV em scb ws v v' ∧ zSt em scb ws r r'
  | _, _ => False
def zL (em : Nat → Nat) (scb : Nat) (ws : va_W) (ls : zLs) (arr : Array Slot) : Prop := arr.size = ls.length ∧ lv_wf arr ∧ ∀ (i : Nat) (v : Value), ls[i]? = some (some v) → ∃ v', zV em scb ws v v' ∧ arr[i]? = some (.val v')
def zX (em : Nat → Nat) (scb : Nat) (ws : va_W) (tys : List (ClassId × FieldType)) (ob : zOb) (e : va_E) : Prop :=
  (ob.1 < 12 ∧ ∃ fs : List Value, e = .inr (ob.1, fs) ∧ fs.length = ob.2.length ∧ ∀ (j : Nat) (v : Value), ob.2[j]? = some v → ∃ v', fs[j]? = some v' ∧ zV em scb ws v v') ∨
  (ob.1 = 100 ∧ ∃ (cA : ClassId) (t : Nat) (f : Nat → Int32), e = .inl (cA, ob.2.length, .inl f) ∧ tys[t]? = some (cA, .int) ∧ ∀ j, j < ob.2.length → ob.2[j]? = some (.int (f j))) ∨
  (ob.1 = 101 ∧ ∃ (cA : ClassId) (t : Nat) (f : Nat → Int32), e = .inl (cA, ob.2.length, .inl f) ∧ tys[t]? = some (cA, .boolean) ∧ ∀ j, j < ob.2.length → ob.2[j]? = some (.int (f j))) ∨
  (ob.1 = 102 ∧ ∃ (cA : ClassId) (t : Nat) (f : Nat → Int64), e = .inl (cA, ob.2.length, .inr (.inl f)) ∧ tys[t]? = some (cA, .long) ∧ ∀ j, j < ob.2.length → ob.2[j]? = some (.long (f j))) ∨
  (ob.1 = 103 ∧ ∃ (cA : ClassId) (t : Nat) (f : Nat → Option Nat), e = .inl (cA, ob.2.length, .inr (.inr (.inr (.inr f)))) ∧ tys[t]? = some (cA, .object "java/lang/Object") ∧ ∀ j, j < ob.2.length → ∃ v, ob.2[j]? = some v ∧ (v = .null ∨ ∃ q c s e0, v = .ref q ∧ ws[q]? = some (e0, .inr (c, s)) ∧ c < 9) ∧ zV em scb ws v (va_rf (f j)))
def zR (em : Nat → Nat) (scb : Nat) (ws : va_W) (tys : List (ClassId × FieldType)) (h : zHp) : Prop := ws.length = h.length ∧ ∀ (k : Nat) (ob : zOb), h[k]? = some ob → ∃ (a : Nat) (e : va_E), ws[k]? = some (a, e) ∧ zX em scb ws tys ob e
/-- every cell stays at its address, an object stays an object of its class; new ones come behind -/
def zLe (ws ws' : va_W) : Prop := ∀ (k a : Nat) (e : va_E), ws[k]? = some (a, e) → ∃ e', ws'[k]? = some (a, e') ∧ ∀ c s, e = .inr (c, s) → ∃ s', e' = .inr (c, s')
theorem zLe.rf {ws : va_W} : zLe ws ws := fun _ _ e h => ⟨e, h, fun c s q => ⟨s, q⟩⟩
theorem zLe.tr {w1 w2 w3 : va_W} (h : zLe w1 w2) (g : zLe w2 w3) : zLe w1 w3 := fun k a e hk => by
  obtain ⟨e', h1, h2⟩ := h k a e hk
  obtain ⟨e2, g1, g2⟩ := g k a e' h1
  refine ⟨e2, g1, fun c s q => ?_⟩
  obtain ⟨s', q'⟩ := h2 c s q
  exact g2 c s' q'
theorem zV.le {em : Nat → Nat} {scb : Nat} {ws ws' : va_W} (hl : zLe ws ws') {v v' : Value} (h : zV em scb ws v v') : zV em scb ws' v v' := by
  cases v with
  | ref k =>
    obtain ⟨a, e, h1, h2⟩ := h
    obtain ⟨e', h3, -⟩ := hl k a e h1
    exact ⟨a, e', h3, h2⟩
  | _ => exact h
theorem zSt.le {em : Nat → Nat} {scb : Nat} {ws ws' : va_W} (hl : zLe ws ws') : ∀ {st st' : List Value}, zSt em scb ws st st' → zSt em scb ws' st st'
  | [], [], _ => trivial
  | v :: r, v' :: r', h => ⟨h.1.le hl, zSt.le hl h.2⟩
  | [], _ :: _, h => h.elim
  | _ :: _, [], h => h.elim
theorem zL.le {em : Nat → Nat} {scb : Nat} {ws ws' : va_W} (hl : zLe ws ws') {ls : zLs} {arr : Array Slot} (h : zL em scb ws ls arr) : zL em scb ws' ls arr := ⟨h.1, h.2.1, fun i v q => by
  obtain ⟨v', h1, h2⟩ := h.2.2 i v q
  exact ⟨v', h1.le hl, h2⟩⟩
theorem zSt.len {em : Nat → Nat} {scb : Nat} {ws : va_W} : ∀ {st st' : List Value}, zSt em scb ws st st' → st'.length = st.length
  | [], [], _ => rfl
  | v :: r, v' :: r', h => by
    have := zSt.len h.2
    simp only [List.length_cons, this]
  | [], _ :: _, h => h.elim
  | _ :: _, [], h => h.elim
theorem zSt.take {em : Nat → Nat} {scb : Nat} {ws : va_W} : ∀ (n : Nat) {st st' : List Value}, zSt em scb ws st st' → zSt em scb ws (st.take n) (st'.take n)
  | 0, _, _, _ => by simp [zSt]
  | n + 1, [], [], _ => by simp [zSt]
  | n + 1, v :: r, v' :: r', h => ⟨h.1, zSt.take n h.2⟩
  | n + 1, [], _ :: _, h => h.elim
  | n + 1, _ :: _, [], h => h.elim
theorem zSt.drop {em : Nat → Nat} {scb : Nat} {ws : va_W} : ∀ (n : Nat) {st st' : List Value}, zSt em scb ws st st' → zSt em scb ws (st.drop n) (st'.drop n)
  | 0, _, _, h => h
  | n + 1, [], [], _ => by simp [zSt]
  | n + 1, v :: r, v' :: r', h => zSt.drop n h.2
  | n + 1, [], _ :: _, h => h.elim
  | n + 1, _ :: _, [], h => h.elim
theorem zSt.app {em : Nat → Nat} {scb : Nat} {ws : va_W} : ∀ {a a' b b' : List Value}, zSt em scb ws a a' → zSt em scb ws b b' → zSt em scb ws (a ++ b) (a' ++ b')
  | [], [], _, _, _, h => h
  | v :: r, v' :: r', _, _, h, g => ⟨h.1, zSt.app h.2 g⟩
  | [], _ :: _, _, _, h, _ => h.elim
  | _ :: _, [], _, _, h, _ => h.elim
theorem zSt.rev {em : Nat → Nat} {scb : Nat} {ws : va_W} : ∀ {a a' : List Value}, zSt em scb ws a a' → zSt em scb ws a.reverse a'.reverse
  | [], [], _ => by simp [zSt]
  | v :: r, v' :: r', h => by
    rw [List.reverse_cons, List.reverse_cons]
    exact zSt.app (zSt.rev h.2) ⟨h.1, trivial⟩
  | [], _ :: _, h => h.elim
  | _ :: _, [], h => h.elim
theorem zSt.get {em : Nat → Nat} {scb : Nat} {ws : va_W} : ∀ {a a' : List Value}, zSt em scb ws a a' → ∀ (i : Nat) (v : Value), a[i]? = some v → ∃ v', a'[i]? = some v' ∧ zV em scb ws v v'
  | [], [], _, i, v, h => by simp at h
  | w :: r, w' :: r', h, i, v, hi => by
    cases i with
    | zero => simp at hi; subst hi; exact ⟨w', by simp, h.1⟩
    | succ i => simpa using zSt.get h.2 i v (by simpa using hi)
  | [], _ :: _, h, _, _, _ => h.elim
  | _ :: _, [], h, _, _, _ => h.elim
theorem zV.cat {em : Nat → Nat} {scb : Nat} {ws : va_W} {v v' : Value} (h : zV em scb ws v v') (hc : zcat1 v = true) : v'.category = 1 := by
  cases v with
  | int x => have h : v' = .int x := h; subst h; rfl
  | ref k => obtain ⟨a, e, -, rfl⟩ := h; rfl
  | null => have h : v' = .null := h; subst h; rfl
  | retAddr k => have h : v' = _ := h; subst h; rfl
  | long x => simp [zcat1] at hc
  | float x => simp [zcat1] at hc
  | double x => simp [zcat1] at hc
/-- all that an array of locals holds -/
def zall (arr : Array Slot) : List (Nat × Value) := (List.range arr.size).filterMap (fun j => match (arr[j]? : Option Slot) with | some (Slot.val v) => some (j, v) | _ => none)
theorem zall_mem {arr : Array Slot} {j : Nat} {v : Value} : (j, v) ∈ zall arr ↔ arr[j]? = some (.val v) := by
  unfold zall
  rw [List.mem_filterMap]
  constructor
  · rintro ⟨k, -, hk⟩
    cases ha : arr[k]? with
    | none => rw [ha] at hk; simp at hk
    | some x =>
      rw [ha] at hk
      cases x with
      | val w => simp at hk; obtain ⟨rfl, rfl⟩ := hk; exact ha
      | unset => simp at hk
      | second => simp at hk
  · intro ha
    exact ⟨j, List.mem_range.mpr (Array.getElem?_eq_some_iff.mp ha).1, by rw [ha]⟩
theorem zall_has {arr : Array Slot} (hw : lv_wf arr) : lv_has arr arr.size (zall arr) := ⟨rfl, hw, fun q hq => zall_mem.mp hq⟩
theorem zput_spec {ls l : zLs} {k : Nat} {v : Value} (h : zput ls k v = some l) : k < ls.length ∧ zclr ls k = true ∧ l = ls.set k (some v) := by
  unfold zput at h
  split at h
  · split at h
    · cases h; exact ⟨by assumption, by assumption, rfl⟩
    · cases h
  · cases h
/-- a value of one place is stored -/
theorem zL.put {em : Nat → Nat} {scb : Nat} {ws : va_W} {ls l : zLs} {arr arr' : Array Slot} {k : Nat} {v v' : Value} (hL : zL em scb ws ls arr) (hp : zput ls k v = some l) (hv : zV em scb ws v v')
    (ha : lv_has arr' arr.size ((k, v') :: (zall arr).filter (fun q => !(q.1 == k) && !(q.1 + 1 == k && q.2.category == 2)))) : zL em scb ws l arr' := by
  obtain ⟨h1, h2, rfl⟩ := zput_spec hp
  refine ⟨by rw [ha.1, hL.1]; simp, ha.2.1, fun i w hi => ?_⟩
  by_cases hik : i = k
  · subst hik
    rw [List.getElem?_set_self h1] at hi
    cases hi
    exact ⟨v', hv, ha.2.2 (i, v') List.mem_cons_self⟩
  · rw [List.getElem?_set_ne (Ne.symm hik)] at hi
    obtain ⟨w', hw, hai⟩ := hL.2.2 i w hi
    refine ⟨w', hw, ha.2.2 (i, w') (List.mem_cons_of_mem _ (List.mem_filter.mpr ⟨zall_mem.mpr hai, ?_⟩))⟩
    by_cases h3 : i + 1 = k
    · subst h3
      have h2' : zcat1 w = true := by
        unfold zclr at h2
        simpa only [hi] using h2
      have hc : w'.category = 1 := hw.cat h2'
      simp [hc]
    · simp [hik, h3]
/-- a long is stored -/
theorem zL.putL {em : Nat → Nat} {scb : Nat} {ws : va_W} {ls l : zLs} {arr arr' : Array Slot} {k : Nat} {x : Int64} (hL : zL em scb ws ls arr) (hp : zput ls k (.long x) = some l) (hk1 : k + 1 < ls.length)
    (ha : lv_has arr' arr.size ((k, .long x) :: (zall arr).filter (fun q => !(q.1 == k) && (!(q.1 == k + 1) && !(q.1 + 1 == k && q.2.category == 2))))) : zL em scb ws (l.set (k + 1) none) arr' := by
  obtain ⟨h1, h2, rfl⟩ := zput_spec hp
  refine ⟨by rw [ha.1, hL.1]; simp, ha.2.1, fun i w hi => ?_⟩
  by_cases hi1 : i = k + 1
  · subst hi1
    rw [List.getElem?_set_self (by simpa using hk1)] at hi
    cases hi
  · rw [List.getElem?_set_ne (Ne.symm hi1)] at hi
    by_cases hik : i = k
    · subst hik
      rw [List.getElem?_set_self h1] at hi
      cases hi
      exact ⟨.long x, rfl, ha.2.2 (i, .long x) List.mem_cons_self⟩
    · rw [List.getElem?_set_ne (Ne.symm hik)] at hi
      obtain ⟨w', hw, hai⟩ := hL.2.2 i w hi
      refine ⟨w', hw, ha.2.2 (i, w') (List.mem_cons_of_mem _ (List.mem_filter.mpr ⟨zall_mem.mpr hai, ?_⟩))⟩
      by_cases h3 : i + 1 = k
      · subst h3
        have h2' : zcat1 w = true := by
          unfold zclr at h2
          simpa only [hi] using h2
        have hc : w'.category = 1 := hw.cat h2'
        simp [hc, hi1]
      · simp [hik, h3, hi1]
