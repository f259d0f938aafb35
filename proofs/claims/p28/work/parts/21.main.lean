/-! THE METHODS' CONTRACTS OUT OF THE LOGICAL MACHINE -/
theorem zlook {β : Type} : ∀ (l : List (Nat × β)) (k : Nat) (v : β), l.lookup k = some v → (k, v) ∈ l
  | [], _, _, h => by simp at h
  | (a, b) :: r, k, v, h => by
    rw [List.lookup_cons] at h
    split at h
    · rename_i he
      have : k = a := by simpa using he
      cases h; subst this
      exact List.mem_cons_self
    · exact List.mem_cons_of_mem _ (zlook r k v h)
def zVo (em : Nat → Nat) (scb : Nat) (ws : va_W) : Option Value → Option Value → Prop
  | none, none => True
  | some v, some v' => zV em scb ws v v'
  | _, _ => False
def zQc (em : Nat → Nat) (scb : Nat) (A : Nat → Prop) (D : va_G) (ws : va_W) (r : zRes) (h' : zHp) : Array Value → State → Outcome → State → Prop := fun _ st o t =>
  (∃ (vo vo' : Option Value) (ws' : va_W) (tys' : List (ClassId × FieldType)), r = .inl vo ∧ o = .returned vo' ∧ zVo em scb ws' vo vo' ∧ zLe ws ws' ∧ va_K D classes tys' t ∧ va_P D classes ws' t.heap ∧ va_D A ws' ∧ zR em scb ws' tys' h') ∧ va_F A st t
def zXc (em : Nat → Nat) (scb : Nat) (A : Nat → Prop) (D : va_G) (ws : va_W) (r : zRes) (h' : zHp) : String → State → State → Prop := fun E st t =>
  ∃ (k : Nat) (ws' : va_W) (tys' : List (ClassId × FieldType)), r = .inr k ∧ 9 ≤ k ∧ zexn[k - 9]? = some E ∧ zLe ws ws' ∧ va_K D classes tys' t ∧ va_P D classes ws' t.heap ∧ va_D A ws' ∧ zR em scb ws' tys' h' ∧ va_F A st t
def zPc (em : Nat → Nat) (A : Nat → Prop) (D : va_G) (ws : va_W) (tys : List (ClassId × FieldType)) (as' : List Value) : Array Value → State → Prop := fun v U =>
  v = as'.toArray ∧ va_K D classes tys U ∧ va_P D classes ws U.heap ∧ va_D A ws ∧ zG em A U U.heap ∧ ∀ q, U.heap.size ≤ q → A q
theorem zPc_blind {em : Nat → Nat} {A : Nat → Prop} {D : va_G} {ws : va_W} {tys : List (ClassId × FieldType)} {as' : List Value} : FrameBlind (zPc em A D ws tys as') := by
  intro a U g mk ⟨h1, h2, h3, h4, h5, h6⟩
  exact ⟨h1, va_K.moved (u := U) (U := U.calling g mk a) (Vm.Alike.refl U.vm) h2, h3, h4, zG.to (s := U) (U := U.calling g mk a) h5 (State.WarmedH.refl U) (fun _ _ _ => rfl), h6⟩
def zrm (d mc ms : Nat) : Room := { frames := 16 + d, cells := mc, slots := ms, locals := 300 + 120 * d }
def zhd (k : Nat) : Cond := if zhh k = [] then .code (zy k) (zby k) (zinf k).2.1 (zrt k) else .codeWith (zy k) (zby k) (zinf k).2.1 (zrt k) (zhh k)
/-- the contract of the method k, out of a run of the logical machine of n steps -/
def zCt (l : Launch) (n d k : Nat) : Prop := ∀ (em : Nat → Nat) (scb : Nat) (A : Nat → Prop) (D : va_G) (ws : va_W) (tys : List (ClassId × FieldType)) (as as' : List Value) (h : zHp) (r : zRes) (h' : zHp),
  zev n none d k 0 (zent as (zinf k).2.1) [] h = some (r, h') → as.length = (zinf k).1 → (zinf k).1 ≤ (zinf k).2.1 → as.all zcat1 = true → (zhh k ≠ [] → ∃ vo, r = .inl vo) → zR em scb ws tys h → zSt em scb ws as as' →
  vx_Met l (zy k) (zhd k :: zT) (zrm d (h'.length - h.length) (zsz h' - zsz h)) (zPc em A D ws tys as') (zQc em scb A D ws r h') (zXc em scb A D ws r h') (h'.length - h.length) (zsz h' - zsz h) A
section
variable {p : Program} {l : Launch} {e : Env} {R : Room} {s : State} {m : MethodId} {args : Array Value} {below : List Frame} {meth : Method} {c : Code} {H : Heap} {locs : List Loc} {cells slots : Nat} {Q : State → Prop}
variable {pc : Nat} {em : Nat → Nat} {scb : Nat} {A : Nat → Prop} {D : va_G} {ws : va_W} {arr : Array Slot} {h1 : zHp} {mc ms : Nat} {st0 rest' : List Value} {a : Array Value} {r : zRes}
theorem z_after (hr : vx_Run p l e R s m args below meth c H locs cells slots mc ms (F0 m pc arr st0) rest' (zQc em scb A D ws r h1 a) (zXc em scb A D ws r h1) A) (hV : va_S A s.heap H locs)
    (kk : ∀ (vo vo' : Option Value) (ws' : va_W) (tys' : List (ClassId × FieldType)) (H1 : Heap) (locs1 : List Loc), r = .inl vo → zVo em scb ws' vo vo' → zLe ws ws' → va_K D classes tys' s → va_P D classes ws' H1 → va_D A ws' → va_S A s.heap H1 locs1 → zR em scb ws' tys' h1 → W p l e R s m args below meth c H1 locs1 (cells + mc) (slots + ms) Q (F0 m (pc + 3) arr (vo'.toList ++ rest')))
    (kx : ∀ (k : Nat) (E : String) (q : Nat) (ce : Cell) (ws' : va_W) (tys' : List (ClassId × FieldType)) (H1 : Heap) (locs1 : List Loc), r = .inr k → 9 ≤ k → zexn[k - 9]? = some E → H1[q]? = some ce → ce.vm = .none → s.vm.findClass E = some ce.cls → zLe ws ws' → va_K D classes tys' s → va_P D classes ws' H1 → va_D A ws' → va_S A s.heap H1 locs1 → zR em scb ws' tys' h1 → vx_W p l e R s m args below meth c H1 locs1 (cells + mc) (slots + ms) Q (F0 m pc arr rest') q) :
    W p l e R s m args below meth c H locs cells slots Q (F0 m pc arr st0) := by
  intro T hT X
  rcases hr T hT X with ⟨v, st₀, t, T', L, h0, X', hL, e1, e2, ⟨⟨vo, vo', ws', tys', hr1, hv, hvo, hle, hK, hP, hD, hR⟩, hF⟩, st⟩ | ⟨q, st₀, t, T', L, E, ce, h0, X', hL, e1, e2, ⟨k, ws', tys', hr1, hk9, hE, hle, hK, hP, hD, hR, hF⟩, hce, hcv, hcl, st⟩
  · cases hv
    obtain ⟨k1, k2, k3⟩ := vx_keep h0 e1 hV (fun q _ z => z) (fun q z => z) hL hF
    have hal : s.vm.Alike t.vm := by rw [← e2]; exact X'.warmed.alike
    obtain ⟨t2, a1, b1⟩ := kk vo v ws' tys' T'.heap (locs ++ L) hr1 hvo hle (va_K.moved hal.symm hK) (by rw [e1]; exact hP) hD k3 hR T' rfl X'
    exact ⟨t2, st t2 a1, b1⟩
  · obtain ⟨k1, k2, k3⟩ := vx_keep h0 e1 hV (fun q _ z => z) (fun q z => z) hL hF
    have hal : s.vm.Alike t.vm := by rw [← e2]; exact X'.warmed.alike
    obtain ⟨t2, a1, b1⟩ := kx k E q ce ws' tys' T'.heap (locs ++ L) hr1 hk9 hE (by rw [e1]; exact hce) hcv hcl hle (va_K.moved hal.symm hK) (by rw [e1]; exact hP) hD k3 hR T' rfl X'
    exact ⟨t2, st.trans a1, b1⟩
theorem zL.clr {em : Nat → Nat} {scb : Nat} {ws : va_W} {ls : zLs} {arr arr' : Array Slot} {k : Nat} {v' : Value} (hL : zL em scb ws ls arr) (h1 : k < ls.length) (h2 : zclr ls k = true)
    (ha : lv_has arr' arr.size ((k, v') :: (zall arr).filter (fun q => !(q.1 == k) && !(q.1 + 1 == k && q.2.category == 2)))) : zL em scb ws (ls.set k none) arr' := by
  refine ⟨by rw [ha.1, hL.1]; simp, ha.2.1, fun i w hi => ?_⟩
  by_cases hik : i = k
  · subst hik
    rw [List.getElem?_set_self h1] at hi
    cases hi
  · rw [List.getElem?_set_ne (Ne.symm hik)] at hi
    obtain ⟨w', hw, hai⟩ := hL.2.2 i w hi
    refine ⟨w', hw, ha.2.2 (i, w') (List.mem_cons_of_mem _ (List.mem_filter.mpr ⟨zall_mem.mpr hai, ?_⟩))⟩
    by_cases h3 : i + 1 = k
    · subst h3
      have h2' : zcat1 w = true := by
        unfold zclr at h2
        simpa only [hi] using h2
      have hc : w'.category = 1 := hw.cat h2'
      simp [hc]
    · simp [hik, h3]
end
/-- the body of a method, from any place of it -/
def zBody (l : Launch) (n : Nat) : Prop := ∀ (sc : zScr) (d k pc : Nat) (ls : zLs) (st : List Value) (h : zHp) (r : zRes) (h' : zHp), zev n sc d k pc ls st h = some (r, h') → (zhh k ≠ [] ∨ k = 210 → ∃ vo, r = .inl vo) →
  ∀ (p : Program) (e : Env) (R : Room) (s : State) (m : MethodId) (args : Array Value) (below : List Frame) (meth : Method) (c : Code) (em : Nat → Nat) (scb : Nat) (A : Nat → Prop) (D : va_G) (Q : State → Prop), zCx p R s m args meth c em scb A sc d k →
  ∀ (H : Heap) (locs : List Loc) (cells slots : Nat) (ws : va_W) (tys : List (ClassId × FieldType)) (arr : Array Slot) (st' : List Value), va_K D classes tys s → va_P D classes ws H → va_D A ws → va_S A s.heap H locs → zR em scb ws tys h → zL em scb ws ls arr → arr.size = (zinf k).2.1 → zSt em scb ws st st' →
  cells + (h'.length - h.length) ≤ R.cells → slots + (zsz h' - zsz h) ≤ R.slots →
  (∀ (i : Instr) (vo : Option Value) (pc1 : Nat) (H1 : Heap) (locs1 : List Loc) (ws1 : va_W) (tys1 : List (ClassId × FieldType)) (arr1 : Array Slot) (st1 st1' : List Value), r = .inl vo → decode (zby k) pc1 = .ok (i, 1) → zret i (zinf k).2.2.2.2 st1 = some vo → zSt em scb ws1 st1 st1' → zLe ws ws1 → va_K D classes tys1 s → va_P D classes ws1 H1 → va_D A ws1 → va_S A s.heap H1 locs1 → zR em scb ws1 tys1 h' → W p l e R s m args below meth c H1 locs1 (cells + (h'.length - h.length)) (slots + (zsz h' - zsz h)) Q (F0 m pc1 arr1 st1')) →
  (∀ (j : Nat) (E : String) (q : Nat) (ce : Cell) (pc1 : Nat) (H1 : Heap) (locs1 : List Loc) (ws1 : va_W) (tys1 : List (ClassId × FieldType)) (arr1 : Array Slot) (st1' : List Value), r = .inr j → 9 ≤ j → zexn[j - 9]? = some E → H1[q]? = some ce → ce.vm = .none → s.vm.findClass E = some ce.cls → zLe ws ws1 → va_K D classes tys1 s → va_P D classes ws1 H1 → va_D A ws1 → va_S A s.heap H1 locs1 → zR em scb ws1 tys1 h' → vx_W p l e R s m args below meth c H1 locs1 (cells + (h'.length - h.length)) (slots + (zsz h' - zsz h)) Q (F0 m pc1 arr1 st1') q) →
  W p l e R s m args below meth c H locs cells slots Q (F0 m pc arr st')
