/-! A STEP OVER THE HEAP, AS A WHOLE -/
def zosz (ob : zOb) : Nat := if 9 ≤ ob.1 ∧ ob.1 < 12 then 6 else ob.2.length
def zsz (h : zHp) : Nat := (h.map zosz).sum
theorem zsz_push {h : zHp} {ob : zOb} : zsz (h ++ [ob]) = zsz h + zosz ob := by simp [zsz]
theorem zsz_set : ∀ {h : zHp} {q : Nat} {ob ob' : zOb}, h[q]? = some ob → zosz ob' = zosz ob → zsz (h.set q ob') = zsz h
  | [], q, ob, ob', h1, _ => by simp at h1
  | x :: r, 0, ob, ob', h1, h2 => by
    simp at h1; subst h1
    simp [zsz, h2]
  | x :: r, q + 1, ob, ob', h1, h2 => by
    have := zsz_set (h := r) (q := q) (ob := ob) (ob' := ob') (by simpa using h1) h2
    unfold zsz at this ⊢
    rw [List.set_cons_succ, List.map_cons, List.map_cons, List.sum_cons, List.sum_cons, this]
theorem zputf_len {a b : Nat} {h h2 : zHp} {st st2 : List Value} (hp : zputf a b h st = some (h2, st2)) : h2.length = h.length ∧ zsz h2 = zsz h := by
  unfold zputf at hp
  split at hp
  · split at hp
    · rename_i c0 fs hq
      split at hp
      · split at hp
        · split at hp
          · cases hp
            exact ⟨by simp, zsz_set hq (by simp [zosz])⟩
          · cases hp
        · cases hp
      · cases hp
    · cases hp
  · cases hp
theorem zast_len {k : Nat} {h h2 : zHp} {st st2 : List Value} (hp : zast k h st = some (h2, st2)) : h2.length = h.length ∧ zsz h2 = zsz h := by
  obtain ⟨v, i, q, s0, rfl, hq, hi, hf, rfl⟩ := zast_spec hp
  exact ⟨by simp, zsz_set hq (by simp [zosz])⟩
theorem zbuilt_len {a : Nat} {h h2 : zHp} {st st2 : List Value} (hp : zbuilt a h st = some (h2, st2)) : h2.length = h.length ∧ zsz h2 = zsz h := by
  unfold zbuilt at hp
  split at hp
  · split at hp
    · cases hp; exact ⟨rfl, rfl⟩
    · cases hp
  split at hp
  · split at hp
    · cases hp; exact ⟨rfl, rfl⟩
    · cases hp
  split at hp
  · split at hp
    · cases hp; exact ⟨rfl, rfl⟩
    · cases hp
  split at hp
  · split at hp
    · cases hp; exact ⟨rfl, rfl⟩
    · cases hp
  split at hp
  · split at hp
    · split at hp
      · split at hp
        · rename_i hq
          split at hp
          · split at hp
            · rename_i e1
              split at hp
              · rename_i hc
                cases hp
                subst e1
                exact ⟨by simp, zsz_set hq (by simp [zosz, zcpy_len hc.2.2.2.1 hc.2.2.2.2])⟩
              · cases hp
            · cases hp
          · cases hp
        · cases hp
      · cases hp
    · cases hp
  split at hp
  · split at hp
    · split at hp
      · split at hp
        · cases hp; exact ⟨rfl, rfl⟩
        · cases hp
      · cases hp
    · cases hp
  · cases hp
def zkd (m : Nat) (i : Instr) : Nat := match i with
  | .putfield _ => (zinf m).2.2.1
  | _ => 0
def zCx (p : Program) (R : Room) (s : State) (mi : MethodId) (args : Array Value) (meth : Method) (c : Code) (em : Nat → Nat) (scb : Nat) (A : Nat → Prop) (sc : zScr) (d m : Nat) : Prop :=
  p.tables.exec = Jvm.exec ∧ c.code = zby m ∧ c.maxLocals = (zinf m).2.1 ∧ s.vm.findClass (zy m).cls = some mi.cls ∧ (∀ w ∈ zT, w.before args s = true) ∧ meth.locks = false ∧ ((zinf m).2.2.1 = 2 → meth.name = "<init>") ∧ 16 + d ≤ R.frames ∧ 300 + 120 * d ≤ R.locals ∧
  zG em A s s.heap ∧ (∀ q, s.heap.size ≤ q → A q) ∧ (∀ L xs, sc = some (L, xs) → va_X scb L xs s s.heap ∧ scb < s.heap.size ∧ ¬ A scb) ∧ c.exceptionTable.toList = tableOf (zhh m)
theorem zcs0 : Cond.castable "DoorstepRides$Plan" "java/lang/Object" ∈ zB := zmB (zt4 (List.mem_of_getElem? (i := 229) rfl)) rfl
theorem zcs1 : Cond.castable "DoorstepRides$Request" "java/lang/Object" ∈ zB := zmB (zt4 (List.mem_of_getElem? (i := 231) rfl)) rfl
theorem zcs2 : Cond.castable "DoorstepRides$Rider" "java/lang/Object" ∈ zB := zmB (zt4 (List.mem_of_getElem? (i := 227) rfl)) rfl
theorem zcs3 : Cond.castable "DoorstepRides$Search" "java/lang/Object" ∈ zB := zmB (zt4 (List.mem_of_getElem? (i := 224) rfl)) rfl
theorem zcs4 : Cond.castable "DoorstepRides$Stop" "java/lang/Object" ∈ zB := zmB (zt4 (List.mem_of_getElem? (i := 232) rfl)) rfl
theorem zcs5 : Cond.castable "DoorstepRides$Vehicle" "java/lang/Object" ∈ zB := zmB (zt4 (List.mem_of_getElem? (i := 228) rfl)) rfl
theorem zcs6 : Cond.castable "DoorstepRides" "java/lang/Object" ∈ zB := zmB (zt4 (List.mem_of_getElem? (i := 222) rfl)) rfl
theorem zcs7 : Cond.castable "java/util/ArrayList" "java/lang/Object" ∈ zB := zmB (zt4 (List.mem_of_getElem? (i := 223) rfl)) rfl
theorem zcs8 : Cond.castable "java/util/ArrayList" "java/lang/Object" ∈ zB := zmB (zt4 (List.mem_of_getElem? (i := 223) rfl)) rfl
theorem zCs : ∀ (ci : Nat), ci < 9 → ∀ (r : vw_C), classes[ci]? = some r → Cond.castable r.1 "java/lang/Object" ∈ zB := by
  intro ci h
  match ci, h with
  | 0, _ => intro r hr; cases hr; exact zcs0
  | 1, _ => intro r hr; cases hr; exact zcs1
  | 2, _ => intro r hr; cases hr; exact zcs2
  | 3, _ => intro r hr; cases hr; exact zcs3
  | 4, _ => intro r hr; cases hr; exact zcs4
  | 5, _ => intro r hr; cases hr; exact zcs5
  | 6, _ => intro r hr; cases hr; exact zcs6
  | 7, _ => intro r hr; cases hr; exact zcs7
  | 8, _ => intro r hr; cases hr; exact zcs8
section
variable {p : Program} {l : Launch} {e : Env} {R : Room} {s : State} {m : MethodId} {args : Array Value} {below : List Frame} {meth : Method} {c : Code} {H : Heap} {locs : List Loc} {cells slots : Nat} {Q : State → Prop}
variable {pc : Nat} {em : Nat → Nat} {scb : Nat} {A : Nat → Prop} {D : va_G} {ws : va_W} {tys : List (ClassId × FieldType)} {arr : Array Slot} {st st2 st' : List Value} {h h2 : zHp}
set_option maxHeartbeats 8000000 in
theorem z_heap {sc : zScr} {d k : Nat} {i : Instr} {imm : Int32} {a b : Nat} (C0 : zCx p R s m args meth c em scb A sc d k) (hK : va_K D classes tys s) (hP : va_P D classes ws H) (hD : va_D A ws) (hV : va_S A s.heap H locs)
    (hR : zR em scb ws tys h) (hS : zSt em scb ws st st') (har : arr.size = (zinf k).2.1) (hp : zheap sc i a b h st = some (h2, st2)) (hd : decode (zby k) pc = .ok (i, zlen i)) (hk : zlnk (zy k).cls (zkd k i) i imm a b) (hg : zgrp i a = 2)
    (hc1 : cells + (h2.length - h.length) ≤ R.cells) (hc2 : slots + (zsz h2 - zsz h) ≤ R.slots)
    (kk : ∀ (st2' : List Value) (ws' : va_W) (tys' : List (ClassId × FieldType)) (H1 : Heap) (locs1 : List Loc), va_K D classes tys' s → zLe ws ws' → va_P D classes ws' H1 → va_D A ws' → va_S A s.heap H1 locs1 → zR em scb ws' tys' h2 → zSt em scb ws' st2 st2' → h.length ≤ h2.length → zsz h ≤ zsz h2 → W p l e R s m args below meth c H1 locs1 (cells + (h2.length - h.length)) (slots + (zsz h2 - zsz h)) Q (F0 m (pc + zlen i) arr st2')) : W p l e R s m args below meth c H locs cells slots Q (F0 m pc arr st') := by
  obtain ⟨hx, hb, hml, hown, hts, hlk, hini, hfr, hlo, hG, hA, hsc, htb⟩ := C0
  have hG0 := hG
  obtain ⟨g0, g1, g2, g3, g4, g5, g6, g7, g8, g9, g10⟩ := hG
  have hcs : ∀ (ci : Nat) (r : vw_C), ci < 9 → classes[ci]? = some r → va_Nw (.castable r.1 "java/lang/Object") s := fun ci r h9 hr => g5 _ (zCs ci h9 r hr)
  -- where nothing is made
  have k0 : h2.length = h.length → zsz h2 = zsz h → ∀ (st2' : List Value) (ws' : va_W) (H1 : Heap) (locs1 : List Loc), zLe ws ws' → va_P D classes ws' H1 → va_D A ws' → va_S A s.heap H1 locs1 → zR em scb ws' tys h2 → zSt em scb ws' st2 st2' → W p l e R s m args below meth c H1 locs1 cells slots Q (F0 m (pc + zlen i) arr st2') := by
    intro e1 e2 st2' ws' H1 locs1 j1 j2 j3 j4 j5 j6
    have := kk st2' ws' tys H1 locs1 hK j1 j2 j3 j4 j5 j6 (by omega) (by omega)
    rw [e1, e2, Nat.sub_self, Nat.sub_self] at this
    exact this
  have kr : ∀ (st2' : List Value), h2 = h → zSt em scb ws st2 st2' → W p l e R s m args below meth c H locs cells slots Q (F0 m (pc + zlen i) arr st2') := fun st2' e1 j => k0 (by rw [e1]) (by rw [e1]) st2' ws H locs zLe.rf hP hD hV (by rw [e1]; exact hR) j
  have km : ∀ (n : Nat), (∀ ob, h2 = h ++ [ob] → ob.2.length = n ∧ ¬ (9 ≤ ob.1 ∧ ob.1 < 12)) → (∃ ob, h2 = h ++ [ob]) → h2.length - h.length = 1 ∧ zsz h2 - zsz h = n ∧ h.length ≤ h2.length ∧ zsz h ≤ zsz h2 := by
    rintro n hn ⟨ob, rfl⟩
    obtain ⟨e1, e2⟩ := hn ob rfl
    rw [zsz_push]
    simp only [zosz, if_neg e2, e1, List.length_append, List.length_singleton]
    omega
  unfold zheap at hp
  split at hp
  · -- getfield
    exact z_getf hx hb hts hown hK hP hR hS hp hk hd kr
  · -- putfield
    obtain ⟨hk, hfin⟩ := hk
    obtain ⟨e1, e2⟩ := zputf_len hp
    exact z_putf hx hb hts hown hK hP hD hV hR hS hp hk (fun hf => by obtain ⟨f1, f2⟩ := hfin hf; exact ⟨hini f1, f2⟩) hd (k0 e1 e2)
  · -- getstatic
    cases hp
    exact va_gets hx hb g1 hV hown (hts _ hk) (fun _ z => z) hd (kr _ rfl ⟨rfl, hS⟩)
  · -- ldc of a class
    rename_i idx
    cases hp
    have ha : a = 1 := by
      simp only [zgrp] at hg
      split at hg
      · assumption
      · cases hg
    rcases hk with ⟨-, hk⟩ | ⟨hk, -⟩
    · exact va_ldcM hx hb hown (hts _ hk) g9 hd (kr _ rfl ⟨rfl, hS⟩)
    · omega
  · -- invokevirtual: getClass
    rename_i idx
    have hp : (if st.length ≤ 12 then zbuilt a h st else none) = some (h2, st2) := hp
    by_cases hln : st.length ≤ 12
    · rw [if_pos hln] at hp
      rcases hk with ⟨rfl, q1, q2, q3, q4⟩ | ⟨hk, -⟩
      · simp only [zbuilt] at hp
        simp only [show ¬ (2005 = 2000) by decide, show ¬ (2005 = 2001) by decide, show ¬ (2005 = 2002) by decide, show ¬ (2005 = 2003) by decide, show ¬ (2005 = 2004) by decide, if_false, if_pos] at hp
        split at hp
        · rename_i q r
          split at hp
          · rename_i c0 s0 hq
            split at hp
            · rename_i hc
              subst hc
              cases hp
              have hl2 := hS.len
              obtain ⟨x', r', rfl, ⟨ad, e0, j1, rfl⟩, hr⟩ := hS.any
              obtain ⟨ad2, e1, j2, j3⟩ := hR.get hq
              rw [j1] at j2
              cases j2
              rcases j3 with ⟨k1, -⟩ | ⟨k1, -⟩ | ⟨k1, -⟩ | ⟨k1, -⟩ | ⟨-, cA, t, f, rfl, j4, -⟩
              · simp at k1
              · simp at k1
              · simp at k1
              · simp at k1
              · have hra := (hK.2 t _ j4).2
                obtain ⟨kA, comp, -, -, -, hra⟩ := hra
                have e9 : "[" ++ (FieldType.object "java/lang/Object").toString = "[Ljava/lang/Object;" := by decide +kernel
                rw [e9] at hra
                have hrec : ∃ cell : Cell, H[ad]? = some cell ∧ cell.vm.isStatics = false ∧ s.vm.findClass "[Ljava/lang/Object;" = some cell.cls := ⟨_, hP _ _ j1, rfl, hra⟩
                have hcat := zcats r'
                have hz : r'.length ≤ 12 := by simp only [List.length_cons] at hl2 hln; omega
                exact va_getC hx hb (by rw [hml, har]) hown (hts _ q1) (va_Dc.use g8) (hts _ q2) (hts _ q3) (hts _ q4) g9 hrec (by omega) (by omega) hd (kr _ rfl ⟨rfl, hr⟩)
            · cases hp
          · cases hp
        · cases hp
      · simp only [zgrp, if_neg (show ¬ 2000 ≤ a by omega)] at hg
        cases hg
    · rw [if_neg hln] at hp
      cases hp
  · exact z_ald100 hx hb hK hP hV hsc hR hS hp hd kr
  · exact z_ald101 hx hb hK hP hR hS hp hd kr
  · exact z_ald102 hx hb hK hP hR hS hp hd kr
  · exact z_ald103 hx hb hK hP hR hS hp hd kr
  · obtain ⟨e1, e2⟩ := zast_len hp
    exact z_ast100 hx hb hK hP hD hV hR hS hp hd (k0 e1 e2)
  · obtain ⟨e1, e2⟩ := zast_len hp
    exact z_ast101 hx hb hK hP hD hV hR hS hp hd (k0 e1 e2)
  · obtain ⟨e1, e2⟩ := zast_len hp
    exact z_ast102 hx hb hK hP hD hV hR hS hp hd (k0 e1 e2)
  · obtain ⟨e1, e2⟩ := zast_len hp
    exact z_ast103 hx hb hK hP hD hV hcs hR hS hp hd (k0 e1 e2)
  · exact z_alen hx hb hK hP hV hsc g2 hR hS hp hd kr
  · -- new
    rename_i idx
    have ha9 : a < 9 := by
      simp only [zgrp] at hg
      split at hg
      · cases hg
      · omega
    have hsh : h2 = h ++ [(a, (zdfs[a]?).getD [])] := by
      unfold znew at hp
      rw [if_pos ha9] at hp
      by_cases hl6 : h.length < 1000000
      · rw [if_pos hl6] at hp
        cases hp; rfl
      · rw [if_neg hl6] at hp
        cases hp
    obtain ⟨e1, e2, e3, e4⟩ := km ((zdfs[a]?).getD []).length (fun ob ho => by rw [hsh] at ho; have := List.append_cancel_left ho; cases this; exact ⟨rfl, by show ¬ (9 ≤ a ∧ a < 12); omega⟩) ⟨_, hsh⟩
    rw [e1, e2] at kk
    rw [e1] at hc1
    rw [e2] at hc2
    exact z_new hx hb hts hown hK hP hD hV hA hR hS hp hk hc1 hc2 hd (fun st2' ws' H1 j1 j2 j3 j4 j5 j6 => kk st2' ws' tys H1 locs hK j1 j2 j3 j4 j5 j6 e3 e4)
  · -- newarray
    rename_i at0
    have hsh : ∃ n : Nat, ∃ v : Value, h2 = h ++ [(a, List.replicate n v)] := by
      obtain ⟨n, r, -, -, -, hh⟩ := znewa_spec hp
      exact ⟨_, _, hh⟩
    obtain ⟨n, v, hsh⟩ := hsh
    have ha : ¬ (9 ≤ a ∧ a < 12) := by rcases hk with ⟨rfl, -⟩ | ⟨rfl, -⟩ | ⟨rfl, -⟩ <;> omega
    obtain ⟨e1, e2, e3, e4⟩ := km n (fun ob ho => by rw [hsh] at ho; have := List.append_cancel_left ho; cases this; exact ⟨by simp, ha⟩) ⟨_, hsh⟩
    rw [e1, e2] at kk
    rw [e1] at hc1
    rw [e2] at hc2
    have hs9 : ∀ ob, h2 = h ++ [ob] → slots + ob.2.length ≤ R.slots := fun ob ho => by rw [hsh] at ho; have := List.append_cancel_left ho; cases this; simpa using hc2
    have fin : ∀ (st2' : List Value) (ws' : va_W) (tys' : List (ClassId × FieldType)) (H1 : Heap) (n' : Nat), (∀ ob, h2 = h ++ [ob] → ob.2.length = n') → va_K D classes tys' s → zLe ws ws' → va_P D classes ws' H1 → va_D A ws' → va_S A s.heap H1 locs → zR em scb ws' tys' h2 → zSt em scb ws' st2 st2' → W p l e R s m args below meth c H1 locs (cells + 1) (slots + n') Q (F0 m (pc + 2) arr st2') := by
      intro st2' ws' tys' H1 n' hn' j0 j1 j2 j3 j4 j5 j6
      have := hn' _ hsh
      simp at this
      subst this
      exact kk st2' ws' tys' H1 locs j0 j1 j2 j3 j4 j5 j6 e3 e4
    rcases hk with ⟨rfl, rfl, hk⟩ | ⟨rfl, rfl, hk⟩ | ⟨rfl, rfl, hk⟩
    · exact z_newi hx hb (hts _ hk) hK hP hD hV hA hR hS hp hd hc1 hs9 fin
    · exact z_newz hx hb (hts _ hk) hK hP hD hV hA hR hS hp hd hc1 hs9 fin
    · exact z_newl hx hb (hts _ hk) hK hP hD hV hA hR hS hp hd hc1 hs9 fin
  · -- anewarray
    have hsh : ∃ n : Nat, ∃ v : Value, h2 = h ++ [(103, List.replicate n v)] := by
      obtain ⟨n, r, -, -, -, hh⟩ := znewa_spec hp
      exact ⟨_, _, hh⟩
    obtain ⟨n, v, hsh⟩ := hsh
    obtain ⟨e1, e2, e3, e4⟩ := km n (fun ob ho => by rw [hsh] at ho; have := List.append_cancel_left ho; cases this; exact ⟨by simp, by show ¬ (9 ≤ 103 ∧ 103 < 12); decide⟩) ⟨_, hsh⟩
    rw [e1, e2] at kk
    rw [e1] at hc1
    rw [e2] at hc2
    have hs9 : ∀ ob, h2 = h ++ [ob] → slots + ob.2.length ≤ R.slots := fun ob ho => by rw [hsh] at ho; have := List.append_cancel_left ho; cases this; simpa using hc2
    refine z_newq hx hb hown (hts _ hk) g7 hK hP hD hV hA hR hS hp hd hc1 hs9 ?_
    intro st2' ws' tys' H1 n' hn' j0 j1 j2 j3 j4 j5 j6
    have := hn' _ hsh
    simp at this
    subst this
    exact kk st2' ws' tys' H1 locs j0 j1 j2 j3 j4 j5 j6 e3 e4
  · -- checkcast
    obtain ⟨C, T, N, q1, q2, q3⟩ := hk
    exact z_cast hx hb hown hK hP hR hS hp q1 q2 (hts _ q3) hd kr
  · -- invokespecial: Object()
    have hp : (if st.length ≤ 12 then zbuilt a h st else none) = some (h2, st2) := hp
    by_cases hln : st.length ≤ 12
    · rw [if_pos hln] at hp
      rcases hk with ⟨rfl, hk⟩ | ⟨hk, -⟩
      · obtain ⟨e1, e2⟩ := zbuilt_len hp
        exact z_built (i := .nop) hx hb hts hown (by rw [hml, har]) hK hP hD hV hcs (by omega) (by omega) (by omega) (by omega) hln hR hS hp hk ⟨fun _ => hd, fun z => absurd z (by decide)⟩ (k0 e1 e2)
      · simp only [zgrp, if_neg (show ¬ 2000 ≤ a by omega)] at hg
        cases hg
    · rw [if_neg hln] at hp
      cases hp
  · -- invokestatic: Math, arraycopy; the law's cell
    rename_i idx9
    have hp : (if a = 2006 then (if st.length ≤ 5 then zcell sc h st else none) else if st.length ≤ 12 then zbuilt a h st else none) = some (h2, st2) := hp
    by_cases ha6 : a = 2006
    · rw [if_pos ha6] at hp
      by_cases hln : st.length ≤ 5
      · rw [if_pos hln] at hp
        rcases hk with ⟨q1, q2, hk⟩ | ⟨hk, -⟩ | ⟨-, hk⟩
        · omega
        · omega
        · exact z_cell hx hb hml hts hown hP hV hsc hS har hp (by omega) (by omega) (by omega) (by omega) hln hk hd (fun st2' H1 locs1 j0 j1 j2 j3 => k0 (by rw [j0]) (by rw [j0]) st2' ws H1 locs1 zLe.rf j1 hD j2 (by rw [j0]; exact hR) j3)
      · rw [if_neg hln] at hp
        cases hp
    rw [if_neg ha6] at hp
    by_cases hln : st.length ≤ 12
    · rw [if_pos hln] at hp
      rcases hk with ⟨q1, q2, hk⟩ | ⟨hk, -⟩ | ⟨hk, -⟩
      · obtain ⟨e1, e2⟩ := zbuilt_len hp
        exact z_built (i := .nop) hx hb hts hown (by rw [hml, har]) hK hP hD hV hcs (by omega) (by omega) (by omega) (by omega) hln hR hS hp hk ⟨fun z => by omega, fun _ => hd⟩ (k0 e1 e2)
      · simp only [zgrp, if_neg (show ¬ 2000 ≤ a by omega)] at hg
        cases hg
      · exact absurd hk ha6
    · rw [if_neg hln] at hp
      cases hp
  · cases hp
end
