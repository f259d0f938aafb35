/-! NEW OBJECTS AND ROWS; MATH; ARRAYCOPY -/
theorem zV.triv {em : Nat → Nat} {scb : Nat} {ws : va_W} {v : Value} (h : (match v with | .ref _ => false | .retAddr _ => false | _ => true) = true) : zV em scb ws v v := by
  cases v <;> first | rfl | (simp at h)
section
variable {p : Program} {l : Launch} {e : Env} {R : Room} {s : State} {m : MethodId} {args : Array Value} {below : List Frame} {meth : Method} {c : Code} {H : Heap} {locs : List Loc} {cells slots : Nat} {Q : State → Prop}
variable {cc : ByteArray} {pc : Nat} {em : Nat → Nat} {scb : Nat} {A : Nat → Prop} {D : va_G} {ws : va_W} {tys : List (ClassId × FieldType)} {own : String} {arr : Array Slot} {st st2 st' : List Value} {h h2 : zHp}
theorem z_new {idx a : Nat} (hx : p.tables.exec = Jvm.exec) (hb : c.code = cc) (hts : ∀ w ∈ zT, w.before args s = true) (hown : s.vm.findClass own = some m.cls) (hK : va_K D classes tys s) (hP : va_P D classes ws H) (hD : va_D A ws) (hV : va_S A s.heap H locs) (hA : ∀ q, s.heap.size ≤ q → A q)
    (hR : zR em scb ws tys h) (hS : zSt em scb ws st st') (hp : znew a h st = some (h2, st2)) (hk : znlk own idx a) (hcells : cells + 1 ≤ R.cells) (hslots : slots + ((zdfs[a]?).getD []).length ≤ R.slots) (hd : decode cc pc = .ok (.new idx, 3))
    (kk : ∀ (st2' : List Value) (ws' : va_W) (H1 : Heap), zLe ws ws' → va_P D classes ws' H1 → va_D A ws' → va_S A s.heap H1 locs → zR em scb ws' tys h2 → zSt em scb ws' st2 st2' → W p l e R s m args below meth c H1 locs (cells + 1) (slots + ((zdfs[a]?).getD []).length) Q (F0 m (pc + 3) arr st2')) : W p l e R s m args below meth c H locs cells slots Q (F0 m pc arr st') := by
  obtain ⟨C, T, N, ty, h0, h1, h3, h4, h5, h6, h7, h8, h9, h10⟩ := hk
  unfold znew at hp
  by_cases hl : h.length < 1000000
  · rw [if_pos h0, if_pos hl] at hp
    cases hp
    have hN := h9
    rw [hN] at hslots kk
    refine va_new (ci := a) (fs := (zdfs[a]?).getD []) hx hb hts h3 ty h4 hown (hts _ h5) (hts _ h6) (hts _ h7) hK hP hD hV hA h1 h8 hcells hslots hd (fun q H1 j1 j2 j3 => ?_)
    have hX : zX em scb (ws ++ [(q, .inr (a, (zdfs[a]?).getD []))]) tys (a, (zdfs[a]?).getD []) (.inr (a, (zdfs[a]?).getD [])) := by
      refine Or.inl ⟨by show a < 12; omega, _, rfl, rfl, fun j v hj => ⟨v, hj, zV.triv ?_⟩⟩
      exact List.all_eq_true.mp h10 v (List.mem_of_getElem? hj)
    have hRn := hR.push (tys' := tys) (fun _ _ z => z) hX
    exact kk _ _ H1 zLe.push j1 j2 j3 hRn ⟨⟨q, _, by rw [← hR.1, List.getElem?_append_right (Nat.le_refl _), Nat.sub_self]; rfl, rfl⟩, hS.le zLe.push⟩
  · rw [if_pos h0, if_neg hl] at hp
    cases hp
theorem znewa_spec {a : Nat} (hp : znewa a h st = some (h2, st2)) : ∃ n r, st = .int n :: r ∧ zin n 10000 = true ∧ st2 = .ref h.length :: r ∧ h2 = h ++ [(a, List.replicate n.toNatClampNeg (if a = 102 then .long 0 else if a = 103 then .null else .int 0))] := by
  unfold znewa at hp
  split at hp
  · split at hp
    · split at hp
      · rename_i hz
        cases hp
        exact ⟨_, _, rfl, hz, rfl, rfl⟩
      · cases hp
    · cases hp
  · cases hp
theorem zin_nn {n : Int32} {N : Nat} (h : zin n N = true) : ¬ n < 0 ∧ n.toNatClampNeg < N := by
  simp only [zin, Bool.and_eq_true, decide_eq_true_eq] at h
  exact ⟨by rw [Int32.not_lt]; exact h.1, h.2⟩
theorem z_newi (hx : p.tables.exec = Jvm.exec) (hb : c.code = cc) (harr : (Cond.arrayClass .int).before args s = true) (hK : va_K D classes tys s) (hP : va_P D classes ws H) (hD : va_D A ws) (hV : va_S A s.heap H locs) (hA : ∀ q, s.heap.size ≤ q → A q)
    (hR : zR em scb ws tys h) (hS : zSt em scb ws st st') (hp : znewa 100 h st = some (h2, st2)) (hd : decode cc pc = .ok (.newarray .int, 2)) (hcells : cells + 1 ≤ R.cells) (hslots : ∀ ob, h2 = h ++ [ob] → slots + ob.2.length ≤ R.slots)
    (kk : ∀ (st2' : List Value) (ws' : va_W) (tys' : List (ClassId × FieldType)) (H1 : Heap) (n : Nat), (∀ ob, h2 = h ++ [ob] → ob.2.length = n) → va_K D classes tys' s → zLe ws ws' → va_P D classes ws' H1 → va_D A ws' → va_S A s.heap H1 locs → zR em scb ws' tys' h2 → zSt em scb ws' st2 st2' → W p l e R s m args below meth c H1 locs (cells + 1) (slots + n) Q (F0 m (pc + 2) arr st2')) : W p l e R s m args below meth c H locs cells slots Q (F0 m pc arr st') := by
  obtain ⟨n, r, rfl, hz, rfl, rfl⟩ := znewa_spec hp
  obtain ⟨r', rfl, hr⟩ := hS.int
  obtain ⟨hn, hlt⟩ := zin_nn hz
  have hs := hslots _ rfl
  simp only [List.length_replicate] at hs
  refine va_newa (atype := .int) (ty := .int) (a0 := (n.toNatClampNeg, .inl fun _ => 0)) hx hb harr rfl hK hP hD hV hA (fun _ => rfl) hn rfl (by show n.toNatClampNeg * 4 ≤ _; omega) hcells hs hd (fun q cA H1 jK j1 j2 j3 => ?_)
  have hX : zX em scb (ws ++ [(q, .inl (cA, n.toNatClampNeg, .inl fun _ => 0))]) (tys ++ [(cA, .int)]) (100, List.replicate n.toNatClampNeg (if 100 = 102 then .long 0 else if 100 = 103 then .null else .int 0)) (.inl (cA, n.toNatClampNeg, .inl fun _ => 0)) := by
    refine Or.inr (Or.inl ⟨rfl, cA, tys.length, fun _ => 0, by simp, by simp, fun j hj => ?_⟩)
    simp at hj
    simp [hj]
  have hRn := hR.push (tys' := tys ++ [(cA, .int)]) (fun k q' z => by rw [List.getElem?_append_left (List.getElem?_eq_some_iff.mp z).1]; exact z) hX
  exact kk _ _ _ H1 _ (fun ob z => by have := List.append_cancel_left z; cases this; simp) jK zLe.push j1 j2 j3 hRn ⟨⟨q, _, by rw [← hR.1, List.getElem?_append_right (Nat.le_refl _), Nat.sub_self]; rfl, rfl⟩, hr.le zLe.push⟩
theorem z_newz (hx : p.tables.exec = Jvm.exec) (hb : c.code = cc) (harr : (Cond.arrayClass .boolean).before args s = true) (hK : va_K D classes tys s) (hP : va_P D classes ws H) (hD : va_D A ws) (hV : va_S A s.heap H locs) (hA : ∀ q, s.heap.size ≤ q → A q)
    (hR : zR em scb ws tys h) (hS : zSt em scb ws st st') (hp : znewa 101 h st = some (h2, st2)) (hd : decode cc pc = .ok (.newarray .boolean, 2)) (hcells : cells + 1 ≤ R.cells) (hslots : ∀ ob, h2 = h ++ [ob] → slots + ob.2.length ≤ R.slots)
    (kk : ∀ (st2' : List Value) (ws' : va_W) (tys' : List (ClassId × FieldType)) (H1 : Heap) (n : Nat), (∀ ob, h2 = h ++ [ob] → ob.2.length = n) → va_K D classes tys' s → zLe ws ws' → va_P D classes ws' H1 → va_D A ws' → va_S A s.heap H1 locs → zR em scb ws' tys' h2 → zSt em scb ws' st2 st2' → W p l e R s m args below meth c H1 locs (cells + 1) (slots + n) Q (F0 m (pc + 2) arr st2')) : W p l e R s m args below meth c H locs cells slots Q (F0 m pc arr st') := by
  obtain ⟨n, r, rfl, hz, rfl, rfl⟩ := znewa_spec hp
  obtain ⟨r', rfl, hr⟩ := hS.int
  obtain ⟨hn, hlt⟩ := zin_nn hz
  have hs := hslots _ rfl
  simp only [List.length_replicate] at hs
  refine va_newa (atype := .boolean) (ty := .boolean) (a0 := (n.toNatClampNeg, .inl fun _ => 0)) hx hb harr rfl hK hP hD hV hA (fun _ => rfl) hn rfl (by show n.toNatClampNeg * 1 ≤ _; omega) hcells hs hd (fun q cA H1 jK j1 j2 j3 => ?_)
  have hX : zX em scb (ws ++ [(q, .inl (cA, n.toNatClampNeg, .inl fun _ => 0))]) (tys ++ [(cA, .boolean)]) (101, List.replicate n.toNatClampNeg (if 101 = 102 then .long 0 else if 101 = 103 then .null else .int 0)) (.inl (cA, n.toNatClampNeg, .inl fun _ => 0)) := by
    refine Or.inr (Or.inr (Or.inl ⟨rfl, cA, tys.length, fun _ => 0, by simp, by simp, fun j hj => ?_⟩))
    simp at hj
    simp [hj]
  have hRn := hR.push (tys' := tys ++ [(cA, .boolean)]) (fun k q' z => by rw [List.getElem?_append_left (List.getElem?_eq_some_iff.mp z).1]; exact z) hX
  exact kk _ _ _ H1 _ (fun ob z => by have := List.append_cancel_left z; cases this; simp) jK zLe.push j1 j2 j3 hRn ⟨⟨q, _, by rw [← hR.1, List.getElem?_append_right (Nat.le_refl _), Nat.sub_self]; rfl, rfl⟩, hr.le zLe.push⟩
theorem z_newl (hx : p.tables.exec = Jvm.exec) (hb : c.code = cc) (harr : (Cond.arrayClass .long).before args s = true) (hK : va_K D classes tys s) (hP : va_P D classes ws H) (hD : va_D A ws) (hV : va_S A s.heap H locs) (hA : ∀ q, s.heap.size ≤ q → A q)
    (hR : zR em scb ws tys h) (hS : zSt em scb ws st st') (hp : znewa 102 h st = some (h2, st2)) (hd : decode cc pc = .ok (.newarray .long, 2)) (hcells : cells + 1 ≤ R.cells) (hslots : ∀ ob, h2 = h ++ [ob] → slots + ob.2.length ≤ R.slots)
    (kk : ∀ (st2' : List Value) (ws' : va_W) (tys' : List (ClassId × FieldType)) (H1 : Heap) (n : Nat), (∀ ob, h2 = h ++ [ob] → ob.2.length = n) → va_K D classes tys' s → zLe ws ws' → va_P D classes ws' H1 → va_D A ws' → va_S A s.heap H1 locs → zR em scb ws' tys' h2 → zSt em scb ws' st2 st2' → W p l e R s m args below meth c H1 locs (cells + 1) (slots + n) Q (F0 m (pc + 2) arr st2')) : W p l e R s m args below meth c H locs cells slots Q (F0 m pc arr st') := by
  obtain ⟨n, r, rfl, hz, rfl, rfl⟩ := znewa_spec hp
  obtain ⟨r', rfl, hr⟩ := hS.int
  obtain ⟨hn, hlt⟩ := zin_nn hz
  have hs := hslots _ rfl
  simp only [List.length_replicate] at hs
  refine va_newa (atype := .long) (ty := .long) (a0 := (n.toNatClampNeg, .inr (.inl fun _ => 0))) hx hb harr rfl hK hP hD hV hA (fun _ => rfl) hn rfl (by show n.toNatClampNeg * 8 ≤ _; omega) hcells hs hd (fun q cA H1 jK j1 j2 j3 => ?_)
  have hX : zX em scb (ws ++ [(q, .inl (cA, n.toNatClampNeg, .inr (.inl fun _ => 0)))]) (tys ++ [(cA, .long)]) (102, List.replicate n.toNatClampNeg (if 102 = 102 then .long 0 else if 102 = 103 then .null else .int 0)) (.inl (cA, n.toNatClampNeg, .inr (.inl fun _ => 0))) := by
    refine Or.inr (Or.inr (Or.inr (Or.inl ⟨rfl, cA, tys.length, fun _ => 0, by simp, by simp, fun j hj => ?_⟩)))
    simp at hj
    simp [hj]
  have hRn := hR.push (tys' := tys ++ [(cA, .long)]) (fun k q' z => by rw [List.getElem?_append_left (List.getElem?_eq_some_iff.mp z).1]; exact z) hX
  exact kk _ _ _ H1 _ (fun ob z => by have := List.append_cancel_left z; cases this; simp) jK zLe.push j1 j2 j3 hRn ⟨⟨q, _, by rw [← hR.1, List.getElem?_append_right (Nat.le_refl _), Nat.sub_self]; rfl, rfl⟩, hr.le zLe.push⟩
theorem z_newq {idx : Nat} (hx : p.tables.exec = Jvm.exec) (hb : c.code = cc) (hown : s.vm.findClass own = some m.cls) (hcl : (Cond.classLink own idx "java/lang/Object").before args s = true) (hao : va_AO "java/lang/Object" s) (hK : va_K D classes tys s) (hP : va_P D classes ws H) (hD : va_D A ws) (hV : va_S A s.heap H locs) (hA : ∀ q, s.heap.size ≤ q → A q)
    (hR : zR em scb ws tys h) (hS : zSt em scb ws st st') (hp : znewa 103 h st = some (h2, st2)) (hd : decode cc pc = .ok (.anewarray idx, 3)) (hcells : cells + 1 ≤ R.cells) (hslots : ∀ ob, h2 = h ++ [ob] → slots + ob.2.length ≤ R.slots)
    (kk : ∀ (st2' : List Value) (ws' : va_W) (tys' : List (ClassId × FieldType)) (H1 : Heap) (n : Nat), (∀ ob, h2 = h ++ [ob] → ob.2.length = n) → va_K D classes tys' s → zLe ws ws' → va_P D classes ws' H1 → va_D A ws' → va_S A s.heap H1 locs → zR em scb ws' tys' h2 → zSt em scb ws' st2 st2' → W p l e R s m args below meth c H1 locs (cells + 1) (slots + n) Q (F0 m (pc + 3) arr st2')) : W p l e R s m args below meth c H locs cells slots Q (F0 m pc arr st') := by
  obtain ⟨n, r, rfl, hz, rfl, rfl⟩ := znewa_spec hp
  obtain ⟨r', rfl, hr⟩ := hS.int
  obtain ⟨hn, hlt⟩ := zin_nn hz
  have hs := hslots _ rfl
  simp only [List.length_replicate] at hs
  refine va_newq hx hb hown hcl hao hK hP hD hV hA hn rfl (by omega) hcells hs hd (fun q cA H1 jK j1 j2 j3 => ?_)
  have hX : zX em scb (ws ++ [(q, .inl (cA, n.toNatClampNeg, .inr (.inr (.inr (.inr fun _ => none)))))]) (tys ++ [(cA, .object "java/lang/Object")]) (103, List.replicate n.toNatClampNeg (if 103 = 102 then .long 0 else if 103 = 103 then .null else .int 0)) (.inl (cA, n.toNatClampNeg, .inr (.inr (.inr (.inr fun _ => none))))) := by
    refine Or.inr (Or.inr (Or.inr (Or.inr ⟨rfl, cA, tys.length, fun _ => none, by simp, by simp, fun j hj => ⟨.null, ?_, Or.inl rfl, rfl⟩⟩)))
    simp at hj
    simp [hj]
  have hRn := hR.push (tys' := tys ++ [(cA, .object "java/lang/Object")]) (fun k q' z => by rw [List.getElem?_append_left (List.getElem?_eq_some_iff.mp z).1]; exact z) hX
  exact kk _ _ _ H1 _ (fun ob z => by have := List.append_cancel_left z; cases this; simp) jK zLe.push j1 j2 j3 hRn ⟨⟨q, _, by rw [← hR.1, List.getElem?_append_right (Nat.le_refl _), Nat.sub_self]; rfl, rfl⟩, hr.le zLe.push⟩
theorem zcpy_get {s t : List Value} {sp dp n j : Nat} (h1 : sp + n ≤ s.length) (h2 : dp + n ≤ t.length) : (zcpy s t sp dp n)[j]? = if dp ≤ j ∧ j < dp + n then s[sp + (j - dp)]? else t[j]? := by
  unfold zcpy
  by_cases ha : j < dp
  · rw [List.getElem?_append_left (by simp; omega), if_neg (by omega), List.getElem?_take_of_lt ha]
  · rw [List.getElem?_append_right (by simp; omega)]
    have e1 : (t.take dp).length = dp := by simp; omega
    rw [e1]
    by_cases hb : j < dp + n
    · rw [if_pos ⟨by omega, hb⟩, List.getElem?_append_left (by simp; omega), List.getElem?_take_of_lt (by omega), List.getElem?_drop]
    · rw [if_neg (by omega), List.getElem?_append_right (by simp; omega)]
      have e2 : ((s.drop sp).take n).length = n := by simp; omega
      rw [e2, List.getElem?_drop]
      congr 1
      omega
theorem zcpy_len {s t : List Value} {sp dp n : Nat} (h1 : sp + n ≤ s.length) (h2 : dp + n ≤ t.length) : (zcpy s t sp dp n).length = t.length := by
  unfold zcpy
  simp
  omega
end
