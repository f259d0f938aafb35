/-! ARRAYS, NEW OBJECTS, CASTS -/
theorem zin_vp {i : Int32} {n : Nat} (h : zin i n = true) : vp_in i n := by
  simp only [zin, Bool.and_eq_true, decide_eq_true_eq] at h
  rintro (h1 | h1)
  · exact absurd h.1 (by rw [Int32.not_le]; exact h1)
  · omega
/-- a new object's link -/
def znlk (own : String) (idx a : Nat) : Prop := ∃ (C : String) (T : u_T) (N : Nat) (ty : Nat → FieldType), a < 9 ∧ classes[a]? = some (C, T, N) ∧ (∀ w ∈ u_ws C T N, w ∈ zT) ∧ (∀ k, k < N → parseFieldDescriptor (T k).2.2.1 = some (ty k)) ∧ Cond.classLink own idx C ∈ zT ∧ Cond.instantiable C N ∈ zT ∧ Cond.initialized C ∈ zT ∧ (∀ j, j < N → defaultValue (ty j) = vp_V ((zdfs[a]?).getD []) j) ∧ ((zdfs[a]?).getD []).length = N ∧ ((zdfs[a]?).getD []).all (fun v => match v with | .ref _ => false | .retAddr _ => false | _ => true) = true
section
variable {p : Program} {l : Launch} {e : Env} {R : Room} {s : State} {m : MethodId} {args : Array Value} {below : List Frame} {meth : Method} {c : Code} {H : Heap} {locs : List Loc} {cells slots : Nat} {Q : State → Prop}
variable {cc : ByteArray} {pc : Nat} {em : Nat → Nat} {scb : Nat} {A : Nat → Prop} {D : va_G} {ws : va_W} {tys : List (ClassId × FieldType)} {own : String} {arr : Array Slot} {st st2 st' : List Value} {h h2 : zHp}
theorem z_ald100 {sc : zScr} (hx : p.tables.exec = Jvm.exec) (hb : c.code = cc) (hK : va_K D classes tys s) (hP : va_P D classes ws H) (hV : va_S A s.heap H locs)
    (hsc : ∀ L xs, sc = some (L, xs) → va_X scb L xs s s.heap ∧ scb < s.heap.size ∧ ¬ A scb)
    (hR : zR em scb ws tys h) (hS : zSt em scb ws st st') (hp : zald 100 sc h st = some (h2, st2)) (hd : decode cc pc = .ok (.iaload, 1))
    (kk : ∀ (st2' : List Value), h2 = h → zSt em scb ws st2 st2' → W p l e R s m args below meth c H locs cells slots Q (F0 m (pc + 1) arr st2')) : W p l e R s m args below meth c H locs cells slots Q (F0 m pc arr st') := by
  unfold zald at hp
  split at hp
  · rename_i i r
    rw [if_pos rfl] at hp
    split at hp
    · rename_i L xs
      split at hp
      · rename_i hi
        cases hp
        obtain ⟨r1, rfl, hr1⟩ := hS.int
        obtain ⟨x', r', rfl, hv, hr⟩ := hr1.any
        have hv : x' = .ref scb := hv
        subst hv
        obtain ⟨k1, k2, k3⟩ := hsc L xs rfl
        exact va_sld hx hb k1 k2 k3 hV (zin_vp hi) hd (kk _ rfl ⟨rfl, hr⟩)
      · cases hp
    · cases hp
  · rename_i i q r
    split at hp
    · rename_i c0 s0 hq
      split at hp
      · rename_i hc
        subst hc
        split at hp
        · rename_i hi
          split at hp
          · rename_i v hv
            cases hp
            obtain ⟨r1, rfl, hr1⟩ := hS.int
            obtain ⟨x', r', rfl, ⟨ad, e0, g1, rfl⟩, hr⟩ := hr1.any
            obtain ⟨ad2, e1, g2, g3⟩ := hR.get hq
            rw [g1] at g2
            cases g2
            rcases g3 with ⟨k1, -⟩ | ⟨-, cA, t, f, rfl, k2, k3⟩ | ⟨k1, -⟩ | ⟨k1, -⟩ | ⟨k1, -⟩
            · simp at k1
            · have hlt : i.toNatClampNeg < s0.length := (List.getElem?_eq_some_iff.mp hv).1
              have := k3 _ hlt
              rw [show (100, s0).2 = s0 from rfl, hv] at this
              cases this
              exact va_iald hx hb hK hP q t g1 k2 (zin_vp hi) hd (kk _ rfl ⟨rfl, hr⟩)
            all_goals (simp at k1)
          · cases hp
        · cases hp
      · cases hp
    · cases hp
  · cases hp
theorem z_ald101 (hx : p.tables.exec = Jvm.exec) (hb : c.code = cc) (hK : va_K D classes tys s) (hP : va_P D classes ws H)
    (hR : zR em scb ws tys h) (hS : zSt em scb ws st st') (hp : zald 101 none h st = some (h2, st2)) (hd : decode cc pc = .ok (.baload, 1))
    (kk : ∀ (st2' : List Value), h2 = h → zSt em scb ws st2 st2' → W p l e R s m args below meth c H locs cells slots Q (F0 m (pc + 1) arr st2')) : W p l e R s m args below meth c H locs cells slots Q (F0 m pc arr st') := by
  unfold zald at hp
  split at hp
  · simp at hp
  · rename_i i q r
    split at hp
    · rename_i c0 s0 hq
      split at hp
      · rename_i hc
        subst hc
        split at hp
        · rename_i hi
          split at hp
          · rename_i v hv
            cases hp
            obtain ⟨r1, rfl, hr1⟩ := hS.int
            obtain ⟨x', r', rfl, ⟨ad, e0, g1, rfl⟩, hr⟩ := hr1.any
            obtain ⟨ad2, e1, g2, g3⟩ := hR.get hq
            rw [g1] at g2
            cases g2
            rcases g3 with ⟨k1, -⟩ | ⟨k1, -⟩ | ⟨-, cA, t, f, rfl, k2, k3⟩ | ⟨k1, -⟩ | ⟨k1, -⟩
            · simp at k1
            · simp at k1
            · have hlt : i.toNatClampNeg < s0.length := (List.getElem?_eq_some_iff.mp hv).1
              have := k3 _ hlt
              rw [show (101, s0).2 = s0 from rfl, hv] at this
              cases this
              exact va_zald hx hb hK hP q t g1 k2 (zin_vp hi) hd (kk _ rfl ⟨rfl, hr⟩)
            all_goals (simp at k1)
          · cases hp
        · cases hp
      · cases hp
    · cases hp
  · cases hp
theorem z_ald102 (hx : p.tables.exec = Jvm.exec) (hb : c.code = cc) (hK : va_K D classes tys s) (hP : va_P D classes ws H)
    (hR : zR em scb ws tys h) (hS : zSt em scb ws st st') (hp : zald 102 none h st = some (h2, st2)) (hd : decode cc pc = .ok (.laload, 1))
    (kk : ∀ (st2' : List Value), h2 = h → zSt em scb ws st2 st2' → W p l e R s m args below meth c H locs cells slots Q (F0 m (pc + 1) arr st2')) : W p l e R s m args below meth c H locs cells slots Q (F0 m pc arr st') := by
  unfold zald at hp
  split at hp
  · simp at hp
  · rename_i i q r
    split at hp
    · rename_i c0 s0 hq
      split at hp
      · rename_i hc
        subst hc
        split at hp
        · rename_i hi
          split at hp
          · rename_i v hv
            cases hp
            obtain ⟨r1, rfl, hr1⟩ := hS.int
            obtain ⟨x', r', rfl, ⟨ad, e0, g1, rfl⟩, hr⟩ := hr1.any
            obtain ⟨ad2, e1, g2, g3⟩ := hR.get hq
            rw [g1] at g2
            cases g2
            rcases g3 with ⟨k1, -⟩ | ⟨k1, -⟩ | ⟨k1, -⟩ | ⟨-, cA, t, f, rfl, k2, k3⟩ | ⟨k1, -⟩
            · simp at k1
            · simp at k1
            · simp at k1
            · have hlt : i.toNatClampNeg < s0.length := (List.getElem?_eq_some_iff.mp hv).1
              have := k3 _ hlt
              rw [show (102, s0).2 = s0 from rfl, hv] at this
              cases this
              exact va_lald hx hb hK hP q t g1 k2 (zin_vp hi) hd (kk _ rfl ⟨rfl, hr⟩)
            all_goals (simp at k1)
          · cases hp
        · cases hp
      · cases hp
    · cases hp
  · cases hp
theorem z_ald103 (hx : p.tables.exec = Jvm.exec) (hb : c.code = cc) (hK : va_K D classes tys s) (hP : va_P D classes ws H)
    (hR : zR em scb ws tys h) (hS : zSt em scb ws st st') (hp : zald 103 none h st = some (h2, st2)) (hd : decode cc pc = .ok (.aaload, 1))
    (kk : ∀ (st2' : List Value), h2 = h → zSt em scb ws st2 st2' → W p l e R s m args below meth c H locs cells slots Q (F0 m (pc + 1) arr st2')) : W p l e R s m args below meth c H locs cells slots Q (F0 m pc arr st') := by
  unfold zald at hp
  split at hp
  · simp at hp
  · rename_i i q r
    split at hp
    · rename_i c0 s0 hq
      split at hp
      · rename_i hc
        subst hc
        split at hp
        · rename_i hi
          split at hp
          · rename_i v hv
            cases hp
            obtain ⟨r1, rfl, hr1⟩ := hS.int
            obtain ⟨x', r', rfl, ⟨ad, e0, g1, rfl⟩, hr⟩ := hr1.any
            obtain ⟨ad2, e1, g2, g3⟩ := hR.get hq
            rw [g1] at g2
            cases g2
            rcases g3 with ⟨k1, -⟩ | ⟨k1, -⟩ | ⟨k1, -⟩ | ⟨k1, -⟩ | ⟨-, cA, t, f, rfl, k2, k3⟩
            · simp at k1
            · simp at k1
            · simp at k1
            · simp at k1
            · have hlt : i.toNatClampNeg < s0.length := (List.getElem?_eq_some_iff.mp hv).1
              obtain ⟨v2, g4, -, g5⟩ := k3 _ hlt
              rw [show (103, s0).2 = s0 from rfl, hv] at g4
              cases g4
              exact va_aldq hx hb hK hP q t g1 k2 (zin_vp hi) hd (kk _ rfl ⟨g5, hr⟩)
          · cases hp
        · cases hp
      · cases hp
    · cases hp
  · cases hp
theorem z_alen {sc : zScr} {e0 : Nat → Value} (hx : p.tables.exec = Jvm.exec) (hb : c.code = cc) (hK : va_K D classes tys s) (hP : va_P D classes ws H) (hV : va_S A s.heap H locs)
    (hsc : ∀ L xs, sc = some (L, xs) → va_X scb L xs s s.heap ∧ scb < s.heap.size ∧ ¬ A scb) (hT : va_T (.object "java/lang/Object") (em 1) 0 e0 A s s.heap)
    (hR : zR em scb ws tys h) (hS : zSt em scb ws st st') (hp : zalen sc h st = some (h2, st2)) (hd : decode cc pc = .ok (.arraylength, 1))
    (kk : ∀ (st2' : List Value), h2 = h → zSt em scb ws st2 st2' → W p l e R s m args below meth c H locs cells slots Q (F0 m (pc + 1) arr st2')) : W p l e R s m args below meth c H locs cells slots Q (F0 m pc arr st') := by
  unfold zalen at hp
  split at hp
  · rename_i r
    split at hp
    · rename_i L xs
      cases hp
      obtain ⟨x', r', rfl, hv, hr⟩ := hS.any
      have hv : x' = .ref scb := hv
      subst hv
      obtain ⟨k1, k2, k3⟩ := hsc L _ rfl
      exact va_slen hx hb k1 k2 k3 hV hd (kk _ rfl ⟨rfl, hr⟩)
    · cases hp
  · cases hp
    obtain ⟨x', r', rfl, hv, hr⟩ := hS.any
    have hv : x' = .ref (em 1) := hv
    subst hv
    exact va_tlen hx hb hT hV (v := 0) (by decide) hd (kk _ rfl ⟨rfl, hr⟩)
  · rename_i q r
    split at hp
    · rename_i c0 s0 hq
      split at hp
      · rename_i hc
        cases hp
        obtain ⟨x', r', rfl, ⟨ad, e0, g1, rfl⟩, hr⟩ := hS.any
        obtain ⟨ad2, e1, g2, g3⟩ := hR.get hq
        rw [g1] at g2
        cases g2
        rcases g3 with ⟨k1, -⟩ | ⟨-, cA, t, f, rfl, k2, k3⟩ | ⟨-, cA, t, f, rfl, k2, k3⟩ | ⟨-, cA, t, f, rfl, k2, k3⟩ | ⟨-, cA, t, f, rfl, k2, k3⟩
        · have k1 : c0 < 12 := k1
          omega
        all_goals exact va_alen hx hb hK hP q t g1 k2 rfl hd (kk _ rfl ⟨rfl, hr⟩)
      · cases hp
    · cases hp
  · cases hp
theorem z_cast {idx a : Nat} {C : String} {T : u_T} {N : Nat} (hx : p.tables.exec = Jvm.exec) (hb : c.code = cc) (hown : s.vm.findClass own = some m.cls) (hK : va_K D classes tys s) (hP : va_P D classes ws H)
    (hR : zR em scb ws tys h) (hS : zSt em scb ws st st') (hp : zcast a h st = some (h2, st2)) (ha : a < 12) (hc : classes[a]? = some (C, T, N)) (hl : (Cond.classLink own idx C).before args s = true) (hd : decode cc pc = .ok (.checkcast idx, 3))
    (kk : ∀ (st2' : List Value), h2 = h → zSt em scb ws st2 st2' → W p l e R s m args below meth c H locs cells slots Q (F0 m (pc + 3) arr st2')) : W p l e R s m args below meth c H locs cells slots Q (F0 m pc arr st') := by
  unfold zcast at hp
  split at hp
  · rename_i q r
    split at hp
    · rename_i c0 s0 hq
      split at hp
      · rename_i hca
        subst hca
        cases hp
        obtain ⟨x', r', rfl, ⟨ad, e0, g1, rfl⟩, hr⟩ := hS.any
        obtain ⟨ad2, e1, g2, g3⟩ := hR.get hq
        rw [g1] at g2
        cases g2
        rcases g3 with ⟨k1, fs, rfl, -⟩ | ⟨k1, -⟩ | ⟨k1, -⟩ | ⟨k1, -⟩ | ⟨k1, -⟩
        · exact va_castS hx hb hown hl (hK.1 _ _ hc).2 (va_recv hK hP hc g1) hd (kk _ rfl ⟨⟨ad, _, g1, rfl⟩, hr⟩)
        all_goals (have k1 : c0 = _ := k1; omega)
      · cases hp
    · cases hp
  · cases hp
end
