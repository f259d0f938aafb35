/-! ONE STEP OVER THE HEAP -/
/-- the words that every method's contract stands on -/
def zT : List Cond := lw_tbl.filter goodWord
theorem zR.get {em : Nat → Nat} {scb : Nat} {ws : va_W} {tys : List (ClassId × FieldType)} {h : zHp} (hR : zR em scb ws tys h) {k : Nat} {ob : zOb} (hk : h[k]? = some ob) : ∃ (a : Nat) (e : va_E), ws[k]? = some (a, e) ∧ zX em scb ws tys ob e := hR.2 k ob hk
theorem zX.le {em : Nat → Nat} {scb : Nat} {ws ws' : va_W} {tys tys' : List (ClassId × FieldType)} (hl : zLe ws ws') (ht : ∀ (k : Nat) q, tys[k]? = some q → tys'[k]? = some q) {ob : zOb} {e : va_E} (h : zX em scb ws tys ob e) : zX em scb ws' tys' ob e := by
  rcases h with ⟨h1, fs, h2, h3, h4⟩ | ⟨h1, cA, t, f, h2, h3, h4⟩ | ⟨h1, cA, t, f, h2, h3, h4⟩ | ⟨h1, cA, t, f, h2, h3, h4⟩ | ⟨h1, cA, t, f, h2, h3, h4⟩
  · exact Or.inl ⟨h1, fs, h2, h3, fun j v hj => by obtain ⟨v', g1, g2⟩ := h4 j v hj; exact ⟨v', g1, g2.le hl⟩⟩
  · exact Or.inr (Or.inl ⟨h1, cA, t, f, h2, ht _ _ h3, h4⟩)
  · exact Or.inr (Or.inr (Or.inl ⟨h1, cA, t, f, h2, ht _ _ h3, h4⟩))
  · exact Or.inr (Or.inr (Or.inr (Or.inl ⟨h1, cA, t, f, h2, ht _ _ h3, h4⟩)))
  · refine Or.inr (Or.inr (Or.inr (Or.inr ⟨h1, cA, t, f, h2, ht _ _ h3, fun j hj => ?_⟩)))
    obtain ⟨v, g1, g2, g3⟩ := h4 j hj
    refine ⟨v, g1, ?_, g3.le hl⟩
    rcases g2 with g2 | ⟨q, c, s, e0, g4, g5, g6⟩
    · exact Or.inl g2
    · obtain ⟨e', g7, g8⟩ := hl q e0 _ g5
      obtain ⟨s', rfl⟩ := g8 c s rfl
      exact Or.inr ⟨q, c, s', e0, g4, g7, g6⟩
theorem zLe.set {ws : va_W} {q a : Nat} {e0 e : va_E} (hq : ws[q]? = some (a, e0)) (hc : ∀ c s, e0 = .inr (c, s) → ∃ s', e = .inr (c, s')) : zLe ws (ws.set q (a, e)) := by
  have hlt := (List.getElem?_eq_some_iff.mp hq).1
  intro k b e1 hk
  by_cases h : k = q
  · subst h
    rw [hq] at hk
    cases hk
    exact ⟨e, by rw [List.getElem?_set_self hlt], hc⟩
  · exact ⟨e1, by rw [List.getElem?_set_ne (Ne.symm h)]; exact hk, fun c s h => ⟨s, h⟩⟩
theorem zLe.push {ws : va_W} {x : Nat × va_E} : zLe ws (ws ++ [x]) := fun k a e hk => ⟨e, by rw [List.getElem?_append_left (List.getElem?_eq_some_iff.mp hk).1]; exact hk, fun c s h => ⟨s, h⟩⟩
theorem zR.set {em : Nat → Nat} {scb : Nat} {ws : va_W} {tys : List (ClassId × FieldType)} {h : zHp} (hR : zR em scb ws tys h) {q a : Nat} {ob0 ob : zOb} {e0 e : va_E} (hh : h[q]? = some ob0) (hq : ws[q]? = some (a, e0)) (hc : ∀ c s, e0 = .inr (c, s) → ∃ s', e = .inr (c, s')) (hX : zX em scb (ws.set q (a, e)) tys ob e) : zR em scb (ws.set q (a, e)) tys (h.set q ob) := by
  have hlt := (List.getElem?_eq_some_iff.mp hq).1
  have hlt2 := (List.getElem?_eq_some_iff.mp hh).1
  refine ⟨by simp [hR.1], fun k ob1 hk => ?_⟩
  by_cases hkq : k = q
  · subst hkq
    rw [List.getElem?_set_self hlt2] at hk
    cases hk
    exact ⟨a, e, by rw [List.getElem?_set_self hlt], hX⟩
  · rw [List.getElem?_set_ne (Ne.symm hkq)] at hk
    obtain ⟨b, e1, h1, h2⟩ := hR.get hk
    exact ⟨b, e1, by rw [List.getElem?_set_ne (Ne.symm hkq)]; exact h1, h2.le (zLe.set hq hc) (fun _ _ z => z)⟩
theorem zR.push {em : Nat → Nat} {scb : Nat} {ws : va_W} {tys tys' : List (ClassId × FieldType)} {h : zHp} (hR : zR em scb ws tys h) {a : Nat} {ob : zOb} {e : va_E} (ht : ∀ (k : Nat) q, tys[k]? = some q → tys'[k]? = some q) (hX : zX em scb (ws ++ [(a, e)]) tys' ob e) : zR em scb (ws ++ [(a, e)]) tys' (h ++ [ob]) := by
  refine ⟨by simp [hR.1], fun k ob1 hk => ?_⟩
  by_cases hkl : k < h.length
  · rw [List.getElem?_append_left hkl] at hk
    obtain ⟨b, e1, h1, h2⟩ := hR.get hk
    exact ⟨b, e1, by rw [List.getElem?_append_left (by rw [hR.1]; exact hkl)]; exact h1, h2.le zLe.push ht⟩
  · rw [List.getElem?_append_right (by omega)] at hk
    have hz : k - h.length < 1 := (List.getElem?_eq_some_iff.mp hk).1
    have hk0 : k = h.length := by omega
    subst hk0
    rw [Nat.sub_self] at hk
    cases hk
    exact ⟨a, e, by rw [List.getElem?_append_right (by rw [hR.1]; exact Nat.le_refl _), hR.1, Nat.sub_self]; rfl, hX⟩
def zftOk (t : Nat) (ty : FieldType) : Prop := (t = 0 ∧ ty = .int) ∨ (t = 1 ∧ ty = .boolean) ∨ (t = 2 ∧ ((∃ n, ty = .object n) ∨ ∃ u, ty = .array u)) ∨ t = 3
theorem zfits_ok {em : Nat → Nat} {scb t : Nat} {ws : va_W} {ty : FieldType} {v v' : Value} (h : zfits t v = true) (hv : zV em scb ws v v') (ho : zftOk t ty) : narrow ty v' = v' ∧ fits ty v' = true := by
  rcases ho with ⟨rfl, rfl⟩ | ⟨rfl, rfl⟩ | ⟨rfl, ho⟩ | rfl
  · unfold zfits at h
    cases v with
    | int x => have hv : v' = .int x := hv; subst hv; exact ⟨rfl, rfl⟩
    | _ => simp at h
  · unfold zfits at h
    cases v with
    | int x =>
      have hv : v' = .int x := hv
      subst hv
      simp only [Bool.or_eq_true, decide_eq_true_eq] at h
      rcases h with rfl | rfl <;> exact ⟨by decide +kernel, by decide +kernel⟩
    | _ => simp at h
  · have h : zisr v = true := h
    obtain ⟨r, rfl⟩ := hv.rf h
    rcases ho with ⟨n, rfl⟩ | ⟨u, rfl⟩ <;> cases r <;> exact ⟨rfl, rfl⟩
  · simp [zfits] at h
/-- a field's link, and what the tables say of the class's fields -/
def zflk (own : String) (idx a b : Nat) : Prop := ∃ (C : String) (T : u_T) (N : Nat) (ty : Nat → FieldType) (ref : String), a < 12 ∧ classes[a]? = some (C, T, N) ∧ b < N ∧ (∀ w ∈ u_ws C T N, w ∈ zT) ∧ (∀ k, k < N → parseFieldDescriptor (T k).2.2.1 = some (ty k)) ∧ (∀ x, x < N → ∀ y, y < N → x ≠ y → (T x).2.1 ≠ (T y).2.1) ∧ Cond.fieldLink own idx ref (T b).2.1 (T b).2.2.1 ∈ zT ∧ (ref = (T b).1 ∨ Cond.sameField ref (T b).1 (T b).2.1 (T b).2.2.1 ∈ zT) ∧ zftOk (((zfty[a]?).getD [])[b]?.getD 9) (ty b) ∧ (T b).2.2.2 = (((zfin[a]?).getD [])[b]?.getD false)
section
variable {p : Program} {l : Launch} {e : Env} {R : Room} {s : State} {m : MethodId} {args : Array Value} {below : List Frame} {meth : Method} {c : Code} {H : Heap} {locs : List Loc} {cells slots : Nat} {Q : State → Prop}
variable {cc : ByteArray} {pc : Nat} {em : Nat → Nat} {scb : Nat} {A : Nat → Prop} {D : va_G} {ws : va_W} {tys : List (ClassId × FieldType)} {own : String} {arr : Array Slot} {st st2 st' : List Value} {h h2 : zHp}
theorem zsame {idx a b : Nat} {ref : String} {T : u_T} (hts : ∀ w ∈ zT, w.before args s = true) (h : ref = (T b).1 ∨ Cond.sameField ref (T b).1 (T b).2.1 (T b).2.2.1 ∈ zT) : ∀ x, s.fieldFound? (T b).1 (T b).2.1 (T b).2.2.1 = some x → s.fieldFound? ref (T b).2.1 (T b).2.2.1 = some x := by
  intro x hx
  rcases h with rfl | h
  · exact hx
  · exact u_same (hts _ h) x hx
theorem z_getf {idx a b : Nat} (hx : p.tables.exec = Jvm.exec) (hb : c.code = cc) (hts : ∀ w ∈ zT, w.before args s = true) (hown : s.vm.findClass own = some m.cls) (hK : va_K D classes tys s) (hP : va_P D classes ws H)
    (hR : zR em scb ws tys h) (hS : zSt em scb ws st st') (hp : zgetf a b h st = some (h2, st2)) (hk : zflk own idx a b) (hd : decode cc pc = .ok (.getfield idx, 3))
    (kk : ∀ (st2' : List Value), h2 = h → zSt em scb ws st2 st2' → W p l e R s m args below meth c H locs cells slots Q (F0 m (pc + 3) arr st2')) : W p l e R s m args below meth c H locs cells slots Q (F0 m pc arr st') := by
  obtain ⟨C, T, N, ty, ref, h0, h1, h2', h3, h4, h5, h6, h7, -⟩ := hk
  unfold zgetf at hp
  split at hp
  · rename_i q r
    split at hp
    · rename_i c0 fs hq
      split at hp
      · rename_i hca
        subst hca
        split at hp
        · rename_i v hv
          cases hp
          obtain ⟨x', r', rfl, ⟨ad, e0, g1, rfl⟩, hr⟩ := hS.any
          obtain ⟨ad2, e1, g2, g3⟩ := hR.get hq
          rw [g1] at g2
          cases g2
          rcases g3 with ⟨-, fs', rfl, -, g5⟩ | ⟨k1, -⟩ | ⟨k1, -⟩ | ⟨k1, -⟩ | ⟨k1, -⟩
          · obtain ⟨v', g6, g7⟩ := g5 b v hv
            exact va_get hx hb hts h3 hown hK hP q g1 h1 b h2' (hts _ h6) (zsame (idx := idx) (a := c0) hts h7) g6 hd (kk _ rfl ⟨g7, hr⟩)
          all_goals (have k1 : c0 = _ := k1; omega)
        · cases hp
      · cases hp
    · cases hp
  · cases hp
theorem z_putf {idx a b : Nat} (hx : p.tables.exec = Jvm.exec) (hb : c.code = cc) (hts : ∀ w ∈ zT, w.before args s = true) (hown : s.vm.findClass own = some m.cls) (hK : va_K D classes tys s) (hP : va_P D classes ws H) (hD : va_D A ws) (hV : va_S A s.heap H locs)
    (hR : zR em scb ws tys h) (hS : zSt em scb ws st st') (hp : zputf a b h st = some (h2, st2)) (hk : zflk own idx a b)
    (hfin : ((zfin[a]?).getD [])[b]?.getD false = true → meth.name = "<init>" ∧ ∀ C T N, classes[a]? = some (C, T, N) → (T b).1 = own) (hd : decode cc pc = .ok (.putfield idx, 3))
    (kk : ∀ (st2' : List Value) (ws' : va_W) (H1 : Heap) (locs1 : List Loc), zLe ws ws' → va_P D classes ws' H1 → va_D A ws' → va_S A s.heap H1 locs1 → zR em scb ws' tys h2 → zSt em scb ws' st2 st2' → W p l e R s m args below meth c H1 locs1 cells slots Q (F0 m (pc + 3) arr st2')) : W p l e R s m args below meth c H locs cells slots Q (F0 m pc arr st') := by
  obtain ⟨C, T, N, ty, ref, h0, h1, h2', h3, h4, h5, h6, h7, h8, h9⟩ := hk
  unfold zputf at hp
  split at hp
  · rename_i v q r
    split at hp
    · rename_i c0 fs hq
      split at hp
      · rename_i hca
        subst hca
        split at hp
        · rename_i hbl
          split at hp
          · rename_i hft
            cases hp
            obtain ⟨v', r1, rfl, hv, hr1⟩ := hS.any
            obtain ⟨x', r', rfl, ⟨ad, e0, g1, rfl⟩, hr⟩ := hr1.any
            obtain ⟨ad2, e1, g2, g3⟩ := hR.get hq
            rw [g1] at g2
            cases g2
            rcases g3 with ⟨gc, fs', rfl, g4, g5⟩ | ⟨k1, -⟩ | ⟨k1, -⟩ | ⟨k1, -⟩ | ⟨k1, -⟩
            · obtain ⟨f1, f2⟩ := zfits_ok hft hv h8
              have hcc : ∀ (c1 : Nat) (s1 : List Value), (Sum.inr (c0, fs') : va_E) = .inr (c1, s1) → ∃ s', (Sum.inr (c0, fs'.set b v') : va_E) = .inr (c1, s') := fun c1 s1 hh => by cases hh; exact ⟨_, rfl⟩
              have hle : zLe ws (ws.set q (ad, .inr (c0, fs'.set b v'))) := zLe.set g1 hcc
              have hX : zX em scb (ws.set q (ad, .inr (c0, fs'.set b v'))) tys (c0, fs.set b v) (.inr (c0, fs'.set b v')) := by
                refine Or.inl ⟨gc, _, rfl, by simp [g4], fun j w hj => ?_⟩
                have g4 : fs'.length = fs.length := g4
                by_cases hjb : j = b
                · subst hjb
                  rw [List.getElem?_set_self hbl] at hj
                  cases hj
                  exact ⟨v', by rw [List.getElem?_set_self (by omega)], hv.le hle⟩
                · rw [List.getElem?_set_ne (Ne.symm hjb)] at hj
                  obtain ⟨w', g6, g7⟩ := g5 j w hj
                  exact ⟨w', by rw [List.getElem?_set_ne (Ne.symm hjb)]; exact g6, g7.le hle⟩
              have hRn := hR.set (ob := (c0, fs.set b v)) hq g1 hcc hX
              have hkb : b < fs'.length := by have g4 : fs'.length = fs.length := g4; omega
              by_cases hfn : (T b).2.2.2 = true
              · obtain ⟨m1, m2⟩ := hfin (by rw [← h9]; exact hfn)
                exact va_putF hx hb hts h3 ty h4 h5 hown hK hP hD hV q g1 h1 b h2' (hts _ h6) (zsame (idx := idx) (a := c0) hts h7) hfn m1 (m2 C T N h1) (h4 b h2') f1 f2 hkb hd (fun H1 locs1 k1 k2 k3 => kk _ _ H1 locs1 hle k1 k2 k3 hRn (hr.le hle))
              · exact va_put hx hb hts h3 ty h4 h5 hown hK hP hD hV q g1 h1 b h2' (hts _ h6) (zsame (idx := idx) (a := c0) hts h7) (by simpa using hfn) (h4 b h2') f1 f2 hkb hd (fun H1 locs1 k1 k2 k3 => kk _ _ H1 locs1 hle k1 k2 k3 hRn (hr.le hle))
            all_goals (have k1 : c0 = _ := k1; omega)
          · cases hp
        · cases hp
      · cases hp
    · cases hp
  · cases hp
end
