/-! CALLS THAT AREN'T RUN BY THEIR CODE -/
def zblk (own : String) (idx a : Nat) : Prop :=
  (a = 2000 ∧ Cond.methodLink own idx Lib.objectInit ∈ zT ∧ Cond.instanceMethod Lib.objectInit ∈ zT ∧ Cond.code Lib.objectInit ⟨#[0xb1]⟩ 1 none ∈ zT) ∨
  (a = 2001 ∧ Cond.methodLink own idx Lib.Math.max.name ∈ zT ∧ Cond.static Lib.Math.max.name ∈ zT ∧ Cond.initialized "java/lang/Math" ∈ zT ∧ Cond.code Lib.Math.max.name Lib.Math.max.code 2 (some .int) ∈ zT) ∨
  (a = 2002 ∧ Cond.methodLink own idx Lib.Math.min.name ∈ zT ∧ Cond.static Lib.Math.min.name ∈ zT ∧ Cond.initialized "java/lang/Math" ∈ zT ∧ Cond.code Lib.Math.min.name Lib.Math.min.code 2 (some .int) ∈ zT) ∨
  (a = 2003 ∧ Cond.methodLink own idx Lib.Math.abs.name ∈ zT ∧ Cond.static Lib.Math.abs.name ∈ zT ∧ Cond.initialized "java/lang/Math" ∈ zT ∧ Cond.code Lib.Math.abs.name Lib.Math.abs.code 1 (some .int) ∈ zT) ∨
  (a = 2004 ∧ Cond.methodLink own idx arraycopyName ∈ zT ∧ Cond.native arraycopyName ∈ zT ∧ Cond.static arraycopyName ∈ zT ∧ Cond.initialized "java/lang/System" ∈ zT)
section
variable {p : Program} {l : Launch} {e : Env} {R : Room} {s : State} {m : MethodId} {args : Array Value} {below : List Frame} {meth : Method} {c : Code} {H : Heap} {locs : List Loc} {cells slots : Nat} {Q : State → Prop}
variable {cc : ByteArray} {pc : Nat} {em : Nat → Nat} {scb : Nat} {A : Nat → Prop} {D : va_G} {ws : va_W} {tys : List (ClassId × FieldType)} {own : String} {arr : Array Slot} {st st2 st' : List Value} {h h2 : zHp}
/-- an element of a row of objects may lie in a row of Object -/
theorem z_any {s0 : List Value} {f : Nat → Option Nat} (hK : va_K D classes tys s) (hP : va_P D classes ws H)
    (hcs : ∀ (ci : Nat) (r : vw_C), ci < 9 → classes[ci]? = some r → va_Nw (.castable r.1 "java/lang/Object") s)
    (k3 : ∀ j, j < s0.length → ∃ v, s0[j]? = some v ∧ (v = .null ∨ ∃ q c s e0, v = .ref q ∧ ws[q]? = some (e0, .inr (c, s)) ∧ c < 9) ∧ zV em scb ws v (va_rf (f j))) {j y : Nat} (hj : j < s0.length) (hy : f j = some y) : va_Any "java/lang/Object" s H y := by
  obtain ⟨v, h1, h2, h3⟩ := k3 j hj
  rw [hy] at h3
  rcases h2 with rfl | ⟨q, c, sl, e0, rfl, g1, g2⟩
  · have h3 : va_rf (some y) = .null := h3
    cases h3
  · obtain ⟨a, e1, g3, g4⟩ := h3
    rw [g1] at g3
    cases g3
    have g4 : Value.ref y = .ref e0 := g4
    cases g4
    have hr9 : ∃ r : vw_C, classes[c]? = some r := ⟨_, List.getElem?_eq_getElem (show c < classes.length from Nat.lt_trans g2 (by decide))⟩
    obtain ⟨r9, hr9⟩ := hr9
    refine va_rAny hK hP g1 hr9 (fun comp c0 hc1 hc2 => ?_)
    obtain ⟨c3, t1, f1, f2, f3⟩ := Cond.castable_spec (va_Nw.use (A := #[]) rfl (hcs c r9 g2 hr9))
    cases hc2.symm.trans f1
    cases hc1.symm.trans f2
    exact f3
set_option maxHeartbeats 2000000 in
theorem z_built {i : Instr} {idx a : Nat} (hx : p.tables.exec = Jvm.exec) (hb : c.code = cc) (hts : ∀ w ∈ zT, w.before args s = true) (hown : s.vm.findClass own = some m.cls) (hml : c.maxLocals = arr.size) (hK : va_K D classes tys s) (hP : va_P D classes ws H) (hD : va_D A ws) (hV : va_S A s.heap H locs)
    (hcs : ∀ (ci : Nat) (r : vw_C), ci < 9 → classes[ci]? = some r → va_Nw (.castable r.1 "java/lang/Object") s)
    (hfr : 1 ≤ R.frames) (hlo : 100 ≤ R.locals) (hc1 : cells ≤ R.cells) (hc2 : slots ≤ R.slots) (hlen : st.length ≤ 12)
    (hR : zR em scb ws tys h) (hS : zSt em scb ws st st') (hp : zbuilt a h st = some (h2, st2)) (hk : zblk own idx a)
    (hd : (a = 2000 → decode cc pc = .ok (.invokespecial idx, 3)) ∧ (2000 < a → decode cc pc = .ok (.invokestatic idx, 3)))
    (kk : ∀ (st2' : List Value) (ws' : va_W) (H1 : Heap) (locs1 : List Loc), zLe ws ws' → va_P D classes ws' H1 → va_D A ws' → va_S A s.heap H1 locs1 → zR em scb ws' tys h2 → zSt em scb ws' st2 st2' → W p l e R s m args below meth c H1 locs1 cells slots Q (F0 m (pc + 3) arr st2')) : W p l e R s m args below meth c H locs cells slots Q (F0 m pc arr st') := by
  have hl2 := hS.len
  have hcat : ∀ (r' : List Value), r'.length ≤ 12 → (r'.map fun v => v.category).sum ≤ 24 := fun r' hr => by have := zcats r'; omega
  rcases hk with ⟨rfl, k1, k2, k3⟩ | ⟨rfl, k1, k2, k3, k4⟩ | ⟨rfl, k1, k2, k3, k4⟩ | ⟨rfl, k1, k2, k3, k4⟩ | ⟨rfl, k1, k2, k3, k4⟩
  · simp only [zbuilt, if_pos] at hp
    split at hp
    · cases hp
      obtain ⟨x', r', rfl, ⟨ad, e0, g1, rfl⟩, hr⟩ := hS.any
      have hc := hcat r' (by simp only [List.length_cons] at hl2 hlen; omega)
      refine W.objInit hx hb hown (hts _ k1) (hts _ k2) (hts _ k3) rfl hml.symm rfl (hd.1 rfl) hfr ?_ ?_
      · show 2 * 0 + _ + 12 ≤ _
        omega
      · exact W.eq (g2 := F0 m (pc + 3) arr r') rfl (kk _ _ H locs zLe.rf hP hD hV hR hr)
    · cases hp
  · simp only [zbuilt, show ¬ (2001 = 2000) by decide, if_false, if_pos] at hp
    split at hp
    · cases hp
      obtain ⟨r1, rfl, hr1⟩ := hS.int
      obtain ⟨r', rfl, hr⟩ := hr1.int
      have hc := hcat r' (by simp only [List.length_cons] at hl2 hlen; omega)
      exact va_mmax hx hb hml hown (hts _ k1) (hts _ k2) (hts _ k3) (hts _ k4) hfr (by omega) hc1 hc2 (hd.2 (by decide)) (kk _ _ H locs zLe.rf hP hD hV hR ⟨rfl, hr⟩)
    · cases hp
  · simp only [zbuilt, show ¬ (2002 = 2000) by decide, show ¬ (2002 = 2001) by decide, if_false, if_pos] at hp
    split at hp
    · cases hp
      obtain ⟨r1, rfl, hr1⟩ := hS.int
      obtain ⟨r', rfl, hr⟩ := hr1.int
      have hc := hcat r' (by simp only [List.length_cons] at hl2 hlen; omega)
      exact va_mmin hx hb hml hown (hts _ k1) (hts _ k2) (hts _ k3) (hts _ k4) hfr (by omega) hc1 hc2 (hd.2 (by decide)) (kk _ _ H locs zLe.rf hP hD hV hR ⟨rfl, hr⟩)
    · cases hp
  · simp only [zbuilt, show ¬ (2003 = 2000) by decide, show ¬ (2003 = 2001) by decide, show ¬ (2003 = 2002) by decide, if_false, if_pos] at hp
    split at hp
    · cases hp
      obtain ⟨r', rfl, hr⟩ := hS.int
      have hc := hcat r' (by simp only [List.length_cons] at hl2 hlen; omega)
      exact va_mabs hx hb hml hown (hts _ k1) (hts _ k2) (hts _ k3) (hts _ k4) hfr (by omega) hc1 hc2 (hd.2 (by decide)) (kk _ _ H locs zLe.rf hP hD hV hR ⟨rfl, hr⟩)
    · cases hp
  · simp only [zbuilt, show ¬ (2004 = 2000) by decide, show ¬ (2004 = 2001) by decide, show ¬ (2004 = 2002) by decide, show ¬ (2004 = 2003) by decide, if_false, if_pos] at hp
    split at hp
    · rename_i n dp q1 sp q0 r
      split at hp
      · rename_i c0 s0 hq0
        split at hp
        · rename_i c1 s1 hq1
          split at hp
          · rename_i e0
            subst e0
            split at hp
            · rename_i e1
              subst e1
              split at hp
              · rename_i hcond
                obtain ⟨b1, b2, b3, b4, b5⟩ := hcond
                cases hp
                obtain ⟨r1, rfl, hr1⟩ := hS.int
                obtain ⟨r2, rfl, hr2⟩ := hr1.int
                obtain ⟨x1, r3, rfl, ⟨ad1, ea1, g1, rfl⟩, hr3⟩ := hr2.any
                obtain ⟨r4, rfl, hr4⟩ := hr3.int
                obtain ⟨x0, r', rfl, ⟨ad0, ea0, g0, rfl⟩, hr⟩ := hr4.any
                obtain ⟨ad2, e2, g2, g3⟩ := hR.get hq0
                rw [g0] at g2
                cases g2
                obtain ⟨ad3, e3, g4, g5⟩ := hR.get hq1
                rw [g1] at g4
                cases g4
                rcases g3 with ⟨y1, -⟩ | ⟨y1, -⟩ | ⟨y1, -⟩ | ⟨y1, -⟩ | ⟨-, cA, t, f, rfl, j2, j3⟩
                · simp at y1
                · simp at y1
                · simp at y1
                · simp at y1
                · rcases g5 with ⟨y1, -⟩ | ⟨y1, -⟩ | ⟨y1, -⟩ | ⟨y1, -⟩ | ⟨-, cB, t', g, rfl, j4, j5⟩
                  · simp at y1
                  · simp at y1
                  · simp at y1
                  · simp at y1
                  · have hc := hcat r' (by simp only [List.length_cons] at hl2 hlen; omega)
                    have hnf : nativeFrameWords "java/lang/System" "arraycopy" 5 = 7 := by decide +kernel
                    have hle : zLe ws (ws.set q1 (ad1, .inl (cB, s1.length, .inr (.inr (.inr (.inr (va_cpy f g sp.toNatClampNeg dp.toNatClampNeg n.toNatClampNeg))))))) := zLe.set g1 (fun _ _ z => by cases z)
                    have hX : zX em scb (ws.set q1 (ad1, .inl (cB, s1.length, .inr (.inr (.inr (.inr (va_cpy f g sp.toNatClampNeg dp.toNatClampNeg n.toNatClampNeg))))))) tys (103, zcpy s0 s1 sp.toNatClampNeg dp.toNatClampNeg n.toNatClampNeg) (.inl (cB, s1.length, .inr (.inr (.inr (.inr (va_cpy f g sp.toNatClampNeg dp.toNatClampNeg n.toNatClampNeg)))))) := by
                      refine Or.inr (Or.inr (Or.inr (Or.inr ⟨rfl, cB, t', va_cpy f g sp.toNatClampNeg dp.toNatClampNeg n.toNatClampNeg, by simp only [zcpy_len b4 b5], j4, fun j hj => ?_⟩)))
                      have hj : j < s1.length := by simpa only [zcpy_len b4 b5] using hj
                      have up : ∀ w : Value, (w = .null ∨ ∃ q9 c9 s9 e9, w = .ref q9 ∧ ws[q9]? = some (e9, .inr (c9, s9)) ∧ c9 < 9) → (w = .null ∨ ∃ q9 c9 s9 e9, w = .ref q9 ∧ (ws.set q1 (ad1, .inl (cB, s1.length, .inr (.inr (.inr (.inr (va_cpy f g sp.toNatClampNeg dp.toNatClampNeg n.toNatClampNeg)))))))[q9]? = some (e9, .inr (c9, s9)) ∧ c9 < 9) := by
                        rintro w (hw | ⟨q9, c9, s9, e9, h1, h2, h3⟩)
                        · exact Or.inl hw
                        · obtain ⟨e', h4, h5⟩ := hle q9 e9 _ h2
                          obtain ⟨s', rfl⟩ := h5 c9 s9 rfl
                          exact Or.inr ⟨q9, c9, s', e9, h1, h4, h3⟩
                      simp only [zcpy_get b4 b5, va_cpy]
                      by_cases hin : dp.toNatClampNeg ≤ j ∧ j < dp.toNatClampNeg + n.toNatClampNeg
                      · rw [if_pos hin, if_pos hin]
                        obtain ⟨w, w1, w2, w3⟩ := j3 (sp.toNatClampNeg + (j - dp.toNatClampNeg)) (by show _ < s0.length; omega)
                        exact ⟨w, w1, up w w2, w3.le hle⟩
                      · rw [if_neg hin, if_neg hin]
                        obtain ⟨w, w1, w2, w3⟩ := j5 j hj
                        exact ⟨w, w1, up w w2, w3.le hle⟩
                    have hRn := hR.set (ob := (103, zcpy s0 s1 sp.toNatClampNeg dp.toNatClampNeg n.toNatClampNeg)) hq1 g1 (fun _ _ z => by cases z) hX
                    refine va_copyM hx hb hml hown (hts _ k1) (hts _ k2) (hts _ k3) (hts _ k4) hK hP hD hV q0 q1 t t' g0 g1 j2 j4 (by rw [Int32.not_lt]; exact b1) (by rw [Int32.not_lt]; exact b2) (by rw [Int32.not_lt]; exact b3) b4 b5 (fun i hi y hy => z_any hK hP hcs j3 (by show _ < s0.length; omega) hy) hfr (by rw [hnf]; omega) (hd.2 (by decide)) (fun H1 locs1 q1' q2' q3' => kk _ _ H1 locs1 hle q1' q2' q3' hRn (hr.le hle))
              · cases hp
            · cases hp
          · cases hp
        · cases hp
      · cases hp
    · cases hp
end
