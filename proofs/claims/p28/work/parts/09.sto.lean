/-! STORES INTO ARRAYS, NEW ONES, MATH, ARRAYCOPY -/
section
variable {p : Program} {l : Launch} {e : Env} {R : Room} {s : State} {m : MethodId} {args : Array Value} {below : List Frame} {meth : Method} {c : Code} {H : Heap} {locs : List Loc} {cells slots : Nat} {Q : State → Prop}
variable {cc : ByteArray} {pc : Nat} {em : Nat → Nat} {scb : Nat} {A : Nat → Prop} {D : va_G} {ws : va_W} {tys : List (ClassId × FieldType)} {own : String} {arr : Array Slot} {st st2 st' : List Value} {h h2 : zHp}
theorem zast_spec {k : Nat} (hp : zast k h st = some (h2, st2)) : ∃ v i q s0, st = v :: .int i :: .ref q :: st2 ∧ h[q]? = some (k, s0) ∧ zin i s0.length = true ∧ zafit k h v = true ∧ h2 = h.set q (k, s0.set i.toNatClampNeg v) := by
  unfold zast at hp
  split at hp
  · rename_i v i q r
    split at hp
    · rename_i c0 s0 hq
      split at hp
      · rename_i hc
        subst hc
        split at hp
        · rename_i hi
          split at hp
          · rename_i hf
            cases hp
            exact ⟨v, i, q, s0, rfl, hq, hi, hf, rfl⟩
          · cases hp
        · cases hp
      · cases hp
    · cases hp
  · cases hp
theorem zafit_ref {q : Nat} (hf : zafit 103 h (.ref q) = true) : ∃ c0 s0, h[q]? = some (c0, s0) ∧ c0 < 9 := by
  simp [zafit] at hf
  split at hf
  · rename_i c0 s0 hq
    exact ⟨c0, s0, hq, by simpa using hf⟩
  · cases hf

set_option maxHeartbeats 2000000 in
theorem z_ast100 (hx : p.tables.exec = Jvm.exec) (hb : c.code = cc) (hK : va_K D classes tys s) (hP : va_P D classes ws H) (hD : va_D A ws) (hV : va_S A s.heap H locs)
    (hR : zR em scb ws tys h) (hS : zSt em scb ws st st') (hp : zast 100 h st = some (h2, st2)) (hd : decode cc pc = .ok (.iastore, 1))
    (kk : ∀ (st2' : List Value) (ws' : va_W) (H1 : Heap) (locs1 : List Loc), zLe ws ws' → va_P D classes ws' H1 → va_D A ws' → va_S A s.heap H1 locs1 → zR em scb ws' tys h2 → zSt em scb ws' st2 st2' → W p l e R s m args below meth c H1 locs1 cells slots Q (F0 m (pc + 1) arr st2')) : W p l e R s m args below meth c H locs cells slots Q (F0 m pc arr st') := by
  obtain ⟨v, i, q, s0, rfl, hq, hi, hf, rfl⟩ := zast_spec hp
  have hx1 : ∃ x : Int32, v = .int x := by
    cases v with
    | int x => exact ⟨x, rfl⟩
    | _ => simp [zafit, zfits] at hf
  obtain ⟨x, rfl⟩ := hx1
  obtain ⟨r1, rfl, hr1⟩ := hS.int
  obtain ⟨r2, rfl, hr2⟩ := hr1.int
  obtain ⟨x', r', rfl, ⟨ad, e0, g1, rfl⟩, hr⟩ := hr2.any
  obtain ⟨ad2, e1, g2, g3⟩ := hR.get hq
  rw [g1] at g2
  cases g2
  have hil : i.toNatClampNeg < s0.length := by simp only [zin, Bool.and_eq_true, decide_eq_true_eq] at hi; exact hi.2
  rcases g3 with ⟨k1, -⟩ | ⟨-, cA, t, f, rfl, k2, k3⟩ | ⟨k1, -⟩ | ⟨k1, -⟩ | ⟨k1, -⟩
  · simp at k1
  · have hle : zLe ws (ws.set q (ad, .inl (cA, s0.length, .inl (upd f i.toNatClampNeg x)))) := zLe.set g1 (fun _ _ z => by cases z)
    have hX : zX em scb (ws.set q (ad, .inl (cA, s0.length, .inl (upd f i.toNatClampNeg x)))) tys (100, s0.set i.toNatClampNeg (.int x)) (.inl (cA, s0.length, .inl (upd f i.toNatClampNeg x))) := by
      refine Or.inr (Or.inl ⟨rfl, cA, t, upd f i.toNatClampNeg x, by simp, k2, fun j hj => ?_⟩)
      by_cases hji : j = i.toNatClampNeg
      · subst hji
        simp [upd, hil]
      · have hj' : j < s0.length := by simpa using hj
        have := k3 j hj'
        simp only [upd, if_neg hji]
        rw [List.getElem?_set_ne (Ne.symm hji)]
        exact this
    have hRn := hR.set (ob := (100, s0.set i.toNatClampNeg (.int x))) hq g1 (fun _ _ z => by cases z) hX
    exact va_iast hx hb hK hP hD hV q t g1 k2 (zin_vp hi) hd (fun H1 locs1 j1 j2 j3 => kk _ _ H1 locs1 hle j1 j2 j3 hRn (hr.le hle))
  all_goals simp at k1
set_option maxHeartbeats 2000000 in
theorem z_ast101 (hx : p.tables.exec = Jvm.exec) (hb : c.code = cc) (hK : va_K D classes tys s) (hP : va_P D classes ws H) (hD : va_D A ws) (hV : va_S A s.heap H locs)
    (hR : zR em scb ws tys h) (hS : zSt em scb ws st st') (hp : zast 101 h st = some (h2, st2)) (hd : decode cc pc = .ok (.bastore, 1))
    (kk : ∀ (st2' : List Value) (ws' : va_W) (H1 : Heap) (locs1 : List Loc), zLe ws ws' → va_P D classes ws' H1 → va_D A ws' → va_S A s.heap H1 locs1 → zR em scb ws' tys h2 → zSt em scb ws' st2 st2' → W p l e R s m args below meth c H1 locs1 cells slots Q (F0 m (pc + 1) arr st2')) : W p l e R s m args below meth c H locs cells slots Q (F0 m pc arr st') := by
  obtain ⟨v, i, q, s0, rfl, hq, hi, hf, rfl⟩ := zast_spec hp
  have hx1 : ∃ x : Int32, v = .int x ∧ (x = 0 ∨ x = 1) := by
    cases v with
    | int x => exact ⟨x, rfl, by simpa [zafit, zfits] using hf⟩
    | _ => simp [zafit, zfits] at hf
  obtain ⟨x, rfl, h01⟩ := hx1
  obtain ⟨r1, rfl, hr1⟩ := hS.int
  obtain ⟨r2, rfl, hr2⟩ := hr1.int
  obtain ⟨x', r', rfl, ⟨ad, e0, g1, rfl⟩, hr⟩ := hr2.any
  obtain ⟨ad2, e1, g2, g3⟩ := hR.get hq
  rw [g1] at g2
  cases g2
  have hil : i.toNatClampNeg < s0.length := by simp only [zin, Bool.and_eq_true, decide_eq_true_eq] at hi; exact hi.2
  rcases g3 with ⟨k1, -⟩ | ⟨k1, -⟩ | ⟨-, cA, t, f, rfl, k2, k3⟩ | ⟨k1, -⟩ | ⟨k1, -⟩
  · simp at k1
  · simp at k1
  · have hle : zLe ws (ws.set q (ad, .inl (cA, s0.length, .inl (upd f i.toNatClampNeg x)))) := zLe.set g1 (fun _ _ z => by cases z)
    have hX : zX em scb (ws.set q (ad, .inl (cA, s0.length, .inl (upd f i.toNatClampNeg x)))) tys (101, s0.set i.toNatClampNeg (.int x)) (.inl (cA, s0.length, .inl (upd f i.toNatClampNeg x))) := by
      refine Or.inr (Or.inr (Or.inl ⟨rfl, cA, t, upd f i.toNatClampNeg x, by simp, k2, fun j hj => ?_⟩))
      by_cases hji : j = i.toNatClampNeg
      · subst hji
        simp [upd, hil]
      · have hj' : j < s0.length := by simpa using hj
        have := k3 j hj'
        simp only [upd, if_neg hji]
        rw [List.getElem?_set_ne (Ne.symm hji)]
        exact this
    have hRn := hR.set (ob := (101, s0.set i.toNatClampNeg (.int x))) hq g1 (fun _ _ z => by cases z) hX
    refine va_zast hx hb hK hP hD hV q t g1 k2 (zin_vp hi) hd (fun H1 locs1 j1 j2 j3 => ?_)
    have hxx : vp_nar .boolean x = x := by rcases h01 with rfl | rfl <;> decide +kernel
    rw [hxx] at j1 j2
    exact kk _ _ H1 locs1 hle j1 j2 j3 hRn (hr.le hle)
  all_goals simp at k1
set_option maxHeartbeats 2000000 in
theorem z_ast102 (hx : p.tables.exec = Jvm.exec) (hb : c.code = cc) (hK : va_K D classes tys s) (hP : va_P D classes ws H) (hD : va_D A ws) (hV : va_S A s.heap H locs)
    (hR : zR em scb ws tys h) (hS : zSt em scb ws st st') (hp : zast 102 h st = some (h2, st2)) (hd : decode cc pc = .ok (.lastore, 1))
    (kk : ∀ (st2' : List Value) (ws' : va_W) (H1 : Heap) (locs1 : List Loc), zLe ws ws' → va_P D classes ws' H1 → va_D A ws' → va_S A s.heap H1 locs1 → zR em scb ws' tys h2 → zSt em scb ws' st2 st2' → W p l e R s m args below meth c H1 locs1 cells slots Q (F0 m (pc + 1) arr st2')) : W p l e R s m args below meth c H locs cells slots Q (F0 m pc arr st') := by
  obtain ⟨v, i, q, s0, rfl, hq, hi, hf, rfl⟩ := zast_spec hp
  have hx1 : ∃ x : Int64, v = .long x := by
    cases v with
    | long x => exact ⟨x, rfl⟩
    | _ => simp [zafit, zfits] at hf
  obtain ⟨x, rfl⟩ := hx1
  obtain ⟨r1, rfl, hr1⟩ := hS.long
  obtain ⟨r2, rfl, hr2⟩ := hr1.int
  obtain ⟨x', r', rfl, ⟨ad, e0, g1, rfl⟩, hr⟩ := hr2.any
  obtain ⟨ad2, e1, g2, g3⟩ := hR.get hq
  rw [g1] at g2
  cases g2
  have hil : i.toNatClampNeg < s0.length := by simp only [zin, Bool.and_eq_true, decide_eq_true_eq] at hi; exact hi.2
  rcases g3 with ⟨k1, -⟩ | ⟨k1, -⟩ | ⟨k1, -⟩ | ⟨-, cA, t, f, rfl, k2, k3⟩ | ⟨k1, -⟩
  · simp at k1
  · simp at k1
  · simp at k1
  · have hle : zLe ws (ws.set q (ad, .inl (cA, s0.length, .inr (.inl (vp_updL f i.toNatClampNeg x))))) := zLe.set g1 (fun _ _ z => by cases z)
    have hX : zX em scb (ws.set q (ad, .inl (cA, s0.length, .inr (.inl (vp_updL f i.toNatClampNeg x))))) tys (102, s0.set i.toNatClampNeg (.long x)) (.inl (cA, s0.length, .inr (.inl (vp_updL f i.toNatClampNeg x)))) := by
      refine Or.inr (Or.inr (Or.inr (Or.inl ⟨rfl, cA, t, vp_updL f i.toNatClampNeg x, by simp, k2, fun j hj => ?_⟩)))
      by_cases hji : j = i.toNatClampNeg
      · subst hji
        simp [vp_updL, hil]
      · have hj' : j < s0.length := by simpa using hj
        have := k3 j hj'
        simp only [vp_updL, if_neg hji]
        rw [List.getElem?_set_ne (Ne.symm hji)]
        exact this
    have hRn := hR.set (ob := (102, s0.set i.toNatClampNeg (.long x))) hq g1 (fun _ _ z => by cases z) hX
    exact va_last hx hb hK hP hD hV q t g1 k2 (zin_vp hi) hd (fun H1 locs1 j1 j2 j3 => kk _ _ H1 locs1 hle j1 j2 j3 hRn (hr.le hle))
  all_goals simp at k1
set_option maxHeartbeats 2000000 in
theorem z_ast103 (hx : p.tables.exec = Jvm.exec) (hb : c.code = cc) (hK : va_K D classes tys s) (hP : va_P D classes ws H) (hD : va_D A ws) (hV : va_S A s.heap H locs)
    (hcs : ∀ (ci : Nat) (r : vw_C), ci < 9 → classes[ci]? = some r → va_Nw (.castable r.1 "java/lang/Object") s)
    (hR : zR em scb ws tys h) (hS : zSt em scb ws st st') (hp : zast 103 h st = some (h2, st2)) (hd : decode cc pc = .ok (.aastore, 1))
    (kk : ∀ (st2' : List Value) (ws' : va_W) (H1 : Heap) (locs1 : List Loc), zLe ws ws' → va_P D classes ws' H1 → va_D A ws' → va_S A s.heap H1 locs1 → zR em scb ws' tys h2 → zSt em scb ws' st2 st2' → W p l e R s m args below meth c H1 locs1 cells slots Q (F0 m (pc + 1) arr st2')) : W p l e R s m args below meth c H locs cells slots Q (F0 m pc arr st') := by
  obtain ⟨v, i, q, s0, rfl, hq, hi, hf, rfl⟩ := zast_spec hp
  obtain ⟨v', r1, rfl, hv, hr1⟩ := hS.any
  obtain ⟨r2, rfl, hr2⟩ := hr1.int
  obtain ⟨x', r', rfl, ⟨ad, e0, g1, rfl⟩, hr⟩ := hr2.any
  obtain ⟨ad2, e1, g2, g3⟩ := hR.get hq
  rw [g1] at g2
  cases g2
  have hil : i.toNatClampNeg < s0.length := by simp only [zin, Bool.and_eq_true, decide_eq_true_eq] at hi; exact hi.2
  rcases g3 with ⟨k1, -⟩ | ⟨k1, -⟩ | ⟨k1, -⟩ | ⟨k1, -⟩ | ⟨-, cA, t, f, rfl, k2, k3⟩
  · simp at k1
  · simp at k1
  · simp at k1
  · simp at k1
  · have key : ∀ (o : Option Nat), v' = va_rf o → (v = .null ∨ ∃ q9 c9 s9 e9, v = .ref q9 ∧ ws[q9]? = some (e9, .inr (c9, s9)) ∧ c9 < 9) →
        zLe ws (ws.set q (ad, .inl (cA, s0.length, .inr (.inr (.inr (.inr (va_up f i.toNatClampNeg o))))))) ∧ zR em scb (ws.set q (ad, .inl (cA, s0.length, .inr (.inr (.inr (.inr (va_up f i.toNatClampNeg o))))))) tys (h.set q (103, s0.set i.toNatClampNeg v)) := by
      intro o ho hvv
      subst ho
      have hle : zLe ws (ws.set q (ad, .inl (cA, s0.length, .inr (.inr (.inr (.inr (va_up f i.toNatClampNeg o))))))) := zLe.set g1 (fun _ _ z => by cases z)
      refine ⟨hle, hR.set (ob := (103, s0.set i.toNatClampNeg v)) hq g1 (fun _ _ z => by cases z) ?_⟩
      refine Or.inr (Or.inr (Or.inr (Or.inr ⟨rfl, cA, t, va_up f i.toNatClampNeg o, by simp, k2, fun j hj => ?_⟩)))
      have up : ∀ w : Value, (w = .null ∨ ∃ q9 c9 s9 e9, w = .ref q9 ∧ ws[q9]? = some (e9, .inr (c9, s9)) ∧ c9 < 9) → (w = .null ∨ ∃ q9 c9 s9 e9, w = .ref q9 ∧ (ws.set q (ad, .inl (cA, s0.length, .inr (.inr (.inr (.inr (va_up f i.toNatClampNeg o)))))))[q9]? = some (e9, .inr (c9, s9)) ∧ c9 < 9) := by
        rintro w (hw | ⟨q9, c9, s9, e9, h1, h2, h3⟩)
        · exact Or.inl hw
        · obtain ⟨e', h4, h5⟩ := hle q9 e9 _ h2
          obtain ⟨s', rfl⟩ := h5 c9 s9 rfl
          exact Or.inr ⟨q9, c9, s', e9, h1, h4, h3⟩
      by_cases hji : j = i.toNatClampNeg
      · subst hji
        exact ⟨v, by simp [hil], up v hvv, by simpa [va_up] using hv.le hle⟩
      · have hj' : j < s0.length := by simpa using hj
        obtain ⟨w, h1, h2, h3⟩ := k3 j hj'
        refine ⟨w, by rw [List.getElem?_set_ne (Ne.symm hji)]; exact h1, up w h2, ?_⟩
        simp only [va_up, if_neg hji]
        exact h3.le hle
    cases v with
    | null =>
      have hv2 : v' = .null := hv
      subst hv2
      obtain ⟨hle, hRn⟩ := key none rfl (Or.inl rfl)
      exact va_astqN hx hb hK hP hD hV q t g1 k2 (zin_vp hi) hd (fun H1 locs1 j1 j2 j3 => kk _ _ H1 locs1 hle j1 j2 j3 hRn (hr.le hle))
    | ref q2 =>
      obtain ⟨c0, s2, hq2, hc0⟩ := zafit_ref hf
      obtain ⟨av, ev, g4, g5⟩ := hR.get hq2
      obtain ⟨av2, ev2, g6, rfl⟩ := hv
      rw [g4] at g6
      cases g6
      rcases g5 with ⟨k4, fs, rfl, -⟩ | ⟨k4, -⟩ | ⟨k4, -⟩ | ⟨k4, -⟩ | ⟨k4, -⟩
      · have hr9 : ∃ r : vw_C, classes[c0]? = some r := ⟨_, List.getElem?_eq_getElem (show c0 < classes.length from Nat.lt_trans hc0 (by decide))⟩
        obtain ⟨r9, hr9⟩ := hr9
        obtain ⟨hle, hRn⟩ := key (some av) rfl (Or.inr ⟨q2, c0, fs, av, rfl, g4, hc0⟩)
        exact va_astqO hx hb hK hP hD hV q t q2 c0 g1 k2 (hcs c0 r9 hc0 hr9) g4 hr9 (zin_vp hi) hd (fun H1 locs1 j1 j2 j3 => kk _ _ H1 locs1 hle j1 j2 j3 hRn (hr.le hle))
      all_goals (have k4 : c0 = _ := k4; omega)
    | _ => simp [zafit] at hf
end
