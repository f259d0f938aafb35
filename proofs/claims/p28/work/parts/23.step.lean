/-! ALL BODIES, ALL CONTRACTS -/
theorem zThL_own : ∀ x ∈ zThL, (zy x.1).cls = "DoorstepRides" := by decide +kernel
theorem z_throw {p : Program} {l : Launch} {e : Env} {R : Room} {s : State} {m : MethodId} {args : Array Value} {below : List Frame} {meth : Method} {c : Code} {H : Heap} {locs : List Loc} {cells slots : Nat} {Q : State → Prop} {pc : Nat} {em : Nat → Nat} {scb : Nat} {A : Nat → Prop} {D : va_G} {ws : va_W} {tys : List (ClassId × FieldType)} {arr : Array Slot} {h : zHp} {sc : zScr} {d k idx a b : Nat}
    (hl : l.stackTraces = false) (C0 : zCx p R s m args meth c em scb A sc d k) (hK : va_K D classes tys s) (hP : va_P D classes ws H) (hD : va_D A ws) (hV : va_S A s.heap H locs) (hR : zR em scb ws tys h) (har : arr.size = (zinf k).2.1) (hown9 : (zy k).cls = "DoorstepRides")
    (ht : zthr "DoorstepRides" (zby k) pc idx a b) (hc1 : cells + 1 ≤ R.cells) (hc2 : slots + 6 ≤ R.slots)
    (kx : ∀ (E : String) (q : Nat) (ce : Cell) (pc1 : Nat) (H1 : Heap) (ws1 : va_W), zexn[a - 9]? = some E → H1[q]? = some ce → ce.vm = .none → s.vm.findClass E = some ce.cls → zLe ws ws1 → va_P D classes ws1 H1 → va_D A ws1 → va_S A s.heap H1 locs → zR em scb ws1 tys (h ++ [(a, [])]) → vx_W p l e R s m args below meth c H1 locs (cells + 1) (slots + 6) Q (F0 m pc1 arr []) q) :
    W p l e R s m args below meth c H locs cells slots Q (F0 m pc arr []) := by
  obtain ⟨hx, hb, hml, hown, hts, hlk, hini, hfr, hlo, hG, hA, hsc, htb⟩ := C0
  obtain ⟨g0, g1, g2, g3, g4, g5, g6, g7, g8, g9, g10⟩ := hG
  obtain ⟨ks, ic, tx, -, t1, t2, t3, t4, t5, t6, d0, d3, dd⟩ := ht
  obtain ⟨sa, hstr⟩ := g6 _ t1
  rw [hown9] at hown
  obtain ⟨nm, hnm⟩ : ∃ nm, zexn[a - 9]? = some nm := ⟨_, List.getElem?_eq_getElem (show a - 9 < zexn.length from (by show a - 9 < 3; omega))⟩
  rw [hnm] at t2 t3 t4
  simp only [Option.getD_some] at t2 t3 t4
  have hat : ∀ w ∈ vx_atS "DoorstepRides" ic nm ["java/lang/RuntimeException", "java/lang/Exception"], w.before args s = true := fun w hw => by
    rcases t4 w hw with q | q
    · exact hts _ q
    · exact va_Nw.use (zisB_on (List.mem_filter.mp q).2) (g5 _ q)
  have hgood : ∀ w ∈ Cond.classLink "DoorstepRides" idx nm :: Cond.initialized nm :: vx_atS "DoorstepRides" ic nm ["java/lang/RuntimeException", "java/lang/Exception"], vx_ot w = true := fun w hw => by
    have g : ∀ w ∈ zT, vx_ot w = true := fun w hw => by
      have := (List.mem_filter.mp hw).2
      simp [vx_ot, this]
    rcases List.mem_cons.mp hw with rfl | hw
    · exact g _ t2
    rcases List.mem_cons.mp hw with rfl | hw
    · exact g _ t3
    rcases t4 w hw with q | q
    · exact g _ q
    · simp [vx_ot, zisB_on (List.mem_filter.mp q).2]
  have hcl : ∃ T0, classes[a]? = some (nm, T0, 0) := by
    have : a = 9 ∨ a = 10 ∨ a = 11 := by omega
    rcases this with rfl | rfl | rfl <;> (cases hnm; exact ⟨_, rfl⟩)
  obtain ⟨T0, hcl⟩ := hcl
  have hfit : Bundle.fit nm = true := by
    have : a = 9 ∨ a = 10 ∨ a = 11 := by omega
    rcases this with rfl | rfl | rfl <;> (cases hnm; decide +kernel)
  have after : ∀ (q : Nat) (H1 : Heap), va_P D classes (ws ++ [(q, .inr (a, []))]) H1 → va_D A (ws ++ [(q, .inr (a, []))]) → va_S A s.heap H1 locs → ∀ pc1, vx_W p l e R s m args below meth c H1 locs (cells + 1) (slots + 6) Q (F0 m pc1 arr []) q := by
    intro q H1 j1 j2 j3 pc1
    have hq : (ws ++ [(q, Sum.inr (a, []))])[ws.length]? = some (q, (Sum.inr (a, []) : va_E)) := by
      rw [List.getElem?_append_right (Nat.le_refl _), Nat.sub_self]; rfl
    obtain ⟨r, h1, cell, f1, f2, f3, -⟩ := j1 ws.length _ hq
    have hr : r = (nm, T0, 0) := Option.some.inj (h1.symm.trans hcl)
    subst hr
    have hX : zX em scb (ws ++ [(q, .inr (a, []))]) tys (a, []) (.inr (a, [])) := Or.inl ⟨t6, [], rfl, rfl, fun j v hj => by simp at hj⟩
    exact kx nm q cell pc1 H1 _ hnm f1 f3 (by rw [f2]; exact (hK.1 a _ hcl).2.1) zLe.push j1 j2 j3 (hR.push (fun _ _ z => z) hX)
  rcases dd with ⟨-, d4, d6, d9⟩ | ⟨-, d4, d7, d10⟩
  · refine vx_makeS hx hb hl hown hfit (by decide +kernel) (hts _ t2) (hts _ t3) hstr hat hgood g3 g4 hV (by rw [har, hml]) d0 d3 d4 d6 hK hP hD hA hcl (by show 2 + 3 < _; omega) (by show 0 + _ ≤ _; show 0 + (13 * (2 + 1) + 43) ≤ _; omega) hc1 hc2 (fun q H1 j1 j2 j3 => ?_)
    exact vx_athrow hx hb d9 (after q H1 j1 j2 j3 _)
  · refine z_makeSW hx hb hl hown hfit (by decide +kernel) (hts _ t2) (hts _ t3) hstr hat hgood g3 g4 hV (by rw [har, hml]) d0 d3 d4 d7 hK hP hD hA hcl (by show 2 + 3 < _; omega) (by show 0 + _ ≤ _; show 0 + (13 * (2 + 1) + 43) ≤ _; omega) hc1 hc2 (fun q H1 j1 j2 j3 => ?_)
    exact vx_athrow hx hb d10 (after q H1 j1 j2 j3 _)
