/-! A CONTRACT OUT OF A BODY -/
theorem lg_cat1 : ∀ {as : List Value}, (∀ v ∈ as, v.category = 1) → lg_sl as = as.map Slot.val
  | [], _ => rfl
  | v :: r, h => by
    have h1 := h v List.mem_cons_self
    have h2 := lg_cat1 (as := r) (fun w hw => h w (List.mem_cons_of_mem _ hw))
    unfold lg_sl at h2 ⊢
    rw [List.flatMap_cons, h2, if_neg (by rw [h1]; decide)]
    rfl
theorem zSt.cats {em : Nat → Nat} {scb : Nat} {ws : va_W} : ∀ {as as' : List Value}, zSt em scb ws as as' → as.all zcat1 = true → ∀ v ∈ as', v.category = 1
  | [], [], _, _, v, hv => nomatch hv
  | w :: r, w' :: r', h, ha, v, hv => by
    simp only [List.all_cons, Bool.and_eq_true] at ha
    rcases List.mem_cons.mp hv with rfl | hv
    · exact h.1.cat ha.1
    · exact zSt.cats h.2 ha.2 v hv
  | [], _ :: _, h, _, _, _ => h.elim
  | _ :: _, [], h, _, _, _ => h.elim
theorem zL_entry {em : Nat → Nat} {scb : Nat} {ws : va_W} {as as' : List Value} {ml : Nat} (hS : zSt em scb ws as as') (ha : as.all zcat1 = true) (hn : as.length ≤ ml) :
    zL em scb ws (zent as ml) (lg_sl as' ++ List.replicate (ml - (lg_sl as').length) Slot.unset).toArray ∧ (lg_sl as' ++ List.replicate (ml - (lg_sl as').length) Slot.unset).toArray.size = ml := by
  have hc := hS.cats ha
  have hl := hS.len
  have e1 := lg_cat1 hc
  have e2 : (lg_sl as').length = as.length := by rw [e1, List.length_map, hl]
  have h0 := lv_entry as' (n := ml) (by omega)
  have hsz : (lg_sl as' ++ List.replicate (ml - (lg_sl as').length) Slot.unset).toArray.size = ml := h0.1
  refine ⟨⟨?_, h0.2.1, fun i v hi => ?_⟩, hsz⟩
  · rw [hsz]
    simp [zent]
    omega
  · unfold zent at hi
    by_cases hil : i < as.length
    · rw [List.getElem?_append_left (by simpa using hil), List.getElem?_map] at hi
      cases hv : as[i]? with
      | none => rw [hv] at hi; cases hi
      | some w =>
        rw [hv] at hi
        cases hi
        obtain ⟨v', h1, h2⟩ := hS.get i v hv
        refine ⟨v', h2, ?_⟩
        rw [e1, List.getElem?_toArray, List.getElem?_append_left (by rw [List.length_map]; omega), List.getElem?_map, h1]
        rfl
    · rw [List.getElem?_append_right (by simpa using hil), List.getElem?_replicate] at hi
      split at hi <;> cases hi
set_option maxHeartbeats 4000000 in
theorem zbody_ct {l : Launch} {n : Nat} (hB : zBody l n) (d k : Nat) (hk : k < 210) (M0 : zMd k) : zCt l n d k := by
  intro em scb A D ws tys as as' h r h' hz hna hml has hrr hR hS
  obtain ⟨m1, m2⟩ := zev_mono n hz
  have key : ∀ (p : Program) (e : Env) (s : State) (m : MethodId) (args : Array Value) (below : List Frame) (meth : Method) (c : Code), p.tables.exec = Jvm.exec → c.code = zby k → c.maxLocals = (zinf k).2.1 → s.vm.findClass (zy k).cls = some m.cls → (∀ w ∈ zT, w.before args s = true) → meth.locks = false → meth.name = (zy k).name → meth.sig.returnType = zrt k → c.exceptionTable.toList = tableOf (zhh k) → zPc em A D ws tys as' args s →
      W p l e (zrm d (h'.length - h.length) (zsz h' - zsz h)) s m args below meth c s.heap [] 0 0 (vx_MQ below (zQc em scb A D ws r h') (zXc em scb A D ws r h') args s (h'.length - h.length) (zsz h' - zsz h) A) (entryFrame m args (zinf k).2.1) := by
    intro p e s m args below meth c hx hb hml2 hown hts hlk hnm hret htb ⟨ha, hK, hP, hD, hG, hA⟩
    subst ha
    have C0 : zCx p (zrm d (h'.length - h.length) (zsz h' - zsz h)) s m as'.toArray meth c em scb A none d k := ⟨hx, hb, hml2, hown, hts, hlk, fun hk2 => by rw [hnm]; exact M0.2.2.2.2.1 hk2, Nat.le_refl _, Nat.le_refl _, hG, hA, (fun _ _ z => by cases z), htb⟩
    rw [lg_entry_eq]
    obtain ⟨hL, hsz⟩ := zL_entry hS has (by rw [hna]; exact hml)
    generalize (lg_sl as' ++ List.replicate ((zinf k).2.1 - (lg_sl as').length) Slot.unset).toArray = arr at hL hsz ⊢
    refine hB none d k 0 _ [] h r h' hz (fun q => by rcases q with q | q; exact hrr q; omega) p e _ s m as'.toArray below meth c em scb A D _ C0 s.heap [] 0 0 ws tys arr [] hK hP hD va_S.rf hR hL hsz trivial (by show 0 + _ ≤ _; rw [Nat.zero_add]; exact Nat.le_refl _) (by show 0 + _ ≤ _; rw [Nat.zero_add]; exact Nat.le_refl _) ?_ ?_
    · intro i vo pc1 H1 locs1 ws1 tys1 arr1 st1 st1' hr1 hd hrt hS1 hle hK1 hP1 hD1 hV1 hR1
      rw [Nat.zero_add, Nat.zero_add]
      refine vx_ret ?_
      have q : ∀ (vo' : Option Value), zVo em scb ws1 vo vo' → ∀ t : State, t.heap = H1 → s.WarmedH t.vm → zQc em scb A D ws r h' as'.toArray s (.returned vo') t := fun vo' hvo t ht hW =>
        ⟨⟨vo, vo', ws1, tys1, hr1, rfl, hvo, hle, va_K.moved hW.alike hK1, by rw [ht]; exact hP1, hD1, hR1⟩, hV1.F ht⟩
      have hrc := M0.2.2.2.1
      unfold zret at hrt
      split at hrt
      · split at hrt
        · rename_i x
          obtain ⟨r1, rfl, hr2⟩ := hS1.int
          cases r1 with
          | cons _ _ => exact hr2.elim
          | nil =>
            split at hrt
            · rename_i h0
              cases hrt
              have : zrt k = some .int := by rcases hrc with ⟨-, z⟩ | ⟨z, -⟩ | ⟨z, -⟩ | ⟨z, -⟩ | ⟨z, -⟩ <;> first | exact z | omega
              exact W.iret hx hb (hret.trans this) (q _ rfl) hV1.2.2 hd hlk
            · split at hrt
              · rename_i h0
                split at hrt
                · rename_i h01
                  cases hrt
                  have : zrt k = some .boolean := by rcases hrc with ⟨z, -⟩ | ⟨-, z⟩ | ⟨z, -⟩ | ⟨z, -⟩ | ⟨z, -⟩ <;> first | exact z | omega
                  exact W.zret hx hb (hret.trans this) (by rcases h01 with rfl | rfl <;> decide +kernel) (q _ rfl) hV1.2.2 hd hlk
                · cases hrt
              · cases hrt
        · cases hrt
      · split at hrt
        · split at hrt
          · rename_i h0
            cases hrt
            obtain ⟨v', r1, rfl, hv, hr2⟩ := hS1.any
            cases r1 with
            | cons _ _ => exact hr2.elim
            | nil =>
              obtain ⟨t0, z1, z2⟩ : ∃ t, zrt k = some t ∧ ((∃ n, t = .object n) ∨ ∃ u, t = .array u) := by rcases hrc with ⟨z, -⟩ | ⟨z, -⟩ | ⟨-, z⟩ | ⟨z, -⟩ | ⟨z, -⟩ <;> first | exact z | omega
              obtain ⟨ad, e0, -, hv2⟩ := id hv
              exact W.aret hx hb (hret.trans z1) z2 (Or.inr ⟨ad, hv2⟩) (q _ hv) hV1.2.2 hd hlk
          · cases hrt
        · split at hrt
          · rename_i h0
            cases hrt
            obtain ⟨v', r1, rfl, hv, hr2⟩ := hS1.any
            cases r1 with
            | cons _ _ => exact hr2.elim
            | nil =>
              obtain ⟨t0, z1, z2⟩ : ∃ t, zrt k = some t ∧ ((∃ n, t = .object n) ∨ ∃ u, t = .array u) := by rcases hrc with ⟨z, -⟩ | ⟨z, -⟩ | ⟨-, z⟩ | ⟨z, -⟩ | ⟨z, -⟩ <;> first | exact z | omega
              exact W.aret hx hb (hret.trans z1) z2 (Or.inl hv) (q _ hv) hV1.2.2 hd hlk
          · cases hrt
        · cases hrt
      · split at hrt
        · split at hrt
          · rename_i h0
            cases hrt
            obtain ⟨r1, rfl, hr2⟩ := hS1.long
            cases r1 with
            | cons _ _ => exact hr2.elim
            | nil =>
              have : zrt k = some .long := by rcases hrc with ⟨z, -⟩ | ⟨z, -⟩ | ⟨z, -⟩ | ⟨-, z⟩ | ⟨z, -⟩ <;> first | exact z | omega
              exact W.lret hx hb (hret.trans this) (q _ rfl) hV1.2.2 hd hlk
          · cases hrt
        · cases hrt
      · split at hrt
        · split at hrt
          · rename_i h0
            cases hrt
            cases st1' with
            | cons _ _ => exact hS1.elim
            | nil =>
              have : zrt k = none := by rcases hrc with ⟨z, -⟩ | ⟨z, -⟩ | ⟨z, -⟩ | ⟨z, -⟩ | ⟨-, z⟩ <;> first | exact z | omega
              exact W.vret hx hb (hret.trans this) (q _ trivial) hV1.2.2 hd hlk
          · cases hrt
        · cases hrt
      · cases hrt
    · intro j E q ce pc1 H1 locs1 ws1 tys1 arr1 st1' hr1 hj9 hE hce hcv hcl hle hK1 hP1 hD1 hV1 hR1
      rw [Nat.zero_add, Nat.zero_add]
      have hh : zhh k = [] := by
        rcases Classical.em (zhh k = []) with z | z
        · exact z
        · obtain ⟨vo, hvo⟩ := hrr z
          rw [hvo] at hr1; cases hr1
      exact vx_out (fun x hx => by rw [htb, hh] at hx; cases hx) hlk hce hcv hcl (fun t ht ha => ⟨j, ws1, tys1, hr1, hj9, hE, hle, va_K.moved ha hK1, by rw [ht]; exact hP1, hD1, hR1, hV1.F ht⟩) hV1.2.2 (Nat.le_refl _) (Nat.le_refl _)
  by_cases hh : zhh k = []
  · refine vx_ofW (cc := zby k) (maxL := (zinf k).2.1) (ret := zrt k) (ws' := zT) M0.1 (by unfold zhd; rw [if_pos hh]) ?_
    intro p e s m args below meth c s₁ B hml2 htab hpc
    have hts0 := atoms_spec (ws := zhd k :: zT) B.pre
    exact key p e s m args below meth c B.exec B.bytes hml2 (findClass_of_methodNamed B.named) (fun w hw => hts0 w (List.mem_cons_of_mem _ hw)) B.notSynchronized (name_of_methodNamed B.named B.method).1 B.returns (by rw [hh]; exact List.eq_nil_iff_forall_not_mem.mpr (fun x hx => htab x hx)) hpc
  · refine vx_ofWH (cc := zby k) (maxL := (zinf k).2.1) (ret := zrt k) (hh := zhh k) (ws' := zT) M0.1 (by unfold zhd; rw [if_neg hh]) ?_
    intro p e s m args below meth c s₁ B hml2 hpc
    have hts0 := atoms_spec (ws := zhd k :: zT) B.pre
    exact key p e s m args below meth c B.exec B.bytes hml2 (findClass_of_methodNamed B.named) (fun w hw => hts0 w (List.mem_cons_of_mem _ hw)) B.notSynchronized (name_of_methodNamed B.named B.method).1 B.returns (vx_table (x := zy k) B (by have := hts0 _ List.mem_cons_self; unfold zhd at this; rw [if_neg hh] at this; exact this)) hpc
