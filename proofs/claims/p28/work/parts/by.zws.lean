/-! THE CLAIM OUT OF ONE WALK OF THE LAW'S BODY. Your part is whole_start (and what it stands on); all else here is the same for every law, but numbers. -/
def R_law : String := "DoorstepRidesLaw"
def lw_P (b : Addr) (xs : List Int32) (args : Array Value) (s : State) : Prop := args = #[.ref b] ∧ s.IntsAt b xs ∧ xs.length ≤ 260 ∧ (Jvm.Cond.and given_1 narrow_1).before args s = true
def lw_Q (_ : Array Value) (s : State) (o : Outcome) (t : State) : Prop := o = .returned (some (.int 1)) ∧ Framed s o t [] 600104 7301314
def lw_Z (below : List Frame) (a : Array Value) (s : State) : State → Prop := fun t => ∃ o, t.status = .running ∧ Ended t below o ∧ lw_Q a s o t
/-- the law's own end, with 1 on the stack, nothing written that was there before, its room as the claim has it -/
theorem lw_ret {p : Program} {l : Launch} {e : Env} {s : State} {m : MethodId} {below : List Frame} {meth : Method} {c : Code} {b : Nat} (hx : p.tables.exec = Jvm.exec) (hb : c.code = code) (hr : meth.sig.returnType = ret) (hlocks : meth.locks = false) {pc : Nat} {H : Heap} {ls : Array Slot} (hdg : decode code pc = .ok (.ireturn, 1)) : W p l e room_1 s m #[Value.ref b] below meth c H [] 600104 7301314 (lw_Z below #[Value.ref b] s) (F0 m pc ls [.int 1]) := by
  intro T hT X
  obtain ⟨fs, hret, hrun, hended, hW, hframe⟩ := X.leave (v := some (.int 1)) (hlocks := hlocks) (fun h => by rw [hr] at h; cases h)
  have hmeth' : T.vm.method? m = some meth := X.method'
  refine ⟨T.setFrames fs, ?_, .returned (some (.int 1)), hrun, hended, rfl, ⟨_, rfl⟩, hW, hframe⟩
  jvm_step X.here [X.here.top, hx, hb, hdg, hmeth', hr, ret, narrow_b1]
  (try refine ⟨rfl, ?_⟩); (try refine ⟨rfl, ?_⟩)
  first | (intro acts; rw [hret _ acts rfl rfl rfl]) | rw [hret _ _ rfl rfl rfl]
  exact Steps.refl _
/-- what holds at the law's entry: the machine, the code, the tables' words (any of lw_tbl by 'hts w (by decide +kernel)'), the script of L ints xs at the cell b, what the Statement gives of the start (any of its parts by flat_of_before) -/
def lw_At (p : Program) (s : State) (m : MethodId) (meth : Method) (c : Code) (b L : Nat) (xs : Nat → Int32) : Prop :=
  p.tables.exec = Jvm.exec ∧ c.code = code ∧ meth.sig.returnType = ret ∧ c.maxLocals = 27 ∧ s.vm.findClass R_law = some m.cls ∧ (∀ w ∈ lw_tbl, w.before #[Value.ref b] s = true) ∧ va_X b L xs s s.heap ∧ b < s.heap.size ∧ meth.locks = false ∧ (Jvm.Cond.and given_1 narrow_1).before #[Value.ref b] s = true ∧ c.exceptionTable.toList = []
/-- the world outside at the law's entry -/
theorem zG_s {s : State} {b : Nat} (hts : ∀ w ∈ lw_tbl, w.before #[Value.ref b] s = true) (hgv : (Jvm.Cond.and given_1 narrow_1).before #[Value.ref b] s = true) : ∃ em : Nat → Nat, zG em (fun q : Nat => s.heap.size ≤ q) s s.heap := by
  have hs := flat_of_before _ hgv
  have hA : ∀ q : Nat, q < s.heap.size → ¬ (fun q : Nat => s.heap.size ≤ q) q := fun q h => Nat.not_le.mpr h
  have htl : ∀ w ∈ tables_1, w.before #[Value.ref b] s = true := fun w h => hts w (List.mem_append_right _ h)
  obtain ⟨t, ht, hT⟩ := va_Tof (N := 0) (f := fun _ => Value.null) (A := fun q : Nat => s.heap.size ≤ q) (by decide) (hs (Cond.arrayOf (.static "java/util/ArrayList" "DEFAULTCAPACITY_EMPTY_ELEMENTDATA" "[Ljava/lang/Object;") (.object "java/lang/Object")) (by decide +kernel))
    (va_eqt (hs (Cond.eq (.length (.static "java/util/ArrayList" "DEFAULTCAPACITY_EMPTY_ELEMENTDATA" "[Ljava/lang/Object;")) (.int 0)) (by decide +kernel))) (fun j hj => absurd hj (Nat.not_lt_zero _)) hA
  have hZ := va_Zof (A := fun q : Nat => s.heap.size ≤ q) (htl (Cond.laysStatic "java/util/ArrayList" "DEFAULTCAPACITY_EMPTY_ELEMENTDATA" "[Ljava/lang/Object;") (zt1 (List.mem_of_getElem? (i := 44) rfl))) (htl (Cond.initialized "java/util/ArrayList") (zt1 (List.mem_of_getElem? (i := 4) rfl))) ht hA
  obtain ⟨mi, hM⟩ := va_Mi.of (hs (Cond.isRef (.mirror "[Ljava/lang/Object;")) (by decide +kernel))
  have hz1 := vx_Zqof (A := fun q : Nat => s.heap.size ≤ q) (htl (Cond.laysStatic Bundle.tN "UNASSIGNED_STACK" Bundle.steD) (zt1 (List.mem_of_getElem? (i := 142) rfl))) (htl (Cond.initialized Bundle.tN) (zt1 (List.mem_of_getElem? (i := 6) rfl))) (hs (Cond.isRef (.static Bundle.tN "UNASSIGNED_STACK" Bundle.steD)) (by decide +kernel)) hA
  have hz2 := vx_Zqof (A := fun q : Nat => s.heap.size ≤ q) (htl (Cond.laysStatic Bundle.tN "SUPPRESSED_SENTINEL" Bundle.listD) (zt1 (List.mem_of_getElem? (i := 144) rfl))) (htl (Cond.initialized Bundle.tN) (zt1 (List.mem_of_getElem? (i := 6) rfl))) (hs (Cond.isRef (.static Bundle.tN "SUPPRESSED_SENTINEL" Bundle.listD)) (by decide +kernel)) hA
  have t240 : ∃ sa, vk_R "DoorstepRides" 240 "out of its range" sa s := by
    obtain ⟨a, -, -, -, ha, -⟩ := Cond.exactly_spec (hs (Cond.exactly (.string "DoorstepRides" 240) "java/lang/String") (by decide +kernel))
    exact ⟨a, vk_R.of (htl _ (zt1 (List.mem_of_getElem? (i := 156) rfl))) ha⟩
  have t247 : ∃ sa, vk_R "DoorstepRides" 247 "not as things are" sa s := by
    obtain ⟨a, -, -, -, ha, -⟩ := Cond.exactly_spec (hs (Cond.exactly (.string "DoorstepRides" 247) "java/lang/String") (by decide +kernel))
    exact ⟨a, vk_R.of (htl _ (zt1 (List.mem_of_getElem? (i := 199) rfl))) ha⟩
  have t255 : ∃ sa, vk_R "DoorstepRides" 255 "no such vehicle" sa s := by
    obtain ⟨a, -, -, -, ha, -⟩ := Cond.exactly_spec (hs (Cond.exactly (.string "DoorstepRides" 255) "java/lang/String") (by decide +kernel))
    exact ⟨a, vk_R.of (htl _ (zt2 (List.mem_of_getElem? (i := 163) rfl))) ha⟩
  have t252 : ∃ sa, vk_R "DoorstepRides" 252 "no such rider" sa s := by
    obtain ⟨a, -, -, -, ha, -⟩ := Cond.exactly_spec (hs (Cond.exactly (.string "DoorstepRides" 252) "java/lang/String") (by decide +kernel))
    exact ⟨a, vk_R.of (htl _ (zt3 (List.mem_of_getElem? (i := 156) rfl))) ha⟩
  have t257 : ∃ sa, vk_R "DoorstepRides" 257 "no such request" sa s := by
    obtain ⟨a, -, -, -, ha, -⟩ := Cond.exactly_spec (hs (Cond.exactly (.string "DoorstepRides" 257) "java/lang/String") (by decide +kernel))
    exact ⟨a, vk_R.of (htl _ (zt3 (List.mem_of_getElem? (i := 195) rfl))) ha⟩
  have t259 : ∃ sa, vk_R "DoorstepRides" 259 "no such stop" sa s := by
    obtain ⟨a, -, -, -, ha, -⟩ := Cond.exactly_spec (hs (Cond.exactly (.string "DoorstepRides" 259) "java/lang/String") (by decide +kernel))
    exact ⟨a, vk_R.of (htl _ (zt3 (List.mem_of_getElem? (i := 230) rfl))) ha⟩
  have hNa : ¬ s.heap.size ≤ t := by
    obtain ⟨cell, -, -, -, -, -, -, h7⟩ := hT
    exact h7
  refine ⟨fun k => if k = 1 then t else mi, hNa, hZ, hT, hz1, hz2, fun w hw => va_Nw.of (zisB_on (List.mem_filter.mp hw).2) (hts w (List.mem_filter.mp hw).1), List.forall_mem_cons.mpr ⟨t240, List.forall_mem_cons.mpr ⟨t247, List.forall_mem_cons.mpr ⟨t255, List.forall_mem_cons.mpr ⟨t252, List.forall_mem_cons.mpr ⟨t257, List.forall_mem_cons.mpr ⟨t259, fun _ h => absurd h List.not_mem_nil⟩⟩⟩⟩⟩⟩, va_AO.of (htl (Cond.arrayOver (.object "java/lang/Object")) (zt2 (List.mem_of_getElem? (i := 46) rfl))), va_Dc.of (htl (Cond.declares ⟨"java/lang/Object", "getClass", "()Ljava/lang/Class;"⟩) (zt4 (List.mem_of_getElem? (i := 237) rfl))), hM, List.forall_mem_cons.mpr ⟨va_Nc.of (hs (Cond.not (.castable "java/lang/IllegalArgumentException" "java/lang/IllegalStateException")) (by decide +kernel)), List.forall_mem_cons.mpr ⟨va_Nc.of (hs (Cond.not (.castable "java/lang/IllegalStateException" "java/lang/IllegalArgumentException")) (by decide +kernel)), List.forall_mem_cons.mpr ⟨va_Nc.of (hs (Cond.not (.castable "java/lang/IndexOutOfBoundsException" "java/lang/IllegalArgumentException")) (by decide +kernel)), List.forall_mem_cons.mpr ⟨va_Nc.of (hs (Cond.not (.castable "java/lang/IndexOutOfBoundsException" "java/lang/IllegalStateException")) (by decide +kernel)), fun _ h => absurd h List.not_mem_nil⟩⟩⟩⟩⟩
/-- the classes at the law's entry -/
theorem zK_s {s : State} {b : Nat} (hts : ∀ w ∈ lw_tbl, w.before #[Value.ref b] s = true) : ∃ D : va_G, va_K D classes [] s := by
  have htT : ∀ w ∈ zT, w.before #[Value.ref b] s = true := fun w h => hts w (List.mem_filter.mp h).1
  have htl : ∀ w ∈ tables_1, w.before #[Value.ref b] s = true := fun w h => hts w (List.mem_append_right _ h)
  obtain ⟨c0, s0, k0⟩ := u_known htT zWs0 (htl _ (zt2 (List.mem_of_getElem? (i := 80) rfl)))
  obtain ⟨c1, s1, k1⟩ := u_known htT zWs1 (htl _ (zt4 (List.mem_of_getElem? (i := 32) rfl)))
  obtain ⟨c2, s2, k2⟩ := u_known htT zWs2 (htl _ (zt1 (List.mem_of_getElem? (i := 207) rfl)))
  obtain ⟨c3, s3, k3⟩ := u_known htT zWs3 (htl _ (zt1 (List.mem_of_getElem? (i := 58) rfl)))
  obtain ⟨c4, s4, k4⟩ := u_known htT zWs4 (htl _ (zt4 (List.mem_of_getElem? (i := 113) rfl)))
  obtain ⟨c5, s5, k5⟩ := u_known htT zWs5 (htl _ (zt2 (List.mem_of_getElem? (i := 72) rfl)))
  obtain ⟨c6, s6, k6⟩ := u_known htT zWs6 (htl _ (zt1 (List.mem_of_getElem? (i := 24) rfl)))
  obtain ⟨c7, s7, k7⟩ := u_known htT zWs8 (htl _ (zt1 (List.mem_of_getElem? (i := 32) rfl)))
  obtain ⟨c8, s8, k8⟩ := u_known htT zWs8 (htl _ (zt1 (List.mem_of_getElem? (i := 32) rfl)))
  obtain ⟨c9, s9, k9⟩ := u_known (C := "java/lang/IllegalArgumentException") (T := zF9) (N := 0) (n := 6) htT (fun w h => absurd h List.not_mem_nil) (htl _ (zt1 (List.mem_of_getElem? (i := 116) rfl)))
  obtain ⟨c10, s10, k10⟩ := u_known (C := "java/lang/IllegalStateException") (T := zF10) (N := 0) (n := 6) htT (fun w h => absurd h List.not_mem_nil) (htl _ (zt1 (List.mem_of_getElem? (i := 191) rfl)))
  obtain ⟨c11, s11, k11⟩ := u_known (C := "java/lang/IndexOutOfBoundsException") (T := zF11) (N := 0) (n := 6) htT (fun w h => absurd h List.not_mem_nil) (htl _ (zt2 (List.mem_of_getElem? (i := 155) rfl)))
  have hK : ∀ k : Nat, ∃ y : ClassId × (Nat → Nat), ∀ q : vw_C, classes[k]? = some q → u_Kn s q.1 q.2.1 q.2.2 y.1 y.2 := by
    intro k
    match k with
    | 0 => exact ⟨(c0, s0), fun q hq => by cases hq; exact k0⟩
    | 1 => exact ⟨(c1, s1), fun q hq => by cases hq; exact k1⟩
    | 2 => exact ⟨(c2, s2), fun q hq => by cases hq; exact k2⟩
    | 3 => exact ⟨(c3, s3), fun q hq => by cases hq; exact k3⟩
    | 4 => exact ⟨(c4, s4), fun q hq => by cases hq; exact k4⟩
    | 5 => exact ⟨(c5, s5), fun q hq => by cases hq; exact k5⟩
    | 6 => exact ⟨(c6, s6), fun q hq => by cases hq; exact k6⟩
    | 7 => exact ⟨(c7, s7), fun q hq => by cases hq; exact k7⟩
    | 8 => exact ⟨(c8, s8), fun q hq => by cases hq; exact k8⟩
    | 9 => exact ⟨(c9, s9), fun q hq => by cases hq; exact k9⟩
    | 10 => exact ⟨(c10, s10), fun q hq => by cases hq; exact k10⟩
    | 11 => exact ⟨(c11, s11), fun q hq => by cases hq; exact k11⟩
    | k + 12 => exact ⟨(c0, s0), fun q hq => by simp at hq⟩
  exact ⟨(fun k => (Classical.choose (hK k)).1, fun k => (Classical.choose (hK k)).2), fun k q hq => Classical.choose_spec (hK k) q hq, fun k q h => by simp at h⟩
theorem zby_law : zby 210 = code := rfl
theorem zret_law {i : Instr} {st : List Value} {vo : Option Value} (h : zret i (zinf 210).2.2.2.2 st = some vo) (hv : vo = some (.int 1)) : i = .ireturn ∧ st = [.int 1] := by
  subst hv
  have h1 : (zinf 210).2.2.2.2 = 1 := rfl
  rw [h1] at h
  unfold zret at h
  split at h
  · split at h
    · rename_i x
      rw [if_neg (by decide), if_pos rfl] at h
      split at h
      · cases h
        exact ⟨rfl, rfl⟩
      · cases h
    · cases h
  · split at h
    · rw [if_neg (by decide)] at h
      cases h
    · rw [if_neg (by decide)] at h
      cases h
    · cases h
  · split at h
    · rw [if_neg (by decide)] at h
      cases h
    · cases h
  · split at h
    · rw [if_neg (by decide)] at h
      cases h
    · cases h
  · cases h
set_option maxHeartbeats 4000000 in
/-- from the entry, for every script of at most 260 ints, the law comes to its end with true -/
theorem whole_start {p : Program} {e : Env} {s : State} {m : MethodId} {below : List Frame} {meth : Method} {c : Code} (l : Launch) (hflags : l.flags = flags0) {b L : Nat} {xs : Nat → Int32} (hL : L ≤ 260) (C0 : lw_At p s m meth c b L xs) : W p l e room_1 s m #[Value.ref b] below meth c s.heap [] 0 0 (lw_Z below #[Value.ref b] s) (entryFrame m ([Value.ref b] : List Value).toArray 27) := by
  obtain ⟨hx, hb, hr, hml, hown, hts, hX, hbl, hlocks, hgv, htb⟩ := id C0
  have htT : ∀ w ∈ zT, w.before #[Value.ref b] s = true := fun w h => hts w (List.mem_filter.mp h).1
  have hst : l.stackTraces = false := by
    show (!l.flags.contains noTraceFlag) = false
    rw [hflags]
    decide +kernel
  obtain ⟨em, hG⟩ := zG_s hts hgv
  obtain ⟨D, hK⟩ := zK_s hts
  have C1 : zCx p room_1 s m #[Value.ref b] meth c em b (fun q : Nat => s.heap.size ≤ q) (some (L, xs)) 20 210 :=
    ⟨hx, hb.trans zby_law.symm, hml, hown, htT, hlocks, fun q => absurd q (by decide), Nat.le_of_ble_eq_true rfl, Nat.le_of_ble_eq_true rfl, hG, fun q h => h, fun L' xs' e => by
      cases e
      exact ⟨hX, hbl, Nat.not_le.mpr hbl⟩, htb⟩
  obtain ⟨h', ⟨n, hz⟩, hroom⟩ := zlaw_run (xs := xs) (Nat.le_trans hL (by decide))
  have hSt : zSt em b [] [.retAddr 0] [.ref b] := ⟨rfl, trivial⟩
  obtain ⟨hLo, hsz⟩ := zL_entry (ml := 27) hSt rfl (by decide)
  rw [lg_entry_eq]
  generalize (lg_sl [Value.ref b] ++ List.replicate (27 - (lg_sl [Value.ref b]).length) Slot.unset).toArray = arr at hLo hsz ⊢
  have hz : zev n (some (L, xs)) 20 210 0 (zent [.retAddr 0] 27) [] [] = some (.inl (some (.int 1)), h') := hz
  have hz0 : zsz [] = 0 := rfl
  refine zbody_all hst n (some (L, xs)) 20 210 0 (zent [.retAddr 0] 27) [] [] (.inl (some (.int 1))) h' hz (fun _ => ⟨_, rfl⟩) p e room_1 s m #[Value.ref b] below meth c em b (fun q : Nat => s.heap.size ≤ q) D _ C1 s.heap [] 0 0 [] [] arr [] hK (fun k q h => by simp at h) ⟨fun i j p q h => by simp at h, fun k q h => by simp at h⟩ va_S.rf ⟨rfl, fun k ob h => by simp at h⟩ hLo hsz trivial ?_ ?_ ?_ ?_
  · have : room_1.cells = 600104 := rfl
    have e0 : ([] : zHp).length = 0 := rfl
    omega
  · have : room_1.slots = 7301314 := rfl
    omega
  · intro i vo pc1 H1 locs1 ws1 tys1 arr1 st1 st1' hr1 hd hrt hS1 hle hK1 hP1 hD1 hV1 hR1
    obtain ⟨rfl, rfl⟩ := zret_law hrt (Sum.inl.inj hr1).symm
    obtain ⟨r1, rfl, hr2⟩ := hS1.int
    cases r1 with
    | cons _ _ => exact hr2.elim
    | nil =>
      refine va_forget (fun q hq => hV1.2.2 q hq) ?_
      have e0 : ([] : zHp).length = 0 := rfl
      refine W.widen (k := 600104) (n := 7301314) (by omega) (by omega) ?_
      exact lw_ret hx hb hr hlocks (zby_law ▸ hd)
  · intro j E q ce pc1 H1 locs1 ws1 tys1 arr1 st1' hr1
    cases hr1
set_option maxHeartbeats 4000000 in
theorem lw_walk (l : Launch) (hflags : l.flags = flags0) (b : Addr) (xs : List Int32) : MetFree l x (headSpec (Jvm.Cond.code x code maxLocals ret :: tables_1) room_1) (lw_P b xs) (fun _ _ _ _ _ => True) lw_Q := by
  refine MetFree.of_bodyS (code := code) (maxLocals := maxLocals) (ret := ret) (by decide) ?_ ?_
  · intro args s m h hn
    obtain ⟨meth, c, h1, h2, h3, h4, h5, h6, -, -⟩ := Cond.code_spec hn (atoms_spec (ws := Jvm.Cond.code x code maxLocals ret :: tables_1) h _ List.mem_cons_self)
    exact ⟨meth, c, h1, h2, h3, h4, h5, h6⟩
  · intro p e s m args below meth c s₁ B hml0 hP _
    obtain ⟨rfl, hx, hbd, hgv⟩ := hP
    obtain ⟨scr, harrAt, hlist, hof, hsmall⟩ := hx
    obtain ⟨hcb, hkn, -, -⟩ := State.arrayAt?_spec harrAt
    have hown : s.vm.findClass R_law = some m.cls := findClass_of_methodNamed B.named
    have hts0 : ∀ c ∈ (Jvm.Cond.code x code maxLocals ret :: tables_1), c.before #[Value.ref b] s = true := atoms_spec (ws := Jvm.Cond.code x code maxLocals ret :: tables_1) B.pre
    have hts : ∀ w ∈ lw_tbl, w.before #[Value.ref b] s = true := k2_hts_sels lw_privs (fun w hw => hts0 w (List.mem_cons_of_mem _ hw)) lw_privs_ok
    have hml : c.maxLocals = 27 := B.maxLocals_eq (hts0 _ List.mem_cons_self)
    have X₀ : Stand p l e room_1 s m #[Value.ref b] below meth c s₁ [] 0 0 := Stand.of_body B
    have htb : c.exceptionTable.toList = [] := by
      obtain ⟨meth9, c9, h1, h2, -, -, -, -, h7, -⟩ := Cond.code_spec B.named (hts0 _ List.mem_cons_self)
      cases Option.some.inj (h1.symm.trans B.method)
      cases Option.some.inj (h2.symm.trans X₀.code)
      rw [Array.isEmpty_iff.mp h7]
    have hh0 : s₁.heap = s.heap := by rw [B.state]; rfl
    have hsz : scr.slots.size = xs.length := by rw [← Array.length_toList, hlist, List.length_map]
    have hval : ∀ j : Nat, j < xs.length → scr.slots[j]? = some (.int (xs.getD j 0)) := fun j hj => by
      rw [← Array.getElem?_toList, hlist]
      simp [hj]
    have hbl : b < s.heap.size := (Array.getElem?_eq_some_iff.mp hcb).1
    have hX : va_X b xs.length (fun j => xs.getD j 0) s s.heap := ⟨scr, hcb, hof, hkn, hsz, hval⟩
    have K : W p l e room_1 s m #[Value.ref b] below meth c s₁.heap [] 0 0 (lw_Z below #[Value.ref b] s) (entryFrame m ([Value.ref b] : List Value).toArray 27) := by
      rw [hh0]
      exact whole_start l hflags hbd ⟨B.exec, B.bytes, B.returns, hml, hown, hts, hX, hbl, B.notSynchronized, hgv, htb⟩
    obtain ⟨t, a1, o, b1, b2, b3⟩ := K s₁ rfl X₀
    exact ⟨t, o, a1, b1, b2, b3⟩
theorem lw_pre_spec {args : Array Value} {s : State} (h : (Jvm.Cond.and given_1 narrow_1).before args s = true) (hr : rest_1_c.before args s = true) : ∃ (b : Addr) (xs : List Int32), lw_P b xs args s := by
  have hs := flat_of_before _ h
  have hq := flat_of_before _ hr
  have hc : (Cond.count 1).before args s = true := hs _ (by decide +kernel)
  have harr : (Cond.arrayOf (.arg 0) .int).before args s = true := hs _ (by decide +kernel)
  have hle : (Cond.le (.length (.arg 0)) (.int 260)).before args s = true := hs _ (by decide +kernel)
  have hlen : (Cond.isInt (.length (.arg 0))).before args s = true := hq _ (by decide +kernel)
  have hall : (Cond.all (.arg 0) (.isInt (.elem (.arg 0) (.index 0)))).before args s = true := hq _ (by decide +kernel)
  obtain ⟨b, xs, hb, hx⟩ := State.ints_of_pre rfl harr hlen hall
  have hsm : xs.length < 2 ^ 31 := hx.choose_spec.2.2.2
  have hev : (Term.length (.arg 0)).eval args s none [] s = some (.int xs.length.toInt32) := hx.length_eval hb
  have hv := Cond.le_ints hev (show (Term.int 260).eval args s none [] s = some (.int 260) from rfl)
  have hd : xs.length.toInt32 ≤ 260 := by
    simpa [Cond.before, Cond.holds, hv] using hle
  have hN : xs.length ≤ 260 := (Int32.ofNat_le_ofNat hsm (by decide)).mp (show Int32.ofNat xs.length ≤ Int32.ofNat 260 from hd)
  exact ⟨b, xs, Cond.one_arg hc (show args[0]? = some (.ref b) from hb), hx, hN, h⟩
theorem lw_comes (l : Launch) (hflags : l.flags = flags0) : Comes l x (Jvm.Cond.code x code maxLocals ret :: tables_1) room_1 (fun tb e args s => Calls_1 tb e args s ∧ rest_1 tb e args s ∧ Pre_1 tb e args s)
    (fun _ _ args s o t => lw_Q args s o t) := by
  intro p e ha hc hk s m args below hf hfit hheap happ hpre
  obtain ⟨b, xs, hP⟩ := lw_pre_spec hpre.2.2 hpre.2.1
  obtain ⟨k, o, h1, h2, h3, hQ⟩ := lw_walk l hflags b xs p e ha hc hk s m args below hf ((Spec.applies_iff_loose hf).mp happ).1 hP trivial
  exact ⟨k, o, h1, h2, h3, hQ⟩
theorem lw_frame {s t : State} {o : Outcome} {args : Array Value} (h : Framed s o t [] 600104 7301314) :
    Framed s o t (fieldLocs frame_1_writes args s ++ arrayLocs frame_1_arrays args s ++ staticLocs frame_1_statics s) 600104 7301314 := h
theorem lw_limb (L : Cond) (hL : ∀ (args : Array Value) (s t : State), L.after args s (.returned (some (.int 1))) t = true) :
    ArmFor flags0 classFile x code maxLocals ret World_1 tables_1 room_1 Calls_1 rest_1 Pre_1
      (fun tb e a s o t => postC L tb e a s o t ∧ Framed s o t (fieldLocs frame_1_writes a s ++ arrayLocs frame_1_arrays a s ++ staticLocs frame_1_statics s) 600104 7301314) := by
  intro l hflags _ _ p e ha hc hk s m args below hf hfit hheap happ hpre
  obtain ⟨k, o, h1, h2, h3, rfl, hF⟩ := lw_comes l hflags p e ha hc hk s m args below hf hfit hheap happ hpre
  exact ⟨k, _, h1, h2, h3, hL args s _, lw_frame hF⟩
theorem i_vc : Claimed_1_1 ∧ Claimed_1_2 := ⟨lw_limb limb_1_1 (fun args s t => by simp [limb_1_1, Cond.after, Cond.holds, Cond.value]), lw_limb limb_1_2 (fun args s t => Cond.after_iff.mpr (by
  first | (rw [show limb_1_2 = Cond.eq .result (.int 1) from rfl, Cond.eq_ints (x := 1) (y := 1) rfl rfl]; simp; done) | (simp [limb_1_2, Cond.value, Term.eval]; done)))⟩
