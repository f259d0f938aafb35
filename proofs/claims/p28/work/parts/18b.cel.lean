/-! THE LAW'S CELL: one step of the logical machine, walked here by the kit's rows -/
theorem zdcl0 : decode zcby 0 = .ok (.aload_n 0, 1) := by decide +kernel
theorem zdcl1 : decode zcby 1 = .ok (.arraylength, 1) := by decide +kernel
theorem zdcl2 : decode zcby 2 = .ok (.ifCond .ne 7, 3) := by decide +kernel
theorem zdcl5 : decode zcby 5 = .ok (.iconst 0, 1) := by decide +kernel
theorem zdcl6 : decode zcby 6 = .ok (.goto 14, 3) := by decide +kernel
theorem zdcl9 : decode zcby 9 = .ok (.aload_n 0, 1) := by decide +kernel
theorem zdcl10 : decode zcby 10 = .ok (.iload_n 1, 1) := by decide +kernel
theorem zdcl11 : decode zcby 11 = .ok (.aload_n 0, 1) := by decide +kernel
theorem zdcl12 : decode zcby 12 = .ok (.arraylength, 1) := by decide +kernel
theorem zdcl13 : decode zcby 13 = .ok (.irem, 1) := by decide +kernel
theorem zdcl14 : decode zcby 14 = .ok (.iaload, 1) := by decide +kernel
theorem zdcl15 : decode zcby 15 = .ok (.bipush 31, 2) := by decide +kernel
theorem zdcl17 : decode zcby 17 = .ok (.iload_n 1, 1) := by decide +kernel
theorem zdcl18 : decode zcby 18 = .ok (.imul, 1) := by decide +kernel
theorem zdcl19 : decode zcby 19 = .ok (.iadd, 1) := by decide +kernel
theorem zdcl20 : decode zcby 20 = .ok (.ireturn, 1) := by decide +kernel
def zclv (L : Nat) (xs : Nat → Int32) (k v : Int32) : Prop := (Int32.ofNat L = 0 ∧ v = 0) ∨ (¬ Int32.ofNat L = 0 ∧ zin (k - k / Int32.ofNat L * Int32.ofNat L) L = true ∧ v = xs (k - k / Int32.ofNat L * Int32.ofNat L).toNatClampNeg + 31 * k)
def zPcl (b L : Nat) (xs : Nat → Int32) (k : Int32) : Array Value → State → Prop := fun v U => v = ([.ref b, .int k] : List Value).toArray ∧ va_X b L xs U U.heap ∧ b < U.heap.size
theorem zPcl_blind {b L : Nat} {xs : Nat → Int32} {k : Int32} : FrameBlind (zPcl b L xs k) := by
  intro a U g mk ⟨h1, h2, h3⟩
  exact ⟨h1, va_X.moved (u := U) (U := U.calling g mk a) (Vm.Alike.refl U.vm) h2, h3⟩
set_option maxHeartbeats 4000000 in
set_option maxRecDepth 100000 in
theorem zc_cell (l : Launch) {L : Nat} {xs : Nat → Int32} {b : Nat} {k v : Int32} (hv : zclv L xs k v) : Met l zcy [Cond.code zcy zcby 2 (some .int)] ({ frames := 0, cells := 0, slots := 0, locals := 0 }) (zPcl b L xs k) (va_Qi (fun (r : Int32) (_ : Unit) => r = v) (fun _ _ => True) (fun _ => False)) 0 0 (fun _ => False) := by
  refine Met.ofW (cc := zcby) (maxL := 2) (ret := (some .int)) (by decide) rfl ?_
  intro p e s m args below meth c s₁ B hml hv0
  obtain ⟨rfl, hX, hbl⟩ := hv0
  have hx := B.exec
  have hb := B.bytes
  have hr := B.returns
  have hlocks := B.notSynchronized
  have hS : va_S (fun _ => False) s.heap s.heap [] := va_S.rf
  have hl := lv_entry ([.ref b, .int k]) (n := 2) (Nat.le_of_ble_eq_true rfl)
  rw [lg_entry_eq]
  generalize (lg_sl ([.ref b, .int k]) ++ List.replicate (2 - (lg_sl ([.ref b, .int k])).length) Slot.unset).toArray = ls at hl ⊢
  have hl : lv_has ls 2 [(0, .ref b), (1, .int k)] := hl
  have fin : ∀ r : Int32, r = v → W p l e (headSpec [Cond.code zcy zcby 2 (some .int)] ({ frames := 0, cells := 0, slots := 0, locals := 0 })).room s m ([.ref b, .int k] : List Value).toArray below meth c s.heap [] 0 0 (MQ below (va_Qi (fun (r : Int32) (_ : Unit) => r = v) (fun _ _ => True) (fun _ => False)) ([.ref b, .int k] : List Value).toArray s 0 0 (fun _ => False)) (F0 m 20 ls [.int r]) := fun r hrv =>
    W.iret (v := r) hx hb hr (fun t ht hW => ⟨⟨r, (), rfl, hrv, trivial⟩, hS.F ht⟩) hS.2.2 zdcl20
  refine lv_aload_n hx hb zdcl0 rfl (lv_at hl 0 rfl) ?_
  refine va_slen hx hb hX hbl (fun h => h) hS zdcl1 ?_
  refine lv_if_ne (tgt := 9) hx hb zdcl2 (by decide) (fun hne => ?_) (fun he => ?_)
  · rcases hv with ⟨z, -⟩ | ⟨-, h1, h2⟩
    · exact absurd z hne
    · refine lv_aload_n hx hb zdcl9 rfl (lv_at hl 0 rfl) ?_
      refine lv_iload_n hx hb zdcl10 rfl (lv_at hl 1 rfl) ?_
      refine lv_aload_n hx hb zdcl11 rfl (lv_at hl 0 rfl) ?_
      refine va_slen hx hb hX hbl (fun h => h) hS zdcl12 ?_
      refine lv_irem hx hb zdcl13 hne ?_
      refine va_sld hx hb hX hbl (fun h => h) hS (zin_vp h1) zdcl14 ?_
      refine lv_bipush (v := 31) hx hb zdcl15 (by decide) ?_
      refine lv_iload_n hx hb zdcl17 rfl (lv_at hl 1 rfl) ?_
      refine lv_imul hx hb zdcl18 ?_
      refine lv_iadd hx hb zdcl19 ?_
      exact fin _ h2.symm
  · rcases hv with ⟨-, h2⟩ | ⟨z, -⟩
    · refine lv_iconst (v := 0) hx hb zdcl5 (by decide) ?_
      refine lv_goto (tgt := 20) hx hb zdcl6 (by decide) ?_
      exact fin _ h2.symm
    · exact absurd he z
section
variable {p : Program} {l : Launch} {e : Env} {R : Room} {s : State} {m : MethodId} {args : Array Value} {below : List Frame} {meth : Method} {c : Code} {H : Heap} {locs : List Loc} {cells slots : Nat} {Q : State → Prop}
variable {cc : ByteArray} {pc nL : Nat} {em : Nat → Nat} {scb : Nat} {A : Nat → Prop} {D : va_G} {ws : va_W} {tys : List (ClassId × FieldType)} {own : String} {arr : Array Slot} {st st2 st' : List Value} {h h2 : zHp}
theorem z_cell {idx : Nat} {sc : zScr} (hx : p.tables.exec = Jvm.exec) (hb : c.code = cc) (hml : c.maxLocals = nL) (hts : ∀ w ∈ zT, w.before args s = true) (hown : s.vm.findClass own = some m.cls) (hP : va_P D classes ws H) (hV : va_S A s.heap H locs)
    (hsc : ∀ L xs, sc = some (L, xs) → va_X scb L xs s s.heap ∧ scb < s.heap.size ∧ ¬ A scb)
    (hS : zSt em scb ws st st') (har : arr.size = nL) (hp : zcell sc h st = some (h2, st2)) (hfr : 1 ≤ R.frames) (hlo : 100 ≤ R.locals) (hc1 : cells ≤ R.cells) (hc2 : slots ≤ R.slots) (hlen : st.length ≤ 5) (hk : zclc own idx) (hd : decode cc pc = .ok (.invokestatic idx, 3))
    (kk : ∀ (st2' : List Value) (H1 : Heap) (locs1 : List Loc), h2 = h → va_P D classes ws H1 → va_S A s.heap H1 locs1 → zSt em scb ws st2 st2' → W p l e R s m args below meth c H1 locs1 cells slots Q (F0 m (pc + 3) arr st2')) : W p l e R s m args below meth c H locs cells slots Q (F0 m pc arr st') := by
  unfold zcell at hp
  split at hp
  · rename_i k r
    split at hp
    · rename_i L xs
      have key : ∀ v : Int32, zclv L xs k v → h2 = h → st2 = .int v :: r → W p l e R s m args below meth c H locs cells slots Q (F0 m pc arr st') := by
        intro v hv eh est
        subst est
        have hl2 := hS.len
        obtain ⟨r1, rfl, hr1⟩ := hS.int
        obtain ⟨x', r', rfl, hvx, hr⟩ := hr1.any
        have hvx : x' = .ref scb := hvx
        subst hvx
        obtain ⟨k1, k2, k3⟩ := hsc L xs rfl
        obtain ⟨q1, q2, q3, q4⟩ := hk
        have hcat := zcats r'
        simp only [List.length_cons] at hl2 hlen
        have hW8 : 2 * (F0 m pc arr (Value.int k :: .ref scb :: r')).monitorRoom + (r'.map fun v => v.category).sum ≤ 8 := lv_room (by omega)
        have S0 : CallFix p m c cc nL s args zT own := ⟨hx, hb, hml, hown, hts⟩
        have cw : CallB R s args own idx zcy zcby 2 (some .int) [Cond.code zcy zcby 2 (some .int)] ({ frames := 0, cells := 0, slots := 0, locals := 0 }) 0 0 2 := by
          refine callB_of (ws' := []) 2 hts (fun w hw => ?_) rfl rfl rfl (hts _ q3) (hts _ q1) ⟨by decide +kernel, by decide +kernel, by decide +kernel⟩ ⟨hfr, by show 8 + (2 + 11) + 0 ≤ _; omega⟩
          rcases List.mem_cons.mp hw with rfl | hw
          · exact ⟨q4, good_of_word (List.mem_filter.mp q4).2⟩
          · cases hw
        have hpc : ∀ U : State, U.heap = H → s.WarmedH U.vm → zPcl scb L xs k (([.ref scb, .int k] : List Value).toArray) U := fun U hU hW =>
          ⟨rfl, va_X.moved hW.alike (by rw [hU]; exact k1.kept (hV.2.1 _ k2 k3)), by rw [hU]; exact Nat.lt_of_lt_of_le k2 hV.1⟩
        refine va_calli (A0 := A) (A1 := fun _ => False) (H0 := s.heap) (va_runS (As := [.ref scb, .int k]) (rest := r') S0 (zc_cell l hv) ⟨cw, hts _ q2⟩ ⟨zPcl_blind, hpc⟩ rfl rfl har rfl hW8 hd ⟨by omega, by omega⟩) hV (fun _ _ h9 => h9.elim) (fun _ h9 => h9.elim) ?_
        intro r9 u t H1 locs1 ht hal hr9 _ hsz hsame hV1
        subst hr9
        exact kk (.int r9 :: r') H1 locs1 eh (hP.kept (fun j q hq => hsame q.1 (hP j q hq).lt (fun h9 => h9))) hV1 ⟨rfl, hr⟩
      split at hp
      · rename_i h0
        cases hp
        exact key 0 (Or.inl ⟨h0, rfl⟩) rfl rfl
      · rename_i h0
        split at hp
        · rename_i h1
          cases hp
          exact key _ (Or.inr ⟨h0, h1, rfl⟩) rfl rfl
        · cases hp
    · cases hp
  · cases hp
end
