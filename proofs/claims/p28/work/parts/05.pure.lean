/-! ONE STEP OVER LOCALS AND STACK -/
def zlen (i : Instr) : Nat := match i with
  | .bipush _ => 2
  | .sipush _ => 3
  | .ldc _ => 2
  | .iload _ => 2
  | .aload _ => 2
  | .lload _ => 2
  | .istore _ => 2
  | .astore _ => 2
  | .lstore _ => 2
  | .iinc _ _ => 3
  | .ifCond _ _ => 3
  | .if_icmp _ _ => 3
  | .if_acmp _ _ => 3
  | .ifnull _ => 3
  | .ifnonnull _ => 3
  | .goto _ => 3
  | .getfield _ => 3
  | .putfield _ => 3
  | .getstatic _ => 3
  | .new _ => 3
  | .newarray _ => 2
  | .anewarray _ => 3
  | .checkcast _ => 3
  | .invokevirtual _ => 3
  | .invokespecial _ => 3
  | .invokestatic _ => 3
  | _ => 1
def zimm (i : Instr) (imm : Int32) : Bool := match i with
  | .iconst n => decide (Int32.ofInt n = imm)
  | .bipush n => decide ((Int8.ofInt n).toInt32 = imm)
  | .sipush n => decide ((Int16.ofInt n).toInt32 = imm)
  | .iinc _ n => decide (Int32.ofInt n = imm)
  | _ => true
theorem zldI_spec {ls l : zLs} {k : Nat} {st st2 : List Value} (h : zldI ls k st = some (l, st2)) : ∃ x, ls[k]? = some (some (.int x)) ∧ l = ls ∧ st2 = .int x :: st := by
  unfold zldI at h; split at h
  · rename_i x hx; cases h; exact ⟨x, hx, rfl, rfl⟩
  · cases h
theorem zldL_spec {ls l : zLs} {k : Nat} {st st2 : List Value} (h : zldL ls k st = some (l, st2)) : ∃ x, ls[k]? = some (some (.long x)) ∧ l = ls ∧ st2 = .long x :: st := by
  unfold zldL at h; split at h
  · rename_i x hx; cases h; exact ⟨x, hx, rfl, rfl⟩
  · cases h
theorem zldA_spec {ls l : zLs} {k : Nat} {st st2 : List Value} (h : zldA ls k st = some (l, st2)) : ∃ v, ls[k]? = some (some v) ∧ l = ls ∧ st2 = v :: st ∧ ((∃ x, v = .ref x) ∨ v = .null ∨ ∃ x, v = .retAddr x) := by
  unfold zldA at h; split at h
  · rename_i x hx; cases h; exact ⟨_, hx, rfl, rfl, Or.inl ⟨x, rfl⟩⟩
  · rename_i hx; cases h; exact ⟨_, hx, rfl, rfl, Or.inr (Or.inl rfl)⟩
  · rename_i x hx; cases h; exact ⟨_, hx, rfl, rfl, Or.inr (Or.inr ⟨x, rfl⟩)⟩
  · cases h
theorem zstI_spec {ls l : zLs} {k : Nat} {st st2 : List Value} (h : zstI ls k st = some (l, st2)) : ∃ x, st = .int x :: st2 ∧ zput ls k (.int x) = some l := by
  unfold zstI at h; split at h
  · split at h
    · cases h; exact ⟨_, rfl, by assumption⟩
    · cases h
  · cases h
theorem zstA_spec {ls l : zLs} {k : Nat} {st st2 : List Value} (h : zstA ls k st = some (l, st2)) : ∃ v, st = v :: st2 ∧ zput ls k v = some l ∧ ((∃ x, v = .ref x) ∨ v = .null ∨ ∃ x, v = .retAddr x) := by
  unfold zstA at h; split at h
  · split at h
    · cases h; exact ⟨_, rfl, by assumption, Or.inl ⟨_, rfl⟩⟩
    · cases h
  · split at h
    · cases h; exact ⟨_, rfl, by assumption, Or.inr (Or.inl rfl)⟩
    · cases h
  · split at h
    · cases h; exact ⟨_, rfl, by assumption, Or.inr (Or.inr ⟨_, rfl⟩)⟩
    · cases h
  · cases h
theorem zstL_spec {ls l : zLs} {k : Nat} {st st2 : List Value} (h : zstL ls k st = some (l, st2)) : ∃ x l0, st = .long x :: st2 ∧ k + 1 < ls.length ∧ zput ls k (.long x) = some l0 ∧ l = l0.set (k + 1) none := by
  unfold zstL at h; split at h
  · split at h
    · split at h
      · cases h; exact ⟨_, _, rfl, by assumption, by assumption, rfl⟩
      · cases h
    · cases h
  · cases h
theorem zinc_spec {ls l : zLs} {k : Nat} {v : Int32} {st st2 : List Value} (h : zinc ls k v st = some (l, st2)) : ∃ x, ls[k]? = some (some (.int x)) ∧ zput ls k (.int (x + v)) = some l ∧ st2 = st := by
  unfold zinc at h; split at h
  · split at h
    · cases h; exact ⟨_, by assumption, by assumption, rfl⟩
    · cases h
  · cases h
theorem zbin_spec {ls l : zLs} {st st2 : List Value} {f : Int32 → Int32 → Int32} (h : zbin ls st f = some (l, st2)) : ∃ x y r, st = .int y :: .int x :: r ∧ l = ls ∧ st2 = .int (f x y) :: r := by
  unfold zbin at h; split at h
  · cases h; exact ⟨_, _, _, rfl, rfl, rfl⟩
  · cases h
theorem zbin0_spec {ls l : zLs} {st st2 : List Value} {f : Int32 → Int32 → Int32} (h : zbin0 ls st f = some (l, st2)) : ∃ x y r, st = .int y :: .int x :: r ∧ ¬ y = 0 ∧ l = ls ∧ st2 = .int (f x y) :: r := by
  unfold zbin0 at h; split at h
  · split at h
    · cases h
    · rename_i hy; cases h; exact ⟨_, _, _, rfl, hy, rfl, rfl⟩
  · cases h
theorem zdup_spec {ls l : zLs} {st st2 : List Value} (h : zdup ls st = some (l, st2)) : ∃ v r, st = v :: r ∧ zcat1 v = true ∧ l = ls ∧ st2 = v :: v :: r := by
  unfold zdup at h; split at h
  · split at h
    · rename_i hc; cases h; exact ⟨_, _, rfl, hc, rfl, rfl⟩
    · cases h
  · cases h
theorem zpop_spec {ls l : zLs} {st st2 : List Value} (h : zpop ls st = some (l, st2)) : ∃ v, st = v :: st2 ∧ zcat1 v = true ∧ l = ls := by
  unfold zpop at h; split at h
  · split at h
    · rename_i hc; cases h; exact ⟨_, rfl, hc, rfl⟩
    · cases h
  · cases h
theorem zdup2_spec {ls l : zLs} {st st2 : List Value} (h : zdup2 ls st = some (l, st2)) : ∃ v w r, st = v :: w :: r ∧ zcat1 v = true ∧ zcat1 w = true ∧ l = ls ∧ st2 = v :: w :: v :: w :: r := by
  unfold zdup2 at h; split at h
  · split at h
    · split at h
      · rename_i h1 h2; cases h; exact ⟨_, _, _, rfl, h1, h2, rfl, rfl⟩
      · cases h
    · cases h
  · cases h
theorem zdupx_spec {ls l : zLs} {st st2 : List Value} (h : zdupx ls st = some (l, st2)) : ∃ v w r, st = v :: w :: r ∧ zcat1 v = true ∧ zcat1 w = true ∧ l = ls ∧ st2 = v :: w :: v :: r := by
  unfold zdupx at h; split at h
  · split at h
    · split at h
      · rename_i h1 h2; cases h; exact ⟨_, _, _, rfl, h1, h2, rfl, rfl⟩
      · cases h
    · cases h
  · cases h
theorem zSt.int {em : Nat → Nat} {scb : Nat} {ws : va_W} {x : Int32} {r st' : List Value} (h : zSt em scb ws (.int x :: r) st') : ∃ r', st' = .int x :: r' ∧ zSt em scb ws r r' := by
  cases st' with
  | nil => exact h.elim
  | cons v' r' => obtain ⟨h1, h2⟩ := h; have h1 : v' = .int x := h1; subst h1; exact ⟨r', rfl, h2⟩
theorem zSt.long {em : Nat → Nat} {scb : Nat} {ws : va_W} {x : Int64} {r st' : List Value} (h : zSt em scb ws (.long x :: r) st') : ∃ r', st' = .long x :: r' ∧ zSt em scb ws r r' := by
  cases st' with
  | nil => exact h.elim
  | cons v' r' => obtain ⟨h1, h2⟩ := h; have h1 : v' = .long x := h1; subst h1; exact ⟨r', rfl, h2⟩
theorem zSt.any {em : Nat → Nat} {scb : Nat} {ws : va_W} {v : Value} {r st' : List Value} (h : zSt em scb ws (v :: r) st') : ∃ v' r', st' = v' :: r' ∧ zV em scb ws v v' ∧ zSt em scb ws r r' := by
  cases st' with
  | nil => exact h.elim
  | cons v' r' => exact ⟨v', r', rfl, h.1, h.2⟩
theorem zV.rn {em : Nat → Nat} {scb : Nat} {ws : va_W} {v v' : Value} (h : zV em scb ws v v') (hc : (∃ x, v = .ref x) ∨ v = .null ∨ ∃ x, v = .retAddr x) : (∃ a, v' = .ref a) ∨ v' = .null := by
  rcases hc with ⟨x, rfl⟩ | rfl | ⟨x, rfl⟩
  · obtain ⟨a, e, -, h2⟩ := h; exact Or.inl ⟨a, h2⟩
  · exact Or.inr h
  · exact Or.inl ⟨_, h⟩
section
variable {p : Program} {l : Launch} {e : Env} {R : Room} {s : State} {m : MethodId} {args : Array Value} {below : List Frame} {meth : Method} {c : Code} {H : Heap} {locs : List Loc} {cells slots : Nat} {Q : State → Prop}
variable {cc : ByteArray} {pc : Nat}
set_option maxHeartbeats 4000000 in
theorem z_pure {em : Nat → Nat} {scb : Nat} {ws : va_W} {own : String} {i : Instr} {imm : Int32} {ls ls' : zLs} {st st2 : List Value} {arr : Array Slot} {st' : List Value} (hx : p.tables.exec = Jvm.exec) (hb : c.code = cc) (hown : s.vm.findClass own = some m.cls)
    (hp : zpure i imm ls st = some (ls', st2)) (hd : decode cc pc = .ok (i, zlen i)) (hi : zimm i imm = true) (hldc : ∀ k, i = .ldc k → (Jvm.Cond.constant own k imm).before args s = true)
    (hL : zL em scb ws ls arr) (hS : zSt em scb ws st st')
    (kk : ∀ (arr' : Array Slot) (st2' : List Value), zL em scb ws ls' arr' → zSt em scb ws st2 st2' → W p l e R s m args below meth c H locs cells slots Q (F0 m (pc + zlen i) arr' st2')) :
    W p l e R s m args below meth c H locs cells slots Q (F0 m pc arr st') := by
  have hasz : arr.size = arr.size := rfl
  have hwf := hL.2.1
  have hall := zall_has hwf
  have stI : ∀ {k : Nat} {x : Int32} {l0 : zLs}, zput ls k (.int x) = some l0 → k < arr.size := fun h => by rw [hL.1]; exact (zput_spec h).1
  unfold zpure at hp
  split at hp
  · cases hp
    exact lv_iconst hx hb hd (of_decide_eq_true hi) (kk _ _ hL ⟨rfl, hS⟩)
  · cases hp
    exact lv_bipush hx hb hd (of_decide_eq_true hi) (kk _ _ hL ⟨rfl, hS⟩)
  · cases hp
    exact lv_sipush hx hb hd (of_decide_eq_true hi) (kk _ _ hL ⟨rfl, hS⟩)
  · rename_i k
    cases hp
    exact lv_ldc hx hb hown (hldc k rfl) hd (kk _ _ hL ⟨rfl, hS⟩)
  · cases hp
    exact lv_lconst hx hb hd rfl (kk _ _ hL ⟨rfl, hS⟩)
  · cases hp
    exact lv_null hx hb hd (kk _ _ hL ⟨rfl, hS⟩)
  · obtain ⟨x, h1, rfl, rfl⟩ := zldI_spec hp
    obtain ⟨v', h2, h3⟩ := hL.2.2 _ _ h1
    have h2 : v' = .int x := h2
    subst h2
    exact lv_iload_n hx hb hd rfl h3 (kk _ _ hL ⟨rfl, hS⟩)
  · obtain ⟨x, h1, rfl, rfl⟩ := zldI_spec hp
    obtain ⟨v', h2, h3⟩ := hL.2.2 _ _ h1
    have h2 : v' = .int x := h2
    subst h2
    exact lv_iload hx hb hd h3 (kk _ _ hL ⟨rfl, hS⟩)
  · obtain ⟨v, h1, rfl, rfl, hc⟩ := zldA_spec hp
    obtain ⟨v', h2, h3⟩ := hL.2.2 _ _ h1
    rcases h2.rn hc with ⟨a, rfl⟩ | rfl
    · exact lv_aload_n hx hb hd rfl h3 (kk _ _ hL ⟨h2, hS⟩)
    · exact lv_aload_nN hx hb hd rfl h3 (kk _ _ hL ⟨h2, hS⟩)
  · obtain ⟨v, h1, rfl, rfl, hc⟩ := zldA_spec hp
    obtain ⟨v', h2, h3⟩ := hL.2.2 _ _ h1
    rcases h2.rn hc with ⟨a, rfl⟩ | rfl
    · exact lv_aload hx hb hd h3 (kk _ _ hL ⟨h2, hS⟩)
    · exact lv_aloadN hx hb hd h3 (kk _ _ hL ⟨h2, hS⟩)
  · obtain ⟨x, h1, rfl, rfl⟩ := zldL_spec hp
    obtain ⟨v', h2, h3⟩ := hL.2.2 _ _ h1
    have h2 : v' = .long x := h2
    subst h2
    exact lv_lload_n hx hb hd rfl h3 (kk _ _ hL ⟨rfl, hS⟩)
  · obtain ⟨x, h1, rfl, rfl⟩ := zldL_spec hp
    obtain ⟨v', h2, h3⟩ := hL.2.2 _ _ h1
    have h2 : v' = .long x := h2
    subst h2
    exact lv_lload hx hb hd h3 (kk _ _ hL ⟨rfl, hS⟩)
  · obtain ⟨x, rfl, h1⟩ := zstI_spec hp
    obtain ⟨r', rfl, hr⟩ := hS.int
    exact lv_istore_n hx hb hd rfl hall (stI h1) rfl (fun a' ha => kk _ _ (hL.put h1 rfl ha) hr)
  · obtain ⟨x, rfl, h1⟩ := zstI_spec hp
    obtain ⟨r', rfl, hr⟩ := hS.int
    exact lv_istore hx hb hd hall (stI h1) rfl (fun a' ha => kk _ _ (hL.put h1 rfl ha) hr)
  · obtain ⟨v, rfl, h1, hc⟩ := zstA_spec hp
    obtain ⟨v', r', rfl, hv, hr⟩ := hS.any
    have hk := (zput_spec h1).1
    rw [← hL.1] at hk
    rcases hv.rn hc with ⟨a, rfl⟩ | rfl
    · exact lv_astore_n hx hb hd rfl hall hk rfl (fun a' ha => kk _ _ (hL.put h1 hv ha) hr)
    · exact lv_astore_nN hx hb hd rfl hall hk rfl (fun a' ha => kk _ _ (hL.put h1 hv ha) hr)
  · obtain ⟨v, rfl, h1, hc⟩ := zstA_spec hp
    obtain ⟨v', r', rfl, hv, hr⟩ := hS.any
    have hk := (zput_spec h1).1
    rw [← hL.1] at hk
    rcases hv.rn hc with ⟨a, rfl⟩ | rfl
    · exact lv_astore hx hb hd hall hk rfl (fun a' ha => kk _ _ (hL.put h1 hv ha) hr)
    · exact lv_astoreN hx hb hd hall hk rfl (fun a' ha => kk _ _ (hL.put h1 hv ha) hr)
  · obtain ⟨x, l0, rfl, h0, h1, rfl⟩ := zstL_spec hp
    obtain ⟨r', rfl, hr⟩ := hS.long
    exact lv_lstore_n hx hb hd rfl hall (by rw [hL.1]; exact h0) rfl (fun a' ha => kk _ _ (hL.putL h1 h0 ha) hr)
  · obtain ⟨x, l0, rfl, h0, h1, rfl⟩ := zstL_spec hp
    obtain ⟨r', rfl, hr⟩ := hS.long
    exact lv_lstore hx hb hd hall (by rw [hL.1]; exact h0) rfl (fun a' ha => kk _ _ (hL.putL h1 h0 ha) hr)
  · obtain ⟨x, h1, h2, rfl⟩ := zinc_spec hp
    obtain ⟨v', h3, h4⟩ := hL.2.2 _ _ h1
    have h3 : v' = .int x := h3
    subst h3
    obtain ⟨k, hk⟩ := List.getElem?_of_mem (zall_mem.mpr h4)
    exact lv_iinc hx hb hd hall hk (by rw [of_decide_eq_true hi]) (stI h2) rfl (fun a' ha => kk _ _ (hL.put h2 rfl ha) hS)
  · obtain ⟨x, y, r, rfl, rfl, rfl⟩ := zbin_spec hp
    obtain ⟨r1, rfl, hr1⟩ := hS.int
    obtain ⟨r', rfl, hr⟩ := hr1.int
    exact lv_iadd hx hb hd (kk _ _ hL ⟨rfl, hr⟩)
  · obtain ⟨x, y, r, rfl, rfl, rfl⟩ := zbin_spec hp
    obtain ⟨r1, rfl, hr1⟩ := hS.int
    obtain ⟨r', rfl, hr⟩ := hr1.int
    exact lv_isub hx hb hd (kk _ _ hL ⟨rfl, hr⟩)
  · obtain ⟨x, y, r, rfl, rfl, rfl⟩ := zbin_spec hp
    obtain ⟨r1, rfl, hr1⟩ := hS.int
    obtain ⟨r', rfl, hr⟩ := hr1.int
    exact lv_imul hx hb hd (kk _ _ hL ⟨rfl, hr⟩)
  · obtain ⟨x, y, r, rfl, rfl, rfl⟩ := zbin_spec hp
    obtain ⟨r1, rfl, hr1⟩ := hS.int
    obtain ⟨r', rfl, hr⟩ := hr1.int
    exact lv_iand hx hb hd (kk _ _ hL ⟨rfl, hr⟩)
  · obtain ⟨x, y, r, rfl, rfl, rfl⟩ := zbin_spec hp
    obtain ⟨r1, rfl, hr1⟩ := hS.int
    obtain ⟨r', rfl, hr⟩ := hr1.int
    exact lv_ishr hx hb hd (kk _ _ hL ⟨rfl, hr⟩)
  · obtain ⟨x, y, r, rfl, rfl, rfl⟩ := zbin_spec hp
    obtain ⟨r1, rfl, hr1⟩ := hS.int
    obtain ⟨r', rfl, hr⟩ := hr1.int
    exact lv_iushr hx hb hd rfl (kk _ _ hL ⟨rfl, hr⟩)
  · obtain ⟨x, y, r, rfl, hy, rfl, rfl⟩ := zbin0_spec hp
    obtain ⟨r1, rfl, hr1⟩ := hS.int
    obtain ⟨r', rfl, hr⟩ := hr1.int
    exact lv_idiv hx hb hd hy (kk _ _ hL ⟨rfl, hr⟩)
  · obtain ⟨x, y, r, rfl, hy, rfl, rfl⟩ := zbin0_spec hp
    obtain ⟨r1, rfl, hr1⟩ := hS.int
    obtain ⟨r', rfl, hr⟩ := hr1.int
    exact lv_irem hx hb hd hy (kk _ _ hL ⟨rfl, hr⟩)
  · unfold zneg at hp
    split at hp
    · cases hp
      obtain ⟨r', rfl, hr⟩ := hS.int
      exact lv_ineg hx hb hd (kk _ _ hL ⟨rfl, hr⟩)
    · cases hp
  · obtain ⟨v, r, rfl, hc, rfl, rfl⟩ := zdup_spec hp
    obtain ⟨v', r', rfl, hv, hr⟩ := hS.any
    exact lv_dup hx hb hd (hv.cat hc) (kk _ _ hL ⟨hv, hv, hr⟩)
  · obtain ⟨v, rfl, hc, rfl⟩ := zpop_spec hp
    obtain ⟨v', r', rfl, hv, hr⟩ := hS.any
    exact lv_pop hx hb hd (hv.cat hc) (kk _ _ hL hr)
  · obtain ⟨v, w, r, rfl, hc, hc2, rfl, rfl⟩ := zdup2_spec hp
    obtain ⟨v', r1, rfl, hv, hr1⟩ := hS.any
    obtain ⟨w', r', rfl, hw, hr⟩ := hr1.any
    exact lv_dup2_11 hx hb hd (hv.cat hc) (hw.cat hc2) (kk _ _ hL ⟨hv, hw, hv, hw, hr⟩)
  · obtain ⟨v, w, r, rfl, hc, hc2, rfl, rfl⟩ := zdupx_spec hp
    obtain ⟨v', r1, rfl, hv, hr1⟩ := hS.any
    obtain ⟨w', r', rfl, hw, hr⟩ := hr1.any
    exact lv_dup_x1 hx hb hd (hv.cat hc) (hw.cat hc2) (kk _ _ hL ⟨hv, hw, hv, hr⟩)
  · unfold zi2l at hp
    split at hp
    · cases hp
      obtain ⟨r', rfl, hr⟩ := hS.int
      exact lv_i2l hx hb hd rfl (kk _ _ hL ⟨rfl, hr⟩)
    · cases hp
  · unfold zladd at hp
    split at hp
    · cases hp
      obtain ⟨r1, rfl, hr1⟩ := hS.long
      obtain ⟨r', rfl, hr⟩ := hr1.long
      exact lv_ladd hx hb hd (kk _ _ hL ⟨rfl, hr⟩)
    · cases hp
  · unfold zlcmp at hp
    split at hp
    · cases hp
      obtain ⟨r1, rfl, hr1⟩ := hS.long
      obtain ⟨r', rfl, hr⟩ := hr1.long
      exact W.lcmp hx hb hd (kk _ _ hL ⟨rfl, hr⟩)
    · cases hp
  · cases hp
end
