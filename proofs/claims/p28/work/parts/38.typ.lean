/-! TYPED STEPS over locals and stack -/
def zc1w (v : zW) : Bool := match v with
  | .inr (.inl _) => false
  | _ => true
def zclw (ls : zWs) (k : Nat) : Bool := match k with
  | 0 => true
  | j + 1 => match ls[j]? with
    | some (some v) => zc1w v
    | _ => true
def zputw (ls : zWs) (k : Nat) (v : zW) : Option zWs := if k < ls.length then (if zclw ls k = true then some (ls.set k (some v)) else none) else none
def wldI (ls : zWs) (k : Nat) (st : List zW) : Option (zWs × List zW) := match ls[k]? with
  | some (some (.inl x)) => some (ls, .inl x :: st)
  | _ => none
def wldA (ls : zWs) (k : Nat) (st : List zW) : Option (zWs × List zW) := match ls[k]? with
  | some (some (.inr (.inr x))) => some (ls, .inr (.inr x) :: st)
  | _ => none
def wldL (ls : zWs) (k : Nat) (st : List zW) : Option (zWs × List zW) := match ls[k]? with
  | some (some (.inr (.inl x))) => some (ls, .inr (.inl x) :: st)
  | _ => none
def wstI (ls : zWs) (k : Nat) (st : List zW) : Option (zWs × List zW) := match st with
  | .inl x :: r => (match zputw ls k (.inl x) with | some l => some (l, r) | none => none)
  | _ => none
def wstA (ls : zWs) (k : Nat) (st : List zW) : Option (zWs × List zW) := match st with
  | .inr (.inr x) :: r => (match zputw ls k (.inr (.inr x)) with | some l => some (l, r) | none => none)
  | _ => none
def wstL (ls : zWs) (k : Nat) (st : List zW) : Option (zWs × List zW) := match st with
  | .inr (.inl x) :: r => if k + 1 < ls.length then (match zputw ls k (.inr (.inl x)) with | some l => some (l.set (k + 1) none, r) | none => none) else none
  | _ => none
def winc (ls : zWs) (k : Nat) (v : Int32) (st : List zW) : Option (zWs × List zW) := match ls[k]? with
  | some (some (.inl x)) => (match zputw ls k (.inl (x + v)) with | some l => some (l, st) | none => none)
  | _ => none
/-- an instruction over locals and stack alone -/
def zpW (i : Instr) (imm : Int32) (ls : zWs) (st : List zW) : Option (zWs × List zW) := match i with
  | .iconst _ => some (ls, .inl imm :: st)
  | .bipush _ => some (ls, .inl imm :: st)
  | .sipush _ => some (ls, .inl imm :: st)
  | .ldc _ => some (ls, .inl imm :: st)
  | .lconst v => some (ls, .inr (.inl (Int64.ofNat (v : Nat))) :: st)
  | .aconst_null => some (ls, .inr (.inr (.inr 0)) :: st)
  | .iload_n k => wldI ls (k : Nat) st
  | .iload k => wldI ls k st
  | .aload_n k => wldA ls (k : Nat) st
  | .aload k => wldA ls k st
  | .lload_n k => wldL ls (k : Nat) st
  | .lload k => wldL ls k st
  | .istore_n k => wstI ls (k : Nat) st
  | .istore k => wstI ls k st
  | .astore_n k => wstA ls (k : Nat) st
  | .astore k => wstA ls k st
  | .lstore_n k => wstL ls (k : Nat) st
  | .lstore k => wstL ls k st
  | .iinc k _ => winc ls k imm st
  | .iadd => (match st with | .inl y :: .inl x :: r => some (ls, .inl (x + y) :: r) | _ => none)
  | .isub => (match st with | .inl y :: .inl x :: r => some (ls, .inl (x - y) :: r) | _ => none)
  | .imul => (match st with | .inl y :: .inl x :: r => some (ls, .inl (x * y) :: r) | _ => none)
  | .iand => (match st with | .inl y :: .inl x :: r => some (ls, .inl (x &&& y) :: r) | _ => none)
  | .ishr => (match st with | .inl y :: .inl x :: r => some (ls, .inl (x >>> (y &&& 31)) :: r) | _ => none)
  | .iushr => (match st with | .inl y :: .inl x :: r => some (ls, .inl (x.toUInt32 >>> (y.toUInt32 &&& Int32.toUInt32 31)).toInt32 :: r) | _ => none)
  | .idiv => (match st with | .inl y :: .inl x :: r => if y = 0 then none else some (ls, .inl (x / y) :: r) | _ => none)
  | .irem => (match st with | .inl y :: .inl x :: r => if y = 0 then none else some (ls, .inl (x - x / y * y) :: r) | _ => none)
  | .ineg => (match st with | .inl x :: r => some (ls, .inl (-x) :: r) | _ => none)
  | .dup => (match st with | .inl x :: r => some (ls, .inl x :: .inl x :: r) | .inr (.inr x) :: r => some (ls, .inr (.inr x) :: .inr (.inr x) :: r) | _ => none)
  | .pop => (match st with | .inl _ :: r => some (ls, r) | .inr (.inr _) :: r => some (ls, r) | _ => none)
  | .dup2 => (match st with | .inl y :: .inr (.inr x) :: r => some (ls, .inl y :: .inr (.inr x) :: .inl y :: .inr (.inr x) :: r) | _ => none)
  | .dup_x1 => (match st with | .inl y :: .inr (.inr x) :: r => some (ls, .inl y :: .inr (.inr x) :: .inl y :: r) | _ => none)
  | .i2l => (match st with | .inl x :: r => some (ls, .inr (.inl x.toInt64) :: r) | _ => none)
  | .ladd => (match st with | .inr (.inl y) :: .inr (.inl x) :: r => some (ls, .inr (.inl (x + y)) :: r) | _ => none)
  | .lcmp => (match st with | .inr (.inl y) :: .inr (.inl x) :: r => some (ls, .inl (lg_cmp x y) :: r) | _ => none)
  | _ => none
def zWok (I : zIn) (ls : zWs) (st : List zW) : Prop := (∀ w, some w ∈ ls → zok I w) ∧ (∀ w ∈ st, zok I w)
def zTw (lc : zAd) (I : zIn) (ls : zWs) (st : List zW) (ls' : zWs) (st' : List zW) (o : Option (zLs × List Value)) : Prop := o = some (ztl lc ls', zts lc st') ∧ (zWok I ls st → zWok I ls' st')
section
variable {lc : zAd} {I : zIn} {ls ls' : zWs} {st st' : List zW} {k : Nat}
theorem zc1w_tr {v : zW} : zcat1 (ztr lc v) = zc1w v := by
  rcases v with x | x | x | x
  · rfl
  · rfl
  · rfl
  · cases x <;> rfl
theorem ztl_at : (ztl lc ls)[k]? = (ls[k]?).map (Option.map (ztr lc)) := List.getElem?_map
theorem zclw_tr : zclr (ztl lc ls) k = zclw ls k := by
  cases k with
  | zero => rfl
  | succ j =>
    show (match (ztl lc ls)[j]? with | some (some v) => zcat1 v | _ => true) = (match ls[j]? with | some (some v) => zc1w v | _ => true)
    rw [ztl_at]
    cases ls[j]? with
    | none => rfl
    | some o => cases o with
      | none => rfl
      | some v => exact zc1w_tr
theorem zputw_tr {v : zW} (h : zputw ls k v = some ls') : zput (ztl lc ls) k (ztr lc v) = some (ztl lc ls') ∧ ((∀ w, some w ∈ ls → zok I w) → zok I v → ∀ w, some w ∈ ls' → zok I w) := by
  unfold zputw at h
  split at h
  · rename_i h1
    split at h
    · rename_i h2
      cases h
      refine ⟨?_, fun ha hv w hw => ?_⟩
      · unfold zput
        rw [zclw_tr, if_pos (by simpa using h1), if_pos h2]
        simp
      · rcases List.mem_or_eq_of_mem_set hw with h3 | h3
        · exact ha w h3
        · cases h3; exact hv
    · cases h
  · cases h
theorem zWok.cons {v : zW} (h : zWok I ls st) (hv : zok I v) : zWok I ls (v :: st) := ⟨h.1, fun w hw => by rcases List.mem_cons.mp hw with rfl | hw; exact hv; exact h.2 w hw⟩
theorem zWok.tail {v : zW} (h : zWok I ls (v :: st)) : zWok I ls st := ⟨h.1, fun w hw => h.2 w (List.mem_cons_of_mem _ hw)⟩
theorem zWok.head {v : zW} (h : zWok I ls (v :: st)) : zok I v := h.2 v List.mem_cons_self
theorem wldI_tr (h : wldI ls k st = some (ls', st')) : zTw lc I ls st ls' st' (zldI (ztl lc ls) k (zts lc st)) := by
  unfold wldI at h
  split at h
  · rename_i x hx
    cases h
    refine ⟨?_, fun hw => hw.cons trivial⟩
    unfold zldI; rw [ztl_at, hx]; rfl
  · cases h
theorem wldL_tr (h : wldL ls k st = some (ls', st')) : zTw lc I ls st ls' st' (zldL (ztl lc ls) k (zts lc st)) := by
  unfold wldL at h
  split at h
  · rename_i x hx
    cases h
    refine ⟨?_, fun hw => hw.cons trivial⟩
    unfold zldL; rw [ztl_at, hx]; rfl
  · cases h
theorem wldA_tr (h : wldA ls k st = some (ls', st')) : zTw lc I ls st ls' st' (zldA (ztl lc ls) k (zts lc st)) := by
  unfold wldA at h
  split at h
  · rename_i x hx
    cases h
    refine ⟨?_, fun hw => hw.cons (hw.1 _ (List.mem_of_getElem? hx))⟩
    unfold zldA; rw [ztl_at, hx]
    rcases x with x | x
    · rfl
    · cases x <;> rfl
  · cases h
theorem wstI_tr (h : wstI ls k st = some (ls', st')) : zTw lc I ls st ls' st' (zstI (ztl lc ls) k (zts lc st)) := by
  unfold wstI at h
  split at h
  · rename_i x r
    split at h
    · rename_i l hl
      cases h
      obtain ⟨h1, h2⟩ := zputw_tr (lc := lc) (I := I) hl
      refine ⟨?_, fun hw => ⟨h2 hw.1 hw.head, hw.tail.2⟩⟩
      unfold zstI
      show (match zput (ztl lc ls) k (.int x) with | some l => some (l, zts lc st') | none => none) = _
      rw [show zput (ztl lc ls) k (.int x) = _ from h1]
    · cases h
  · cases h
theorem wstA_tr (h : wstA ls k st = some (ls', st')) : zTw lc I ls st ls' st' (zstA (ztl lc ls) k (zts lc st)) := by
  unfold wstA at h
  split at h
  · rename_i x r
    split at h
    · rename_i l hl
      cases h
      obtain ⟨h1, h2⟩ := zputw_tr (lc := lc) (I := I) hl
      refine ⟨?_, fun hw => ⟨h2 hw.1 hw.head, hw.tail.2⟩⟩
      unfold zstA
      rcases x with x | x
      · show (match zput (ztl lc ls) k (.ref (lc x.1 x.2)) with | some l => some (l, zts lc st') | none => none) = _
        rw [show zput (ztl lc ls) k (.ref (lc x.1 x.2)) = _ from h1]
      · cases x with
        | zero =>
          show (match zput (ztl lc ls) k .null with | some l => some (l, zts lc st') | none => none) = _
          rw [show zput (ztl lc ls) k .null = _ from h1]
        | succ x =>
          show (match zput (ztl lc ls) k (.retAddr x) with | some l => some (l, zts lc st') | none => none) = _
          rw [show zput (ztl lc ls) k (.retAddr x) = _ from h1]
    · cases h
  · cases h
theorem wstL_tr (h : wstL ls k st = some (ls', st')) : zTw lc I ls st ls' st' (zstL (ztl lc ls) k (zts lc st)) := by
  unfold wstL at h
  split at h
  · rename_i x r
    split at h
    · rename_i hk
      split at h
      · rename_i l hl
        cases h
        obtain ⟨h1, h2⟩ := zputw_tr (lc := lc) (I := I) hl
        refine ⟨?_, fun hw => ⟨fun w hw1 => ?_, hw.tail.2⟩⟩
        · unfold zstL
          show (if k + 1 < (ztl lc ls).length then (match zput (ztl lc ls) k (.long x) with | some l => some (l.set (k + 1) none, zts lc st') | none => none) else none) = _
          rw [if_pos (by simpa using hk), show zput (ztl lc ls) k (.long x) = _ from h1]
          simp
        · rcases List.mem_or_eq_of_mem_set hw1 with h3 | h3
          · exact h2 hw.1 hw.head w h3
          · cases h3
      · cases h
    · cases h
  · cases h
theorem winc_tr {v : Int32} (h : winc ls k v st = some (ls', st')) : zTw lc I ls st ls' st' (zinc (ztl lc ls) k v (zts lc st)) := by
  unfold winc at h
  split at h
  · rename_i x hx
    split at h
    · rename_i l hl
      cases h
      obtain ⟨h1, h2⟩ := zputw_tr (lc := lc) (I := I) hl
      refine ⟨?_, fun hw => ⟨h2 hw.1 trivial, hw.2⟩⟩
      unfold zinc
      rw [ztl_at, hx]
      show (match zput (ztl lc ls) k (.int (x + v)) with | some l => some (l, zts lc st) | none => none) = _
      rw [show zput (ztl lc ls) k (.int (x + v)) = _ from h1]
    · cases h
  · cases h
theorem zpW_tr {i : Instr} {imm : Int32} (h : zpW i imm ls st = some (ls', st')) : zTw lc I ls st ls' st' (zpure i imm (ztl lc ls) (zts lc st)) := by
  unfold zpW at h
  split at h
  all_goals first
    | exact wldI_tr h
    | exact wldA_tr h
    | exact wldL_tr h
    | exact wstI_tr h
    | exact wstA_tr h
    | exact wstL_tr h
    | exact winc_tr h
    | (cases h; exact ⟨rfl, fun hw => hw.cons trivial⟩)
    | (split at h <;> first
        | (cases h; exact ⟨rfl, fun hw => hw.tail.tail.cons trivial⟩)
        | (cases h; exact ⟨rfl, fun hw => hw.tail.cons trivial⟩)
        | (cases h; exact ⟨rfl, fun hw => hw.cons hw.head⟩)
        | (rename_i x r; cases h; exact ⟨by rcases x with x | x; rfl; cases x <;> rfl, fun hw => hw.cons hw.head⟩)
        | (cases h; exact ⟨rfl, fun hw => hw.tail⟩)
        | (rename_i x r; cases h; exact ⟨by rcases x with x | x; rfl; cases x <;> rfl, fun hw => hw.tail⟩)
        | (rename_i y x r; cases h; exact ⟨by rcases x with x | x; rfl; cases x <;> rfl, fun hw => (hw.cons hw.tail.head).cons hw.head⟩)
        | (rename_i y x r; cases h; exact ⟨by rcases x with x | x; rfl; cases x <;> rfl, fun hw => ((hw.tail.tail.cons hw.head).cons hw.tail.head).cons hw.head⟩)
        | (split at h <;> first | (rename_i hy; cases h; exact ⟨by unfold zpure zbin0; simp [ztr, hy], fun hw => hw.tail.tail.cons trivial⟩) | cases h; done)
        | (cases h; done))
    | (cases h; done)
end
