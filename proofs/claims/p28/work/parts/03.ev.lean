/-! THE LOGICAL MACHINE: cells by their number, deterministic; zev runs the tables' code on it -/
abbrev zOb : Type := Nat × List Value
abbrev zHp : Type := List zOb
abbrev zLs : Type := List (Option Value)
abbrev zRes : Type := (Option Value) ⊕ Nat
abbrev zScr : Type := Option (Nat × (Nat → Int32))
/-! three references that aren't cells of the logical heap: retAddr 0 is the law's script, retAddr 1 the empty row of ArrayList, retAddr 2 the class object of Object[] -/
def zldI (ls : zLs) (k : Nat) (st : List Value) : Option (zLs × List Value) := match ls[k]? with
  | some (some (.int x)) => some (ls, .int x :: st)
  | _ => none
def zldL (ls : zLs) (k : Nat) (st : List Value) : Option (zLs × List Value) := match ls[k]? with
  | some (some (.long x)) => some (ls, .long x :: st)
  | _ => none
def zldA (ls : zLs) (k : Nat) (st : List Value) : Option (zLs × List Value) := match ls[k]? with
  | some (some (.ref x)) => some (ls, .ref x :: st)
  | some (some .null) => some (ls, .null :: st)
  | some (some (.retAddr x)) => some (ls, .retAddr x :: st)
  | _ => none
def zcat1 (v : Value) : Bool := match v with
  | .int _ => true
  | .ref _ => true
  | .null => true
  | .retAddr _ => true
  | _ => false
/-- no long stands just below the place k -/
def zclr (ls : zLs) (k : Nat) : Bool := match k with
  | 0 => true
  | j + 1 => match ls[j]? with
    | some (some v) => zcat1 v
    | _ => true
def zput (ls : zLs) (k : Nat) (v : Value) : Option zLs := if k < ls.length then (if zclr ls k = true then some (ls.set k (some v)) else none) else none
def zstI (ls : zLs) (k : Nat) (st : List Value) : Option (zLs × List Value) := match st with
  | .int x :: r => (match zput ls k (.int x) with | some l => some (l, r) | none => none)
  | _ => none
def zstA (ls : zLs) (k : Nat) (st : List Value) : Option (zLs × List Value) := match st with
  | .ref x :: r => (match zput ls k (.ref x) with | some l => some (l, r) | none => none)
  | .null :: r => (match zput ls k .null with | some l => some (l, r) | none => none)
  | .retAddr x :: r => (match zput ls k (.retAddr x) with | some l => some (l, r) | none => none)
  | _ => none
def zstL (ls : zLs) (k : Nat) (st : List Value) : Option (zLs × List Value) := match st with
  | .long x :: r => if k + 1 < ls.length then (match zput ls k (.long x) with | some l => some (l.set (k + 1) none, r) | none => none) else none
  | _ => none
def zinc (ls : zLs) (k : Nat) (v : Int32) (st : List Value) : Option (zLs × List Value) := match ls[k]? with
  | some (some (.int x)) => (match zput ls k (.int (x + v)) with | some l => some (l, st) | none => none)
  | _ => none
def zbin (ls : zLs) (st : List Value) (f : Int32 → Int32 → Int32) : Option (zLs × List Value) := match st with
  | .int y :: .int x :: r => some (ls, .int (f x y) :: r)
  | _ => none
def zbin0 (ls : zLs) (st : List Value) (f : Int32 → Int32 → Int32) : Option (zLs × List Value) := match st with
  | .int y :: .int x :: r => if y = 0 then none else some (ls, .int (f x y) :: r)
  | _ => none
def zdup (ls : zLs) (st : List Value) : Option (zLs × List Value) := match st with
  | v :: r => if zcat1 v = true then some (ls, v :: v :: r) else none
  | _ => none
def zpop (ls : zLs) (st : List Value) : Option (zLs × List Value) := match st with
  | v :: r => if zcat1 v = true then some (ls, r) else none
  | _ => none
def zdup2 (ls : zLs) (st : List Value) : Option (zLs × List Value) := match st with
  | v :: w :: r => if zcat1 v = true then (if zcat1 w = true then some (ls, v :: w :: v :: w :: r) else none) else none
  | _ => none
def zdupx (ls : zLs) (st : List Value) : Option (zLs × List Value) := match st with
  | v :: w :: r => if zcat1 v = true then (if zcat1 w = true then some (ls, v :: w :: v :: r) else none) else none
  | _ => none
def zi2l (ls : zLs) (st : List Value) : Option (zLs × List Value) := match st with
  | .int x :: r => some (ls, .long x.toInt64 :: r)
  | _ => none
def zneg (ls : zLs) (st : List Value) : Option (zLs × List Value) := match st with
  | .int x :: r => some (ls, .int (-x) :: r)
  | _ => none
def zladd (ls : zLs) (st : List Value) : Option (zLs × List Value) := match st with
  | .long y :: .long x :: r => some (ls, .long (x + y) :: r)
  | _ => none
def zlcmp (ls : zLs) (st : List Value) : Option (zLs × List Value) := match st with
  | .long y :: .long x :: r => some (ls, .int (lg_cmp x y) :: r)
  | _ => none
/-- an instruction over locals and stack alone -/
def zpure (i : Instr) (imm : Int32) (ls : zLs) (st : List Value) : Option (zLs × List Value) := match i with
  | .iconst _ => some (ls, .int imm :: st)
  | .bipush _ => some (ls, .int imm :: st)
  | .sipush _ => some (ls, .int imm :: st)
  | .ldc _ => some (ls, .int imm :: st)
  | .lconst v => some (ls, .long (Int64.ofNat (v : Nat)) :: st)
  | .aconst_null => some (ls, .null :: st)
  | .iload_n k => zldI ls (k : Nat) st
  | .iload k => zldI ls k st
  | .aload_n k => zldA ls (k : Nat) st
  | .aload k => zldA ls k st
  | .lload_n k => zldL ls (k : Nat) st
  | .lload k => zldL ls k st
  | .istore_n k => zstI ls (k : Nat) st
  | .istore k => zstI ls k st
  | .astore_n k => zstA ls (k : Nat) st
  | .astore k => zstA ls k st
  | .lstore_n k => zstL ls (k : Nat) st
  | .lstore k => zstL ls k st
  | .iinc k _ => zinc ls k imm st
  | .iadd => zbin ls st (fun x y => x + y)
  | .isub => zbin ls st (fun x y => x - y)
  | .imul => zbin ls st (fun x y => x * y)
  | .iand => zbin ls st (fun x y => x &&& y)
  | .ishr => zbin ls st (fun x y => x >>> (y &&& 31))
  | .iushr => zbin ls st (fun x y => (x.toUInt32 >>> (y.toUInt32 &&& Int32.toUInt32 31)).toInt32)
  | .idiv => zbin0 ls st (fun x y => x / y)
  | .irem => zbin0 ls st (fun x y => x - x / y * y)
  | .ineg => zneg ls st
  | .dup => zdup ls st
  | .pop => zpop ls st
  | .dup2 => zdup2 ls st
  | .dup_x1 => zdupx ls st
  | .i2l => zi2l ls st
  | .ladd => zladd ls st
  | .lcmp => zlcmp ls st
  | _ => none
def zcnd (c : ClassFile.Cond) (x y : Int32) : Bool := match c with
  | .eq => decide (x = y)
  | .ne => !decide (x = y)
  | .lt => decide (x < y)
  | .ge => decide (y ≤ x)
  | .gt => decide (y < x)
  | .le => decide (x ≤ y)
def zisr (v : Value) : Bool := match v with
  | .ref _ => true
  | .null => true
  | .retAddr k => decide (k = 1)
  | _ => false
/-- which way a branch goes -/
def zbr (i : Instr) (st : List Value) : Option (Bool × List Value) := match i with
  | .ifCond c _ => (match st with | .int x :: r => some (zcnd c x 0, r) | _ => none)
  | .if_icmp c _ => (match st with | .int y :: .int x :: r => some (zcnd c x y, r) | _ => none)
  | .if_acmp c _ => (match st with | y :: x :: r => if x = .retAddr 2 ∧ y = .retAddr 2 then some ((match c with | .eq => true | .ne => false), r) else if zisr x = true then (if zisr y = true then some ((match c with | .eq => decide (x = y) | .ne => !decide (x = y)), r) else none) else none | _ => none)
  | .ifnull _ => (match st with | .ref _ :: r => some (false, r) | .null :: r => some (true, r) | _ => none)
  | .ifnonnull _ => (match st with | .ref _ :: r => some (true, r) | .null :: r => some (false, r) | _ => none)
  | .goto _ => some (true, st)
  | _ => none
def zsw (i : Instr) (pc : Nat) (st : List Value) : Option (Nat × List Value) := match i with
  | .tableswitch d lo hi offs => (match st with
    | .int x :: r => if x.toInt < lo ∨ hi < x.toInt then some (((pc : Int) + d).toNat, r) else (match offs[(x.toInt - lo).toNat]? with | some o => some (((pc : Int) + o).toNat, r) | none => none)
    | _ => none)
  | _ => none
def zfits (t : Nat) (v : Value) : Bool := match t with
  | 0 => (match v with | .int _ => true | _ => false)
  | 1 => (match v with | .int x => decide (x = 0) || decide (x = 1) | _ => false)
  | 2 => zisr v
  | _ => false
def zin (i : Int32) (n : Nat) : Bool := decide (0 ≤ i) && decide (i.toNatClampNeg < n)
def zcpy (s t : List Value) (sp dp n : Nat) : List Value := t.take dp ++ ((s.drop sp).take n ++ t.drop (dp + n))
def zgetf (a b : Nat) (h : zHp) (st : List Value) : Option (zHp × List Value) := match st with
  | .ref q :: r => (match h[q]? with
    | some (c, fs) => if c = a then (match fs[b]? with | some v => some (h, v :: r) | none => none) else none
    | none => none)
  | _ => none
def zputf (a b : Nat) (h : zHp) (st : List Value) : Option (zHp × List Value) := match st with
  | v :: .ref q :: r => (match h[q]? with
    | some (c, fs) => if c = a then (if b < fs.length then (if zfits (((zfty[a]?).getD [])[b]?.getD 9) v = true then some (h.set q (c, fs.set b v), r) else none) else none) else none
    | none => none)
  | _ => none
def zald (k : Nat) (sc : zScr) (h : zHp) (st : List Value) : Option (zHp × List Value) := match st with
  | .int i :: .retAddr 0 :: r => if k = 100 then (match sc with | some (L, xs) => if zin i L = true then some (h, .int (xs i.toNatClampNeg) :: r) else none | none => none) else none
  | .int i :: .ref q :: r =>
    (match h[q]? with
    | some (c, s) => if c = k then (if zin i s.length = true then (match s[i.toNatClampNeg]? with | some v => some (h, v :: r) | none => none) else none) else none
    | none => none)
  | _ => none
/-- what may be stored into an array of kind k -/
def zafit (k : Nat) (h : zHp) (v : Value) : Bool :=
  if k = 100 then zfits 0 v else if k = 101 then zfits 1 v else if k = 102 then (match v with | .long _ => true | _ => false) else
  if k = 103 then (match v with | .null => true | .ref q => (match h[q]? with | some (c, _) => decide (c < 9) | none => false) | _ => false) else false
def zast (k : Nat) (h : zHp) (st : List Value) : Option (zHp × List Value) := match st with
  | v :: .int i :: .ref q :: r => (match h[q]? with
    | some (c, s) => if c = k then (if zin i s.length = true then (if zafit k h v = true then some (h.set q (c, s.set i.toNatClampNeg v), r) else none) else none) else none
    | none => none)
  | _ => none
def zalen (sc : zScr) (h : zHp) (st : List Value) : Option (zHp × List Value) := match st with
  | .retAddr 0 :: r => (match sc with | some (L, _) => some (h, .int (Int32.ofNat L) :: r) | none => none)
  | .retAddr 1 :: r => some (h, .int 0 :: r)
  | .ref q :: r =>
    (match h[q]? with
    | some (c, s) => if 100 ≤ c then some (h, .int (Int32.ofNat s.length) :: r) else none
    | none => none)
  | _ => none
def znew (a : Nat) (h : zHp) (st : List Value) : Option (zHp × List Value) := if a < 9 then (if h.length < 1000000 then some (h ++ [(a, (zdfs[a]?).getD [])], .ref h.length :: st) else none) else none
def znewa (a : Nat) (h : zHp) (st : List Value) : Option (zHp × List Value) := match st with
  | .int n :: r => if h.length < 1000000 then (if zin n 10000 = true then some (h ++ [(a, List.replicate n.toNatClampNeg (if a = 102 then .long 0 else if a = 103 then .null else .int 0))], .ref h.length :: r) else none) else none
  | _ => none
def zcast (a : Nat) (h : zHp) (st : List Value) : Option (zHp × List Value) := match st with
  | .ref q :: r => (match h[q]? with
    | some (c, _) => if c = a then some (h, .ref q :: r) else none
    | none => none)
  | _ => none
/-- the calls that aren't run by their code -/
def zbuilt (a : Nat) (h : zHp) (st : List Value) : Option (zHp × List Value) :=
  if a = 2000 then (match st with | .ref _ :: r => some (h, r) | _ => none) else
  if a = 2001 then (match st with | .int y :: .int x :: r => some (h, .int (if x < y then y else x) :: r) | _ => none) else
  if a = 2002 then (match st with | .int y :: .int x :: r => some (h, .int (if y < x then y else x) :: r) | _ => none) else
  if a = 2003 then (match st with | .int x :: r => some (h, .int (if 0 ≤ x then x else 0 - x) :: r) | _ => none) else
  if a = 2004 then (match st with
    | .int n :: .int dp :: .ref q1 :: .int sp :: .ref q0 :: r => (match h[q0]? with
      | some (c0, s0) => (match h[q1]? with
        | some (c1, s1) => if c0 = 103 then (if c1 = 103 then (if 0 ≤ sp ∧ 0 ≤ dp ∧ 0 ≤ n ∧ sp.toNatClampNeg + n.toNatClampNeg ≤ s0.length ∧ dp.toNatClampNeg + n.toNatClampNeg ≤ s1.length then some (h.set q1 (103, zcpy s0 s1 sp.toNatClampNeg dp.toNatClampNeg n.toNatClampNeg), r) else none) else none) else none
        | none => none)
      | none => none)
    | _ => none) else
  if a = 2005 then (match st with
    | .ref q :: r => (match h[q]? with
      | some (c, _) => if c = 103 then some (h, .retAddr 2 :: r) else none
      | none => none)
    | _ => none) else none
/-- the law's 'cell' of the script, as one step -/
def zcell (sc : zScr) (h : zHp) (st : List Value) : Option (zHp × List Value) := match st with
  | .int k :: .retAddr 0 :: r => (match sc with
    | some (L, xs) => if Int32.ofNat L = 0 then some (h, .int 0 :: r) else (if zin (k - k / Int32.ofNat L * Int32.ofNat L) L = true then some (h, .int (xs (k - k / Int32.ofNat L * Int32.ofNat L).toNatClampNeg + 31 * k) :: r) else none)
    | none => none)
  | _ => none
/-- an instruction over the heap -/
def zheap (sc : zScr) (i : Instr) (a b : Nat) (h : zHp) (st : List Value) : Option (zHp × List Value) := match i with
  | .getfield _ => zgetf a b h st
  | .putfield _ => zputf a b h st
  | .getstatic _ => some (h, .retAddr 1 :: st)
  | .ldc _ => some (h, .retAddr 2 :: st)
  | .invokevirtual _ => if st.length ≤ 12 then zbuilt a h st else none
  | .iaload => zald 100 sc h st
  | .baload => zald 101 none h st
  | .laload => zald 102 none h st
  | .aaload => zald 103 none h st
  | .iastore => zast 100 h st
  | .bastore => zast 101 h st
  | .lastore => zast 102 h st
  | .aastore => zast 103 h st
  | .arraylength => zalen sc h st
  | .new _ => znew a h st
  | .newarray _ => znewa a h st
  | .anewarray _ => znewa 103 h st
  | .checkcast _ => zcast a h st
  | .invokespecial _ => if st.length ≤ 12 then zbuilt a h st else none
  | .invokestatic _ => if a = 2006 then (if st.length ≤ 5 then zcell sc h st else none) else if st.length ≤ 12 then zbuilt a h st else none
  | _ => none
def zret (i : Instr) (rc : Nat) (st : List Value) : Option (Option Value) := match i with
  | .ireturn => (match st with | [.int x] => (if rc = 0 then some (some (.int x)) else if rc = 1 then (if x = 0 ∨ x = 1 then some (some (.int x)) else none) else none) | _ => none)
  | .areturn => (match st with | [.ref q] => (if rc = 2 then some (some (.ref q)) else none) | [.null] => (if rc = 2 then some (some .null) else none) | _ => none)
  | .lreturn => (match st with | [.long x] => (if rc = 3 then some (some (.long x)) else none) | _ => none)
  | .return_ => (match st with | [] => (if rc = 4 then some none else none) | _ => none)
  | _ => none
/-- what kind of instruction: 0 pure, 1 branch, 2 heap, 3 call, 4 return, 5 throw new, 6 switch -/
def zgrp (i : Instr) (a : Nat) : Nat := match i with
  | .ifCond _ _ => 1
  | .if_icmp _ _ => 1
  | .if_acmp _ _ => 1
  | .ifnull _ => 1
  | .ifnonnull _ => 1
  | .goto _ => 1
  | .tableswitch _ _ _ _ => 6
  | .ireturn => 4
  | .areturn => 4
  | .lreturn => 4
  | .return_ => 4
  | .getfield _ => 2
  | .putfield _ => 2
  | .getstatic _ => 2
  | .iaload => 2
  | .baload => 2
  | .laload => 2
  | .aaload => 2
  | .iastore => 2
  | .bastore => 2
  | .lastore => 2
  | .aastore => 2
  | .arraylength => 2
  | .newarray _ => 2
  | .anewarray _ => 2
  | .checkcast _ => 2
  | .new _ => if 9 ≤ a then 5 else 2
  | .invokevirtual _ => if 2000 ≤ a then 2 else 3
  | .ldc _ => if a = 1 then 2 else 0
  | .invokespecial _ => if 2000 ≤ a then 2 else 3
  | .invokestatic _ => if 2000 ≤ a then 2 else 3
  | _ => 0
def zrecv (h : zHp) (kd cl : Nat) (as : List Value) : Bool := match kd with
  | 0 => true
  | 1 => (match as with | .ref q :: _ => (match h[q]? with | some (c, _) => decide (c = cl) | none => false) | _ => false)
  | _ => (match as with | .ref q :: _ => decide (q < h.length) | _ => false)
def zent (as : List Value) (ml : Nat) : zLs := as.map some ++ List.replicate (ml - as.length) none
/-- zev n sc d m pc ls st h: with n steps, and d calls deep, from the place pc of the method m to its end -/
def zev : Nat → zScr → Nat → Nat → Nat → zLs → List Value → zHp → Option (zRes × zHp)
  | 0, _, _, _, _, _, _, _ => none
  | n + 1, sc, d, m, pc, ls, st, h => match zcode m pc with
    | none => none
    | some (i, len, imm, a, b) =>
      if zgrp i a = 0 then (match zpure i imm ls st with | some (ls', st') => zev n sc d m (pc + len) ls' st' h | none => none)
      else if zgrp i a = 1 then (match zbr i st with | some (t, st') => zev n sc d m (if t = true then a else pc + len) ls st' h | none => none)
      else if zgrp i a = 2 then (match zheap sc i a b h st with | some (h', st') => zev n sc d m (pc + len) ls st' h' | none => none)
      else if zgrp i a = 3 then (match d with
        | 0 => none
        | d' + 1 =>
          if (zinf a).1 ≤ st.length ∧ (st.drop (zinf a).1).length ≤ 4 ∧ ((st.take (zinf a).1).reverse.all zcat1) = true ∧ (zinf a).1 ≤ (zinf a).2.1 ∧ zrecv h (zinf a).2.2.1 (zinf a).2.2.2.1 (st.take (zinf a).1).reverse = true then
            (match zev n none d' a 0 (zent (st.take (zinf a).1).reverse (zinf a).2.1) [] h with
            | none => none
            | some (.inl v, h1) => zev n sc (d' + 1) m (pc + len) ls (v.toList ++ st.drop (zinf a).1) h1
            | some (.inr E, h1) => if b = 7 then none else (match zhand m pc E with
              | some (t, k) => if k < ls.length ∧ zclr ls k = true then zev n sc (d' + 1) m t (ls.set k none) [] h1 else none
              | none => some (.inr E, h1)))
          else none)
      else if zgrp i a = 4 then (match zret i (zinf m).2.2.2.2 st with | some v => some (.inl v, h) | none => none)
      else if zgrp i a = 5 then (if h.length < 1000000 ∧ st.length = 0 then some (.inr a, h ++ [(a, [])]) else none)
      else (match zsw i pc st with | some (t, st') => zev n sc d m t ls st' h | none => none)
