/-! ROWS: builtin calls, new arrays -/
section
variable {d m pc len b a : Nat} {imm : Int32} {sc : zScr} {ls : zLs} {r : List Value} {h : zHp} {x : zRes × zHp} {cp : Nat}
theorem zX'.ob {q : Nat} (hk : zcode m pc = some (.invokespecial cp, len, imm, 2000, b)) (hl : r.length ≤ 11) (hX : zX' sc d m (pc + len) ls r h x) : zX' sc d m pc ls (.ref q :: r) h x :=
  zX'.hp hk rfl (by unfold zheap; simp only [List.length_cons, show r.length + 1 ≤ 12 by omega, if_true]; rfl) hX
theorem zX'.max {u v : Int32} (hk : zcode m pc = some (.invokestatic cp, len, imm, 2001, b)) (hl : r.length ≤ 10) (hX : zX' sc d m (pc + len) ls (.int (if u < v then v else u) :: r) h x) : zX' sc d m pc ls (.int v :: .int u :: r) h x :=
  zX'.hp hk rfl (by unfold zheap; simp only [List.length_cons, show r.length + 1 + 1 ≤ 12 by omega, if_true]; rfl) hX
theorem zX'.min {u v : Int32} (hk : zcode m pc = some (.invokestatic cp, len, imm, 2002, b)) (hl : r.length ≤ 10) (hX : zX' sc d m (pc + len) ls (.int (if v < u then v else u) :: r) h x) : zX' sc d m pc ls (.int v :: .int u :: r) h x :=
  zX'.hp hk rfl (by unfold zheap; simp only [List.length_cons, show r.length + 1 + 1 ≤ 12 by omega, if_true]; rfl) hX
theorem zX'.abs {u : Int32} (hk : zcode m pc = some (.invokestatic cp, len, imm, 2003, b)) (hl : r.length ≤ 10) (hX : zX' sc d m (pc + len) ls (.int (if 0 ≤ u then u else 0 - u) :: r) h x) : zX' sc d m pc ls (.int u :: r) h x :=
  zX'.hp hk rfl (by unfold zheap; simp only [List.length_cons, show r.length + 1 ≤ 12 by omega, if_true]; rfl) hX
theorem zX'.cpy {n sp dp q0 q1 : Nat} {s0 s1 : List Value} (hk : zcode m pc = some (.invokestatic cp, len, imm, 2004, b)) (hl : r.length ≤ 7) (h0 : h[q0]? = some (103, s0)) (h1 : h[q1]? = some (103, s1)) (hn : n < 20000) (hs : sp < 20000) (hd : dp < 20000) (e0 : sp + n ≤ s0.length) (e1 : dp + n ≤ s1.length) (hX : zX' sc d m (pc + len) ls r (h.set q1 (103, zcpy s0 s1 sp dp n)) x) : zX' sc d m pc ls (.int (Int32.ofNat n) :: .int (Int32.ofNat dp) :: .ref q1 :: .int (Int32.ofNat sp) :: .ref q0 :: r) h x :=
  zX'.hp hk rfl (by
    unfold zheap
    simp only [List.length_cons, show ¬ (2004 : Nat) = 2006 by decide, if_false, show r.length + 1 + 1 + 1 + 1 + 1 ≤ 12 by omega, if_true]
    unfold zbuilt
    simp only [show ¬ (2004 : Nat) = 2000 by decide, show ¬ (2004 : Nat) = 2001 by decide, show ¬ (2004 : Nat) = 2002 by decide, show ¬ (2004 : Nat) = 2003 by decide, if_false, if_true, h0, h1]
    rw [if_pos ⟨zige (by omega), zige (by omega), zige (by omega), by rw [zicl (by omega), zicl (by omega)]; exact e0, by rw [zicl (by omega), zicl (by omega)]; exact e1⟩, zicl (by omega), zicl (by omega), zicl (by omega)]) hX
theorem zX'.gc {q : Nat} {s : List Value} (hk : zcode m pc = some (.invokevirtual cp, len, imm, 2005, b)) (hl : r.length ≤ 10) (hq : h[q]? = some (103, s)) (hX : zX' sc d m (pc + len) ls (.retAddr 2 :: r) h x) : zX' sc d m pc ls (.ref q :: r) h x :=
  zX'.hp hk rfl (by
    unfold zheap
    simp only [List.length_cons, show r.length + 1 ≤ 12 by omega, if_true]
    unfold zbuilt
    simp only [show ¬ (2005 : Nat) = 2000 by decide, show ¬ (2005 : Nat) = 2001 by decide, show ¬ (2005 : Nat) = 2002 by decide, show ¬ (2005 : Nat) = 2003 by decide, show ¬ (2005 : Nat) = 2004 by decide, if_false, if_true, hq]) hX
theorem zX'.gs (hk : zcode m pc = some (.getstatic cp, len, imm, a, b)) (hX : zX' sc d m (pc + len) ls (.retAddr 1 :: r) h x) : zX' sc d m pc ls r h x :=
  zX'.hp hk rfl rfl hX
theorem zX'.lc (hk : zcode m pc = some (.ldc cp, len, imm, 1, b)) (hX : zX' sc d m (pc + len) ls (.retAddr 2 :: r) h x) : zX' sc d m pc ls r h x :=
  zX'.hp hk rfl rfl hX
theorem zX'.al1 (hk : zcode m pc = some (.arraylength, len, imm, a, b)) (hX : zX' sc d m (pc + len) ls (.int 0 :: r) h x) : zX' sc d m pc ls (.retAddr 1 :: r) h x :=
  zX'.hp hk rfl rfl hX
theorem zX'.na {n : Nat} (hk : zcode m pc = some (.anewarray cp, len, imm, a, b)) (hh : h.length < 1000000) (hn : n < 10000) (hX : zX' sc d m (pc + len) ls (.ref h.length :: r) (h ++ [(103, List.replicate n .null)]) x) : zX' sc d m pc ls (.int (Int32.ofNat n) :: r) h x :=
  zX'.hp hk rfl (by
    unfold zheap znewa
    have hz : zin (Int32.ofNat n) 10000 = true := by unfold zin; rw [zicl (by omega)]; simp only [zige (a := n) (by omega), hn, decide_true, Bool.and_self]
    simp only [hh, hz, if_true, zicl (n := n) (by omega)]; rfl) hX
theorem zX'.nai {n : Nat} {ak : _} (hk : zcode m pc = some (.newarray ak, len, imm, a, b)) (hh : h.length < 1000000) (hn : n < 10000) (ha : a ≠ 102 ∧ a ≠ 103) (hX : zX' sc d m (pc + len) ls (.ref h.length :: r) (h ++ [(a, List.replicate n (.int 0))]) x) : zX' sc d m pc ls (.int (Int32.ofNat n) :: r) h x :=
  zX'.hp hk rfl (by
    unfold zheap znewa
    have hz : zin (Int32.ofNat n) 10000 = true := by unfold zin; rw [zicl (by omega)]; simp only [zige (a := n) (by omega), hn, decide_true, Bool.and_self]
    simp only [hh, hz, if_true, zicl (n := n) (by omega), if_neg ha.1, if_neg ha.2]) hX
theorem zX'.nal {n : Nat} {ak : _} (hk : zcode m pc = some (.newarray ak, len, imm, 102, b)) (hh : h.length < 1000000) (hn : n < 10000) (hX : zX' sc d m (pc + len) ls (.ref h.length :: r) (h ++ [(102, List.replicate n (.long 0))]) x) : zX' sc d m pc ls (.int (Int32.ofNat n) :: r) h x :=
  zX'.hp hk rfl (by
    unfold zheap znewa
    have hz : zin (Int32.ofNat n) 10000 = true := by unfold zin; rw [zicl (by omega)]; simp only [zige (a := n) (by omega), hn, decide_true, Bool.and_self]
    simp only [hh, hz, if_true, zicl (n := n) (by omega)]) hX
end
