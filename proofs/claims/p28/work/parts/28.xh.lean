/-! ROWS: heap steps -/
section
variable {d m pc : Nat} {sc : zScr} {ls : zLs} {r : List Value} {h : zHp} {x : zRes × zHp}
theorem zX'.gf {cp : Nat} {q len b a : Nat} {imm : Int32} {fs : List Value} {v : Value} (hk : zcode m pc = some (.getfield cp, len, imm, a, b)) (hq : h[q]? = some (a, fs)) (hv : fs[b]? = some v) (hX : zX' sc d m (pc + len) ls (v :: r) h x) : zX' sc d m pc ls (.ref q :: r) h x :=
  zX'.hp hk rfl (by unfold zheap zgetf; simp only [hq, hv, if_true]) hX
theorem zX'.pf {cp : Nat} {q len b a : Nat} {imm : Int32} {fs : List Value} {v : Value} (hk : zcode m pc = some (.putfield cp, len, imm, a, b)) (hq : h[q]? = some (a, fs)) (hb : b < fs.length) (hv : zfits (((zfty[a]?).getD [])[b]?.getD 9) v = true) (hX : zX' sc d m (pc + len) ls r (h.set q (a, fs.set b v)) x) : zX' sc d m pc ls (v :: .ref q :: r) h x :=
  zX'.hp hk rfl (by unfold zheap zputf; simp only [hq, hb, hv, if_true]) hX
theorem zxald {k q : Nat} {i : Int32} {s : List Value} {v : Value} (hq : h[q]? = some (k, s)) (h0 : 0 ≤ i) (hv : s[i.toNatClampNeg]? = some v) : zald k sc h (.int i :: .ref q :: r) = some (h, v :: r) := by
  obtain ⟨hlt, _⟩ := List.getElem?_eq_some_iff.mp hv
  have hz : zin i s.length = true := by unfold zin; simp only [h0, hlt, decide_true, Bool.and_self]
  unfold zald
  simp only [hq, hz, hv, if_true]
theorem zxast {k q : Nat} {i : Int32} {s : List Value} {v : Value} (hq : h[q]? = some (k, s)) (h0 : 0 ≤ i) (hl : i.toNatClampNeg < s.length) (hv : zafit k h v = true) : zast k h (v :: .int i :: .ref q :: r) = some (h.set q (k, s.set i.toNatClampNeg v), r) := by
  have hz : zin i s.length = true := by unfold zin; simp only [h0, hl, decide_true, Bool.and_self]
  unfold zast
  simp only [hq, hz, hv, if_true]
variable {q len b a : Nat} {imm i : Int32} {s : List Value} {v : Value}
theorem zX'.ia (hk : zcode m pc = some (.iaload, len, imm, a, b)) (hq : h[q]? = some (100, s)) (h0 : 0 ≤ i) (hv : s[i.toNatClampNeg]? = some v) (hX : zX' sc d m (pc + len) ls (v :: r) h x) : zX' sc d m pc ls (.int i :: .ref q :: r) h x :=
  zX'.hp hk rfl (zxald (sc := sc) hq h0 hv) hX
theorem zX'.ba (hk : zcode m pc = some (.baload, len, imm, a, b)) (hq : h[q]? = some (101, s)) (h0 : 0 ≤ i) (hv : s[i.toNatClampNeg]? = some v) (hX : zX' sc d m (pc + len) ls (v :: r) h x) : zX' sc d m pc ls (.int i :: .ref q :: r) h x :=
  zX'.hp hk rfl (zxald (sc := none) hq h0 hv) hX
theorem zX'.la (hk : zcode m pc = some (.laload, len, imm, a, b)) (hq : h[q]? = some (102, s)) (h0 : 0 ≤ i) (hv : s[i.toNatClampNeg]? = some v) (hX : zX' sc d m (pc + len) ls (v :: r) h x) : zX' sc d m pc ls (.int i :: .ref q :: r) h x :=
  zX'.hp hk rfl (zxald (sc := none) hq h0 hv) hX
theorem zX'.aa (hk : zcode m pc = some (.aaload, len, imm, a, b)) (hq : h[q]? = some (103, s)) (h0 : 0 ≤ i) (hv : s[i.toNatClampNeg]? = some v) (hX : zX' sc d m (pc + len) ls (v :: r) h x) : zX' sc d m pc ls (.int i :: .ref q :: r) h x :=
  zX'.hp hk rfl (zxald (sc := none) hq h0 hv) hX
theorem zX'.is {y : Int32} (hk : zcode m pc = some (.iastore, len, imm, a, b)) (hq : h[q]? = some (100, s)) (h0 : 0 ≤ i) (hl : i.toNatClampNeg < s.length) (hX : zX' sc d m (pc + len) ls r (h.set q (100, s.set i.toNatClampNeg (.int y))) x) : zX' sc d m pc ls (.int y :: .int i :: .ref q :: r) h x :=
  zX'.hp hk rfl (zxast hq h0 hl rfl) hX
theorem zX'.bs {y : Int32} (hk : zcode m pc = some (.bastore, len, imm, a, b)) (hq : h[q]? = some (101, s)) (h0 : 0 ≤ i) (hl : i.toNatClampNeg < s.length) (hy : y = 0 ∨ y = 1) (hX : zX' sc d m (pc + len) ls r (h.set q (101, s.set i.toNatClampNeg (.int y))) x) : zX' sc d m pc ls (.int y :: .int i :: .ref q :: r) h x :=
  zX'.hp hk rfl (zxast hq h0 hl (by rcases hy with rfl | rfl <;> rfl)) hX
theorem zX'.lls {y : Int64} (hk : zcode m pc = some (.lastore, len, imm, a, b)) (hq : h[q]? = some (102, s)) (h0 : 0 ≤ i) (hl : i.toNatClampNeg < s.length) (hX : zX' sc d m (pc + len) ls r (h.set q (102, s.set i.toNatClampNeg (.long y))) x) : zX' sc d m pc ls (.long y :: .int i :: .ref q :: r) h x :=
  zX'.hp hk rfl (zxast hq h0 hl rfl) hX
theorem zX'.as (hk : zcode m pc = some (.aastore, len, imm, a, b)) (hq : h[q]? = some (103, s)) (h0 : 0 ≤ i) (hl : i.toNatClampNeg < s.length) (hv : zafit 103 h v = true) (hX : zX' sc d m (pc + len) ls r (h.set q (103, s.set i.toNatClampNeg v)) x) : zX' sc d m pc ls (v :: .int i :: .ref q :: r) h x :=
  zX'.hp hk rfl (zxast hq h0 hl hv) hX
theorem zX'.al {k : Nat} (hk : zcode m pc = some (.arraylength, len, imm, a, b)) (hq : h[q]? = some (k, s)) (h0 : 100 ≤ k) (hX : zX' sc d m (pc + len) ls (.int (Int32.ofNat s.length) :: r) h x) : zX' sc d m pc ls (.ref q :: r) h x :=
  zX'.hp hk rfl (by unfold zheap zalen; simp only [hq, h0, if_true]) hX
theorem zX'.nw {cp : Nat} {fs : List Value} (hk : zcode m pc = some (.new cp, len, imm, a, b)) (ha : a < 9) (hl : h.length < 1000000) (hf : (zdfs[a]?).getD [] = fs) (hX : zX' sc d m (pc + len) ls (.ref h.length :: r) (h ++ [(a, fs)]) x) : zX' sc d m pc ls r h x :=
  zX'.hp hk (by unfold zgrp; simp only [show ¬ 9 ≤ a by omega, if_false]) (by unfold zheap znew; simp only [ha, hl, hf, if_true]) hX
theorem zX'.cc {cp : Nat} (hk : zcode m pc = some (.checkcast cp, len, imm, a, b)) (hq : h[q]? = some (a, s)) (hX : zX' sc d m (pc + len) ls (.ref q :: r) h x) : zX' sc d m pc ls (.ref q :: r) h x :=
  zX'.hp hk rfl (by unfold zheap zcast; simp only [hq, if_true]) hX
end
