/-! ROWS: a run from here comes to the end x -/
def zX' (sc : zScr) (d m pc : Nat) (ls : zLs) (st : List Value) (h : zHp) (x : zRes × zHp) : Prop := ∃ n, zev n sc d m pc ls st h = some x
/-- a run of the method m -/
def zRn (d m : Nat) (as : List Value) (h : zHp) (x : zRes × zHp) : Prop := ∃ n, zev n none d m 0 (zent as (zinf m).2.1) [] h = some x
theorem zev_lt {n d d' m pc : Nat} {sc : zScr} {ls : zLs} {st : List Value} {h : zHp} {x : zRes × zHp} (hz : zev n sc d m pc ls st h = some x) (hd : d ≤ d') : ∀ n', n < n' → zev n' sc d' m pc ls st h = some x := by
  have : ∀ k, zev (n + (k + 1)) sc d' m pc ls st h = some x := by
    intro k
    induction k with
    | zero => exact zev_up n hz hd
    | succ k ih => exact zev_up _ ih (Nat.le_refl _)
  intro n' hlt
  obtain ⟨k, rfl⟩ : ∃ k, n' = n + (k + 1) := ⟨n' - n - 1, by omega⟩
  exact this k
theorem zRn.up {d d' m : Nat} {as : List Value} {h : zHp} {x : zRes × zHp} (hr : zRn d m as h x) (hd : d ≤ d') : zRn d' m as h x := by
  obtain ⟨n, hz⟩ := hr
  exact ⟨n + 1, zev_up n hz hd⟩
section
variable {d m pc : Nat} {sc : zScr} {ls ls' : zLs} {st st' : List Value} {h h' : zHp} {i : Instr} {len : Nat} {imm : Int32} {a b : Nat} {x : zRes × zHp}
theorem zX'.p (hk : zcode m pc = some (i, len, imm, a, b)) (hg : zgrp i a = 0) (hp : zpure i imm ls st = some (ls', st')) (hX : zX' sc d m (pc + len) ls' st' h x) : zX' sc d m pc ls st h x := by
  obtain ⟨n, hz⟩ := hX
  exact ⟨n + 1, by rw [zev_0 hk hg hp]; exact hz⟩
theorem zX'.br {t : Bool} (hk : zcode m pc = some (i, len, imm, a, b)) (hg : zgrp i a = 1) (hp : zbr i st = some (t, st')) (hT : t = true → zX' sc d m a ls st' h x) (hF : t = false → zX' sc d m (pc + len) ls st' h x) : zX' sc d m pc ls st h x := by
  cases t with
  | true =>
    obtain ⟨n, hz⟩ := hT rfl
    exact ⟨n + 1, by rw [zev_1 hk hg hp]; exact hz⟩
  | false =>
    obtain ⟨n, hz⟩ := hF rfl
    exact ⟨n + 1, by rw [zev_1 hk hg hp]; exact hz⟩
theorem zX'.hp (hk : zcode m pc = some (i, len, imm, a, b)) (hg : zgrp i a = 2) (hp : zheap sc i a b h st = some (h', st')) (hX : zX' sc d m (pc + len) ls st' h' x) : zX' sc d m pc ls st h x := by
  obtain ⟨n, hz⟩ := hX
  exact ⟨n + 1, by rw [zev_2 hk hg hp]; exact hz⟩
theorem zX'.s {t : Nat} (hk : zcode m pc = some (i, len, imm, a, b)) (hg : zgrp i a = 6) (hp : zsw i pc st = some (t, st')) (hX : zX' sc d m t ls st' h x) : zX' sc d m pc ls st h x := by
  obtain ⟨n, hz⟩ := hX
  exact ⟨n + 1, by rw [zev_6 hk hg hp]; exact hz⟩
theorem zX'.r {v : Option Value} (hk : zcode m pc = some (i, len, imm, a, b)) (hg : zgrp i a = 4) (hr : zret i (zinf m).2.2.2.2 st = some v) (hx : x = (.inl v, h)) : zX' sc d m pc ls st h x :=
  ⟨1, by rw [zev_4 hk hg hr, hx]⟩
theorem zX'.t (hk : zcode m pc = some (i, len, imm, a, b)) (hg : zgrp i a = 5) (hl : h.length < 1000000) (hst : st = []) (hx : x = (.inr a, h ++ [(a, [])])) : zX' sc d m pc ls st h x :=
  ⟨1, by rw [zev_5 hk hg ⟨hl, by rw [hst]; rfl⟩, hx]⟩
theorem zargs {as rest : List Value} (hst : st = as.reverse ++ rest) {na : Nat} (hn : as.length = na) : (st.take na).reverse = as ∧ st.drop na = rest ∧ na ≤ st.length := by
  subst hst hn
  refine ⟨?_, ?_, ?_⟩
  · rw [List.take_left' (by simp), List.reverse_reverse]
  · rw [List.drop_left' (by simp)]
  · simp
/-- a call of the method a that comes back -/
theorem zX'.c {as rest : List Value} {v : Option Value} {d0 : Nat} (hk : zcode m pc = some (i, len, imm, a, b)) (hg : zgrp i a = 3) (hn : as.length = (zinf a).1) (hst : st = as.reverse ++ rest) (hl : rest.length ≤ 4) (hc : as.all zcat1 = true) (hml : (zinf a).1 ≤ (zinf a).2.1) (hv : zrecv h (zinf a).2.2.1 (zinf a).2.2.2.1 as = true)
    (hr : zRn d0 a as h (.inl v, h')) (hd : d0 ≤ d) (hX : zX' sc (d + 1) m (pc + len) ls (v.toList ++ rest) h' x) : zX' sc (d + 1) m pc ls st h x := by
  obtain ⟨n1, h1⟩ := hr
  obtain ⟨n2, h2⟩ := hX
  obtain ⟨e1, e2, e3⟩ := zargs hst hn
  refine ⟨n1 + n2 + 1 + 1, ?_⟩
  rw [zev_3 (v := v) (h' := h') hk hg ⟨e3, by rw [e2]; exact hl, by rw [e1]; exact hc, hml, by rw [e1]; exact hv⟩ (by rw [e1]; exact zev_lt h1 hd _ (by omega)), e2]
  exact zev_lt h2 (Nat.le_refl _) _ (by omega)
/-- .. that throws, and is caught -/
theorem zX'.ch {as rest : List Value} {E d0 t k : Nat} (hk : zcode m pc = some (i, len, imm, a, b)) (hg : zgrp i a = 3) (hn : as.length = (zinf a).1) (hst : st = as.reverse ++ rest) (hl : rest.length ≤ 4) (hc : as.all zcat1 = true) (hml : (zinf a).1 ≤ (zinf a).2.1) (hv : zrecv h (zinf a).2.2.1 (zinf a).2.2.2.1 as = true) (hb : b ≠ 7)
    (hr : zRn d0 a as h (.inr E, h')) (hd : d0 ≤ d) (hh : zhand m pc E = some (t, k)) (hk2 : k < ls.length ∧ zclr ls k = true) (hX : zX' sc (d + 1) m t (ls.set k none) [] h' x) : zX' sc (d + 1) m pc ls st h x := by
  obtain ⟨n1, h1⟩ := hr
  obtain ⟨n2, h2⟩ := hX
  obtain ⟨e1, e2, e3⟩ := zargs hst hn
  refine ⟨n1 + n2 + 1 + 1, ?_⟩
  rw [zev_3h (h' := h') hk hg ⟨e3, by rw [e2]; exact hl, by rw [e1]; exact hc, hml, by rw [e1]; exact hv⟩ hb (by rw [e1]; exact zev_lt h1 hd _ (by omega)) hh hk2]
  exact zev_lt h2 (Nat.le_refl _) _ (by omega)
/-- .. that throws, and goes on to the caller -/
theorem zX'.cx {as rest : List Value} {E d0 : Nat} (hk : zcode m pc = some (i, len, imm, a, b)) (hg : zgrp i a = 3) (hn : as.length = (zinf a).1) (hst : st = as.reverse ++ rest) (hl : rest.length ≤ 4) (hc : as.all zcat1 = true) (hml : (zinf a).1 ≤ (zinf a).2.1) (hv : zrecv h (zinf a).2.2.1 (zinf a).2.2.2.1 as = true) (hb : b ≠ 7)
    (hr : zRn d0 a as h (.inr E, h')) (hd : d0 ≤ d) (hh : zhand m pc E = none) (hx : x = (.inr E, h')) : zX' sc (d + 1) m pc ls st h x := by
  obtain ⟨n1, h1⟩ := hr
  obtain ⟨e1, e2, e3⟩ := zargs hst hn
  exact ⟨n1 + 1 + 1, by rw [zev_3x (h' := h') hk hg ⟨e3, by rw [e2]; exact hl, by rw [e1]; exact hc, hml, by rw [e1]; exact hv⟩ hb (by rw [e1]; exact zev_lt h1 hd _ (by omega)) hh, hx]⟩
end
/-- some pure steps at once, gotos among them -/
def zrun : Nat → Nat → Nat → zLs → List Value → Option (Nat × (zLs × List Value))
  | 0, _, pc, ls, st => some (pc, ls, st)
  | k + 1, m, pc, ls, st => match zcode m pc with
    | none => none
    | some (i, len, imm, a, b) => match zgrp i a with
      | 0 => (match zpure i imm ls st with
        | none => none
        | some (ls', st') => zrun k m (pc + len) ls' st')
      | 1 => (match i with
        | .goto _ => zrun k m a ls st
        | _ => none)
      | _ => none
theorem zX'.run {sc : zScr} {d m : Nat} {h : zHp} {x : zRes × zHp} : ∀ (k : Nat) {pc pc' : Nat} {ls ls' : zLs} {st st' : List Value}, zrun k m pc ls st = some (pc', ls', st') → zX' sc d m pc' ls' st' h x → zX' sc d m pc ls st h x
  | 0, _, _, _, _, _, _, hr, hX => by
    simp only [zrun, Option.some.injEq, Prod.mk.injEq] at hr
    obtain ⟨rfl, rfl, rfl⟩ := hr
    exact hX
  | k + 1, pc, pc', ls, ls', st, st', hr, hX => by
    unfold zrun at hr
    split at hr
    · cases hr
    · rename_i i len imm a b hk
      split at hr
      · rename_i hg
        split at hr
        · cases hr
        · rename_i hp
          exact zX'.p hk hg hp (zX'.run k hr hX)
      · rename_i hg
        split at hr
        · exact zX'.br hk hg rfl (fun _ => zX'.run k hr hX) (fun q => by cases q)
        · cases hr
      · cases hr
