/-! RUNS OF THE LOGICAL MACHINE, FORWARDS -/
section
variable {n d m pc : Nat} {sc : zScr} {ls ls' : zLs} {st st' : List Value} {h h' : zHp} {i : Instr} {len : Nat} {imm : Int32} {a b : Nat} {x : zRes × zHp}
theorem zev_0 (hk : zcode m pc = some (i, len, imm, a, b)) (hg : zgrp i a = 0) (hp : zpure i imm ls st = some (ls', st')) : zev (n + 1) sc d m pc ls st h = zev n sc d m (pc + len) ls' st' h := by
  rw [zev]; simp only [hk, hg, hp, if_true]
theorem zev_1 {t : Bool} (hk : zcode m pc = some (i, len, imm, a, b)) (hg : zgrp i a = 1) (hp : zbr i st = some (t, st')) : zev (n + 1) sc d m pc ls st h = zev n sc d m (if t = true then a else pc + len) ls st' h := by
  rw [zev]; simp only [hk, hg, hp, show ¬ (1 = 0) by decide, if_false, if_true]
theorem zev_2 (hk : zcode m pc = some (i, len, imm, a, b)) (hg : zgrp i a = 2) (hp : zheap sc i a b h st = some (h', st')) : zev (n + 1) sc d m pc ls st h = zev n sc d m (pc + len) ls st' h' := by
  rw [zev]; simp only [hk, hg, hp, show ¬ (2 = 0) by decide, show ¬ (2 = 1) by decide, if_false, if_true]
theorem zev_3 {v : Option Value} (hk : zcode m pc = some (i, len, imm, a, b)) (hg : zgrp i a = 3) (hc : (zinf a).1 ≤ st.length ∧ (st.drop (zinf a).1).length ≤ 4 ∧ ((st.take (zinf a).1).reverse.all zcat1) = true ∧ (zinf a).1 ≤ (zinf a).2.1 ∧ zrecv h (zinf a).2.2.1 (zinf a).2.2.2.1 (st.take (zinf a).1).reverse = true)
    (hr : zev n none d a 0 (zent (st.take (zinf a).1).reverse (zinf a).2.1) [] h = some (.inl v, h')) : zev (n + 1) sc (d + 1) m pc ls st h = zev n sc (d + 1) m (pc + len) ls (v.toList ++ st.drop (zinf a).1) h' := by
  rw [zev]; simp only [hk, hg, hr, if_pos hc, show ¬ (3 = 0) by decide, show ¬ (3 = 1) by decide, show ¬ (3 = 2) by decide, if_false, if_true]
theorem zev_3x {E : Nat} (hk : zcode m pc = some (i, len, imm, a, b)) (hg : zgrp i a = 3) (hc : (zinf a).1 ≤ st.length ∧ (st.drop (zinf a).1).length ≤ 4 ∧ ((st.take (zinf a).1).reverse.all zcat1) = true ∧ (zinf a).1 ≤ (zinf a).2.1 ∧ zrecv h (zinf a).2.2.1 (zinf a).2.2.2.1 (st.take (zinf a).1).reverse = true) (hb : b ≠ 7)
    (hr : zev n none d a 0 (zent (st.take (zinf a).1).reverse (zinf a).2.1) [] h = some (.inr E, h')) (hh : zhand m pc E = none) : zev (n + 1) sc (d + 1) m pc ls st h = some (.inr E, h') := by
  rw [zev]; simp only [hk, hg, hr, if_pos hc, if_neg hb, hh, show ¬ (3 = 0) by decide, show ¬ (3 = 1) by decide, show ¬ (3 = 2) by decide, if_false, if_true]
theorem zev_3h {E t k : Nat} (hk : zcode m pc = some (i, len, imm, a, b)) (hg : zgrp i a = 3) (hc : (zinf a).1 ≤ st.length ∧ (st.drop (zinf a).1).length ≤ 4 ∧ ((st.take (zinf a).1).reverse.all zcat1) = true ∧ (zinf a).1 ≤ (zinf a).2.1 ∧ zrecv h (zinf a).2.2.1 (zinf a).2.2.2.1 (st.take (zinf a).1).reverse = true) (hb : b ≠ 7)
    (hr : zev n none d a 0 (zent (st.take (zinf a).1).reverse (zinf a).2.1) [] h = some (.inr E, h')) (hh : zhand m pc E = some (t, k)) (hk2 : k < ls.length ∧ zclr ls k = true) : zev (n + 1) sc (d + 1) m pc ls st h = zev n sc (d + 1) m t (ls.set k none) [] h' := by
  rw [zev]; simp only [hk, hg, hr, if_pos hc, if_neg hb, hh, if_pos hk2, show ¬ (3 = 0) by decide, show ¬ (3 = 1) by decide, show ¬ (3 = 2) by decide, if_false, if_true]
theorem zev_4 {v : Option Value} (hk : zcode m pc = some (i, len, imm, a, b)) (hg : zgrp i a = 4) (hr : zret i (zinf m).2.2.2.2 st = some v) : zev (n + 1) sc d m pc ls st h = some (.inl v, h) := by
  rw [zev]; simp only [hk, hg, hr, show ¬ (4 = 0) by decide, show ¬ (4 = 1) by decide, show ¬ (4 = 2) by decide, show ¬ (4 = 3) by decide, if_false, if_true]
theorem zev_5 (hk : zcode m pc = some (i, len, imm, a, b)) (hg : zgrp i a = 5) (hl : h.length < 1000000 ∧ st.length = 0) : zev (n + 1) sc d m pc ls st h = some (.inr a, h ++ [(a, [])]) := by
  rw [zev]; simp only [hk, hg, if_pos hl, show ¬ (5 = 0) by decide, show ¬ (5 = 1) by decide, show ¬ (5 = 2) by decide, show ¬ (5 = 3) by decide, show ¬ (5 = 4) by decide, if_false, if_true]
theorem zev_6 {t : Nat} (hk : zcode m pc = some (i, len, imm, a, b)) (hg : zgrp i a = 6) (hp : zsw i pc st = some (t, st')) : zev (n + 1) sc d m pc ls st h = zev n sc d m t ls st' h := by
  rw [zev]; simp only [hk, hg, hp, show ¬ (6 = 0) by decide, show ¬ (6 = 1) by decide, show ¬ (6 = 2) by decide, show ¬ (6 = 3) by decide, show ¬ (6 = 4) by decide, show ¬ (6 = 5) by decide, if_false]
end
theorem zev_up : ∀ (n : Nat) {d d' m pc : Nat} {sc : zScr} {ls : zLs} {st : List Value} {h : zHp} {x : zRes × zHp}, zev n sc d m pc ls st h = some x → d ≤ d' → zev (n + 1) sc d' m pc ls st h = some x
  | 0, _, _, _, _, _, _, _, _, _, hz, _ => by simp [zev] at hz
  | n + 1, d, d', m, pc, sc, ls, st, h, x, hz, hd => by
    obtain ⟨i, len, imm, a, b, hk, hz⟩ := zev_step hz
    rcases hz with ⟨hg, ls', st2, hp, hz⟩ | ⟨hg, t, st2, hp, hz⟩ | ⟨hg, h2, st2, hp, hz⟩ | ⟨hg, d0, rfl, hcond, hz⟩ | ⟨hg, v, hret, hxx⟩ | ⟨hg, hst0, hxx⟩ | ⟨hg, t, st2, hp, hz⟩
    · rw [zev_0 hk hg hp]; exact zev_up n hz hd
    · rw [zev_1 hk hg hp]; exact zev_up n hz hd
    · rw [zev_2 hk hg hp]; exact zev_up n hz hd
    · obtain ⟨d1, rfl⟩ : ∃ d1, d' = d1 + 1 := ⟨d' - 1, by omega⟩
      rcases hz with ⟨v, h1, hzc, hz⟩ | ⟨E, h1, hzc, hb7, ⟨t, k, hh, hk5, hclr, hz⟩ | ⟨hh, hxx⟩⟩
      · rw [zev_3 hk hg hcond (zev_up n hzc (by omega))]; exact zev_up n hz hd
      · rw [zev_3h hk hg hcond hb7 (zev_up n hzc (by omega)) hh ⟨hk5, hclr⟩]; exact zev_up n hz hd
      · rw [zev_3x hk hg hcond hb7 (zev_up n hzc (by omega)) hh, hxx]
    · rw [zev_4 hk hg hret, hxx]
    · rw [zev_5 hk hg hst0, hxx]
    · rw [zev_6 hk hg hp]; exact zev_up n hz hd
