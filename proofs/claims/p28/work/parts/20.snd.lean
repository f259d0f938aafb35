/-! SOUNDNESS: what the logical machine does, the real one does -/
theorem zgetf_eq {a b : Nat} {h h2 : zHp} {st st2 : List Value} (hp : zgetf a b h st = some (h2, st2)) : h2 = h := by
  unfold zgetf at hp
  split at hp
  · split at hp
    · split at hp
      · split at hp
        · cases hp; rfl
        · cases hp
      · cases hp
    · cases hp
  · cases hp
theorem zald_eq {k : Nat} {sc : zScr} {h h2 : zHp} {st st2 : List Value} (hp : zald k sc h st = some (h2, st2)) : h2 = h := by
  unfold zald at hp
  split at hp
  · split at hp
    · split at hp
      · split at hp
        · cases hp; rfl
        · cases hp
      · cases hp
    · cases hp
  · split at hp
    · split at hp
      · split at hp
        · split at hp
          · cases hp; rfl
          · cases hp
        · cases hp
      · cases hp
    · cases hp
  · cases hp
theorem zalen_eq {sc : zScr} {h h2 : zHp} {st st2 : List Value} (hp : zalen sc h st = some (h2, st2)) : h2 = h := by
  unfold zalen at hp
  split at hp
  · split at hp
    · cases hp; rfl
    · cases hp
  · cases hp; rfl
  · split at hp
    · split at hp
      · cases hp; rfl
      · cases hp
    · cases hp
  · cases hp
theorem zcast_eq {a : Nat} {h h2 : zHp} {st st2 : List Value} (hp : zcast a h st = some (h2, st2)) : h2 = h := by
  unfold zcast at hp
  split at hp
  · split at hp
    · split at hp
      · cases hp; rfl
      · cases hp
    · cases hp
  · cases hp
theorem zcell_eq {sc : zScr} {h h2 : zHp} {st st2 : List Value} (hp : zcell sc h st = some (h2, st2)) : h2 = h := by
  unfold zcell at hp
  split at hp
  · split at hp
    · split at hp
      · cases hp; rfl
      · split at hp
        · cases hp; rfl
        · cases hp
    · cases hp
  · cases hp
theorem zheap_mono {sc : zScr} {i : Instr} {a b : Nat} {h h2 : zHp} {st st2 : List Value} (hp : zheap sc i a b h st = some (h2, st2)) : h.length ≤ h2.length ∧ zsz h ≤ zsz h2 := by
  have eq0 : h2 = h → h.length ≤ h2.length ∧ zsz h ≤ zsz h2 := fun e => by rw [e]; exact ⟨Nat.le_refl _, Nat.le_refl _⟩
  have eq1 : (h2.length = h.length ∧ zsz h2 = zsz h) → h.length ≤ h2.length ∧ zsz h ≤ zsz h2 := fun e => by rw [e.1, e.2]; exact ⟨Nat.le_refl _, Nat.le_refl _⟩
  have eq2 : (∃ ob, h2 = h ++ [ob]) → h.length ≤ h2.length ∧ zsz h ≤ zsz h2 := fun ⟨ob, e⟩ => by rw [e, zsz_push]; simp
  unfold zheap at hp
  split at hp
  · exact eq0 (zgetf_eq hp)
  · exact eq1 (zputf_len hp)
  · cases hp; exact eq0 rfl
  · cases hp; exact eq0 rfl
  · split at hp
    · exact eq1 (zbuilt_len hp)
    · cases hp
  · exact eq0 (zald_eq hp)
  · exact eq0 (zald_eq hp)
  · exact eq0 (zald_eq hp)
  · exact eq0 (zald_eq hp)
  · exact eq1 (zast_len hp)
  · exact eq1 (zast_len hp)
  · exact eq1 (zast_len hp)
  · exact eq1 (zast_len hp)
  · exact eq0 (zalen_eq hp)
  · unfold znew at hp
    split at hp
    · split at hp
      · cases hp; exact eq2 ⟨_, rfl⟩
      · cases hp
    · cases hp
  · obtain ⟨n, r, -, -, -, hh⟩ := znewa_spec hp
    exact eq2 ⟨_, hh⟩
  · obtain ⟨n, r, -, -, -, hh⟩ := znewa_spec hp
    exact eq2 ⟨_, hh⟩
  · exact eq0 (zcast_eq hp)
  · split at hp
    · exact eq1 (zbuilt_len hp)
    · cases hp
  · split at hp
    · split at hp
      · exact eq0 (zcell_eq hp)
      · cases hp
    · split at hp
      · exact eq1 (zbuilt_len hp)
      · cases hp
  · cases hp
/-- one step, by its kind -/
theorem zev_step {n d m pc : Nat} {sc : zScr} {ls : zLs} {st : List Value} {h : zHp} {x : zRes × zHp} (hz : zev (n + 1) sc d m pc ls st h = some x) : ∃ i len imm a b, zcode m pc = some (i, len, imm, a, b) ∧
    ((zgrp i a = 0 ∧ ∃ ls' st', zpure i imm ls st = some (ls', st') ∧ zev n sc d m (pc + len) ls' st' h = some x) ∨
     (zgrp i a = 1 ∧ ∃ t st', zbr i st = some (t, st') ∧ zev n sc d m (if t = true then a else pc + len) ls st' h = some x) ∨
     (zgrp i a = 2 ∧ ∃ h' st', zheap sc i a b h st = some (h', st') ∧ zev n sc d m (pc + len) ls st' h' = some x) ∨
     (zgrp i a = 3 ∧ ∃ d', d = d' + 1 ∧ ((zinf a).1 ≤ st.length ∧ (st.drop (zinf a).1).length ≤ 4 ∧ ((st.take (zinf a).1).reverse.all zcat1) = true ∧ (zinf a).1 ≤ (zinf a).2.1 ∧ zrecv h (zinf a).2.2.1 (zinf a).2.2.2.1 (st.take (zinf a).1).reverse = true) ∧
       ((∃ v h1, zev n none d' a 0 (zent (st.take (zinf a).1).reverse (zinf a).2.1) [] h = some (.inl v, h1) ∧ zev n sc (d' + 1) m (pc + len) ls (v.toList ++ st.drop (zinf a).1) h1 = some x) ∨
        (∃ E h1, zev n none d' a 0 (zent (st.take (zinf a).1).reverse (zinf a).2.1) [] h = some (.inr E, h1) ∧ b ≠ 7 ∧ ((∃ t k, zhand m pc E = some (t, k) ∧ k < ls.length ∧ zclr ls k = true ∧ zev n sc (d' + 1) m t (ls.set k none) [] h1 = some x) ∨ (zhand m pc E = none ∧ x = (.inr E, h1)))))) ∨
     (zgrp i a = 4 ∧ ∃ v, zret i (zinf m).2.2.2.2 st = some v ∧ x = (.inl v, h)) ∨
     (zgrp i a = 5 ∧ (h.length < 1000000 ∧ st.length = 0) ∧ x = (.inr a, h ++ [(a, [])])) ∨
     (zgrp i a = 6 ∧ ∃ t st', zsw i pc st = some (t, st') ∧ zev n sc d m t ls st' h = some x)) := by
  have hg6 : ∀ (i : Instr) (a : Nat), zgrp i a = 0 ∨ zgrp i a = 1 ∨ zgrp i a = 2 ∨ zgrp i a = 3 ∨ zgrp i a = 4 ∨ zgrp i a = 5 ∨ zgrp i a = 6 := by
    intro i a
    cases i <;> simp only [zgrp] <;> first | (simp; done) | (split <;> simp)
  unfold zev at hz
  split at hz
  · cases hz
  · rename_i i len imm a b hk
    refine ⟨i, len, imm, a, b, hk, ?_⟩
    split at hz
    · rename_i hg
      split at hz
      · exact Or.inl ⟨hg, _, _, by assumption, hz⟩
      · cases hz
    split at hz
    · rename_i hg
      split at hz
      · exact Or.inr (Or.inl ⟨hg, _, _, by assumption, hz⟩)
      · cases hz
    split at hz
    · rename_i hg
      split at hz
      · exact Or.inr (Or.inr (Or.inl ⟨hg, _, _, by assumption, hz⟩))
      · cases hz
    split at hz
    · rename_i hg
      refine Or.inr (Or.inr (Or.inr (Or.inl ⟨hg, ?_⟩)))
      split at hz
      · cases hz
      · rename_i d'
        split at hz
        · rename_i hcond
          refine ⟨d', rfl, hcond, ?_⟩
          split at hz
          · cases hz
          · exact Or.inl ⟨_, _, by assumption, hz⟩
          · rename_i E h1 hc
            split at hz
            · cases hz
            · rename_i hb7
              refine Or.inr ⟨E, h1, hc, hb7, ?_⟩
              split at hz
              · rename_i t k hh
                split at hz
                · rename_i hkl
                  exact Or.inl ⟨t, k, hh, hkl.1, hkl.2, hz⟩
                · cases hz
              · rename_i hh
                cases hz
                exact Or.inr ⟨hh, rfl⟩
        · cases hz
    split at hz
    · rename_i hg
      split at hz
      · cases hz
        exact Or.inr (Or.inr (Or.inr (Or.inr (Or.inl ⟨hg, _, by assumption, rfl⟩))))
      · cases hz
    split at hz
    · rename_i hg
      split at hz
      · rename_i hl
        cases hz
        exact Or.inr (Or.inr (Or.inr (Or.inr (Or.inr (Or.inl ⟨hg, hl, rfl⟩)))))
      · cases hz
    · split at hz
      · refine Or.inr (Or.inr (Or.inr (Or.inr (Or.inr (Or.inr ⟨?_, _, _, by assumption, hz⟩)))))
        rcases hg6 i a with q | q | q | q | q | q | q <;> first | exact q | contradiction
      · cases hz
theorem zev_mono : ∀ (n : Nat) {d m pc : Nat} {sc : zScr} {ls : zLs} {st : List Value} {h : zHp} {r : zRes} {h' : zHp}, zev n sc d m pc ls st h = some (r, h') → h.length ≤ h'.length ∧ zsz h ≤ zsz h'
  | 0, _, _, _, _, _, _, _, _, _, hz => by simp [zev] at hz
  | n + 1, _, _, _, _, _, _, _, _, _, hz => by
    obtain ⟨i, len, imm, a, b, -, hz⟩ := zev_step hz
    rcases hz with ⟨-, ls', st', -, hz⟩ | ⟨-, t, st', -, hz⟩ | ⟨-, h2, st', hh, hz⟩ | ⟨-, d', -, -, hz⟩ | ⟨-, v, -, hz⟩ | ⟨-, -, hz⟩ | ⟨-, t, st', -, hz⟩
    · exact zev_mono n hz
    · exact zev_mono n hz
    · have h1 := zheap_mono hh
      have h2 := zev_mono n hz
      omega
    · rcases hz with ⟨v, h1, q1, q2⟩ | ⟨E, h1, q1, -, ⟨t, k, -, -, -, q2⟩ | ⟨-, q2⟩⟩
      · have g1 := zev_mono n q1
        have g2 := zev_mono n q2
        omega
      · have g1 := zev_mono n q1
        have g2 := zev_mono n q2
        omega
      · cases q2
        exact zev_mono n q1
    · cases hz; exact ⟨Nat.le_refl _, Nat.le_refl _⟩
    · cases hz
      rw [zsz_push]
      simp
    · exact zev_mono n hz
