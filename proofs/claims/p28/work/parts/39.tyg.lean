/-! TYPED STEPS over the heap, many at once -/
def zpf (c i b : Nat) (v : zW) (I : zIn) : Option zIn := if (c = 4 ∧ b = 1) ∨ (c = 5 ∧ b = 0) then none else match ((zfty[c]?).getD [])[b]?.getD 9 with
  | 0 => (match v with | .inl x => some (zset I c i b x) | _ => none)
  | 1 => (match v with | .inl x => if x = 0 ∨ x = 1 then some (zset I c i b x) else none | _ => none)
  | _ => none
def zhW (i : Instr) (a b : Nat) (st : List zW) (I : zIn) : Option (List zW × zIn) := match i with
  | .getfield _ => (match st with
    | .inr (.inr (.inl (u, w))) :: r => if zct u = a then (if a < 8 then (match (zfs u w (I u w))[b]? with | some v => some (v :: r, I) | none => none) else none) else none
    | _ => none)
  | .putfield _ => (match st with
    | v :: .inr (.inr (.inl (u, w))) :: r => if zct u = a then (if a < 8 then (match zpf u w b v I with | some I' => some (r, I') | none => none) else none) else none
    | _ => none)
  | .arraylength => (match st with
    | .inr (.inr (.inl (u, w))) :: r => if u = 31 then some (.inl (Int32.ofNat (zas31 w)) :: r, I) else none
    | _ => none)
  | .checkcast _ => (match st with
    | .inr (.inr (.inl (u, w))) :: r => if zct u = a then some (.inr (.inr (.inl (u, w))) :: r, I) else none
    | _ => none)
  | .invokestatic _ => if st.length ≤ 12 then (
    if a = 2001 then (match st with | .inl y :: .inl x :: r => some (.inl (if x < y then y else x) :: r, I) | _ => none) else
    if a = 2002 then (match st with | .inl y :: .inl x :: r => some (.inl (if y < x then y else x) :: r, I) | _ => none) else
    if a = 2003 then (match st with | .inl x :: r => some (.inl (if 0 ≤ x then x else 0 - x) :: r, I) | _ => none) else none) else none
  | _ => none
/-- size and isEmpty -/
def zcW (a : Nat) (st : List zW) (L : zLi) : Option (List zW) := match st with
  | .inr (.inr (.inl (u, w))) :: r => if zct u = 8 then (if r.length ≤ 4 then (
    if a = 3 then some (.inl (Int32.ofNat (L u w).length) :: r) else
    if a = 15 then some (.inl (if (L u w).length = 0 then 1 else 0) :: r) else none) else none) else none
  | _ => none
def zgo : Nat → Nat → Nat → zWs → List zW → zIn → zLi → Option (Nat × (zWs × (List zW × zIn)))
  | 0, _, pc, ls, st, I, _ => some (pc, ls, st, I)
  | k + 1, m, pc, ls, st, I, L => match zcode m pc with
    | none => none
    | some (i, len, imm, a, b) => match zgrp i a with
      | 0 => (match zpW i imm ls st with
        | none => none
        | some (ls', st') => zgo k m (pc + len) ls' st' I L)
      | 1 => (match i with
        | .goto _ => zgo k m a ls st I L
        | _ => none)
      | 2 => (match zhW i a b st I with
        | none => none
        | some (st', I') => zgo k m (pc + len) ls st' I' L)
      | 3 => (match zcW a st L with
        | none => none
        | some st' => zgo k m (pc + len) ls st' I L)
      | _ => none
theorem zbo_01 (x : Int32) : zbo x = 0 ∨ zbo x = 1 := by
  unfold zbo
  split
  · exact Or.inl rfl
  · exact Or.inr rfl
theorem zbo_id {x : Int32} (h : x = 0 ∨ x = 1) : zbo x = x := by
  rcases h with rfl | rfl <;> rfl
theorem zset_other {I : zIn} {c i f : Nat} {x : Int32} : ∀ c' i', ¬ (c' = c ∧ i' = i) → zset I c i f x c' i' = I c' i' := by
  intro c' i' h
  funext f'
  unfold zset
  rw [if_neg (fun e => h ⟨e.1, e.2.1⟩)]
theorem zset_self {I : zIn} {c i f : Nat} {x : Int32} : zset I c i f x c i = fun f' => if f' = f then x else I c i f' := by
  funext f'
  unfold zset
  simp
/-- storing an int or a boolean into a field is storing into its numbers -/
theorem zfs_set {c i b : Nat} {r : Nat → Int32} {x : Int32} (hc : c < 8) (hne : ¬ ((c = 4 ∧ b = 1) ∨ (c = 5 ∧ b = 0))) (hb : ((zfty[c]?).getD [])[b]?.getD 9 = 0 ∨ (((zfty[c]?).getD [])[b]?.getD 9 = 1 ∧ (x = 0 ∨ x = 1))) : zfs c i (fun f => if f = b then x else r f) = (zfs c i r).set b (.inl x) ∧ b < (zfs c i r).length := by
  have h0 : ∀ n, n ≤ b → ∃ j, b = n + j := fun n hn => ⟨b - n, by omega⟩
  match c, hc with
  | 0, _ =>
    match b, hb with
    | 0, hb => exact absurd hb (by simp [zfty])
    | 1, hb | 2, hb | 3, hb => exact ⟨rfl, (by decide : _ < 4)⟩
    | n + 4, hb => exact absurd hb (by simp [zfty])
  | 1, _ =>
    match b, hb with
    | 0, hb => exact absurd hb (by simp [zfty])
    | 1, hb | 2, hb | 3, hb | 4, hb | 5, hb | 6, hb | 7, hb | 8, hb | 9, hb | 10, hb | 11, hb | 12, hb => exact ⟨rfl, (by decide : _ < 15)⟩
    | 13, hb | 14, hb =>
      have hx : x = 0 ∨ x = 1 := by simpa [zfty] using hb
      refine ⟨?_, (by decide : _ < 15)⟩
      simp [zfs, zbo_id hx]
    | n + 15, hb => exact absurd hb (by simp [zfty])
  | 2, _ =>
    match b, hb with
    | 0, hb | 1, hb | 2, hb | 3, hb | 4, hb => exact ⟨rfl, (by decide : _ < 5)⟩
    | n + 5, hb => exact absurd hb (by simp [zfty])
  | 3, _ =>
    match b, hb with
    | 0, hb => exact absurd hb (by simp [zfty])
    | 1, hb | 2, hb | 3, hb => exact ⟨rfl, (by decide : _ < 4)⟩
    | n + 4, hb => exact absurd hb (by simp [zfty])
  | 4, _ =>
    match b, hb with
    | 0, hb => exact absurd hb (by simp [zfty])
    | 1, hb => exact absurd (Or.inl ⟨rfl, rfl⟩) hne
    | 2, hb | 3, hb | 4, hb => exact ⟨rfl, (by decide : _ < 6)⟩
    | 5, hb =>
      have hx : x = 0 ∨ x = 1 := by simpa [zfty] using hb
      refine ⟨?_, (by decide : _ < 6)⟩
      simp [zfs, zbo_id hx]
    | n + 6, hb => exact absurd hb (by simp [zfty])
  | 5, _ =>
    match b, hb with
    | 0, hb => exact absurd (Or.inr ⟨rfl, rfl⟩) hne
    | 1, hb | 2, hb | 3, hb | 4, hb | 11, hb | 12, hb => exact ⟨rfl, (by decide : _ < 13)⟩
    | 5, hb | 6, hb | 7, hb | 8, hb => exact absurd hb (by simp [zfty])
    | 9, hb | 10, hb =>
      have hx : x = 0 ∨ x = 1 := by simpa [zfty] using hb
      refine ⟨?_, (by decide : _ < 13)⟩
      simp [zfs, zbo_id hx]
    | n + 13, hb => exact absurd hb (by simp [zfty])
  | 6, _ =>
    match b, hb with
    | 0, hb | 1, hb | 2, hb | 3, hb | 4, hb | 5, hb => exact absurd hb (by simp [zfty])
    | 7, hb | 8, hb => exact ⟨rfl, (by decide : _ < 9)⟩
    | 6, hb =>
      have hx : x = 0 ∨ x = 1 := by simpa [zfty] using hb
      refine ⟨?_, (by decide : _ < 9)⟩
      simp [zfs, zbo_id hx]
    | n + 9, hb => exact absurd hb (by simp [zfty])
  | 7, _ =>
    match b, hb with
    | 0, hb | 1, hb | 2, hb | 5, hb | 6, hb | 11, hb | 28, hb | 42, hb | 47, hb | 48, hb | 49, hb | 50, hb => exact ⟨rfl, (by decide : _ < 52)⟩
    | 4, hb | 7, hb | 8, hb | 9, hb | 10, hb | 12, hb | 13, hb | 14, hb | 15, hb | 16, hb | 17, hb | 18, hb | 19, hb | 20, hb | 21, hb | 22, hb | 23, hb | 24, hb | 25, hb | 26, hb | 27, hb | 29, hb | 30, hb | 31, hb | 32, hb | 33, hb | 34, hb | 35, hb | 36, hb | 37, hb | 38, hb | 39, hb | 40, hb | 41, hb | 43, hb | 44, hb | 45, hb | 46, hb | 51, hb => exact absurd hb (by simp [zfty])
    | 3, hb =>
      have hx : x = 0 ∨ x = 1 := by simpa [zfty] using hb
      refine ⟨?_, (by decide : _ < 52)⟩
      simp [zfs, zbo_id hx]
    | n + 52, hb => exact absurd hb (by simp [zfty])
  | n + 8, h => omega
theorem zpf_ok {c i b : Nat} {v : zW} {I I' : zIn} (h : zpf c i b v I = some I') : ∃ x, v = .inl x ∧ I' = zset I c i b x ∧ ¬ ((c = 4 ∧ b = 1) ∨ (c = 5 ∧ b = 0)) ∧ (((zfty[c]?).getD [])[b]?.getD 9 = 0 ∨ (((zfty[c]?).getD [])[b]?.getD 9 = 1 ∧ (x = 0 ∨ x = 1))) := by
  unfold zpf at h
  split at h
  · cases h
  rename_i hne
  split at h
  · rename_i h0
    split at h
    · cases h; exact ⟨_, rfl, rfl, hne, Or.inl h0⟩
    · cases h
  · rename_i h1
    split at h
    · split at h
      · rename_i hx
        cases h; exact ⟨_, rfl, rfl, hne, Or.inr ⟨h1, hx⟩⟩
      · cases h
    · cases h
  · cases h
theorem zfs_ok {c i : Nat} {r : Nat → Int32} {b : Nat} {x : Int32} {I : zIn} (h : ∀ w ∈ zfs c i r, zok I w) : ∀ w ∈ (zfs c i r).set b (.inl x), zok I w := by
  intro w hw
  rcases List.mem_or_eq_of_mem_set hw with h1 | h1
  · exact h w h1
  · rw [h1]; trivial
theorem zct_8 {c : Nat} (h : zct c < 8) : zct c = c ∧ c < 8 := by
  unfold zct at h ⊢
  split at h
  · rename_i h1; exact ⟨by rw [if_pos h1], h1⟩
  · exfalso
    repeat' split at h
    all_goals omega
theorem zRep.get {lc : zAd} {I : zIn} {L : zLi} {h : zHp} {g c i : Nat} (hr : zRep lc I L h g) (hx : I 99 c i = 1) (h8 : zct c ≠ 8) : h[lc c i]? = some (zct c, (zfs c i (I c i)).map (ztr lc)) ∧ ∀ w ∈ zfs c i (I c i), zok I w := by
  obtain ⟨cap, er, h1, _⟩ := hr
  exact (h1.1 c i hx).2.2 h8
theorem zRep.upd {lc : zAd} {I I' : zIn} {L : zLi} {h : zHp} {g c i : Nat} (hr : zRep lc I L h g) (hx : I 99 c i = 1) (h8 : zct c ≠ 8) (hI : ∀ c' i', ¬ (c' = c ∧ i' = i) → I' c' i' = I c' i') (hc : c ≠ 99) (hok : ∀ w ∈ zfs c i (I' c i), zok I w) (hlen : (zfs c i (I' c i)).length = (zfs c i (I c i)).length) : zRep lc I' L (h.set (lc c i) (zct c, (zfs c i (I' c i)).map (ztr lc))) g := by
  have hcell := (hr.get hx h8).1
  obtain ⟨cap, er, h1, h2⟩ := hr
  refine ⟨cap, er, h1.upd hx h8 hI hc hok, ?_⟩
  rw [List.length_set, zsz_set hcell (by simp [zosz, hlen])]
  exact h2
theorem zRep.nlen {lc : zAd} {I : zIn} {L : zLi} {h : zHp} {g c i : Nat} (hr : zRep lc I L h g) (hx : I 99 c i = 1) (h8 : zct c = 8) : (L c i).length ≤ 1000 := by
  obtain ⟨cap, er, h1, _⟩ := hr
  obtain ⟨_, _⟩ := h1.1 c i hx
  obtain ⟨_, hcap, ⟨mc, ⟨_, a, _⟩ | ⟨t, _, _, a, _⟩⟩, _⟩ := (h1.1 c i hx).2.1 h8
  · have := congrArg List.length a; simp at this; simp [this]
  · simp at a; omega
theorem zRep.list {lc : zAd} {I : zIn} {L : zLi} {h : zHp} {g c i : Nat} (hr : zRep lc I L h g) (hx : I 99 c i = 1) (h8 : zct c = 8) : ∃ cap, zLst h (lc c i) cap ((L c i).map fun t => Value.ref (lc (zek c) t)) := by
  obtain ⟨cap, er, h1, _⟩ := hr
  obtain ⟨_, hcap, h2, _⟩ := (h1.1 c i hx).2.1 h8
  exact ⟨_, h2.lst⟩
