/-! BRANCHES, SWITCHES, RETURNS -/
def ztgt (i : Instr) (pc a : Nat) : Bool := match i with
  | .ifCond _ o => decide ((pc : Int) + o = (a : Int))
  | .if_icmp _ o => decide ((pc : Int) + o = (a : Int))
  | .if_acmp _ o => decide ((pc : Int) + o = (a : Int))
  | .ifnull o => decide ((pc : Int) + o = (a : Int))
  | .ifnonnull o => decide ((pc : Int) + o = (a : Int))
  | .goto o => decide ((pc : Int) + o = (a : Int))
  | .tableswitch d _ _ offs => decide (0 ≤ (pc : Int) + d) && offs.all (fun o => decide (0 ≤ (pc : Int) + o))
  | _ => true
theorem zV.inj {em : Nat → Nat} {scb : Nat} {A : Nat → Prop} {ws : va_W} {x y x' y' : Value} (hD : va_D A ws) (hem : ¬ A (em 1)) (hx : zisr x = true) (hy : zisr y = true) (h1 : zV em scb ws x x') (h2 : zV em scb ws y y') : (x = y ↔ x' = y') := by
  constructor
  · rintro rfl
    cases x with
    | ref k =>
      obtain ⟨a, e, g1, rfl⟩ := h1
      obtain ⟨b, e2, g2, rfl⟩ := h2
      rw [g1] at g2; cases g2; rfl
    | null => have h1 : x' = .null := h1; have h2 : y' = .null := h2; rw [h1, h2]
    | retAddr k => have h1 : x' = _ := h1; have h2 : y' = _ := h2; rw [h1, h2]
    | int _ => simp [zisr] at hx
    | long _ => simp [zisr] at hx
    | float _ => simp [zisr] at hx
    | double _ => simp [zisr] at hx
  · intro he
    cases x with
    | ref k =>
      obtain ⟨a, e, g1, rfl⟩ := h1
      cases y with
      | ref j =>
        obtain ⟨b, e2, g2, rfl⟩ := h2
        cases he
        rw [hD.1 k j _ _ g1 g2 rfl]
      | null => have h2 : y' = .null := h2; rw [h2] at he; cases he
      | retAddr j =>
        have hj : j = 1 := by simpa [zisr] using hy
        subst hj
        have h2 : y' = .ref (em 1) := h2
        rw [h2] at he; cases he
        exact absurd (hD.2 k _ g1) hem
      | int _ => simp [zisr] at hy
      | long _ => simp [zisr] at hy
      | float _ => simp [zisr] at hy
      | double _ => simp [zisr] at hy
    | null =>
      have h1 : x' = .null := h1
      subst h1
      cases y with
      | ref j => obtain ⟨b, e2, g2, rfl⟩ := h2; cases he
      | null => rfl
      | retAddr j => have h2 : y' = .ref _ := h2; rw [h2] at he; cases he
      | int _ => simp [zisr] at hy
      | long _ => simp [zisr] at hy
      | float _ => simp [zisr] at hy
      | double _ => simp [zisr] at hy
    | retAddr k =>
      have hk : k = 1 := by simpa [zisr] using hx
      subst hk
      have h1 : x' = .ref (em 1) := h1
      subst h1
      cases y with
      | ref j =>
        obtain ⟨b, e2, g2, rfl⟩ := h2
        cases he
        exact absurd (hD.2 j _ g2) hem
      | null => have h2 : y' = .null := h2; rw [h2] at he; cases he
      | retAddr j =>
        have hj : j = 1 := by simpa [zisr] using hy
        subst hj; rfl
      | int _ => simp [zisr] at hy
      | long _ => simp [zisr] at hy
      | float _ => simp [zisr] at hy
      | double _ => simp [zisr] at hy
    | int _ => simp [zisr] at hx
    | long _ => simp [zisr] at hx
    | float _ => simp [zisr] at hx
    | double _ => simp [zisr] at hx
theorem zV.rf {em : Nat → Nat} {scb : Nat} {ws : va_W} {x x' : Value} (hx : zisr x = true) (h1 : zV em scb ws x x') : ∃ r : Option Nat, x' = va_rf r := by
  cases x with
  | ref k => obtain ⟨a, e, g1, rfl⟩ := h1; exact ⟨some a, rfl⟩
  | null => exact ⟨none, h1⟩
  | retAddr k => exact ⟨some _, h1⟩
  | int _ => simp [zisr] at hx
  | long _ => simp [zisr] at hx
  | float _ => simp [zisr] at hx
  | double _ => simp [zisr] at hx
theorem va_rf_inj {r q : Option Nat} (h : va_rf r = va_rf q) : r = q := by
  cases r <;> cases q <;> simp [va_rf] at h <;> simp [h]
section
variable {p : Program} {l : Launch} {e : Env} {R : Room} {s : State} {m : MethodId} {args : Array Value} {below : List Frame} {meth : Method} {c : Code} {H : Heap} {locs : List Loc} {cells slots : Nat} {Q : State → Prop}
variable {cc : ByteArray} {pc : Nat}
set_option maxHeartbeats 4000000 in
theorem z_br {em : Nat → Nat} {scb a : Nat} {A : Nat → Prop} {ws : va_W} {i : Instr} {t : Bool} {st st2 : List Value} {arr : Array Slot} {st' : List Value} (hx : p.tables.exec = Jvm.exec) (hb : c.code = cc)
    (hD : va_D A ws) (hem : ¬ A (em 1)) (hp : zbr i st = some (t, st2)) (hd : decode cc pc = .ok (i, zlen i)) (ht : ztgt i pc a = true) (hS : zSt em scb ws st st')
    (kk : ∀ (st2' : List Value), zSt em scb ws st2 st2' → W p l e R s m args below meth c H locs cells slots Q (F0 m (if t = true then a else pc + zlen i) arr st2')) :
    W p l e R s m args below meth c H locs cells slots Q (F0 m pc arr st') := by
  have kt : t = true → ∀ (st2' : List Value), zSt em scb ws st2 st2' → W p l e R s m args below meth c H locs cells slots Q (F0 m a arr st2') := fun h q hq => by
    have := kk q hq; rwa [if_pos h] at this
  have kf : t = false → ∀ (st2' : List Value), zSt em scb ws st2 st2' → W p l e R s m args below meth c H locs cells slots Q (F0 m (pc + zlen i) arr st2') := fun h q hq => by
    have := kk q hq; rwa [if_neg (by rw [h]; decide)] at this
  unfold zbr at hp
  split at hp
  · rename_i cnd o
    have ho : (pc : Int) + o = (a : Int) := of_decide_eq_true ht
    split at hp
    · cases hp
      obtain ⟨r', rfl, hr⟩ := hS.int
      cases cnd
      · exact lv_if_eq hx hb hd ho (fun q => kt (by simp [zcnd, q]) _ hr) (fun q => kf (by simp [zcnd, q]) _ hr)
      · exact lv_if_ne hx hb hd ho (fun q => kt (by simp [zcnd, q]) _ hr) (fun q => kf (by simpa [zcnd] using q) _ hr)
      · exact lv_if_lt hx hb hd ho (fun q => kt (by simpa [zcnd] using q) _ hr) (fun q => kf (by simpa [zcnd] using q) _ hr)
      · exact lv_if_ge hx hb hd ho (fun q => kt (by simpa [zcnd] using q) _ hr) (fun q => kf (by simpa [zcnd] using q) _ hr)
      · exact lv_if_gt hx hb hd ho (fun q => kt (by simpa [zcnd] using q) _ hr) (fun q => kf (by simpa [zcnd] using q) _ hr)
      · exact lv_if_le hx hb hd ho (fun q => kt (by simpa [zcnd] using q) _ hr) (fun q => kf (by simpa [zcnd] using q) _ hr)
    · cases hp
  · rename_i cnd o
    have ho : (pc : Int) + o = (a : Int) := of_decide_eq_true ht
    split at hp
    · cases hp
      obtain ⟨r1, rfl, hr1⟩ := hS.int
      obtain ⟨r', rfl, hr⟩ := hr1.int
      cases cnd
      · exact lv_icmp_eq hx hb hd ho (fun q => kt (by simp [zcnd, q]) _ hr) (fun q => kf (by simp [zcnd, q]) _ hr)
      · exact lv_icmp_ne hx hb hd ho (fun q => kt (by simp [zcnd, q]) _ hr) (fun q => kf (by simpa [zcnd] using q) _ hr)
      · exact lv_icmp_lt hx hb hd ho (fun q => kt (by simpa [zcnd] using q) _ hr) (fun q => kf (by simpa [zcnd] using q) _ hr)
      · exact lv_icmp_ge hx hb hd ho (fun q => kt (by simpa [zcnd] using q) _ hr) (fun q => kf (by simpa [zcnd] using q) _ hr)
      · exact lv_icmp_gt hx hb hd ho (fun q => kt (by simpa [zcnd] using q) _ hr) (fun q => kf (by simpa [zcnd] using q) _ hr)
      · exact lv_icmp_le hx hb hd ho (fun q => kt (by simpa [zcnd] using q) _ hr) (fun q => kf (by simpa [zcnd] using q) _ hr)
    · cases hp
  · rename_i cnd o
    have ho : (pc : Int) + o = (a : Int) := of_decide_eq_true ht
    split at hp
    · rename_i y x r
      split at hp
      · rename_i hxy
        obtain ⟨rfl, rfl⟩ := hxy
        cases hp
        obtain ⟨y', r1, rfl, hy, hr1⟩ := hS.any
        obtain ⟨x', r', rfl, hxx, hr⟩ := hr1.any
        have hy : y' = va_rf (some (em 2)) := hy
        have hxx : x' = va_rf (some (em 2)) := hxx
        subst hy hxx
        cases cnd
        · exact lv_acmp_eq hx hb hd ho (fun q => kt rfl _ hr) (fun q => absurd rfl q)
        · exact lv_acmp_ne hx hb hd ho (fun q => absurd rfl q) (fun q => kf rfl _ hr)
      split at hp
      · split at hp
        · rename_i hx1 hy1
          cases hp
          obtain ⟨y', r1, rfl, hy, hr1⟩ := hS.any
          obtain ⟨x', r', rfl, hxx, hr⟩ := hr1.any
          have hij := zV.inj hD hem hx1 hy1 hxx hy
          obtain ⟨rx, rfl⟩ := hxx.rf hx1
          obtain ⟨ry, rfl⟩ := hy.rf hy1
          have hio : x = y ↔ rx = ry := hij.trans ⟨va_rf_inj, fun h => by rw [h]⟩
          cases cnd
          · exact lv_acmp_eq hx hb hd ho (fun q => kt (by simpa using hio.mpr q) _ hr) (fun q => kf (by simpa using fun z => q (hio.mp z)) _ hr)
          · exact lv_acmp_ne hx hb hd ho (fun q => kt (by simpa using fun z => q (hio.mp z)) _ hr) (fun q => kf (by simpa using hio.mpr q) _ hr)
        · cases hp
      · cases hp
    · cases hp
  · rename_i o
    have ho : (pc : Int) + o = (a : Int) := of_decide_eq_true ht
    split at hp
    · cases hp
      obtain ⟨y', r1, rfl, ⟨b, e2, -, rfl⟩, hr1⟩ := hS.any
      exact lv_ifnull hx hb hd (kf rfl _ hr1)
    · cases hp
      obtain ⟨y', r1, rfl, hy, hr1⟩ := hS.any
      have hy : y' = .null := hy
      subst hy
      exact lv_ifnullN hx hb hd ho (kt rfl _ hr1)
    · cases hp
  · rename_i o
    have ho : (pc : Int) + o = (a : Int) := of_decide_eq_true ht
    split at hp
    · cases hp
      obtain ⟨y', r1, rfl, ⟨b, e2, -, rfl⟩, hr1⟩ := hS.any
      exact lv_ifnonnull hx hb hd ho (kt rfl _ hr1)
    · cases hp
      obtain ⟨y', r1, rfl, hy, hr1⟩ := hS.any
      have hy : y' = .null := hy
      subst hy
      exact lv_ifnonnullN hx hb hd (kf rfl _ hr1)
    · cases hp
  · rename_i o
    have ho : (pc : Int) + o = (a : Int) := of_decide_eq_true ht
    cases hp
    exact lv_goto hx hb hd ho (kt rfl _ hS)
  · cases hp
theorem z_sw {em : Nat → Nat} {scb t : Nat} {ws : va_W} {i : Instr} {len : Nat} {st st2 : List Value} {arr : Array Slot} {st' : List Value} (hx : p.tables.exec = Jvm.exec) (hb : c.code = cc)
    (hp : zsw i pc st = some (t, st2)) (hd : decode cc pc = .ok (i, len)) (ht : ztgt i pc 0 = true) (hS : zSt em scb ws st st')
    (kk : ∀ (st2' : List Value), zSt em scb ws st2 st2' → W p l e R s m args below meth c H locs cells slots Q (F0 m t arr st2')) :
    W p l e R s m args below meth c H locs cells slots Q (F0 m pc arr st') := by
  unfold zsw at hp
  split at hp
  · rename_i d lo hi offs
    split at hp
    · rename_i x r
      obtain ⟨r', rfl, hr⟩ := hS.int
      simp only [ztgt, Bool.and_eq_true, decide_eq_true_eq, Array.all_eq_true] at ht
      split at hp
      · rename_i hx1
        cases hp
        exact lv_tableOut hx hb hd hx1 (by omega) (kk _ hr)
      · rename_i hx1
        split at hp
        · rename_i o ho
          cases hp
          obtain ⟨hlt, hoe⟩ := Array.getElem?_eq_some_iff.mp ho
          have h0 := ht.2 _ hlt
          rw [hoe] at h0
          exact lv_tableIn hx hb hd (fun z => hx1 (Or.inl z)) (fun z => hx1 (Or.inr z)) ho (by omega) (kk _ hr)
        · cases hp
    · cases hp
  · cases hp
end
