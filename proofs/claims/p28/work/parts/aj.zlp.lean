/-! LEAST DRIVE: the best of a set of orders -/
def zzBe (R_ : List Nat → Prop) (dr : List Nat → Int32) (S_ : List Nat → Prop) (a_ b_ : Int32) : Prop := (b_ = a_ ∨ ∃ p_, S_ p_ ∧ R_ p_ ∧ b_ = dr p_) ∧ (∀ p_, S_ p_ → R_ p_ → ¬ b_ = -1 ∧ b_ ≤ dr p_) ∧ (¬ a_ = -1 → ¬ b_ = -1 ∧ b_ ≤ a_)
theorem zzBe.cg {R_ : List Nat → Prop} {dr : List Nat → Int32} {S_ S' : List Nat → Prop} {a_ b_ : Int32} (h_ : zzBe R_ dr S_ a_ b_) (hS_ : ∀ p_, S' p_ ↔ S_ p_) : zzBe R_ dr S' a_ b_ := by
  refine ⟨h_.1.imp id (fun ⟨p_, a_, b_⟩ => ⟨p_, (hS_ p_).mpr a_, b_⟩), fun p_ hp => h_.2.1 p_ ((hS_ p_).mp hp), h_.2.2⟩
theorem zzBe.no {R_ : List Nat → Prop} {dr : List Nat → Int32} {S_ : List Nat → Prop} {a_ : Int32} (h_ : ∀ p_, ¬ S_ p_) : zzBe R_ dr S_ a_ a_ := ⟨Or.inl rfl, fun p_ hp => absurd hp (h_ p_), fun e_ => ⟨e_, Int32.le_refl _⟩⟩
theorem zzBe.trans {R_ : List Nat → Prop} {dr : List Nat → Int32} {S1 S2 : List Nat → Prop} {a_ b_ c_ : Int32} (h1 : zzBe R_ dr S1 a_ b_) (h2 : zzBe R_ dr S2 b_ c_) : zzBe R_ dr (fun p_ => S1 p_ ∨ S2 p_) a_ c_ := by
  refine ⟨?_, fun p_ hp hr => ?_, fun e_ => ?_⟩
  · rcases h2.1 with rfl | ⟨p_, x_, y_, z_⟩
    · rcases h1.1 with rfl | ⟨p_, x_, y_, z_⟩
      · exact Or.inl rfl
      · exact Or.inr ⟨p_, Or.inl x_, y_, z_⟩
    · exact Or.inr ⟨p_, Or.inr x_, y_, z_⟩
  · rcases hp with hp | hp
    · obtain ⟨x_, y_⟩ := h1.2.1 p_ hp hr
      obtain ⟨z_, w_⟩ := h2.2.2 x_
      exact ⟨z_, Int32.le_trans w_ y_⟩
    · exact h2.2.1 p_ hp hr
  · obtain ⟨x_, y_⟩ := h1.2.2 e_
    obtain ⟨z_, w_⟩ := h2.2.2 x_
    exact ⟨z_, Int32.le_trans w_ y_⟩
theorem zzBe.uq {R_ : List Nat → Prop} {dr : List Nat → Int32} {S_ : List Nat → Prop} {a_ b_ : Int32} (h1 : zzBe R_ dr S_ (-1) a_) (h2 : zzBe R_ dr S_ (-1) b_) : a_ = b_ := by
  by_cases ha_ : a_ = -1
  · rcases h2.1 with rfl | ⟨p_, x_, y_, z_⟩
    · exact ha_
    · exact absurd ha_ (h1.2.1 p_ x_ y_).1
  · obtain ⟨p_, x_, y_, z_⟩ := h1.1.resolve_left ha_
    have hb_ := h2.2.1 p_ x_ y_
    obtain ⟨p', x', y', z'⟩ := h2.1.resolve_left hb_.1
    have hc_ := h1.2.1 p' x' y'
    exact Int32.le_antisymm (by rw [z']; exact hc_.2) (by rw [z_]; exact hb_.2)
theorem zzBe.one {R_ : List Nat → Prop} {dr : List Nat → Int32} {S_ : List Nat → Prop} {l : List Nat} {a_ b_ : Int32} (hS_ : ∀ p_, S_ p_ ↔ p_ = l) (hd_ : ¬ dr l = -1) (hb_ : (R_ l ∧ (a_ = -1 ∨ dr l < a_) → b_ = dr l) ∧ (¬ (R_ l ∧ (a_ = -1 ∨ dr l < a_)) → b_ = a_)) : zzBe R_ dr S_ a_ b_ := by
  by_cases hc_ : R_ l ∧ (a_ = -1 ∨ dr l < a_)
  · rw [hb_.1 hc_]
    refine ⟨Or.inr ⟨l, (hS_ l).mpr rfl, hc_.1, rfl⟩, fun p_ hp _ => ?_, fun e_ => ⟨hd_, ?_⟩⟩
    · rw [(hS_ p_).mp hp]; exact ⟨hd_, Int32.le_refl _⟩
    · exact Int32.le_of_lt (hc_.2.resolve_left e_)
  · rw [hb_.2 hc_]
    refine ⟨Or.inl rfl, fun p_ hp hr => ?_, fun e_ => ⟨e_, Int32.le_refl _⟩⟩
    have hp' := (hS_ p_).mp hp
    subst hp'
    have h2 : ¬ (a_ = -1 ∨ dr p_ < a_) := fun e_ => hc_ ⟨hr, e_⟩
    exact ⟨fun e_ => h2 (Or.inl e_), Int32.not_lt.mp (fun e_ => h2 (Or.inr e_))⟩
theorem zzodd {x_ : Int32} : ¬ 2 * x_ = -1 := fun h_ => by
  have h2 : 2 * x_ * (-2147483648) = -1 * (-2147483648) := by rw [h_]
  have h3 : (2 : Int32) * (-2147483648) = 0 := by decide
  have h4 : 2 * x_ * (-2147483648) = x_ * (2 * (-2147483648)) := by rw [Int32.mul_comm 2 x_, Int32.mul_assoc]
  rw [h4, h3, Int32.mul_zero] at h2
  exact absurd h2 (by decide)
/-- the orders that keep l's first f stops, and no drop before its pick -/
def zzS0 (f_ : Nat) (l p_ : List Nat) : Prop := p_.Perm l ∧ p_.take f_ = l.take f_ ∧ ∀ k_ s_, f_ ≤ k_ → p_[k_]? = some s_ → ¬ s_ % 2 = 0 → ∀ j_, p_[j_]? = some (2 * (s_ / 2)) → j_ < k_
theorem zzfndn {t_ : Nat} : ∀ (l : List Nat) (i_ : Nat), ¬ t_ ∈ l → zfnd t_ l i_ = -1
  | [], _, _ => rfl
  | s_ :: l, i_, h_ => by
    unfold zfnd
    rw [if_neg (show ¬ s_ = t_ from fun e_ => h_ (by rw [e_]; exact List.mem_cons_self))]
    exact zzfndn l (i_ + 1) (fun hm_ => h_ (List.mem_cons_of_mem _ hm_))
theorem zzcan {l : List Nat} {f_ s_ : Nat} (hn : l.Nodup) (hl : l.length ≤ 900) (hf : f_ ≤ 900) : (s_ % 2 = 0 ∨ zfnd (2 * (s_ / 2)) l 0 < Int32.ofNat f_) ↔ (s_ % 2 = 0 ∨ ∀ j_, l[j_]? = some (2 * (s_ / 2)) → j_ < f_) := by
  refine or_congr Iff.rfl ?_
  by_cases hm_ : 2 * (s_ / 2) ∈ l
  · obtain ⟨h1, h2⟩ := zfnd_pos l 0 hm_
    have hlt := (List.getElem?_eq_some_iff.mp h2).1
    rw [h1, Nat.zero_add, zilt (by omega) (by omega)]
    constructor
    · intro hlf j_ hj
      have : j_ = zpos (2 * (s_ / 2)) l := (List.getElem?_inj (List.getElem?_eq_some_iff.mp hj).1 hn).mp (hj.trans h2.symm)
      omega
    · intro hall
      exact hall _ h2
  · rw [zzfndn l 0 hm_]
    constructor
    · intro _ j_ hj
      exact absurd (List.mem_of_getElem? hj) hm_
    · intro _
      exact Int32.lt_of_lt_of_le (show (-1 : Int32) < 0 by decide) (zige (by omega))
theorem zzswp {l : List Nat} {f_ i_ : Nat} (hf : f_ < l.length) (hi_ : i_ < l.length) : (zswp l f_ i_).Perm l ∧ (f_ ≤ i_ → (zswp l f_ i_).take (f_ + 1) = l.take f_ ++ [l[i_]]) := by
  have hz : zswp l f_ i_ = (l.set f_ l[i_]).set i_ l[f_] := by
    unfold zswp; rw [List.getElem?_eq_getElem hf, List.getElem?_eq_getElem hi_]
  rw [hz]
  refine ⟨?_, fun hfi => ?_⟩
  · exact List.set_set_perm hf hi_
  · have h1 : ((l.set f_ l[i_]).set i_ l[f_]).take (f_ + 1) = (l.set f_ l[i_]).take (f_ + 1) ∨ i_ = f_ := by
      by_cases e_ : i_ = f_
      · exact Or.inr e_
      · left
        rw [List.take_set, List.set_eq_of_length_le (by rw [List.length_take]; omega)]
    have h2 : (l.set f_ l[i_]).take (f_ + 1) = l.take f_ ++ [l[i_]] := by
      rw [List.take_add_one, List.take_set, List.set_eq_of_length_le (by rw [List.length_take]; omega), List.getElem?_set_self hf]
      rfl
    rcases h1 with h1 | rfl
    · rw [h1, h2]
    · rw [List.set_set]
      have := h2
      exact this
theorem zzS0_leaf {f_ : Nat} {l p_ : List Nat} (hf : l.length ≤ f_) : zzS0 f_ l p_ ↔ p_ = l := by
  constructor
  · rintro ⟨h1, h2, _⟩
    have hl := h1.length_eq
    rw [List.take_of_length_le (by omega), List.take_of_length_le (by omega)] at h2
    exact h2
  · rintro rfl
    refine ⟨List.Perm.refl _, rfl, fun k_ s_ hk hs => ?_⟩
    rw [List.getElem?_eq_none (by omega)] at hs
    exact absurd hs (by simp)
theorem zzS0_step {f_ : Nat} {l p_ : List Nat} (hn : l.Nodup) (hf : f_ < l.length) : zzS0 f_ l p_ ↔ ∃ i_ s_, f_ ≤ i_ ∧ l[i_]? = some s_ ∧ (s_ % 2 = 0 ∨ ∀ j_, l[j_]? = some (2 * (s_ / 2)) → j_ < f_) ∧ zzS0 (f_ + 1) (zswp l f_ i_) p_ := by
  constructor
  · rintro ⟨h1, h2, h3⟩
    have hpl := h1.length_eq
    have hpn : p_.Nodup := h1.nodup_iff.mpr hn
    obtain ⟨s_, hs⟩ : ∃ s_, p_[f_]? = some s_ := ⟨_, List.getElem?_eq_getElem (by omega)⟩
    have hsm : s_ ∈ l := h1.mem_iff.mp (List.mem_of_getElem? hs)
    obtain ⟨i_, hi_, ei⟩ := List.getElem_of_mem hsm
    have hpre : ∀ j_, j_ < f_ → p_[j_]? = l[j_]? := fun j_ hj => by
      have := congrArg (fun x_ => x_[j_]?) h2
      simpa [List.getElem?_take, hj] using this
    have hfi : f_ ≤ i_ := Nat.le_of_not_lt (fun hlt => by
      have e1_ := hpre i_ hlt
      rw [List.getElem?_eq_getElem hi_, ei, ← hs] at e1_
      have := (List.getElem?_inj (by omega) hpn).mp e1_
      omega)
    refine ⟨i_, s_, hfi, by rw [List.getElem?_eq_getElem hi_, ei], ?_, ?_⟩
    · by_cases he : s_ % 2 = 0
      · exact Or.inl he
      · refine Or.inr (fun j_ hj => ?_)
        have hm_ : 2 * (s_ / 2) ∈ p_ := h1.mem_iff.mpr (List.mem_of_getElem? hj)
        obtain ⟨j', hj', ej'⟩ := List.getElem_of_mem hm_
        have hlt := h3 f_ s_ (Nat.le_refl _) hs he j' (by rw [List.getElem?_eq_getElem hj', ej'])
        have e1_ := hpre j' hlt
        rw [List.getElem?_eq_getElem hj', ej', ← hj] at e1_
        have := (List.getElem?_inj (by omega) hn).mp e1_.symm
        omega
    · obtain ⟨w1_, w2_⟩ := zzswp (i_ := i_) hf hi_
      refine ⟨h1.trans w1_.symm, ?_, fun k_ t_ hk => h3 k_ t_ (by omega)⟩
      rw [w2_ hfi, List.take_add_one, h2, hs, ei]
      rfl
  · rintro ⟨i_, s_, hfi, hs, hc_, h1, h2, h3⟩
    obtain ⟨hi_, ei⟩ := List.getElem?_eq_some_iff.mp hs
    obtain ⟨w1_, w2_⟩ := zzswp (i_ := i_) hf hi_
    rw [w2_ hfi, ei] at h2
    have hp := h1.trans w1_
    have hpl := hp.length_eq
    have ht : p_.take f_ = l.take f_ := by
      have := congrArg (fun x_ => x_.take f_) h2
      simp only [List.take_take] at this
      rw [Nat.min_eq_left (by omega), List.take_append_of_le_length (by rw [List.length_take]; omega), List.take_take, Nat.min_self] at this
      exact this
    have hpf : p_[f_]? = some s_ := by
      have := congrArg (fun x_ => x_[f_]?) h2
      simp only [List.getElem?_take] at this
      rw [if_pos (by omega), List.getElem?_append_right (by rw [List.length_take]; omega), List.length_take, Nat.min_eq_left (by omega), Nat.sub_self] at this
      simpa using this
    refine ⟨hp, ht, fun k_ t_ hk hkt ho j_ hj => ?_⟩
    by_cases e_ : k_ = f_
    · subst e_
      have e2_ : s_ = t_ := by rw [hpf] at hkt; simpa using hkt
      subst e2_
      have hc2 := hc_.resolve_left ho
      have hm_ : 2 * (s_ / 2) ∈ l := hp.mem_iff.mp (List.mem_of_getElem? hj)
      obtain ⟨j', hj', ej'⟩ := List.getElem_of_mem hm_
      have hlt := hc2 j' (by rw [List.getElem?_eq_getElem hj', ej'])
      have hpn : p_.Nodup := hp.nodup_iff.mpr hn
      have e1_ : p_[j']? = l[j']? := by
        have := congrArg (fun x_ => x_[j']?) ht
        simpa [List.getElem?_take, hlt] using this
      rw [List.getElem?_eq_getElem hj', ej', ← hj] at e1_
      have := (List.getElem?_inj (by omega) hpn).mp e1_
      omega
    · exact h3 k_ t_ (by omega) hkt ho j_ hj

