/-! THE CALLS: pass -/
theorem zzmi2E {v_ : Nat} {J_ : zIn} {G_ : zIn → Prop} (h_ : zmi2 v_ J_ G_) : ∃ K_, G_ K_ := by
  by_cases e_ : J_ 31 19 v_ = 0 ∧ J_ 30 18 v_ ≤ J_ 7 0 2
  · obtain ⟨l, h1, h2, h3⟩ := h_.1 e_.1 e_.2
    cases l with
    | nil => exact ⟨J_, h3 rfl⟩
    | cons s_ r_ => exact ⟨_, (h2 s_ r_ rfl).2⟩
  · exact ⟨J_, h_.2 e_⟩
theorem zzmi1E {v_ : Nat} {I_ : zIn} {G_ : zIn → Prop} (h_ : zmi1 v_ I_ G_) : ∃ J_, G_ J_ := by
  by_cases e_ : ¬ I_ 31 19 v_ = 0 ∧ I_ 30 21 v_ = I_ 7 0 2
  · obtain ⟨s_, l, m_, d_, h1, h2⟩ := h_.1 e_.1 e_.2
    exact ⟨_, h2⟩
  · exact ⟨I_, h_.2 e_⟩
theorem zzmiE {v_ : Nat} {I_ : zIn} {G_ : zIn → Prop} (h_ : zmiW v_ I_ G_) : ∃ J_, G_ J_ := by
  obtain ⟨J_, hJ⟩ := zzmi1E h_
  exact zzmi2E hJ
theorem zzpmP {p_ N_ M_ : Nat} : ∀ (n_ k_ : Nat) (C_ : zIn) (L_ : zLi) (D_ : zIn), n_ + k_ = N_ → zzR C_ L_ D_ p_ N_ M_ → ∃ D', zzR (zpml ((List.range N_).drop k_) C_ L_).1 (zpml ((List.range N_).drop k_) C_ L_).2 D' p_ N_ M_ ∧ zzfm C_ D_ (zpml ((List.range N_).drop k_) C_ L_).1 D'
  | 0, k_, C_, L_, D_, hk, h_ => by
    rw [List.drop_of_length_le (by rw [List.length_range]; omega)]
    exact ⟨D_, h_, zzfm.rfl⟩
  | n_ + 1, k_, C_, L_, D_, hk, h_ => by
    have hv2 : (List.range N_)[k_]? = some k_ := List.getElem?_range (by omega)
    rw [zdrop_cons hv2, zpml_cons]
    obtain ⟨J_, hJ, hf⟩ := zzmiE (zzVh h_ (show k_ < N_ by omega))
    obtain ⟨D', h1, h2⟩ := zzpmP n_ (k_ + 1) _ _ J_ (by omega) hJ
    exact ⟨D', h1, h2.trans hf⟩
theorem zzMinP {C_ D_ : zIn} {L_ : zLi} {p_ N_ M_ t_ : Nat} (h_ : zzR C_ L_ D_ p_ N_ M_) (ht : t_ < 600) (e_ : D_ 7 0 2 = Int32.ofNat t_) : ∃ D', zzR (zpm C_ L_).1 (zpm C_ L_).2 D' p_ N_ M_ ∧ zzco (zpm C_ L_).1 C_ ∧ D' 7 0 2 = Int32.ofNat (t_ + 1) := by
  have e21_ : L_ 21 0 = List.range N_ := h_.1.2.2.2.1
  have eq_ : zpm C_ L_ = zpml (List.range N_) (zset C_ 6 0 8 (C_ 6 0 8 + 1)) L_ := by unfold zpm; rw [e21_]
  obtain ⟨D', h1, h2⟩ := zzpmP N_ 0 _ _ _ (by omega) (zzTk h_ ht e_)
  rw [List.drop_zero] at h1 h2
  rw [eq_]
  exact ⟨D', h1, h2.1.trans (zzco.set zzco.rfl (by simp)), by rw [h2.2.2.2, zset_is, e_, zisucc]⟩
theorem zzpsco {p_ N_ M_ : Nat} : ∀ (n_ t_ : Nat) (C_ : zIn) (L_ : zLi), t_ + n_ ≤ 600 → (∃ D_, zzR C_ L_ D_ p_ N_ M_ ∧ D_ 7 0 2 = Int32.ofNat t_) → zzco (zpms n_ C_ L_).1 C_
  | 0, _, _, _, _, _ => zzco.rfl
  | n_ + 1, t_, C_, L_, ht, ⟨D_, h_, e_⟩ => by
    obtain ⟨D', h1, h2, h3⟩ := zzMinP h_ (by omega) e_
    unfold zpms
    exact (zzpsco n_ (t_ + 1) _ _ (by omega) ⟨D', h1, h3⟩).trans h2
theorem zzBnd {C_ D_ : zIn} {L_ : zLi} {p_ N_ M_ : Nat} (h_ : zzR C_ L_ D_ p_ N_ M_) : (L_ 21 0).length ≤ 90 ∧ zbnd L_ 500 := by
  have hN4 := h_.1.2.2.2.2.1
  have hM_ := h_.1.2.2.2.2.2.2.2.1
  refine ⟨by rw [h_.1.2.2.2.1, List.length_range]; omega, fun c_ v_ hc_ => ?_⟩
  rcases Nat.lt_or_ge v_ N_ with hv | hv
  · rcases hc_ with rfl | rfl
    · obtain ⟨t1_, t2_, t3_, t4_, t5_, t6, t7, t8, _⟩ := (h_.2.2.2.1 v_ hv).2.2
      have h1 : (L_ 25 v_).length ≤ (List.range (2 * M_)).length := t3_.length_le_of_subset (fun q_ hq => List.mem_range.mpr (by have := (t8 q_ hq).1; omega))
      rw [List.length_range] at h1
      omega
    · have := (zzA26 h_ hv).1
      omega
  · have hx := h_.2.2.2.2.2.2.2.1 v_ hv
    rcases hc_ with rfl | rfl
    · rw [hx.2.2.2.2.2.2.2.1]; exact Nat.zero_le _
    · rw [hx.2.2.2.2.2.2.2.2.1]; exact Nat.zero_le _
/-- the model's state after k of K minutes -/
def zzPm (C0_ : zIn) (L0_ : zLi) (J0 : zIn) (p_ N_ M_ T K_ k_ : Nat) (J_ : zIn) : Prop := ∃ C'_ L', zpms K_ C0_ L0_ = zpms (K_ - k_) C'_ L' ∧ zzR C'_ L' J_ p_ N_ M_ ∧ J_ 7 0 2 = Int32.ofNat (T + k_) ∧ zzmo J_ J0 ∧ J_ 7 0 0 = 0
