/-! THE CALLS: leastDrive -/
theorem zzgO {K_ D_ : zIn} (h_ : zzg K_ D_) : ∀ (l : List Nat) (m_ : Nat), zmrO D_ l m_ → zmrO K_ l m_
  | [], _, _ => trivial
  | s_ :: r_, m_, hl => by
    unfold zmrO at hl ⊢
    rw [h_.ch]
    by_cases hs : s_ % 2 = 0
    · rw [if_pos hs] at hl ⊢
      exact ⟨hl.1, zzgO h_ r_ _ hl.2⟩
    · rw [if_neg hs] at hl ⊢
      exact ⟨hl.1, zzgO h_ r_ _ hl.2⟩
theorem zzorA {l : List Nat} : ∀ (r_ : List Nat) (k_ : Nat) (b_ : Bool), zorA l r_ k_ b_ = true ↔ (b_ = true ∧ ∀ j_ s_, r_[j_]? = some s_ → zorC l (k_ + j_) s_ = true)
  | [], k_, b_ => ⟨fun h_ => ⟨h_, fun j_ s_ hs => by simp at hs⟩, fun h_ => h_.1⟩
  | t_ :: r_, k_, b_ => by
    unfold zorA
    rw [zzorA r_ (k_ + 1), Bool.and_eq_true]
    constructor
    · rintro ⟨⟨h1, h2⟩, h3⟩
      refine ⟨h1, fun j_ s_ hs => ?_⟩
      cases j_ with
      | zero =>
        have : t_ = s_ := by simpa using hs
        subst this
        exact h2
      | succ j_ =>
        have := h3 j_ s_ (by simpa using hs)
        rw [show k_ + (j_ + 1) = k_ + 1 + j_ by omega]
        exact this
    · rintro ⟨h1, h2⟩
      refine ⟨⟨h1, h2 0 t_ rfl⟩, fun j_ s_ hs => ?_⟩
      have := h2 (j_ + 1) s_ (by simpa using hs)
      rw [show k_ + 1 + j_ = k_ + (j_ + 1) by omega]
      exact this
theorem zzorC {p_ : List Nat} {k_ s_ : Nat} (hn : p_.Nodup) (hl : p_.length ≤ 900) (hk : p_[k_]? = some s_) : zorC p_ k_ s_ = true ↔ (¬ s_ % 2 = 0 → ∀ j_, p_[j_]? = some (2 * (s_ / 2)) → j_ < k_) := by
  have hkl := (List.getElem?_eq_some_iff.mp hk).1
  unfold zorC
  rw [Bool.or_eq_true, decide_eq_true_iff, decide_eq_true_iff]
  by_cases hs : s_ % 2 = 0
  · exact ⟨fun _ h_ => absurd hs h_, fun _ => Or.inl hs⟩
  · rw [show s_ - 1 = 2 * (s_ / 2) by omega]
    by_cases hm_ : 2 * (s_ / 2) ∈ p_
    · have hx := zzpos_at hm_
      have hxl := (List.getElem?_eq_some_iff.mp hx).1
      rw [zzlx_of hn hm_]
      show (s_ % 2 = 0 ∨ Int32.ofNat _ ≤ Int32.ofNat k_) ↔ _
      rw [zile (by omega) (by omega)]
      have hne : ¬ zpos (2 * (s_ / 2)) p_ = k_ := fun e_ => by
        rw [e_, hk] at hx
        have : s_ = 2 * (s_ / 2) := by simpa using hx
        omega
      constructor
      · intro h_ _ j_ hj
        have : j_ = zpos (2 * (s_ / 2)) p_ := (List.getElem?_inj (List.getElem?_eq_some_iff.mp hj).1 hn).mp (hj.trans hx.symm)
        have := h_.resolve_left hs
        omega
      · intro h_
        exact Or.inr (Nat.le_of_lt (h_ hs _ hx))
    · rw [zzlx_no _ _ _ hm_]
      refine ⟨fun _ _ j_ hj => absurd (List.mem_of_getElem? hj) hm_, fun _ => Or.inr ?_⟩
      show (-1 : Int32) ≤ Int32.ofNat k_
      exact Int32.le_trans (show (-1 : Int32) ≤ 0 by decide) (zige (by omega))
theorem zzorB {J_ : zIn} {v_ c_ : Nat} {l : List Nat} (hn : l.Nodup) (hl : l.length ≤ 900) (hHO : zzHO l) : zorB J_ v_ l c_ = true ↔ zzS0 (zlkF J_ v_) l (zord l.length c_ l) := by
  have hp := zzord_p l.length c_ l rfl
  unfold zorB
  generalize zord l.length c_ l = p_ at *
  have hpn : p_.Nodup := hp.nodup_iff.mpr hn
  have hpl := hp.length_eq
  rw [zzorA, Bool.or_eq_true, decide_eq_true_iff, decide_eq_true_iff]
  have hh : (J_ 31 19 v_ = 0 ∨ p_.head? = l.head?) ↔ p_.take (zlkF J_ v_) = l.take (zlkF J_ v_) := by
    unfold zlkF
    by_cases e_ : J_ 31 19 v_ = 0
    · rw [if_pos e_]
      exact ⟨fun _ => rfl, fun _ => Or.inl e_⟩
    · rw [if_neg e_]
      cases p_ with
      | nil =>
        cases l with
        | nil => exact ⟨fun _ => rfl, fun _ => Or.inr rfl⟩
        | cons b_ l => simp at hpl
      | cons a_ p_ =>
        cases l with
        | nil => simp at hpl
        | cons b_ l => simp [e_]
  constructor
  · rintro ⟨h1, h2⟩
    refine ⟨hp, hh.mp h1, fun k_ s_ _ hk ho => ?_⟩
    have := h2 k_ s_ hk
    rw [Nat.zero_add] at this
    exact (zzorC hpn (by omega) hk).mp this ho
  · rintro ⟨_, h1, h2⟩
    refine ⟨hh.mpr h1, fun k_ s_ hk => ?_⟩
    rw [Nat.zero_add]
    refine (zzorC hpn (by omega) hk).mpr (fun ho j_ hj => ?_)
    by_cases hkf : zlkF J_ v_ ≤ k_
    · exact h2 k_ s_ hkf hk ho j_ hj
    · have hz : zlkF J_ v_ = 1 ∧ k_ = 0 := by
        unfold zlkF at hkf ⊢
        split at hkf
        · omega
        · rename_i e_
          rw [if_neg e_]
          exact ⟨rfl, by omega⟩
      obtain ⟨hz, rfl⟩ := hz
      rw [hz] at h1
      have e0_ : p_[0]? = l[0]? := by
        have := congrArg (fun x_ => x_[0]?) h1
        simpa [List.getElem?_take] using this
      rw [e0_] at hk
      obtain ⟨j', hj', _⟩ := hHO 0 s_ hk ho (hp.mem_iff.mp (List.mem_of_getElem? hj))
      omega
theorem zzvlA {A0 : List Nat} : ∀ (r_ A_ : List Nat), (∀ (k_ s_ : Nat), r_[k_]? = some s_ → ¬ s_ % 2 = 0 → s_ / 2 ∈ A_ ∨ ∃ j_, j_ < k_ ∧ r_[j_]? = some (2 * (s_ / 2))) → zzvl r_ A_
  | [], _, _ => trivial
  | t_ :: r_, A_, h_ => by
    by_cases ht : t_ % 2 = 0
    · refine (zzvl_e ht).mpr (zzvlA (A0 := A0) r_ (t_ / 2 :: A_) (fun k_ s_ hs ho => ?_))
      rcases h_ (k_ + 1) s_ (by simpa using hs) ho with h1 | ⟨j_, hj, h1⟩
      · exact Or.inl (List.mem_cons_of_mem _ h1)
      · cases j_ with
        | zero =>
          have : t_ = 2 * (s_ / 2) := by simpa using h1
          exact Or.inl (List.mem_cons.mpr (Or.inl (by omega)))
        | succ j_ => exact Or.inr ⟨j_, by omega, by simpa using h1⟩
    · refine (zzvl_o ht).mpr ⟨?_, zzvlA (A0 := A0) r_ A_ (fun k_ s_ hs ho => ?_)⟩
      · rcases h_ 0 t_ rfl ht with h1 | ⟨j_, hj, h1⟩
        · exact h1
        · omega
      · rcases h_ (k_ + 1) s_ (by simpa using hs) ho with h1 | ⟨j_, hj, h1⟩
        · exact Or.inl h1
        · cases j_ with
          | zero =>
            have : t_ = 2 * (s_ / 2) := by simpa using h1
            omega
          | succ j_ => exact Or.inr ⟨j_, by omega, by simpa using h1⟩
theorem zzvlB : ∀ (r_ A_ : List Nat), zzvl r_ A_ → ∀ s_ ∈ r_, ¬ s_ % 2 = 0 → s_ / 2 ∈ A_ ∨ 2 * (s_ / 2) ∈ r_
  | [], _, _, s_, hs, _ => absurd hs List.not_mem_nil
  | t_ :: r_, A_, h_, s_, hs, ho => by
    by_cases ht : t_ % 2 = 0
    · have h2 := (zzvl_e ht).mp h_
      rcases List.mem_cons.mp hs with rfl | hs
      · exact absurd ht ho
      · rcases zzvlB r_ _ h2 s_ hs ho with h3 | h3
        · rcases List.mem_cons.mp h3 with h4 | h4
          · exact Or.inr (by rw [show 2 * (s_ / 2) = t_ by omega]; exact List.mem_cons_self)
          · exact Or.inl h4
        · exact Or.inr (List.mem_cons_of_mem _ h3)
    · obtain ⟨h1, h2⟩ := (zzvl_o ht).mp h_
      rcases List.mem_cons.mp hs with rfl | hs
      · exact Or.inl h1
      · exact (zzvlB r_ _ h2 s_ hs ho).imp id (fun h3 => List.mem_cons_of_mem _ h3)
theorem zzGpm {C_ D_ : zIn} {L_ : zLi} {p_ : List Nat} {v_ : Nat} (hq : zzQ C_ L_ D_ v_) (hp : zzS0 (zlkF D_ v_) (L_ 24 v_) p_) : zzG C_ D_ v_ (L_ 26 v_) p_ := by
  obtain ⟨a1_, a2, a3, a4, a5, a6, a7⟩ := zzG_of hq
  obtain ⟨p1_, p2_, p3_⟩ := hp
  have hHO := zzHO_of a5 a6
  have c6_ := hq.1.1.2.2.2.2.2.1
  have hhd : ¬ C_ 5 v_ 10 = 0 → p_[0]? = (L_ 24 v_)[0]? := fun hne => by
    have e_ : zlkF D_ v_ = 1 := if_neg (fun e_ => hne (c6_.mpr e_))
    rw [e_] at p2_
    have := congrArg (fun x_ => x_[0]?) p2_
    simpa [List.getElem?_take] using this
  refine ⟨p1_.nodup_iff.mpr a1_, by rw [p1_.length_eq]; exact a2, fun s_ hs => a3 s_ (p1_.mem_iff.mp hs), fun s_ hs ho => ?_, zzvlA (A0 := []) p_ _ (fun k_ s_ hk ho => ?_), fun q_ hqA hm_ => a6 q_ hqA (p1_.mem_iff.mp hm_), fun hne s_ h0 => a7 hne s_ (by rw [← hhd hne]; exact h0)⟩
  · have := a4 s_ (p1_.mem_iff.mp hs) ho
    rw [p1_.mem_iff]
    exact this
  · have hsl := p1_.mem_iff.mp (List.mem_of_getElem? hk)
    rcases zzvlB _ _ a5 s_ hsl ho with h1 | h1
    · exact Or.inl h1
    · by_cases hkf : zlkF D_ v_ ≤ k_
      · obtain ⟨j_, hj, ej⟩ := List.getElem_of_mem (p1_.mem_iff.mpr h1)
        have ej2 : p_[j_]? = some (2 * (s_ / 2)) := by rw [List.getElem?_eq_getElem hj, ej]
        exact Or.inr ⟨j_, p3_ k_ s_ hkf hk ho j_ ej2, ej2⟩
      · have hz : ¬ D_ 31 19 v_ = 0 := fun e_ => hkf (by unfold zlkF; rw [if_pos e_]; exact Nat.zero_le _)
        have hk0 : k_ = 0 := by
          unfold zlkF at hkf
          rw [if_neg hz] at hkf
          omega
        subst hk0
        rw [hhd (fun e_ => hz (c6_.mp e_))] at hk
        obtain ⟨j_, hj, _⟩ := hHO 0 s_ hk ho h1
        omega
theorem zzGdA {C_ D_ : zIn} {L_ : zLi} {p_ : List Nat} {v_ N_ : Nat} {x_ : Int32} (hq : zzQ C_ L_ D_ v_) (hx : x_ = D_ 7 0 2) (hZ : ∀ s_ ∈ zzZ C_ L_ N_, s_ ∈ L_ 24 v_ → ¬ C_ 5 v_ 10 = 0 ∧ (L_ 24 v_)[0]? = some s_) (hZ2 : ¬ C_ 5 v_ 10 = 0 → ∀ s_, (L_ 24 v_)[0]? = some s_ → s_ ∈ zzZ C_ L_ N_) (hp : zzS0 (zlkF D_ v_) (L_ 24 v_) p_) : zzGd v_ C_ (zzZ C_ L_ N_) (L_ 26 v_) x_ (fun p_ => zzrt D_ v_ p_ (zchl C_ (L_ 26 v_)) = true) (fun p_ => zdm D_ p_ (D_ 30 17 v_) (D_ 30 12 v_)) p_ := by
  intro I_ L' hI h24 h26
  have hG := zzGpm hq hp
  have hH := zzH_of hq
  rw [← hx] at hH
  have c6_ := hq.1.1.2.2.2.2.2.1
  have hhd : ¬ C_ 5 v_ 10 = 0 → p_[0]? = (L_ 24 v_)[0]? := fun hne => by
    have e_ : zlkF D_ v_ = 1 := if_neg (fun e_ => hne (c6_.mpr e_))
    have p2_ := hp.2.1
    rw [e_] at p2_
    have := congrArg (fun x_ => x_[0]?) p2_
    simpa [List.getElem?_take] using this
  have hH' := hI.H hH
  have hG' := hI.G hG (fun hne s_ h0 => hZ2 hne s_ (by rw [← hhd hne]; exact h0))
  have hcl : zchl I_ (L_ 26 v_) = zchl C_ (L_ 26 v_) := zzfchl (fun q_ => hI.chr q_) _
  have hdr : zdrv I_ p_ (I_ 5 v_ 11) (I_ 5 v_ 1) = zdm D_ p_ (D_ 30 17 v_) (D_ 30 12 v_) := by
    rw [zzdr (D_ := D_) (fun s_ hs => (hG'.2.2.1 s_ hs).2) (by rw [hH'.1.2.2.2.1]; exact hH'.1.2.2.2.2.2.2.1) (by rw [hH'.1.1]; exact hH'.1.2.2.2.2.2.2.2), hH'.1.2.2.2.1, hH'.1.1]
  refine ⟨?_, (zzirt (by rw [h24]; exact hG.1) (fun s_ hs hm_ => ?_)).trans hI, hdr, ?_⟩
  · rw [zzcR h24 h26 hH' hG', hcl]
  · rw [h24] at hm_ ⊢
    obtain ⟨h1, h2⟩ := hZ s_ hs (hp.1.mem_iff.mp hm_)
    exact ⟨by rw [hI.a5]; exact h1, by rw [hhd h1]; exact h2⟩
  · show ¬ zdm D_ p_ (D_ 30 17 v_) (D_ 30 12 v_) = -1
    rw [← hdr]
    unfold zdrv
    exact zzodd
