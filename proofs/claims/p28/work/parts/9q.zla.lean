/-! MATHEMATICS: a plan that is laid, alike -/
theorem zzlay {D_ C0_ : zIn} {v_ : Nat} {l : List Nat} {P_ : List (Int32 × Int32)} (hn : l.Nodup) (hcs0 : ∀ s_ ∈ l, zzcs C0_ D_ s_) (hcv0 : zzcv C0_ D_ v_) : ∀ (r_ : List Nat) (k_ : Nat) (C_ : zIn) (lv p_ : Int32), l.drop k_ = r_ → P_.drop k_ = zzpt D_ v_ r_ k_ lv p_ → (∀ c_ i_ f_, zfr v_ c_ i_ f_ → C_ c_ i_ f_ = C0_ c_ i_ f_) → C_ 0 v_ 1 = p_ → C_ 0 v_ 2 = lv → zzpc p_ → (k_ = 0 → ¬ C0_ 5 v_ 10 = 0 → ∀ s_, l[0]? = some s_ → C_ 4 s_ 3 = D_ 30 20 v_ ∧ C_ 4 s_ 4 = D_ 30 21 v_) → (∀ j_ q_, j_ < k_ → l[j_]? = some (2 * q_) → C_ 1 q_ 9 = zzE P_ j_) → (∀ j_ s_, j_ < k_ → l[j_]? = some s_ → C_ 4 s_ 3 = zzB P_ j_ ∧ C_ 4 s_ 4 = zzE P_ j_) → (¬ k_ = 0 → lv = zzE P_ (k_ - 1) ∧ ∃ s_, l[k_ - 1]? = some s_ ∧ p_ = zmpl D_ s_) →
    (∀ c_ i_ f_, zfr v_ c_ i_ f_ → zlay v_ r_ k_ C_ c_ i_ f_ = C0_ c_ i_ f_) ∧ (∀ j_ q_, l[j_]? = some (2 * q_) → zlay v_ r_ k_ C_ 1 q_ 9 = zzE P_ j_) ∧ (∀ j_ s_, l[j_]? = some s_ → zlay v_ r_ k_ C_ 4 s_ 3 = zzB P_ j_ ∧ zlay v_ r_ k_ C_ 4 s_ 4 = zzE P_ j_) ∧ (¬ l = [] → zlay v_ r_ k_ C_ 0 v_ 2 = zzE P_ (l.length - 1) ∧ ∃ s_, l[l.length - 1]? = some s_ ∧ zlay v_ r_ k_ C_ 0 v_ 1 = zmpl D_ s_)
  | [], k_, C_, lv, p_, hr, hP, hfr, c1_, c2_, hp, hleft, h9, h4, hend => by
    have hkl : l.length ≤ k_ := by
      have := congrArg List.length hr
      rw [List.length_drop, List.length_nil] at this
      omega
    refine ⟨hfr, fun j_ q_ hj => h9 j_ q_ ?_ hj, fun j_ s_ hj => h4 j_ s_ ?_ hj, fun hne => ?_⟩
    · have := (List.getElem?_eq_some_iff.mp hj).1
      omega
    · have := (List.getElem?_eq_some_iff.mp hj).1
      omega
    · have hl0 : 0 < l.length := by
        cases hle : l with
        | nil => exact absurd hle hne
        | cons a_ b_ => rw [List.length_cons]; omega
      obtain ⟨e1_, s_, e2_, e3_⟩ := hend (by omega)
      have hlt := (List.getElem?_eq_some_iff.mp e2_).1
      have hk1 : k_ - 1 = l.length - 1 := by omega
      rw [hk1] at e1_ e2_
      exact ⟨c2_.trans e1_, s_, e2_, c1_.trans e3_⟩
  | s_ :: r_, k_, C_, lv, p_, hr, hP, hfr, c1_, c2_, hp, hleft, h9, h4, hend => by
    have hks : l[k_]? = some s_ := by
      have : (l.drop k_)[0]? = some s_ := by rw [hr]; rfl
      rw [List.getElem?_drop] at this
      exact this
    have hsm : s_ ∈ l := List.mem_of_getElem? hks
    have hr2 : l.drop (k_ + 1) = r_ := by
      rw [← List.drop_drop, hr]; rfl
    have hPk : P_[k_]? = some (zzbe D_ v_ k_ s_ lv p_) := by
      have : (P_.drop k_)[0]? = some (zzbe D_ v_ k_ s_ lv p_) := by rw [hP]; rfl
      rw [List.getElem?_drop] at this
      exact this
    have hP2 : P_.drop (k_ + 1) = zzpt D_ v_ r_ (k_ + 1) (zzbe D_ v_ k_ s_ lv p_).2 (zmpl D_ s_) := by
      rw [← List.drop_drop, hP]; rfl
    have hB_ : zzB P_ k_ = (zzbe D_ v_ k_ s_ lv p_).1 := by unfold zzB; rw [hPk]; rfl
    have hE : zzE P_ k_ = (zzbe D_ v_ k_ s_ lv p_).2 := by unfold zzE; rw [hPk]; rfl
    have hcs := zzcs_fr hfr (hcs0 s_ hsm)
    have hcv := zzcv_fr hfr hcv0
    have hz10 : C_ 5 v_ 10 = C0_ 5 v_ 10 := hfr 5 v_ 10 zzf5
    obtain ⟨g1, g2, g3_, g4, g5_, g6, g7⟩ := zzgtb (k_ := k_) hcs hcv c1_ c2_ hp (fun hk0 hne => hleft hk0 (by rw [← hz10]; exact hne) s_ (by rw [← hk0]; exact hks))
    unfold zlay
    refine zzlay hn hcs0 hcv0 r_ (k_ + 1) _ _ (zmpl D_ s_) hr2 hP2 (fun c_ i_ f_ h_ => (zgt_fr h_).trans (hfr c_ i_ f_ h_)) g3_ g4 (hcs0 s_ hsm).2.1 (fun e_ => by omega) (fun j_ q_ hj hjq => ?_) (fun j_ t_ hj hjt => ?_) (fun _ => ⟨by rw [Nat.add_sub_cancel]; exact hE.symm, s_, by rw [Nat.add_sub_cancel]; exact hks, rfl⟩)
    · by_cases hjk : j_ = k_
      · subst hjk
        have e_ : s_ = 2 * q_ := by rw [hks] at hjq; exact Option.some.inj hjq
        rw [hE, ← g6 (by omega), e_, show 2 * q_ / 2 = q_ by omega]
      · rw [g7 q_ (fun e_ => hjk (by
          have e2_ : s_ = 2 * q_ := by omega
          rw [e2_] at hks
          exact (List.getElem?_inj (List.getElem?_eq_some_iff.mp hjq).1 hn).mp (hjq.trans hks.symm)))]
        exact h9 j_ q_ (by omega) hjq
    · by_cases hjk : j_ = k_
      · subst hjk
        have e_ : s_ = t_ := by rw [hks] at hjt; exact Option.some.inj hjt
        rw [← e_, hB_, hE]
        exact ⟨g1, g2⟩
      · have hne : ¬ t_ = s_ := fun e_ => hjk (by
          rw [e_] at hjt
          exact (List.getElem?_inj (List.getElem?_eq_some_iff.mp hjt).1 hn).mp (hjt.trans hks.symm))
        rw [zzgt4 (Or.inl hne), zzgt4 (Or.inl hne)]
        exact h4 j_ t_ (by omega) hjt
theorem zzlay4 {v_ s0_ f_ : Nat} : ∀ (r_ : List Nat) (k_ : Nat) (C_ : zIn), (∀ j_, r_[j_]? = some s0_ → k_ + j_ = 0 ∧ ¬ C_ 5 v_ 10 = 0) → zlay v_ r_ k_ C_ 4 s0_ f_ = C_ 4 s0_ f_
  | [], k_, C_, h_ => rfl
  | s_ :: r_, k_, C_, h_ => by
    have h1 : zgt C_ v_ s_ (zlft C_ v_ k_) 4 s0_ f_ = C_ 4 s0_ f_ := by
      refine zzgt4 ?_
      by_cases e_ : s0_ = s_
      · obtain ⟨e1_, e2_⟩ := h_ 0 (by rw [e_]; rfl)
        refine Or.inr ?_
        unfold zlft
        rw [if_pos ⟨by omega, e2_⟩]
        decide
      · exact Or.inl e_
    unfold zlay
    rw [zzlay4 r_ (k_ + 1) _ (fun j_ hj => by
      have := h_ (j_ + 1) (by simpa using hj)
      omega)]
    exact h1
theorem zzplZ {C_ : zIn} {L_ : zLi} {v_ : Nat} {x_ : Int32} {Z_ : List Nat} (hn : (L_ 24 v_).Nodup) (hZ : ∀ s_ ∈ Z_, s_ ∈ L_ 24 v_ → ¬ C_ 5 v_ 10 = 0 ∧ (L_ 24 v_)[0]? = some s_) : zzcf (zplS C_ L_ v_ x_) C_ Z_ := by
  refine ⟨fun c_ i_ f_ h_ => zplS_fr ⟨fun e_ => h_.1 e_.1, h_.2.2.1, h_.2.2.2⟩, fun s_ hs f_ => ?_⟩
  unfold zplS
  rw [zzlay4 (L_ 24 v_) 0 _ (fun j_ hj => ?_)]
  · exact (zzstr).2.2.2 s_ f_
  · obtain ⟨h1, h2⟩ := hZ s_ hs (List.mem_of_getElem? hj)
    refine ⟨?_, ?_⟩
    · have := (List.getElem?_inj (List.getElem?_eq_some_iff.mp hj).1 hn).mp (hj.trans h2.symm)
      omega
    · rw [zstr_fr zzf5]; exact h1
theorem zzG_of {C_ D_ : zIn} {L_ : zLi} {v_ : Nat} (hq : zzQ C_ L_ D_ v_) : zzG C_ D_ v_ (L_ 26 v_) (L_ 24 v_) := by
  obtain ⟨q1_, q2_, q3_, q4_, q5_, q6_, q7_⟩ := hq
  have hl := q1_.2.2.2.2.2.1.2.1
  refine ⟨q3_, by omega, fun s_ hs => ⟨(q4_ s_ hs).1, (q4_ s_ hs).2.1⟩, q5_, q6_, fun q_ hq => (q7_ q_ hq).2, fun hne s_ hs => ?_⟩
  obtain ⟨t_, l, e1_, e2_, e3_⟩ := q2_ hne
  rw [e1_] at hs
  have e_ : t_ = s_ := by simpa using hs
  rw [← e_]
  exact ⟨e2_, e3_⟩
/-- the plan as the class lays it -/
theorem zzplS {C_ D_ : zIn} {L_ : zLi} {v_ : Nat} (hq : zzQ C_ L_ D_ v_) : (∀ c_ i_ f_, zfr v_ c_ i_ f_ → zplS C_ L_ v_ (D_ 7 0 2) c_ i_ f_ = C_ c_ i_ f_) ∧ (∀ j_ q_, (L_ 24 v_)[j_]? = some (2 * q_) → zplS C_ L_ v_ (D_ 7 0 2) 1 q_ 9 = zzE (zzP D_ v_ (L_ 24 v_)) j_) ∧ (∀ j_ s_, (L_ 24 v_)[j_]? = some s_ → zplS C_ L_ v_ (D_ 7 0 2) 4 s_ 3 = zzB (zzP D_ v_ (L_ 24 v_)) j_ ∧ zplS C_ L_ v_ (D_ 7 0 2) 4 s_ 4 = zzE (zzP D_ v_ (L_ 24 v_)) j_) ∧ (¬ L_ 24 v_ = [] → zplS C_ L_ v_ (D_ 7 0 2) 0 v_ 2 = zzE (zzP D_ v_ (L_ 24 v_)) ((L_ 24 v_).length - 1) ∧ ∃ s_, (L_ 24 v_)[(L_ 24 v_).length - 1]? = some s_ ∧ zplS C_ L_ v_ (D_ 7 0 2) 0 v_ 1 = zmpl D_ s_) := by
  have hG := zzG_of hq
  have hH := zzH_of hq
  obtain ⟨a1_, a2, a3, a4, a5, a6, a7⟩ := hG
  have b1 := hH.1
  obtain ⟨c1_, c2_, c3_, c4_⟩ := zzstr (C_ := C_) (L_ := L_) (v_ := v_) (x_ := D_ 7 0 2)
  have e5_ : C_ 5 v_ 11 = D_ 30 17 v_ := b1.2.2.2.1
  have e6_ : C_ 5 v_ 12 = D_ 30 18 v_ := b1.2.2.2.2.1
  refine zzlay (C0_ := C_) (P_ := zzP D_ v_ (L_ 24 v_)) a1_ (fun s_ h_ => (a3 s_ h_).2) b1 (L_ 24 v_) 0 _ _ _ rfl rfl (fun c_ i_ f_ h_ => zstr_fr h_) ?_ ?_ b1.2.2.2.2.2.2.1 (fun _ hne s_ h0 => ?_) (fun j_ q_ hj => absurd hj (by omega)) (fun j_ q_ hj => absurd hj (by omega)) (fun h_ => absurd rfl h_)
  · rw [c1_, e5_]
  · rw [c2_, zzmx, e6_]
  · rw [c4_, c4_]
    exact a7 hne s_ h0
theorem zzbck {C_ D_ : zIn} {L_ : zLi} {v_ : Nat} (hq : zzQ C_ L_ D_ v_) (hne : ¬ L_ 24 v_ = []) : zbck (zplS C_ L_ v_ (D_ 7 0 2)) v_ = zzba D_ v_ (L_ 24 v_) (zzP D_ v_ (L_ 24 v_)) := by
  obtain ⟨h1, h2, h3, h4⟩ := zzplS hq
  obtain ⟨e1_, s_, e2_, e3_⟩ := h4 hne
  have hH := zzH_of hq
  have hs : s_ ∈ L_ 24 v_ := List.mem_of_getElem? e2_
  unfold zbck zzba
  have hg : (L_ 24 v_).getLast? = some s_ := by rw [List.getLast?_eq_getElem?]; exact e2_
  rw [e1_, e3_, hg, h1 5 v_ 1 zzf5, hH.1.1, zzstp (hq.2.2.2.1 s_ hs).2.1.2.1 hH.1.2.2.2.2.2.2.2]
  rfl
theorem zzchs {C_ : zIn} : ∀ (l : List Nat) (n_ : Nat), zchs C_ l (Int32.ofNat n_) = Int32.ofNat (n_ + (zchl C_ l).length)
  | [], n_ => rfl
  | q_ :: l, n_ => by
    unfold zchs zchl
    by_cases h_ : zchr C_ q_ = true
    · rw [if_pos h_, List.filter_cons_of_pos h_, zisucc, zzchs l (n_ + 1), List.length_cons]
      congr 1
      show n_ + 1 + (List.filter (fun q_ => zchr C_ q_) l).length = n_ + ((List.filter (fun q_ => zchr C_ q_) l).length + 1)
      omega
    · rw [if_neg h_, List.filter_cons_of_neg h_, Int32.add_zero, zzchs l n_]
      rfl
/-- vehicleOf, alike -/
theorem zzvof {C_ D_ K_ : zIn} {L_ : zLi} {v_ k_ : Nat} (hq : zzQ C_ L_ D_ v_) (hx : C_ 6 0 8 = D_ 7 0 2) (hK_ : zzg K_ D_) (hk : k_ ≤ 8) : (zvtl C_ L_ v_ (C_ 6 0 8) k_).1 = (zvoM K_ v_ (L_ 24 v_) (zchl C_ (L_ 26 v_)).length k_).1 := by
  have hH := zzH_of hq
  have hG := zzG_of hq
  have hv := hq.1
  rw [hx]
  obtain rfl | rfl | rfl | rfl | rfl | rfl | rfl | rfl | rfl : k_ = 0 ∨ k_ = 1 ∨ k_ = 2 ∨ k_ = 3 ∨ k_ = 4 ∨ k_ = 5 ∨ k_ = 6 ∨ k_ = 7 ∨ k_ = 8 := by omega
  · show C_ 5 v_ 11 = K_ 30 17 v_
    rw [hK_.at _ (by decide)]; exact hH.1.2.2.2.1
  · show C_ 5 v_ 12 = K_ 30 18 v_
    rw [hK_.at _ (by decide)]; exact hH.1.2.2.2.2.1
  · rfl
  · show ztak C_ (L_ 26 v_) 0 = K_ 30 23 v_
    rw [hK_.at _ (by decide)]; exact hv.2.2.2.2.2.2.1
  · show zchs C_ (L_ 26 v_) 0 = K_ 30 25 v_
    rw [hK_.at _ (by decide), hv.2.2.2.2.2.2.2.2.2.1]
    have := zzchs (C_ := C_) (L_ 26 v_) 0
    rw [Nat.zero_add] at this
    exact this
  · show (if C_ 5 v_ 10 = 0 then (0 : Int32) else 1) = zbo (K_ 31 19 v_)
    rw [hK_.a1]
    exact zzbo_eq hH.1.2.2.2.2.2.1
  · show (if C_ 5 v_ 9 = 0 then (0 : Int32) else 1) = zbo (K_ 31 16 v_)
    rw [hK_.a1]
    exact zzbo_eq hv.2.2.1
  · show (if L_ 24 v_ = [] then ((-1 : Int32), C_, L_) else (zbck (zplS C_ L_ v_ (D_ 7 0 2)) v_, zplS C_ L_ v_ (D_ 7 0 2), zplL C_ L_ v_ (D_ 7 0 2))).1 = (if L_ 24 v_ = [] then -1 else zmba (zpln K_ v_ (L_ 24 v_)) v_ (L_ 24 v_))
    by_cases hne : L_ 24 v_ = []
    · rw [if_pos hne, if_pos hne]
    · rw [if_neg hne, if_neg hne]
      show zbck (zplS C_ L_ v_ (D_ 7 0 2)) v_ = _
      rw [zzbck hq hne]
      have hl0 : 0 < (L_ 24 v_).length := by
        cases hle : L_ 24 v_ with
        | nil => exact absurd hle hne
        | cons a_ b_ => rw [List.length_cons]; omega
      have hz : zzg (zpln K_ v_ (L_ 24 v_)) D_ := zpln_fx.zg.trans hK_
      unfold zmba zzba
      rw [(zzpln hK_ _ (by omega)).2, hz.pl, hz.at _ (by decide)]
  · show (if (zirt C_ L_ v_ (D_ 7 0 2)).1 = true then (1 : Int32) else 0) = (if (zmrT K_ v_ (L_ 24 v_) (zchl C_ (L_ 26 v_)).length).1 = true then 1 else 0)
    rw [zzRR rfl rfl hH hG hK_ rfl]
theorem zzfndr {q_ M_ : Nat} : ∀ (n_ k_ : Nat), n_ + k_ = M_ → k_ ≤ q_ → q_ < M_ → zfnd q_ ((List.range M_).drop k_) k_ = Int32.ofNat q_
  | 0, k_, h_, h1, h2 => by omega
  | n_ + 1, k_, h_, h1, h2 => by
    rw [zzdr2 (by omega)]
    unfold zfnd
    by_cases e_ : k_ = q_
    · rw [if_pos e_, e_]
    · rw [if_neg e_]
      exact zzfndr n_ (k_ + 1) (by omega) (by omega) h2
/-- stopOf, alike -/
theorem zzsof {C_ D_ K_ : zIn} {L_ : zLi} {p_ N_ M_ v_ j_ s_ k_ : Nat} (h_ : zzR C_ L_ D_ p_ N_ M_) (hv : v_ < N_) (hs : (L_ 24 v_)[j_]? = some s_) (hK_ : zzg K_ D_) (hk : k_ ≤ 3) : (zsof C_ L_ v_ s_ j_ k_).1 = zsoM (zpln K_ v_ (L_ 24 v_)) s_ j_ k_ := by
  have hq := zzQ_of h_ hv
  have hx : C_ 6 0 8 = D_ 7 0 2 := h_.1.2.2.2.2.2.2.2.2.2.1
  have hlt := (List.getElem?_eq_some_iff.mp hs).1
  obtain ⟨h1, h2, h3, h4⟩ := zzplS hq
  obtain ⟨e1_, e2_⟩ := h3 j_ s_ hs
  obtain ⟨g1, g2⟩ := zzpln hK_ j_ hlt
  obtain rfl | rfl | rfl | rfl : k_ = 0 ∨ k_ = 1 ∨ k_ = 2 ∨ k_ = 3 := by omega
  · show zfnd (s_ / 2) (L_ 22 0) 0 = Int32.ofNat (s_ / 2)
    rw [h_.1.2.2.2.2.2.2.1]
    have hsM := ((h_.2.2.2.1 v_ hv).2.2.2.2.2.1 s_ (List.mem_of_getElem? hs)).1
    have := zzfndr (q_ := s_ / 2) M_ 0 (by omega) (by omega) hsM
    rw [List.drop_zero] at this
    exact this
  · show (if s_ % 2 = 0 then (0 : Int32) else 1) = Int32.ofNat (s_ % 2)
    by_cases hp : s_ % 2 = 0
    · rw [if_pos hp, hp]; rfl
    · rw [if_neg hp, show s_ % 2 = 1 by omega]; rfl
  · show zplS C_ L_ v_ (C_ 6 0 8) 4 s_ 3 = zpln K_ v_ (L_ 24 v_) 30 44 j_
    rw [hx, e1_, g1]
  · show zplS C_ L_ v_ (C_ 6 0 8) 4 s_ 4 = zpln K_ v_ (L_ 24 v_) 30 45 j_
    rw [hx, e2_, g2]

