/-! MATHEMATICS: the class's walk along a route -/
/-- a drop whose pick is in the route: no pick is done; one whose pick isn't: it is done -/
def zzHP (D_ : zIn) (l : List Nat) : Prop := ∀ s_ ∈ l, ¬ s_ % 2 = 0 → (2 * (s_ / 2) ∈ l → D_ 30 37 (s_ / 2) = -1) ∧ (¬ 2 * (s_ / 2) ∈ l → ¬ D_ 30 37 (s_ / 2) = -1)
def zzHO (l : List Nat) : Prop := ∀ (k_ s_ : Nat), l[k_]? = some s_ → ¬ s_ % 2 = 0 → 2 * (s_ / 2) ∈ l → ∃ j_, j_ < k_ ∧ l[j_]? = some (2 * (s_ / 2))
theorem zzHO_go : ∀ (r_ A_ pre_ : List Nat) (l : List Nat), l = pre_ ++ r_ → zzvl r_ A_ → (∀ q_ ∈ A_, 2 * q_ ∈ l → 2 * q_ ∈ pre_) → ∀ k_ s_, r_[k_]? = some s_ → ¬ s_ % 2 = 0 → 2 * (s_ / 2) ∈ l → 2 * (s_ / 2) ∈ pre_ ++ r_.take k_
  | [], A_, pre_, l, hl, hv, hA, k_, s_, hk, hs, hm_ => by simp at hk
  | t_ :: r_, A_, pre_, l, hl, hv, hA, k_, s_, hk, hs, hm_ => by
    by_cases hp : t_ % 2 = 0
    · cases k_ with
      | zero =>
        have e_ : t_ = s_ := by simpa using hk
        exact absurd (e_ ▸ hp) hs
      | succ k_ =>
        have h_ := zzHO_go r_ (t_ / 2 :: A_) (pre_ ++ [t_]) l (by rw [hl, List.append_assoc]; rfl) ((zzvl_e hp).mp hv) (fun q_ hq h2 => by
          rcases List.mem_cons.mp hq with e_ | e_
          · rw [e_, show 2 * (t_ / 2) = t_ by omega]; exact List.mem_append_right _ List.mem_cons_self
          · exact List.mem_append_left _ (hA q_ e_ h2)) k_ s_ (by simpa using hk) hs hm_
        rw [List.append_assoc] at h_
        exact h_
    · obtain ⟨v1_, v2⟩ := (zzvl_o hp).mp hv
      cases k_ with
      | zero =>
        have e_ : t_ = s_ := by simpa using hk
        subst e_
        exact List.mem_append_left _ (hA _ v1_ hm_)
      | succ k_ =>
        have h_ := zzHO_go r_ A_ (pre_ ++ [t_]) l (by rw [hl, List.append_assoc]; rfl) v2 (fun q_ hq h2 => List.mem_append_left _ (hA q_ hq h2)) k_ s_ (by simpa using hk) hs hm_
        rw [List.append_assoc] at h_
        exact h_
theorem zzHO_of {l A_ : List Nat} (hv : zzvl l A_) (hA : ∀ q_ ∈ A_, ¬ 2 * q_ ∈ l) : zzHO l := by
  intro k_ s_ hk hs hm_
  have h_ := zzHO_go l A_ [] l rfl hv (fun q_ hq h2 => absurd h2 (hA q_ hq)) k_ s_ hk hs hm_
  rw [List.nil_append] at h_
  obtain ⟨j_, hj⟩ := List.mem_iff_getElem?.mp h_
  have hlt := (List.getElem?_eq_some_iff.mp hj).1
  rw [List.length_take] at hlt
  refine ⟨j_, by omega, ?_⟩
  rw [List.getElem?_take_of_lt (by omega)] at hj
  exact hj
theorem zzint {C_ D_ : zIn} {l : List Nat} {P_ : List (Int32 × Int32)} {k_ s_ : Nat} (hcs : zzcs C_ D_ s_) (hb_ : C_ 4 s_ 3 = zzB P_ k_) (hn : l.Nodup) (hk : l[k_]? = some s_) (hHP : zzHP D_ l) (hHO : zzHO l) (h9 : ∀ j_ q_, j_ < k_ → l[j_]? = some (2 * q_) → C_ 1 q_ 9 = zzE P_ j_) : zint C_ s_ = !zztl D_ l P_ k_ s_ := by
  obtain ⟨s1_, s2_, s3_, s4_, s5, s6_, s7, s8⟩ := hcs
  have hsm : s_ ∈ l := List.mem_of_getElem? hk
  unfold zint zztl
  rw [hb_]
  by_cases hp : s_ % 2 = 0
  · rw [if_pos hp, if_pos hp, s3_]
    by_cases hc_ : D_ 30 34 (s_ / 2) + 20 < zzB P_ k_
    · rw [decide_eq_true hc_, decide_eq_false (Int32.not_le.mpr hc_)]; rfl
    · rw [decide_eq_false hc_, decide_eq_true (Int32.not_lt.mp hc_)]; rfl
  · rw [if_neg hp, if_neg hp]
    have e_ : zdue (C_ 1 (s_ / 2)) = zmlt D_ (s_ / 2) (zzpe D_ l P_ (s_ / 2)) := by
      rw [zzlt4]
      unfold zdue zzpe
      rw [s4_, s8]
      by_cases hm_ : 2 * (s_ / 2) ∈ l
      · rw [if_pos ((hHP s_ hsm hp).1 hm_), zzlx_of hn hm_]
        obtain ⟨j_, hj1, hj2⟩ := hHO k_ s_ hk hp hm_
        have hjp : zpos (2 * (s_ / 2)) l = j_ := by
          have h1 := zzpos_at hm_
          exact (List.getElem?_inj (List.getElem?_eq_some_iff.mp h1).1 hn).mp (h1.trans hj2.symm)
        show C_ 1 (s_ / 2) 9 + _ = zzE P_ (zpos (2 * (s_ / 2)) l) + _
        rw [hjp, h9 j_ (s_ / 2) hj1 hj2]
      · rw [if_neg ((hHP s_ hsm hp).2 hm_), zzlx_no l 0 none hm_]
    rw [e_]
    by_cases hc_ : zmlt D_ (s_ / 2) (zzpe D_ l P_ (s_ / 2)) < zzB P_ k_
    · rw [decide_eq_true hc_, decide_eq_false (Int32.not_le.mpr hc_)]; rfl
    · rw [decide_eq_false hc_, decide_eq_true (Int32.not_lt.mp hc_)]; rfl
theorem zzcl1 {C_ : zIn} {v_ s_ c_ i_ f_ : Nat} (h_ : ¬ (c_ = 0 ∧ i_ = v_ ∧ f_ = 3)) : zcl1 C_ v_ s_ c_ i_ f_ = C_ c_ i_ f_ := zset_ne h_
theorem zzL27 {C_ : zIn} {L_ : zLi} {v_ s_ : Nat} {D_ : zIn} (hch : zchr C_ (s_ / 2) = decide (zmkd D_ (s_ / 2) = 2)) (hd_ : ¬ s_ % 2 = 0 → zmkd D_ (s_ / 2) = 2 → (L_ 27 v_).getLast? = some (s_ / 2)) : zclL C_ L_ v_ s_ 27 v_ = if s_ % 2 = 0 then zzst D_ s_ (L_ 27 v_) else zzsd D_ s_ (L_ 27 v_) := by
  unfold zclL zzst zzsd
  rw [hch]
  by_cases hk : zmkd D_ (s_ / 2) = 2
  · rw [if_pos (decide_eq_true hk), if_pos hk, if_pos hk]
    by_cases hp : s_ % 2 = 0
    · rw [if_pos hp, if_pos hp, zlup_self]
    · rw [if_neg hp, if_neg hp, if_pos (hd_ hp hk), zlup_self, List.eraseIdx_eq_dropLast (by
        have h_ := hd_ hp hk
        cases hl : L_ 27 v_ with
        | nil => rw [hl] at h_; simp at h_
        | cons a_ b_ => rw [List.length_cons]; omega)]
  · rw [if_neg (by simp [hk]), if_neg hk, if_neg hk]
    split <;> rfl
theorem zzcL {D_ C0_ : zIn} {v_ : Nat} {l : List Nat} {P_ : List (Int32 × Int32)} (hn : l.Nodup) (hl : l.length ≤ 30) (hlen : P_.length = l.length) (hcs0 : ∀ s_ ∈ l, zzcs C0_ D_ s_) (hcv0 : zzcv C0_ D_ v_) (hHP : zzHP D_ l) (hHO : zzHO l) (h13 : (D_ 30 13 v_).toInt ≤ 8) : ∀ (r_ : List Nat) (k_ : Nat) (C_ : zIn) (L_ : zLi) (u_ : Int32) (st_ : List Nat) (lv p_ : Int32), l.drop k_ = r_ → P_.drop k_ = zzpt D_ v_ r_ k_ lv p_ → (∀ c_ i_ f_, zfr v_ c_ i_ f_ → C_ c_ i_ f_ = C0_ c_ i_ f_) → C_ 0 v_ 1 = p_ → C_ 0 v_ 2 = lv → C_ 0 v_ 3 = u_ → L_ 27 v_ = st_ → L_ 24 v_ = l → zzpc p_ → (k_ = 0 → ¬ C0_ 5 v_ 10 = 0 → ∀ s_, l[0]? = some s_ → C_ 4 s_ 3 = D_ 30 20 v_ ∧ C_ 4 s_ 4 = D_ 30 21 v_) → (∀ j_ q_, j_ < k_ → l[j_]? = some (2 * q_) → C_ 1 q_ 9 = zzE P_ j_) → -(3 * (k_ : Int)) ≤ u_.toInt → u_.toInt ≤ 8 → u_ ≤ D_ 30 13 v_ → Int32.ofNat st_.length ≤ D_ 30 14 v_ → st_.length ≤ 100 + k_ → (¬ k_ = 0 → lv = zzE P_ (k_ - 1) ∧ ∃ s_, l[k_ - 1]? = some s_ ∧ p_ = zmpl D_ s_) → (zirl v_ r_ k_ C_ L_).1 = (zzck D_ v_ l P_ r_ k_ u_ st_ && zzen D_ v_ l P_)
  | [], k_, C_, L_, u_, st_, lv, p_, hr, hP, hfr, c1_, c2_, c3_, h27, h24, hp, hleft, h9, b1, b2, b3, b4, b5, hend => by
    have hkl : l.length ≤ k_ := by
      have := congrArg List.length hr
      rw [List.length_drop, List.length_nil] at this
      omega
    unfold zirl zzck
    show (decide (L_ 24 v_ = []) || decide (zbck C_ v_ ≤ 600)) = (true && zzen D_ v_ l P_)
    rw [h24, Bool.true_and]
    unfold zzen
    cases hle : l with
    | nil => rw [List.isEmpty_nil, decide_eq_true (show ([] : List Nat) = [] from rfl), Bool.true_or, Bool.true_or]
    | cons a_ b_ =>
      have hk0 : ¬ k_ = 0 := fun e_ => by rw [hle, List.length_cons] at hkl; omega
      obtain ⟨e1_, s_, e2_, e3_⟩ := hend hk0
      have hlt := (List.getElem?_eq_some_iff.mp e2_).1
      have hk1 : k_ - 1 = l.length - 1 := by omega
      rw [hk1] at e1_ e2_
      rw [decide_eq_false (by simp), show (a_ :: b_).isEmpty = false from rfl, Bool.false_or, Bool.false_or]
      have e4_ : zbck C_ v_ = zzba D_ v_ (a_ :: b_) P_ := by
        unfold zbck zzba
        have hg : (a_ :: b_).getLast? = some s_ := by rw [← hle, List.getLast?_eq_getElem?]; exact e2_
        rw [c2_, c1_, e1_, e3_, hle, hg, hfr 5 v_ 1 zzf5, hcv0.1]
        have hs : s_ ∈ l := List.mem_of_getElem? e2_
        rw [zzstp (hcs0 s_ hs).2.1 hcv0.2.2.2.2.2.2.2]
        rfl
      rw [e4_]
  | s_ :: r_, k_, C_, L_, u_, st_, lv, p_, hr, hP, hfr, c1_, c2_, c3_, h27, h24, hp, hleft, h9, b1, b2, b3, b4, b5, hend => by
    have hks : l[k_]? = some s_ := by
      have : (l.drop k_)[0]? = some s_ := by rw [hr]; rfl
      rw [List.getElem?_drop] at this
      exact this
    have hkl := (List.getElem?_eq_some_iff.mp hks).1
    have hsm : s_ ∈ l := List.mem_of_getElem? hks
    have hr2 : l.drop (k_ + 1) = r_ := by
      rw [← List.drop_drop, hr]; rfl
    have hPk : P_[k_]? = some (zzbe D_ v_ k_ s_ lv p_) := by
      have : (P_.drop k_)[0]? = some (zzbe D_ v_ k_ s_ lv p_) := by rw [hP]; rfl
      rw [List.getElem?_drop] at this
      exact this
    have hP2 : P_.drop (k_ + 1) = zzpt D_ v_ r_ (k_ + 1) (zzbe D_ v_ k_ s_ lv p_).2 (zmpl D_ s_) := by
      rw [← List.drop_drop, hP]; rfl
    have hB_ : zzB P_ k_ = (zzbe D_ v_ k_ s_ lv p_).1 := by unfold zzB; rw [hPk]; rfl
    have hE : zzE P_ k_ = (zzbe D_ v_ k_ s_ lv p_).2 := by unfold zzE; rw [hPk]; rfl
    have hcs := zzcs_fr hfr (hcs0 s_ hsm)
    have hcv := zzcv_fr hfr hcv0
    have hz10 : C_ 5 v_ 10 = C0_ 5 v_ 10 := hfr 5 v_ 10 zzf5
    obtain ⟨g1, g2, g3_, g4, g5_, g6, g7⟩ := zzgtb (k_ := k_) hcs hcv c1_ c2_ hp (fun hk0 hne => hleft hk0 (by rw [← hz10]; exact hne) s_ (by rw [← hk0]; exact hks))
    have hfr1 : ∀ c_ i_ f_, zfr v_ c_ i_ f_ → zgt C_ v_ s_ (zlft C_ v_ k_) c_ i_ f_ = C0_ c_ i_ f_ := fun c_ i_ f_ h_ => (zgt_fr h_).trans (hfr c_ i_ f_ h_)
    have hcs1 := zzcs_fr hfr1 (hcs0 s_ hsm)
    have h91 : ∀ j_ q_, j_ < k_ + 1 → l[j_]? = some (2 * q_) → zgt C_ v_ s_ (zlft C_ v_ k_) 1 q_ 9 = zzE P_ j_ := by
      intro j_ q_ hj hjq
      by_cases hjk : j_ = k_
      · subst hjk
        have e_ : s_ = 2 * q_ := by rw [hks] at hjq; exact Option.some.inj hjq
        rw [hE, ← g6 (by omega), e_, show 2 * q_ / 2 = q_ by omega]
      · rw [g7 q_ (fun e_ => hjk (by
          have e2_ : s_ = 2 * q_ := by omega
          rw [e2_] at hks
          exact (List.getElem?_inj (List.getElem?_eq_some_iff.mp hjq).1 hn).mp (hjq.trans hks.symm)))]
        exact h9 j_ q_ (by omega) hjq
    have hzi : zint (zgt C_ v_ s_ (zlft C_ v_ k_)) s_ = !zztl D_ l P_ k_ s_ := zzint hcs1 (g1.trans hB_.symm) hn hks hHP hHO (fun j_ q_ hj hjq => h91 j_ q_ (by omega) hjq)
    have hfr2 : ∀ c_ i_ f_, zfr v_ c_ i_ f_ → zcl1 (zgt C_ v_ s_ (zlft C_ v_ k_)) v_ s_ c_ i_ f_ = C0_ c_ i_ f_ := fun c_ i_ f_ h_ => (zcl1_fr h_).trans (hfr1 c_ i_ f_ h_)
    have hcs2 := zzcs_fr hfr2 (hcs0 s_ hsm)
    have hch2 : zchr (zcl1 (zgt C_ v_ s_ (zlft C_ v_ k_)) v_ s_) (s_ / 2) = decide (zmkd D_ (s_ / 2) = 2) := hcs2.2.2.2.2.2.2.1
    have hse1 : zsea (zgt C_ v_ s_ (zlft C_ v_ k_)) (s_ / 2) = zmse D_ (s_ / 2) := hcs1.2.2.2.2.2.1
    have hu2 : zcl1 (zgt C_ v_ s_ (zlft C_ v_ k_)) v_ s_ 0 v_ 3 = if s_ % 2 = 0 then u_ + zmse D_ (s_ / 2) else u_ - zmse D_ (s_ / 2) := by
      unfold zcl1
      rw [zset_is, g5_, c3_, hse1]
      split
      · rfl
      · rw [Int32.sub_eq_add_neg]
    have hx : zgt C_ v_ s_ (zlft C_ v_ k_) 5 v_ 2 = D_ 30 13 v_ := (hfr1 5 v_ 2 zzf5).trans hcv0.2.1
    have hy : zgt C_ v_ s_ (zlft C_ v_ k_) 5 v_ 3 = D_ 30 14 v_ := (hfr1 5 v_ 3 zzf5).trans hcv0.2.2.1
    have hrec : ∀ (u' : Int32) (st' : List Nat), zcl1 (zgt C_ v_ s_ (zlft C_ v_ k_)) v_ s_ 0 v_ 3 = u' → zclL (zcl1 (zgt C_ v_ s_ (zlft C_ v_ k_)) v_ s_) L_ v_ s_ 27 v_ = st' → -(3 * ((k_ + 1 : Nat) : Int)) ≤ u'.toInt → u'.toInt ≤ 8 → u' ≤ D_ 30 13 v_ → Int32.ofNat st'.length ≤ D_ 30 14 v_ → st'.length ≤ 100 + (k_ + 1) → (zirl v_ r_ (k_ + 1) (zcl1 (zgt C_ v_ s_ (zlft C_ v_ k_)) v_ s_) (zclL (zcl1 (zgt C_ v_ s_ (zlft C_ v_ k_)) v_ s_) L_ v_ s_)).1 = (zzck D_ v_ l P_ r_ (k_ + 1) u' st' && zzen D_ v_ l P_) := by
      intro u' st' e1_ e2_ d1_ d2_ d3_ d4_ d5_
      refine zzcL hn hl hlen hcs0 hcv0 hHP hHO h13 r_ (k_ + 1) _ _ u' st' (zzbe D_ v_ k_ s_ lv p_).2 (zmpl D_ s_) hr2 hP2 hfr2 ?_ ?_ e1_ e2_ ?_ (hcs0 s_ hsm).2.1 (fun e_ => by omega) (fun j_ q_ hj hjq => ?_) d1_ d2_ d3_ d4_ d5_ (fun _ => ⟨?_, s_, by rw [Nat.add_sub_cancel]; exact hks, rfl⟩)
      · rw [zzcl1 (by simp)]; exact g3_
      · rw [zzcl1 (by simp)]; exact g4
      · rw [zclL_ne (by simp)]; exact h24
      · rw [zzcl1 (by simp)]; exact h91 j_ q_ hj hjq
      · rw [Nat.add_sub_cancel]; exact hE.symm
    unfold zirl zzck
    rw [hzi, hx, hy]
    cases htl : zztl D_ l P_ k_ s_ with
    | true =>
      rw [if_neg (by simp)]
      by_cases hp2 : s_ % 2 = 0
      · rw [if_pos hp2]; rfl
      · rw [if_neg hp2]; rfl
    | false =>
      rw [if_pos (by simp)]
      by_cases hp2 : s_ % 2 = 0
      · rw [if_pos hp2]
        have e27_ : zclL (zcl1 (zgt C_ v_ s_ (zlft C_ v_ k_)) v_ s_) L_ v_ s_ 27 v_ = zzst D_ s_ st_ := by rw [zzL27 hch2 (fun h_ => absurd hp2 h_), if_pos hp2, h27]
        have eu : zcl1 (zgt C_ v_ s_ (zlft C_ v_ k_)) v_ s_ 0 v_ 3 = u_ + zmse D_ (s_ / 2) := by rw [hu2, if_pos hp2]
        have hB2 : zclB (zcl1 (zgt C_ v_ s_ (zlft C_ v_ k_)) v_ s_) L_ v_ s_ (D_ 30 13 v_) (D_ 30 14 v_) = (decide (u_ + zmse D_ (s_ / 2) ≤ D_ 30 13 v_) && decide (Int32.ofNat (zzst D_ s_ st_).length ≤ D_ 30 14 v_)) := by
          unfold zclB
          rw [if_neg (fun e_ => e_.2 hp2), eu, e27_]
        rw [hB2]
        cases hbv : (decide (u_ + zmse D_ (s_ / 2) ≤ D_ 30 13 v_) && decide (Int32.ofNat (zzst D_ s_ st_).length ≤ D_ 30 14 v_)) with
        | false => rw [if_neg (by simp)]; rfl
        | true =>
          rw [if_pos rfl]
          have h12 := (Bool.and_eq_true _ _).mp hbv
          have d3_ : u_ + zmse D_ (s_ / 2) ≤ D_ 30 13 v_ := of_decide_eq_true h12.1
          obtain ⟨d1_, d2_⟩ := zzadd (by omega) b2 h13 d3_
          rw [hrec _ _ eu e27_ (by omega) d2_ d3_ (of_decide_eq_true h12.2) (by
            unfold zzst
            split
            · rw [List.length_append, List.length_singleton]; omega
            · omega)]
          rfl
      · rw [if_neg hp2]
        obtain ⟨d3_, d1_, d2_⟩ := zzsub (D_ := D_) (q_ := s_ / 2) (by omega) b2 b3
        have eu : zcl1 (zgt C_ v_ s_ (zlft C_ v_ k_)) v_ s_ 0 v_ 3 = u_ - zmse D_ (s_ / 2) := by rw [hu2, if_neg hp2]
        by_cases hk2 : zmkd D_ (s_ / 2) = 2
        · have hB2 : zclB (zcl1 (zgt C_ v_ s_ (zlft C_ v_ k_)) v_ s_) L_ v_ s_ (D_ 30 13 v_) (D_ 30 14 v_) = decide (st_.getLast? = some (s_ / 2)) := by
            unfold zclB
            rw [if_pos ⟨by rw [hch2]; exact decide_eq_true hk2, hp2⟩, h27]
          rw [hB2, decide_eq_false (show ¬ zmch D_ s_ = 0 by unfold zmch; rw [if_pos hk2]; omega), Bool.false_or]
          by_cases hg : st_.getLast? = some (s_ / 2)
          · rw [decide_eq_true hg, if_pos rfl]
            have e27_ : zclL (zcl1 (zgt C_ v_ s_ (zlft C_ v_ k_)) v_ s_) L_ v_ s_ 27 v_ = zzsd D_ s_ st_ := by rw [zzL27 hch2 (fun _ _ => by rw [h27]; exact hg), if_neg hp2, h27]
            have hsl : (zzsd D_ s_ st_).length ≤ st_.length := by
              rw [show zzsd D_ s_ st_ = st_.dropLast from if_pos hk2, List.length_dropLast]
              exact Nat.sub_le _ _
            rw [hrec _ _ eu e27_ (by omega) d2_ d3_ (Int32.le_trans ((zile (by omega) (by omega)).mpr hsl) b4) (by omega)]
            rfl
          · rw [decide_eq_false hg, if_neg (by simp)]; rfl
        · have e27_ : zclL (zcl1 (zgt C_ v_ s_ (zlft C_ v_ k_)) v_ s_) L_ v_ s_ 27 v_ = zzsd D_ s_ st_ := by rw [zzL27 hch2 (fun _ h_ => absurd h_ hk2), if_neg hp2, h27]
          have esd : zzsd D_ s_ st_ = st_ := if_neg hk2
          rw [esd] at e27_
          have hB2 : zclB (zcl1 (zgt C_ v_ s_ (zlft C_ v_ k_)) v_ s_) L_ v_ s_ (D_ 30 13 v_) (D_ 30 14 v_) = true := by
            unfold zclB
            rw [if_neg (fun e_ => by rw [hch2] at e_; exact hk2 (of_decide_eq_true e_.1)), eu, e27_, decide_eq_true d3_, decide_eq_true b4]; rfl
          rw [hB2, if_pos rfl, decide_eq_true (show zmch D_ s_ = 0 from if_neg hk2), Bool.true_or, esd, hrec _ _ eu e27_ (by omega) d2_ d3_ b4 (by omega)]
          rfl

