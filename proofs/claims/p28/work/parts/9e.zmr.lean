/-! MATHEMATICS: the model's isRight, without the machine -/
def zzg (K_ D_ : zIn) : Prop := ∀ c_ i_ f_, ¬ (c_ = 30 ∧ (43 ≤ i_ ∧ i_ ≤ 46 ∨ i_ = 51)) → ¬ (c_ = 7 ∧ i_ = 0 ∧ 42 ≤ f_ ∧ f_ ≤ 50) → K_ c_ i_ f_ = D_ c_ i_ f_
theorem zzg.rfl {D_ : zIn} : zzg D_ D_ := fun _ _ _ _ _ => Eq.refl _
theorem zzg.trans {K_ J_ D_ : zIn} (h1 : zzg K_ J_) (h2 : zzg J_ D_) : zzg K_ D_ := fun c_ i_ f_ a_ b_ => (h1 c_ i_ f_ a_ b_).trans (h2 c_ i_ f_ a_ b_)
theorem zzg.symm {K_ J_ : zIn} (h1 : zzg K_ J_) : zzg J_ K_ := fun c_ i_ f_ a_ b_ => (h1 c_ i_ f_ a_ b_).symm
theorem zfx.zg {K_ D_ : zIn} (h_ : zfx K_ D_) : zzg K_ D_ := fun c_ i_ f_ a_ _ => h_ c_ i_ f_ (fun e_ => a_ ⟨e_.1, by omega⟩)
theorem zfz.zg {K_ D_ : zIn} (h_ : zfz K_ D_) : zzg K_ D_ := fun c_ i_ f_ a_ b_ => h_ c_ i_ f_ (fun e_ => a_ ⟨e_.1, by omega⟩) (fun e_ => b_ ⟨e_.1, e_.2.1, by omega⟩)
theorem zfq.zg {K_ D_ : zIn} (h_ : zfq K_ D_) : zzg K_ D_ := fun c_ i_ f_ a_ b_ => h_ c_ i_ f_ a_ (fun e_ => b_ ⟨e_.1, e_.2.1, by omega⟩)
theorem zzg.at {K_ D_ : zIn} (h_ : zzg K_ D_) {i_ : Nat} (f_ : Nat) (hi_ : ¬ (43 ≤ i_ ∧ i_ ≤ 46 ∨ i_ = 51)) : K_ 30 i_ f_ = D_ 30 i_ f_ := h_ 30 i_ f_ (fun e_ => hi_ e_.2) (fun e_ => absurd e_.1 (by decide))
theorem zzg.a1 {K_ D_ : zIn} (h_ : zzg K_ D_) (i_ f_ : Nat) : K_ 31 i_ f_ = D_ 31 i_ f_ := h_ 31 i_ f_ (fun e_ => absurd e_.1 (by decide)) (fun e_ => absurd e_.1 (by decide))
theorem zzg.a7 {K_ D_ : zIn} (h_ : zzg K_ D_) {f_ : Nat} (hf : ¬ (42 ≤ f_ ∧ f_ ≤ 50)) : K_ 7 0 f_ = D_ 7 0 f_ := h_ 7 0 f_ (fun e_ => absurd e_.1 (by decide)) (fun e_ => hf e_.2.2)
theorem zzg.rd {K_ D_ : zIn} (h_ : zzg K_ D_) (q_ : Nat) : zmrd K_ q_ = zmrd D_ q_ := by unfold zmrd; rw [h_.at q_ (by decide)]
theorem zzg.kd {K_ D_ : zIn} (h_ : zzg K_ D_) (q_ : Nat) : zmkd K_ q_ = zmkd D_ q_ := by unfold zmkd; rw [h_.rd, h_.at _ (by decide)]
theorem zzg.se {K_ D_ : zIn} (h_ : zzg K_ D_) (q_ : Nat) : zmse K_ q_ = zmse D_ q_ := by unfold zmse; rw [h_.kd, h_.rd, h_.a1]
theorem zzg.ch {K_ D_ : zIn} (h_ : zzg K_ D_) (s_ : Nat) : zmch K_ s_ = zmch D_ s_ := by unfold zmch; rw [h_.kd]
theorem zzg.pl {K_ D_ : zIn} (h_ : zzg K_ D_) (s_ : Nat) : zmpl K_ s_ = zmpl D_ s_ := by unfold zmpl; rw [h_.at _ (by decide), h_.at _ (by decide)]
theorem zzg.lt {K_ D_ : zIn} (h_ : zzg K_ D_) (q_ : Nat) (x_ : Int32) : zmlt K_ q_ x_ = zmlt D_ q_ x_ := by unfold zmlt; rw [h_.at _ (by decide), h_.at _ (by decide)]
theorem zzg.lv {K_ D_ : zIn} (h_ : zzg K_ D_) (s_ : Nat) (lv d_ : Int32) : zplv K_ s_ lv d_ = zplv D_ s_ lv d_ := by unfold zplv; rw [h_.at _ (by decide)]
theorem zzg.mO {K_ D_ : zIn} (h_ : zzg K_ D_) : ∀ (l : List Nat) (m_ : Nat), zmrO D_ l m_ → zmrO K_ l m_
  | [], _, _ => trivial
  | s_ :: r_, m_, ho => by
    unfold zmrO at ho ⊢
    rw [h_.ch]
    split
    · rename_i hp
      rw [if_pos hp] at ho
      exact ⟨ho.1, h_.mO r_ _ ho.2⟩
    · rename_i hp
      rw [if_neg hp] at ho
      exact ⟨ho.1, h_.mO r_ _ ho.2⟩
def zzbe (D_ : zIn) (v_ k_ s_ : Nat) (lv p_ : Int32) : Int32 × Int32 := if k_ = 0 ∧ ¬ D_ 31 19 v_ = 0 then (D_ 30 20 v_, D_ 30 21 v_) else (zplv D_ s_ lv (2 * zspm p_ (zmpl D_ s_)) + 2 * zspm p_ (zmpl D_ s_), zplv D_ s_ lv (2 * zspm p_ (zmpl D_ s_)) + 2 * zspm p_ (zmpl D_ s_) + (2 + 2 * zmkd D_ (s_ / 2)))
def zzpt (D_ : zIn) (v_ : Nat) : List Nat → Nat → Int32 → Int32 → List (Int32 × Int32)
  | [], _, _, _ => []
  | s_ :: r_, k_, lv, p_ => zzbe D_ v_ k_ s_ lv p_ :: zzpt D_ v_ r_ (k_ + 1) (zzbe D_ v_ k_ s_ lv p_).2 (zmpl D_ s_)
theorem zzpt_len {D_ : zIn} {v_ : Nat} : ∀ (l : List Nat) (k_ : Nat) (lv p_ : Int32), (zzpt D_ v_ l k_ lv p_).length = l.length
  | [], _, _, _ => rfl
  | s_ :: r_, k_, lv, p_ => by
    unfold zzpt
    rw [List.length_cons, List.length_cons, zzpt_len r_]
theorem zzpl1 {I_ D_ : zIn} {v_ k_ s_ : Nat} {lv p_ : Int32} (h_ : zzg I_ D_) : zpl1 I_ v_ k_ s_ lv p_ 30 44 k_ = (zzbe D_ v_ k_ s_ lv p_).1 ∧ zpl1 I_ v_ k_ s_ lv p_ 30 45 k_ = (zzbe D_ v_ k_ s_ lv p_).2 ∧ ∀ j_, ¬ j_ = k_ → zpl1 I_ v_ k_ s_ lv p_ 30 44 j_ = I_ 30 44 j_ ∧ zpl1 I_ v_ k_ s_ lv p_ 30 45 j_ = I_ 30 45 j_ := by
  unfold zpl1 zzbe
  rw [h_.a1]
  by_cases hc_ : k_ = 0 ∧ ¬ D_ 31 19 v_ = 0
  · rw [if_pos hc_, if_pos hc_]
    refine ⟨?_, ?_, fun j_ hj => ⟨?_, ?_⟩⟩
    · rw [zset_ne (by simp), zset_is]; exact h_.at _ (by decide)
    · rw [zset_is, zset_ne (by simp)]; exact h_.at _ (by decide)
    · rw [zset_ne (by simp), zset_ne (by simp [hj])]
    · rw [zset_ne (by simp [hj]), zset_ne (by simp)]
  · rw [if_neg hc_, if_neg hc_]
    have hk : ∀ (x_ : Int32), zmkd (zset I_ 30 44 k_ x_) (s_ / 2) = zmkd D_ (s_ / 2) := fun x_ => by
      have e_ : zmkd (zset I_ 30 44 k_ x_) (s_ / 2) = zmkd I_ (s_ / 2) := by
        unfold zmkd zmrd
        rw [zset_ne (by simp), zset_ne (by simp)]
      rw [e_, h_.kd]
    refine ⟨?_, ?_, fun j_ hj => ⟨?_, ?_⟩⟩
    · rw [zset_ne (by simp), zset_is, h_.pl, h_.lv]
    · rw [zset_is, zset_is, hk, h_.pl, h_.lv]
    · rw [zset_ne (by simp), zset_ne (by simp [hj])]
    · rw [zset_ne (by simp [hj]), zset_ne (by simp)]
theorem zpl1_fx {I_ : zIn} {v_ k_ s_ : Nat} {lv p_ : Int32} : zfx (zpl1 I_ v_ k_ s_ lv p_) I_ := by
  unfold zpl1
  split
  · exact (zfx.rfl.set (by decide) (by decide)).set (by decide) (by decide)
  · exact (zfx.rfl.set (by decide) (by decide)).set (by decide) (by decide)
theorem zzpl {D_ : zIn} {v_ : Nat} : ∀ (l : List Nat) (k_ : Nat) (lv p_ : Int32) (I_ : zIn), zzg I_ D_ → (∀ j_ be, (zzpt D_ v_ l k_ lv p_)[j_]? = some be → zplm v_ l k_ lv p_ I_ 30 44 (k_ + j_) = be.1 ∧ zplm v_ l k_ lv p_ I_ 30 45 (k_ + j_) = be.2) ∧ ∀ j_, j_ < k_ → zplm v_ l k_ lv p_ I_ 30 44 j_ = I_ 30 44 j_ ∧ zplm v_ l k_ lv p_ I_ 30 45 j_ = I_ 30 45 j_
  | [], k_, lv, p_, I_, h_ => ⟨fun j_ be hj => by simp [zzpt] at hj, fun _ _ => ⟨rfl, rfl⟩⟩
  | s_ :: r_, k_, lv, p_, I_, h_ => by
    obtain ⟨a1_, a2, a3⟩ := zzpl1 (v_ := v_) (k_ := k_) (s_ := s_) (lv := lv) (p_ := p_) h_
    have h1 : zzg (zpl1 I_ v_ k_ s_ lv p_) D_ := zpl1_fx.zg.trans h_
    have ih_ := zzpl (v_ := v_) r_ (k_ + 1) (zpl1 I_ v_ k_ s_ lv p_ 30 45 k_) (zmpl (zpl1 I_ v_ k_ s_ lv p_) s_) (zpl1 I_ v_ k_ s_ lv p_) h1
    rw [a2, h1.pl] at ih_
    unfold zplm zzpt
    rw [a2, h1.pl]
    refine ⟨fun j_ be hj => ?_, fun j_ hj => ?_⟩
    · cases j_ with
      | zero =>
        have e_ : zzbe D_ v_ k_ s_ lv p_ = be := by simpa using hj
        rw [← e_]
        obtain ⟨b1, b2⟩ := ih_.2 k_ (by omega)
        exact ⟨b1.trans a1_, b2.trans a2⟩
      | succ j_ =>
        have := ih_.1 j_ be (by simpa using hj)
        rw [show k_ + (j_ + 1) = k_ + 1 + j_ by omega]
        exact this
    · obtain ⟨b1, b2⟩ := ih_.2 j_ (by omega)
      obtain ⟨c1_, c2_⟩ := a3 j_ (by omega)
      exact ⟨b1.trans c1_, b2.trans c2_⟩
def zzP (D_ : zIn) (v_ : Nat) (l : List Nat) : List (Int32 × Int32) := zzpt D_ v_ l 0 (if D_ 7 0 2 + 1 < D_ 30 18 v_ then D_ 30 18 v_ else D_ 7 0 2 + 1) (D_ 30 17 v_)
def zzB (P_ : List (Int32 × Int32)) (k_ : Nat) : Int32 := ((P_[k_]?).getD (0, 0)).1
def zzE (P_ : List (Int32 × Int32)) (k_ : Nat) : Int32 := ((P_[k_]?).getD (0, 0)).2
theorem zzpln {I_ D_ : zIn} {v_ : Nat} {l : List Nat} (h_ : zzg I_ D_) : ∀ j_, j_ < l.length → zpln I_ v_ l 30 44 j_ = zzB (zzP D_ v_ l) j_ ∧ zpln I_ v_ l 30 45 j_ = zzE (zzP D_ v_ l) j_ := by
  intro j_ hj
  have h1 := (zzpl (v_ := v_) l 0 (if D_ 7 0 2 + 1 < D_ 30 18 v_ then D_ 30 18 v_ else D_ 7 0 2 + 1) (D_ 30 17 v_) I_ h_).1 j_
  have hlen : (zzP D_ v_ l).length = l.length := zzpt_len l _ _ _
  obtain ⟨be, hb_⟩ : ∃ be, (zzP D_ v_ l)[j_]? = some be := ⟨_, List.getElem?_eq_getElem (by omega)⟩
  have h2 := h1 be hb_
  unfold zpln
  rw [h_.a7 (by decide), h_.at (i_ := 18) v_ (by decide), h_.at (i_ := 17) v_ (by decide)]
  rw [Nat.zero_add] at h2
  unfold zzB zzE
  rw [hb_]
  exact h2
def zzpe (D_ : zIn) (l : List Nat) (P_ : List (Int32 × Int32)) (q_ : Nat) : Int32 := match zlx (2 * q_) l 0 none with
  | none => D_ 30 37 q_
  | some j_ => zzE P_ j_
def zztl (D_ : zIn) (l : List Nat) (P_ : List (Int32 × Int32)) (k_ s_ : Nat) : Bool := if s_ % 2 = 0 then decide (D_ 30 34 (s_ / 2) + 20 < zzB P_ k_) else decide (zmlt D_ (s_ / 2) (zzpe D_ l P_ (s_ / 2)) < zzB P_ k_)
def zzK (K_ D_ : zIn) (l : List Nat) (P_ : List (Int32 × Int32)) : Prop := zzg K_ D_ ∧ ∀ j_, j_ < l.length → K_ 30 44 j_ = zzB P_ j_ ∧ K_ 30 45 j_ = zzE P_ j_
theorem zzK.set {K_ D_ : zIn} {l : List Nat} {P_ : List (Int32 × Int32)} {j_ : Nat} {x_ : Int32} (h_ : zzK K_ D_ l P_) : zzK (zset K_ 30 46 j_ x_) D_ l P_ := by
  refine ⟨fun c_ i_ f_ a_ b_ => (zset_ne (fun e_ => a_ ⟨e_.1, by omega⟩)).trans (h_.1 c_ i_ f_ a_ b_), fun k_ hk => ?_⟩
  rw [zset_ne (by simp), zset_ne (by simp)]
  exact h_.2 k_ hk
theorem zztl_eq {K_ D_ : zIn} {l : List Nat} {P_ : List (Int32 × Int32)} {k_ s_ : Nat} (h_ : zzK K_ D_ l P_) (hk : k_ < l.length) : zmtl K_ l k_ s_ = zztl D_ l P_ k_ s_ := by
  unfold zmtl zztl
  rw [h_.1.at _ (by decide), (h_.2 k_ hk).1, h_.1.lt]
  have e_ : zpeo K_ l (s_ / 2) = zzpe D_ l P_ (s_ / 2) := by
    unfold zpeo zzpe
    cases hx : zlx (2 * (s_ / 2)) l 0 none with
    | none => exact h_.1.at _ (by decide)
    | some j_ => exact (h_.2 j_ (zlx_lt l 0 none l.length (by omega) (fun _ e_ => by cases e_) j_ hx)).2
  rw [e_]
def zzst (D_ : zIn) (s_ : Nat) (st_ : List Nat) : List Nat := if zmkd D_ (s_ / 2) = 2 then st_ ++ [s_ / 2] else st_
def zzsd (D_ : zIn) (s_ : Nat) (st_ : List Nat) : List Nat := if zmkd D_ (s_ / 2) = 2 then st_.dropLast else st_
def zzck (D_ : zIn) (v_ : Nat) (l : List Nat) (P_ : List (Int32 × Int32)) : List Nat → Nat → Int32 → List Nat → Bool
  | [], _, _, _ => true
  | s_ :: r_, k_, u_, st_ =>
    if s_ % 2 = 0 then (!zztl D_ l P_ k_ s_ && (decide (u_ + zmse D_ (s_ / 2) ≤ D_ 30 13 v_) && decide (Int32.ofNat (zzst D_ s_ st_).length ≤ D_ 30 14 v_))) && zzck D_ v_ l P_ r_ (k_ + 1) (u_ + zmse D_ (s_ / 2)) (zzst D_ s_ st_)
    else (!zztl D_ l P_ k_ s_ && (decide (zmch D_ s_ = 0) || decide (st_.getLast? = some (s_ / 2)))) && zzck D_ v_ l P_ r_ (k_ + 1) (u_ - zmse D_ (s_ / 2)) (zzsd D_ s_ st_)
def zzba (D_ : zIn) (v_ : Nat) (l : List Nat) (P_ : List (Int32 × Int32)) : Int32 := zzE P_ (l.length - 1) + 2 * zspm (zmpl D_ (l.getLast?.getD 0)) (D_ 30 12 v_)
def zzen (D_ : zIn) (v_ : Nat) (l : List Nat) (P_ : List (Int32 × Int32)) : Bool := l.isEmpty || decide (zzba D_ v_ l P_ ≤ 600)
def zzrt (D_ : zIn) (v_ : Nat) (l st_ : List Nat) : Bool := zzck D_ v_ l (zzP D_ v_ l) l 0 (D_ 30 23 v_) st_ && zzen D_ v_ l (zzP D_ v_ l)
theorem zzen_eq {K_ D_ : zIn} {v_ : Nat} {l : List Nat} {P_ : List (Int32 × Int32)} (h_ : zzK K_ D_ l P_) : zmrE K_ v_ l = zzen D_ v_ l P_ := by
  unfold zmrE zzen
  cases l with
  | nil => rw [List.isEmpty_nil, Bool.true_or, Bool.true_or]
  | cons a_ b_ =>
    unfold zmba zzba
    rw [(h_.2 _ (by rw [List.length_cons]; omega)).2, h_.1.pl, h_.1.at _ (by decide)]
theorem zzmF_f {v_ : Nat} {l : List Nat} : ∀ (r_ : List Nat) (k_ : Nat) (u_ : Int32) (m_ : Nat) (I_ : zIn), (zmrF v_ l r_ k_ u_ m_ false I_).1 = false
  | [], _, _, _, _ => rfl
  | _ :: _, _, _, _, _ => rfl
/-- the model's stack of chairs -/
def zzsk (K_ : zIn) (m_ : Nat) (st_ : List Nat) : Prop := m_ = st_.length ∧ ∀ j_ q_, st_[j_]? = some q_ → K_ 30 46 j_ = Int32.ofNat q_ ∧ q_ < 60
theorem zzmF {D_ : zIn} {v_ : Nat} {l : List Nat} {P_ : List (Int32 × Int32)} : ∀ (r_ : List Nat) (k_ : Nat) (u_ : Int32) (m_ : Nat) (I_ : zIn) (st_ : List Nat), k_ + r_.length = l.length → (∀ s_ ∈ r_, s_ < 120) → zzK I_ D_ l P_ → zzsk I_ m_ st_ → zmrO D_ r_ m_ → (zmrF v_ l r_ k_ u_ m_ true I_).1 = (zzck D_ v_ l P_ r_ k_ u_ st_ && zzen D_ v_ l P_)
  | [], k_, u_, m_, I_, st_, hk, hs, hK_, hst, hO => by
    show (true && zmrE I_ v_ l) = (true && zzen D_ v_ l P_)
    rw [zzen_eq hK_]
  | s_ :: r_, k_, u_, m_, I_, st_, hk, hs, hK_, hst, hO => by
    rw [List.length_cons] at hk
    have hkl : k_ < l.length := by omega
    have hs120 := hs s_ List.mem_cons_self
    have hsr : ∀ s_ ∈ r_, s_ < 120 := fun s_ h_ => hs s_ (List.mem_cons_of_mem _ h_)
    unfold zmrO at hO
    unfold zmrF zzck
    rw [if_neg (by decide), hK_.1.se, hK_.1.ch]
    by_cases hp : s_ % 2 = 0
    · rw [if_pos hp] at hO
      rw [if_pos hp, if_pos hp]
      have hK2 : zzK (zmsA I_ m_ s_) D_ l P_ := by
        unfold zmsA
        split
        · exact hK_.set
        · exact hK_
      have hst2 : zzsk (zmsA I_ m_ s_) (m_ + zmch D_ s_) (zzst D_ s_ st_) := by
        unfold zmsA zzst zmch
        rw [hK_.1.kd]
        by_cases hc_ : zmkd D_ (s_ / 2) = 2
        · rw [if_pos hc_, if_pos hc_, if_pos hc_]
          refine ⟨by rw [List.length_append, hst.1]; rfl, fun j_ q_ hj => ?_⟩
          by_cases hjm : j_ < st_.length
          · rw [List.getElem?_append_left hjm] at hj
            have hm_ := hst.1
            rw [zset_ne (by omega)]
            exact hst.2 j_ q_ hj
          · have hlt := (List.getElem?_eq_some_iff.mp hj).1
            rw [List.length_append] at hlt
            have hlt2 : j_ < st_.length + 1 := hlt
            have hje : j_ = st_.length := by omega
            rw [hje, List.getElem?_append_right (Nat.le_refl _), Nat.sub_self] at hj
            have hq : s_ / 2 = q_ := by simpa using hj
            have hm_ := hst.1
            rw [hje, ← hm_, zset_is, ← hq]
            exact ⟨rfl, by omega⟩
        · rw [if_neg hc_, if_neg hc_, if_neg hc_]
          exact hst
      have hb_ : zmrP I_ v_ l k_ u_ m_ s_ = (!zztl D_ l P_ k_ s_ && (decide (u_ + zmse D_ (s_ / 2) ≤ D_ 30 13 v_) && decide (Int32.ofNat (zzst D_ s_ st_).length ≤ D_ 30 14 v_))) := by
        unfold zmrP
        rw [zztl_eq hK_ hkl, hK2.1.at _ (by decide), hK2.1.at _ (by decide), hK_.1.se, hK_.1.ch, hst2.1]
      rw [hb_]
      cases hbv : (!zztl D_ l P_ k_ s_ && (decide (u_ + zmse D_ (s_ / 2) ≤ D_ 30 13 v_) && decide (Int32.ofNat (zzst D_ s_ st_).length ≤ D_ 30 14 v_))) with
      | false => rw [zzmF_f]; rfl
      | true =>
        rw [zzmF r_ (k_ + 1) _ _ _ (zzst D_ s_ st_) (by omega) hsr hK2 hst2 hO.2, Bool.true_and]
    · rw [if_neg hp] at hO
      rw [if_neg hp, if_neg hp]
      have hst2 : zzsk I_ (m_ - zmch D_ s_) (zzsd D_ s_ st_) := by
        unfold zzsd zmch
        by_cases hc_ : zmkd D_ (s_ / 2) = 2
        · rw [if_pos hc_, if_pos hc_]
          refine ⟨by rw [List.length_dropLast, hst.1], fun j_ q_ hj => ?_⟩
          have hlt := (List.getElem?_eq_some_iff.mp hj).1
          rw [List.length_dropLast] at hlt
          rw [List.getElem?_dropLast, if_pos hlt] at hj
          exact hst.2 j_ q_ hj
        · rw [if_neg hc_, if_neg hc_]
          exact hst
      have hb_ : zmrD I_ l k_ m_ s_ = (!zztl D_ l P_ k_ s_ && (decide (zmch D_ s_ = 0) || decide (st_.getLast? = some (s_ / 2)))) := by
        unfold zmrD
        rw [zztl_eq hK_ hkl, hK_.1.ch]
        by_cases hc_ : zmch D_ s_ = 0
        · rw [decide_eq_true hc_]; rfl
        · have hm1 : 1 ≤ m_ := by
            rcases hO.1 with h_ | h_
            · exact absurd h_ hc_
            · exact h_.1
          have hm_ := hst.1
          obtain ⟨q_, hq⟩ : ∃ q_, st_[m_ - 1]? = some q_ := ⟨_, List.getElem?_eq_getElem (by omega)⟩
          have hl : st_.getLast? = some q_ := by rw [List.getLast?_eq_getElem?, ← hm_]; exact hq
          obtain ⟨g1, g2⟩ := hst.2 _ _ hq
          rw [hl, g1]
          congr 2
          have hio : Int32.ofNat q_ = Int32.ofNat (s_ / 2) ↔ q_ = s_ / 2 := zof_eq (by omega) (by omega)
          by_cases he : q_ = s_ / 2
          · rw [decide_eq_true (hio.mpr he), decide_eq_true (by rw [he])]
          · rw [decide_eq_false (fun e_ => he (hio.mp e_)), decide_eq_false (fun e_ => he (Option.some.inj e_))]
      rw [hb_]
      cases hbv : (!zztl D_ l P_ k_ s_ && (decide (zmch D_ s_ = 0) || decide (st_.getLast? = some (s_ / 2)))) with
      | false => rw [zzmF_f]; rfl
      | true =>
        rw [zzmF r_ (k_ + 1) _ _ _ (zzsd D_ s_ st_) (by omega) hsr hK_ hst2 hO.2, Bool.true_and]
theorem zzcpS {v_ : Nat} : ∀ (n_ k_ : Nat) (I_ : zIn) (j_ : Nat), zcpS v_ n_ k_ I_ 30 46 j_ = if k_ ≤ j_ ∧ j_ < k_ + n_ then I_ 30 24 (3 * v_ + j_) else I_ 30 46 j_
  | 0, k_, I_, j_ => by
    rw [if_neg (by omega)]; rfl
  | n_ + 1, k_, I_, j_ => by
    unfold zcpS
    rw [zzcpS n_ (k_ + 1) _ j_]
    by_cases h1 : k_ + 1 ≤ j_ ∧ j_ < k_ + 1 + n_
    · rw [if_pos h1, if_pos (by omega), zset_ne (by simp)]
    · rw [if_neg h1]
      by_cases h2 : j_ = k_
      · subst h2
        rw [if_pos (by omega), zset_is]
      · rw [if_neg (by omega), zset_ne (by omega)]
theorem zzcpS_45 {v_ i_ j_ : Nat} (hi_ : ¬ i_ = 46) : ∀ (n_ k_ : Nat) (I_ : zIn), zcpS v_ n_ k_ I_ 30 i_ j_ = I_ 30 i_ j_
  | 0, _, _ => rfl
  | n_ + 1, k_, I_ => by
    unfold zcpS
    rw [zzcpS_45 hi_ n_ (k_ + 1) _, zset_ne (by omega)]
/-- the model's isRight is zzrt -/
theorem zzmR {K_ D_ : zIn} {v_ m_ : Nat} {l st_ : List Nat} (hK_ : zzg K_ D_) (hm_ : m_ = st_.length) (hst : ∀ j_ q_, st_[j_]? = some q_ → D_ 30 24 (3 * v_ + j_) = Int32.ofNat q_ ∧ q_ < 60) (hs : ∀ s_ ∈ l, s_ < 120) (hO : zmrO D_ l m_) : (zmrT K_ v_ l m_).1 = zzrt D_ v_ l st_ := by
  unfold zmrT zzrt
  have h1 : zzg (zpln K_ v_ l) D_ := zpln_fx.zg.trans hK_
  have h2 : zzg (zcpS v_ m_ 0 (zpln K_ v_ l)) D_ := (zcpS_fx m_ 0 _).zg.trans h1
  rw [h1.at (i_ := 23) v_ (by decide)]
  refine zzmF l 0 _ m_ _ st_ (by omega) hs ⟨h2, fun j_ hj => ?_⟩ ⟨hm_, fun j_ q_ hj => ?_⟩ hO
  · rw [zzcpS_45 (by decide), zzcpS_45 (by decide)]
    exact zzpln hK_ j_ hj
  · have hlt := (List.getElem?_eq_some_iff.mp hj).1
    rw [zzcpS, if_pos (by omega), h1.at _ (by decide)]
    exact hst j_ q_ hj

