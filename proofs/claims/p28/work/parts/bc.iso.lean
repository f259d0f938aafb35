/-! THE LAW'S isSo: all stops -/
def zti (D_ : zIn) (S_ : List Nat) (P_ : List (Int32 × Int32)) : List Nat → Nat → Bool
  | [], _ => true
  | s_ :: r_, k_ => !zztl D_ S_ P_ k_ s_ && zti D_ S_ P_ r_ (k_ + 1)
def zlfi (D_ : zIn) (v_ : Nat) : List Nat → Nat → Int32 → Int32 → Int32
  | [], _, lv, _ => lv
  | s_ :: r_, k_, lv, p_ => zlfi D_ v_ r_ (k_ + 1) (zzbe D_ v_ k_ s_ lv p_).2 (zmpl D_ s_)
theorem zzisub {x_ y_ : Int32} (h_ : -2000 ≤ x_.toInt - y_.toInt) (h2 : x_.toInt - y_.toInt ≤ 2000) : (x_ - y_).toInt = x_.toInt - y_.toInt := by
  rw [Int32.toInt_sub, Int.bmod_eq_of_le (by omega) (by omega)]

section
variable {I0_ : zIn} {L0_ : zLi} {D_ : zIn} {M_ v_ j_ : Nat} {a_ : Nat} {Q_ : zPost} {y13 y20 : Int32}
set_option maxRecDepth 100000 in
theorem zoK (hR0 : zzR I0_ L0_ D_ 6 2 M_) (hv : v_ < 2) (hT_ : zTie I0_ M_) : ∀ (r_ : List Nat) (k_ : Nat) (I_ : zIn) (L_ : zLi) (p_ lv u_ w_ : Int32) (st_ : List Nat) (c_ : Nat) (rb : Bool) (x23 x24 x25 x26 x27 x28 x29 x30 x31 x32 : Option zW), c_ = st_.length → (L0_ 24 v_).drop k_ = r_ → (zzP D_ v_ (L0_ 24 v_)).drop k_ = zzpt D_ v_ r_ k_ lv p_ → zzfe D_ v_ r_ u_.toInt st_ → st_.length ≤ 3 + k_ → -(3 * (k_ : Int)) ≤ u_.toInt → u_.toInt ≤ 8 → (∀ i_ q_, st_[i_]? = some q_ → I_ 30 (101 + 2 * j_) i_ = Int32.ofNat q_) → (∀ f_, f_ < k_ → I_ 30 (100 + 2 * j_) f_ = zzE (zzP D_ v_ (L0_ 24 v_)) f_) → zEv I0_ L0_ I_ L_ → k_ ≤ (L0_ 24 v_).length →
    (∀ I' L' u' c' x23 x24 x25 x26 x27 x28 x29 x30 x31 x32, zEv I0_ L0_ I' L' → (∀ i_, I' 99 30 i_ = I_ 99 30 i_) → zY none 18 126 289 (zlS6 v_ M_ j_ (some (zwI (Int32.ofNat (L0_ 24 v_).length))) (some (zwI (zkm D_ r_ p_ w_).1)) (some (zwI y13)) (some (zwI (zlfi D_ v_ r_ k_ lv p_))) (some (zwI u')) (some (zwI c')) (some (zwI (zkm D_ r_ p_ w_).2)) (some (zwI 1)) (some (zwI (if (rb && zti D_ (L0_ 24 v_) (zzP D_ v_ (L0_ 24 v_)) r_ k_) = true then 1 else 0))) (some (zwI y20)) (some (zwI (-1))) (some (zwI (Int32.ofNat (L0_ 24 v_).length))) x23 x24 x25 x26 x27 x28 x29 x30 x31 x32) [] I' L' a_ Q_) → zY none 18 126 289 (zlS6 v_ M_ j_ (some (zwI (Int32.ofNat (L0_ 24 v_).length))) (some (zwI p_)) (some (zwI y13)) (some (zwI lv)) (some (zwI u_)) (some (zwI (Int32.ofNat c_))) (some (zwI w_)) (some (zwI 1)) (some (zwI (if rb = true then 1 else 0))) (some (zwI y20)) (some (zwI (-1))) (some (zwI (Int32.ofNat k_))) x23 x24 x25 x26 x27 x28 x29 x30 x31 x32) [] I_ L_ a_ Q_
  | [], k_, I_, L_, p_, lv, u_, w_, st_, c_, rb, x23, x24, x25, x26, x27, x28, x29, x30, x31, x32, ec, hd_, hP, hfe, hst, hu1, hu2, hc_, he, hE, hk, hX => by
    have hkl : k_ = (L0_ 24 v_).length := by
      have := List.drop_eq_nil_iff.mp hd_
      omega
    have := hX I_ L_ u_ (Int32.ofNat c_) x23 x24 x25 x26 x27 x28 x29 x30 x31 x32 hE (fun _ => rfl)
    rw [← hkl] at this ⊢
    rw [show (rb && zti D_ (L0_ 24 v_) (zzP D_ v_ (L0_ 24 v_)) [] k_) = rb from Bool.and_true rb] at this
    exact this
  | s_ :: r_, k_, I_, L_, p_, lv, u_, w_, st_, c_, rb, x23, x24, x25, x26, x27, x28, x29, x30, x31, x32, ec, hd_, hP, hfe, hst, hu1, hu2, hc_, he, hE, hk, hX => by
    have hl16 : (L0_ 24 v_).length ≤ 16 := (zzA26 hR0 hv).2
    have hs : (L0_ 24 v_)[k_]? = some s_ := by
      have h0 : ((L0_ 24 v_).drop k_)[0]? = some s_ := by rw [hd_]; rfl
      rw [List.getElem?_drop, Nat.add_zero] at h0
      exact h0
    have hkl : k_ < (L0_ 24 v_).length := (List.getElem?_eq_some_iff.mp hs).1
    have hd2 : (L0_ 24 v_).drop (k_ + 1) = r_ := by
      have h1 := zdrop_cons hs
      rw [hd_] at h1
      exact (List.cons.inj h1).2.symm
    have hPk : (zzP D_ v_ (L0_ 24 v_))[k_]? = some (zzbe D_ v_ k_ s_ lv p_) := by
      have h0 : ((zzP D_ v_ (L0_ 24 v_)).drop k_)[0]? = some (zzbe D_ v_ k_ s_ lv p_) := by rw [hP]; rfl
      rw [List.getElem?_drop, Nat.add_zero] at h0
      exact h0
    have hP2 : (zzP D_ v_ (L0_ 24 v_)).drop (k_ + 1) = zzpt D_ v_ r_ (k_ + 1) (zzbe D_ v_ k_ s_ lv p_).2 (zmpl D_ s_) := by
      have h1 := zdrop_cons hPk
      rw [hP] at h1
      exact (List.cons.inj h1).2.symm
    obtain ⟨b1, b2⟩ := zzBE hPk
    have hse := zzse (D_ := D_) (s_ / 2)
    have h13 : (D_ 30 13 v_).toInt ≤ 8 := (zzH_of (zzQ_of hR0 hv)).2.2.1
    refine zoA hR0 hv hT_ hE hs (fun I1 L1 hE1 a1_ a2 a3 => ?_)
    refine zoB2 hR0 hv hE1 hs hPk (fun I2_ L2_ hE2 d1_ d2_ d3_ d4_ => ?_)
    have he2 : ∀ f_, f_ < k_ → I2_ 30 (100 + 2 * j_) f_ = zzE (zzP D_ v_ (L0_ 24 v_)) f_ := fun f_ hf => (d1_ f_ (by omega)).trans ((a1_ f_).trans (he f_ hf))
    have hc2 : ∀ f_, I2_ 30 (101 + 2 * j_) f_ = I_ 30 (101 + 2 * j_) f_ := fun f_ => (d3_ f_).trans (a2 f_)
    have h99 : ∀ i_, I2_ 99 30 i_ = I_ 99 30 i_ := fun i_ => (d4_ i_).trans (a3 i_)
    rw [← b1]
    by_cases hp : s_ % 2 = 0
    · obtain ⟨f1_, f2_, f3_⟩ := (zzfe_e hp).mp hfe
      have elen : (zzst D_ s_ st_).length = c_ + zmch D_ s_ := by
        unfold zzst zmch
        by_cases e_ : zmkd D_ (s_ / 2) = 2
        · rw [if_pos e_, if_pos e_, List.length_append, ec]; rfl
        · rw [if_neg e_, if_neg e_, ec, Nat.add_zero]
      have eu : (u_ + zmse D_ (s_ / 2)).toInt = u_.toInt + (zmse D_ (s_ / 2)).toInt := zziadd2 (by omega) (by omega)
      refine zoP hR0 hv hT_ hE2 hs hp (by omega) (by rw [Int32.le_iff_toInt_le, eu]; exact f1_) (by rw [← elen]; exact f2_) (fun I3 g1 g2 g3_ g4 hE3 => ?_)
      refine zo799 ?_
      refine zoK hR0 hv hT_ r_ (k_ + 1) I3 L2_ _ _ _ _ (zzst D_ s_ st_) _ _ _ _ _ _ _ _ _ _ _ _ elen.symm hd2 hP2 (by rw [eu]; exact f3_) ?_ (by rw [eu]; omega) (by rw [eu]; omega) ?_ ?_ hE3 (by omega) (fun I' L' u' c' x23 x24 x25 x26 x27 x28 x29 x30 x31 x32 hE' h9 => ?_)
      · rw [elen]
        have := zzch_le (D_ := D_) (s_ := s_)
        omega
      · intro i_ q_ hi_
        unfold zzst at hi_
        by_cases e_ : zmkd D_ (s_ / 2) = 2
        · rw [if_pos e_] at hi_
          rcases Nat.lt_or_ge i_ st_.length with h1 | h1
          · rw [List.getElem?_append_left h1] at hi_
            rw [g2 i_ (by omega), hc2]
            exact hc_ i_ q_ hi_
          · rw [List.getElem?_append_right h1] at hi_
            have hi0_ : i_ = c_ := by
              have := (List.getElem?_eq_some_iff.mp hi_).1
              simp at this
              omega
            rw [hi0_, ec, Nat.sub_self] at hi_
            have hq2 : s_ / 2 = q_ := by simpa using hi_
            rw [hi0_, g3_ e_, hq2]
        · rw [if_neg e_] at hi_
          have h1 := (List.getElem?_eq_some_iff.mp hi_).1
          rw [g2 i_ (by omega), hc2]
          exact hc_ i_ q_ hi_
      · intro f_ hf
        rw [g1]
        rcases Nat.lt_or_ge f_ k_ with h1 | h1
        · exact he2 f_ h1
        · have : f_ = k_ := by omega
          rw [this, d2_, b2]
      · have := hX I' L' u' c' x23 x24 x25 x26 x27 x28 x29 x30 x31 x32 hE' (fun i_ => (h9 i_).trans ((g4 i_).trans (h99 i_)))
        rw [show (rb && zti D_ (L0_ 24 v_) (zzP D_ v_ (L0_ 24 v_)) (s_ :: r_) k_) = (rb && !zztl D_ (L0_ 24 v_) (zzP D_ v_ (L0_ 24 v_)) k_ s_ && zti D_ (L0_ 24 v_) (zzP D_ v_ (L0_ 24 v_)) r_ (k_ + 1)) from (Bool.and_assoc _ _ _).symm] at this
        exact this
    · obtain ⟨f1_, f2_⟩ := (zzfe_o hp).mp hfe
      have eu : (u_ - zmse D_ (s_ / 2)).toInt = u_.toInt - (zmse D_ (s_ / 2)).toInt := zzisub (by omega) (by omega)
      have hlast : zmkd D_ (s_ / 2) = 2 → 1 ≤ c_ ∧ st_[c_ - 1]? = some (s_ / 2) := by
        intro e_
        have ech : zmch D_ s_ = 1 := if_pos e_
        rcases f1_ with f1_ | f1_
        · omega
        · rw [List.getLast?_eq_getElem?] at f1_
          have h1 := (List.getElem?_eq_some_iff.mp f1_).1
          exact ⟨by omega, by rw [ec]; exact f1_⟩
      have elen : (zzsd D_ s_ st_).length = c_ - zmch D_ s_ := by
        unfold zzsd zmch
        by_cases e_ : zmkd D_ (s_ / 2) = 2
        · rw [if_pos e_, if_pos e_, List.length_dropLast, ec]
        · rw [if_neg e_, if_neg e_, ec, Nat.sub_zero]
      refine zoD hR0 hv hT_ hE2 hs hp (by omega) he2 (fun e_ => ?_) (fun I3 L3_ z31_ z32 g1 g2 hE3 => ?_)
      · obtain ⟨h1, h2⟩ := hlast e_
        exact ⟨h1, by rw [hc2]; exact hc_ _ _ h2⟩
      · refine zo799 ?_
        refine zoK hR0 hv hT_ r_ (k_ + 1) I3 L3_ _ _ _ _ (zzsd D_ s_ st_) _ _ _ _ _ _ _ _ _ _ _ _ elen.symm hd2 hP2 (by rw [eu]; exact f2_) ?_ (by rw [eu]; omega) (by rw [eu]; omega) ?_ ?_ hE3 (by omega) (fun I' L' u' c' x23 x24 x25 x26 x27 x28 x29 x30 x31 x32 hE' h9 => ?_)
        · rw [elen]; omega
        · intro i_ q_ hi_
          rw [g1, hc2]
          refine hc_ i_ q_ ?_
          unfold zzsd at hi_
          by_cases e_ : zmkd D_ (s_ / 2) = 2
          · rw [if_pos e_] at hi_
            rw [List.getElem?_dropLast] at hi_
            split at hi_
            · exact hi_
            · cases hi_
          · rw [if_neg e_] at hi_
            exact hi_
        · intro f_ hf
          rw [g1]
          rcases Nat.lt_or_ge f_ k_ with h1 | h1
          · exact he2 f_ h1
          · have : f_ = k_ := by omega
            rw [this, d2_, b2]
        · have := hX I' L' u' c' x23 x24 x25 x26 x27 x28 x29 x30 x31 x32 hE' (fun i_ => (h9 i_).trans ((g2 i_).trans (h99 i_)))
          rw [show (rb && zti D_ (L0_ 24 v_) (zzP D_ v_ (L0_ 24 v_)) (s_ :: r_) k_) = (rb && !zztl D_ (L0_ 24 v_) (zzP D_ v_ (L0_ 24 v_)) k_ s_ && zti D_ (L0_ 24 v_) (zzP D_ v_ (L0_ 24 v_)) r_ (k_ + 1)) from (Bool.and_assoc _ _ _).symm] at this
          exact this
end
