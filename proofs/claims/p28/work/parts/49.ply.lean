/-! CONTRACTS: layPlan, isRight -/
theorem zof_0 {i_ : Nat} (h_ : i_ < 100000) : Int32.ofNat i_ = 0 ↔ i_ = 0 := ⟨fun e_ => by have := zicl h_; rw [e_] at this; exact this.symm, fun e_ => by rw [e_]; rfl⟩
def zlft (I_ : zIn) (v_ i_ : Nat) : Int32 := if i_ = 0 ∧ ¬ I_ 5 v_ 10 = 0 then 1 else 0
def zlay (v_ : Nat) : List Nat → Nat → zIn → zIn
  | [], _, I_ => I_
  | s_ :: r_, i_, I_ => zlay v_ r_ (i_ + 1) (zgt I_ v_ s_ (zlft I_ v_ i_))
def zbck (I_ : zIn) (v_ : Nat) : Int32 := I_ 0 v_ 2 + 2 * zstp (I_ 0 v_ 1) (I_ 5 v_ 1)
theorem zm113l (v_ : Nat) (L_ : zLi) (x_ : Int32) (hn : (L_ 24 v_).length ≤ 1000) : ∀ (n_ i_ : Nat) (I_ : zIn), n_ + i_ = (L_ 24 v_).length → zY none 8 113 11 [some (zwR 5 v_), some (zwI x_), some (zwI (Int32.ofNat i_))] [] I_ L_ 0 (zRet (some (zwI (zbck (zlay v_ ((L_ 24 v_).drop i_) i_ I_) v_))) (zlay v_ ((L_ 24 v_).drop i_) i_ I_) L_)
  | 0, i_, I_, hi_ => by
    rw [List.drop_of_length_le (by omega)]
    refine zY.go 4 rfl ?_
    refine zY.bn rfl (by omega) (by omega) (fun _ => ?_) (fun hF => absurd (show (L_ 24 v_).length ≤ i_ by omega) hF)
    refine zY.go 4 rfl ?_
    refine zY.cr zm78 rfl rfl rfl rfl (Nat.le_of_ble_eq_true rfl) rfl (by decide) rfl (by decide) (by decide) ?_
    exact zY.ri rfl rfl ⟨rfl, rfl, rfl⟩
  | n_ + 1, i_, I_, hi_ => by
    obtain ⟨s_, hs⟩ : ∃ s_, (L_ 24 v_)[i_]? = some s_ := ⟨_, List.getElem?_eq_getElem (by omega)⟩
    rw [zdrop_cons hs]
    have ih_ := fun (I_ : zIn) => zm113l v_ L_ x_ hn n_ (i_ + 1) I_ (by omega)
    simp only [← zisucc] at ih_
    have hz := zof_0 (i_ := i_) (by omega)
    refine zY.go 4 rfl ?_
    refine zY.bn rfl (by omega) (by omega) (fun hT_ => absurd hT_ (show ¬ (L_ 24 v_).length ≤ i_ by omega)) (fun _ => ?_)
    refine zY.go 5 rfl ?_
    refine zY.cr (w_get rfl hs) rfl rfl rfl rfl (Nat.le_of_ble_eq_true rfl) rfl (by decide) rfl (by decide) (by decide) ?_
    refine zY.go 2 rfl ?_
    refine zY.bi rfl (fun hp38 => ?_) (fun hp38 => ?_)
    · refine zY.go 1 rfl ?_
      refine zY.cr zm75 rfl rfl rfl rfl (Nat.le_of_ble_eq_true rfl) rfl (by decide) rfl (by decide) (by decide) ?_
      refine zY.go 2 rfl ?_
      have e_ : zlft I_ v_ i_ = 0 := if_neg (fun h_ => hp38 (hz.mpr h_.1))
      unfold zlay; rw [e_]
      exact ih_ _
    · refine zY.go 2 rfl ?_
      refine zY.bi rfl (fun hp45 => ?_) (fun hp45 => ?_)
      · refine zY.go 1 rfl ?_
        refine zY.cr zm75 rfl rfl rfl rfl (Nat.le_of_ble_eq_true rfl) rfl (by decide) rfl (by decide) (by decide) ?_
        refine zY.go 2 rfl ?_
        have e_ : zlft I_ v_ i_ = 0 := if_neg (fun h_ => h_.2 (zbo_0.mp hp45))
        unfold zlay; rw [e_]
        exact ih_ _
      · refine zY.go 2 rfl ?_
        refine zY.cr zm75 rfl rfl rfl rfl (Nat.le_of_ble_eq_true rfl) rfl (by decide) rfl (by decide) (by decide) ?_
        refine zY.go 2 rfl ?_
        have e_ : zlft I_ v_ i_ = 1 := if_pos ⟨hz.mp (Decidable.byContradiction hp38), fun h_ => hp45 (zbo_0.mpr h_)⟩
        unfold zlay; rw [e_]
        exact ih_ _
/-- the state when the plan is laid -/
def zplS (I_ : zIn) (L_ : zLi) (v_ : Nat) (x_ : Int32) : zIn := zlay v_ (L_ 24 v_) 0 (zstr I_ L_ v_ x_)
def zplL (I_ : zIn) (L_ : zLi) (v_ : Nat) (x_ : Int32) : zLi := zlup L_ 27 v_ (zchl (zstr I_ L_ v_ x_) (L_ 26 v_))
theorem zm113 {I_ : zIn} {L_ : zLi} {v_ : Nat} {x_ : Int32} (hn : (L_ 26 v_).length ≤ 500) : zYm 8 113 [zwR 5 v_, zwI x_] I_ L_ 0 (zRet (some (zwI (zbck (zplS I_ L_ v_ x_) v_))) (zplS I_ L_ v_ x_) (zplL I_ L_ v_ x_)) := by
  refine zYm.inv (fun hi_ hw => ?_)
  have hx := hi_.veh (v_ := v_) (hw _ List.mem_cons_self)
  have hn24 := (hi_.1 24 v_ hx.1 (by decide)).1
  have h24 : zplL I_ L_ v_ x_ 24 v_ = L_ 24 v_ := zlup_ne (by simp)
  refine zYm.of (Nat.le_of_ble_eq_true rfl) rfl ?_
  refine zY.go 4 rfl ?_
  refine zY.cr (zm74 hn) rfl rfl rfl rfl (Nat.le_of_ble_eq_true rfl) rfl (by decide) rfl (by decide) (by decide) ?_
  refine zY.go 2 rfl ?_
  have := zm113l v_ (zplL I_ L_ v_ x_) x_ (by rw [h24]; exact hn24) (L_ 24 v_).length 0 (zstr I_ L_ v_ x_) (by rw [h24]; omega)
  rw [h24] at this
  exact this
/-- isRight, from a stop on -/
def zirl (v_ : Nat) : List Nat → Nat → zIn → zLi → Bool × (zIn × zLi)
  | [], _, I_, L_ => ((decide (L_ 24 v_ = []) || decide (zbck I_ v_ ≤ 600)), I_, L_)
  | s_ :: r_, i_, I_, L_ =>
    if zint (zgt I_ v_ s_ (zlft I_ v_ i_)) s_ = true then
      (if zclB (zcl1 (zgt I_ v_ s_ (zlft I_ v_ i_)) v_ s_) L_ v_ s_ (zgt I_ v_ s_ (zlft I_ v_ i_) 5 v_ 2) (zgt I_ v_ s_ (zlft I_ v_ i_) 5 v_ 3) = true then zirl v_ r_ (i_ + 1) (zcl1 (zgt I_ v_ s_ (zlft I_ v_ i_)) v_ s_) (zclL (zcl1 (zgt I_ v_ s_ (zlft I_ v_ i_)) v_ s_) L_ v_ s_)
      else (false, zcl1 (zgt I_ v_ s_ (zlft I_ v_ i_)) v_ s_, zclL (zcl1 (zgt I_ v_ s_ (zlft I_ v_ i_)) v_ s_) L_ v_ s_))
    else (false, zgt I_ v_ s_ (zlft I_ v_ i_), L_)
theorem zclL_ne {I_ : zIn} {L_ : zLi} {v_ s_ c_ i_ : Nat} (h_ : ¬ (c_ = 27 ∧ i_ = v_)) : zclL I_ L_ v_ s_ c_ i_ = L_ c_ i_ := by
  unfold zclL
  split
  · split
    · exact zlup_ne h_
    · split
      · exact zlup_ne h_
      · rfl
  · rfl
theorem zclL_len {I_ : zIn} {L_ : zLi} {v_ s_ : Nat} : (zclL I_ L_ v_ s_ 27 v_).length ≤ (L_ 27 v_).length + 1 := by
  unfold zclL
  split
  · split
    · rw [zlup_self]; simp
    · split
      · rw [zlup_self, List.length_eraseIdx]; split <;> omega
      · omega
  · omega
theorem zm93 {I_ : zIn} {L_ : zLi} {s_ : Nat} : zYm 2 93 [zwR 4 s_] I_ L_ 0 (zRet (some (zwI (if zint I_ s_ = true then 1 else 0))) I_ L_) := by
  refine zYm.of (Nat.le_of_ble_eq_true rfl) rfl ?_
  refine zY.go 4 rfl ?_
  refine zY.bi rfl (fun hp8 => ?_) (fun hp8 => ?_)
  · refine zY.go 5 rfl ?_
    refine zY.bc rfl (fun hp31 => ?_) (fun hp31 => ?_)
    · refine zY.go 1 rfl ?_
      exact zY.rb rfl rfl (Or.inl rfl) ⟨by simp_all [zcp, zpar_0, zint, Int32.not_le], rfl, rfl⟩
    · refine zY.go 2 rfl ?_
      exact zY.rb rfl rfl (Or.inr rfl) ⟨by simp_all [zcp, zpar_0, zint, Int32.not_lt], rfl, rfl⟩
  · refine zY.go 2 rfl ?_
    refine zY.cr zm85 rfl rfl rfl rfl (Nat.le_of_ble_eq_true rfl) rfl (by decide) rfl (by decide) (by decide) ?_
    refine zY.go 1 rfl ?_
    refine zY.bc rfl (fun hp31 => ?_) (fun hp31 => ?_)
    · refine zY.go 1 rfl ?_
      exact zY.rb rfl rfl (Or.inl rfl) ⟨by simp_all [zcp, zpar_0, zint, Int32.not_le], rfl, rfl⟩
    · refine zY.go 2 rfl ?_
      exact zY.rb rfl rfl (Or.inr rfl) ⟨by simp_all [zcp, zpar_0, zint, Int32.not_lt], rfl, rfl⟩
def zRb (p_ : Bool × (zIn × zLi)) : zPost := zRet (some (zwI (if p_.1 = true then 1 else 0))) p_.2.1 p_.2.2
theorem zm100t (v_ : Nat) (x_ : Int32) (s_ i_ n_ : Nat) (r_ : List Nat) (l0 : List Nat) (I_ : zIn) (L_ : zLi) (h24 : L_ 24 v_ = l0) (hn : (L_ 27 v_).length + (n_ + 1) < 590)
    (ih_ : ∀ (I_ : zIn) (L_ : zLi), L_ 24 v_ = l0 → (L_ 27 v_).length + n_ < 590 → zY none 9 100 11 [some (zwR 5 v_), some (zwI x_), some (zwI (Int32.ofNat i_ + 1)), some (zwR 4 s_)] [] I_ L_ 0 (zRb (zirl v_ r_ (i_ + 1) I_ L_))) :
    zY none 9 100 58 [some (zwR 5 v_), some (zwI x_), some (zwI (Int32.ofNat i_)), some (zwR 4 s_)] [] I_ L_ 0 (zRb (if zint I_ s_ = true then
      (if zclB (zcl1 I_ v_ s_) L_ v_ s_ (I_ 5 v_ 2) (I_ 5 v_ 3) = true then zirl v_ r_ (i_ + 1) (zcl1 I_ v_ s_) (zclL (zcl1 I_ v_ s_) L_ v_ s_)
      else (false, zcl1 I_ v_ s_, zclL (zcl1 I_ v_ s_) L_ v_ s_))
    else (false, I_, L_))) := by
  refine zY.go 1 rfl ?_
  refine zY.cr zm93 rfl rfl rfl rfl (Nat.le_of_ble_eq_true rfl) rfl (by decide) rfl (by decide) (by decide) ?_
  refine zY.bi rfl (fun hp62 => ?_) (fun hp62 => ?_)
  · have hz : zint I_ s_ = false := by
      cases h_ : zint I_ s_
      · rfl
      · rw [h_] at hp62; exact absurd hp62 (show ¬ ((1 : Int32) = 0) by decide)
    refine zY.go 1 rfl ?_
    rw [if_neg (by rw [hz]; decide)]
    exact zY.rb rfl rfl (Or.inl rfl) ⟨rfl, rfl, rfl⟩
  · have hz : zint I_ s_ = true := by
      cases h_ : zint I_ s_
      · rw [h_] at hp62; exact absurd rfl hp62
      · rfl
    refine zY.go 7 rfl ?_
    rw [if_pos hz]
    refine zY.cr (zm76 (by omega)) rfl rfl rfl rfl (Nat.le_of_ble_eq_true rfl) rfl (by decide) rfl (by decide) (by decide) ?_
    refine zY.bi rfl (fun hp81 => ?_) (fun hp81 => ?_)
    · have hy : zclB (zcl1 I_ v_ s_) L_ v_ s_ (I_ 5 v_ 2) (I_ 5 v_ 3) = true := by
        cases h_ : zclB (zcl1 I_ v_ s_) L_ v_ s_ (I_ 5 v_ 2) (I_ 5 v_ 3)
        · rw [h_] at hp81; exact absurd rfl hp81
        · rfl
      refine zY.go 2 rfl ?_
      rw [if_pos hy]
      exact ih_ _ _ ((zclL_ne (by simp)).trans h24) (by have := zclL_len (I_ := zcl1 I_ v_ s_) (L_ := L_) (v_ := v_) (s_ := s_); omega)
    · have hy : zclB (zcl1 I_ v_ s_) L_ v_ s_ (I_ 5 v_ 2) (I_ 5 v_ 3) = false := by
        cases h_ : zclB (zcl1 I_ v_ s_) L_ v_ s_ (I_ 5 v_ 2) (I_ 5 v_ 3)
        · rfl
        · rw [h_] at hp81; exact absurd (show ¬ ((1 : Int32) = 0) by decide) hp81
      refine zY.go 1 rfl ?_
      rw [if_neg (by rw [hy]; decide)]
      exact zY.rb rfl rfl (Or.inl rfl) ⟨rfl, rfl, rfl⟩
theorem zm100l (v_ : Nat) (x_ : Int32) (l0 : List Nat) (hn : l0.length ≤ 500) : ∀ (n_ i_ : Nat) (I_ : zIn) (L_ : zLi) (k1_ : Option zW), n_ + i_ = l0.length → L_ 24 v_ = l0 → (L_ 27 v_).length + n_ < 590 → zY none 9 100 11 [some (zwR 5 v_), some (zwI x_), some (zwI (Int32.ofNat i_)), k1_] [] I_ L_ 0 (zRb (zirl v_ (l0.drop i_) i_ I_ L_))
  | 0, i_, I_, L_, k1_, hi_, h24, hn27 => by
    subst h24
    rw [List.drop_of_length_le (by omega)]
    refine zY.go 4 rfl ?_
    refine zY.bn rfl (by omega) (by omega) (fun _ => ?_) (fun hF => absurd (show (L_ 24 v_).length ≤ i_ by omega) hF)
    refine zY.go 3 rfl ?_
    refine zY.bi rfl (fun hp99 => ?_) (fun hp99 => ?_)
    · have hnil : L_ 24 v_ = [] := by
        rcases hl : L_ 24 v_ with _ | ⟨y_, l⟩
        · rfl
        · simp [zcp, hl] at hp99
      refine zY.go 2 rfl ?_
      exact zY.rb rfl rfl (Or.inr rfl) ⟨by simp [zirl, hnil], rfl, rfl⟩
    · have hnil : ¬ L_ 24 v_ = [] := by
        intro hl
        simp [zcp, hl] at hp99
      refine zY.go 4 rfl ?_
      refine zY.cr zm78 rfl rfl rfl rfl (Nat.le_of_ble_eq_true rfl) rfl (by decide) rfl (by decide) (by decide) ?_
      refine zY.go 1 rfl ?_
      refine zY.bc rfl (fun hp116 => ?_) (fun hp116 => ?_)
      · refine zY.go 1 rfl ?_
        exact zY.rb rfl rfl (Or.inl rfl) ⟨by have : ¬ zbck I_ v_ ≤ 600 := Int32.not_le.mpr hp116
                                             simp [zirl, hnil, this], rfl, rfl⟩
      · refine zY.go 2 rfl ?_
        exact zY.rb rfl rfl (Or.inr rfl) ⟨by have : zbck I_ v_ ≤ 600 := Int32.not_lt.mp hp116
                                             simp [zirl, this], rfl, rfl⟩
  | n_ + 1, i_, I_, L_, k1_, hi_, h24, hn27 => by
    subst h24
    obtain ⟨s_, hs⟩ : ∃ s_, (L_ 24 v_)[i_]? = some s_ := ⟨_, List.getElem?_eq_getElem (by omega)⟩
    rw [zdrop_cons hs]
    have ih_ := fun (I2_ : zIn) (L2_ : zLi) (h_ : L2_ 24 v_ = L_ 24 v_) h2 => zm100l v_ x_ (L_ 24 v_) hn n_ (i_ + 1) I2_ L2_ (some (zwR 4 s_)) (by omega) h_ h2
    simp only [← zisucc] at ih_
    have hz := zof_0 (i_ := i_) (by omega)
    refine zY.go 4 rfl ?_
    refine zY.bn rfl (by omega) (by omega) (fun hT_ => absurd hT_ (show ¬ (L_ 24 v_).length ≤ i_ by omega)) (fun _ => ?_)
    refine zY.go 3 rfl ?_
    refine zY.cr (w_get rfl hs) rfl rfl rfl rfl (Nat.le_of_ble_eq_true rfl) rfl (by decide) rfl (by decide) (by decide) ?_
    refine zY.go 6 rfl ?_
    unfold zirl
    refine zY.bi rfl (fun hp40 => ?_) (fun hp40 => ?_)
    · refine zY.go 1 rfl ?_
      refine zY.cr zm75 rfl rfl rfl rfl (Nat.le_of_ble_eq_true rfl) rfl (by decide) rfl (by decide) (by decide) ?_
      have e_ : zlft I_ v_ i_ = 0 := if_neg (fun h_ => hp40 (hz.mpr h_.1))
      rw [e_]
      exact zm100t v_ x_ s_ i_ n_ _ (L_ 24 v_) _ L_ rfl hn27 ih_
    · refine zY.go 2 rfl ?_
      refine zY.bi rfl (fun hp47 => ?_) (fun hp47 => ?_)
      · refine zY.go 1 rfl ?_
        refine zY.cr zm75 rfl rfl rfl rfl (Nat.le_of_ble_eq_true rfl) rfl (by decide) rfl (by decide) (by decide) ?_
        have e_ : zlft I_ v_ i_ = 0 := if_neg (fun h_ => h_.2 (zbo_0.mp hp47))
        rw [e_]
        exact zm100t v_ x_ s_ i_ n_ _ (L_ 24 v_) _ L_ rfl hn27 ih_
      · refine zY.go 2 rfl ?_
        refine zY.cr zm75 rfl rfl rfl rfl (Nat.le_of_ble_eq_true rfl) rfl (by decide) rfl (by decide) (by decide) ?_
        have e_ : zlft I_ v_ i_ = 1 := if_pos ⟨hz.mp (Decidable.byContradiction hp40), fun h_ => hp47 (zbo_0.mpr h_)⟩
        rw [e_]
        exact zm100t v_ x_ s_ i_ n_ _ (L_ 24 v_) _ L_ rfl hn27 ih_
def zirt (I_ : zIn) (L_ : zLi) (v_ : Nat) (x_ : Int32) : Bool × (zIn × zLi) := zirl v_ (L_ 24 v_) 0 (zstr I_ L_ v_ x_) (zplL I_ L_ v_ x_)
theorem zm100 {I_ : zIn} {L_ : zLi} {v_ : Nat} {x_ : Int32} (hn : (L_ 26 v_).length + (L_ 24 v_).length < 500) : zYm 9 100 [zwR 5 v_, zwI x_] I_ L_ 0 (zRb (zirt I_ L_ v_ x_)) := by
  have h24 : zplL I_ L_ v_ x_ 24 v_ = L_ 24 v_ := zlup_ne (by simp)
  refine zYm.of (Nat.le_of_ble_eq_true rfl) rfl ?_
  refine zY.go 4 rfl ?_
  refine zY.cr (zm74 (by omega)) rfl rfl rfl rfl (Nat.le_of_ble_eq_true rfl) rfl (by decide) rfl (by decide) (by decide) ?_
  refine zY.go 2 rfl ?_
  exact zm100l v_ x_ (L_ 24 v_) (by omega) (L_ 24 v_).length 0 (zstr I_ L_ v_ x_) (zplL I_ L_ v_ x_) none (by omega) h24 (by
    have : (zplL I_ L_ v_ x_ 27 v_).length ≤ (L_ 26 v_).length := by
      unfold zplL; rw [zlup_self]; exact List.length_filter_le _ _
    omega)
