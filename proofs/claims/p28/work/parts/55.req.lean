/-! CONTRACTS: loops over all requests -/
def zcnt (f_ : Nat → Bool) : List Nat → Int32 → Int32
  | [], x_ => x_
  | q_ :: l, x_ => zcnt f_ l (if f_ q_ = true then x_ + 1 else x_)
def zol (I_ : zIn) (x_ : Int32) (q_ : Nat) : Bool := decide (I_ 6 0 7 - x_ < I_ 1 q_ 3)
def zlyc (I_ : zIn) (p_ : Nat) (b_ : Int32) (q_ : Nat) : Bool := decide ((I_ 1 q_ 0).toNatClampNeg = p_) && (decide (¬ I_ 1 q_ 5 = 6) && (zol I_ 30 q_ && (decide (b_ = 0) || znos (I_ 1 q_))))
theorem zm28' {I_ : zIn} {L_ : zLi} {q_ : Nat} {x_ : Int32} : zYm 1 28 [zwR 6 0, zwI x_, zwR 1 q_] I_ L_ 0 (zRet (some (zwI (if zol I_ x_ q_ = true then 1 else 0))) I_ L_) := by
  have := zm28 (I_ := I_) (L_ := L_) (q_ := q_) (x_ := x_)
  unfold zol
  simp only [decide_eq_true_eq]
  exact this
theorem zP_eq0 {P_ : Prop} [Decidable P_] : zcp .eq (if P_ then 1 else 0) 0 ↔ ¬ P_ := by
  by_cases h_ : P_
  · rw [if_pos h_]; exact ⟨fun e_ => absurd e_ (show ¬ ((1 : Int32) = 0) by decide), fun e_ => absurd h_ e_⟩
  · rw [if_neg h_]; exact ⟨fun _ => h_, fun _ => rfl⟩
theorem zinv22 {I_ : zIn} {L_ : zLi} (hi_ : zInv I_ L_) (hx : I_ 99 6 0 = 1) (c_ : Nat) (hc_ : 20 ≤ c_ ∧ c_ < 24) : (L_ c_ 0).length ≤ 1000 := by
  have h1 := hi_.2 6 0 hx (by decide)
  have h2 : I_ 99 c_ 0 = 1 := by
    obtain h_ | h_ | h_ | h_ : c_ = 20 ∨ c_ = 21 ∨ c_ = 22 ∨ c_ = 23 := by omega
    · rw [h_]; exact h1 (zwR 20 0) (by simp [zfs])
    · rw [h_]; exact h1 (zwR 21 0) (by simp [zfs])
    · rw [h_]; exact h1 (zwR 22 0) (by simp [zfs])
    · rw [h_]; exact h1 (zwR 23 0) (by simp [zfs])
  have h3 : zct c_ = 8 := by
    obtain h_ | h_ | h_ | h_ : c_ = 20 ∨ c_ = 21 ∨ c_ = 22 ∨ c_ = 23 := by omega
    all_goals rw [h_]; decide
  exact (hi_.1 c_ 0 h2 h3).1
theorem zm47l (I_ : zIn) (L_ : zLi) (p_ : Nat) (b_ : Int32) (hn : (L_ 22 0).length ≤ 1000) : ∀ (n_ i_ : Nat) (x_ : Int32) (k1_ : Option zW) (k2_ : Option zW), n_ + i_ = (L_ 22 0).length → zY none 3 47 5 [some (zwR 6 0), some (zwR 2 p_), some (zwI b_), some (zwI x_), some (zwI (Int32.ofNat i_)), k1_, k2_] [] I_ L_ 0 (zRet (some (zwI (zcnt (zlyc I_ p_ b_) ((L_ 22 0).drop i_) x_))) I_ L_)
  | 0, i_, x_, k1_, k2_, hi_ => by
    rw [List.drop_of_length_le (by omega)]
    refine zY.go 4 rfl ?_
    refine zY.bn rfl (by omega) (by omega) (fun _ => ?_) (fun hF => absurd (show (L_ 22 0).length ≤ i_ by omega) hF)
    refine zY.go 1 rfl ?_
    exact zY.ri rfl rfl ⟨rfl, rfl, rfl⟩
  | n_ + 1, i_, x_, k1_, k2_, hi_ => by
    obtain ⟨s_, hs⟩ : ∃ s_, (L_ 22 0)[i_]? = some s_ := ⟨_, List.getElem?_eq_getElem (by omega)⟩
    rw [zdrop_cons hs]
    have ih_ := fun (x_ : Int32) (k1_ : Option zW) (k2_ : Option zW) => zm47l I_ L_ p_ b_ hn n_ (i_ + 1) x_ k1_ k2_ (by omega)
    simp only [← zisucc] at ih_
    refine zY.go 4 rfl ?_
    refine zY.bn rfl (by omega) (by omega) (fun hT_ => absurd hT_ (show ¬ (L_ 22 0).length ≤ i_ by omega)) (fun _ => ?_)
    refine zY.go 3 rfl ?_
    refine zY.cr (w_get rfl hs) rfl rfl rfl rfl (Nat.le_of_ble_eq_true rfl) rfl (by decide) rfl (by decide) (by decide) ?_
    refine zY.go 5 rfl ?_
    refine zY.an rfl (fun hp37 => ?_) (fun hp37 => ?_)
    · refine zY.go 3 rfl ?_
      refine zY.bi rfl (fun hp70 => ?_) (fun hp70 => ?_)
      · refine zY.go 2 rfl ?_
        first | exact ih_ _ _ _ | exact zY.mono (ih_ _ _ _) (Nat.le_refl _) (fun r_ I2_ L2_ hq => by simp only [zcnt, zlyc]; simp_all [zcp, zbo_0, zpar_0, zek])
      · refine zY.go 1 rfl ?_
        refine zY.bi rfl (fun hp74 => ?_) (fun hp74 => ?_)
        · refine zY.go 3 rfl ?_
          first | exact ih_ _ _ _ | exact zY.mono (ih_ _ _ _) (Nat.le_refl _) (fun r_ I2_ L2_ hq => by simp only [zcnt, zlyc]; simp_all [zcp, zbo_0, zpar_0, zek])
        · refine zY.go 1 rfl ?_
          refine zY.cr (zm84) rfl rfl rfl rfl (Nat.le_of_ble_eq_true rfl) rfl (by decide) rfl (by decide) (by decide) ?_
          refine zY.bi rfl (fun hp82 => ?_) (fun hp82 => ?_)
          · refine zY.go 2 rfl ?_
            first | exact ih_ _ _ _ | exact zY.mono (ih_ _ _ _) (Nat.le_refl _) (fun r_ I2_ L2_ hq => by simp only [zcnt, zlyc]; simp_all [zcp, zbo_0, zpar_0, zek])
          · refine zY.go 3 rfl ?_
            first | exact ih_ _ _ _ | exact zY.mono (ih_ _ _ _) (Nat.le_refl _) (fun r_ I2_ L2_ hq => by simp only [zcnt, zlyc]; simp_all [zcp, zbo_0, zpar_0, zek])
    · refine zY.go 3 rfl ?_
      refine zY.bc rfl (fun hp47 => ?_) (fun hp47 => ?_)
      · refine zY.go 3 rfl ?_
        refine zY.bi rfl (fun hp70 => ?_) (fun hp70 => ?_)
        · refine zY.go 2 rfl ?_
          first | exact ih_ _ _ _ | exact zY.mono (ih_ _ _ _) (Nat.le_refl _) (fun r_ I2_ L2_ hq => by simp only [zcnt, zlyc]; simp_all [zcp, zbo_0, zpar_0, zek])
        · refine zY.go 1 rfl ?_
          refine zY.bi rfl (fun hp74 => ?_) (fun hp74 => ?_)
          · refine zY.go 3 rfl ?_
            first | exact ih_ _ _ _ | exact zY.mono (ih_ _ _ _) (Nat.le_refl _) (fun r_ I2_ L2_ hq => by simp only [zcnt, zlyc]; simp_all [zcp, zbo_0, zpar_0, zek])
          · refine zY.go 1 rfl ?_
            refine zY.cr (zm84) rfl rfl rfl rfl (Nat.le_of_ble_eq_true rfl) rfl (by decide) rfl (by decide) (by decide) ?_
            refine zY.bi rfl (fun hp82 => ?_) (fun hp82 => ?_)
            · refine zY.go 2 rfl ?_
              first | exact ih_ _ _ _ | exact zY.mono (ih_ _ _ _) (Nat.le_refl _) (fun r_ I2_ L2_ hq => by simp only [zcnt, zlyc]; simp_all [zcp, zbo_0, zpar_0, zek])
            · refine zY.go 3 rfl ?_
              first | exact ih_ _ _ _ | exact zY.mono (ih_ _ _ _) (Nat.le_refl _) (fun r_ I2_ L2_ hq => by simp only [zcnt, zlyc]; simp_all [zcp, zbo_0, zpar_0, zek])
      · refine zY.go 3 rfl ?_
        refine zY.cr (zm28') rfl rfl rfl rfl (Nat.le_of_ble_eq_true rfl) rfl (by decide) rfl (by decide) (by decide) ?_
        refine zY.bi rfl (fun hp58 => ?_) (fun hp58 => ?_)
        · refine zY.go 3 rfl ?_
          refine zY.bi rfl (fun hp70 => ?_) (fun hp70 => ?_)
          · refine zY.go 2 rfl ?_
            first | exact ih_ _ _ _ | exact zY.mono (ih_ _ _ _) (Nat.le_refl _) (fun r_ I2_ L2_ hq => by simp only [zcnt, zlyc]; simp_all [zcp, zbo_0, zpar_0, zek])
          · refine zY.go 1 rfl ?_
            refine zY.bi rfl (fun hp74 => ?_) (fun hp74 => ?_)
            · refine zY.go 3 rfl ?_
              first | exact ih_ _ _ _ | exact zY.mono (ih_ _ _ _) (Nat.le_refl _) (fun r_ I2_ L2_ hq => by simp only [zcnt, zlyc]; simp_all [zcp, zbo_0, zpar_0, zek])
            · refine zY.go 1 rfl ?_
              refine zY.cr (zm84) rfl rfl rfl rfl (Nat.le_of_ble_eq_true rfl) rfl (by decide) rfl (by decide) (by decide) ?_
              refine zY.bi rfl (fun hp82 => ?_) (fun hp82 => ?_)
              · refine zY.go 2 rfl ?_
                first | exact ih_ _ _ _ | exact zY.mono (ih_ _ _ _) (Nat.le_refl _) (fun r_ I2_ L2_ hq => by simp only [zcnt, zlyc]; simp_all [zcp, zbo_0, zpar_0, zek])
              · refine zY.go 3 rfl ?_
                first | exact ih_ _ _ _ | exact zY.mono (ih_ _ _ _) (Nat.le_refl _) (fun r_ I2_ L2_ hq => by simp only [zcnt, zlyc]; simp_all [zcp, zbo_0, zpar_0, zek])
        · refine zY.go 4 rfl ?_
          refine zY.bi rfl (fun hp70 => ?_) (fun hp70 => ?_)
          · refine zY.go 2 rfl ?_
            first | exact ih_ _ _ _ | exact zY.mono (ih_ _ _ _) (Nat.le_refl _) (fun r_ I2_ L2_ hq => by simp only [zcnt, zlyc]; simp_all [zcp, zbo_0, zpar_0, zek])
          · refine zY.go 1 rfl ?_
            refine zY.bi rfl (fun hp74 => ?_) (fun hp74 => ?_)
            · refine zY.go 3 rfl ?_
              first | exact ih_ _ _ _ | exact zY.mono (ih_ _ _ _) (Nat.le_refl _) (fun r_ I2_ L2_ hq => by simp only [zcnt, zlyc]; simp_all [zcp, zbo_0, zpar_0, zek])
            · refine zY.go 1 rfl ?_
              refine zY.cr (zm84) rfl rfl rfl rfl (Nat.le_of_ble_eq_true rfl) rfl (by decide) rfl (by decide) (by decide) ?_
              refine zY.bi rfl (fun hp82 => ?_) (fun hp82 => ?_)
              · refine zY.go 2 rfl ?_
                first | exact ih_ _ _ _ | exact zY.mono (ih_ _ _ _) (Nat.le_refl _) (fun r_ I2_ L2_ hq => by simp only [zcnt, zlyc]; simp_all [zcp, zbo_0, zpar_0, zek])
              · refine zY.go 3 rfl ?_
                first | exact ih_ _ _ _ | exact zY.mono (ih_ _ _ _) (Nat.le_refl _) (fun r_ I2_ L2_ hq => by simp only [zcnt, zlyc]; simp_all [zcp, zbo_0, zpar_0, zek])
theorem zm47 {I_ : zIn} {L_ : zLi} {p_ : Nat} {b_ : Int32} : zYm 3 47 [zwR 6 0, zwR 2 p_, zwI b_] I_ L_ 0 (zRet (some (zwI (zcnt (zlyc I_ p_ b_) (L_ 22 0) 0))) I_ L_) := by
  refine zYm.inv (fun hi_ hw => ?_)
  have hn := zinv22 hi_ (hw (zwR 6 0) (by simp)) 22 (by decide)
  refine zYm.of (Nat.le_of_ble_eq_true rfl) rfl ?_
  refine zY.go 4 rfl ?_
  exact zm47l I_ L_ p_ b_ hn (L_ 22 0).length 0 0 none none (by omega)
def zsus (I_ : zIn) (L_ : zLi) (p_ : Nat) : Bool := decide (3 ≤ zcnt (zlyc I_ p_ 1) (L_ 22 0) 0) && decide (zcnt (zlyc I_ p_ 0) (L_ 22 0) 0 ≤ 5 * zcnt (zlyc I_ p_ 1) (L_ 22 0) 0)
theorem zm46 {I_ : zIn} {L_ : zLi} {p_ : Nat} : zYm 4 46 [zwR 6 0, zwR 2 p_] I_ L_ 0 (zRet (some (zwI (if zsus I_ L_ p_ = true then 1 else 0))) I_ L_) := by
  refine zYm.of (Nat.le_of_ble_eq_true rfl) rfl ?_
  refine zY.go 3 rfl ?_
  refine zY.cr (zm47) rfl rfl rfl rfl (Nat.le_of_ble_eq_true rfl) rfl (by decide) rfl (by decide) (by decide) ?_
  refine zY.go 3 rfl ?_
  refine zY.bc rfl (fun hp9 => ?_) (fun hp9 => ?_)
  · refine zY.go 1 rfl ?_
    exact zY.rb rfl rfl (by first | exact Or.inl rfl | exact Or.inr rfl) ⟨by simp_all [zcp, zsus, Int32.not_lt] <;> (intro hcon; exact absurd hcon (Int32.not_le.mpr (by assumption))), rfl, rfl⟩
  · refine zY.go 6 rfl ?_
    refine zY.cr (zm47) rfl rfl rfl rfl (Nat.le_of_ble_eq_true rfl) rfl (by decide) rfl (by decide) (by decide) ?_
    refine zY.bc rfl (fun hp21 => ?_) (fun hp21 => ?_)
    · refine zY.go 1 rfl ?_
      exact zY.rb rfl rfl (by first | exact Or.inl rfl | exact Or.inr rfl) ⟨by simp_all [zcp, zsus, Int32.not_lt] <;> (intro hcon; exact absurd hcon (Int32.not_le.mpr (by assumption))), rfl, rfl⟩
    · refine zY.go 2 rfl ?_
      exact zY.rb rfl rfl (by first | exact Or.inl rfl | exact Or.inr rfl) ⟨by simp_all [zcp, zsus, Int32.not_lt] <;> (intro hcon; exact absurd hcon (Int32.not_le.mpr (by assumption))), rfl, rfl⟩
/-- the pattern of no: noRoom, all -/
def zpno (I_ : zIn) : List Nat → Int32 → Int32 → Int32 × Int32
  | [], x_, y_ => (x_, y_)
  | q_ :: l, x_, y_ => if zol I_ 20 q_ = true ∧ ¬ I_ 1 q_ 6 = 1 ∧ ¬ I_ 1 q_ 6 = 2 then zpno I_ l (x_ + if I_ 1 q_ 6 = 3 then 1 else 0) (y_ + 1) else zpno I_ l x_ y_
/-- of late rides: bad, served -/
def zplr (I_ : zIn) : List Nat → Int32 → Int32 → Int32 × Int32
  | [], x_, y_ => (x_, y_)
  | q_ :: l, x_, y_ => if zol I_ 20 q_ = true ∧ I_ 1 q_ 5 = 2 then zplr I_ l (x_ + if zlat (I_ 1 q_) = true ∨ zlon (I_ 1 q_) = true then 1 else 0) (y_ + 1) else zplr I_ l x_ y_
def zmon (I_ : zIn) : List Nat → Int64 → Int64
  | [], x_ => x_
  | q_ :: l, x_ => zmon I_ l (x_ + (zfar (I_ 1 q_)).toInt64)
theorem zm30l (I_ : zIn) (L_ : zLi) (hn : (L_ 22 0).length ≤ 1000) : ∀ (n_ i_ : Nat) (x_ : Int64), n_ + i_ = (L_ 22 0).length → zY none 3 30 4 [some (zwR 6 0), some (zwL x_), none, some (zwI (Int32.ofNat i_))] [] I_ L_ 0 (zRet (some (zwL (zmon I_ ((L_ 22 0).drop i_) x_))) I_ L_)
  | 0, i_, x_, hi_ => by
    rw [List.drop_of_length_le (by omega)]
    refine zY.go 4 rfl ?_
    refine zY.bn rfl (by omega) (by omega) (fun _ => ?_) (fun hF => absurd (show (L_ 22 0).length ≤ i_ by omega) hF)
    refine zY.go 1 rfl ?_
    exact zY.rl rfl rfl ⟨rfl, rfl, rfl⟩
  | n_ + 1, i_, x_, hi_ => by
    obtain ⟨s_, hs⟩ : ∃ s_, (L_ 22 0)[i_]? = some s_ := ⟨_, List.getElem?_eq_getElem (by omega)⟩
    rw [zdrop_cons hs]
    have ih_ := fun (x_ : Int64) => zm30l I_ L_ hn n_ (i_ + 1) x_ (by omega)
    simp only [← zisucc] at ih_
    refine zY.go 4 rfl ?_
    refine zY.bn rfl (by omega) (by omega) (fun hT_ => absurd hT_ (show ¬ (L_ 22 0).length ≤ i_ by omega)) (fun _ => ?_)
    refine zY.go 4 rfl ?_
    refine zY.cr (w_get rfl hs) rfl rfl rfl rfl (Nat.le_of_ble_eq_true rfl) rfl (by decide) rfl (by decide) (by decide) ?_
    refine zY.go 1 rfl ?_
    refine zY.cr (zm81) rfl rfl rfl rfl (Nat.le_of_ble_eq_true rfl) rfl (by decide) rfl (by decide) (by decide) ?_
    refine zY.go 5 rfl ?_
    first | exact ih_ _ | exact zY.mono (ih_ _) (Nat.le_refl _) (fun r_ I2_ L2_ hq => by simp only [zmon]; simp_all [zcp, zbo_0, zpar_0, zek])
theorem zm30 {I_ : zIn} {L_ : zLi} : zYm 3 30 [zwR 6 0] I_ L_ 0 (zRet (some (zwL (zmon I_ (L_ 22 0) 0))) I_ L_) := by
  refine zYm.inv (fun hi_ hw => ?_)
  have hn := zinv22 hi_ (hw (zwR 6 0) (by simp)) 22 (by decide)
  refine zYm.of (Nat.le_of_ble_eq_true rfl) rfl ?_
  refine zY.go 4 rfl ?_
  exact zm30l I_ L_ hn (L_ 22 0).length 0 0 (by omega)
theorem zm66l (I_ : zIn) (L_ : zLi) (q_ : Nat) (hn : (L_ 22 0).length ≤ 1000) : ∀ (n_ i_ : Nat) , n_ + i_ = (L_ 22 0).length → zY none 3 66 2 [some (zwR 6 0), some (zwR 1 q_), some (zwI (Int32.ofNat i_))] [] I_ L_ 0 (zRet (some (zwI (zfnd q_ ((L_ 22 0).drop i_) i_))) I_ L_)
  | 0, i_, hi_ => by
    rw [List.drop_of_length_le (by omega)]
    refine zY.go 4 rfl ?_
    refine zY.bn rfl (by omega) (by omega) (fun _ => ?_) (fun hF => absurd (show (L_ 22 0).length ≤ i_ by omega) hF)
    refine zY.go 1 rfl ?_
    exact zY.ri rfl rfl ⟨by simp_all [zfnd], rfl, rfl⟩
  | n_ + 1, i_, hi_ => by
    obtain ⟨s_, hs⟩ : ∃ s_, (L_ 22 0)[i_]? = some s_ := ⟨_, List.getElem?_eq_getElem (by omega)⟩
    rw [zdrop_cons hs]
    have ih_ := fun (_ : Nat) => zm66l I_ L_ q_ hn n_ (i_ + 1)  (by omega)
    simp only [← zisucc] at ih_
    refine zY.go 4 rfl ?_
    refine zY.bn rfl (by omega) (by omega) (fun hT_ => absurd hT_ (show ¬ (L_ 22 0).length ≤ i_ by omega)) (fun _ => ?_)
    refine zY.go 3 rfl ?_
    refine zY.cr (w_get rfl hs) rfl rfl rfl rfl (Nat.le_of_ble_eq_true rfl) rfl (by decide) rfl (by decide) (by decide) ?_
    refine zY.go 1 rfl ?_
    refine zY.an rfl (fun hp22 => ?_) (fun hp22 => ?_)
    · refine zY.go 2 rfl ?_
      (rw [zfnd, if_neg (show ¬ s_ = q_ from fun e1_ => hp22 ⟨rfl, e1_⟩)]; exact ih_ 0)
    · refine zY.go 1 rfl ?_
      exact zY.ri rfl rfl (by { rw [zfnd, if_pos (show s_ = q_ from hp22.2)]; exact ⟨rfl, rfl, rfl⟩ })
theorem zm66 {I_ : zIn} {L_ : zLi} {q_ : Nat} : zYm 3 66 [zwR 6 0, zwR 1 q_] I_ L_ 0 (zRet (some (zwI (zfnd q_ (L_ 22 0) 0))) I_ L_) := by
  refine zYm.inv (fun hi_ hw => ?_)
  have hn := zinv22 hi_ (hw (zwR 6 0) (by simp)) 22 (by decide)
  refine zYm.of (Nat.le_of_ble_eq_true rfl) rfl ?_
  refine zY.go 2 rfl ?_
  exact zm66l I_ L_ q_ hn (L_ 22 0).length 0 (by omega)


