/-! CONTRACTS: tell, count -/
def zrtl (r_ : Nat → Int32) : Nat → Int32
  | 0 => r_ 5
  | 1 => r_ 6
  | 2 => r_ 7
  | 3 => r_ 8
  | 4 => r_ 10
  | 5 => r_ 11
  | 6 => r_ 12
  | 7 => if zlat r_ = true then 1 else 0
  | 8 => if zlon r_ = true then 1 else 0
  | 9 => r_ 3
  | _ => if znos r_ = true then 1 else 0
theorem zm86 {I_ : zIn} {L_ : zLi} {q_ : Nat} {k_ : Nat} (hk : k_ ≤ 10) : zYm 2 86 [zwR 1 q_, zwI (Int32.ofNat k_)] I_ L_ 0 (zRet (some (zwI (zrtl (I_ 1 q_) k_))) I_ L_) := by
  refine zYm.of (Nat.le_of_ble_eq_true rfl) rfl ?_
  refine zY.go 1 rfl ?_
  obtain rfl | rfl | rfl | rfl | rfl | rfl | rfl | rfl | rfl | rfl | rfl : k_ = 0 ∨ k_ = 1 ∨ k_ = 2 ∨ k_ = 3 ∨ k_ = 4 ∨ k_ = 5 ∨ k_ = 6 ∨ k_ = 7 ∨ k_ = 8 ∨ k_ = 9 ∨ k_ = 10 := by omega
  · refine zY.sw (t_ := 56) rfl rfl rfl ?_
    refine zY.go 2 rfl ?_
    exact zY.ri rfl rfl ⟨by first | rfl | simp_all [zcp, zrtl], rfl, rfl⟩
  · refine zY.sw (t_ := 61) rfl rfl rfl ?_
    refine zY.go 2 rfl ?_
    exact zY.ri rfl rfl ⟨by first | rfl | simp_all [zcp, zrtl], rfl, rfl⟩
  · refine zY.sw (t_ := 66) rfl rfl rfl ?_
    refine zY.go 2 rfl ?_
    exact zY.ri rfl rfl ⟨by first | rfl | simp_all [zcp, zrtl], rfl, rfl⟩
  · refine zY.sw (t_ := 71) rfl rfl rfl ?_
    refine zY.go 2 rfl ?_
    exact zY.ri rfl rfl ⟨by first | rfl | simp_all [zcp, zrtl], rfl, rfl⟩
  · refine zY.sw (t_ := 76) rfl rfl rfl ?_
    refine zY.go 2 rfl ?_
    exact zY.ri rfl rfl ⟨by first | rfl | simp_all [zcp, zrtl], rfl, rfl⟩
  · refine zY.sw (t_ := 81) rfl rfl rfl ?_
    refine zY.go 2 rfl ?_
    exact zY.ri rfl rfl ⟨by first | rfl | simp_all [zcp, zrtl], rfl, rfl⟩
  · refine zY.sw (t_ := 86) rfl rfl rfl ?_
    refine zY.go 2 rfl ?_
    exact zY.ri rfl rfl ⟨by first | rfl | simp_all [zcp, zrtl], rfl, rfl⟩
  · refine zY.sw (t_ := 91) rfl rfl rfl ?_
    refine zY.go 1 rfl ?_
    refine zY.cr (zm79) rfl rfl rfl rfl (Nat.le_of_ble_eq_true rfl) rfl (by decide) rfl (by decide) (by decide) ?_
    refine zY.bi rfl (fun hp95 => ?_) (fun hp95 => ?_)
    · refine zY.go 1 rfl ?_
      exact zY.ri rfl rfl ⟨by first | rfl | simp_all [zcp, zrtl], rfl, rfl⟩
    · refine zY.go 2 rfl ?_
      exact zY.ri rfl rfl ⟨by first | rfl | simp_all [zcp, zrtl], rfl, rfl⟩
  · refine zY.sw (t_ := 104) rfl rfl rfl ?_
    refine zY.go 1 rfl ?_
    refine zY.cr (zm80) rfl rfl rfl rfl (Nat.le_of_ble_eq_true rfl) rfl (by decide) rfl (by decide) (by decide) ?_
    refine zY.bi rfl (fun hp108 => ?_) (fun hp108 => ?_)
    · refine zY.go 1 rfl ?_
      exact zY.ri rfl rfl ⟨by first | rfl | simp_all [zcp, zrtl], rfl, rfl⟩
    · refine zY.go 2 rfl ?_
      exact zY.ri rfl rfl ⟨by first | rfl | simp_all [zcp, zrtl], rfl, rfl⟩
  · refine zY.sw (t_ := 117) rfl rfl rfl ?_
    refine zY.go 2 rfl ?_
    exact zY.ri rfl rfl ⟨by first | rfl | simp_all [zcp, zrtl], rfl, rfl⟩
  · refine zY.sw (t_ := 122) rfl rfl rfl ?_
    refine zY.go 1 rfl ?_
    refine zY.cr (zm84) rfl rfl rfl rfl (Nat.le_of_ble_eq_true rfl) rfl (by decide) rfl (by decide) (by decide) ?_
    refine zY.bi rfl (fun hp126 => ?_) (fun hp126 => ?_)
    · refine zY.go 1 rfl ?_
      exact zY.ri rfl rfl ⟨by first | rfl | simp_all [zcp, zrtl], rfl, rfl⟩
    · refine zY.go 2 rfl ?_
      exact zY.ri rfl rfl ⟨by first | rfl | simp_all [zcp, zrtl], rfl, rfl⟩
def zctd (r_ : Nat → Int32) : Nat → Bool
  | 7 => zlat r_
  | 8 => zlon r_
  | 9 => znos r_
  | k_ => decide (r_ 5 = Int32.ofNat k_)
theorem zm72 {I_ : zIn} {L_ : zLi} {q_ : Nat} {k_ : Nat} (hk : k_ ≤ 9) : zYm 2 72 [zwR 1 q_, zwI (Int32.ofNat k_)] I_ L_ 0 (zRet (some (zwI (if zctd (I_ 1 q_) k_ = true then 1 else 0))) I_ L_) := by
  refine zYm.of (Nat.le_of_ble_eq_true rfl) rfl ?_
  refine zY.go 1 rfl ?_
  obtain rfl | rfl | rfl | rfl | rfl | rfl | rfl | rfl | rfl | rfl : k_ = 0 ∨ k_ = 1 ∨ k_ = 2 ∨ k_ = 3 ∨ k_ = 4 ∨ k_ = 5 ∨ k_ = 6 ∨ k_ = 7 ∨ k_ = 8 ∨ k_ = 9 := by omega
  · refine zY.sw (t_ := 43) rfl rfl rfl ?_
    refine zY.go 3 rfl ?_
    refine zY.bc rfl (fun hp48 => ?_) (fun hp48 => ?_)
    · refine zY.go 1 rfl ?_
      exact zY.rb rfl rfl (by first | exact Or.inl rfl | exact Or.inr rfl | (split <;> simp)) ⟨by first | rfl | simp_all [zcp, zctd], rfl, rfl⟩
    · refine zY.go 2 rfl ?_
      exact zY.rb rfl rfl (by first | exact Or.inl rfl | exact Or.inr rfl | (split <;> simp)) ⟨by first | rfl | simp_all [zcp, zctd], rfl, rfl⟩
  · refine zY.sw (t_ := 43) rfl rfl rfl ?_
    refine zY.go 3 rfl ?_
    refine zY.bc rfl (fun hp48 => ?_) (fun hp48 => ?_)
    · refine zY.go 1 rfl ?_
      exact zY.rb rfl rfl (by first | exact Or.inl rfl | exact Or.inr rfl | (split <;> simp)) ⟨by first | rfl | simp_all [zcp, zctd], rfl, rfl⟩
    · refine zY.go 2 rfl ?_
      exact zY.rb rfl rfl (by first | exact Or.inl rfl | exact Or.inr rfl | (split <;> simp)) ⟨by first | rfl | simp_all [zcp, zctd], rfl, rfl⟩
  · refine zY.sw (t_ := 43) rfl rfl rfl ?_
    refine zY.go 3 rfl ?_
    refine zY.bc rfl (fun hp48 => ?_) (fun hp48 => ?_)
    · refine zY.go 1 rfl ?_
      exact zY.rb rfl rfl (by first | exact Or.inl rfl | exact Or.inr rfl | (split <;> simp)) ⟨by first | rfl | simp_all [zcp, zctd], rfl, rfl⟩
    · refine zY.go 2 rfl ?_
      exact zY.rb rfl rfl (by first | exact Or.inl rfl | exact Or.inr rfl | (split <;> simp)) ⟨by first | rfl | simp_all [zcp, zctd], rfl, rfl⟩
  · refine zY.sw (t_ := 43) rfl rfl rfl ?_
    refine zY.go 3 rfl ?_
    refine zY.bc rfl (fun hp48 => ?_) (fun hp48 => ?_)
    · refine zY.go 1 rfl ?_
      exact zY.rb rfl rfl (by first | exact Or.inl rfl | exact Or.inr rfl | (split <;> simp)) ⟨by first | rfl | simp_all [zcp, zctd], rfl, rfl⟩
    · refine zY.go 2 rfl ?_
      exact zY.rb rfl rfl (by first | exact Or.inl rfl | exact Or.inr rfl | (split <;> simp)) ⟨by first | rfl | simp_all [zcp, zctd], rfl, rfl⟩
  · refine zY.sw (t_ := 43) rfl rfl rfl ?_
    refine zY.go 3 rfl ?_
    refine zY.bc rfl (fun hp48 => ?_) (fun hp48 => ?_)
    · refine zY.go 1 rfl ?_
      exact zY.rb rfl rfl (by first | exact Or.inl rfl | exact Or.inr rfl | (split <;> simp)) ⟨by first | rfl | simp_all [zcp, zctd], rfl, rfl⟩
    · refine zY.go 2 rfl ?_
      exact zY.rb rfl rfl (by first | exact Or.inl rfl | exact Or.inr rfl | (split <;> simp)) ⟨by first | rfl | simp_all [zcp, zctd], rfl, rfl⟩
  · refine zY.sw (t_ := 43) rfl rfl rfl ?_
    refine zY.go 3 rfl ?_
    refine zY.bc rfl (fun hp48 => ?_) (fun hp48 => ?_)
    · refine zY.go 1 rfl ?_
      exact zY.rb rfl rfl (by first | exact Or.inl rfl | exact Or.inr rfl | (split <;> simp)) ⟨by first | rfl | simp_all [zcp, zctd], rfl, rfl⟩
    · refine zY.go 2 rfl ?_
      exact zY.rb rfl rfl (by first | exact Or.inl rfl | exact Or.inr rfl | (split <;> simp)) ⟨by first | rfl | simp_all [zcp, zctd], rfl, rfl⟩
  · refine zY.sw (t_ := 43) rfl rfl rfl ?_
    refine zY.go 3 rfl ?_
    refine zY.bc rfl (fun hp48 => ?_) (fun hp48 => ?_)
    · refine zY.go 1 rfl ?_
      exact zY.rb rfl rfl (by first | exact Or.inl rfl | exact Or.inr rfl | (split <;> simp)) ⟨by first | rfl | simp_all [zcp, zctd], rfl, rfl⟩
    · refine zY.go 2 rfl ?_
      exact zY.rb rfl rfl (by first | exact Or.inl rfl | exact Or.inr rfl | (split <;> simp)) ⟨by first | rfl | simp_all [zcp, zctd], rfl, rfl⟩
  · refine zY.sw (t_ := 28) rfl rfl rfl ?_
    refine zY.go 1 rfl ?_
    refine zY.cr (zm79) rfl rfl rfl rfl (Nat.le_of_ble_eq_true rfl) rfl (by decide) rfl (by decide) (by decide) ?_
    exact zY.rb rfl rfl (by first | exact Or.inl rfl | exact Or.inr rfl | (split <;> simp)) ⟨by first | rfl | simp_all [zcp, zctd], rfl, rfl⟩
  · refine zY.sw (t_ := 33) rfl rfl rfl ?_
    refine zY.go 1 rfl ?_
    refine zY.cr (zm80) rfl rfl rfl rfl (Nat.le_of_ble_eq_true rfl) rfl (by decide) rfl (by decide) (by decide) ?_
    exact zY.rb rfl rfl (by first | exact Or.inl rfl | exact Or.inr rfl | (split <;> simp)) ⟨by first | rfl | simp_all [zcp, zctd], rfl, rfl⟩
  · refine zY.sw (t_ := 38) rfl rfl rfl ?_
    refine zY.go 1 rfl ?_
    refine zY.cr (zm84) rfl rfl rfl rfl (Nat.le_of_ble_eq_true rfl) rfl (by decide) rfl (by decide) (by decide) ?_
    exact zY.rb rfl rfl (by first | exact Or.inl rfl | exact Or.inr rfl | (split <;> simp)) ⟨by first | rfl | simp_all [zcp, zctd], rfl, rfl⟩
theorem zm71l (I_ : zIn) (L_ : zLi) (k_ : Nat) (hk : k_ ≤ 9) (hn : (L_ 22 0).length ≤ 1000) : ∀ (n_ i_ : Nat) (x_ : Int32), n_ + i_ = (L_ 22 0).length → zY none 3 71 11 [some (zwR 6 0), some (zwI (Int32.ofNat k_)), some (zwI x_), some (zwI (Int32.ofNat i_))] [] I_ L_ 0 (zRet (some (zwI (zcnt (fun q_ => zctd (I_ 1 q_) k_) ((L_ 22 0).drop i_) x_))) I_ L_)
  | 0, i_, x_, hi_ => by
    rw [List.drop_of_length_le (by omega)]
    refine zY.go 4 rfl ?_
    refine zY.bn rfl (by omega) (by omega) (fun _ => ?_) (fun hF => absurd (show (L_ 22 0).length ≤ i_ by omega) hF)
    refine zY.go 1 rfl ?_
    exact zY.ri rfl rfl ⟨rfl, rfl, rfl⟩
  | n_ + 1, i_, x_, hi_ => by
    obtain ⟨s_, hs⟩ : ∃ s_, (L_ 22 0)[i_]? = some s_ := ⟨_, List.getElem?_eq_getElem (by omega)⟩
    rw [zdrop_cons hs]
    have ih_ := fun (x_ : Int32) => zm71l I_ L_ k_ hk hn n_ (i_ + 1) x_ (by omega)
    simp only [← zisucc] at ih_
    refine zY.go 4 rfl ?_
    refine zY.bn rfl (by omega) (by omega) (fun hT_ => absurd hT_ (show ¬ (L_ 22 0).length ≤ i_ by omega)) (fun _ => ?_)
    refine zY.go 3 rfl ?_
    refine zY.cr (w_get rfl hs) rfl rfl rfl rfl (Nat.le_of_ble_eq_true rfl) rfl (by decide) rfl (by decide) (by decide) ?_
    refine zY.go 2 rfl ?_
    refine zY.cr (zm72 hk) rfl rfl rfl rfl (Nat.le_of_ble_eq_true rfl) rfl (by decide) rfl (by decide) (by decide) ?_
    refine zY.bi rfl (fun hp37 => ?_) (fun hp37 => ?_)
    · refine zY.go 2 rfl ?_
      first | exact ih_ _ | exact zY.mono (ih_ _) (Nat.le_refl _) (fun r_ I2_ L2_ hq => by simp only [zcnt]; simp_all [zcp, zbo_0, zpar_0, zek])
    · refine zY.go 3 rfl ?_
      first | exact ih_ _ | exact zY.mono (ih_ _) (Nat.le_refl _) (fun r_ I2_ L2_ hq => by simp only [zcnt]; simp_all [zcp, zbo_0, zpar_0, zek])
theorem zm71t {I_ : zIn} {L_ : zLi} {k_ : Nat} (hk : k_ ≤ 9) : zYm 3 71 [zwR 6 0, zwI (Int32.ofNat k_)] I_ L_ 0 (zRet (some (zwI (zcnt (fun q_ => zctd (I_ 1 q_) k_) (L_ 22 0) 0))) I_ L_) := by
  refine zYm.inv (fun hi_ hw => ?_)
  have hn := zinv22 hi_ (hw (zwR 6 0) (by simp)) 22 (by decide)
  refine zYm.of (Nat.le_of_ble_eq_true rfl) rfl ?_
  refine zY.go 3 rfl ?_
  refine zY.cr (zm33t ⟨zige (by omega), (zile (b := 9) (by omega) (by omega)).mpr hk⟩) rfl rfl rfl rfl (Nat.le_of_ble_eq_true rfl) rfl (by decide) rfl (by decide) (by decide) ?_
  refine zY.go 4 rfl ?_
  exact zY.mono (zm71l I_ L_ k_ hk hn (L_ 22 0).length 0 0 (by omega)) (by decide) (fun _ _ _ h_ => h_)
theorem zm71x {I_ : zIn} {L_ : zLi} {x_ : Int32} (h_ : ¬ (0 ≤ x_ ∧ x_ ≤ 9)) : zYm 3 71 [zwR 6 0, zwI x_] I_ L_ 14 (zThw 9 I_ L_) := by
  refine zYm.of (Nat.le_of_ble_eq_true rfl) rfl ?_
  refine zY.go 3 rfl ?_
  exact zY.cx (zm33x h_) rfl rfl rfl rfl (Nat.le_of_ble_eq_true rfl) rfl (by decide) rfl (by decide) (by decide) (by decide) rfl ⟨rfl, rfl, rfl⟩
def zvtl (I_ : zIn) (L_ : zLi) (v_ : Nat) (x_ : Int32) : Nat → Int32 × (zIn × zLi)
  | 0 => (I_ 5 v_ 11, I_, L_)
  | 1 => (I_ 5 v_ 12, I_, L_)
  | 2 => (Int32.ofNat (L_ 24 v_).length, I_, L_)
  | 3 => (ztak I_ (L_ 26 v_) 0, I_, L_)
  | 4 => (zchs I_ (L_ 26 v_) 0, I_, L_)
  | 5 => (if I_ 5 v_ 10 = 0 then 0 else 1, I_, L_)
  | 6 => (if I_ 5 v_ 9 = 0 then 0 else 1, I_, L_)
  | 7 => if L_ 24 v_ = [] then (-1, I_, L_) else (zbck (zplS I_ L_ v_ x_) v_, zplS I_ L_ v_ x_, zplL I_ L_ v_ x_)
  | _ => (if (zirt I_ L_ v_ x_).1 = true then 1 else 0, (zirt I_ L_ v_ x_).2)
theorem zm115 {I_ : zIn} {L_ : zLi} {v_ : Nat} {x_ : Int32} (hn : (L_ 26 v_).length + (L_ 24 v_).length < 500) {k_ : Nat} (hk : k_ ≤ 8) : zYm 10 115 [zwR 5 v_, zwI (Int32.ofNat k_), zwI x_] I_ L_ 0 (zRet (some (zwI (zvtl I_ L_ v_ x_ k_).1)) (zvtl I_ L_ v_ x_ k_).2.1 (zvtl I_ L_ v_ x_ k_).2.2) := by
  refine zYm.of (Nat.le_of_ble_eq_true rfl) rfl ?_
  refine zY.go 1 rfl ?_
  obtain rfl | rfl | rfl | rfl | rfl | rfl | rfl | rfl | rfl : k_ = 0 ∨ k_ = 1 ∨ k_ = 2 ∨ k_ = 3 ∨ k_ = 4 ∨ k_ = 5 ∨ k_ = 6 ∨ k_ = 7 ∨ k_ = 8 := by omega
  · refine zY.sw (t_ := 48) rfl rfl rfl ?_
    refine zY.go 2 rfl ?_
    exact zY.ri rfl rfl ⟨by first | rfl | simp_all [zcp, zbo_0, zvtl], by first | rfl | simp_all [zcp, zvtl], by first | rfl | simp_all [zcp, zvtl]⟩
  · refine zY.sw (t_ := 53) rfl rfl rfl ?_
    refine zY.go 2 rfl ?_
    exact zY.ri rfl rfl ⟨by first | rfl | simp_all [zcp, zbo_0, zvtl], by first | rfl | simp_all [zcp, zvtl], by first | rfl | simp_all [zcp, zvtl]⟩
  · refine zY.sw (t_ := 58) rfl rfl rfl ?_
    refine zY.go 3 rfl ?_
    exact zY.ri rfl rfl ⟨by first | rfl | simp_all [zcp, zbo_0, zvtl], by first | rfl | simp_all [zcp, zvtl], by first | rfl | simp_all [zcp, zvtl]⟩
  · refine zY.sw (t_ := 66) rfl rfl rfl ?_
    refine zY.go 1 rfl ?_
    refine zY.cr (zm101) rfl rfl rfl rfl (Nat.le_of_ble_eq_true rfl) rfl (by decide) rfl (by decide) (by decide) ?_
    exact zY.ri rfl rfl ⟨by first | rfl | simp_all [zcp, zbo_0, zvtl], by first | rfl | simp_all [zcp, zvtl], by first | rfl | simp_all [zcp, zvtl]⟩
  · refine zY.sw (t_ := 71) rfl rfl rfl ?_
    refine zY.go 1 rfl ?_
    refine zY.cr (zm116) rfl rfl rfl rfl (Nat.le_of_ble_eq_true rfl) rfl (by decide) rfl (by decide) (by decide) ?_
    exact zY.ri rfl rfl ⟨by first | rfl | simp_all [zcp, zbo_0, zvtl], by first | rfl | simp_all [zcp, zvtl], by first | rfl | simp_all [zcp, zvtl]⟩
  · refine zY.sw (t_ := 76) rfl rfl rfl ?_
    refine zY.go 2 rfl ?_
    refine zY.bi rfl (fun hp80 => ?_) (fun hp80 => ?_)
    · refine zY.go 1 rfl ?_
      exact zY.ri rfl rfl ⟨by first | rfl | simp_all [zcp, zbo_0, zvtl], by first | rfl | simp_all [zcp, zvtl], by first | rfl | simp_all [zcp, zvtl]⟩
    · refine zY.go 2 rfl ?_
      exact zY.ri rfl rfl ⟨by first | rfl | simp_all [zcp, zbo_0, zvtl], by first | rfl | simp_all [zcp, zvtl], by first | rfl | simp_all [zcp, zvtl]⟩
  · refine zY.sw (t_ := 89) rfl rfl rfl ?_
    refine zY.go 2 rfl ?_
    refine zY.bi rfl (fun hp93 => ?_) (fun hp93 => ?_)
    · refine zY.go 1 rfl ?_
      exact zY.ri rfl rfl ⟨by first | rfl | simp_all [zcp, zbo_0, zvtl], by first | rfl | simp_all [zcp, zvtl], by first | rfl | simp_all [zcp, zvtl]⟩
    · refine zY.go 2 rfl ?_
      exact zY.ri rfl rfl ⟨by first | rfl | simp_all [zcp, zbo_0, zvtl], by first | rfl | simp_all [zcp, zvtl], by first | rfl | simp_all [zcp, zvtl]⟩
  · refine zY.sw (t_ := 102) rfl rfl rfl ?_
    refine zY.go 3 rfl ?_
    refine zY.bi rfl (fun hp109 => ?_) (fun hp109 => ?_)
    · refine zY.go 2 rfl ?_
      refine zY.cr (zm113 (by omega)) rfl rfl rfl rfl (Nat.le_of_ble_eq_true rfl) rfl (by decide) rfl (by decide) (by decide) ?_
      exact zY.ri rfl rfl ⟨by first | rfl | simp_all [zcp, zbo_0, zvtl], by first | rfl | simp_all [zcp, zvtl], by first | rfl | simp_all [zcp, zvtl]⟩
    · refine zY.go 2 rfl ?_
      exact zY.ri rfl rfl ⟨by first | rfl | simp_all [zcp, zbo_0, zvtl], by first | rfl | simp_all [zcp, zvtl], by first | rfl | simp_all [zcp, zvtl]⟩
  · refine zY.sw (t_ := 122) rfl rfl rfl ?_
    refine zY.go 2 rfl ?_
    refine zY.cr (zm100 hn) rfl rfl rfl rfl (Nat.le_of_ble_eq_true rfl) rfl (by decide) rfl (by decide) (by decide) ?_
    refine zY.bi rfl (fun hp127 => ?_) (fun hp127 => ?_)
    · refine zY.go 1 rfl ?_
      exact zY.ri rfl rfl ⟨by first | rfl | simp_all [zcp, zbo_0, zvtl], by first | rfl | simp_all [zcp, zvtl], by first | rfl | simp_all [zcp, zvtl]⟩
    · refine zY.go 2 rfl ?_
      exact zY.ri rfl rfl ⟨by first | rfl | simp_all [zcp, zbo_0, zvtl], by first | rfl | simp_all [zcp, zvtl], by first | rfl | simp_all [zcp, zvtl]⟩

