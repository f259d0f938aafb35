/-! CONTRACTS: what is asked of a vehicle's lists -/
theorem zpar_0 {s_ : Nat} : Int32.ofNat (s_ % 2) = 0 ↔ s_ % 2 = 0 := by
  have : s_ % 2 < 2 := Nat.mod_lt _ (by decide)
  constructor
  · intro h_
    have := zicl (n := s_ % 2) (by omega)
    rw [h_] at this; exact this.symm
  · intro h_; rw [h_]; rfl
theorem zof0 {n_ : Nat} : Int32.ofNat 0 = 0 := rfl
def zsea (I_ : zIn) (q_ : Nat) : Int32 := I_ 2 (I_ 1 q_ 0).toNatClampNeg 3
def ztak (I_ : zIn) : List Nat → Int32 → Int32
  | [], x_ => x_
  | t_ :: l, x_ => ztak I_ l (x_ + zsea I_ t_)
def zchs (I_ : zIn) : List Nat → Int32 → Int32
  | [], x_ => x_
  | t_ :: l, x_ => zchs I_ l (x_ + if zchr I_ t_ = true then 1 else 0)
def zsbd (I_ : zIn) : List Nat → Int32 → Int32
  | [], x_ => x_
  | t_ :: l, x_ => zsbd I_ l (if t_ % 2 = 0 then (if I_ 1 (t_ / 2) 5 = 1 ∨ I_ 1 (t_ / 2) 5 = 2 then x_ + zsea I_ (t_ / 2) else x_) else x_ - zsea I_ (t_ / 2))
def zfnd (t_ : Nat) : List Nat → Nat → Int32
  | [], _ => -1
  | s_ :: l, i_ => if s_ = t_ then Int32.ofNat i_ else zfnd t_ l (i_ + 1)
theorem zm101l (I_ : zIn) (L_ : zLi) (v_ : Nat) (hn : (L_ 26 v_).length ≤ 1000) : ∀ (n_ i_ : Nat) (x_ : Int32), n_ + i_ = (L_ 26 v_).length → zY none 3 101 4 [some (zwR 5 v_), some (zwI x_), some (zwI (Int32.ofNat i_))] [] I_ L_ 0 (zRet (some (zwI (ztak I_ ((L_ 26 v_).drop i_) x_))) I_ L_)
  | 0, i_, x_, hi_ => by
    rw [List.drop_of_length_le (by omega)]
    refine zY.go 4 rfl ?_
    refine zY.bn rfl (by omega) (by omega) (fun _ => ?_) (fun hF => absurd (show (L_ 26 v_).length ≤ i_ by omega) hF)
    refine zY.go 1 rfl ?_
    exact zY.ri rfl rfl ⟨rfl, rfl, rfl⟩
  | n_ + 1, i_, x_, hi_ => by
    obtain ⟨s_, hs⟩ : ∃ s_, (L_ 26 v_)[i_]? = some s_ := ⟨_, List.getElem?_eq_getElem (by omega)⟩
    rw [zdrop_cons hs]
    have ih_ := fun (x_ : Int32) => zm101l I_ L_ v_ hn n_ (i_ + 1) x_ (by omega)
    simp only [← zisucc] at ih_
    refine zY.go 4 rfl ?_
    refine zY.bn rfl (by omega) (by omega) (fun hT_ => absurd hT_ (show ¬ (L_ 26 v_).length ≤ i_ by omega)) (fun _ => ?_)
    refine zY.go 4 rfl ?_
    refine zY.cr (w_get rfl hs) rfl rfl rfl rfl (Nat.le_of_ble_eq_true rfl) rfl (by decide) rfl (by decide) (by decide) ?_
    refine zY.go 7 rfl ?_
    first | exact ih_ _ | exact zY.mono (ih_ _) (Nat.le_refl _) (fun r_ I2_ L2_ hq => by simp only [ztak]; simp_all [zcp, zbo_0, zpar_0, zek])
theorem zm101 {I_ : zIn} {L_ : zLi} {v_ : Nat} : zYm 3 101 [zwR 5 v_] I_ L_ 0 (zRet (some (zwI (ztak I_ (L_ 26 v_) 0))) I_ L_) := by
  refine zYm.inv (fun hi_ hw => ?_)
  have hx := hi_.veh (v_ := v_) (hw _ List.mem_cons_self)
  have hn := (hi_.1 26 v_ hx.2.2.1 (by decide)).1
  refine zYm.of (Nat.le_of_ble_eq_true rfl) rfl ?_
  refine zY.go 4 rfl ?_
  exact zm101l I_ L_ v_ hn (L_ 26 v_).length 0 0 (by omega)
theorem zm116l (I_ : zIn) (L_ : zLi) (v_ : Nat) (hn : (L_ 26 v_).length ≤ 1000) : ∀ (n_ i_ : Nat) (x_ : Int32), n_ + i_ = (L_ 26 v_).length → zY none 3 116 4 [some (zwR 5 v_), some (zwI x_), some (zwI (Int32.ofNat i_))] [] I_ L_ 0 (zRet (some (zwI (zchs I_ ((L_ 26 v_).drop i_) x_))) I_ L_)
  | 0, i_, x_, hi_ => by
    rw [List.drop_of_length_le (by omega)]
    refine zY.go 4 rfl ?_
    refine zY.bn rfl (by omega) (by omega) (fun _ => ?_) (fun hF => absurd (show (L_ 26 v_).length ≤ i_ by omega) hF)
    refine zY.go 1 rfl ?_
    exact zY.ri rfl rfl ⟨rfl, rfl, rfl⟩
  | n_ + 1, i_, x_, hi_ => by
    obtain ⟨s_, hs⟩ : ∃ s_, (L_ 26 v_)[i_]? = some s_ := ⟨_, List.getElem?_eq_getElem (by omega)⟩
    rw [zdrop_cons hs]
    have ih_ := fun (x_ : Int32) => zm116l I_ L_ v_ hn n_ (i_ + 1) x_ (by omega)
    simp only [← zisucc] at ih_
    refine zY.go 4 rfl ?_
    refine zY.bn rfl (by omega) (by omega) (fun hT_ => absurd hT_ (show ¬ (L_ 26 v_).length ≤ i_ by omega)) (fun _ => ?_)
    refine zY.go 4 rfl ?_
    refine zY.cr (w_get rfl hs) rfl rfl rfl rfl (Nat.le_of_ble_eq_true rfl) rfl (by decide) rfl (by decide) (by decide) ?_
    refine zY.go 4 rfl ?_
    refine zY.bc rfl (fun hp34 => ?_) (fun hp34 => ?_)
    · refine zY.go 5 rfl ?_
      first | exact ih_ _ | exact zY.mono (ih_ _) (Nat.le_refl _) (fun r_ I2_ L2_ hq => by simp only [zchs, zchr]; simp_all [zcp, zbo_0, zpar_0, zek])
    · refine zY.go 6 rfl ?_
      first | exact ih_ _ | exact zY.mono (ih_ _) (Nat.le_refl _) (fun r_ I2_ L2_ hq => by simp only [zchs, zchr]; simp_all [zcp, zbo_0, zpar_0, zek])
theorem zm116 {I_ : zIn} {L_ : zLi} {v_ : Nat} : zYm 3 116 [zwR 5 v_] I_ L_ 0 (zRet (some (zwI (zchs I_ (L_ 26 v_) 0))) I_ L_) := by
  refine zYm.inv (fun hi_ hw => ?_)
  have hx := hi_.veh (v_ := v_) (hw _ List.mem_cons_self)
  have hn := (hi_.1 26 v_ hx.2.2.1 (by decide)).1
  refine zYm.of (Nat.le_of_ble_eq_true rfl) rfl ?_
  refine zY.go 4 rfl ?_
  exact zm116l I_ L_ v_ hn (L_ 26 v_).length 0 0 (by omega)

theorem zm117l (I_ : zIn) (L_ : zLi) (v_ : Nat) (hn : (L_ 25 v_).length ≤ 1000) : ∀ (n_ i_ : Nat) (x_ : Int32) (k1_ : Option zW) (k2_ : Option zW), n_ + i_ = (L_ 25 v_).length → zY none 3 117 4 [some (zwR 5 v_), some (zwI x_), some (zwI (Int32.ofNat i_)), k1_, k2_] [] I_ L_ 0 (zRet (some (zwI (zsbd I_ ((L_ 25 v_).drop i_) x_))) I_ L_)
  | 0, i_, x_, k1_, k2_, hi_ => by
    rw [List.drop_of_length_le (by omega)]
    refine zY.go 4 rfl ?_
    refine zY.bn rfl (by omega) (by omega) (fun _ => ?_) (fun hF => absurd (show (L_ 25 v_).length ≤ i_ by omega) hF)
    refine zY.go 1 rfl ?_
    exact zY.ri rfl rfl ⟨rfl, rfl, rfl⟩
  | n_ + 1, i_, x_, k1_, k2_, hi_ => by
    obtain ⟨s_, hs⟩ : ∃ s_, (L_ 25 v_)[i_]? = some s_ := ⟨_, List.getElem?_eq_getElem (by omega)⟩
    rw [zdrop_cons hs]
    have ih_ := fun (x_ : Int32) (k1_ : Option zW) (k2_ : Option zW) => zm117l I_ L_ v_ hn n_ (i_ + 1) x_ k1_ k2_ (by omega)
    simp only [← zisucc] at ih_
    refine zY.go 4 rfl ?_
    refine zY.bn rfl (by omega) (by omega) (fun hT_ => absurd hT_ (show ¬ (L_ 25 v_).length ≤ i_ by omega)) (fun _ => ?_)
    refine zY.go 3 rfl ?_
    refine zY.cr (w_get rfl hs) rfl rfl rfl rfl (Nat.le_of_ble_eq_true rfl) rfl (by decide) rfl (by decide) (by decide) ?_
    refine zY.go 9 rfl ?_
    refine zY.bi rfl (fun hp43 => ?_) (fun hp43 => ?_)
    · refine zY.go 4 rfl ?_
      refine zY.bc rfl (fun hp62 => ?_) (fun hp62 => ?_)
      · refine zY.go 6 rfl ?_
        first | exact ih_ _ _ _ | exact zY.mono (ih_ _ _ _) (Nat.le_refl _) (fun r_ I2_ L2_ hq => by simp only [zsbd, zsea]; simp_all [zcp, zbo_0, zpar_0, zek])
      · refine zY.go 4 rfl ?_
        refine zY.bc rfl (fun hp73 => ?_) (fun hp73 => ?_)
        · refine zY.go 2 rfl ?_
          first | exact ih_ _ _ _ | exact zY.mono (ih_ _ _ _) (Nat.le_refl _) (fun r_ I2_ L2_ hq => by simp only [zsbd, zsea]; simp_all [zcp, zbo_0, zpar_0, zek])
        · refine zY.go 6 rfl ?_
          first | exact ih_ _ _ _ | exact zY.mono (ih_ _ _ _) (Nat.le_refl _) (fun r_ I2_ L2_ hq => by simp only [zsbd, zsea]; simp_all [zcp, zbo_0, zpar_0, zek])
    · refine zY.go 7 rfl ?_
      first | exact ih_ _ _ _ | exact zY.mono (ih_ _ _ _) (Nat.le_refl _) (fun r_ I2_ L2_ hq => by simp only [zsbd, zsea]; simp_all [zcp, zbo_0, zpar_0, zek])
theorem zm117 {I_ : zIn} {L_ : zLi} {v_ : Nat} : zYm 3 117 [zwR 5 v_] I_ L_ 0 (zRet (some (zwI (zsbd I_ (L_ 25 v_) 0))) I_ L_) := by
  refine zYm.inv (fun hi_ hw => ?_)
  have hx := hi_.veh (v_ := v_) (hw _ List.mem_cons_self)
  have hn := (hi_.1 25 v_ hx.2.1 (by decide)).1
  refine zYm.of (Nat.le_of_ble_eq_true rfl) rfl ?_
  refine zY.go 4 rfl ?_
  exact zm117l I_ L_ v_ hn (L_ 25 v_).length 0 0 none none (by omega)
theorem zm114l (I_ : zIn) (L_ : zLi) (v_ : Nat) (q_ e_ : Nat) (he : e_ < 2) (hn : (L_ 24 v_).length ≤ 1000) : ∀ (n_ i_ : Nat) , n_ + i_ = (L_ 24 v_).length → zY none 3 114 2 [some (zwR 5 v_), some (zwR 1 q_), some (zwI (Int32.ofNat e_)), some (zwI (Int32.ofNat i_))] [] I_ L_ 0 (zRet (some (zwI (zfnd (2 * q_ + e_) ((L_ 24 v_).drop i_) i_))) I_ L_)
  | 0, i_, hi_ => by
    rw [List.drop_of_length_le (by omega)]
    refine zY.go 4 rfl ?_
    refine zY.bn rfl (by omega) (by omega) (fun _ => ?_) (fun hF => absurd (show (L_ 24 v_).length ≤ i_ by omega) hF)
    refine zY.go 1 rfl ?_
    exact zY.ri rfl rfl ⟨by simp_all [zfnd], rfl, rfl⟩
  | n_ + 1, i_, hi_ => by
    obtain ⟨s_, hs⟩ : ∃ s_, (L_ 24 v_)[i_]? = some s_ := ⟨_, List.getElem?_eq_getElem (by omega)⟩
    rw [zdrop_cons hs]
    have ih_ := fun (_ : Nat) => zm114l I_ L_ v_ q_ e_ he hn n_ (i_ + 1)  (by omega)
    simp only [← zisucc] at ih_
    refine zY.go 4 rfl ?_
    refine zY.bn rfl (by omega) (by omega) (fun hT_ => absurd hT_ (show ¬ (L_ 24 v_).length ≤ i_ by omega)) (fun _ => ?_)
    refine zY.go 3 rfl ?_
    refine zY.cr (w_get rfl hs) rfl rfl rfl rfl (Nat.le_of_ble_eq_true rfl) rfl (by decide) rfl (by decide) (by decide) ?_
    refine zY.go 3 rfl ?_
    refine zY.an rfl (fun hp28 => ?_) (fun hp28 => ?_)
    · refine zY.go 2 rfl ?_
      (have hne : ¬ s_ = 2 * q_ + e_ := by first | exact fun e1_ => hp28 ⟨rfl, by omega⟩ | exact fun e1_ => hp46 (by rw [show s_ % 2 = e_ by omega])); rw [zfnd, if_neg hne]; exact ih_ 0
    · refine zY.go 3 rfl ?_
      refine zY.cr (w_get rfl hs) rfl rfl rfl rfl (Nat.le_of_ble_eq_true rfl) rfl (by decide) rfl (by decide) (by decide) ?_
      refine zY.go 3 rfl ?_
      refine zY.bc rfl (fun hp46 => ?_) (fun hp46 => ?_)
      · refine zY.go 2 rfl ?_
        (have hne : ¬ s_ = 2 * q_ + e_ := by first | exact fun e1_ => hp28 ⟨rfl, by omega⟩ | exact fun e1_ => hp46 (by rw [show s_ % 2 = e_ by omega])); rw [zfnd, if_neg hne]; exact ih_ 0
      · refine zY.go 1 rfl ?_
        exact zY.ri rfl rfl ⟨by have h1 : s_ % 2 = e_ := Decidable.byContradiction (fun h_ => hp46 (zine (by omega) (by omega) h_)); rw [zfnd, if_pos (by have := hp28.2; omega)], rfl, rfl⟩
theorem zm114 {I_ : zIn} {L_ : zLi} {v_ q_ e_ : Nat} (he : e_ < 2) : zYm 3 114 [zwR 5 v_, zwR 1 q_, zwI (Int32.ofNat e_)] I_ L_ 0 (zRet (some (zwI (zfnd (2 * q_ + e_) (L_ 24 v_) 0))) I_ L_) := by
  refine zYm.inv (fun hi_ hw => ?_)
  have hx := hi_.veh (v_ := v_) (hw _ List.mem_cons_self)
  have hn := (hi_.1 24 v_ hx.1 (by decide)).1
  refine zYm.of (Nat.le_of_ble_eq_true rfl) rfl ?_
  refine zY.go 2 rfl ?_
  exact zm114l I_ L_ v_ q_ e_ he hn (L_ 24 v_).length 0 (by omega)

