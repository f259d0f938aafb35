/-! CONTRACTS: minutes and days -/
theorem zpid_ne {I_ : zIn} {L_ : zLi} {v_ s_ c_ i_ : Nat} (h_ : ¬ (c_ = 24 ∧ i_ = v_)) (h2 : ¬ (c_ = 26 ∧ i_ = v_)) : (zpid I_ L_ v_ s_).2 c_ i_ = L_ c_ i_ := by
  unfold zpid
  split
  · exact zlup_ne h_
  · split
    · exact zlup_ne h_
    · exact zlup_ne h2
theorem ztka_len {q_ : Nat} : ∀ (n_ : Nat) (l : List Nat), (ztka q_ n_ l).length ≤ l.length
  | 0, l => Nat.le_refl _
  | n_ + 1, l => by
    unfold ztka
    refine Nat.le_trans (ztka_len n_ _) ?_
    split
    · split
      · rw [List.length_eraseIdx]; split <;> omega
      · exact Nat.le_refl _
    · exact Nat.le_refl _
theorem zpid_len {I_ : zIn} {L_ : zLi} {v_ s_ c_ i_ : Nat} (hc_ : c_ = 25 ∨ c_ = 26) : ((zpid I_ L_ v_ s_).2 c_ i_).length ≤ (L_ c_ i_).length + 1 := by
  by_cases h_ : c_ = 26 ∧ i_ = v_
  · obtain ⟨rfl, rfl⟩ := h_
    unfold zpid
    split
    · dsimp only; rw [zlup_ne (by simp)]; omega
    · split
      · dsimp only; rw [zlup_ne (by simp)]; omega
      · dsimp only; rw [zlup_self]; simp
  · rw [zpid_ne (by omega) h_]; omega
theorem zfi2_ne {I_ : zIn} {L_ : zLi} {v_ s_ c_ i_ : Nat} {x_ : Int32} (h_ : ¬ (c_ = 24 ∧ i_ = v_)) (h1 : ¬ (c_ = 25 ∧ i_ = v_)) (h2 : ¬ (c_ = 26 ∧ i_ = v_)) : (zfi2 I_ L_ v_ s_ x_).2 c_ i_ = L_ c_ i_ := by
  have hL : zfiL L_ v_ s_ c_ i_ = L_ c_ i_ := by unfold zfiL; rw [zlup_ne h1, zlup_ne h_]
  unfold zfi2
  split
  · rw [zpid_ne h_ h2, hL]
  · dsimp only; rw [zlup_ne h2, hL]
theorem zfi2_len {I_ : zIn} {L_ : zLi} {v_ s_ c_ i_ : Nat} {x_ : Int32} (hc_ : c_ = 25 ∨ c_ = 26) : ((zfi2 I_ L_ v_ s_ x_).2 c_ i_).length ≤ (L_ c_ i_).length + 1 := by
  have e26_ : ∀ u_, zfiL L_ v_ s_ 26 u_ = L_ 26 u_ := fun u_ => by unfold zfiL; rw [zlup_ne (by simp), zlup_ne (by simp)]
  have l25 : ∀ u_, (zfiL L_ v_ s_ 25 u_).length ≤ (L_ 25 u_).length + 1 := fun u_ => by
    unfold zfiL
    by_cases h_ : u_ = v_
    · subst h_; rw [zlup_self, zlup_ne (by simp)]; simp
    · rw [zlup_ne (fun e_ => h_ e_.2), zlup_ne (by simp)]; omega
  unfold zfi2
  rcases hc_ with rfl | rfl
  · split
    · rw [zpid_ne (by simp) (by simp)]; exact l25 i_
    · dsimp only
      rw [zlup_ne (by simp)]; exact l25 i_
  · split
    · have := zpid_len (I_ := zfi1 I_ v_ s_ x_) (L_ := zfiL L_ v_ s_) (v_ := v_) (s_ := s_) (c_ := 26) (i_ := i_) (Or.inr rfl)
      rw [e26_] at this; exact this
    · dsimp only
      by_cases h_ : i_ = v_
      · subst h_
        rw [zlup_self, e26_]
        have := ztka_len (q_ := s_ / 2) (L_ 26 i_).length (L_ 26 i_)
        omega
      · rw [zlup_ne (fun e_ => h_ e_.2), e26_]; omega
theorem zfnn_ne {I_ : zIn} {L_ : zLi} {v_ c_ i_ : Nat} {x_ : Int32} (h_ : ¬ (c_ = 24 ∧ i_ = v_)) (h1 : ¬ (c_ = 25 ∧ i_ = v_)) (h2 : ¬ (c_ = 26 ∧ i_ = v_)) : (zfnn I_ L_ v_ x_).2 c_ i_ = L_ c_ i_ := by
  unfold zfnn
  split
  · rfl
  · split
    · rfl
    · split
      · split
        · rfl
        · exact zfi2_ne h_ h1 h2
      · rfl
theorem zfnn_len {I_ : zIn} {L_ : zLi} {v_ c_ i_ : Nat} {x_ : Int32} (hc_ : c_ = 25 ∨ c_ = 26) : ((zfnn I_ L_ v_ x_).2 c_ i_).length ≤ (L_ c_ i_).length + 1 := by
  unfold zfnn
  split
  · dsimp only; omega
  · split
    · dsimp only; omega
    · split
      · split
        · dsimp only; omega
        · exact zfi2_len hc_
      · dsimp only; omega
def zpmv (v_ : Nat) (I_ : zIn) (L_ : zLi) : zIn × zLi := (zlvd (zfnn I_ L_ v_ (I_ 6 0 8)).1 (zfnn I_ L_ v_ (I_ 6 0 8)).2 v_ ((zfnn I_ L_ v_ (I_ 6 0 8)).1 6 0 8), (zfnn I_ L_ v_ (I_ 6 0 8)).2)
def zpml : List Nat → zIn → zLi → zIn × zLi
  | [], I_, L_ => (I_, L_)
  | v_ :: r_, I_, L_ => zpml r_ (zpmv v_ I_ L_).1 (zpmv v_ I_ L_).2
def zbnd (L_ : zLi) (k_ : Nat) : Prop := ∀ c_ v_, c_ = 25 ∨ c_ = 26 → (L_ c_ v_).length ≤ k_
theorem zpmv_bnd {v_ k_ : Nat} {I_ : zIn} {L_ : zLi} (h_ : zbnd L_ k_) : zbnd (zpmv v_ I_ L_).2 (k_ + 1) := by
  intro c_ u_ hc_
  have h1 := h_ c_ u_ hc_
  have h2 := zfnn_len (I_ := I_) (L_ := L_) (v_ := v_) (x_ := I_ 6 0 8) (i_ := u_) hc_
  show ((zfnn I_ L_ v_ (I_ 6 0 8)).2 c_ u_).length ≤ k_ + 1
  omega
theorem zpmv_21 {v_ : Nat} {I_ : zIn} {L_ : zLi} {c_ i_ : Nat} (hc_ : c_ < 24) : (zpmv v_ I_ L_).2 c_ i_ = L_ c_ i_ := zfnn_ne (by omega) (by omega) (by omega)
theorem zm54l (l : List Nat) (hn : l.length ≤ 90) : ∀ (n_ i_ : Nat) (I_ : zIn) (L_ : zLi), n_ + i_ = l.length → L_ 21 0 = l → zbnd L_ (500 + i_) → zY none 8 54 12 [some (zwR 6 0), some (zwI (Int32.ofNat i_))] [] I_ L_ 0 (zRet none (zpml (l.drop i_) I_ L_).1 (zpml (l.drop i_) I_ L_).2)
  | 0, i_, I_, L_, hi_, h21, hb_ => by
    subst h21
    rw [List.drop_of_length_le (by omega)]
    refine zY.go 4 rfl ?_
    refine zY.bn rfl (by omega) (by omega) (fun _ => ?_) (fun hF => absurd (show (L_ 21 0).length ≤ i_ by omega) hF)
    exact zY.rv rfl rfl ⟨rfl, rfl, rfl⟩
  | n_ + 1, i_, I_, L_, hi_, h21, hb_ => by
    subst h21
    obtain ⟨s_, hs⟩ : ∃ s_, (L_ 21 0)[i_]? = some s_ := ⟨_, List.getElem?_eq_getElem (by omega)⟩
    rw [zdrop_cons hs]
    have e21_ : (zfnn I_ L_ s_ (I_ 6 0 8)).2 21 0 = L_ 21 0 := zfnn_ne (by simp) (by simp) (by simp)
    have ih_ := zm54l (L_ 21 0) hn n_ (i_ + 1) (zpmv s_ I_ L_).1 (zpmv s_ I_ L_).2 (by omega) (zpmv_21 (by decide)) (zpmv_bnd hb_)
    rw [← zisucc] at ih_
    refine zY.go 4 rfl ?_
    refine zY.bn rfl (by omega) (by omega) (fun hT_ => absurd hT_ (show ¬ (L_ 21 0).length ≤ i_ by omega)) (fun _ => ?_)
    refine zY.go 3 rfl ?_
    refine zY.cr (w_get rfl hs) rfl rfl rfl rfl (Nat.le_of_ble_eq_true rfl) rfl (by decide) rfl (by decide) (by decide) ?_
    refine zY.go 3 rfl ?_
    refine zY.cr (zm105 (by have := hb_ 25 s_ (Or.inl rfl); omega) (by have := hb_ 26 s_ (Or.inr rfl); omega)) rfl rfl rfl rfl (Nat.le_of_ble_eq_true rfl) rfl (by decide) rfl (by decide) (by decide) ?_
    refine zY.go 3 rfl ?_
    refine zY.cr (w_get rfl (show (_ : List Nat)[i_]? = some s_ by rw [e21_]; exact hs)) rfl rfl rfl rfl (Nat.le_of_ble_eq_true rfl) rfl (by decide) rfl (by decide) (by decide) ?_
    refine zY.go 3 rfl ?_
    refine zY.cr zm108 rfl rfl rfl rfl (Nat.le_of_ble_eq_true rfl) rfl (by decide) rfl (by decide) (by decide) ?_
    refine zY.go 2 rfl ?_
    exact ih_
def zpm (I_ : zIn) (L_ : zLi) : zIn × zLi := zpml (L_ 21 0) (zset I_ 6 0 8 (I_ 6 0 8 + 1)) L_
theorem zm54 {I_ : zIn} {L_ : zLi} (hn : (L_ 21 0).length ≤ 90) (hb_ : zbnd L_ 500) : zYm 8 54 [zwR 6 0] I_ L_ 0 (zRet none (zpm I_ L_).1 (zpm I_ L_).2) := by
  refine zYm.of (Nat.le_of_ble_eq_true rfl) rfl ?_
  refine zY.go 8 rfl ?_
  exact zm54l (L_ 21 0) hn (L_ 21 0).length 0 _ L_ (by omega) rfl hb_
/-- n minutes -/
def zpms : Nat → zIn → zLi → zIn × zLi
  | 0, I_, L_ => (I_, L_)
  | n_ + 1, I_, L_ => zpms n_ (zpm I_ L_).1 (zpm I_ L_).2
theorem zm53l {P_ : zIn → zLi → Prop} (hP : ∀ I_ L_, P_ I_ L_ → (L_ 21 0).length ≤ 90 ∧ zbnd L_ 500) (hS_ : ∀ I_ L_, P_ I_ L_ → P_ (zpm I_ L_).1 (zpm I_ L_).2) (N_ : Nat) (hN_ : N_ ≤ 1000) {a_ : Nat} {Q_ : zPost} : ∀ (n_ i_ : Nat) (I_ : zIn) (L_ : zLi), n_ + i_ = N_ → P_ I_ L_ → (P_ (zpms n_ I_ L_).1 (zpms n_ I_ L_).2 → zY none 9 53 44 [some (zwR 6 0), some (zwI (Int32.ofNat N_)), some (zwI (Int32.ofNat N_))] [] (zpms n_ I_ L_).1 (zpms n_ I_ L_).2 a_ Q_) → zY none 9 53 29 [some (zwR 6 0), some (zwI (Int32.ofNat N_)), some (zwI (Int32.ofNat i_))] [] I_ L_ a_ Q_
  | 0, i_, I_, L_, hi_, hp, hX => by
    have : i_ = N_ := by omega
    subst this
    refine zY.go 2 rfl ?_
    refine zY.bn rfl (by omega) (by omega) (fun _ => hX hp) (fun hF => absurd (Nat.le_refl i_) hF)
  | n_ + 1, i_, I_, L_, hi_, hp, hX => by
    have ih_ := zm53l hP hS_ N_ hN_ (a_ := a_) (Q_ := Q_) n_ (i_ + 1) (zpm I_ L_).1 (zpm I_ L_).2 (by omega) (hS_ I_ L_ hp) hX
    rw [← zisucc] at ih_
    refine zY.go 2 rfl ?_
    refine zY.bn rfl (by omega) (by omega) (fun hT_ => absurd hT_ (show ¬ N_ ≤ i_ by omega)) (fun _ => ?_)
    refine zY.go 1 rfl ?_
    refine zY.cr (zm54 (hP I_ L_ hp).1 (hP I_ L_ hp).2) rfl rfl rfl rfl (Nat.le_of_ble_eq_true rfl) rfl (by decide) rfl (by decide) (Nat.zero_le _) ?_
    refine zY.go 2 rfl ?_
    exact ih_
theorem zm53t {I_ : zIn} {L_ : zLi} {N_ : Nat} {P_ : zIn → zLi → Prop} (hP : ∀ I_ L_, P_ I_ L_ → (L_ 21 0).length ≤ 90 ∧ zbnd L_ 500) (hS_ : ∀ I_ L_, P_ I_ L_ → P_ (zpm I_ L_).1 (zpm I_ L_).2) (hp : P_ I_ L_) (hN_ : 1 ≤ N_ ∧ N_ ≤ 120) (h6 : I_ 6 0 8 + Int32.ofNat N_ ≤ 600) : zYm 9 53 [zwR 6 0, zwI (Int32.ofNat N_)] I_ L_ 0 (zRet (some (zwI ((zpms N_ I_ L_).1 6 0 8))) (zpms N_ I_ L_).1 (zpms N_ I_ L_).2) := by
  refine zYm.of (Nat.le_of_ble_eq_true rfl) rfl ?_
  refine zY.go 3 rfl ?_
  refine zY.cr (zm33t ⟨(zile (a := 1) (by omega) (by omega)).mpr hN_.1, (zile (b := 120) (by omega) (by omega)).mpr hN_.2⟩) rfl rfl rfl rfl (Nat.le_of_ble_eq_true rfl) rfl (by decide) rfl (by decide) (by decide) ?_
  refine zY.go 5 rfl ?_
  refine zY.bc rfl (fun hp16 => absurd hp16 (Int32.not_lt.mpr h6)) (fun hp16 => ?_)
  refine zY.go 2 rfl ?_
  refine zY.cr (zm35t (x_ := 1) (by decide)) rfl rfl rfl rfl (Nat.le_of_ble_eq_true rfl) rfl (by decide) rfl (by decide) (by decide) ?_
  refine zY.go 2 rfl ?_
  refine zm53l hP hS_ N_ (by omega) N_ 0 I_ L_ (by omega) hp (fun _ => ?_)
  refine zY.go 2 rfl ?_
  exact zY.ri rfl rfl ⟨rfl, rfl, rfl⟩
theorem zm53a {I_ : zIn} {L_ : zLi} {x_ : Int32} (h_ : ¬ (1 ≤ x_ ∧ x_ ≤ 120)) : zYm 9 53 [zwR 6 0, zwI x_] I_ L_ 14 (zThw 9 I_ L_) := by
  refine zYm.of (Nat.le_of_ble_eq_true rfl) rfl ?_
  refine zY.go 3 rfl ?_
  exact zY.cx (zm33x h_) rfl rfl rfl rfl (Nat.le_of_ble_eq_true rfl) rfl (by decide) rfl (by decide) (by decide) (by decide) rfl ⟨rfl, rfl, rfl⟩
theorem zm53b {I_ : zIn} {L_ : zLi} {x_ : Int32} (h_ : 1 ≤ x_ ∧ x_ ≤ 120) (h6 : ¬ I_ 6 0 8 + x_ ≤ 600) : zYm 9 53 [zwR 6 0, zwI x_] I_ L_ 14 (zThw 10 I_ L_) := by
  refine zYm.of (Nat.le_of_ble_eq_true rfl) rfl ?_
  refine zY.go 3 rfl ?_
  refine zY.cr (zm33t h_) rfl rfl rfl rfl (Nat.le_of_ble_eq_true rfl) rfl (by decide) rfl (by decide) (by decide) ?_
  refine zY.go 5 rfl ?_
  refine zY.bc rfl (fun hp16 => ?_) (fun hp16 => absurd (Int32.not_lt.mp hp16) h6)
  refine zY.go 1 rfl ?_
  exact zY.cx zm35x rfl rfl rfl rfl (Nat.le_of_ble_eq_true rfl) rfl (by decide) rfl (by decide) (by decide) (by decide) rfl ⟨rfl, rfl, rfl⟩
/-- failAllOpen -/
def zfao : List Nat → zIn → Int32 → Int32 × zIn
  | [], I_, x_ => (x_, I_)
  | q_ :: l, I_, x_ => if I_ 1 q_ 5 = 0 ∨ I_ 1 q_ 5 = 1 then zfao l (zset I_ 1 q_ 5 5) (x_ + 1) else zfao l I_ x_
theorem zm56l (L_ : zLi) (hn : (L_ 22 0).length ≤ 1000) : ∀ (n_ i_ : Nat) (I_ : zIn) (x_ : Int32) (k_ : Option zW), n_ + i_ = (L_ 22 0).length → zY none 3 56 4 [some (zwR 6 0), some (zwI x_), some (zwI (Int32.ofNat i_)), k_] [] I_ L_ 0 (zRet (some (zwI (zfao ((L_ 22 0).drop i_) I_ x_).1)) (zfao ((L_ 22 0).drop i_) I_ x_).2 L_)
  | 0, i_, I_, x_, k_, hi_ => by
    rw [List.drop_of_length_le (by omega)]
    refine zY.go 4 rfl ?_
    refine zY.bn rfl (by omega) (by omega) (fun _ => ?_) (fun hF => absurd (show (L_ 22 0).length ≤ i_ by omega) hF)
    refine zY.go 1 rfl ?_
    exact zY.ri rfl rfl ⟨rfl, rfl, rfl⟩
  | n_ + 1, i_, I_, x_, k_, hi_ => by
    obtain ⟨s_, hs⟩ : ∃ s_, (L_ 22 0)[i_]? = some s_ := ⟨_, List.getElem?_eq_getElem (by omega)⟩
    rw [zdrop_cons hs]
    have ih_ := fun (I_ : zIn) (x_ : Int32) (k_ : Option zW) => zm56l L_ hn n_ (i_ + 1) I_ x_ k_ (by omega)
    simp only [← zisucc] at ih_
    refine zY.go 4 rfl ?_
    refine zY.bn rfl (by omega) (by omega) (fun hT_ => absurd hT_ (show ¬ (L_ 22 0).length ≤ i_ by omega)) (fun _ => ?_)
    refine zY.go 3 rfl ?_
    refine zY.cr (w_get rfl hs) rfl rfl rfl rfl (Nat.le_of_ble_eq_true rfl) rfl (by decide) rfl (by decide) (by decide) ?_
    refine zY.go 4 rfl ?_
    unfold zfao
    refine zY.bi rfl (fun hp31 => ?_) (fun hp31 => ?_)
    · rw [if_pos (Or.inl (show I_ 1 s_ 5 = 0 from hp31))]
      refine zY.go 6 rfl ?_
      exact ih_ _ _ _
    · refine zY.go 3 rfl ?_
      refine zY.bc rfl (fun hp39 => ?_) (fun hp39 => ?_)
      · rw [if_neg (fun h_ => h_.elim hp31 hp39)]
        refine zY.go 2 rfl ?_
        exact ih_ _ _ _
      · rw [if_pos (Or.inr (show I_ 1 s_ 5 = 1 from Decidable.byContradiction hp39))]
        refine zY.go 6 rfl ?_
        exact ih_ _ _ _
theorem zm56 {I_ : zIn} {L_ : zLi} : zYm 3 56 [zwR 6 0] I_ L_ 0 (zRet (some (zwI (zfao (L_ 22 0) I_ 0).1)) (zfao (L_ 22 0) I_ 0).2 L_) := by
  refine zYm.inv (fun hi_ hw => ?_)
  have hn := zinv22 hi_ (hw (zwR 6 0) (by simp)) 22 (by decide)
  refine zYm.of (Nat.le_of_ble_eq_true rfl) rfl ?_
  refine zY.go 4 rfl ?_
  exact zm56l L_ hn (L_ 22 0).length 0 I_ 0 none (by omega)
/-- the vehicles' next day -/
def zbgd (v_ : Nat) (I_ : zIn) (L_ : zLi) : zIn × zLi := (zset (zset (zset I_ 5 v_ 10 0) 5 v_ 11 (I_ 5 v_ 1)) 5 v_ 12 0, zlup (zlup (zlup L_ 24 v_ []) 25 v_ []) 26 v_ [])
def zbgl : List Nat → zIn → zLi → zIn × zLi
  | [], I_, L_ => (I_, L_)
  | v_ :: r_, I_, L_ => zbgl r_ (zbgd v_ I_ L_).1 (zbgd v_ I_ L_).2
theorem zbgd_ne {v_ c_ i_ : Nat} {I_ : zIn} {L_ : zLi} (h_ : c_ < 24) : (zbgd v_ I_ L_).2 c_ i_ = L_ c_ i_ := by
  show zlup (zlup (zlup L_ 24 v_ []) 25 v_ []) 26 v_ [] c_ i_ = _
  rw [zlup_ne (by omega), zlup_ne (by omega), zlup_ne (by omega)]
def zedy (p_ : zIn × zLi) : zIn × zLi := (zset (zset p_.1 6 0 7 (p_.1 6 0 7 + 1)) 6 0 8 0, p_.2)
theorem zm55v (l : List Nat) (hn : l.length ≤ 1000) (y_ w_ : Int32) {a_ : Nat} {Q_ : zPost} : ∀ (n_ i_ : Nat) (I_ : zIn) (L_ : zLi), n_ + i_ = l.length → L_ 21 0 = l → Q_ (.inl (some (zwI y_))) (zedy (zbgl (l.drop i_) I_ L_)).1 (zedy (zbgl (l.drop i_) I_ L_)).2 → zY none 9 55 51 [some (zwR 6 0), some (zwI w_), some (zwI y_), some (zwI (Int32.ofNat i_))] [] I_ L_ a_ Q_
  | 0, i_, I_, L_, hi_, h21, hQ => by
    subst h21
    rw [List.drop_of_length_le (by omega)] at hQ
    refine zY.go 4 rfl ?_
    refine zY.bn rfl (by omega) (by omega) (fun _ => ?_) (fun hF => absurd (show (L_ 21 0).length ≤ i_ by omega) hF)
    refine zY.go 10 rfl ?_
    exact zY.ri rfl rfl hQ
  | n_ + 1, i_, I_, L_, hi_, h21, hQ => by
    subst h21
    obtain ⟨s_, hs⟩ : ∃ s_, (L_ 21 0)[i_]? = some s_ := ⟨_, List.getElem?_eq_getElem (by omega)⟩
    rw [zdrop_cons hs] at hQ
    have ih_ := zm55v (L_ 21 0) hn y_ w_ (a_ := a_) (Q_ := Q_) n_ (i_ + 1) (zbgd s_ I_ L_).1 (zbgd s_ I_ L_).2 (by omega) (zbgd_ne (by decide)) hQ
    rw [← zisucc] at ih_
    refine zY.go 4 rfl ?_
    refine zY.bn rfl (by omega) (by omega) (fun hT_ => absurd hT_ (show ¬ (L_ 21 0).length ≤ i_ by omega)) (fun _ => ?_)
    refine zY.go 3 rfl ?_
    refine zY.cr (w_get rfl hs) rfl rfl rfl rfl (Nat.le_of_ble_eq_true rfl) rfl (by decide) rfl (by decide) (Nat.zero_le _) ?_
    refine zY.go 1 rfl ?_
    refine zY.cr zm109 rfl rfl rfl rfl (Nat.le_of_ble_eq_true rfl) rfl (by decide) rfl (by decide) (Nat.zero_le _) ?_
    refine zY.go 2 rfl ?_
    exact ih_
theorem zm55l {P_ : zIn → zLi → Prop} (hP : ∀ I_ L_, P_ I_ L_ → (L_ 21 0).length ≤ 90 ∧ zbnd L_ 500) (hS_ : ∀ I_ L_, P_ I_ L_ → P_ (zpm I_ L_).1 (zpm I_ L_).2) (N_ : Nat) (hN_ : N_ ≤ 1000) {a_ : Nat} {Q_ : zPost} : ∀ (n_ i_ : Nat) (I_ : zIn) (L_ : zLi), n_ + i_ = N_ → P_ I_ L_ → (P_ (zpms n_ I_ L_).1 (zpms n_ I_ L_).2 → zY none 9 55 44 [some (zwR 6 0), some (zwI (Int32.ofNat N_)), some (zwI (Int32.ofNat N_)), none] [] (zpms n_ I_ L_).1 (zpms n_ I_ L_).2 a_ Q_) → zY none 9 55 29 [some (zwR 6 0), some (zwI (Int32.ofNat N_)), some (zwI (Int32.ofNat i_)), none] [] I_ L_ a_ Q_
  | 0, i_, I_, L_, hi_, hp, hX => by
    have : i_ = N_ := by omega
    subst this
    refine zY.go 2 rfl ?_
    refine zY.bn rfl (by omega) (by omega) (fun _ => hX hp) (fun hF => absurd (Nat.le_refl i_) hF)
  | n_ + 1, i_, I_, L_, hi_, hp, hX => by
    have ih_ := zm55l hP hS_ N_ hN_ (a_ := a_) (Q_ := Q_) n_ (i_ + 1) (zpm I_ L_).1 (zpm I_ L_).2 (by omega) (hS_ I_ L_ hp) hX
    rw [← zisucc] at ih_
    refine zY.go 2 rfl ?_
    refine zY.bn rfl (by omega) (by omega) (fun hT_ => absurd hT_ (show ¬ N_ ≤ i_ by omega)) (fun _ => ?_)
    refine zY.go 1 rfl ?_
    refine zY.cr (zm54 (hP I_ L_ hp).1 (hP I_ L_ hp).2) rfl rfl rfl rfl (Nat.le_of_ble_eq_true rfl) rfl (by decide) rfl (by decide) (Nat.zero_le _) ?_
    refine zY.go 2 rfl ?_
    exact ih_
/-- end -/
def zend (N_ : Nat) (I_ : zIn) (L_ : zLi) : Int32 × (zIn × zLi) := ((zfao ((zpms N_ I_ L_).2 22 0) (zpms N_ I_ L_).1 0).1, zedy (zbgl ((zpms N_ I_ L_).2 21 0) (zfao ((zpms N_ I_ L_).2 22 0) (zpms N_ I_ L_).1 0).2 (zpms N_ I_ L_).2))
theorem zm55t {I_ : zIn} {L_ : zLi} {N_ : Nat} {P_ : zIn → zLi → Prop} (hP : ∀ I_ L_, P_ I_ L_ → (L_ 21 0).length ≤ 90 ∧ zbnd L_ 500) (hS_ : ∀ I_ L_, P_ I_ L_ → P_ (zpm I_ L_).1 (zpm I_ L_).2) (hp : P_ I_ L_) (hN_ : N_ ≤ 600) (h8 : 600 - I_ 6 0 8 = Int32.ofNat N_) (h7 : I_ 6 0 7 < 400) : zYm 9 55 [zwR 6 0] I_ L_ 0 (zRet (some (zwI (zend N_ I_ L_).1)) (zend N_ I_ L_).2.1 (zend N_ I_ L_).2.2) := by
  refine zYm.of (Nat.le_of_ble_eq_true rfl) rfl ?_
  refine zY.go 3 rfl ?_
  refine zY.bc rfl (fun hp7 => absurd hp7 (Int32.not_le.mpr h7)) (fun hp7 => ?_)
  refine zY.go 2 rfl ?_
  refine zY.cr (zm35t (x_ := 1) (by decide)) rfl rfl rfl rfl (Nat.le_of_ble_eq_true rfl) rfl (by decide) rfl (by decide) (by decide) ?_
  refine zY.go 7 rfl ?_
  show zY _ _ _ _ [some (zwR 6 0), some (zwI (600 - I_ 6 0 8)), some (zwI (Int32.ofNat 0)), none] _ _ _ _ _
  rw [h8]
  refine zm55l hP hS_ N_ (by omega) N_ 0 I_ L_ (by omega) hp (fun hq => ?_)
  refine zY.go 1 rfl ?_
  refine zY.cr zm56 rfl rfl rfl rfl (Nat.le_of_ble_eq_true rfl) rfl (by decide) rfl (by decide) (by decide) ?_
  refine zY.go 3 rfl ?_
  exact zm55v _ (by have := (hP _ _ hq).1; omega) _ _ ((zpms N_ I_ L_).2 21 0).length 0 _ _ (by omega) rfl ⟨rfl, rfl, rfl⟩
theorem zm55x {I_ : zIn} {L_ : zLi} (h7 : ¬ I_ 6 0 7 < 400) : zYm 9 55 [zwR 6 0] I_ L_ 14 (zThw 10 I_ L_) := by
  refine zYm.of (Nat.le_of_ble_eq_true rfl) rfl ?_
  refine zY.go 3 rfl ?_
  refine zY.bc rfl (fun hp7 => ?_) (fun hp7 => absurd (Int32.not_le.mp hp7) h7)
  refine zY.go 1 rfl ?_
  exact zY.cx zm35x rfl rfl rfl rfl (Nat.le_of_ble_eq_true rfl) rfl (by decide) rfl (by decide) (by decide) (by decide) rfl ⟨rfl, rfl, rfl⟩

