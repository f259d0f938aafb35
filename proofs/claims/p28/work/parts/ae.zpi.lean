/-! CONTRACTS: pass and end, with an invariant that counts -/
theorem zn53l {P_ : Nat → zIn → zLi → Prop} (hP : ∀ k_ I_ L_, P_ k_ I_ L_ → (L_ 21 0).length ≤ 90 ∧ zbnd L_ 500) (N_ : Nat) (hS_ : ∀ k_ I_ L_, k_ < N_ → P_ k_ I_ L_ → P_ (k_ + 1) (zpm I_ L_).1 (zpm I_ L_).2) (hN_ : N_ ≤ 1000) {a_ : Nat} {Q_ : zPost} : ∀ (n_ i_ : Nat) (I_ : zIn) (L_ : zLi), n_ + i_ = N_ → P_ i_ I_ L_ → (P_ N_ (zpms n_ I_ L_).1 (zpms n_ I_ L_).2 → zY none 9 53 44 [some (zwR 6 0), some (zwI (Int32.ofNat N_)), some (zwI (Int32.ofNat N_))] [] (zpms n_ I_ L_).1 (zpms n_ I_ L_).2 a_ Q_) → zY none 9 53 29 [some (zwR 6 0), some (zwI (Int32.ofNat N_)), some (zwI (Int32.ofNat i_))] [] I_ L_ a_ Q_
  | 0, i_, I_, L_, hi_, hp, hX => by
    have : i_ = N_ := by omega
    subst this
    refine zY.go 2 rfl ?_
    refine zY.bn rfl (by omega) (by omega) (fun _ => hX hp) (fun hF => absurd (Nat.le_refl i_) hF)
  | n_ + 1, i_, I_, L_, hi_, hp, hX => by
    have ih_ := zn53l hP N_ hS_ hN_ (a_ := a_) (Q_ := Q_) n_ (i_ + 1) (zpm I_ L_).1 (zpm I_ L_).2 (by omega) (hS_ i_ I_ L_ (by omega) hp) hX
    rw [← zisucc] at ih_
    refine zY.go 2 rfl ?_
    refine zY.bn rfl (by omega) (by omega) (fun hT_ => absurd hT_ (show ¬ N_ ≤ i_ by omega)) (fun _ => ?_)
    refine zY.go 1 rfl ?_
    refine zY.cr (zm54 (hP i_ I_ L_ hp).1 (hP i_ I_ L_ hp).2) rfl rfl rfl rfl (Nat.le_of_ble_eq_true rfl) rfl (by decide) rfl (by decide) (Nat.zero_le _) ?_
    refine zY.go 2 rfl ?_
    exact ih_
theorem zn53t {I_ : zIn} {L_ : zLi} {N_ : Nat} {P_ : Nat → zIn → zLi → Prop} (hP : ∀ k_ I_ L_, P_ k_ I_ L_ → (L_ 21 0).length ≤ 90 ∧ zbnd L_ 500) (hS_ : ∀ k_ I_ L_, k_ < N_ → P_ k_ I_ L_ → P_ (k_ + 1) (zpm I_ L_).1 (zpm I_ L_).2) (hp : P_ 0 I_ L_) (hN_ : 1 ≤ N_ ∧ N_ ≤ 120) (h6 : I_ 6 0 8 + Int32.ofNat N_ ≤ 600) : zYm 9 53 [zwR 6 0, zwI (Int32.ofNat N_)] I_ L_ 14 (zRet (some (zwI ((zpms N_ I_ L_).1 6 0 8))) (zpms N_ I_ L_).1 (zpms N_ I_ L_).2) := by
  refine zYm.of (Nat.le_of_ble_eq_true rfl) rfl ?_
  refine zY.go 3 rfl ?_
  refine zY.cr (zm33t ⟨(zile (a := 1) (by omega) (by omega)).mpr hN_.1, (zile (b := 120) (by omega) (by omega)).mpr hN_.2⟩) rfl rfl rfl rfl (Nat.le_of_ble_eq_true rfl) rfl (by decide) rfl (by decide) (by decide) ?_
  refine zY.go 5 rfl ?_
  refine zY.bc rfl (fun hp16 => absurd hp16 (Int32.not_lt.mpr h6)) (fun hp16 => ?_)
  refine zY.go 2 rfl ?_
  refine zY.cr (zm35t (x_ := 1) (by decide)) rfl rfl rfl rfl (Nat.le_of_ble_eq_true rfl) rfl (by decide) rfl (by decide) (by decide) ?_
  refine zY.go 2 rfl ?_
  refine zn53l hP N_ hS_ (by omega) N_ 0 I_ L_ (by omega) hp (fun _ => ?_)
  refine zY.go 2 rfl ?_
  exact zY.ri rfl rfl ⟨rfl, rfl, rfl⟩
theorem zn55l {P_ : Nat → zIn → zLi → Prop} (hP : ∀ k_ I_ L_, P_ k_ I_ L_ → (L_ 21 0).length ≤ 90 ∧ zbnd L_ 500) (N_ : Nat) (hS_ : ∀ k_ I_ L_, k_ < N_ → P_ k_ I_ L_ → P_ (k_ + 1) (zpm I_ L_).1 (zpm I_ L_).2) (hN_ : N_ ≤ 1000) {a_ : Nat} {Q_ : zPost} : ∀ (n_ i_ : Nat) (I_ : zIn) (L_ : zLi), n_ + i_ = N_ → P_ i_ I_ L_ → (P_ N_ (zpms n_ I_ L_).1 (zpms n_ I_ L_).2 → zY none 9 55 44 [some (zwR 6 0), some (zwI (Int32.ofNat N_)), some (zwI (Int32.ofNat N_)), none] [] (zpms n_ I_ L_).1 (zpms n_ I_ L_).2 a_ Q_) → zY none 9 55 29 [some (zwR 6 0), some (zwI (Int32.ofNat N_)), some (zwI (Int32.ofNat i_)), none] [] I_ L_ a_ Q_
  | 0, i_, I_, L_, hi_, hp, hX => by
    have : i_ = N_ := by omega
    subst this
    refine zY.go 2 rfl ?_
    refine zY.bn rfl (by omega) (by omega) (fun _ => hX hp) (fun hF => absurd (Nat.le_refl i_) hF)
  | n_ + 1, i_, I_, L_, hi_, hp, hX => by
    have ih_ := zn55l hP N_ hS_ hN_ (a_ := a_) (Q_ := Q_) n_ (i_ + 1) (zpm I_ L_).1 (zpm I_ L_).2 (by omega) (hS_ i_ I_ L_ (by omega) hp) hX
    rw [← zisucc] at ih_
    refine zY.go 2 rfl ?_
    refine zY.bn rfl (by omega) (by omega) (fun hT_ => absurd hT_ (show ¬ N_ ≤ i_ by omega)) (fun _ => ?_)
    refine zY.go 1 rfl ?_
    refine zY.cr (zm54 (hP i_ I_ L_ hp).1 (hP i_ I_ L_ hp).2) rfl rfl rfl rfl (Nat.le_of_ble_eq_true rfl) rfl (by decide) rfl (by decide) (Nat.zero_le _) ?_
    refine zY.go 2 rfl ?_
    exact ih_
theorem zn55t {I_ : zIn} {L_ : zLi} {N_ : Nat} {P_ : Nat → zIn → zLi → Prop} (hP : ∀ k_ I_ L_, P_ k_ I_ L_ → (L_ 21 0).length ≤ 90 ∧ zbnd L_ 500) (hS_ : ∀ k_ I_ L_, k_ < N_ → P_ k_ I_ L_ → P_ (k_ + 1) (zpm I_ L_).1 (zpm I_ L_).2) (hp : P_ 0 I_ L_) (hN_ : N_ ≤ 600) (h8 : 600 - I_ 6 0 8 = Int32.ofNat N_) (h7 : I_ 6 0 7 < 400) : zYm 9 55 [zwR 6 0] I_ L_ 14 (zRet (some (zwI (zend N_ I_ L_).1)) (zend N_ I_ L_).2.1 (zend N_ I_ L_).2.2) := by
  refine zYm.of (Nat.le_of_ble_eq_true rfl) rfl ?_
  refine zY.go 3 rfl ?_
  refine zY.bc rfl (fun hp7 => absurd hp7 (Int32.not_le.mpr h7)) (fun hp7 => ?_)
  refine zY.go 2 rfl ?_
  refine zY.cr (zm35t (x_ := 1) (by decide)) rfl rfl rfl rfl (Nat.le_of_ble_eq_true rfl) rfl (by decide) rfl (by decide) (by decide) ?_
  refine zY.go 7 rfl ?_
  show zY _ _ _ _ [some (zwR 6 0), some (zwI (600 - I_ 6 0 8)), some (zwI (Int32.ofNat 0)), none] _ _ _ _ _
  rw [h8]
  refine zn55l hP N_ hS_ (by omega) N_ 0 I_ L_ (by omega) hp (fun hq => ?_)
  refine zY.go 1 rfl ?_
  refine zY.cr zm56 rfl rfl rfl rfl (Nat.le_of_ble_eq_true rfl) rfl (by decide) rfl (by decide) (by decide) ?_
  refine zY.go 3 rfl ?_
  exact zm55v _ (by have := (hP _ _ _ hq).1; omega) _ _ ((zpms N_ I_ L_).2 21 0).length 0 _ _ (by omega) rfl ⟨rfl, rfl, rfl⟩

