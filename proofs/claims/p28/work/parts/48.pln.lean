/-! CONTRACTS: Plan -/
def zmx (x_ y_ : Int32) : Int32 := if x_ < y_ then y_ else x_
def zchl (I_ : zIn) (l : List Nat) : List Nat := l.filter (fun q_ => zchr I_ q_)
def zst0 (I_ : zIn) (v_ : Nat) (x_ : Int32) : zIn := zset (zset I_ 0 v_ 1 (I_ 5 v_ 11)) 0 v_ 2 (zmx (I_ 5 v_ 12) (x_ + 1))
def zstr (I_ : zIn) (L_ : zLi) (v_ : Nat) (x_ : Int32) : zIn := zset (zst0 I_ v_ x_) 0 v_ 3 (ztak (zst0 I_ v_ x_) (L_ 26 v_) 0)
theorem zm74l (v_ : Nat) (I_ : zIn) (L_ : zLi) (x_ : Int32) (hn : (L_ 26 v_).length ≤ 500) : ∀ (n_ i_ : Nat) (l : List Nat), n_ + i_ = (L_ 26 v_).length → l.length ≤ i_ → zY none 6 74 39 [some (zwR 0 v_), some (zwR 5 v_), some (zwI x_), some (zwI (Int32.ofNat i_))] [] I_ (zlup L_ 27 v_ l) 0 (zRet none I_ (zlup L_ 27 v_ (l ++ zchl I_ ((L_ 26 v_).drop i_))))
  | 0, i_, l, hi_, hl => by
    rw [List.drop_of_length_le (by omega)]
    have h26 : zlup L_ 27 v_ l 26 v_ = L_ 26 v_ := zlup_ne (by simp)
    refine zY.go 4 rfl ?_
    show zY _ _ _ _ _ [zwI (Int32.ofNat (zlup L_ 27 v_ l 26 v_).length), zwI (Int32.ofNat i_)] _ _ _ _
    rw [h26]
    refine zY.bn rfl (by omega) (by omega) (fun _ => ?_) (fun hF => absurd (show (L_ 26 v_).length ≤ i_ by omega) hF)
    exact zY.rv rfl rfl ⟨rfl, rfl, by simp [zchl]⟩
  | n_ + 1, i_, l, hi_, hl => by
    obtain ⟨s_, hs⟩ : ∃ s_, (L_ 26 v_)[i_]? = some s_ := ⟨_, List.getElem?_eq_getElem (by omega)⟩
    rw [zdrop_cons hs]
    have ih_ := fun (l : List Nat) h_ => zm74l v_ I_ L_ x_ hn n_ (i_ + 1) l (by omega) h_
    simp only [← zisucc] at ih_
    have h26 : zlup L_ 27 v_ l 26 v_ = L_ 26 v_ := zlup_ne (by simp)
    refine zY.go 4 rfl ?_
    show zY _ _ _ _ _ [zwI (Int32.ofNat (zlup L_ 27 v_ l 26 v_).length), zwI (Int32.ofNat i_)] _ _ _ _
    rw [h26]
    refine zY.bn rfl (by omega) (by omega) (fun hT_ => absurd hT_ (show ¬ (L_ 26 v_).length ≤ i_ by omega)) (fun _ => ?_)
    refine zY.go 3 rfl ?_
    refine zY.cr (w_get rfl (show (zlup L_ 27 v_ l 26 v_)[i_]? = some s_ by rw [h26]; exact hs)) rfl rfl rfl rfl (Nat.le_of_ble_eq_true rfl) rfl (by decide) rfl (by decide) (by decide) ?_
    refine zY.go 4 rfl ?_
    refine zY.bc rfl (fun hp68 => ?_) (fun hp68 => ?_)
    · refine zY.go 2 rfl ?_
      refine zY.mono (ih_ l (by omega)) (Nat.le_refl _) (fun r_ I2_ L2_ hq => ?_)
      have hc_ : zchr I_ s_ = false := decide_eq_false hp68
      rw [show zchl I_ (s_ :: (L_ 26 v_).drop (i_ + 1)) = zchl I_ ((L_ 26 v_).drop (i_ + 1)) by simp [zchl, hc_]]
      exact hq
    · refine zY.go 5 rfl ?_
      refine zY.cr (w_get rfl (show (zlup L_ 27 v_ l 26 v_)[i_]? = some s_ by rw [h26]; exact hs)) rfl rfl rfl rfl (Nat.le_of_ble_eq_true rfl) rfl (by decide) rfl (by decide) (by decide) ?_
      refine zY.go 1 rfl ?_
      refine zY.cr (w_add rfl (by rw [zlup_self]; omega)) rfl rfl rfl rfl (Nat.le_of_ble_eq_true rfl) rfl (by decide) rfl (by decide) (by decide) ?_
      refine zY.go 3 rfl ?_
      rw [zlup_self, zlup_same]
      refine zY.mono (ih_ (l ++ [s_]) (by rw [List.length_append]; show l.length + 1 ≤ i_ + 1; omega)) (Nat.le_refl _) (fun r_ I2_ L2_ hq => ?_)
      have hc_ : zchr I_ s_ = true := decide_eq_true (Decidable.byContradiction hp68)
      rw [show zchl I_ (s_ :: (L_ 26 v_).drop (i_ + 1)) = s_ :: zchl I_ ((L_ 26 v_).drop (i_ + 1)) by simp [zchl, hc_]]
      rw [List.append_assoc] at hq
      exact hq
theorem zm74 {I_ : zIn} {L_ : zLi} {v_ : Nat} {x_ : Int32} (hn : (L_ 26 v_).length ≤ 500) : zYm 6 74 [zwR 0 v_, zwR 5 v_, zwI x_] I_ L_ 0 (zRet none (zstr I_ L_ v_ x_) (zlup L_ 27 v_ (zchl (zstr I_ L_ v_ x_) (L_ 26 v_)))) := by
  refine zYm.of (Nat.le_of_ble_eq_true rfl) rfl ?_
  refine zY.go 14 rfl ?_
  refine zY.cr zm101 rfl rfl rfl rfl (Nat.le_of_ble_eq_true rfl) rfl (by decide) rfl (by decide) (by decide) ?_
  refine zY.go 3 rfl ?_
  refine zY.cr (w_clear rfl) rfl rfl rfl rfl (Nat.le_of_ble_eq_true rfl) rfl (by decide) rfl (by decide) (by decide) ?_
  refine zY.go 2 rfl ?_
  exact zm74l v_ (zstr I_ L_ v_ x_) L_ x_ hn (L_ 26 v_).length 0 [] (by omega) (by simp)
/-- goTo -/
def zgt1 (I_ : zIn) (v_ s_ : Nat) : zIn := zset I_ 4 s_ 3 ((if s_ % 2 = 0 then zmx (I_ 0 v_ 2) (I_ 1 (s_ / 2) 7 - 2 * zstp (I_ 0 v_ 1) (I_ 4 s_ 2)) else I_ 0 v_ 2) + 2 * zstp (I_ 0 v_ 1) (I_ 4 s_ 2))
def zgt2 (I_ : zIn) (v_ s_ : Nat) : zIn := zset (zgt1 I_ v_ s_) 4 s_ 4 (zgt1 I_ v_ s_ 4 s_ 3 + zgt1 I_ v_ s_ 2 (zgt1 I_ v_ s_ 1 (s_ / 2) 0).toNatClampNeg 4)
def zgt3 (I_ : zIn) (s_ : Nat) : zIn := if s_ % 2 = 0 then zset I_ 1 (s_ / 2) 9 (I_ 4 s_ 4) else I_
def zgt4 (I_ : zIn) (v_ s_ : Nat) : zIn := zset (zset I_ 0 v_ 1 (I_ 4 s_ 2)) 0 v_ 2 (zset I_ 0 v_ 1 (I_ 4 s_ 2) 4 s_ 4)
def zgt (I_ : zIn) (v_ s_ : Nat) (x_ : Int32) : zIn := zgt4 (zgt3 (if x_ = 0 then zgt2 I_ v_ s_ else I_) s_) v_ s_
theorem zm75 {I_ : zIn} {L_ : zLi} {v_ s_ : Nat} {x_ : Int32} : zYm 2 75 [zwR 0 v_, zwR 4 s_, zwI x_] I_ L_ 0 (zRet none (zgt I_ v_ s_ x_) L_) := by
  refine zYm.of (Nat.le_of_ble_eq_true rfl) rfl ?_
  refine zY.go 1 rfl ?_
  refine zY.bi rfl (fun hp1 => ?_) (fun hp1 => ?_)
  · refine zY.go 2 rfl ?_
    refine zY.bi rfl (fun hp81 => ?_) (fun hp81 => ?_)
    · refine zY.go 8 rfl ?_
      exact zY.rv rfl rfl ⟨rfl, by simp_all [zcp, zpar_0, zgt, zgt1, zgt2, zgt3, zgt4, zmx], rfl⟩
    · refine zY.go 13 rfl ?_
      exact zY.rv rfl rfl ⟨rfl, by simp_all [zcp, zpar_0, zgt, zgt1, zgt2, zgt3, zgt4, zmx], rfl⟩
  · refine zY.go 5 rfl ?_
    refine zY.cr (zm31) rfl rfl rfl rfl (Nat.le_of_ble_eq_true rfl) rfl (by decide) rfl (by decide) (by decide) ?_
    refine zY.go 4 rfl ?_
    refine zY.bi rfl (fun hp22 => ?_) (fun hp22 => ?_)
    · refine zY.go 25 rfl ?_
      refine zY.bi rfl (fun hp81 => ?_) (fun hp81 => ?_)
      · refine zY.go 8 rfl ?_
        exact zY.rv rfl rfl ⟨rfl, by simp_all [zcp, zpar_0, zgt, zgt1, zgt2, zgt3, zgt4, zmx], rfl⟩
      · refine zY.go 13 rfl ?_
        exact zY.rv rfl rfl ⟨rfl, by simp_all [zcp, zpar_0, zgt, zgt1, zgt2, zgt3, zgt4, zmx], rfl⟩
    · refine zY.go 20 rfl ?_
      refine zY.bi rfl (fun hp81 => ?_) (fun hp81 => ?_)
      · refine zY.go 8 rfl ?_
        exact zY.rv rfl rfl ⟨rfl, by simp_all [zcp, zpar_0, zgt, zgt1, zgt2, zgt3, zgt4, zmx], rfl⟩
      · refine zY.go 13 rfl ?_
        exact zY.rv rfl rfl ⟨rfl, by simp_all [zcp, zpar_0, zgt, zgt1, zgt2, zgt3, zgt4, zmx], rfl⟩
/-- latestChairLeaves -/
theorem zlast {l : List Nat} {q_ : Nat} (h_ : 0 < l.length) : l[l.length - 1]? = some q_ ↔ l.getLast? = some q_ := by
  rw [List.getLast?_eq_getElem?]
theorem zm77y {I_ : zIn} {L_ : zLi} {v_ q_ : Nat} (hl : (L_ 27 v_).getLast? = some q_) : zYm 3 77 [zwR 0 v_, zwR 1 q_] I_ L_ 0 (zRet (some (zwI 1)) I_ (zlup L_ 27 v_ ((L_ 27 v_).eraseIdx ((L_ 27 v_).length - 1)))) := by
  refine zYm.inv (fun hi_ hw => ?_)
  have h27 : I_ 99 27 v_ = 1 := hi_.2 0 v_ (hw _ List.mem_cons_self) (by decide) (zwR 27 v_) (by simp [zfs])
  have hn := (hi_.1 27 v_ h27 (by decide)).1
  have h0 : 0 < (L_ 27 v_).length := by
    rcases hl2 : L_ 27 v_ with _ | ⟨y_, l⟩
    · rw [hl2] at hl; simp at hl
    · simp
  have hs := (zlast h0).mpr hl
  have hsub : Int32.ofNat (L_ 27 v_).length - 1 = Int32.ofNat ((L_ 27 v_).length - 1) := zisubn (b := 1) (by omega)
  refine zYm.of (Nat.le_of_ble_eq_true rfl) rfl ?_
  refine zY.go 7 rfl ?_
  show zY _ _ _ _ [some (zwR 0 v_), some (zwR 1 q_), some (zwI (Int32.ofNat (L_ 27 v_).length - 1))] [zwI (Int32.ofNat (L_ 27 v_).length - 1)] _ _ _ _
  rw [hsub]
  refine zY.bi rfl (fun hp1 => absurd hp1 (Int32.not_lt.mpr (zige (by omega)))) (fun hp1 => ?_)
  refine zY.go 3 rfl ?_
  refine zY.cr (w_get rfl hs) rfl rfl rfl rfl (Nat.le_of_ble_eq_true rfl) rfl (by decide) rfl (by decide) (by decide) ?_
  refine zY.go 1 rfl ?_
  refine zY.ae rfl (fun hp23 => ?_) (fun hp23 => absurd ⟨rfl, rfl⟩ hp23)
  refine zY.go 3 rfl ?_
  refine zY.cr (w_rem rfl hs) rfl rfl rfl rfl (Nat.le_of_ble_eq_true rfl) rfl (by decide) rfl (by decide) (by decide) ?_
  refine zY.go 2 rfl ?_
  exact zY.rb rfl rfl (Or.inr rfl) ⟨rfl, rfl, rfl⟩
theorem zm77n {I_ : zIn} {L_ : zLi} {v_ q_ : Nat} (hl : ¬ (L_ 27 v_).getLast? = some q_) : zYm 3 77 [zwR 0 v_, zwR 1 q_] I_ L_ 0 (zRet (some (zwI 0)) I_ L_) := by
  refine zYm.inv (fun hi_ hw => ?_)
  have h27 : I_ 99 27 v_ = 1 := hi_.2 0 v_ (hw _ List.mem_cons_self) (by decide) (zwR 27 v_) (by simp [zfs])
  have hn := (hi_.1 27 v_ h27 (by decide)).1
  refine zYm.of (Nat.le_of_ble_eq_true rfl) rfl ?_
  refine zY.go 7 rfl ?_
  show zY _ _ _ _ [some (zwR 0 v_), some (zwR 1 q_), some (zwI (Int32.ofNat (L_ 27 v_).length - 1))] [zwI (Int32.ofNat (L_ 27 v_).length - 1)] _ _ _ _
  by_cases h0 : 0 < (L_ 27 v_).length
  · have hsub : Int32.ofNat (L_ 27 v_).length - 1 = Int32.ofNat ((L_ 27 v_).length - 1) := zisubn (b := 1) (by omega)
    rw [hsub]
    obtain ⟨t_, ht⟩ : ∃ t_, (L_ 27 v_)[(L_ 27 v_).length - 1]? = some t_ := ⟨_, List.getElem?_eq_getElem (by omega)⟩
    refine zY.bi rfl (fun hp1 => absurd hp1 (Int32.not_lt.mpr (zige (by omega)))) (fun hp1 => ?_)
    refine zY.go 3 rfl ?_
    refine zY.cr (w_get rfl ht) rfl rfl rfl rfl (Nat.le_of_ble_eq_true rfl) rfl (by decide) rfl (by decide) (by decide) ?_
    refine zY.go 1 rfl ?_
    refine zY.ae rfl (fun hp23 => ?_) (fun hp23 => ?_)
    · have := (zlast h0).mp ht
      rw [hp23.2] at this
      exact absurd this hl
    · refine zY.go 1 rfl ?_
      exact zY.rb rfl rfl (Or.inl rfl) ⟨rfl, rfl, rfl⟩
  · rw [show (L_ 27 v_).length = 0 by omega]
    refine zY.bi rfl (fun hp1 => ?_) (fun hp1 => absurd (show Int32.ofNat 0 - 1 < 0 by decide) hp1)
    refine zY.go 1 rfl ?_
    exact zY.rb rfl rfl (Or.inl rfl) ⟨rfl, rfl, rfl⟩
/-- canLoad -/
def zcl1 (I_ : zIn) (v_ s_ : Nat) : zIn := zset I_ 0 v_ 3 (I_ 0 v_ 3 + (if s_ % 2 = 0 then zsea I_ (s_ / 2) else - zsea I_ (s_ / 2)))
def zclL (I_ : zIn) (L_ : zLi) (v_ s_ : Nat) : zLi := if zchr I_ (s_ / 2) = true then (if s_ % 2 = 0 then zlup L_ 27 v_ (L_ 27 v_ ++ [s_ / 2]) else (if (L_ 27 v_).getLast? = some (s_ / 2) then zlup L_ 27 v_ ((L_ 27 v_).eraseIdx ((L_ 27 v_).length - 1)) else L_)) else L_
def zclB (I_ : zIn) (L_ : zLi) (v_ s_ : Nat) (x_ y_ : Int32) : Bool := if zchr I_ (s_ / 2) = true ∧ ¬ s_ % 2 = 0 then decide ((L_ 27 v_).getLast? = some (s_ / 2)) else decide (I_ 0 v_ 3 ≤ x_) && decide (Int32.ofNat (zclL I_ L_ v_ s_ 27 v_).length ≤ y_)
theorem zm76 {I_ : zIn} {L_ : zLi} {v_ s_ : Nat} {x_ y_ : Int32} (hn : (L_ 27 v_).length < 590) : zYm 6 76 [zwR 0 v_, zwR 4 s_, zwI x_, zwI y_] I_ L_ 0 (zRet (some (zwI (if zclB (zcl1 I_ v_ s_) L_ v_ s_ x_ y_ = true then 1 else 0))) (zcl1 I_ v_ s_) (zclL (zcl1 I_ v_ s_) L_ v_ s_)) := by
  refine zYm.of (Nat.le_of_ble_eq_true rfl) rfl ?_
  refine zY.go 10 rfl ?_
  refine zY.bi rfl (fun hp21 => ?_) (fun hp21 => ?_)
  · refine zY.go 4 rfl ?_
    refine zY.cr (zm94) rfl rfl rfl rfl (Nat.le_of_ble_eq_true rfl) rfl (by decide) rfl (by decide) (by decide) ?_
    refine zY.bi rfl (fun hp40 => ?_) (fun hp40 => ?_)
    · refine zY.go 3 rfl ?_
      refine zY.bc rfl (fun hp76 => ?_) (fun hp76 => ?_)
      · refine zY.go 1 rfl ?_
        exact zY.rb rfl rfl (by first | exact Or.inl rfl | exact Or.inr rfl) ⟨(by simp_all [zcp, zpar_0, zclB, zclL, zcl1, zsea, zlup_self, Int32.not_lt] <;> (intro hcon; exact absurd hcon (Int32.not_le.mpr (by assumption)))), (by simp_all [zcp, zpar_0, zcl1, zsea] <;> (intro hcon; exact absurd hcon (Int32.not_le.mpr (by assumption)))), (by simp_all [zcp, zpar_0, zclL, zcl1, zsea] <;> (intro hcon; exact absurd hcon (Int32.not_le.mpr (by assumption))))⟩
      · refine zY.go 4 rfl ?_
        refine zY.bc rfl (fun hp87 => ?_) (fun hp87 => ?_)
        · refine zY.go 1 rfl ?_
          exact zY.rb rfl rfl (by first | exact Or.inl rfl | exact Or.inr rfl) ⟨(by simp_all [zcp, zpar_0, zclB, zclL, zcl1, zsea, zlup_self, Int32.not_lt] <;> (intro hcon; exact absurd hcon (Int32.not_le.mpr (by assumption)))), (by simp_all [zcp, zpar_0, zcl1, zsea] <;> (intro hcon; exact absurd hcon (Int32.not_le.mpr (by assumption)))), (by simp_all [zcp, zpar_0, zclL, zcl1, zsea] <;> (intro hcon; exact absurd hcon (Int32.not_le.mpr (by assumption))))⟩
        · refine zY.go 2 rfl ?_
          exact zY.rb rfl rfl (by first | exact Or.inl rfl | exact Or.inr rfl) ⟨(by simp_all [zcp, zpar_0, zclB, zclL, zcl1, zsea, zlup_self, Int32.not_lt] <;> (intro hcon; exact absurd hcon (Int32.not_le.mpr (by assumption)))), (by simp_all [zcp, zpar_0, zcl1, zsea] <;> (intro hcon; exact absurd hcon (Int32.not_le.mpr (by assumption)))), (by simp_all [zcp, zpar_0, zclL, zcl1, zsea] <;> (intro hcon; exact absurd hcon (Int32.not_le.mpr (by assumption))))⟩
    · refine zY.go 2 rfl ?_
      refine zY.bi rfl (fun hp47 => ?_) (fun hp47 => ?_)
      · refine zY.go 4 rfl ?_
        refine zY.cr (w_add (L_ := L_) (c_ := 27) (p_ := v_) rfl (by omega)) rfl rfl rfl rfl (Nat.le_of_ble_eq_true rfl) rfl (by decide) rfl (by decide) (by decide) ?_
        refine zY.go 4 rfl ?_
        refine zY.bc rfl (fun hp76 => ?_) (fun hp76 => ?_)
        · refine zY.go 1 rfl ?_
          exact zY.rb rfl rfl (by first | exact Or.inl rfl | exact Or.inr rfl) ⟨(by simp_all [zcp, zpar_0, zclB, zclL, zcl1, zsea, zlup_self, Int32.not_lt] <;> (intro hcon; exact absurd hcon (Int32.not_le.mpr (by assumption)))), (by simp_all [zcp, zpar_0, zcl1, zsea] <;> (intro hcon; exact absurd hcon (Int32.not_le.mpr (by assumption)))), (by simp_all [zcp, zpar_0, zclL, zcl1, zsea] <;> (intro hcon; exact absurd hcon (Int32.not_le.mpr (by assumption))))⟩
        · refine zY.go 4 rfl ?_
          refine zY.bc rfl (fun hp87 => ?_) (fun hp87 => ?_)
          · refine zY.go 1 rfl ?_
            exact zY.rb rfl rfl (by first | exact Or.inl rfl | exact Or.inr rfl) ⟨(by simp_all [zcp, zpar_0, zclB, zclL, zcl1, zsea, zlup_self, Int32.not_lt] <;> (intro hcon; exact absurd hcon (Int32.not_le.mpr (by assumption)))), (by simp_all [zcp, zpar_0, zcl1, zsea] <;> (intro hcon; exact absurd hcon (Int32.not_le.mpr (by assumption)))), (by simp_all [zcp, zpar_0, zclL, zcl1, zsea] <;> (intro hcon; exact absurd hcon (Int32.not_le.mpr (by assumption))))⟩
          · refine zY.go 2 rfl ?_
            exact zY.rb rfl rfl (by first | exact Or.inl rfl | exact Or.inr rfl) ⟨(by simp_all [zcp, zpar_0, zclB, zclL, zcl1, zsea, zlup_self, Int32.not_lt] <;> (intro hcon; exact absurd hcon (Int32.not_le.mpr (by assumption)))), (by simp_all [zcp, zpar_0, zcl1, zsea] <;> (intro hcon; exact absurd hcon (Int32.not_le.mpr (by assumption)))), (by simp_all [zcp, zpar_0, zclL, zcl1, zsea] <;> (intro hcon; exact absurd hcon (Int32.not_le.mpr (by assumption))))⟩
      · refine zY.go 3 rfl ?_
        by_cases hla : (L_ 27 v_).getLast? = some (s_ / 2)
        · refine zY.cr (zm77y hla) rfl rfl rfl rfl (Nat.le_of_ble_eq_true rfl) rfl (by decide) rfl (by decide) (by decide) ?_
          exact zY.rb rfl rfl (by first | exact Or.inl rfl | exact Or.inr rfl) ⟨(by simp_all [zcp, zpar_0, zclB, zclL, zcl1, zsea, zlup_self, Int32.not_lt] <;> (intro hcon; exact absurd hcon (Int32.not_le.mpr (by assumption)))), (by simp_all [zcp, zpar_0, zcl1, zsea] <;> (intro hcon; exact absurd hcon (Int32.not_le.mpr (by assumption)))), (by simp_all [zcp, zpar_0, zclL, zcl1, zsea] <;> (intro hcon; exact absurd hcon (Int32.not_le.mpr (by assumption))))⟩
        · refine zY.cr (zm77n hla) rfl rfl rfl rfl (Nat.le_of_ble_eq_true rfl) rfl (by decide) rfl (by decide) (by decide) ?_
          exact zY.rb rfl rfl (by first | exact Or.inl rfl | exact Or.inr rfl) ⟨(by simp_all [zcp, zpar_0, zclB, zclL, zcl1, zsea, zlup_self, Int32.not_lt] <;> (intro hcon; exact absurd hcon (Int32.not_le.mpr (by assumption)))), (by simp_all [zcp, zpar_0, zcl1, zsea] <;> (intro hcon; exact absurd hcon (Int32.not_le.mpr (by assumption)))), (by simp_all [zcp, zpar_0, zclL, zcl1, zsea] <;> (intro hcon; exact absurd hcon (Int32.not_le.mpr (by assumption))))⟩
  · refine zY.go 6 rfl ?_
    refine zY.cr (zm94) rfl rfl rfl rfl (Nat.le_of_ble_eq_true rfl) rfl (by decide) rfl (by decide) (by decide) ?_
    refine zY.bi rfl (fun hp40 => ?_) (fun hp40 => ?_)
    · refine zY.go 3 rfl ?_
      refine zY.bc rfl (fun hp76 => ?_) (fun hp76 => ?_)
      · refine zY.go 1 rfl ?_
        exact zY.rb rfl rfl (by first | exact Or.inl rfl | exact Or.inr rfl) ⟨(by simp_all [zcp, zpar_0, zclB, zclL, zcl1, zsea, zlup_self, Int32.not_lt] <;> (intro hcon; exact absurd hcon (Int32.not_le.mpr (by assumption)))), (by simp_all [zcp, zpar_0, zcl1, zsea] <;> (intro hcon; exact absurd hcon (Int32.not_le.mpr (by assumption)))), (by simp_all [zcp, zpar_0, zclL, zcl1, zsea] <;> (intro hcon; exact absurd hcon (Int32.not_le.mpr (by assumption))))⟩
      · refine zY.go 4 rfl ?_
        refine zY.bc rfl (fun hp87 => ?_) (fun hp87 => ?_)
        · refine zY.go 1 rfl ?_
          exact zY.rb rfl rfl (by first | exact Or.inl rfl | exact Or.inr rfl) ⟨(by simp_all [zcp, zpar_0, zclB, zclL, zcl1, zsea, zlup_self, Int32.not_lt] <;> (intro hcon; exact absurd hcon (Int32.not_le.mpr (by assumption)))), (by simp_all [zcp, zpar_0, zcl1, zsea] <;> (intro hcon; exact absurd hcon (Int32.not_le.mpr (by assumption)))), (by simp_all [zcp, zpar_0, zclL, zcl1, zsea] <;> (intro hcon; exact absurd hcon (Int32.not_le.mpr (by assumption))))⟩
        · refine zY.go 2 rfl ?_
          exact zY.rb rfl rfl (by first | exact Or.inl rfl | exact Or.inr rfl) ⟨(by simp_all [zcp, zpar_0, zclB, zclL, zcl1, zsea, zlup_self, Int32.not_lt] <;> (intro hcon; exact absurd hcon (Int32.not_le.mpr (by assumption)))), (by simp_all [zcp, zpar_0, zcl1, zsea] <;> (intro hcon; exact absurd hcon (Int32.not_le.mpr (by assumption)))), (by simp_all [zcp, zpar_0, zclL, zcl1, zsea] <;> (intro hcon; exact absurd hcon (Int32.not_le.mpr (by assumption))))⟩
    · refine zY.go 2 rfl ?_
      refine zY.bi rfl (fun hp47 => ?_) (fun hp47 => ?_)
      · refine zY.go 4 rfl ?_
        refine zY.cr (w_add (L_ := L_) (c_ := 27) (p_ := v_) rfl (by omega)) rfl rfl rfl rfl (Nat.le_of_ble_eq_true rfl) rfl (by decide) rfl (by decide) (by decide) ?_
        refine zY.go 4 rfl ?_
        refine zY.bc rfl (fun hp76 => ?_) (fun hp76 => ?_)
        · refine zY.go 1 rfl ?_
          exact zY.rb rfl rfl (by first | exact Or.inl rfl | exact Or.inr rfl) ⟨(by simp_all [zcp, zpar_0, zclB, zclL, zcl1, zsea, zlup_self, Int32.not_lt] <;> (intro hcon; exact absurd hcon (Int32.not_le.mpr (by assumption)))), (by simp_all [zcp, zpar_0, zcl1, zsea] <;> (intro hcon; exact absurd hcon (Int32.not_le.mpr (by assumption)))), (by simp_all [zcp, zpar_0, zclL, zcl1, zsea] <;> (intro hcon; exact absurd hcon (Int32.not_le.mpr (by assumption))))⟩
        · refine zY.go 4 rfl ?_
          refine zY.bc rfl (fun hp87 => ?_) (fun hp87 => ?_)
          · refine zY.go 1 rfl ?_
            exact zY.rb rfl rfl (by first | exact Or.inl rfl | exact Or.inr rfl) ⟨(by simp_all [zcp, zpar_0, zclB, zclL, zcl1, zsea, zlup_self, Int32.not_lt] <;> (intro hcon; exact absurd hcon (Int32.not_le.mpr (by assumption)))), (by simp_all [zcp, zpar_0, zcl1, zsea] <;> (intro hcon; exact absurd hcon (Int32.not_le.mpr (by assumption)))), (by simp_all [zcp, zpar_0, zclL, zcl1, zsea] <;> (intro hcon; exact absurd hcon (Int32.not_le.mpr (by assumption))))⟩
          · refine zY.go 2 rfl ?_
            exact zY.rb rfl rfl (by first | exact Or.inl rfl | exact Or.inr rfl) ⟨(by simp_all [zcp, zpar_0, zclB, zclL, zcl1, zsea, zlup_self, Int32.not_lt] <;> (intro hcon; exact absurd hcon (Int32.not_le.mpr (by assumption)))), (by simp_all [zcp, zpar_0, zcl1, zsea] <;> (intro hcon; exact absurd hcon (Int32.not_le.mpr (by assumption)))), (by simp_all [zcp, zpar_0, zclL, zcl1, zsea] <;> (intro hcon; exact absurd hcon (Int32.not_le.mpr (by assumption))))⟩
      · refine zY.go 3 rfl ?_
        by_cases hla : (L_ 27 v_).getLast? = some (s_ / 2)
        · refine zY.cr (zm77y hla) rfl rfl rfl rfl (Nat.le_of_ble_eq_true rfl) rfl (by decide) rfl (by decide) (by decide) ?_
          exact zY.rb rfl rfl (by first | exact Or.inl rfl | exact Or.inr rfl) ⟨(by simp_all [zcp, zpar_0, zclB, zclL, zcl1, zsea, zlup_self, Int32.not_lt] <;> (intro hcon; exact absurd hcon (Int32.not_le.mpr (by assumption)))), (by simp_all [zcp, zpar_0, zcl1, zsea] <;> (intro hcon; exact absurd hcon (Int32.not_le.mpr (by assumption)))), (by simp_all [zcp, zpar_0, zclL, zcl1, zsea] <;> (intro hcon; exact absurd hcon (Int32.not_le.mpr (by assumption))))⟩
        · refine zY.cr (zm77n hla) rfl rfl rfl rfl (Nat.le_of_ble_eq_true rfl) rfl (by decide) rfl (by decide) (by decide) ?_
          exact zY.rb rfl rfl (by first | exact Or.inl rfl | exact Or.inr rfl) ⟨(by simp_all [zcp, zpar_0, zclB, zclL, zcl1, zsea, zlup_self, Int32.not_lt] <;> (intro hcon; exact absurd hcon (Int32.not_le.mpr (by assumption)))), (by simp_all [zcp, zpar_0, zcl1, zsea] <;> (intro hcon; exact absurd hcon (Int32.not_le.mpr (by assumption)))), (by simp_all [zcp, zpar_0, zclL, zcl1, zsea] <;> (intro hcon; exact absurd hcon (Int32.not_le.mpr (by assumption))))⟩

