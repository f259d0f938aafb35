/-! CONTRACTS: a vehicle's route is changed -/
theorem zlup_self {L_ : zLi} {c_ i_ : Nat} {l : List Nat} : zlup L_ c_ i_ l c_ i_ = l := by simp [zlup]
theorem zlup_same {L_ : zLi} {c_ i_ : Nat} {l l' : List Nat} : zlup (zlup L_ c_ i_ l) c_ i_ l' = zlup L_ c_ i_ l' := by
  funext c' i'
  unfold zlup
  split <;> rfl
theorem zlup_id {L_ : zLi} {c_ i_ : Nat} : zlup L_ c_ i_ (L_ c_ i_) = L_ := by
  funext c' i'
  unfold zlup
  split
  · rename_i h_; rw [h_.1, h_.2]
  · rfl
theorem zlup_ne {L_ : zLi} {c_ i_ c' i' : Nat} {l : List Nat} (h_ : ¬ (c' = c_ ∧ i' = i_)) : zlup L_ c_ i_ l c' i' = L_ c' i' := if_neg h_
theorem zset_is {I_ : zIn} {c_ i_ f_ : Nat} {x_ : Int32} : zset I_ c_ i_ f_ x_ c_ i_ f_ = x_ := by simp [zset]
theorem zset_ne {I_ : zIn} {c_ i_ f_ c' i' f' : Nat} {x_ : Int32} (h_ : ¬ (c' = c_ ∧ i' = i_ ∧ f' = f_)) : zset I_ c_ i_ f_ x_ c' i' f' = I_ c' i' f' := if_neg h_
def zlef (I_ : zIn) (L_ : zLi) (v_ q_ : Nat) : Bool := decide (¬ I_ 5 v_ 10 = 0) && (match L_ 24 v_ with | [] => false | s_ :: _ => decide (s_ / 2 = q_))
theorem zm103 {I_ : zIn} {L_ : zLi} {v_ q_ : Nat} : zYm 3 103 [zwR 5 v_, zwR 1 q_] I_ L_ 0 (zRet (some (zwI (if zlef I_ L_ v_ q_ = true then 1 else 0))) I_ L_) := by
  refine zYm.of (Nat.le_of_ble_eq_true rfl) rfl ?_
  refine zY.go 2 rfl ?_
  refine zY.bi rfl (fun hp4 => ?_) (fun hp4 => ?_)
  · refine zY.go 1 rfl ?_
    exact zY.rb rfl rfl (Or.inl rfl) ⟨by simp_all [zcp, zbo_0, zlef], rfl, rfl⟩
  · refine zY.go 3 rfl ?_
    rcases hl : L_ 24 v_ with _ | ⟨s_, l⟩
    · refine zY.bi rfl (fun hp14 => ?_) (fun hp14 => ?_)
      · refine zY.go 1 rfl ?_
        exact zY.rb rfl rfl (Or.inl rfl) ⟨by simp_all [zcp, zbo_0, zlef], rfl, rfl⟩
      · simp [zcp] at hp14
    · refine zY.bi rfl (fun hp14 => ?_) (fun hp14 => ?_)
      · simp [zcp] at hp14
      · refine zY.go 3 rfl ?_
        refine zY.cr (w_get (k_ := 0) rfl (show (L_ 24 v_)[0]? = some s_ by rw [hl]; rfl)) rfl rfl rfl rfl (Nat.le_of_ble_eq_true rfl) rfl (by decide) rfl (by decide) (by decide) ?_
        refine zY.go 3 rfl ?_
        refine zY.an rfl (fun hp32 => ?_) (fun hp32 => ?_)
        · refine zY.go 1 rfl ?_
          exact zY.rb rfl rfl (Or.inl rfl) ⟨by simp_all [zcp, zbo_0, zlef, zek], rfl, rfl⟩
        · refine zY.go 2 rfl ?_
          exact zY.rb rfl rfl (Or.inr rfl) ⟨by simp_all [zcp, zbo_0, zlef, zek], rfl, rfl⟩
theorem zm109 {I_ : zIn} {L_ : zLi} {v_ : Nat} : zYm 1 109 [zwR 5 v_] I_ L_ 0 (zRet none (zset (zset (zset I_ 5 v_ 10 0) 5 v_ 11 (I_ 5 v_ 1)) 5 v_ 12 0) (zlup (zlup (zlup L_ 24 v_ []) 25 v_ []) 26 v_ [])) := by
  refine zYm.of (Nat.le_of_ble_eq_true rfl) rfl ?_
  refine zY.go 2 rfl ?_
  refine zY.cr (w_clear rfl) rfl rfl rfl rfl (Nat.le_of_ble_eq_true rfl) rfl (by decide) rfl (by decide) (by decide) ?_
  refine zY.go 2 rfl ?_
  refine zY.cr (w_clear rfl) rfl rfl rfl rfl (Nat.le_of_ble_eq_true rfl) rfl (by decide) rfl (by decide) (by decide) ?_
  refine zY.go 2 rfl ?_
  refine zY.cr (w_clear rfl) rfl rfl rfl rfl (Nat.le_of_ble_eq_true rfl) rfl (by decide) rfl (by decide) (by decide) ?_
  refine zY.go 10 rfl ?_
  exact zY.rv rfl rfl ⟨rfl, by simp [zset], rfl⟩
/-- traffic: a vehicle that has left is held on its way .. -/
theorem zm110l {I_ : zIn} {L_ : zLi} {v_ s_ : Nat} {l : List Nat} {x_ y_ : Int32} (h_ : ¬ I_ 5 v_ 10 = 0) (hl : L_ 24 v_ = s_ :: l) : zYm 3 110 [zwR 5 v_, zwI x_, zwI y_] I_ L_ 0 (zRet (some (zwI (I_ 4 s_ 4 + x_))) (zset (zset I_ 4 s_ 3 (I_ 4 s_ 3 + x_)) 4 s_ 4 (I_ 4 s_ 4 + x_)) L_) := by
  refine zYm.of (Nat.le_of_ble_eq_true rfl) rfl ?_
  refine zY.go 2 rfl ?_
  refine zY.bi rfl (fun hp4 => absurd (zbo_0.mp hp4) h_) (fun hp4 => ?_)
  refine zY.go 3 rfl ?_
  refine zY.bi rfl (fun hp14 => ?_) (fun hp14 => ?_)
  · simp [zcp, hl] at hp14
  · refine zY.go 3 rfl ?_
    refine zY.cr (w_get (k_ := 0) rfl (show (L_ 24 v_)[0]? = some s_ by rw [hl]; rfl)) rfl rfl rfl rfl (Nat.le_of_ble_eq_true rfl) rfl (by decide) rfl (by decide) (by decide) ?_
    refine zY.go 2 rfl ?_
    refine zY.cr zm95 rfl rfl rfl rfl (Nat.le_of_ble_eq_true rfl) rfl (by decide) rfl (by decide) (by decide) ?_
    refine zY.go 3 rfl ?_
    refine zY.cr (w_get (k_ := 0) rfl (show (L_ 24 v_)[0]? = some s_ by rw [hl]; rfl)) rfl rfl rfl rfl (Nat.le_of_ble_eq_true rfl) rfl (by decide) rfl (by decide) (by decide) ?_
    refine zY.go 2 rfl ?_
    exact zY.ri rfl rfl ⟨by simp [zset, zek], rfl, rfl⟩
/-- .. another is free later -/
theorem zm110f {I_ : zIn} {L_ : zLi} {v_ : Nat} {x_ y_ : Int32} (h_ : I_ 5 v_ 10 = 0 ∨ L_ 24 v_ = []) : zYm 3 110 [zwR 5 v_, zwI x_, zwI y_] I_ L_ 0 (zRet (some (zwI ((if I_ 5 v_ 12 < y_ then y_ else I_ 5 v_ 12) + x_))) (zset I_ 5 v_ 12 ((if I_ 5 v_ 12 < y_ then y_ else I_ 5 v_ 12) + x_)) L_) := by
  refine zYm.of (Nat.le_of_ble_eq_true rfl) rfl ?_
  refine zY.go 2 rfl ?_
  refine zY.bi rfl (fun hp4 => ?_) (fun hp4 => ?_)
  · refine zY.go 10 rfl ?_
    exact zY.ri rfl rfl ⟨by simp [zset], rfl, rfl⟩
  · refine zY.go 3 rfl ?_
    refine zY.bi rfl (fun hp14 => ?_) (fun hp14 => ?_)
    · refine zY.go 10 rfl ?_
      exact zY.ri rfl rfl ⟨by simp [zset], rfl, rfl⟩
    · exfalso
      rcases h_ with h_ | h_
      · exact hp4 (zbo_0.mpr h_)
      · simp [zcp, h_] at hp14
def zmay (I_ : zIn) (L_ : zLi) (v_ p_ : Nat) : Bool := (decide (¬ I_ 2 p_ 0 = 2) || (decide (¬ I_ 5 v_ 9 = 0) && decide (I_ 2 p_ 1 ≤ I_ 5 v_ 4))) && decide ((L_ 24 v_).length + 2 ≤ 16)
theorem zsz16 {n_ : Nat} (hn : n_ ≤ 1000) : (16 : Int32) < Int32.ofNat n_ + 2 ↔ 16 < n_ + 2 := by
  rw [show Int32.ofNat n_ + 2 = Int32.ofNat (n_ + 2) from (Int32.ofNat_add n_ 2).symm]
  exact zilt (a := 16) (by omega) (by omega)
theorem zm97 {I_ : zIn} {L_ : zLi} {v_ p_ : Nat} : zYm 1 97 [zwR 5 v_, zwR 2 p_] I_ L_ 0 (zRet (some (zwI (if zmay I_ L_ v_ p_ = true then 1 else 0))) I_ L_) := by
  refine zYm.inv (fun hi_ hw => ?_)
  have hx := hi_.veh (v_ := v_) (hw _ List.mem_cons_self)
  have hn := (hi_.1 24 v_ hx.1 (by decide)).1
  refine zYm.of (Nat.le_of_ble_eq_true rfl) rfl ?_
  refine zY.go 3 rfl ?_
  refine zY.bc rfl (fun hp5 => ?_) (fun hp5 => ?_)
  · refine zY.go 4 rfl ?_
    refine zY.bi rfl (fun hp33 => ?_) (fun hp33 => ?_)
    · refine zY.go 1 rfl ?_
      exact zY.rb rfl rfl (by first | exact Or.inl rfl | exact Or.inr rfl) ⟨by simp_all [zcp, zbo_0, zmay, zsz16 hn, Int32.not_le, Int32.not_lt] <;> first | omega | (intro hcon; exact absurd hcon (Int32.not_le.mpr hp23)), rfl, rfl⟩
    · refine zY.go 6 rfl ?_
      refine zY.bc rfl (fun hp47 => ?_) (fun hp47 => ?_)
      · refine zY.go 1 rfl ?_
        exact zY.rb rfl rfl (by first | exact Or.inl rfl | exact Or.inr rfl) ⟨by simp_all [zcp, zbo_0, zmay, zsz16 hn, Int32.not_le, Int32.not_lt] <;> first | omega | (intro hcon; exact absurd hcon (Int32.not_le.mpr hp23)), rfl, rfl⟩
      · refine zY.go 2 rfl ?_
        exact zY.rb rfl rfl (by first | exact Or.inl rfl | exact Or.inr rfl) ⟨by simp_all [zcp, zbo_0, zmay, zsz16 hn, Int32.not_le, Int32.not_lt] <;> first | omega | (intro hcon; exact absurd hcon (Int32.not_le.mpr hp23)), rfl, rfl⟩
  · refine zY.go 2 rfl ?_
    refine zY.bi rfl (fun hp12 => ?_) (fun hp12 => ?_)
    · refine zY.go 3 rfl ?_
      refine zY.bi rfl (fun hp33 => ?_) (fun hp33 => ?_)
      · refine zY.go 1 rfl ?_
        exact zY.rb rfl rfl (by first | exact Or.inl rfl | exact Or.inr rfl) ⟨by simp_all [zcp, zbo_0, zmay, zsz16 hn, Int32.not_le, Int32.not_lt] <;> first | omega | (intro hcon; exact absurd hcon (Int32.not_le.mpr hp23)), rfl, rfl⟩
      · refine zY.go 6 rfl ?_
        refine zY.bc rfl (fun hp47 => ?_) (fun hp47 => ?_)
        · refine zY.go 1 rfl ?_
          exact zY.rb rfl rfl (by first | exact Or.inl rfl | exact Or.inr rfl) ⟨by simp_all [zcp, zbo_0, zmay, zsz16 hn, Int32.not_le, Int32.not_lt] <;> first | omega | (intro hcon; exact absurd hcon (Int32.not_le.mpr hp23)), rfl, rfl⟩
        · refine zY.go 2 rfl ?_
          exact zY.rb rfl rfl (by first | exact Or.inl rfl | exact Or.inr rfl) ⟨by simp_all [zcp, zbo_0, zmay, zsz16 hn, Int32.not_le, Int32.not_lt] <;> first | omega | (intro hcon; exact absurd hcon (Int32.not_le.mpr hp23)), rfl, rfl⟩
    · refine zY.go 4 rfl ?_
      refine zY.bc rfl (fun hp23 => ?_) (fun hp23 => ?_)
      · refine zY.go 3 rfl ?_
        refine zY.bi rfl (fun hp33 => ?_) (fun hp33 => ?_)
        · refine zY.go 1 rfl ?_
          exact zY.rb rfl rfl (by first | exact Or.inl rfl | exact Or.inr rfl) ⟨by simp_all [zcp, zbo_0, zmay, zsz16 hn, Int32.not_le, Int32.not_lt] <;> first | omega | (intro hcon; exact absurd hcon (Int32.not_le.mpr hp23)), rfl, rfl⟩
        · refine zY.go 6 rfl ?_
          refine zY.bc rfl (fun hp47 => ?_) (fun hp47 => ?_)
          · refine zY.go 1 rfl ?_
            exact zY.rb rfl rfl (by first | exact Or.inl rfl | exact Or.inr rfl) ⟨by simp_all [zcp, zbo_0, zmay, zsz16 hn, Int32.not_le, Int32.not_lt] <;> first | omega | (intro hcon; exact absurd hcon (Int32.not_le.mpr hp23)), rfl, rfl⟩
          · refine zY.go 2 rfl ?_
            exact zY.rb rfl rfl (by first | exact Or.inl rfl | exact Or.inr rfl) ⟨by simp_all [zcp, zbo_0, zmay, zsz16 hn, Int32.not_le, Int32.not_lt] <;> first | omega | (intro hcon; exact absurd hcon (Int32.not_le.mpr hp23)), rfl, rfl⟩
      · refine zY.go 4 rfl ?_
        refine zY.bi rfl (fun hp33 => ?_) (fun hp33 => ?_)
        · refine zY.go 1 rfl ?_
          exact zY.rb rfl rfl (by first | exact Or.inl rfl | exact Or.inr rfl) ⟨by simp_all [zcp, zbo_0, zmay, zsz16 hn, Int32.not_le, Int32.not_lt] <;> first | omega | (intro hcon; exact absurd hcon (Int32.not_le.mpr hp23)), rfl, rfl⟩
        · refine zY.go 6 rfl ?_
          refine zY.bc rfl (fun hp47 => ?_) (fun hp47 => ?_)
          · refine zY.go 1 rfl ?_
            exact zY.rb rfl rfl (by first | exact Or.inl rfl | exact Or.inr rfl) ⟨by simp_all [zcp, zbo_0, zmay, zsz16 hn, Int32.not_le, Int32.not_lt] <;> first | omega | (intro hcon; exact absurd hcon (Int32.not_le.mpr hp23)), rfl, rfl⟩
          · refine zY.go 2 rfl ?_
            exact zY.rb rfl rfl (by first | exact Or.inl rfl | exact Or.inr rfl) ⟨by simp_all [zcp, zbo_0, zmay, zsz16 hn, Int32.not_le, Int32.not_lt] <;> first | omega | (intro hcon; exact absurd hcon (Int32.not_le.mpr hp23)), rfl, rfl⟩

def zins (k_ t_ : Nat) (l : List Nat) : List Nat := l.take k_ ++ t_ :: l.drop k_
theorem zins_len {k_ t_ : Nat} {l : List Nat} (h_ : k_ ≤ l.length) : (zins k_ t_ l).length = l.length + 1 := by
  unfold zins
  simp; omega
theorem zm102 {I_ : zIn} {L_ : zLi} {v_ p_ k_ j_ t_ : Nat} (hk : k_ ≤ (L_ 24 v_).length) (hj : k_ < j_ ∧ j_ ≤ (L_ 24 v_).length + 1) (hn : (L_ 24 v_).length < 100) : zYm 5 102 [zwR 5 v_, zwR 4 p_, zwI (Int32.ofNat k_), zwR 4 t_, zwI (Int32.ofNat j_)] I_ L_ 0 (zRet none (zset I_ 1 (p_ / 2) 8 (Int32.ofNat v_)) (zlup L_ 24 v_ (zins j_ t_ (zins k_ p_ (L_ 24 v_))))) := by
  refine zYm.of (Nat.le_of_ble_eq_true rfl) rfl ?_
  refine zY.go 1 rfl ?_
  refine zY.bi rfl (fun hp1 => absurd hp1 (Int32.not_lt.mpr (zige (by omega)))) (fun hp1 => ?_)
  refine zY.go 4 rfl ?_
  refine zY.bn rfl (by omega) (by omega) (fun hp12 => absurd hp12 (show ¬ (L_ 24 v_).length < k_ by omega)) (fun hp12 => ?_)
  refine zY.go 2 rfl ?_
  refine zY.bn rfl (by omega) (by omega) (fun hp18 => absurd hp18 (show ¬ j_ ≤ k_ by omega)) (fun hp18 => ?_)
  refine zY.go 6 rfl ?_
  show zY _ _ _ _ _ [zwI (Int32.ofNat (L_ 24 v_).length + 1), zwI (Int32.ofNat j_)] _ _ _ _
  rw [zisucc]
  refine zY.bn rfl (by omega) (by omega) (fun hp32 => ?_) (fun hp32 => absurd (show j_ ≤ (L_ 24 v_).length + 1 by omega) hp32)
  refine zY.go 4 rfl ?_
  refine zY.cr (w_addi rfl (by omega) hk) rfl rfl rfl rfl (Nat.le_of_ble_eq_true rfl) rfl (by decide) rfl (by decide) (by decide) ?_
  refine zY.go 4 rfl ?_
  refine zY.cr (w_addi (L_ := zlup L_ 24 v_ (zins k_ p_ (L_ 24 v_))) (c_ := 24) (p_ := v_) (k_ := j_) (t_ := t_) rfl (by rw [zlup_self, zins_len hk]; omega) (by rw [zlup_self, zins_len hk]; omega)) rfl rfl rfl rfl (Nat.le_of_ble_eq_true rfl) rfl (by decide) rfl (by decide) (by decide) ?_
  refine zY.go 5 rfl ?_
  refine zY.rv rfl rfl ⟨rfl, rfl, ?_⟩
  rw [zlup_self, zlup_same]; rfl
theorem zm118 {I_ : zIn} {L_ : zLi} {v_ f_ k_ s_ : Nat} (hs : (L_ 24 v_)[k_]? = some s_) (hf : f_ ≤ 1000) : zYm 4 118 [zwR 5 v_, zwI (Int32.ofNat f_), zwI (Int32.ofNat k_)] I_ L_ 0 (zRet (some (zwI (if s_ % 2 = 0 ∨ zfnd (2 * (s_ / 2)) (L_ 24 v_) 0 < Int32.ofNat f_ then 1 else 0))) I_ L_) := by
  refine zYm.inv (fun hi_ hw => ?_)
  have hx := hi_.veh (v_ := v_) (hw _ List.mem_cons_self)
  have hn := (hi_.1 24 v_ hx.1 (by decide)).1
  obtain ⟨hlt, _⟩ := List.getElem?_eq_some_iff.mp hs
  refine zYm.of (Nat.le_of_ble_eq_true rfl) rfl ?_
  refine zY.go 1 rfl ?_
  refine zY.bi rfl (fun hp1 => absurd hp1 (Int32.not_lt.mpr (zige (by omega)))) (fun hp1 => ?_)
  refine zY.go 4 rfl ?_
  refine zY.bn rfl (by omega) (by omega) (fun hp12 => absurd hp12 (show ¬ (L_ 24 v_).length ≤ k_ by omega)) (fun hp12 => ?_)
  refine zY.go 3 rfl ?_
  refine zY.cr (w_get rfl hs) rfl rfl rfl rfl (Nat.le_of_ble_eq_true rfl) rfl (by decide) rfl (by decide) (by decide) ?_
  refine zY.go 2 rfl ?_
  refine zY.bi rfl (fun hp29 => ?_) (fun hp29 => ?_)
  · refine zY.go 4 rfl ?_
    refine zY.cr (w_get rfl hs) rfl rfl rfl rfl (Nat.le_of_ble_eq_true rfl) rfl (by decide) rfl (by decide) (by decide) ?_
    refine zY.go 3 rfl ?_
    refine zY.cr (zm114 (e_ := 0) (by decide)) rfl rfl rfl rfl (Nat.le_of_ble_eq_true rfl) rfl (by decide) rfl (by decide) (by decide) ?_
    refine zY.go 1 rfl ?_
    refine zY.bc rfl (fun hp54 => ?_) (fun hp54 => ?_)
    · refine zY.go 1 rfl ?_
      exact zY.rb rfl rfl (by first | exact Or.inl rfl | exact Or.inr rfl) ⟨by simp_all [zcp, zpar_0, Int32.not_lt], rfl, rfl⟩
    · refine zY.go 2 rfl ?_
      exact zY.rb rfl rfl (by first | exact Or.inl rfl | exact Or.inr rfl) ⟨by simp_all [zcp, zpar_0, Int32.not_le], rfl, rfl⟩
  · refine zY.go 1 rfl ?_
    exact zY.rb rfl rfl (by first | exact Or.inl rfl | exact Or.inr rfl) ⟨by simp_all [zcp, zpar_0], rfl, rfl⟩
theorem zm119 {I_ : zIn} {L_ : zLi} {v_ i_ j_ si sj : Nat} (hsi : (L_ 24 v_)[i_]? = some si) (hsj : (L_ 24 v_)[j_]? = some sj) : zYm 3 119 [zwR 5 v_, zwI (Int32.ofNat i_), zwI (Int32.ofNat j_)] I_ L_ 0 (zRet none I_ (zlup L_ 24 v_ (((L_ 24 v_).set i_ sj).set j_ si))) := by
  refine zYm.inv (fun hi_ hw => ?_)
  have hx := hi_.veh (v_ := v_) (hw _ List.mem_cons_self)
  have hn := (hi_.1 24 v_ hx.1 (by decide)).1
  obtain ⟨hlti, _⟩ := List.getElem?_eq_some_iff.mp hsi
  obtain ⟨hltj, _⟩ := List.getElem?_eq_some_iff.mp hsj
  refine zYm.of (Nat.le_of_ble_eq_true rfl) rfl ?_
  refine zY.go 5 rfl ?_
  refine zY.bi rfl (fun hp9 => absurd hp9 (Int32.not_lt.mpr (zige (by omega)))) (fun hp9 => ?_)
  refine zY.go 1 rfl ?_
  refine zY.bi rfl (fun hp9 => absurd hp9 (Int32.not_lt.mpr (zige (by omega)))) (fun hp13 => ?_)
  refine zY.go 2 rfl ?_
  refine zY.bn rfl (by omega) (by omega) (fun hp18 => absurd hp18 (show ¬ (L_ 24 v_).length ≤ i_ by omega)) (fun hp18 => ?_)
  refine zY.go 2 rfl ?_
  refine zY.bn rfl (by omega) (by omega) (fun hp23 => ?_) (fun hp23 => absurd (show j_ < (L_ 24 v_).length by omega) hp23)
  refine zY.go 3 rfl ?_
  refine zY.cr (w_get rfl hsi) rfl rfl rfl rfl (Nat.le_of_ble_eq_true rfl) rfl (by decide) rfl (by decide) (by decide) ?_
  refine zY.go 8 rfl ?_
  refine zY.cr (w_get rfl hsj) rfl rfl rfl rfl (Nat.le_of_ble_eq_true rfl) rfl (by decide) rfl (by decide) (by decide) ?_
  refine zY.go 1 rfl ?_
  refine zY.cr (w_set rfl hsi) rfl rfl rfl rfl (Nat.le_of_ble_eq_true rfl) rfl (by decide) rfl (by decide) (by decide) ?_
  refine zY.go 5 rfl ?_
  obtain ⟨s2_, hs2⟩ : ∃ s2_, (zlup L_ 24 v_ ((L_ 24 v_).set i_ sj) 24 v_)[j_]? = some s2_ := by
    rw [zlup_self]
    exact ⟨_, List.getElem?_eq_getElem (by simpa using hltj)⟩
  refine zY.cr (w_set rfl hs2) rfl rfl rfl rfl (Nat.le_of_ble_eq_true rfl) rfl (by decide) rfl (by decide) (by decide) ?_
  refine zY.go 1 rfl ?_
  refine zY.rv rfl rfl ⟨rfl, rfl, ?_⟩
  rw [zlup_self, zlup_same]
