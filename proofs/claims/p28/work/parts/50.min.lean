/-! CONTRACTS: what the minutes do to a vehicle -/
def ztko (q_ : Nat) : Nat → List Nat → List Nat
  | 0, l => l
  | n_ + 1, l => ztko q_ n_ (match l[n_]? with | some s_ => if s_ / 2 = q_ then l.eraseIdx n_ else l | none => l)
def ztka (q_ : Nat) : Nat → List Nat → List Nat
  | 0, l => l
  | n_ + 1, l => ztka q_ n_ (match l[n_]? with | some s_ => if s_ = q_ then l.eraseIdx n_ else l | none => l)
theorem zcm1 {n_ : Nat} (h_ : n_ < 100000) : zcp .lt (Int32.ofNat n_ - 1) 0 ↔ n_ = 0 := by
  constructor
  · intro hp
    refine Decidable.byContradiction (fun h0 => ?_)
    have e_ : Int32.ofNat n_ - 1 = Int32.ofNat (n_ - 1) := zisubn (b := 1) (by omega)
    rw [e_] at hp
    exact absurd hp (Int32.not_lt.mpr (zige (by omega)))
  · intro h0; rw [h0]; show Int32.ofNat 0 - 1 < 0; decide
theorem zm104l (v_ q_ : Nat) (I_ : zIn) (w_ : zW) (hw : w_ = zwR 1 q_) : ∀ (n_ : Nat) (L_ : zLi), n_ ≤ 1000 → (L_ 24 v_).length ≤ 1000 → zY none 3 104 10 [some (zwR 5 v_), some w_, some (zwI (Int32.ofNat n_ - 1))] [] I_ L_ 0 (zRet none I_ (zlup L_ 24 v_ (ztko q_ n_ (L_ 24 v_))))
  | 0, L_, hn, hl => by
    refine zY.go 1 rfl ?_
    refine zY.bi rfl (fun hp => ?_) (fun hp => absurd ((zcm1 (by omega)).mpr rfl) hp)
    exact zY.rv rfl rfl ⟨rfl, rfl, zlup_id.symm⟩
  | n_ + 1, L_, hn, hl => by
    subst hw
    have e_ : Int32.ofNat (n_ + 1) - 1 = Int32.ofNat n_ := zisubn (b := 1) (by omega)
    have ih_ := fun (L_ : zLi) h_ => zm104l v_ q_ I_ _ rfl n_ L_ (by omega) h_
    rw [e_]
    refine zY.go 1 rfl ?_
    refine zY.bi rfl (fun hp => absurd hp (Int32.not_lt.mpr (zige (by omega)))) (fun hp => ?_)
    refine zY.go 4 rfl ?_
    refine zY.bn rfl (by omega) (by omega) (fun hp22 => ?_) (fun hp22 => ?_)
    · refine zY.go 2 rfl ?_
      have hg : (L_ 24 v_)[n_]? = none := List.getElem?_eq_none hp22
      unfold ztko; rw [hg]
      have := ih_ L_ hl
      rw [Int32.sub_eq_add_neg] at this
      exact this
    · obtain ⟨s_, hs⟩ : ∃ s_, (L_ 24 v_)[n_]? = some s_ := ⟨_, List.getElem?_eq_getElem (Nat.lt_of_not_le hp22)⟩
      refine zY.go 3 rfl ?_
      refine zY.cr (w_get rfl hs) rfl rfl rfl rfl (Nat.le_of_ble_eq_true rfl) rfl (by decide) rfl (by decide) (by decide) ?_
      refine zY.go 3 rfl ?_
      refine zY.an rfl (fun hp40 => ?_) (fun hp40 => ?_)
      · refine zY.go 2 rfl ?_
        unfold ztko; rw [hs]
        show zY _ _ _ _ _ _ _ _ _ (zRet none I_ (zlup L_ 24 v_ (ztko q_ n_ (if s_ / 2 = q_ then (L_ 24 v_).eraseIdx n_ else L_ 24 v_))))
        rw [if_neg (fun h_ => hp40 ⟨rfl, h_⟩)]
        have := ih_ L_ hl
        rw [Int32.sub_eq_add_neg] at this
        exact this
      · refine zY.go 3 rfl ?_
        refine zY.cr (w_rem rfl hs) rfl rfl rfl rfl (Nat.le_of_ble_eq_true rfl) rfl (by decide) rfl (by decide) (by decide) ?_
        refine zY.go 3 rfl ?_
        unfold ztko; rw [hs]
        show zY _ _ _ _ _ _ _ _ _ (zRet none I_ (zlup L_ 24 v_ (ztko q_ n_ (if s_ / 2 = q_ then (L_ 24 v_).eraseIdx n_ else L_ 24 v_))))
        rw [if_pos hp40.2]
        have := ih_ (zlup L_ 24 v_ ((L_ 24 v_).eraseIdx n_)) (by rw [zlup_self, List.length_eraseIdx]; split <;> omega)
        rw [Int32.sub_eq_add_neg, zlup_self, zlup_same] at this
        exact this
theorem zm104 {I_ : zIn} {L_ : zLi} {v_ q_ : Nat} : zYm 3 104 [zwR 5 v_, zwR 1 q_] I_ L_ 0 (zRet none I_ (zlup L_ 24 v_ (ztko q_ (L_ 24 v_).length (L_ 24 v_)))) := by
  refine zYm.inv (fun hi_ hw => ?_)
  have hx := hi_.veh (v_ := v_) (hw _ List.mem_cons_self)
  have hn := (hi_.1 24 v_ hx.1 (by decide)).1
  refine zYm.of (Nat.le_of_ble_eq_true rfl) rfl ?_
  refine zY.go 6 rfl ?_
  exact zm104l v_ q_ I_ _ rfl (L_ 24 v_).length L_ hn hn
theorem zm106l (v_ q_ : Nat) (I_ : zIn) (w_ : zW) (hw : ∃ t_, w_ = zwR 4 t_ ∧ t_ / 2 = q_) : ∀ (n_ : Nat) (L_ : zLi), n_ ≤ 1000 → (L_ 26 v_).length ≤ 1000 → zY none 3 106 29 [some (zwR 5 v_), some w_, some (zwI (Int32.ofNat n_ - 1))] [] I_ L_ 0 (zRet none I_ (zlup L_ 26 v_ (ztka q_ n_ (L_ 26 v_))))
  | 0, L_, hn, hl => by
    refine zY.go 1 rfl ?_
    refine zY.bi rfl (fun hp => ?_) (fun hp => absurd ((zcm1 (by omega)).mpr rfl) hp)
    exact zY.rv rfl rfl ⟨rfl, rfl, zlup_id.symm⟩
  | n_ + 1, L_, hn, hl => by
    obtain ⟨t_, rfl, hq⟩ := hw
    subst hq
    have e_ : Int32.ofNat (n_ + 1) - 1 = Int32.ofNat n_ := zisubn (b := 1) (by omega)
    have ih_ := fun (L_ : zLi) h_ => zm106l v_ (t_ / 2) I_ _ ⟨t_, rfl, rfl⟩ n_ L_ (by omega) h_
    rw [e_]
    refine zY.go 1 rfl ?_
    refine zY.bi rfl (fun hp => absurd hp (Int32.not_lt.mpr (zige (by omega)))) (fun hp => ?_)
    refine zY.go 4 rfl ?_
    refine zY.bn rfl (by omega) (by omega) (fun hp22 => ?_) (fun hp22 => ?_)
    · refine zY.go 2 rfl ?_
      have hg : (L_ 26 v_)[n_]? = none := List.getElem?_eq_none hp22
      unfold ztka; rw [hg]
      have := ih_ L_ hl
      rw [Int32.sub_eq_add_neg] at this
      exact this
    · obtain ⟨s_, hs⟩ : ∃ s_, (L_ 26 v_)[n_]? = some s_ := ⟨_, List.getElem?_eq_getElem (Nat.lt_of_not_le hp22)⟩
      refine zY.go 3 rfl ?_
      refine zY.cr (w_get rfl hs) rfl rfl rfl rfl (Nat.le_of_ble_eq_true rfl) rfl (by decide) rfl (by decide) (by decide) ?_
      refine zY.go 2 rfl ?_
      refine zY.an rfl (fun hp40 => ?_) (fun hp40 => ?_)
      · refine zY.go 2 rfl ?_
        unfold ztka; rw [hs]
        show zY _ _ _ _ _ _ _ _ _ (zRet none I_ (zlup L_ 26 v_ (ztka (t_ / 2) n_ (if s_ = t_ / 2 then (L_ 26 v_).eraseIdx n_ else L_ 26 v_))))
        rw [if_neg (fun h_ => hp40 ⟨rfl, h_⟩)]
        have := ih_ L_ hl
        rw [Int32.sub_eq_add_neg] at this
        exact this
      · refine zY.go 3 rfl ?_
        refine zY.cr (w_rem rfl hs) rfl rfl rfl rfl (Nat.le_of_ble_eq_true rfl) rfl (by decide) rfl (by decide) (by decide) ?_
        refine zY.go 3 rfl ?_
        unfold ztka; rw [hs]
        show zY _ _ _ _ _ _ _ _ _ (zRet none I_ (zlup L_ 26 v_ (ztka (t_ / 2) n_ (if s_ = t_ / 2 then (L_ 26 v_).eraseIdx n_ else L_ 26 v_))))
        rw [if_pos hp40.2]
        have := ih_ (zlup L_ 26 v_ ((L_ 26 v_).eraseIdx n_)) (by rw [zlup_self, List.length_eraseIdx]; split <;> omega)
        rw [Int32.sub_eq_add_neg, zlup_self, zlup_same] at this
        exact this
theorem zm106 {I_ : zIn} {L_ : zLi} {v_ s_ : Nat} : zYm 3 106 [zwR 5 v_, zwR 4 s_] I_ L_ 0 (zRet none (zset (zset I_ 1 (s_ / 2) 12 (I_ 4 s_ 3)) 1 (s_ / 2) 5 2) (zlup L_ 26 v_ (ztka (s_ / 2) (L_ 26 v_).length (L_ 26 v_)))) := by
  refine zYm.inv (fun hi_ hw => ?_)
  have hx := hi_.veh (v_ := v_) (hw _ List.mem_cons_self)
  have hn := (hi_.1 26 v_ hx.2.2.1 (by decide)).1
  refine zYm.of (Nat.le_of_ble_eq_true rfl) rfl ?_
  refine zY.go 15 rfl ?_
  exact zm106l v_ (s_ / 2) _ _ ⟨s_, rfl, rfl⟩ (L_ 26 v_).length L_ hn hn
def zpi1 (I_ : zIn) (s_ : Nat) : zIn := zset (zset I_ 1 (s_ / 2) 10 (I_ 4 s_ 3)) 1 (s_ / 2) 11 (zset I_ 1 (s_ / 2) 10 (I_ 4 s_ 3) 4 s_ 4)
def zpid (I_ : zIn) (L_ : zLi) (v_ s_ : Nat) : zIn × zLi :=
  if ¬ zpi1 I_ s_ 1 (s_ / 2) 13 = 0 then (zset (zpi1 I_ s_) 1 (s_ / 2) 5 3, zlup L_ 24 v_ (ztko (s_ / 2) (L_ 24 v_).length (L_ 24 v_)))
  else if zchr (zpi1 I_ s_) (s_ / 2) = true ∧ zpi1 I_ s_ 5 v_ 9 = 0 then (zset (zpi1 I_ s_) 1 (s_ / 2) 5 5, zlup L_ 24 v_ (ztko (s_ / 2) (L_ 24 v_).length (L_ 24 v_)))
  else (zset (zpi1 I_ s_) 1 (s_ / 2) 5 1, zlup L_ 26 v_ (L_ 26 v_ ++ [s_ / 2]))
theorem zm107 {I_ : zIn} {L_ : zLi} {v_ s_ : Nat} (hn : (L_ 26 v_).length < 600) : zYm 6 107 [zwR 5 v_, zwR 4 s_] I_ L_ 0 (zRet none (zpid I_ L_ v_ s_).1 (zpid I_ L_ v_ s_).2) := by
  refine zYm.of (Nat.le_of_ble_eq_true rfl) rfl ?_
  refine zY.go 13 rfl ?_
  refine zY.bi rfl (fun hp25 => ?_) (fun hp25 => ?_)
  · refine zY.go 1 rfl ?_
    refine zY.cr (zm94) rfl rfl rfl rfl (Nat.le_of_ble_eq_true rfl) rfl (by decide) rfl (by decide) (by decide) ?_
    refine zY.bi rfl (fun hp40 => ?_) (fun hp40 => ?_)
    · refine zY.go 6 rfl ?_
      refine zY.cr (w_add (L_ := L_) (c_ := 26) (p_ := v_) rfl hn) rfl rfl rfl rfl (Nat.le_of_ble_eq_true rfl) rfl (by decide) rfl (by decide) (by decide) ?_
      refine zY.go 1 rfl ?_
      exact zY.rv rfl rfl ⟨rfl, by simp_all [zcp, zbo_0, zpid, zpi1], by simp_all [zcp, zbo_0, zpid, zpi1]⟩
    · refine zY.go 2 rfl ?_
      refine zY.bi rfl (fun hp47 => ?_) (fun hp47 => ?_)
      · refine zY.go 6 rfl ?_
        refine zY.cr (w_add (L_ := L_) (c_ := 26) (p_ := v_) rfl hn) rfl rfl rfl rfl (Nat.le_of_ble_eq_true rfl) rfl (by decide) rfl (by decide) (by decide) ?_
        refine zY.go 1 rfl ?_
        exact zY.rv rfl rfl ⟨rfl, by simp_all [zcp, zbo_0, zpid, zpi1], by simp_all [zcp, zbo_0, zpid, zpi1]⟩
      · refine zY.go 6 rfl ?_
        refine zY.cr (zm104) rfl rfl rfl rfl (Nat.le_of_ble_eq_true rfl) rfl (by decide) rfl (by decide) (by decide) ?_
        exact zY.rv rfl rfl ⟨rfl, by simp_all [zcp, zbo_0, zpid, zpi1], by simp_all [zcp, zbo_0, zpid, zpi1]⟩
  · refine zY.go 6 rfl ?_
    refine zY.cr (zm104) rfl rfl rfl rfl (Nat.le_of_ble_eq_true rfl) rfl (by decide) rfl (by decide) (by decide) ?_
    exact zY.rv rfl rfl ⟨rfl, by simp_all [zcp, zbo_0, zpid, zpi1], by simp_all [zcp, zbo_0, zpid, zpi1]⟩
def zlvd (I_ : zIn) (L_ : zLi) (v_ : Nat) (x_ : Int32) : zIn := if ¬ I_ 5 v_ 10 = 0 ∨ x_ < I_ 5 v_ 12 then I_ else match L_ 24 v_ with
  | [] => I_
  | s_ :: _ => if ¬ s_ % 2 = 0 ∨ I_ 1 (s_ / 2) 7 - 2 * zstp (I_ 5 v_ 11) (I_ 4 s_ 2) ≤ x_ then zset (zset (zset I_ 5 v_ 10 1) 4 s_ 3 (x_ + 2 * zstp (I_ 5 v_ 11) (I_ 4 s_ 2))) 4 s_ 4 (x_ + 2 * zstp (I_ 5 v_ 11) (I_ 4 s_ 2) + I_ 2 (I_ 1 (s_ / 2) 0).toNatClampNeg 4) else I_
theorem zm108 {I_ : zIn} {L_ : zLi} {v_ : Nat} {x_ : Int32} : zYm 3 108 [zwR 5 v_, zwI x_] I_ L_ 0 (zRet none (zlvd I_ L_ v_ x_) L_) := by
  refine zYm.of (Nat.le_of_ble_eq_true rfl) rfl ?_
  refine zY.go 2 rfl ?_
  refine zY.bi rfl (fun hp4 => ?_) (fun hp4 => ?_)
  · exact zY.rv rfl rfl ⟨rfl, by simp_all [zcp, zbo_0, zlvd], rfl⟩
  · refine zY.go 3 rfl ?_
    refine zY.bc rfl (fun hp12 => ?_) (fun hp12 => ?_)
    · exact zY.rv rfl rfl ⟨rfl, by simp_all [zcp, zbo_0, zlvd], rfl⟩
    · refine zY.go 3 rfl ?_
      have hc_ : ¬ (¬ I_ 5 v_ 10 = 0 ∨ x_ < I_ 5 v_ 12) := by
        simp only [zcp, zbo_0] at hp4 hp12
        exact fun h_ => h_.elim hp4 hp12
      rcases hl : L_ 24 v_ with _ | ⟨s_, l⟩
      · refine zY.bi rfl (fun hp22 => ?_) (fun hp22 => ?_)
        · simp [zcp] at hp22
        · exact zY.rv rfl rfl ⟨rfl, by unfold zlvd; rw [if_neg hc_, hl], rfl⟩
      · refine zY.bi rfl (fun hp22 => ?_) (fun hp22 => ?_)
        · refine zY.go 3 rfl ?_
          refine zY.cr (w_get (k_ := 0) rfl (show (L_ 24 v_)[0]? = some s_ by rw [hl]; rfl)) rfl rfl rfl rfl (Nat.le_of_ble_eq_true rfl) rfl (by decide) rfl (by decide) (by decide) ?_
          refine zY.go 7 rfl ?_
          refine zY.cr zm31 rfl rfl rfl rfl (Nat.le_of_ble_eq_true rfl) rfl (by decide) rfl (by decide) (by decide) ?_
          refine zY.go 4 rfl ?_
          refine zY.bi rfl (fun hp56 => ?_) (fun hp56 => ?_)
          · refine zY.go 17 rfl ?_
            refine zY.rv rfl rfl ⟨rfl, ?_, rfl⟩
            unfold zlvd; rw [if_neg hc_, hl]
            show _ = if _ then _ else _
            rw [if_pos (Or.inl (fun h_ => hp56 (zpar_0.mpr h_)))]
            simp [zset, zek]
          · refine zY.go 6 rfl ?_
            refine zY.bc rfl (fun hp69 => ?_) (fun hp69 => ?_)
            · refine zY.rv rfl rfl ⟨rfl, ?_, rfl⟩
              unfold zlvd; rw [if_neg hc_, hl]
              show _ = if _ then _ else _
              rw [if_neg]
              rintro (h_ | h_)
              · exact h_ (zpar_0.mp (Decidable.byContradiction hp56))
              · exact absurd h_ (Int32.not_le.mpr hp69)
            · refine zY.go 17 rfl ?_
              refine zY.rv rfl rfl ⟨rfl, ?_, rfl⟩
              unfold zlvd; rw [if_neg hc_, hl]
              show _ = if _ then _ else _
              rw [if_pos (Or.inr (show I_ 1 (s_ / 2) 7 - 2 * zstp (I_ 5 v_ 11) (I_ 4 s_ 2) ≤ x_ from Int32.not_lt.mp hp69))]
              simp [zset, zek]
        · simp [zcp] at hp22

