/-! THE LAW: its twenty handlers -/
/-- what a handler leaves to the law: a number t, and a call of the model that throws t, or answers what the long holds -/
def zzHp (mc_ dm mm : Nat) (am : List zW) (g_ : Int32 → Int32) : zPost := fun r_ I1 L1 => ∃ t_ : Int32, r_ = .inl (some (zwI t_)) ∧ zYm dm mm am I1 L1 0 (fun r2 I2_ L2_ => zzRR0 I2_ L2_ ∧ I2_ 7 0 0 = t_ ∧ ∃ v_, r2 = .inl v_ ∧ zzVal mc_ v_ ∧ (t_ = 0 → ∀ w_, v_ = some (zwI w_) → I2_ 32 0 0 = g_ w_))
theorem zzHp_ok {I_ : zIn} {L_ : zLi} {mc_ dm mm : Nat} {am : List zW} {cd : Nat → Int32} {g_ : Int32 → Int32} {x_ : Int32} (h_ : ∀ y_, zYm dm mm am (zset I_ 32 0 0 y_) L_ 0 (fun r2 I2_ L2_ => zzRR0 I2_ L2_ ∧ zzAns mc_ cd (.inl (some (zwI x_))) r2 (I2_ 7 0 0) ∧ I2_ 32 0 0 = y_)) (hv : zzVal mc_ (some (zwI x_))) : zzHp mc_ dm mm am g_ (.inl (some (zwI 0))) (zset I_ 32 0 0 (g_ x_)) L_ := by
  refine ⟨0, rfl, (h_ (g_ x_)).mono (Nat.le_refl _) (Nat.le_refl _) (fun r2 I2_ L2_ hq => ?_)⟩
  obtain ⟨h1, ⟨h2, rfl⟩, h3⟩ := hq
  exact ⟨h1, h2, _, rfl, hv, fun _ w_ e_ => by cases e_; exact h3⟩
theorem zzHp_no {I_ : zIn} {L_ : zLi} {mc_ dm mm : Nat} {am : List zW} {cd : Nat → Int32} {g_ : Int32 → Int32} (h_ : ∀ y_, zYm dm mm am (zset I_ 32 0 0 y_) L_ 0 (fun r2 I2_ L2_ => zzRR0 I2_ L2_ ∧ zzAns mc_ cd (.inl none) r2 (I2_ 7 0 0) ∧ I2_ 32 0 0 = y_)) (hv : zzVal mc_ none) : zzHp mc_ dm mm am g_ (.inl (some (zwI 0))) I_ L_ := by
  have h0 := h_ (I_ 32 0 0)
  rw [zzset_id] at h0
  refine ⟨0, rfl, h0.mono (Nat.le_refl _) (Nat.le_refl _) (fun r2 I2_ L2_ hq => ?_)⟩
  obtain ⟨h1, ⟨h2, rfl⟩, h3⟩ := hq
  exact ⟨h1, h2, _, rfl, hv, fun _ w_ e_ => by cases e_⟩
theorem zzHp_ex {I_ : zIn} {L_ : zLi} {mc_ dm mm E_ : Nat} {am : List zW} {cd : Nat → Int32} {g_ : Int32 → Int32} {t_ : Int32} (ht : cd E_ = t_) (h0 : ¬ t_ = 0) (h_ : ∀ y_, zYm dm mm am (zset I_ 32 0 0 y_) L_ 0 (fun r2 I2_ L2_ => zzRR0 I2_ L2_ ∧ zzAns mc_ cd (.inr E_) r2 (I2_ 7 0 0) ∧ I2_ 32 0 0 = y_)) : zzHp mc_ dm mm am g_ (.inl (some (zwI t_))) I_ L_ := by
  have hx := h_ (I_ 32 0 0)
  rw [zzset_id] at hx
  refine ⟨t_, rfl, hx.mono (Nat.le_refl _) (Nat.le_refl _) (fun r2 I2_ L2_ hq => ?_)⟩
  obtain ⟨h1, ⟨h2, v_, h3, h4⟩, _⟩ := hq
  exact ⟨h1, h2.trans ht, v_, h3, h4, fun e_ => absurd e_ h0⟩
def zzb01 (x_ : Int32) : Int32 := if x_ = 0 then 0 else 1
theorem zzh190 {I_ : zIn} {L_ : zLi} {x_ y_ z_ w_ : Int32} (h_ : zzOk I_ L_ 6 32 2 122 [zwR 6 0, zwI x_, zwI y_, zwI z_, zwI w_] [zwR 7 0, zwI x_, zwI y_, zwI z_, zwI w_] zcdA) : zYm 7 190 [zwR 6 0, zwI x_, zwI y_, zwI z_, zwI w_, zwR 32 0] I_ L_ 200 (zzHp 32 2 122 [zwR 7 0, zwI x_, zwI y_, zwI z_, zwI w_] id) := by
  refine zYm.of (Nat.le_of_ble_eq_true rfl) rfl ?_
  refine zY.go 7 rfl ?_
  refine zY.cg (as_ := [zwR 6 0, zwI x_, zwI y_, zwI z_, zwI w_]) (rest_ := [zwI 0, zwR 32 0]) rfl rfl rfl rfl (by decide) rfl (by decide) rfl h_ (by decide) (Nat.le_refl 200) (fun v_ I1 L1 hq => ?_) (fun E_ I1 L1 hq => ?_)
  · obtain ⟨hv, hm_⟩ := hq
    obtain ⟨u_, rfl⟩ : ∃ u_, v_ = some (zwI u_) := by
      rcases hv with hv | hv | hv
      · exact absurd hv.1 (by decide)
      · exact hv.2
      · exact absurd hv.1 (by decide)
    refine zY.go 1 rfl ?_
    refine zY.sl rfl rfl ?_
    refine zY.go 2 rfl ?_
    exact zY.ri rfl rfl (zzHp_ok (g_ := id) hm_ (Or.inr (Or.inl ⟨by decide, _, rfl⟩)))
  · obtain ⟨he, hm_⟩ := hq
    have he2 : zzEs 32 E_ = true := he
    have hE : E_ = 9 ∨ E_ = 10 := by
      simp only [zzEs, zzEt, List.lookup] at he2
      simpa using he2
    rcases hE with rfl | rfl
    · refine ⟨by decide, Or.inr ⟨19, 6, rfl, Nat.le_of_ble_eq_true rfl, rfl, ?_⟩⟩
      refine zY.go 1 rfl ?_
      exact zY.ri rfl rfl (zzHp_ex rfl (by decide) hm_)
    · refine ⟨by decide, Or.inr ⟨23, 6, rfl, Nat.le_of_ble_eq_true rfl, rfl, ?_⟩⟩
      refine zY.go 1 rfl ?_
      exact zY.ri rfl rfl (zzHp_ex rfl (by decide) hm_)
theorem zzh191 {I_ : zIn} {L_ : zLi} {x_ y_ : Int32} (h_ : zzOk I_ L_ 4 36 3 125 [zwR 6 0, zwI x_, zwI y_] [zwR 7 0, zwI x_, zwI y_] zcdD) : zYm 5 191 [zwR 6 0, zwI x_, zwI y_, zwR 32 0] I_ L_ 200 (zzHp 36 3 125 [zwR 7 0, zwI x_, zwI y_] id) := by
  refine zYm.of (Nat.le_of_ble_eq_true rfl) rfl ?_
  refine zY.go 5 rfl ?_
  refine zY.cg (as_ := [zwR 6 0, zwI x_, zwI y_]) (rest_ := [zwI 0, zwR 32 0]) rfl rfl rfl rfl (by decide) rfl (by decide) rfl h_ (by decide) (Nat.le_refl 200) (fun v_ I1 L1 hq => ?_) (fun E_ I1 L1 hq => ?_)
  · obtain ⟨hv, hm_⟩ := hq
    obtain ⟨u_, rfl⟩ : ∃ u_, v_ = some (zwI u_) := by
      rcases hv with hv | hv | hv
      · exact absurd hv.1 (by decide)
      · exact hv.2
      · exact absurd hv.1 (by decide)
    refine zY.go 1 rfl ?_
    refine zY.sl rfl rfl ?_
    refine zY.go 2 rfl ?_
    exact zY.ri rfl rfl (zzHp_ok (g_ := id) hm_ (Or.inr (Or.inl ⟨by decide, _, rfl⟩)))
  · obtain ⟨he, hm_⟩ := hq
    have he2 : zzEs 36 E_ = true := he
    have hE : E_ = 9 := by
      simp only [zzEs, zzEt, List.lookup] at he2
      simpa using he2
    subst hE
    refine ⟨by decide, Or.inr ⟨15, 4, rfl, Nat.le_of_ble_eq_true rfl, rfl, ?_⟩⟩
    refine zY.go 1 rfl ?_
    exact zY.ri rfl rfl (zzHp_ex rfl (by decide) hm_)
theorem zzh192 {I_ : zIn} {L_ : zLi} {x_ y_ z_ w_ : Int32} (h_ : zzOk I_ L_ 6 39 3 127 [zwR 6 0, zwI x_, zwI y_, zwI z_, zwI w_] [zwR 7 0, zwI x_, zwI y_, zwI z_, zwI w_] zcdA) : zYm 7 192 [zwR 6 0, zwI x_, zwI y_, zwI z_, zwI w_, zwR 32 0] I_ L_ 200 (zzHp 39 3 127 [zwR 7 0, zwI x_, zwI y_, zwI z_, zwI w_] id) := by
  refine zYm.of (Nat.le_of_ble_eq_true rfl) rfl ?_
  refine zY.go 7 rfl ?_
  refine zY.cg (as_ := [zwR 6 0, zwI x_, zwI y_, zwI z_, zwI w_]) (rest_ := [zwI 0, zwR 32 0]) rfl rfl rfl rfl (by decide) rfl (by decide) rfl h_ (by decide) (Nat.le_refl 200) (fun v_ I1 L1 hq => ?_) (fun E_ I1 L1 hq => ?_)
  · obtain ⟨hv, hm_⟩ := hq
    obtain ⟨u_, rfl⟩ : ∃ u_, v_ = some (zwI u_) := by
      rcases hv with hv | hv | hv
      · exact absurd hv.1 (by decide)
      · exact hv.2
      · exact absurd hv.1 (by decide)
    refine zY.go 1 rfl ?_
    refine zY.sl rfl rfl ?_
    refine zY.go 2 rfl ?_
    exact zY.ri rfl rfl (zzHp_ok (g_ := id) hm_ (Or.inr (Or.inl ⟨by decide, _, rfl⟩)))
  · obtain ⟨he, hm_⟩ := hq
    have he2 : zzEs 39 E_ = true := he
    have hE : E_ = 9 ∨ E_ = 10 := by
      simp only [zzEs, zzEt, List.lookup] at he2
      simpa using he2
    rcases hE with rfl | rfl
    · refine ⟨by decide, Or.inr ⟨19, 6, rfl, Nat.le_of_ble_eq_true rfl, rfl, ?_⟩⟩
      refine zY.go 1 rfl ?_
      exact zY.ri rfl rfl (zzHp_ex rfl (by decide) hm_)
    · refine ⟨by decide, Or.inr ⟨23, 6, rfl, Nat.le_of_ble_eq_true rfl, rfl, ?_⟩⟩
      refine zY.go 1 rfl ?_
      exact zY.ri rfl rfl (zzHp_ex rfl (by decide) hm_)
theorem zzh193 {I_ : zIn} {L_ : zLi} {x_ y_ : Int32} (h_ : zzOk I_ L_ 4 40 3 128 [zwR 6 0, zwI x_, zwI y_] [zwR 7 0, zwI x_, zwI y_] zcdD) : zYm 5 193 [zwR 6 0, zwI x_, zwI y_, zwR 32 0] I_ L_ 200 (zzHp 40 3 128 [zwR 7 0, zwI x_, zwI y_] zzb01) := by
  refine zYm.of (Nat.le_of_ble_eq_true rfl) rfl ?_
  refine zY.go 5 rfl ?_
  refine zY.cg (as_ := [zwR 6 0, zwI x_, zwI y_]) (rest_ := [zwI 0, zwR 32 0]) rfl rfl rfl rfl (by decide) rfl (by decide) rfl h_ (by decide) (Nat.le_refl 200) (fun v_ I1 L1 hq => ?_) (fun E_ I1 L1 hq => ?_)
  · obtain ⟨hv, hm_⟩ := hq
    obtain ⟨u_, rfl⟩ : ∃ u_, v_ = some (zwI u_) := by
      rcases hv with hv | hv | hv
      · exact absurd hv.1 (by decide)
      · exact hv.2
      · exact absurd hv.1 (by decide)
    have hok := zzHp_ok (g_ := zzb01) hm_ (Or.inr (Or.inl ⟨by decide, _, rfl⟩))
    refine zY.bi rfl (fun hp => ?_) (fun hp => ?_)
    · have e_ : zzb01 u_ = 0 := if_pos hp
      rw [e_] at hok
      refine zY.go 1 rfl ?_
      refine zY.sl (x_ := 0) rfl rfl ?_
      refine zY.go 2 rfl ?_
      exact zY.ri rfl rfl hok
    · have e_ : zzb01 u_ = 1 := if_neg hp
      rw [e_] at hok
      refine zY.go 2 rfl ?_
      refine zY.sl (x_ := 1) rfl rfl ?_
      refine zY.go 2 rfl ?_
      exact zY.ri rfl rfl hok
  · obtain ⟨he, hm_⟩ := hq
    have he2 : zzEs 40 E_ = true := he
    have hE : E_ = 11 := by
      simp only [zzEs, zzEt, List.lookup] at he2
      simpa using he2
    subst hE
    refine ⟨by decide, Or.inr ⟨22, 4, rfl, Nat.le_of_ble_eq_true rfl, rfl, ?_⟩⟩
    refine zY.go 1 rfl ?_
    exact zY.ri rfl rfl (zzHp_ex rfl (by decide) hm_)
theorem zzh194 {I_ : zIn} {L_ : zLi} {x_ y_ z_ w_ : Int32} (h_ : zzOk I_ L_ 13 42 11 130 [zwR 6 0, zwI x_, zwI y_, zwI z_, zwI w_] [zwR 7 0, zwI x_, zwI y_, zwI z_, zwI w_] zcdC) : zYm 14 194 [zwR 6 0, zwI x_, zwI y_, zwI z_, zwI w_, zwR 32 0] I_ L_ 200 (zzHp 42 11 130 [zwR 7 0, zwI x_, zwI y_, zwI z_, zwI w_] id) := by
  refine zYm.of (Nat.le_of_ble_eq_true rfl) rfl ?_
  refine zY.go 7 rfl ?_
  refine zY.cg (as_ := [zwR 6 0, zwI x_, zwI y_, zwI z_, zwI w_]) (rest_ := [zwI 0, zwR 32 0]) rfl rfl rfl rfl (by decide) rfl (by decide) rfl h_ (by decide) (Nat.le_refl 200) (fun v_ I1 L1 hq => ?_) (fun E_ I1 L1 hq => ?_)
  · obtain ⟨hv, hm_⟩ := hq
    obtain ⟨u_, rfl⟩ : ∃ u_, v_ = some (zwI u_) := by
      rcases hv with hv | hv | hv
      · exact absurd hv.1 (by decide)
      · exact hv.2
      · exact absurd hv.1 (by decide)
    refine zY.go 1 rfl ?_
    refine zY.sl rfl rfl ?_
    refine zY.go 2 rfl ?_
    exact zY.ri rfl rfl (zzHp_ok (g_ := id) hm_ (Or.inr (Or.inl ⟨by decide, _, rfl⟩)))
  · obtain ⟨he, hm_⟩ := hq
    have he2 : zzEs 42 E_ = true := he
    have hE : E_ = 11 ∨ E_ = 9 ∨ E_ = 10 := by
      simp only [zzEs, zzEt, List.lookup] at he2
      simpa using he2
    rcases hE with rfl | rfl | rfl
    · refine ⟨by decide, Or.inr ⟨19, 6, rfl, Nat.le_of_ble_eq_true rfl, rfl, ?_⟩⟩
      refine zY.go 1 rfl ?_
      exact zY.ri rfl rfl (zzHp_ex rfl (by decide) hm_)
    · refine ⟨by decide, Or.inr ⟨23, 6, rfl, Nat.le_of_ble_eq_true rfl, rfl, ?_⟩⟩
      refine zY.go 1 rfl ?_
      exact zY.ri rfl rfl (zzHp_ex rfl (by decide) hm_)
    · refine ⟨by decide, Or.inr ⟨27, 6, rfl, Nat.le_of_ble_eq_true rfl, rfl, ?_⟩⟩
      refine zY.go 1 rfl ?_
      exact zY.ri rfl rfl (zzHp_ex rfl (by decide) hm_)
theorem zzh195 {I_ : zIn} {L_ : zLi} {x_ : Int32} (h_ : zzOk I_ L_ 5 49 3 158 [zwR 6 0, zwI x_] [zwR 7 0, zwI x_] zcdB) : zYm 6 195 [zwR 6 0, zwI x_, zwR 32 0] I_ L_ 200 (zzHp 49 3 158 [zwR 7 0, zwI x_] zzb01) := by
  refine zYm.of (Nat.le_of_ble_eq_true rfl) rfl ?_
  refine zY.go 4 rfl ?_
  refine zY.cg (as_ := [zwR 6 0, zwI x_]) (rest_ := [zwI 0, zwR 32 0]) rfl rfl rfl rfl (by decide) rfl (by decide) rfl h_ (by decide) (Nat.le_refl 200) (fun v_ I1 L1 hq => ?_) (fun E_ I1 L1 hq => ?_)
  · obtain ⟨hv, hm_⟩ := hq
    obtain ⟨u_, rfl⟩ : ∃ u_, v_ = some (zwI u_) := by
      rcases hv with hv | hv | hv
      · exact absurd hv.1 (by decide)
      · exact hv.2
      · exact absurd hv.1 (by decide)
    have hok := zzHp_ok (g_ := zzb01) hm_ (Or.inr (Or.inl ⟨by decide, _, rfl⟩))
    refine zY.bi rfl (fun hp => ?_) (fun hp => ?_)
    · have e_ : zzb01 u_ = 0 := if_pos hp
      rw [e_] at hok
      refine zY.go 1 rfl ?_
      refine zY.sl (x_ := 0) rfl rfl ?_
      refine zY.go 2 rfl ?_
      exact zY.ri rfl rfl hok
    · have e_ : zzb01 u_ = 1 := if_neg hp
      rw [e_] at hok
      refine zY.go 2 rfl ?_
      refine zY.sl (x_ := 1) rfl rfl ?_
      refine zY.go 2 rfl ?_
      exact zY.ri rfl rfl hok
  · obtain ⟨he, hm_⟩ := hq
    have he2 : zzEs 49 E_ = true := he
    have hE : E_ = 11 ∨ E_ = 10 := by
      simp only [zzEs, zzEt, List.lookup] at he2
      simpa using he2
    rcases hE with rfl | rfl
    · refine ⟨by decide, Or.inr ⟨20, 3, rfl, Nat.le_of_ble_eq_true rfl, rfl, ?_⟩⟩
      refine zY.go 1 rfl ?_
      exact zY.ri rfl rfl (zzHp_ex rfl (by decide) hm_)
    · refine ⟨by decide, Or.inr ⟨23, 3, rfl, Nat.le_of_ble_eq_true rfl, rfl, ?_⟩⟩
      refine zY.go 1 rfl ?_
      exact zY.ri rfl rfl (zzHp_ex rfl (by decide) hm_)
theorem zzh196 {I_ : zIn} {L_ : zLi} {x_ : Int32} (h_ : zzOk I_ L_ 4 52 3 163 [zwR 6 0, zwI x_] [zwR 7 0, zwI x_] zcdB) : zYm 5 196 [zwR 6 0, zwI x_] I_ L_ 200 (zzHp 52 3 163 [zwR 7 0, zwI x_] id) := by
  refine zYm.of (Nat.le_of_ble_eq_true rfl) rfl ?_
  refine zY.go 2 rfl ?_
  refine zY.cg (as_ := [zwR 6 0, zwI x_]) (rest_ := []) rfl rfl rfl rfl (by decide) rfl (by decide) rfl h_ (by decide) (Nat.le_refl 200) (fun v_ I1 L1 hq => ?_) (fun E_ I1 L1 hq => ?_)
  · obtain ⟨hv, hm_⟩ := hq
    have hv2 : v_ = none := by
      rcases hv with hv | hv | hv
      · exact hv.2
      · exact absurd rfl hv.1.1
      · exact absurd hv.1 (by decide)
    subst hv2
    refine zY.go 2 rfl ?_
    exact zY.ri rfl rfl (zzHp_no hm_ (Or.inl ⟨rfl, rfl⟩))
  · obtain ⟨he, hm_⟩ := hq
    have he2 : zzEs 52 E_ = true := he
    have hE : E_ = 11 ∨ E_ = 10 := by
      simp only [zzEs, zzEt, List.lookup] at he2
      simpa using he2
    rcases hE with rfl | rfl
    · refine ⟨by decide, Or.inr ⟨9, 2, rfl, Nat.le_of_ble_eq_true rfl, rfl, ?_⟩⟩
      refine zY.go 1 rfl ?_
      exact zY.ri rfl rfl (zzHp_ex rfl (by decide) hm_)
    · refine ⟨by decide, Or.inr ⟨12, 2, rfl, Nat.le_of_ble_eq_true rfl, rfl, ?_⟩⟩
      refine zY.go 1 rfl ?_
      exact zY.ri rfl rfl (zzHp_ex rfl (by decide) hm_)
theorem zzh197 {I_ : zIn} {L_ : zLi} {x_ : Int32} (h_ : zzOk I_ L_ 9 53 6 164 [zwR 6 0, zwI x_] [zwR 7 0, zwI x_] zcdA) : zYm 10 197 [zwR 6 0, zwI x_, zwR 32 0] I_ L_ 200 (zzHp 53 6 164 [zwR 7 0, zwI x_] id) := by
  refine zYm.of (Nat.le_of_ble_eq_true rfl) rfl ?_
  refine zY.go 4 rfl ?_
  refine zY.cg (as_ := [zwR 6 0, zwI x_]) (rest_ := [zwI 0, zwR 32 0]) rfl rfl rfl rfl (by decide) rfl (by decide) rfl h_ (by decide) (Nat.le_refl 200) (fun v_ I1 L1 hq => ?_) (fun E_ I1 L1 hq => ?_)
  · obtain ⟨hv, hm_⟩ := hq
    obtain ⟨u_, rfl⟩ : ∃ u_, v_ = some (zwI u_) := by
      rcases hv with hv | hv | hv
      · exact absurd hv.1 (by decide)
      · exact hv.2
      · exact absurd hv.1 (by decide)
    refine zY.go 1 rfl ?_
    refine zY.sl rfl rfl ?_
    refine zY.go 2 rfl ?_
    exact zY.ri rfl rfl (zzHp_ok (g_ := id) hm_ (Or.inr (Or.inl ⟨by decide, _, rfl⟩)))
  · obtain ⟨he, hm_⟩ := hq
    have he2 : zzEs 53 E_ = true := he
    have hE : E_ = 9 ∨ E_ = 10 := by
      simp only [zzEs, zzEt, List.lookup] at he2
      simpa using he2
    rcases hE with rfl | rfl
    · refine ⟨by decide, Or.inr ⟨13, 3, rfl, Nat.le_of_ble_eq_true rfl, rfl, ?_⟩⟩
      refine zY.go 1 rfl ?_
      exact zY.ri rfl rfl (zzHp_ex rfl (by decide) hm_)
    · refine ⟨by decide, Or.inr ⟨16, 3, rfl, Nat.le_of_ble_eq_true rfl, rfl, ?_⟩⟩
      refine zY.go 1 rfl ?_
      exact zY.ri rfl rfl (zzHp_ex rfl (by decide) hm_)
theorem zzh198 {I_ : zIn} {L_ : zLi} (h_ : zzOk I_ L_ 9 55 6 170 [zwR 6 0] [zwR 7 0] zcdD) : zYm 10 198 [zwR 6 0, zwR 32 0] I_ L_ 200 (zzHp 55 6 170 [zwR 7 0] id) := by
  refine zYm.of (Nat.le_of_ble_eq_true rfl) rfl ?_
  refine zY.go 3 rfl ?_
  refine zY.cg (as_ := [zwR 6 0]) (rest_ := [zwI 0, zwR 32 0]) rfl rfl rfl rfl (by decide) rfl (by decide) rfl h_ (by decide) (Nat.le_refl 200) (fun v_ I1 L1 hq => ?_) (fun E_ I1 L1 hq => ?_)
  · obtain ⟨hv, hm_⟩ := hq
    obtain ⟨u_, rfl⟩ : ∃ u_, v_ = some (zwI u_) := by
      rcases hv with hv | hv | hv
      · exact absurd hv.1 (by decide)
      · exact hv.2
      · exact absurd hv.1 (by decide)
    refine zY.go 1 rfl ?_
    refine zY.sl rfl rfl ?_
    refine zY.go 2 rfl ?_
    exact zY.ri rfl rfl (zzHp_ok (g_ := id) hm_ (Or.inr (Or.inl ⟨by decide, _, rfl⟩)))
  · obtain ⟨he, hm_⟩ := hq
    have he2 : zzEs 55 E_ = true := he
    have hE : E_ = 10 := by
      simp only [zzEs, zzEt, List.lookup] at he2
      simpa using he2
    subst hE
    refine ⟨by decide, Or.inr ⟨12, 2, rfl, Nat.le_of_ble_eq_true rfl, rfl, ?_⟩⟩
    refine zY.go 1 rfl ?_
    exact zY.ri rfl rfl (zzHp_ex rfl (by decide) hm_)
theorem zzh199 {I_ : zIn} {L_ : zLi} {x_ y_ : Int32} (h_ : zzOk I_ L_ 4 57 3 171 [zwR 6 0, zwI x_, zwI y_] [zwR 7 0, zwI x_, zwI y_] zcdB) : zYm 5 199 [zwR 6 0, zwI x_, zwI y_, zwR 32 0] I_ L_ 200 (zzHp 57 3 171 [zwR 7 0, zwI x_, zwI y_] id) := by
  refine zYm.of (Nat.le_of_ble_eq_true rfl) rfl ?_
  refine zY.go 5 rfl ?_
  refine zY.cg (as_ := [zwR 6 0, zwI x_, zwI y_]) (rest_ := [zwI 0, zwR 32 0]) rfl rfl rfl rfl (by decide) rfl (by decide) rfl h_ (by decide) (Nat.le_refl 200) (fun v_ I1 L1 hq => ?_) (fun E_ I1 L1 hq => ?_)
  · obtain ⟨hv, hm_⟩ := hq
    obtain ⟨u_, rfl⟩ : ∃ u_, v_ = some (zwI u_) := by
      rcases hv with hv | hv | hv
      · exact absurd hv.1 (by decide)
      · exact hv.2
      · exact absurd hv.1 (by decide)
    refine zY.go 1 rfl ?_
    refine zY.sl rfl rfl ?_
    refine zY.go 2 rfl ?_
    exact zY.ri rfl rfl (zzHp_ok (g_ := id) hm_ (Or.inr (Or.inl ⟨by decide, _, rfl⟩)))
  · obtain ⟨he, hm_⟩ := hq
    have he2 : zzEs 57 E_ = true := he
    have hE : E_ = 11 ∨ E_ = 9 := by
      simp only [zzEs, zzEt, List.lookup] at he2
      simpa using he2
    rcases hE with rfl | rfl
    · refine ⟨by decide, Or.inr ⟨15, 4, rfl, Nat.le_of_ble_eq_true rfl, rfl, ?_⟩⟩
      refine zY.go 1 rfl ?_
      exact zY.ri rfl rfl (zzHp_ex rfl (by decide) hm_)
    · refine ⟨by decide, Or.inr ⟨19, 4, rfl, Nat.le_of_ble_eq_true rfl, rfl, ?_⟩⟩
      refine zY.go 1 rfl ?_
      exact zY.ri rfl rfl (zzHp_ex rfl (by decide) hm_)
theorem zzh200 {I_ : zIn} {L_ : zLi} {x_ : Int32} (h_ : zzOk I_ L_ 13 58 10 172 [zwR 6 0, zwI x_] [zwR 7 0, zwI x_] zcdD) : zYm 14 200 [zwR 6 0, zwI x_, zwR 32 0] I_ L_ 200 (zzHp 58 10 172 [zwR 7 0, zwI x_] id) := by
  refine zYm.of (Nat.le_of_ble_eq_true rfl) rfl ?_
  refine zY.go 4 rfl ?_
  refine zY.cg (as_ := [zwR 6 0, zwI x_]) (rest_ := [zwI 0, zwR 32 0]) rfl rfl rfl rfl (by decide) rfl (by decide) rfl h_ (by decide) (Nat.le_refl 200) (fun v_ I1 L1 hq => ?_) (fun E_ I1 L1 hq => ?_)
  · obtain ⟨hv, hm_⟩ := hq
    obtain ⟨u_, rfl⟩ : ∃ u_, v_ = some (zwI u_) := by
      rcases hv with hv | hv | hv
      · exact absurd hv.1 (by decide)
      · exact hv.2
      · exact absurd hv.1 (by decide)
    refine zY.go 1 rfl ?_
    refine zY.sl rfl rfl ?_
    refine zY.go 2 rfl ?_
    exact zY.ri rfl rfl (zzHp_ok (g_ := id) hm_ (Or.inr (Or.inl ⟨by decide, _, rfl⟩)))
  · obtain ⟨he, hm_⟩ := hq
    have he2 : zzEs 58 E_ = true := he
    have hE : E_ = 11 := by
      simp only [zzEs, zzEt, List.lookup] at he2
      simpa using he2
    subst hE
    refine ⟨by decide, Or.inr ⟨13, 3, rfl, Nat.le_of_ble_eq_true rfl, rfl, ?_⟩⟩
    refine zY.go 1 rfl ?_
    exact zY.ri rfl rfl (zzHp_ex rfl (by decide) hm_)
theorem zzh201 {I_ : zIn} {L_ : zLi} {x_ y_ z_ : Int32} (h_ : zzOk I_ L_ 4 60 5 176 [zwR 6 0, zwI x_, zwI y_, zwI z_] [zwR 7 0, zwI x_, zwI y_, zwI z_] zcdB) : zYm 5 201 [zwR 6 0, zwI x_, zwI y_, zwI z_, zwR 32 0] I_ L_ 200 (zzHp 60 5 176 [zwR 7 0, zwI x_, zwI y_, zwI z_] zzb01) := by
  refine zYm.of (Nat.le_of_ble_eq_true rfl) rfl ?_
  refine zY.go 6 rfl ?_
  refine zY.cg (as_ := [zwR 6 0, zwI x_, zwI y_, zwI z_]) (rest_ := [zwI 0, zwR 32 0]) rfl rfl rfl rfl (by decide) rfl (by decide) rfl h_ (by decide) (Nat.le_refl 200) (fun v_ I1 L1 hq => ?_) (fun E_ I1 L1 hq => ?_)
  · obtain ⟨hv, hm_⟩ := hq
    obtain ⟨u_, rfl⟩ : ∃ u_, v_ = some (zwI u_) := by
      rcases hv with hv | hv | hv
      · exact absurd hv.1 (by decide)
      · exact hv.2
      · exact absurd hv.1 (by decide)
    have hok := zzHp_ok (g_ := zzb01) hm_ (Or.inr (Or.inl ⟨by decide, _, rfl⟩))
    refine zY.bi rfl (fun hp => ?_) (fun hp => ?_)
    · have e_ : zzb01 u_ = 0 := if_pos hp
      rw [e_] at hok
      refine zY.go 1 rfl ?_
      refine zY.sl (x_ := 0) rfl rfl ?_
      refine zY.go 2 rfl ?_
      exact zY.ri rfl rfl hok
    · have e_ : zzb01 u_ = 1 := if_neg hp
      rw [e_] at hok
      refine zY.go 2 rfl ?_
      refine zY.sl (x_ := 1) rfl rfl ?_
      refine zY.go 2 rfl ?_
      exact zY.ri rfl rfl hok
  · obtain ⟨he, hm_⟩ := hq
    have he2 : zzEs 60 E_ = true := he
    have hE : E_ = 11 ∨ E_ = 9 := by
      simp only [zzEs, zzEt, List.lookup] at he2
      simpa using he2
    rcases hE with rfl | rfl
    · refine ⟨by decide, Or.inr ⟨24, 5, rfl, Nat.le_of_ble_eq_true rfl, rfl, ?_⟩⟩
      refine zY.go 1 rfl ?_
      exact zY.ri rfl rfl (zzHp_ex rfl (by decide) hm_)
    · refine ⟨by decide, Or.inr ⟨28, 5, rfl, Nat.le_of_ble_eq_true rfl, rfl, ?_⟩⟩
      refine zY.go 1 rfl ?_
      exact zY.ri rfl rfl (zzHp_ex rfl (by decide) hm_)
theorem zzh202 {I_ : zIn} {L_ : zLi} {x_ y_ : Int32} (h_ : zzOk I_ L_ 5 61 3 177 [zwR 6 0, zwI x_, zwI y_] [zwR 7 0, zwI x_, zwI y_] zcdB) : zYm 6 202 [zwR 6 0, zwI x_, zwI y_, zwR 32 0] I_ L_ 200 (zzHp 61 3 177 [zwR 7 0, zwI x_, zwI y_] id) := by
  refine zYm.of (Nat.le_of_ble_eq_true rfl) rfl ?_
  refine zY.go 5 rfl ?_
  refine zY.cg (as_ := [zwR 6 0, zwI x_, zwI y_]) (rest_ := [zwI 0, zwR 32 0]) rfl rfl rfl rfl (by decide) rfl (by decide) rfl h_ (by decide) (Nat.le_refl 200) (fun v_ I1 L1 hq => ?_) (fun E_ I1 L1 hq => ?_)
  · obtain ⟨hv, hm_⟩ := hq
    obtain ⟨u_, rfl⟩ : ∃ u_, v_ = some (zwI u_) := by
      rcases hv with hv | hv | hv
      · exact absurd hv.1 (by decide)
      · exact hv.2
      · exact absurd hv.1 (by decide)
    refine zY.go 1 rfl ?_
    refine zY.sl rfl rfl ?_
    refine zY.go 2 rfl ?_
    exact zY.ri rfl rfl (zzHp_ok (g_ := id) hm_ (Or.inr (Or.inl ⟨by decide, _, rfl⟩)))
  · obtain ⟨he, hm_⟩ := hq
    have he2 : zzEs 61 E_ = true := he
    have hE : E_ = 11 ∨ E_ = 9 := by
      simp only [zzEs, zzEt, List.lookup] at he2
      simpa using he2
    rcases hE with rfl | rfl
    · refine ⟨by decide, Or.inr ⟨15, 4, rfl, Nat.le_of_ble_eq_true rfl, rfl, ?_⟩⟩
      refine zY.go 1 rfl ?_
      exact zY.ri rfl rfl (zzHp_ex rfl (by decide) hm_)
    · refine ⟨by decide, Or.inr ⟨19, 4, rfl, Nat.le_of_ble_eq_true rfl, rfl, ?_⟩⟩
      refine zY.go 1 rfl ?_
      exact zY.ri rfl rfl (zzHp_ex rfl (by decide) hm_)
theorem zzh203 {I_ : zIn} {L_ : zLi} {x_ y_ : Int32} (h_ : zzOk I_ L_ 4 62 6 178 [zwR 6 0, zwI x_, zwI y_] [zwR 7 0, zwI x_, zwI y_] zcdB) : zYm 5 203 [zwR 6 0, zwI x_, zwI y_, zwR 32 0] I_ L_ 200 (zzHp 62 6 178 [zwR 7 0, zwI x_, zwI y_] id) := by
  refine zYm.of (Nat.le_of_ble_eq_true rfl) rfl ?_
  refine zY.go 5 rfl ?_
  refine zY.cg (as_ := [zwR 6 0, zwI x_, zwI y_]) (rest_ := [zwI 0, zwR 32 0]) rfl rfl rfl rfl (by decide) rfl (by decide) rfl h_ (by decide) (Nat.le_refl 200) (fun v_ I1 L1 hq => ?_) (fun E_ I1 L1 hq => ?_)
  · obtain ⟨hv, hm_⟩ := hq
    obtain ⟨u_, rfl⟩ : ∃ u_, v_ = some (zwI u_) := by
      rcases hv with hv | hv | hv
      · exact absurd hv.1 (by decide)
      · exact hv.2
      · exact absurd hv.1 (by decide)
    refine zY.go 1 rfl ?_
    refine zY.sl rfl rfl ?_
    refine zY.go 2 rfl ?_
    exact zY.ri rfl rfl (zzHp_ok (g_ := id) hm_ (Or.inr (Or.inl ⟨by decide, _, rfl⟩)))
  · obtain ⟨he, hm_⟩ := hq
    have he2 : zzEs 62 E_ = true := he
    have hE : E_ = 11 ∨ E_ = 9 := by
      simp only [zzEs, zzEt, List.lookup] at he2
      simpa using he2
    rcases hE with rfl | rfl
    · refine ⟨by decide, Or.inr ⟨15, 4, rfl, Nat.le_of_ble_eq_true rfl, rfl, ?_⟩⟩
      refine zY.go 1 rfl ?_
      exact zY.ri rfl rfl (zzHp_ex rfl (by decide) hm_)
    · refine ⟨by decide, Or.inr ⟨19, 4, rfl, Nat.le_of_ble_eq_true rfl, rfl, ?_⟩⟩
      refine zY.go 1 rfl ?_
      exact zY.ri rfl rfl (zzHp_ex rfl (by decide) hm_)
theorem zzh204 {I_ : zIn} {L_ : zLi} {x_ y_ : Int32} (h_ : zzOk I_ L_ 11 63 7 181 [zwR 6 0, zwI x_, zwI y_] [zwR 7 0, zwI x_, zwI y_] zcdB) : zYm 12 204 [zwR 6 0, zwI x_, zwI y_, zwR 32 0] I_ L_ 200 (zzHp 63 7 181 [zwR 7 0, zwI x_, zwI y_] id) := by
  refine zYm.of (Nat.le_of_ble_eq_true rfl) rfl ?_
  refine zY.go 5 rfl ?_
  refine zY.cg (as_ := [zwR 6 0, zwI x_, zwI y_]) (rest_ := [zwI 0, zwR 32 0]) rfl rfl rfl rfl (by decide) rfl (by decide) rfl h_ (by decide) (Nat.le_refl 200) (fun v_ I1 L1 hq => ?_) (fun E_ I1 L1 hq => ?_)
  · obtain ⟨hv, hm_⟩ := hq
    obtain ⟨u_, rfl⟩ : ∃ u_, v_ = some (zwI u_) := by
      rcases hv with hv | hv | hv
      · exact absurd hv.1 (by decide)
      · exact hv.2
      · exact absurd hv.1 (by decide)
    refine zY.go 1 rfl ?_
    refine zY.sl rfl rfl ?_
    refine zY.go 2 rfl ?_
    exact zY.ri rfl rfl (zzHp_ok (g_ := id) hm_ (Or.inr (Or.inl ⟨by decide, _, rfl⟩)))
  · obtain ⟨he, hm_⟩ := hq
    have he2 : zzEs 63 E_ = true := he
    have hE : E_ = 11 ∨ E_ = 9 := by
      simp only [zzEs, zzEt, List.lookup] at he2
      simpa using he2
    rcases hE with rfl | rfl
    · refine ⟨by decide, Or.inr ⟨15, 4, rfl, Nat.le_of_ble_eq_true rfl, rfl, ?_⟩⟩
      refine zY.go 1 rfl ?_
      exact zY.ri rfl rfl (zzHp_ex rfl (by decide) hm_)
    · refine ⟨by decide, Or.inr ⟨19, 4, rfl, Nat.le_of_ble_eq_true rfl, rfl, ?_⟩⟩
      refine zY.go 1 rfl ?_
      exact zY.ri rfl rfl (zzHp_ex rfl (by decide) hm_)
theorem zzh205 {I_ : zIn} {L_ : zLi} {x_ y_ z_ : Int32} (h_ : zzOk I_ L_ 10 64 6 182 [zwR 6 0, zwI x_, zwI y_, zwI z_] [zwR 7 0, zwI x_, zwI y_, zwI z_] zcdB) : zYm 11 205 [zwR 6 0, zwI x_, zwI y_, zwI z_, zwR 32 0] I_ L_ 200 (zzHp 64 6 182 [zwR 7 0, zwI x_, zwI y_, zwI z_] id) := by
  refine zYm.of (Nat.le_of_ble_eq_true rfl) rfl ?_
  refine zY.go 6 rfl ?_
  refine zY.cg (as_ := [zwR 6 0, zwI x_, zwI y_, zwI z_]) (rest_ := [zwI 0, zwR 32 0]) rfl rfl rfl rfl (by decide) rfl (by decide) rfl h_ (by decide) (Nat.le_refl 200) (fun v_ I1 L1 hq => ?_) (fun E_ I1 L1 hq => ?_)
  · obtain ⟨hv, hm_⟩ := hq
    obtain ⟨u_, rfl⟩ : ∃ u_, v_ = some (zwI u_) := by
      rcases hv with hv | hv | hv
      · exact absurd hv.1 (by decide)
      · exact hv.2
      · exact absurd hv.1 (by decide)
    refine zY.go 1 rfl ?_
    refine zY.sl rfl rfl ?_
    refine zY.go 2 rfl ?_
    exact zY.ri rfl rfl (zzHp_ok (g_ := id) hm_ (Or.inr (Or.inl ⟨by decide, _, rfl⟩)))
  · obtain ⟨he, hm_⟩ := hq
    have he2 : zzEs 64 E_ = true := he
    have hE : E_ = 11 ∨ E_ = 9 := by
      simp only [zzEs, zzEt, List.lookup] at he2
      simpa using he2
    rcases hE with rfl | rfl
    · refine ⟨by decide, Or.inr ⟨17, 5, rfl, Nat.le_of_ble_eq_true rfl, rfl, ?_⟩⟩
      refine zY.go 1 rfl ?_
      exact zY.ri rfl rfl (zzHp_ex rfl (by decide) hm_)
    · refine ⟨by decide, Or.inr ⟨21, 5, rfl, Nat.le_of_ble_eq_true rfl, rfl, ?_⟩⟩
      refine zY.go 1 rfl ?_
      exact zY.ri rfl rfl (zzHp_ex rfl (by decide) hm_)
theorem zzh206 {I_ : zIn} {L_ : zLi} {x_ : Int32} (h_ : zzOk I_ L_ 4 67 3 183 [zwR 6 0, zwI x_] [zwR 7 0, zwI x_] zcdD) : zYm 5 206 [zwR 6 0, zwI x_, zwR 32 0] I_ L_ 200 (zzHp 67 3 183 [zwR 7 0, zwI x_] id) := by
  refine zYm.of (Nat.le_of_ble_eq_true rfl) rfl ?_
  refine zY.go 4 rfl ?_
  refine zY.cg (as_ := [zwR 6 0, zwI x_]) (rest_ := [zwI 0, zwR 32 0]) rfl rfl rfl rfl (by decide) rfl (by decide) rfl h_ (by decide) (Nat.le_refl 200) (fun v_ I1 L1 hq => ?_) (fun E_ I1 L1 hq => ?_)
  · obtain ⟨hv, hm_⟩ := hq
    obtain ⟨u_, rfl⟩ : ∃ u_, v_ = some (zwI u_) := by
      rcases hv with hv | hv | hv
      · exact absurd hv.1 (by decide)
      · exact hv.2
      · exact absurd hv.1 (by decide)
    refine zY.go 1 rfl ?_
    refine zY.sl rfl rfl ?_
    refine zY.go 2 rfl ?_
    exact zY.ri rfl rfl (zzHp_ok (g_ := id) hm_ (Or.inr (Or.inl ⟨by decide, _, rfl⟩)))
  · obtain ⟨he, hm_⟩ := hq
    have he2 : zzEs 67 E_ = true := he
    have hE : E_ = 11 := by
      simp only [zzEs, zzEt, List.lookup] at he2
      simpa using he2
    subst hE
    refine ⟨by decide, Or.inr ⟨13, 3, rfl, Nat.le_of_ble_eq_true rfl, rfl, ?_⟩⟩
    refine zY.go 1 rfl ?_
    exact zY.ri rfl rfl (zzHp_ex rfl (by decide) hm_)
theorem zzh207 {I_ : zIn} {L_ : zLi} {x_ : Int32} (h_ : zzOk I_ L_ 4 68 5 184 [zwR 6 0, zwI x_] [zwR 7 0, zwI x_] zcdD) : zYm 5 207 [zwR 6 0, zwI x_, zwR 32 0] I_ L_ 200 (zzHp 68 5 184 [zwR 7 0, zwI x_] id) := by
  refine zYm.of (Nat.le_of_ble_eq_true rfl) rfl ?_
  refine zY.go 4 rfl ?_
  refine zY.cg (as_ := [zwR 6 0, zwI x_]) (rest_ := [zwI 0, zwR 32 0]) rfl rfl rfl rfl (by decide) rfl (by decide) rfl h_ (by decide) (Nat.le_refl 200) (fun v_ I1 L1 hq => ?_) (fun E_ I1 L1 hq => ?_)
  · obtain ⟨hv, hm_⟩ := hq
    obtain ⟨u_, rfl⟩ : ∃ u_, v_ = some (zwI u_) := by
      rcases hv with hv | hv | hv
      · exact absurd hv.1 (by decide)
      · exact hv.2
      · exact absurd hv.1 (by decide)
    refine zY.go 1 rfl ?_
    refine zY.sl rfl rfl ?_
    refine zY.go 2 rfl ?_
    exact zY.ri rfl rfl (zzHp_ok (g_ := id) hm_ (Or.inr (Or.inl ⟨by decide, _, rfl⟩)))
  · obtain ⟨he, hm_⟩ := hq
    have he2 : zzEs 68 E_ = true := he
    have hE : E_ = 11 := by
      simp only [zzEs, zzEt, List.lookup] at he2
      simpa using he2
    subst hE
    refine ⟨by decide, Or.inr ⟨13, 3, rfl, Nat.le_of_ble_eq_true rfl, rfl, ?_⟩⟩
    refine zY.go 1 rfl ?_
    exact zY.ri rfl rfl (zzHp_ex rfl (by decide) hm_)
theorem zzh208 {I_ : zIn} {L_ : zLi} {x_ : Int32} (h_ : zzOk I_ L_ 17 69 7 185 [zwR 6 0, zwI x_] [zwR 7 0, zwI x_] zcdD) : zYm 18 208 [zwR 6 0, zwI x_, zwR 32 0] I_ L_ 200 (zzHp 69 7 185 [zwR 7 0, zwI x_] id) := by
  refine zYm.of (Nat.le_of_ble_eq_true rfl) rfl ?_
  refine zY.go 4 rfl ?_
  refine zY.cg (as_ := [zwR 6 0, zwI x_]) (rest_ := [zwI 0, zwR 32 0]) rfl rfl rfl rfl (by decide) rfl (by decide) rfl h_ (by decide) (Nat.le_refl 200) (fun v_ I1 L1 hq => ?_) (fun E_ I1 L1 hq => ?_)
  · obtain ⟨hv, hm_⟩ := hq
    obtain ⟨u_, rfl⟩ : ∃ u_, v_ = some (zwI u_) := by
      rcases hv with hv | hv | hv
      · exact absurd hv.1 (by decide)
      · exact hv.2
      · exact absurd hv.1 (by decide)
    refine zY.go 1 rfl ?_
    refine zY.sl rfl rfl ?_
    refine zY.go 2 rfl ?_
    exact zY.ri rfl rfl (zzHp_ok (g_ := id) hm_ (Or.inr (Or.inl ⟨by decide, _, rfl⟩)))
  · obtain ⟨he, hm_⟩ := hq
    have he2 : zzEs 69 E_ = true := he
    have hE : E_ = 11 := by
      simp only [zzEs, zzEt, List.lookup] at he2
      simpa using he2
    subst hE
    refine ⟨by decide, Or.inr ⟨13, 3, rfl, Nat.le_of_ble_eq_true rfl, rfl, ?_⟩⟩
    refine zY.go 1 rfl ?_
    exact zY.ri rfl rfl (zzHp_ex rfl (by decide) hm_)
theorem zzh209 {I_ : zIn} {L_ : zLi} {x_ : Int32} (h_ : zzOk I_ L_ 3 71 6 188 [zwR 6 0, zwI x_] [zwR 7 0, zwI x_] zcdD) : zYm 4 209 [zwR 6 0, zwI x_, zwR 32 0] I_ L_ 200 (zzHp 71 6 188 [zwR 7 0, zwI x_] id) := by
  refine zYm.of (Nat.le_of_ble_eq_true rfl) rfl ?_
  refine zY.go 4 rfl ?_
  refine zY.cg (as_ := [zwR 6 0, zwI x_]) (rest_ := [zwI 0, zwR 32 0]) rfl rfl rfl rfl (by decide) rfl (by decide) rfl h_ (by decide) (Nat.le_refl 200) (fun v_ I1 L1 hq => ?_) (fun E_ I1 L1 hq => ?_)
  · obtain ⟨hv, hm_⟩ := hq
    obtain ⟨u_, rfl⟩ : ∃ u_, v_ = some (zwI u_) := by
      rcases hv with hv | hv | hv
      · exact absurd hv.1 (by decide)
      · exact hv.2
      · exact absurd hv.1 (by decide)
    refine zY.go 1 rfl ?_
    refine zY.sl rfl rfl ?_
    refine zY.go 2 rfl ?_
    exact zY.ri rfl rfl (zzHp_ok (g_ := id) hm_ (Or.inr (Or.inl ⟨by decide, _, rfl⟩)))
  · obtain ⟨he, hm_⟩ := hq
    have he2 : zzEs 71 E_ = true := he
    have hE : E_ = 9 := by
      simp only [zzEs, zzEt, List.lookup] at he2
      simpa using he2
    subst hE
    refine ⟨by decide, Or.inr ⟨13, 3, rfl, Nat.le_of_ble_eq_true rfl, rfl, ?_⟩⟩
    refine zY.go 1 rfl ?_
    exact zY.ri rfl rfl (zzHp_ex rfl (by decide) hm_)
