/-! CONTRACTS OF THE MODEL: leaves -/
def zbt (x_ lo_ hi_ : Int32) : Bool := decide (lo_ ≤ x_) && decide (x_ ≤ hi_)
theorem zm123 {I_ : zIn} {L_ : zLi} {x_ lo_ hi_ : Int32} : zYm 1 123 [zwR 7 0, zwI x_, zwI lo_, zwI hi_] I_ L_ 0 (zRet (some (zwI (if zbt x_ lo_ hi_ = true then 1 else 0))) I_ L_) := by
  refine zYm.of (Nat.le_of_ble_eq_true rfl) rfl ?_
  refine zY.go 2 rfl ?_
  refine zY.bc rfl (fun hp2 => ?_) (fun hp2 => ?_)
  · refine zY.go 1 rfl ?_
    exact zY.rb rfl rfl (by first | exact Or.inl rfl | exact Or.inr rfl) ⟨by simp_all [zcp, zbt, Int32.not_lt] <;> (intro hcon; exact absurd hcon (Int32.not_le.mpr (by assumption))), rfl, rfl⟩
  · refine zY.go 2 rfl ?_
    refine zY.bc rfl (fun hp7 => ?_) (fun hp7 => ?_)
    · refine zY.go 1 rfl ?_
      exact zY.rb rfl rfl (by first | exact Or.inl rfl | exact Or.inr rfl) ⟨by simp_all [zcp, zbt, Int32.not_lt] <;> (intro hcon; exact absurd hcon (Int32.not_le.mpr (by assumption))), rfl, rfl⟩
    · refine zY.go 2 rfl ?_
      exact zY.rb rfl rfl (by first | exact Or.inl rfl | exact Or.inr rfl) ⟨by simp_all [zcp, zbt, Int32.not_lt] <;> (intro hcon; exact absurd hcon (Int32.not_le.mpr (by assumption))), rfl, rfl⟩
theorem zm126 {I_ : zIn} {L_ : zLi} {x_ : Int32} : zYm 2 126 [zwR 7 0, zwI x_] I_ L_ 0 (zRet (some (zwI (if zbt x_ 0 35 = true then 1 else 0))) I_ L_) := by
  refine zYm.of (Nat.le_of_ble_eq_true rfl) rfl ?_
  refine zY.go 4 rfl ?_
  refine zY.cr (zm123) rfl rfl rfl rfl (Nat.le_of_ble_eq_true rfl) rfl (by decide) rfl (by decide) (by decide) ?_
  exact zY.rb rfl rfl (by split <;> simp) ⟨rfl, rfl, rfl⟩
theorem zm131 {I_ : zIn} {L_ : zLi} {x_ : Int32} : zYm 2 131 [zwR 7 0, zwI x_] I_ L_ 0 (zRet (some (zwI (if zbt x_ 0 (I_ 7 0 6 - 1) = true then 1 else 0))) I_ L_) := by
  refine zYm.of (Nat.le_of_ble_eq_true rfl) rfl ?_
  refine zY.go 7 rfl ?_
  refine zY.cr (zm123) rfl rfl rfl rfl (Nat.le_of_ble_eq_true rfl) rfl (by decide) rfl (by decide) (by decide) ?_
  exact zY.rb rfl rfl (by split <;> simp) ⟨rfl, rfl, rfl⟩
theorem zm129 {I_ : zIn} {L_ : zLi} {x_ : Int32} : zYm 2 129 [zwR 7 0, zwI x_] I_ L_ 0 (zRet (some (zwI (if zbt x_ 0 (I_ 7 0 11 - 1) = true then 1 else 0))) I_ L_) := by
  refine zYm.of (Nat.le_of_ble_eq_true rfl) rfl ?_
  refine zY.go 7 rfl ?_
  refine zY.cr (zm123) rfl rfl rfl rfl (Nat.le_of_ble_eq_true rfl) rfl (by decide) rfl (by decide) (by decide) ?_
  exact zY.rb rfl rfl (by split <;> simp) ⟨rfl, rfl, rfl⟩
theorem zm159 {I_ : zIn} {L_ : zLi} {x_ : Int32} : zYm 2 159 [zwR 7 0, zwI x_] I_ L_ 0 (zRet (some (zwI (if zbt x_ 0 (I_ 7 0 28 - 1) = true then 1 else 0))) I_ L_) := by
  refine zYm.of (Nat.le_of_ble_eq_true rfl) rfl ?_
  refine zY.go 7 rfl ?_
  refine zY.cr (zm123) rfl rfl rfl rfl (Nat.le_of_ble_eq_true rfl) rfl (by decide) rfl (by decide) (by decide) ?_
  exact zY.rb rfl rfl (by split <;> simp) ⟨rfl, rfl, rfl⟩
def zap (x_ y_ : Int32) : Int32 := if x_ ≤ y_ then y_ - x_ else x_ - y_
def zspm (x_ y_ : Int32) : Int32 := zap (x_ / 6) (y_ / 6) + zap (x_ - x_ / 6 * 6) (y_ - y_ / 6 * 6)
theorem zm135 {I_ : zIn} {L_ : zLi} {x_ y_ : Int32} : zYm 1 135 [zwR 7 0, zwI x_, zwI y_] I_ L_ 0 (zRet (some (zwI (zap x_ y_))) I_ L_) := by
  refine zYm.of (Nat.le_of_ble_eq_true rfl) rfl ?_
  refine zY.go 2 rfl ?_
  refine zY.bc rfl (fun hp2 => ?_) (fun hp2 => ?_)
  · refine zY.go 3 rfl ?_
    exact zY.ri rfl rfl ⟨by simp_all [zcp, zap] <;> (intro hcon; exact absurd hcon (Int32.not_le.mpr (by assumption))), rfl, rfl⟩
  · refine zY.go 4 rfl ?_
    exact zY.ri rfl rfl ⟨by simp_all [zcp, zap] <;> (intro hcon; exact absurd hcon (Int32.not_le.mpr (by assumption))), rfl, rfl⟩
theorem zm134 {I_ : zIn} {L_ : zLi} {x_ y_ : Int32} : zYm 2 134 [zwR 7 0, zwI x_, zwI y_] I_ L_ 0 (zRet (some (zwI (zspm x_ y_))) I_ L_) := by
  refine zYm.of (Nat.le_of_ble_eq_true rfl) rfl ?_
  refine zY.go 7 rfl ?_
  refine zY.cr (zm135) rfl rfl rfl rfl (Nat.le_of_ble_eq_true rfl) rfl (by decide) rfl (by decide) (by decide) ?_
  refine zY.go 7 rfl ?_
  refine zY.cr (zm135) rfl rfl rfl rfl (Nat.le_of_ble_eq_true rfl) rfl (by decide) rfl (by decide) (by decide) ?_
  refine zY.go 1 rfl ?_
  exact zY.ri rfl rfl ⟨rfl, rfl, rfl⟩
theorem zm146 {I_ : zIn} {L_ : zLi} {x_ y_ : Int32} : zYm 3 146 [zwR 7 0, zwI x_, zwI y_] I_ L_ 0 (zRet (some (zwI (2 * zspm x_ y_))) I_ L_) := by
  refine zYm.of (Nat.le_of_ble_eq_true rfl) rfl ?_
  refine zY.go 4 rfl ?_
  refine zY.cr (zm134) rfl rfl rfl rfl (Nat.le_of_ble_eq_true rfl) rfl (by decide) rfl (by decide) (by decide) ?_
  refine zY.go 1 rfl ?_
  exact zY.ri rfl rfl ⟨rfl, rfl, rfl⟩
theorem zm121 {I_ : zIn} {L_ : zLi} : zYm 1 121 [zwR 7 0] I_ L_ 0 (zRet (some (zwI (I_ 7 0 0))) I_ L_) := by
  refine zYm.of (Nat.le_of_ble_eq_true rfl) rfl ?_
  refine zY.go 2 rfl ?_
  exact zY.ri rfl rfl ⟨rfl, rfl, rfl⟩
theorem zm174 {I_ : zIn} {L_ : zLi} : zYm 1 174 [zwR 7 0] I_ L_ 0 (zRet (some (zwI (I_ 7 0 1))) (zset I_ 7 0 0 0) L_) := by
  refine zYm.of (Nat.le_of_ble_eq_true rfl) rfl ?_
  refine zY.go 5 rfl ?_
  exact zY.ri rfl rfl ⟨by simp [zset], rfl, rfl⟩
theorem zm175 {I_ : zIn} {L_ : zLi} : zYm 1 175 [zwR 7 0] I_ L_ 0 (zRet (some (zwI (I_ 7 0 2))) (zset I_ 7 0 0 0) L_) := by
  refine zYm.of (Nat.le_of_ble_eq_true rfl) rfl ?_
  refine zY.go 5 rfl ?_
  exact zY.ri rfl rfl ⟨by simp [zset], rfl, rfl⟩
theorem zm124 {I_ : zIn} {L_ : zLi} {x_ : Int32} (hx : x_ = 0 ∨ x_ = 1) : zYm 1 124 [zwR 7 0, zwI x_] I_ L_ 0 (zRet (some (zwI (zbo (I_ 7 0 3)))) (zset (zset I_ 7 0 0 0) 7 0 3 x_) L_) := by
  refine zYm.of (Nat.le_of_ble_eq_true rfl) rfl ?_
  refine zY.go 8 rfl ?_
  refine zY.pf rfl (by decide) (by decide) (Or.inr ⟨rfl, hx⟩) ?_
  refine zY.go 1 rfl ?_
  exact zY.rb rfl rfl (zbo_01 _) ⟨by simp [zset], rfl, rfl⟩
/-- a request's number and its rider's are places of the rows -/
def zMq (I_ : zIn) (q_ : Nat) : Prop := q_ < 60 ∧ 0 ≤ I_ 30 29 q_ ∧ (I_ 30 29 q_).toNatClampNeg < 16
def zmrd (I_ : zIn) (q_ : Nat) : Nat := (I_ 30 29 q_).toNatClampNeg
theorem zMq.rd {I_ : zIn} {q_ : Nat} (h_ : zMq I_ q_) : I_ 30 29 q_ = Int32.ofNat (zmrd I_ q_) := (Int32.ofNat_toNatClampNeg _ h_.2.1).symm
theorem zs2d : ∀ s_, s_ < 200 → Int32.ofNat s_ / 2 = Int32.ofNat (s_ / 2) ∧ Int32.ofNat s_ - Int32.ofNat s_ / 2 * 2 = Int32.ofNat (s_ % 2) := by decide +kernel
def zmkd (I_ : zIn) (q_ : Nat) : Int32 := I_ 30 7 (zmrd I_ q_)
theorem zm142 {I_ : zIn} {L_ : zLi} {q_ : Nat} (h_ : zMq I_ q_) : zYm 1 142 [zwR 7 0, zwI (Int32.ofNat q_)] I_ L_ 0 (zRet (some (zwI (zmkd I_ q_))) I_ L_) := by
  have hq := h_.1
  have hp := h_.2.2
  refine zYm.of (Nat.le_of_ble_eq_true rfl) rfl ?_
  refine zY.go 5 rfl ?_
  refine zY.ai rfl rfl hq ?_
  refine zY.ai rfl h_.rd hp ?_
  exact zY.ri rfl rfl ⟨rfl, rfl, rfl⟩
theorem zm150 {I_ : zIn} {L_ : zLi} {q_ : Nat} (h_ : zMq I_ q_) : zYm 2 150 [zwR 7 0, zwI (Int32.ofNat q_)] I_ L_ 0 (zRet (some (zwI (2 + 2 * zmkd I_ q_))) I_ L_) := by
  refine zYm.of (Nat.le_of_ble_eq_true rfl) rfl ?_
  refine zY.go 4 rfl ?_
  refine zY.cr (zm142 h_) rfl rfl rfl rfl (Nat.le_of_ble_eq_true rfl) rfl (by decide) rfl (by decide) (by decide) ?_
  refine zY.go 2 rfl ?_
  exact zY.ri rfl rfl ⟨rfl, rfl, rfl⟩
def zmse (I_ : zIn) (q_ : Nat) : Int32 := (if zmkd I_ q_ = 2 then 2 else 1) + (if I_ 31 10 (zmrd I_ q_) = 0 then 0 else 1)
theorem zm155 {I_ : zIn} {L_ : zLi} {q_ : Nat} (h_ : zMq I_ q_) : zYm 2 155 [zwR 7 0, zwI (Int32.ofNat q_)] I_ L_ 0 (zRet (some (zwI (zmse I_ q_))) I_ L_) := by
  have hq := h_.1
  have hp := h_.2.2
  refine zYm.of (Nat.le_of_ble_eq_true rfl) rfl ?_
  refine zY.go 2 rfl ?_
  refine zY.cr (zm142 h_) rfl rfl rfl rfl (Nat.le_of_ble_eq_true rfl) rfl (by decide) rfl (by decide) (by decide) ?_
  refine zY.go 1 rfl ?_
  refine zY.bc rfl (fun hp6 => ?_) (fun hp6 => ?_)
  · refine zY.go 6 rfl ?_
    refine zY.ai rfl rfl hq ?_
    refine zY.ab rfl h_.rd hp ?_
    refine zY.bi rfl (fun hp25 => ?_) (fun hp25 => ?_)
    · refine zY.go 2 rfl ?_
      exact zY.ri rfl rfl ⟨by simp_all [zcp, zbo_0, zmse], rfl, rfl⟩
    · refine zY.go 3 rfl ?_
      exact zY.ri rfl rfl ⟨by simp_all [zcp, zbo_0, zmse], rfl, rfl⟩
  · refine zY.go 7 rfl ?_
    refine zY.ai rfl rfl hq ?_
    refine zY.ab rfl h_.rd hp ?_
    refine zY.bi rfl (fun hp25 => ?_) (fun hp25 => ?_)
    · refine zY.go 2 rfl ?_
      exact zY.ri rfl rfl ⟨by simp_all [zcp, zbo_0, zmse], rfl, rfl⟩
    · refine zY.go 3 rfl ?_
      exact zY.ri rfl rfl ⟨by simp_all [zcp, zbo_0, zmse], rfl, rfl⟩
def zmpl (I_ : zIn) (s_ : Nat) : Int32 := if s_ % 2 = 0 then I_ 30 30 (s_ / 2) else I_ 30 31 (s_ / 2)
theorem zm145 {I_ : zIn} {L_ : zLi} {s_ : Nat} (hs : s_ < 120) : zYm 1 145 [zwR 7 0, zwI (Int32.ofNat s_)] I_ L_ 0 (zRet (some (zwI (zmpl I_ s_))) I_ L_) := by
  obtain ⟨e1_, e2_⟩ := zs2d s_ (by omega)
  have h60 : s_ / 2 < 60 := by omega
  refine zYm.of (Nat.le_of_ble_eq_true rfl) rfl ?_
  refine zY.go 3 rfl ?_
  show zY _ _ _ _ _ [zwI (Int32.ofNat s_ - Int32.ofNat s_ / 2 * 2)] _ _ _ _
  rw [e2_]
  unfold zmpl
  refine zY.bi rfl (fun hp3 => ?_) (fun hp3 => ?_)
  · rw [if_neg (fun h_ => hp3 (zpar_0.mpr h_))]
    refine zY.go 5 rfl ?_
    refine zY.ai rfl e1_ h60 ?_
    exact zY.ri rfl rfl ⟨rfl, rfl, rfl⟩
  · rw [if_pos (zpar_0.mp (Decidable.byContradiction hp3))]
    refine zY.go 5 rfl ?_
    refine zY.ai rfl e1_ h60 ?_
    refine zY.go 1 rfl ?_
    exact zY.ri rfl rfl ⟨rfl, rfl, rfl⟩
def zmlt (I_ : zIn) (q_ : Nat) (x_ : Int32) : Int32 := x_ + 10 + 2 * (2 * zspm (I_ 30 30 q_) (I_ 30 31 q_))
theorem zm154 {I_ : zIn} {L_ : zLi} {q_ : Nat} {x_ : Int32} (hq : q_ < 60) : zYm 4 154 [zwR 7 0, zwI (Int32.ofNat q_), zwI x_] I_ L_ 0 (zRet (some (zwI (zmlt I_ q_ x_))) I_ L_) := by
  refine zYm.of (Nat.le_of_ble_eq_true rfl) rfl ?_
  refine zY.go 8 rfl ?_
  refine zY.ai rfl rfl hq ?_
  refine zY.go 3 rfl ?_
  refine zY.ai rfl rfl hq ?_
  refine zY.cr zm146 rfl rfl rfl rfl (Nat.le_of_ble_eq_true rfl) rfl (by decide) rfl (by decide) (by decide) ?_
  refine zY.go 2 rfl ?_
  exact zY.ri rfl rfl ⟨rfl, rfl, rfl⟩

