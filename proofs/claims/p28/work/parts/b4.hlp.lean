/-! THE LAW'S SMALL METHODS -/
def zup (v_ n_ : Int32) : Int32 := (v_.toUInt32 >>> ((2 : Int32).toUInt32 &&& Int32.toUInt32 31)).toInt32 - (v_.toUInt32 >>> ((2 : Int32).toUInt32 &&& Int32.toUInt32 31)).toInt32 / n_ * n_
theorem zup_ok {v_ : Int32} {n_ : Nat} (hn : 0 < n_) (hn2 : n_ < 1000) : ∃ k_, k_ < n_ ∧ zup v_ (Int32.ofNat n_) = Int32.ofNat k_ := by
  have e2_ : ((2 : Int32).toUInt32 &&& Int32.toUInt32 31) = 2 := by decide
  have hlt : (v_.toUInt32 >>> 2).toNat < 1073741824 := by
    rw [UInt32.toNat_shiftRight]
    have h1 : v_.toUInt32.toNat < 4294967296 := v_.toUInt32.toNat_lt
    have h2 : (2 : UInt32).toNat % 32 = 2 := by decide
    rw [h2, Nat.shiftRight_eq_div_pow]
    omega
  have hu0 : ∀ u_ : UInt32, u_.toInt32 = Int32.ofNat u_.toNat := fun u_ => by
    apply Int32.toBitVec.inj
    simp
  have hu := hu0 (v_.toUInt32 >>> 2)
  unfold zup
  rw [e2_, hu]
  refine ⟨(v_.toUInt32 >>> 2).toNat % n_, Nat.mod_lt _ hn, ?_⟩
  have h_ := Nat.div_add_mod (v_.toUInt32 >>> 2).toNat n_
  rw [Nat.mul_comm] at h_
  rw [← Int32.ofNat_div (by omega) (by omega), ← Int32.ofNat_mul, ← Int32.ofNat_sub _ _ (by omega)]
  congr 1
  omega
theorem za120 {I_ : zIn} {L_ : zLi} {x_ y_ : Int32} (hy : ¬ y_ = 0) : zYm 1 120 [zwI x_, zwI y_] I_ L_ 0 (zRet (some (zwI (zup x_ y_))) I_ L_) := by
  refine zYm.of (Nat.le_of_ble_eq_true rfl) rfl ?_
  refine zY.go 4 rfl ?_
  refine zY.rm rfl hy ?_
  exact zY.ri rfl rfl ⟨rfl, rfl, rfl⟩
theorem za123 {I_ : zIn} {L_ : zLi} {x_ y_ : Int32} : zYm 1 123 [zwI x_, zwI y_] I_ L_ 0 (zRet (some (zwI (zap x_ y_))) I_ L_) := by
  refine zYm.of (Nat.le_of_ble_eq_true rfl) rfl ?_
  refine zY.go 2 rfl ?_
  refine zY.bc rfl (fun hp2 => ?_) (fun hp2 => ?_)
  · refine zY.go 3 rfl ?_
    exact zY.ri rfl rfl ⟨by unfold zap; rw [if_pos (show x_ ≤ y_ from hp2)], rfl, rfl⟩
  · refine zY.go 4 rfl ?_
    exact zY.ri rfl rfl ⟨by unfold zap; rw [if_neg (show ¬ x_ ≤ y_ from hp2)], rfl, rfl⟩
theorem za124 {I_ : zIn} {L_ : zLi} {x_ y_ : Int32} : zYm 2 124 [zwI x_, zwI y_] I_ L_ 0 (zRet (some (zwI (2 * zspm x_ y_))) I_ L_) := by
  refine zYm.of (Nat.le_of_ble_eq_true rfl) rfl ?_
  refine zY.go 7 rfl ?_
  refine zY.cr za123 rfl rfl rfl rfl (Nat.le_of_ble_eq_true rfl) rfl (by decide) rfl (by decide) (by decide) ?_
  refine zY.go 6 rfl ?_
  refine zY.cr za123 rfl rfl rfl rfl (Nat.le_of_ble_eq_true rfl) rfl (by decide) rfl (by decide) (by decide) ?_
  refine zY.go 2 rfl ?_
  exact zY.ri rfl rfl ⟨rfl, rfl, rfl⟩
theorem za125 {I_ : zIn} {L_ : zLi} {x_ y_ : Int32} : zYm 1 125 [zwI x_, zwI y_] I_ L_ 0 (zRet (some (zwI ((if x_ = 2 then 2 else 1) + y_))) I_ L_) := by
  refine zYm.of (Nat.le_of_ble_eq_true rfl) rfl ?_
  refine zY.go 2 rfl ?_
  refine zY.bc rfl (fun hp2 => ?_) (fun hp2 => ?_)
  · refine zY.go 3 rfl ?_
    exact zY.ri rfl rfl ⟨by rw [if_neg (show ¬ x_ = 2 from hp2)], rfl, rfl⟩
  · refine zY.go 4 rfl ?_
    exact zY.ri rfl rfl ⟨by rw [if_pos (show x_ = 2 from Classical.not_not.mp hp2)], rfl, rfl⟩
/-- answers with an int -/
def zOkI (P_ : Int32 → zIn → zLi → Prop) : zPost := fun r_ I_ L_ => ∃ x_, r_ = .inl (some (zwI x_)) ∧ P_ x_ I_ L_
theorem zYm.ok {d_ m_ a_ : Nat} {as_ : List zW} {I_ I' : zIn} {L_ L' : zLi} {x_ : Int32} (h_ : zYm d_ m_ as_ I_ L_ a_ (zRet (some (zwI x_)) I' L')) {P_ : Int32 → zIn → zLi → Prop} (hP : P_ x_ I' L') : zYm d_ m_ as_ I_ L_ a_ (zOkI P_) := h_.mono (Nat.le_refl _) (Nat.le_refl _) (fun r_ I2_ L2_ hq => by
  obtain ⟨rfl, rfl, rfl⟩ := hq
  exact ⟨x_, rfl, hP⟩)
section
variable {I_ : zIn} {L_ : zLi} {P_ : Int32 → zIn → zLi → Prop} {A_ B_ C_ D_ : Int32} {a_ : Nat}
theorem za122 {w_ : Int32} (h_ : zYm 14 121 [zwR 6 0, zwI w_, zwI A_, zwI B_, zwI C_, zwI D_] I_ L_ a_ (zOkI P_)) : zYm 15 122 [zwR 6 0, zwI w_, zwI A_, zwI B_, zwI C_, zwI D_] I_ L_ a_ (zOkI P_) := by
  refine zYm.of (Nat.le_of_ble_eq_true rfl) rfl ?_
  refine zY.go 6 rfl ?_
  refine zY.c h_ rfl rfl rfl rfl (Nat.le_of_ble_eq_true rfl) rfl (by decide) rfl (by decide) (Nat.le_refl _) (fun r_ I' L' hq => ?_)
  obtain ⟨x_, rfl, hP⟩ := hq
  exact ⟨_, rfl, zY.ri rfl rfl ⟨x_, rfl, hP⟩⟩
theorem za122x {w_ : Int32} (h_ : zYm 14 121 [zwR 6 0, zwI w_, zwI A_, zwI B_, zwI C_, zwI D_] I_ L_ a_ (zThw 10 I_ L_)) : zYm 15 122 [zwR 6 0, zwI w_, zwI A_, zwI B_, zwI C_, zwI D_] I_ L_ a_ (zRet (some (zwI (-1003))) I_ L_) := by
  refine zYm.of (Nat.le_of_ble_eq_true rfl) rfl ?_
  refine zY.go 6 rfl ?_
  refine zY.cg rfl rfl rfl rfl (Nat.le_of_ble_eq_true rfl) rfl (by decide) rfl h_ (by decide) (Nat.le_refl _) (fun v_ I' L' hq => ?_) (fun E_ I' L' hq => ?_)
  · obtain ⟨e_, _⟩ := hq
    cases e_
  · obtain ⟨e_, rfl, rfl⟩ := hq
    cases e_
    refine ⟨by decide, Or.inr ⟨20, 6, rfl, Nat.le_of_ble_eq_true rfl, rfl, ?_⟩⟩
    refine zY.go 1 rfl ?_
    exact zY.ri rfl rfl ⟨rfl, rfl, rfl⟩
theorem za121a (h_ : zYm 13 42 [zwR 6 0, zwI A_, zwI B_, zwI C_, zwI D_] I_ L_ a_ (zOkI P_)) : zYm 14 121 [zwR 6 0, zwI 0, zwI A_, zwI B_, zwI C_, zwI D_] I_ L_ a_ (zOkI P_) := by
  refine zYm.of (Nat.le_of_ble_eq_true rfl) rfl ?_
  refine zY.go 1 rfl ?_
  refine zY.sw (t_ := 28) rfl rfl rfl ?_
  refine zY.go 5 rfl ?_
  refine zY.c h_ rfl rfl rfl rfl (Nat.le_of_ble_eq_true rfl) rfl (by decide) rfl (by decide) (Nat.le_refl _) (fun r_ I' L' hq => ?_)
  obtain ⟨x_, rfl, hP⟩ := hq
  exact ⟨_, rfl, zY.ri rfl rfl ⟨x_, rfl, hP⟩⟩
theorem za121b (h_ : zYm 5 49 [zwR 6 0, zwI A_] I_ L_ a_ (zOkI P_)) (h01 : ∀ x_ I_ L_, P_ x_ I_ L_ → x_ = 0 ∨ x_ = 1) : zYm 14 121 [zwR 6 0, zwI 1, zwI A_, zwI B_, zwI C_, zwI D_] I_ L_ a_ (zOkI P_) := by
  refine zYm.of (Nat.le_of_ble_eq_true rfl) rfl ?_
  refine zY.go 1 rfl ?_
  refine zY.sw (t_ := 39) rfl rfl rfl ?_
  refine zY.go 2 rfl ?_
  refine zY.c h_ rfl rfl rfl rfl (Nat.le_of_ble_eq_true rfl) rfl (by decide) rfl (by decide) (Nat.le_refl _) (fun r_ I' L' hq => ?_)
  obtain ⟨x_, rfl, hP⟩ := hq
  refine ⟨_, rfl, ?_⟩
  refine zY.bi rfl (fun hp44 => ?_) (fun hp44 => ?_)
  · have hx : x_ = 0 := hp44
    subst hx
    refine zY.go 1 rfl ?_
    exact zY.ri rfl rfl ⟨0, rfl, hP⟩
  · have hx : x_ = 1 := (h01 x_ _ _ hP).resolve_left hp44
    subst hx
    refine zY.go 2 rfl ?_
    exact zY.ri rfl rfl ⟨1, rfl, hP⟩
theorem za121bx (h_ : zYm 5 49 [zwR 6 0, zwI A_] I_ L_ a_ (zThw 10 I_ L_)) : zYm 14 121 [zwR 6 0, zwI 1, zwI A_, zwI B_, zwI C_, zwI D_] I_ L_ a_ (zThw 10 I_ L_) := by
  refine zYm.of (Nat.le_of_ble_eq_true rfl) rfl ?_
  refine zY.go 1 rfl ?_
  refine zY.sw (t_ := 39) rfl rfl rfl ?_
  refine zY.go 2 rfl ?_
  refine zY.cg rfl rfl rfl rfl (Nat.le_of_ble_eq_true rfl) rfl (by decide) rfl h_ (by decide) (Nat.le_refl _) (fun v_ I' L' hq => ?_) (fun E_ I' L' hq => ?_)
  · obtain ⟨e_, _⟩ := hq
    cases e_
  · obtain ⟨e_, rfl, rfl⟩ := hq
    cases e_
    exact ⟨by decide, Or.inl ⟨rfl, rfl, rfl, rfl⟩⟩
theorem za121c {I' : zIn} {L' : zLi} (h_ : zYm 4 52 [zwR 6 0, zwI A_] I_ L_ a_ (zRet none I' L')) : zYm 14 121 [zwR 6 0, zwI 2, zwI A_, zwI B_, zwI C_, zwI D_] I_ L_ a_ (zRet (some (zwI 0)) I' L') := by
  refine zYm.of (Nat.le_of_ble_eq_true rfl) rfl ?_
  refine zY.go 1 rfl ?_
  refine zY.sw (t_ := 53) rfl rfl rfl ?_
  refine zY.go 2 rfl ?_
  refine zY.cr h_ rfl rfl rfl rfl (Nat.le_of_ble_eq_true rfl) rfl (by decide) rfl (by decide) (Nat.le_refl _) ?_
  refine zY.go 1 rfl ?_
  exact zY.ri rfl rfl ⟨rfl, rfl, rfl⟩
theorem za121cx (h_ : zYm 4 52 [zwR 6 0, zwI A_] I_ L_ a_ (zThw 10 I_ L_)) : zYm 14 121 [zwR 6 0, zwI 2, zwI A_, zwI B_, zwI C_, zwI D_] I_ L_ a_ (zThw 10 I_ L_) := by
  refine zYm.of (Nat.le_of_ble_eq_true rfl) rfl ?_
  refine zY.go 1 rfl ?_
  refine zY.sw (t_ := 53) rfl rfl rfl ?_
  refine zY.go 2 rfl ?_
  refine zY.cg rfl rfl rfl rfl (Nat.le_of_ble_eq_true rfl) rfl (by decide) rfl h_ (by decide) (Nat.le_refl _) (fun v_ I' L' hq => ?_) (fun E_ I' L' hq => ?_)
  · obtain ⟨e_, _⟩ := hq
    cases e_
  · obtain ⟨e_, rfl, rfl⟩ := hq
    cases e_
    exact ⟨by decide, Or.inl ⟨rfl, rfl, rfl, rfl⟩⟩
theorem za121d (h_ : zYm 9 53 [zwR 6 0, zwI A_] I_ L_ a_ (zOkI P_)) : zYm 14 121 [zwR 6 0, zwI 3, zwI A_, zwI B_, zwI C_, zwI D_] I_ L_ a_ (zOkI P_) := by
  refine zYm.of (Nat.le_of_ble_eq_true rfl) rfl ?_
  refine zY.go 1 rfl ?_
  refine zY.sw (t_ := 60) rfl rfl rfl ?_
  refine zY.go 2 rfl ?_
  refine zY.c h_ rfl rfl rfl rfl (Nat.le_of_ble_eq_true rfl) rfl (by decide) rfl (by decide) (Nat.le_refl _) (fun r_ I' L' hq => ?_)
  obtain ⟨x_, rfl, hP⟩ := hq
  exact ⟨_, rfl, zY.ri rfl rfl ⟨x_, rfl, hP⟩⟩
theorem za121dx (h_ : zYm 9 53 [zwR 6 0, zwI A_] I_ L_ a_ (zThw 10 I_ L_)) : zYm 14 121 [zwR 6 0, zwI 3, zwI A_, zwI B_, zwI C_, zwI D_] I_ L_ a_ (zThw 10 I_ L_) := by
  refine zYm.of (Nat.le_of_ble_eq_true rfl) rfl ?_
  refine zY.go 1 rfl ?_
  refine zY.sw (t_ := 60) rfl rfl rfl ?_
  refine zY.go 2 rfl ?_
  refine zY.cg rfl rfl rfl rfl (Nat.le_of_ble_eq_true rfl) rfl (by decide) rfl h_ (by decide) (Nat.le_refl _) (fun v_ I' L' hq => ?_) (fun E_ I' L' hq => ?_)
  · obtain ⟨e_, _⟩ := hq
    cases e_
  · obtain ⟨e_, rfl, rfl⟩ := hq
    cases e_
    exact ⟨by decide, Or.inl ⟨rfl, rfl, rfl, rfl⟩⟩
end
