/-! CONTRACTS: requests, stops, demands -/
def zThw (E_ : Nat) (I' : zIn) (L' : zLi) : zPost := fun r_ I_ L_ => r_ = .inr E_ ∧ I_ = I' ∧ L_ = L'
section
variable {sc_ : zScr} {d_ m_ pc len_ a_ b_ : Nat} {ls : zWs} {st_ rest_ : List zW} {I_ I' : zIn} {L_ L' : zLi} {Q_ : zPost} {i_ : Instr} {imm_ : Int32} {q_ : Nat}
/-- a call that throws, on to the caller -/
theorem zY.cx {as_ : List zW} {d0_ a1_ E_ : Nat} (hM_ : zYm d0_ q_ as_ I_ L_ a1_ (zThw E_ I' L')) (hk : zcode m_ pc = some (i_, len_, imm_, q_, b_)) (hg : zgrp i_ q_ = 3) (hn : as_.length = (zinf q_).1) (hst : st_ = as_.reverse ++ rest_) (hl : rest_.length ≤ 4) (hc_ : as_.all zc1w = true) (hml : (zinf q_).1 ≤ (zinf q_).2.1) (hv : zrcv (zinf q_).2.2.1 (zinf q_).2.2.2.1 as_ = true)
    (hd_ : d0_ ≤ d_) (ha_ : a1_ ≤ a_) (hb_ : b_ ≠ 7) (hh : zhand m_ pc E_ = none) (hQ : Q_ (.inr E_) I' L') : zY sc_ (d_ + 1) m_ pc ls st_ I_ L_ a_ Q_ := by
  refine zY.cg hk hg hn hst hl hc_ hml hv hM_ hd_ ha_ (fun v_ I2_ L2_ hq => ?_) (fun E2 I2_ L2_ hq => ?_)
  · obtain ⟨h1, _⟩ := hq
    cases h1
  · obtain ⟨h1, h2, h3⟩ := hq
    cases h1; subst h2; subst h3
    exact ⟨hb_, Or.inl ⟨hh, hQ⟩⟩
end
theorem zbo_0 {x_ : Int32} : zbo x_ = 0 ↔ x_ = 0 := by
  unfold zbo
  split
  · rename_i hx; simp [hx]
  · rename_i hx; simp [hx]
def zlat (r_ : Nat → Int32) : Bool := decide (¬ r_ 10 = -1) && decide (r_ 7 + 20 < r_ 10)
def zlon (r_ : Nat → Int32) : Bool := decide (¬ r_ 12 = -1) && decide (r_ 11 + r_ 4 < r_ 12)
def znos (r_ : Nat → Int32) : Bool := decide (r_ 5 = 3) || (decide (r_ 5 = 4) && decide (¬ r_ 14 = 0))
def zdue (r_ : Nat → Int32) : Int32 := (if r_ 11 = -1 then r_ 9 else r_ 11) + r_ 4
def zfar (r_ : Nat → Int32) : Int32 := if r_ 5 = 2 ∧ zlat r_ = false ∧ zlon r_ = false then 200 + 20 * zstp (r_ 1) (r_ 2) else 0
def zchr (I_ : zIn) (q_ : Nat) : Bool := decide (I_ 2 (I_ 1 q_ 0).toNatClampNeg 0 = 2)
def zint (I_ : zIn) (s_ : Nat) : Bool := decide (I_ 4 s_ 3 ≤ (if s_ % 2 = 0 then I_ 1 (s_ / 2) 7 + 20 else zdue (I_ 1 (s_ / 2))))
theorem zm79 {I_ : zIn} {L_ : zLi} {q_ : Nat} : zYm 1 79 [zwR 1 q_] I_ L_ 0 (zRet (some (zwI (if zlat (I_ 1 q_) = true then 1 else 0))) I_ L_) := by
  refine zYm.of (Nat.le_of_ble_eq_true rfl) rfl ?_
  refine zY.go 3 rfl ?_
  refine zY.bc rfl (fun hp5 => ?_) (fun hp5 => ?_)
  · refine zY.go 1 rfl ?_
    exact zY.rb rfl rfl (by first | exact Or.inl rfl | exact Or.inr rfl) ⟨by simp_all [zcp, zbo_0, zlat], rfl, rfl⟩
  · refine zY.go 6 rfl ?_
    refine zY.bc rfl (fun hp19 => ?_) (fun hp19 => ?_)
    · refine zY.go 1 rfl ?_
      exact zY.rb rfl rfl (by first | exact Or.inl rfl | exact Or.inr rfl) ⟨by simp_all [zcp, zbo_0, zlat], rfl, rfl⟩
    · refine zY.go 2 rfl ?_
      exact zY.rb rfl rfl (by first | exact Or.inl rfl | exact Or.inr rfl) ⟨by simp_all [zcp, zbo_0, zlat], rfl, rfl⟩
theorem zm80 {I_ : zIn} {L_ : zLi} {q_ : Nat} : zYm 1 80 [zwR 1 q_] I_ L_ 0 (zRet (some (zwI (if zlon (I_ 1 q_) = true then 1 else 0))) I_ L_) := by
  refine zYm.of (Nat.le_of_ble_eq_true rfl) rfl ?_
  refine zY.go 3 rfl ?_
  refine zY.bc rfl (fun hp5 => ?_) (fun hp5 => ?_)
  · refine zY.go 1 rfl ?_
    exact zY.rb rfl rfl (by first | exact Or.inl rfl | exact Or.inr rfl) ⟨by simp_all [zcp, zbo_0, zlon], rfl, rfl⟩
  · refine zY.go 7 rfl ?_
    refine zY.bc rfl (fun hp21 => ?_) (fun hp21 => ?_)
    · refine zY.go 1 rfl ?_
      exact zY.rb rfl rfl (by first | exact Or.inl rfl | exact Or.inr rfl) ⟨by simp_all [zcp, zbo_0, zlon], rfl, rfl⟩
    · refine zY.go 2 rfl ?_
      exact zY.rb rfl rfl (by first | exact Or.inl rfl | exact Or.inr rfl) ⟨by simp_all [zcp, zbo_0, zlon], rfl, rfl⟩
theorem zm84 {I_ : zIn} {L_ : zLi} {q_ : Nat} : zYm 1 84 [zwR 1 q_] I_ L_ 0 (zRet (some (zwI (if znos (I_ 1 q_) = true then 1 else 0))) I_ L_) := by
  refine zYm.of (Nat.le_of_ble_eq_true rfl) rfl ?_
  refine zY.go 3 rfl ?_
  refine zY.bc rfl (fun hp5 => ?_) (fun hp5 => ?_)
  · refine zY.go 2 rfl ?_
    exact zY.rb rfl rfl (by first | exact Or.inl rfl | exact Or.inr rfl) ⟨by simp_all [zcp, zbo_0, znos], rfl, rfl⟩
  · refine zY.go 3 rfl ?_
    refine zY.bc rfl (fun hp13 => ?_) (fun hp13 => ?_)
    · refine zY.go 1 rfl ?_
      exact zY.rb rfl rfl (by first | exact Or.inl rfl | exact Or.inr rfl) ⟨by simp_all [zcp, zbo_0, znos], rfl, rfl⟩
    · refine zY.go 2 rfl ?_
      refine zY.bi rfl (fun hp20 => ?_) (fun hp20 => ?_)
      · refine zY.go 1 rfl ?_
        exact zY.rb rfl rfl (by first | exact Or.inl rfl | exact Or.inr rfl) ⟨by simp_all [zcp, zbo_0, znos], rfl, rfl⟩
      · refine zY.go 2 rfl ?_
        exact zY.rb rfl rfl (by first | exact Or.inl rfl | exact Or.inr rfl) ⟨by simp_all [zcp, zbo_0, znos], rfl, rfl⟩
theorem zm85 {I_ : zIn} {L_ : zLi} {q_ : Nat} : zYm 1 85 [zwR 1 q_] I_ L_ 0 (zRet (some (zwI (zdue (I_ 1 q_)))) I_ L_) := by
  refine zYm.of (Nat.le_of_ble_eq_true rfl) rfl ?_
  refine zY.go 3 rfl ?_
  refine zY.bc rfl (fun hp5 => ?_) (fun hp5 => ?_)
  · refine zY.go 5 rfl ?_
    exact zY.ri rfl rfl ⟨by simp_all [zcp, zbo_0, zdue], rfl, rfl⟩
  · refine zY.go 6 rfl ?_
    exact zY.ri rfl rfl ⟨by simp_all [zcp, zbo_0, zdue], rfl, rfl⟩
theorem zm81 {I_ : zIn} {L_ : zLi} {q_ : Nat} : zYm 2 81 [zwR 1 q_] I_ L_ 0 (zRet (some (zwI (zfar (I_ 1 q_)))) I_ L_) := by
  refine zYm.of (Nat.le_of_ble_eq_true rfl) rfl ?_
  refine zY.go 3 rfl ?_
  refine zY.bc rfl (fun hp5 => ?_) (fun hp5 => ?_)
  · refine zY.go 1 rfl ?_
    exact zY.ri rfl rfl ⟨by simp_all [zcp, zbo_0, zfar], rfl, rfl⟩
  · refine zY.go 1 rfl ?_
    refine zY.cr (zm79) rfl rfl rfl rfl (Nat.le_of_ble_eq_true rfl) rfl (by decide) rfl (by decide) (by decide) ?_
    refine zY.bi rfl (fun hp12 => ?_) (fun hp12 => ?_)
    · refine zY.go 1 rfl ?_
      exact zY.ri rfl rfl ⟨by simp_all [zcp, zbo_0, zfar], rfl, rfl⟩
    · refine zY.go 1 rfl ?_
      refine zY.cr (zm80) rfl rfl rfl rfl (Nat.le_of_ble_eq_true rfl) rfl (by decide) rfl (by decide) (by decide) ?_
      refine zY.bi rfl (fun hp19 => ?_) (fun hp19 => ?_)
      · refine zY.go 6 rfl ?_
        refine zY.cr (zm31) rfl rfl rfl rfl (Nat.le_of_ble_eq_true rfl) rfl (by decide) rfl (by decide) (by decide) ?_
        refine zY.go 2 rfl ?_
        exact zY.ri rfl rfl ⟨by simp_all [zcp, zbo_0, zfar], rfl, rfl⟩
      · refine zY.go 1 rfl ?_
        exact zY.ri rfl rfl ⟨by simp_all [zcp, zbo_0, zfar], rfl, rfl⟩
theorem zm83 {I_ : zIn} {L_ : zLi} {q_ : Nat} {x_ : Int32} : zYm 1 83 [zwR 1 q_, zwI x_] I_ L_ 0 (zRet none (zset (zset (zset I_ 1 q_ 5 6) 1 q_ 6 x_) 1 q_ 7 (-1)) L_) := by
  refine zYm.of (Nat.le_of_ble_eq_true rfl) rfl ?_
  refine zY.go 9 rfl ?_
  exact zY.rv rfl rfl ⟨rfl, rfl, rfl⟩
theorem zm94 {I_ : zIn} {L_ : zLi} {s_ : Nat} : zYm 1 94 [zwR 4 s_] I_ L_ 0 (zRet (some (zwI (if zchr I_ (s_ / 2) = true then 1 else 0))) I_ L_) := by
  refine zYm.of (Nat.le_of_ble_eq_true rfl) rfl ?_
  refine zY.go 5 rfl ?_
  refine zY.bc rfl (fun hp11 => ?_) (fun hp11 => ?_)
  · refine zY.go 1 rfl ?_
    exact zY.rb rfl rfl (by first | exact Or.inl rfl | exact Or.inr rfl) ⟨by simp_all [zcp, zbo_0, zchr], rfl, rfl⟩
  · refine zY.go 2 rfl ?_
    exact zY.rb rfl rfl (by first | exact Or.inl rfl | exact Or.inr rfl) ⟨by simp_all [zcp, zbo_0, zchr], rfl, rfl⟩
theorem zm95 {I_ : zIn} {L_ : zLi} {s_ : Nat} {x_ : Int32} : zYm 1 95 [zwR 4 s_, zwI x_] I_ L_ 0 (zRet none (zset (zset I_ 4 s_ 3 (I_ 4 s_ 3 + x_)) 4 s_ 4 (I_ 4 s_ 4 + x_)) L_) := by
  refine zYm.of (Nat.le_of_ble_eq_true rfl) rfl ?_
  refine zY.go 12 rfl ?_
  exact zY.rv rfl rfl ⟨rfl, by simp [zset], rfl⟩
theorem zm99 {I_ : zIn} {L_ : zLi} {v_ : Nat} : zYm 1 99 [zwR 5 v_] I_ L_ 0 (zRet (some (zwI (if I_ 5 v_ 10 = 0 then 0 else 1))) I_ L_) := by
  refine zYm.of (Nat.le_of_ble_eq_true rfl) rfl ?_
  refine zY.go 2 rfl ?_
  refine zY.bi rfl (fun hp4 => ?_) (fun hp4 => ?_)
  · refine zY.go 1 rfl ?_
    exact zY.ri rfl rfl ⟨by simp_all [zcp, zbo_0, ], rfl, rfl⟩
  · refine zY.go 2 rfl ?_
    exact zY.ri rfl rfl ⟨by simp_all [zcp, zbo_0, ], rfl, rfl⟩
theorem zm78 {I_ : zIn} {L_ : zLi} {v_ : Nat} {x_ : Int32} : zYm 2 78 [zwR 0 v_, zwI x_] I_ L_ 0 (zRet (some (zwI (I_ 0 v_ 2 + 2 * zstp (I_ 0 v_ 1) x_))) I_ L_) := by
  refine zYm.of (Nat.le_of_ble_eq_true rfl) rfl ?_
  refine zY.go 6 rfl ?_
  refine zY.cr (zm31) rfl rfl rfl rfl (Nat.le_of_ble_eq_true rfl) rfl (by decide) rfl (by decide) (by decide) ?_
  refine zY.go 2 rfl ?_
  exact zY.ri rfl rfl ⟨rfl, rfl, rfl⟩
theorem zm28 {I_ : zIn} {L_ : zLi} {q_ : Nat} {x_ : Int32} : zYm 1 28 [zwR 6 0, zwI x_, zwR 1 q_] I_ L_ 0 (zRet (some (zwI (if I_ 6 0 7 - x_ < I_ 1 q_ 3 then 1 else 0))) I_ L_) := by
  refine zYm.of (Nat.le_of_ble_eq_true rfl) rfl ?_
  refine zY.go 6 rfl ?_
  refine zY.bc rfl (fun hp10 => ?_) (fun hp10 => ?_)
  · refine zY.go 1 rfl ?_
    exact zY.rb rfl rfl (by first | exact Or.inl rfl | exact Or.inr rfl) ⟨by simp_all [zcp, zbo_0, ], rfl, rfl⟩
  · refine zY.go 2 rfl ?_
    exact zY.rb rfl rfl (by first | exact Or.inl rfl | exact Or.inr rfl) ⟨by simp_all [zcp, zbo_0, ], rfl, rfl⟩
theorem zm34t {I_ : zIn} {L_ : zLi} {x_ : Int32} (hx : ¬ x_ = 0) : zYm 1 34 [zwI x_] I_ L_ 0 (zRet none I_ L_) := by
  refine zYm.of (Nat.le_of_ble_eq_true rfl) rfl ?_
  refine zY.go 1 rfl ?_
  refine zY.bi rfl (fun hp1 => ?_) (fun hp1 => ?_)
  · exact zY.rv rfl rfl ⟨rfl, rfl, rfl⟩
  · exact absurd hx hp1
theorem zm34x {I_ : zIn} {L_ : zLi} : zYm 1 34 [zwI 0] I_ L_ 7 (zThw 9 I_ L_) := by
  refine zYm.of (Nat.le_of_ble_eq_true rfl) rfl ?_
  refine zY.go 1 rfl ?_
  refine zY.bi rfl (fun hp1 => ?_) (fun hp1 => ?_)
  · exact absurd rfl hp1
  · exact zY.th rfl rfl (by decide) (by decide) ⟨rfl, rfl, rfl⟩
theorem zm35t {I_ : zIn} {L_ : zLi} {x_ : Int32} (hx : ¬ x_ = 0) : zYm 1 35 [zwI x_] I_ L_ 0 (zRet none I_ L_) := by
  refine zYm.of (Nat.le_of_ble_eq_true rfl) rfl ?_
  refine zY.go 1 rfl ?_
  refine zY.bi rfl (fun hp1 => ?_) (fun hp1 => ?_)
  · exact zY.rv rfl rfl ⟨rfl, rfl, rfl⟩
  · exact absurd hx hp1
theorem zm35x {I_ : zIn} {L_ : zLi} : zYm 1 35 [zwI 0] I_ L_ 7 (zThw 10 I_ L_) := by
  refine zYm.of (Nat.le_of_ble_eq_true rfl) rfl ?_
  refine zY.go 1 rfl ?_
  refine zY.bi rfl (fun hp1 => ?_) (fun hp1 => ?_)
  · exact absurd rfl hp1
  · exact zY.th rfl rfl (by decide) (by decide) ⟨rfl, rfl, rfl⟩

