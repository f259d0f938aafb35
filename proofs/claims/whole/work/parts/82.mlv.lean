/-! CONTRACTS OF THE MODEL: leave, lift -/
theorem zMq_s31 {I_ : zIn} {q_ j_ k_ : Nat} {x_ : Int32} (h_ : zMq I_ q_) : zMq (zset I_ 31 j_ k_ x_) q_ := by
  unfold zMq
  rw [zset_ne (fun e_ => by have := e_.1; omega)]
  exact h_
theorem zMq_s7 {I_ : zIn} {q_ j_ k_ : Nat} {x_ : Int32} (h_ : zMq I_ q_) : zMq (zset I_ 7 j_ k_ x_) q_ := by
  unfold zMq
  rw [zset_ne (fun e_ => by have := e_.1; omega)]
  exact h_
def zlv0 (I_ : zIn) (v_ s_ : Nat) : Int32 := 2 * zspm (I_ 30 17 v_) (zmpl I_ s_)
def zlv1 (I_ : zIn) (v_ : Nat) (d_ : Int32) : zIn := zset (zset I_ 31 19 v_ 1) 30 20 v_ (zset I_ 31 19 v_ 1 7 0 2 + d_)
def zlv2 (I_ : zIn) (v_ s_ : Nat) (d_ : Int32) : zIn := zset (zlv1 I_ v_ d_) 30 21 v_ (zlv1 I_ v_ d_ 7 0 2 + d_ + (2 + 2 * zmkd (zlv1 I_ v_ d_) (s_ / 2)))
def zlvM (I_ : zIn) (v_ s_ : Nat) : zIn := if s_ % 2 = 1 ∨ I_ 30 34 (s_ / 2) - zlv0 I_ v_ s_ ≤ I_ 7 0 2 then zlv2 I_ v_ s_ (zlv0 I_ v_ s_) else I_
theorem zm169 {I_ : zIn} {L_ : zLi} {v_ s_ : Nat} {l : List Nat} (hv : v_ < 4) (hro : zRo I_ v_ (s_ :: l)) (hmq : zMq I_ (s_ / 2)) : zYm 4 169 [zwR 7 0, zwI (Int32.ofNat v_)] I_ L_ 0 (zRet none (zlvM I_ v_ s_) L_) := by
  obtain ⟨g1, g2⟩ := hro.2.2 0 s_ rfl
  have h26 : 16 * v_ < zas30 26 := by show 16 * v_ < 64; omega
  have h60 : s_ / 2 < zas30 34 := hmq.1
  obtain ⟨e1_, e2_⟩ := zs2d s_ (by omega)
  have T50 : (s_ % 2 = 1 ∨ I_ 30 34 (s_ / 2) - zlv0 I_ v_ s_ ≤ I_ 7 0 2) → zY none 4 169 50 [some (zwR 7 0), some (zwI (Int32.ofNat v_)), some (zwI (Int32.ofNat s_)), some (zwI (zlv0 I_ v_ s_))] [] I_ L_ 0 (zRet none (zlvM I_ v_ s_) L_) := by
    intro hc_
    have e_ : zlvM I_ v_ s_ = zlv2 I_ v_ s_ (zlv0 I_ v_ s_) := if_pos hc_
    rw [e_]
    have hmq2 : zMq (zlv1 I_ v_ (zlv0 I_ v_ s_)) (s_ / 2) := zMq_set (zMq_s31 hmq) (by decide)
    refine zY.go 4 rfl ?_
    refine zY.sb rfl rfl hv (Or.inr rfl) ?_
    refine zY.go 7 rfl ?_
    refine zY.si rfl rfl hv ?_
    refine zY.go 11 rfl ?_
    show zY _ _ _ _ _ [zwI (Int32.ofNat s_ / 2), zwR 7 0, zwI (zlv1 I_ v_ (zlv0 I_ v_ s_) 7 0 2 + zlv0 I_ v_ s_), zwI (Int32.ofNat v_), zwR 30 21] (zlv1 I_ v_ (zlv0 I_ v_ s_)) _ _ _
    rw [e1_]
    refine zY.cr (zm150 hmq2) rfl rfl rfl rfl (Nat.le_of_ble_eq_true rfl) rfl (by decide) rfl (by decide) (by decide) ?_
    refine zY.go 1 rfl ?_
    refine zY.si rfl rfl hv ?_
    exact zY.rv rfl rfl ⟨rfl, rfl, rfl⟩
  refine zYm.of (Nat.le_of_ble_eq_true rfl) rfl ?_
  refine zY.go 5 rfl ?_
  refine zY.ai rfl z16v h26 ?_
  rw [show I_ 30 26 (16 * v_) = Int32.ofNat s_ from g1]
  refine zY.go 5 rfl ?_
  refine zY.ai rfl rfl hv ?_
  refine zY.go 2 rfl ?_
  refine zY.cr (zm145 g2) rfl rfl rfl rfl (Nat.le_of_ble_eq_true rfl) rfl (by decide) rfl (by decide) (by decide) ?_
  refine zY.cr zm146 rfl rfl rfl rfl (Nat.le_of_ble_eq_true rfl) rfl (by decide) rfl (by decide) (by decide) ?_
  refine zY.go 5 rfl ?_
  show zY _ _ _ _ _ [zwI (Int32.ofNat 1), zwI (Int32.ofNat s_ - Int32.ofNat s_ / 2 * 2)] _ _ _ _
  rw [e2_]
  refine zY.bn rfl (by omega) (by omega) (fun hp30 => ?_) (fun hp30 => ?_)
  · exact T50 (Or.inl hp30)
  · have hp30' : ¬ s_ % 2 = 1 := hp30
    refine zY.go 5 rfl ?_
    refine zY.ai rfl e1_ h60 ?_
    refine zY.go 4 rfl ?_
    refine zY.bc rfl (fun hp47 => ?_) (fun hp47 => ?_)
    · have e_ : zlvM I_ v_ s_ = I_ := if_neg (fun h_ => h_.elim hp30' (fun h_ => absurd h_ (Int32.not_le.mpr hp47)))
      rw [e_]
      exact zY.rv rfl rfl ⟨rfl, rfl, rfl⟩
    · exact T50 (Or.inr (Int32.not_lt.mp hp47))
theorem zle1 : ¬ (1 : Int32) ≤ 0 := by decide
theorem zm128a {I_ : zIn} {L_ : zLi} {x_ b_ : Int32} (hx : zbt x_ 0 (I_ 7 0 11 - 1) = false) : zYm 3 128 [zwR 7 0, zwI x_, zwI b_] I_ L_ 0 (zRet (some (zwI 0)) (zset I_ 7 0 0 1) L_) := by
  refine zYm.of (Nat.le_of_ble_eq_true rfl) rfl ?_
  refine zY.go 3 rfl ?_
  refine zY.cr zm129 rfl rfl rfl rfl (Nat.le_of_ble_eq_true rfl) rfl (by decide) rfl (by decide) (by decide) ?_
  rw [hx]
  refine zY.bi rfl (fun hp => absurd (show (0 : Int32) = 0 from rfl) hp) (fun _ => ?_)
  refine zY.go 5 rfl ?_
  show zY _ _ _ _ _ [zwI (zset I_ 7 0 0 1 7 0 0)] _ _ _ _
  rw [zset_is]
  refine zY.bi rfl (fun hp => absurd hp zle1) (fun _ => ?_)
  refine zY.go 1 rfl ?_
  exact zY.rb rfl rfl (Or.inl rfl) ⟨rfl, rfl, rfl⟩
theorem zm128b {I_ : zIn} {L_ : zLi} {v_ : Nat} {b_ : Int32} (hx : zbt (Int32.ofNat v_) 0 (I_ 7 0 11 - 1) = true) (hv : v_ < 4) (hb_ : b_ = 0 ∨ b_ = 1) : zYm 3 128 [zwR 7 0, zwI (Int32.ofNat v_), zwI b_] I_ L_ 0 (zRet (some (zwI (zbo (I_ 31 16 v_)))) (zset (zset I_ 7 0 0 0) 31 16 v_ b_) L_) := by
  refine zYm.of (Nat.le_of_ble_eq_true rfl) rfl ?_
  refine zY.go 3 rfl ?_
  refine zY.cr zm129 rfl rfl rfl rfl (Nat.le_of_ble_eq_true rfl) rfl (by decide) rfl (by decide) (by decide) ?_
  rw [hx]
  refine zY.bi rfl (fun _ => ?_) (fun hp => absurd (show ¬ (1 : Int32) = 0 by decide) hp)
  refine zY.go 4 rfl ?_
  show zY _ _ _ _ _ [zwI (zset I_ 7 0 0 0 7 0 0)] _ _ _ _
  rw [zset_is]
  refine zY.bi rfl (fun _ => ?_) (fun hp => absurd (show (0 : Int32) ≤ 0 by decide) hp)
  refine zY.go 3 rfl ?_
  refine zY.ab rfl rfl hv ?_
  rw [zset_ne (I_ := I_) (c' := 31) (by simp)]
  refine zY.go 5 rfl ?_
  refine zY.sb rfl rfl hv hb_ ?_
  refine zY.go 1 rfl ?_
  exact zY.rb rfl rfl (zbo_01 _) ⟨rfl, rfl, rfl⟩
