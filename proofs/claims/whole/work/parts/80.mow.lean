/-! CONTRACTS OF THE MODEL: nearest, isOwed, hasLeftFor -/
def zneL (I_ : zIn) (x_ : Int32) : Nat → Nat → Int32 → Int32
  | 0, _, w_ => w_
  | n_ + 1, k_, w_ => zneL I_ x_ n_ (k_ + 1) (if ¬ I_ 31 4 k_ = 0 ∧ zspm x_ (Int32.ofNat k_) < w_ then zspm x_ (Int32.ofNat k_) else w_)
def znea (I_ : zIn) (x_ : Int32) : Int32 := zneL I_ x_ 36 0 99
theorem zm133l (I_ : zIn) (L_ : zLi) (x_ : Int32) : ∀ (n_ k_ : Nat) (w_ : Int32) (k4_ : Option zW), n_ + k_ = 36 → zY none 3 133 5 [some (zwR 7 0), some (zwI x_), some (zwI w_), some (zwI (Int32.ofNat k_)), k4_] [] I_ L_ 0 (zRet (some (zwI (zneL I_ x_ n_ k_ w_))) I_ L_)
  | 0, k_, w_, k4_, hn => by
    refine zY.go 2 rfl ?_
    show zY _ _ _ _ _ [zwI (Int32.ofNat 36), zwI (Int32.ofNat k_)] _ _ _ _
    refine zY.bn rfl (by omega) (by omega) (fun _ => ?_) (fun hF => absurd (show 36 ≤ k_ by omega) hF)
    refine zY.go 1 rfl ?_
    exact zY.ri rfl rfl ⟨rfl, rfl, rfl⟩
  | n_ + 1, k_, w_, k4_, hn => by
    have ih_ := fun w' => zm133l I_ L_ x_ n_ (k_ + 1) w' (some (zwI (zspm x_ (Int32.ofNat k_)))) (by omega)
    rw [← zisucc] at ih_
    have h36 : k_ < zas31 4 := by show k_ < 36; omega
    unfold zneL
    refine zY.go 2 rfl ?_
    show zY _ _ _ _ _ [zwI (Int32.ofNat 36), zwI (Int32.ofNat k_)] _ _ _ _
    refine zY.bn rfl (by omega) (by omega) (fun hT_ => absurd hT_ (show ¬ 36 ≤ k_ by omega)) (fun _ => ?_)
    refine zY.go 3 rfl ?_
    refine zY.cr zm134 rfl rfl rfl rfl (Nat.le_of_ble_eq_true rfl) rfl (by decide) rfl (by decide) (by decide) ?_
    refine zY.go 4 rfl ?_
    refine zY.ab rfl rfl h36 ?_
    refine zY.bi rfl (fun hp25 => ?_) (fun hp25 => ?_)
    · rw [if_neg (fun h_ => h_.1 (zbo_0.mp hp25))]
      refine zY.go 4 rfl ?_
      exact ih_ w_
    · refine zY.go 2 rfl ?_
      refine zY.bc rfl (fun hp31 => ?_) (fun hp31 => ?_)
      · rw [if_neg (fun h_ => absurd h_.2 (Int32.not_lt.mpr hp31))]
        refine zY.go 4 rfl ?_
        exact ih_ w_
      · rw [if_pos ⟨fun h_ => hp25 (zbo_0.mpr h_), Int32.not_le.mp hp31⟩]
        refine zY.go 5 rfl ?_
        exact ih_ _
theorem zm133 {I_ : zIn} {L_ : zLi} {x_ : Int32} : zYm 3 133 [zwR 7 0, zwI x_] I_ L_ 0 (zRet (some (zwI (znea I_ x_))) I_ L_) := by
  refine zYm.of (Nat.le_of_ble_eq_true rfl) rfl ?_
  refine zY.go 4 rfl ?_
  exact zm133l I_ L_ x_ 36 0 99 _ (by decide)
def zwlk (I_ : zIn) (q_ : Nat) : Int32 := if ¬ I_ 7 0 3 = 0 ∧ ¬ I_ 30 7 q_ = 0 then I_ 30 9 q_ / 2 else I_ 30 9 q_
def zowM (I_ : zIn) (q_ : Nat) (x_ y_ : Int32) : Bool := decide (I_ 7 0 5 = 0) || decide (zwlk I_ q_ < znea I_ x_ + znea I_ y_)
theorem zm132 {I_ : zIn} {L_ : zLi} {q_ : Nat} {x_ y_ : Int32} (hq : q_ < 16) : zYm 4 132 [zwR 7 0, zwI (Int32.ofNat q_), zwI x_, zwI y_] I_ L_ 0 (zRb (zowM I_ q_ x_ y_, I_, L_)) := by
  have h7 : q_ < zas30 7 := hq
  have h9 : q_ < zas30 9 := hq
  have T33 : ∀ w_, w_ = zwlk I_ q_ → zY none 4 132 33 [some (zwR 7 0), some (zwI (Int32.ofNat q_)), some (zwI x_), some (zwI y_), none] [zwI w_] I_ L_ 0 (zRb (zowM I_ q_ x_ y_, I_, L_)) := by
    intro w_ hw
    subst hw
    unfold zowM
    refine zY.go 3 rfl ?_
    refine zY.bi rfl (fun hp39 => ?_) (fun hp39 => ?_)
    · rw [decide_eq_true (show I_ 7 0 5 = 0 from hp39)]
      refine zY.go 2 rfl ?_
      exact zY.rb rfl rfl (Or.inr rfl) ⟨rfl, rfl, rfl⟩
    · rw [decide_eq_false (show ¬ I_ 7 0 5 = 0 from hp39)]
      refine zY.go 2 rfl ?_
      refine zY.cr zm133 rfl rfl rfl rfl (Nat.le_of_ble_eq_true rfl) rfl (by decide) rfl (by decide) (by decide) ?_
      refine zY.go 2 rfl ?_
      refine zY.cr zm133 rfl rfl rfl rfl (Nat.le_of_ble_eq_true rfl) rfl (by decide) rfl (by decide) (by decide) ?_
      refine zY.go 2 rfl ?_
      refine zY.bc rfl (fun hp55 => ?_) (fun hp55 => ?_)
      · rw [decide_eq_false (Int32.not_lt.mpr hp55)]
        refine zY.go 1 rfl ?_
        exact zY.rb rfl rfl (Or.inl rfl) ⟨rfl, rfl, rfl⟩
      · rw [decide_eq_true (Int32.not_le.mp hp55)]
        refine zY.go 2 rfl ?_
        exact zY.rb rfl rfl (Or.inr rfl) ⟨rfl, rfl, rfl⟩
  refine zYm.of (Nat.le_of_ble_eq_true rfl) rfl ?_
  refine zY.go 2 rfl ?_
  refine zY.bi rfl (fun hp4 => ?_) (fun hp4 => ?_)
  · refine zY.go 3 rfl ?_
    refine zY.ai rfl rfl h9 ?_
    exact T33 _ (if_neg (fun h_ => h_.1 (zbo_0.mp hp4))).symm
  · refine zY.go 3 rfl ?_
    refine zY.ai rfl rfl h7 ?_
    refine zY.bi rfl (fun hp13 => ?_) (fun hp13 => ?_)
    · refine zY.go 3 rfl ?_
      refine zY.ai rfl rfl h9 ?_
      exact T33 _ (if_neg (fun h_ => h_.2 hp13)).symm
    · refine zY.go 3 rfl ?_
      refine zY.ai rfl rfl h9 ?_
      refine zY.go 3 rfl ?_
      exact T33 _ (if_pos ⟨fun h_ => hp4 (zbo_0.mpr h_), hp13⟩).symm
def zhlf (I_ : zIn) (v_ r_ : Nat) : Bool := decide (¬ I_ 31 19 v_ = 0) && decide (I_ 30 26 (16 * v_) = Int32.ofNat (2 * r_))
theorem z16v {v_ : Nat} : 16 * Int32.ofNat v_ = Int32.ofNat (16 * v_) := by rw [Int32.ofNat_mul]; rfl
theorem zm160 {I_ : zIn} {L_ : zLi} {v_ r_ : Nat} (hr : r_ < 60) (hv : v_ < 4) (hrv : I_ 30 35 r_ = Int32.ofNat v_) : zYm 1 160 [zwR 7 0, zwI (Int32.ofNat r_)] I_ L_ 0 (zRb (zhlf I_ v_ r_, I_, L_)) := by
  have h35 : r_ < zas30 35 := hr
  have h26 : 16 * v_ < zas30 26 := by show 16 * v_ < 64; omega
  unfold zhlf
  refine zYm.of (Nat.le_of_ble_eq_true rfl) rfl ?_
  refine zY.go 3 rfl ?_
  refine zY.ai rfl rfl h35 ?_
  rw [hrv]
  refine zY.go 4 rfl ?_
  refine zY.ab rfl rfl hv ?_
  refine zY.bi rfl (fun hp13 => ?_) (fun hp13 => ?_)
  · rw [decide_eq_false (fun h_ => h_ (zbo_0.mp hp13))]
    refine zY.go 1 rfl ?_
    exact zY.rb rfl rfl (Or.inl rfl) ⟨rfl, rfl, rfl⟩
  · rw [decide_eq_true (show ¬ I_ 31 19 v_ = 0 from fun h_ => hp13 (zbo_0.mpr h_))]
    refine zY.go 5 rfl ?_
    refine zY.ai rfl z16v h26 ?_
    refine zY.go 3 rfl ?_
    show zY _ _ _ _ _ [zwI (2 * Int32.ofNat r_), zwI (I_ 30 26 (16 * v_))] _ _ _ _
    rw [z2q]
    refine zY.bc rfl (fun hp28 => ?_) (fun hp28 => ?_)
    · rw [decide_eq_false (show ¬ I_ 30 26 (16 * v_) = Int32.ofNat (2 * r_) from hp28)]
      refine zY.go 1 rfl ?_
      exact zY.rb rfl rfl (Or.inl rfl) ⟨rfl, rfl, rfl⟩
    · rw [decide_eq_true (Decidable.byContradiction hp28)]
      refine zY.go 2 rfl ?_
      exact zY.rb rfl rfl (Or.inr rfl) ⟨rfl, rfl, rfl⟩
