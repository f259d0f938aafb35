/-! CONTRACTS OF THE MODEL: seatsAnew, patterns, count, money -/
theorem zm183a {I_ : zIn} {L_ : zLi} {x_ : Int32} (hx : zbt x_ 0 (I_ 7 0 11 - 1) = false) : zYm 3 183 [zwR 7 0, zwI x_] I_ L_ 0 (zRet (some (zwI 0)) (zset I_ 7 0 0 1) L_) := by
  have T74 : zY none 3 183 74 [some (zwR 7 0), some (zwI x_), some (zwI 0), some (zwI 0)] [] (zset I_ 7 0 0 1) L_ 0 (zRet (some (zwI 0)) (zset I_ 7 0 0 1) L_) := by
    refine zY.go 1 rfl ?_
    exact zY.ri rfl rfl ⟨rfl, rfl, rfl⟩
  refine zYm.of (Nat.le_of_ble_eq_true rfl) rfl ?_
  refine zY.go 3 rfl ?_
  refine zY.cr zm129 rfl rfl rfl rfl (Nat.le_of_ble_eq_true rfl) rfl (by decide) rfl (by decide) (by decide) ?_
  rw [hx]
  refine zY.bi rfl (fun hp => absurd (show (0 : Int32) = 0 from rfl) hp) (fun _ => ?_)
  refine zY.go 10 rfl ?_
  refine zY.bc rfl (fun _ => T74) (fun _ => ?_)
  refine zY.go 2 rfl ?_
  show zY _ _ _ _ _ [zwI (zset I_ 7 0 0 1 7 0 0)] _ _ _ _
  rw [zset_is]
  exact zY.bi rfl (fun _ => T74) (fun hp => absurd (show ¬ (1 : Int32) = 0 by decide) hp)
def zsqN (J_ : zIn) (v_ k_ : Nat) : Int32 := if J_ 30 32 k_ = 1 ∧ J_ 30 35 k_ = Int32.ofNat v_ then zmse J_ k_ else 0
def zsqL (J_ : zIn) (v_ : Nat) : Nat → Nat → Int32 → Int32
  | 0, _, x_ => x_
  | n_ + 1, k_, x_ => zsqL J_ v_ n_ (k_ + 1) (x_ + zsqN J_ v_ k_)
theorem zm183l {J_ : zIn} {L_ : zLi} {v_ M_ : Nat} (hM_ : M_ ≤ 60) (h28 : J_ 7 0 28 = Int32.ofNat M_) (h0 : J_ 7 0 0 = 0) (hm_ : ∀ k_, k_ < M_ → zMq J_ k_) : ∀ (n_ k_ : Nat) (x_ : Int32), n_ + k_ = M_ → zY none 3 183 21 [some (zwR 7 0), some (zwI (Int32.ofNat v_)), some (zwI x_), some (zwI (Int32.ofNat k_))] [] J_ L_ 0 (zRet (some (zwI (zsqL J_ v_ n_ k_ x_))) J_ L_)
  | 0, k_, x_, h_ => by
    refine zY.go 3 rfl ?_
    show zY _ _ _ _ _ [zwI (J_ 7 0 28), zwI (Int32.ofNat k_)] _ _ _ _
    rw [h28]
    refine zY.bn rfl (by omega) (by omega) (fun _ => ?_) (fun hF => absurd (show M_ ≤ k_ by omega) hF)
    refine zY.go 1 rfl ?_
    exact zY.ri rfl rfl ⟨rfl, rfl, rfl⟩
  | n_ + 1, k_, x_, h_ => by
    have ih_ := fun (x_ : Int32) => zm183l (L_ := L_) (v_ := v_) hM_ h28 h0 hm_ n_ (k_ + 1) x_ (by omega)
    simp only [← zisucc] at ih_
    have hk : k_ < 60 := by omega
    have T65 : ¬ (J_ 30 32 k_ = 1 ∧ J_ 30 35 k_ = Int32.ofNat v_) → zY none 3 183 65 [some (zwR 7 0), some (zwI (Int32.ofNat v_)), some (zwI x_), some (zwI (Int32.ofNat k_))] [zwI x_] J_ L_ 0 (zRet (some (zwI (zsqL J_ v_ (n_ + 1) k_ x_))) J_ L_) := by
      intro hc_
      unfold zsqL zsqN
      rw [if_neg hc_]
      refine zY.go 5 rfl ?_
      exact ih_ _
    refine zY.go 3 rfl ?_
    show zY _ _ _ _ _ [zwI (J_ 7 0 28), zwI (Int32.ofNat k_)] _ _ _ _
    rw [h28]
    refine zY.bn rfl (by omega) (by omega) (fun hT_ => absurd hT_ (show ¬ M_ ≤ k_ by omega)) (fun _ => ?_)
    refine zY.go 2 rfl ?_
    show zY _ _ _ _ _ [zwI (J_ 7 0 0)] _ _ _ _
    rw [h0]
    refine zY.bi rfl (fun hp => absurd (show (0 : Int32) = 0 from rfl) hp) (fun _ => ?_)
    refine zY.go 4 rfl ?_
    refine zY.ai rfl rfl hk ?_
    refine zY.go 1 rfl ?_
    refine zY.bc rfl (fun hp => T65 (fun e_ => hp e_.1)) (fun hp => ?_)
    refine zY.go 3 rfl ?_
    refine zY.ai rfl rfl hk ?_
    refine zY.go 1 rfl ?_
    refine zY.bc rfl (fun hp2 => T65 (fun e_ => hp2 e_.2)) (fun hp2 => ?_)
    have e_ : zsqL J_ v_ (n_ + 1) k_ x_ = zsqL J_ v_ n_ (k_ + 1) (x_ + zmse J_ k_) := by
      have hc_ : J_ 30 32 k_ = 1 ∧ J_ 30 35 k_ = Int32.ofNat v_ := ⟨Decidable.byContradiction hp, Decidable.byContradiction hp2⟩
      show zsqL J_ v_ n_ (k_ + 1) (x_ + zsqN J_ v_ k_) = _
      rw [show zsqN J_ v_ k_ = zmse J_ k_ from if_pos hc_]
    rw [e_]
    refine zY.go 2 rfl ?_
    refine zY.cr (zm155 (hm_ k_ (by omega))) rfl rfl rfl rfl (Nat.le_of_ble_eq_true rfl) rfl (by decide) rfl (by decide) (by decide) ?_
    refine zY.go 5 rfl ?_
    exact ih_ _
theorem zm183b {I_ J_ : zIn} {L_ : zLi} {v_ M_ : Nat} (hx : zbt (Int32.ofNat v_) 0 (I_ 7 0 11 - 1) = true) (hJ : zset I_ 7 0 0 0 = J_) (hM_ : M_ ≤ 60) (h28 : J_ 7 0 28 = Int32.ofNat M_) (hm_ : ∀ k_, k_ < M_ → zMq J_ k_) : zYm 3 183 [zwR 7 0, zwI (Int32.ofNat v_)] I_ L_ 0 (zRet (some (zwI (zsqL J_ v_ M_ 0 0))) J_ L_) := by
  refine zYm.of (Nat.le_of_ble_eq_true rfl) rfl ?_
  refine zY.go 3 rfl ?_
  refine zY.cr zm129 rfl rfl rfl rfl (Nat.le_of_ble_eq_true rfl) rfl (by decide) rfl (by decide) (by decide) ?_
  rw [hx]
  refine zY.bi rfl (fun _ => ?_) (fun hp => absurd (show ¬ (1 : Int32) = 0 by decide) hp)
  refine zY.go 6 rfl ?_
  change zY _ _ _ _ _ _ (zset I_ 7 0 0 0) _ _ _
  rw [hJ]
  exact zm183l hM_ h28 (by rw [← hJ]; exact zset_is) hm_ M_ 0 0 (by omega)
def zptA (J_ : zIn) (k_ : Nat) : Int32 := if J_ 30 33 k_ = 1 ∨ J_ 30 33 k_ = 2 then 0 else 1
def zptR (J_ : zIn) (k_ : Nat) : Int32 := if J_ 30 33 k_ = 3 then 1 else 0
def zptS (J_ : zIn) (k_ : Nat) : Int32 := if J_ 30 32 k_ = 2 then 1 else 0
def zptB (J_ : zIn) (k_ : Nat) : Int32 := if J_ 30 32 k_ = 2 ∧ (zilM J_ k_ = true ∨ zigM J_ k_ = true) then 1 else 0
def zptV (a_ r_ s_ b_ : Int32) : Int32 := (if 2 ≤ r_ ∧ a_ < 20 * r_ then 1 else 0) + (if s_ < 10 * b_ then 2 else 0)
def zptL (J_ : zIn) : Nat → Nat → Int32 → Int32 → Int32 → Int32 → Int32
  | 0, _, a_, r_, s_, b_ => zptV a_ r_ s_ b_
  | n_ + 1, k_, a_, r_, s_, b_ => if J_ 7 0 1 - 20 < J_ 30 39 k_ then zptL J_ n_ (k_ + 1) (a_ + zptA J_ k_) (r_ + zptR J_ k_) (s_ + zptS J_ k_) (b_ + zptB J_ k_) else zptL J_ n_ (k_ + 1) a_ r_ s_ b_
theorem zm187t {J_ : zIn} {L_ : zLi} {a_ r_ s_ b_ w_ t_ : Int32} : zY none 6 187 174 [some (zwR 7 0), some (zwI a_), some (zwI r_), some (zwI s_), some (zwI b_), some (zwI w_)] [zwI t_] J_ L_ 0 (zRet (some (zwI (t_ + (if s_ < 10 * b_ then 2 else 0)))) J_ L_) := by
  refine zY.go 4 rfl ?_
  refine zY.bc rfl (fun hp => ?_) (fun hp => ?_)
  · have hc_ : ¬ s_ < 10 * b_ := Int32.not_lt.mpr hp
    rw [if_neg hc_]
    refine zY.go 2 rfl ?_
    exact zY.ri rfl rfl ⟨rfl, rfl, rfl⟩
  · have hc_ : s_ < 10 * b_ := Int32.not_le.mp hp
    rw [if_pos hc_]
    refine zY.go 3 rfl ?_
    exact zY.ri rfl rfl ⟨rfl, rfl, rfl⟩
theorem zm187l {J_ : zIn} {L_ : zLi} {M_ : Nat} (hM_ : M_ ≤ 60) (h28 : J_ 7 0 28 = Int32.ofNat M_) : ∀ (n_ k_ : Nat) (a_ r_ s_ b_ : Int32), n_ + k_ = M_ → zY none 6 187 17 [some (zwR 7 0), some (zwI a_), some (zwI r_), some (zwI s_), some (zwI b_), some (zwI (Int32.ofNat k_))] [] J_ L_ 0 (zRet (some (zwI (zptL J_ n_ k_ a_ r_ s_ b_))) J_ L_)
  | 0, k_, a_, r_, s_, b_, h_ => by
    have T173 : ¬ (2 ≤ r_ ∧ a_ < 20 * r_) → zY none 6 187 173 [some (zwR 7 0), some (zwI a_), some (zwI r_), some (zwI s_), some (zwI b_), some (zwI (Int32.ofNat k_))] [] J_ L_ 0 (zRet (some (zwI (zptL J_ 0 k_ a_ r_ s_ b_))) J_ L_) := by
      intro hc_
      unfold zptL zptV
      rw [if_neg hc_]
      refine zY.go 1 rfl ?_
      exact zm187t
    refine zY.go 3 rfl ?_
    show zY _ _ _ _ _ [zwI (J_ 7 0 28), zwI (Int32.ofNat k_)] _ _ _ _
    rw [h28]
    refine zY.bn rfl (by omega) (by omega) (fun _ => ?_) (fun hF => absurd (show M_ ≤ k_ by omega) hF)
    refine zY.go 2 rfl ?_
    refine zY.bc rfl (fun hp => T173 (fun e_ => Int32.not_le.mpr hp e_.1)) (fun hp => ?_)
    refine zY.go 4 rfl ?_
    refine zY.bc rfl (fun hp2 => T173 (fun e_ => Int32.not_lt.mpr hp2 e_.2)) (fun hp2 => ?_)
    have hc_ : 2 ≤ r_ ∧ a_ < 20 * r_ := ⟨Int32.not_lt.mp hp, Int32.not_le.mp hp2⟩
    unfold zptL zptV
    rw [if_pos hc_]
    refine zY.go 2 rfl ?_
    exact zm187t
  | n_ + 1, k_, a_, r_, s_, b_, h_ => by
    have ih_ := fun (a_ r_ s_ b_ : Int32) => zm187l (L_ := L_) hM_ h28 n_ (k_ + 1) a_ r_ s_ b_ (by omega)
    simp only [← zisucc] at ih_
    have hk : k_ < 60 := by omega
    refine zY.go 3 rfl ?_
    show zY _ _ _ _ _ [zwI (J_ 7 0 28), zwI (Int32.ofNat k_)] _ _ _ _
    rw [h28]
    refine zY.bn rfl (by omega) (by omega) (fun hT_ => absurd hT_ (show ¬ M_ ≤ k_ by omega)) (fun _ => ?_)
    refine zY.go 3 rfl ?_
    refine zY.ai rfl rfl hk ?_
    refine zY.go 4 rfl ?_
    refine zY.bc rfl (fun hp => ?_) (fun hp => ?_)
    · have hc_ : ¬ J_ 7 0 1 - 20 < J_ 30 39 k_ := Int32.not_lt.mpr hp
      unfold zptL
      rw [if_neg hc_]
      refine zY.go 2 rfl ?_
      exact ih_ a_ r_ s_ b_
    have hc_ : J_ 7 0 1 - 20 < J_ 30 39 k_ := Int32.not_le.mp hp
    unfold zptL
    rw [if_pos hc_]
    have T147 : ∀ a_ r_ s_ x_, x_ = zptB J_ k_ → zY none 6 187 147 [some (zwR 7 0), some (zwI a_), some (zwI r_), some (zwI s_), some (zwI b_), some (zwI (Int32.ofNat k_))] [zwI x_, zwI b_] J_ L_ 0 (zRet (some (zwI (zptL J_ n_ (k_ + 1) a_ r_ s_ (b_ + zptB J_ k_)))) J_ L_) := by
      intro a_ r_ s_ x_ hx
      rw [← hx]
      refine zY.go 4 rfl ?_
      exact ih_ a_ r_ s_ _
    have T146 : ∀ a_ r_ s_, ¬ (J_ 30 32 k_ = 2 ∧ (zilM J_ k_ = true ∨ zigM J_ k_ = true)) → zY none 6 187 146 [some (zwR 7 0), some (zwI a_), some (zwI r_), some (zwI s_), some (zwI b_), some (zwI (Int32.ofNat k_))] [zwI b_] J_ L_ 0 (zRet (some (zwI (zptL J_ n_ (k_ + 1) a_ r_ s_ (b_ + zptB J_ k_)))) J_ L_) := by
      intro a_ r_ s_ hc_
      refine zY.go 1 rfl ?_
      exact T147 a_ r_ s_ 0 (if_neg hc_).symm
    have T142 : ∀ a_ r_ s_, (J_ 30 32 k_ = 2 ∧ (zilM J_ k_ = true ∨ zigM J_ k_ = true)) → zY none 6 187 142 [some (zwR 7 0), some (zwI a_), some (zwI r_), some (zwI s_), some (zwI b_), some (zwI (Int32.ofNat k_))] [zwI b_] J_ L_ 0 (zRet (some (zwI (zptL J_ n_ (k_ + 1) a_ r_ s_ (b_ + zptB J_ k_)))) J_ L_) := by
      intro a_ r_ s_ hc_
      refine zY.go 2 rfl ?_
      exact T147 a_ r_ s_ 1 (if_pos hc_).symm
    have T109 : ∀ a_ r_ x_, x_ = zptS J_ k_ → zY none 6 187 109 [some (zwR 7 0), some (zwI a_), some (zwI r_), some (zwI s_), some (zwI b_), some (zwI (Int32.ofNat k_))] [zwI x_, zwI s_] J_ L_ 0 (zRet (some (zwI (zptL J_ n_ (k_ + 1) a_ r_ (s_ + zptS J_ k_) (b_ + zptB J_ k_)))) J_ L_) := by
      intro a_ r_ x_ hx
      rw [← hx]
      refine zY.go 6 rfl ?_
      refine zY.ai rfl rfl hk ?_
      refine zY.go 1 rfl ?_
      refine zY.bc rfl (fun hp => T146 a_ r_ _ (fun e_ => hp e_.1)) (fun hp => ?_)
      have h2 : J_ 30 32 k_ = 2 := Decidable.byContradiction hp
      refine zY.go 2 rfl ?_
      refine zY.cr (zm179 hk) rfl rfl rfl rfl (Nat.le_of_ble_eq_true rfl) rfl (by decide) rfl (by decide) (by decide) ?_
      refine zY.wn (b_ := zilM J_ k_) rfl (fun hl => T142 a_ r_ _ ⟨h2, Or.inl hl⟩) (fun hl => ?_)
      refine zY.go 2 rfl ?_
      refine zY.cr (zm180 hk) rfl rfl rfl rfl (Nat.le_of_ble_eq_true rfl) rfl (by decide) rfl (by decide) (by decide) ?_
      refine zY.we (b_ := zigM J_ k_) rfl (fun hg => T146 a_ r_ _ (fun e_ => e_.2.elim (fun e_ => by rw [hl] at e_; cases e_) (fun e_ => by rw [hg] at e_; cases e_))) (fun hg => T142 a_ r_ _ ⟨h2, Or.inr hg⟩)
    have T90 : ∀ a_ x_, x_ = zptR J_ k_ → zY none 6 187 90 [some (zwR 7 0), some (zwI a_), some (zwI r_), some (zwI s_), some (zwI b_), some (zwI (Int32.ofNat k_))] [zwI x_, zwI r_] J_ L_ 0 (zRet (some (zwI (zptL J_ n_ (k_ + 1) a_ (r_ + zptR J_ k_) (s_ + zptS J_ k_) (b_ + zptB J_ k_)))) J_ L_) := by
      intro a_ x_ hx
      rw [← hx]
      refine zY.go 6 rfl ?_
      refine zY.ai rfl rfl hk ?_
      refine zY.go 1 rfl ?_
      refine zY.bc rfl (fun hp => ?_) (fun hp => ?_)
      · refine zY.go 1 rfl ?_
        exact T109 a_ _ 0 (if_neg hp).symm
      · refine zY.go 2 rfl ?_
        exact T109 a_ _ 1 (if_pos (Decidable.byContradiction hp)).symm
    have T71 : ∀ x_, x_ = zptA J_ k_ → zY none 6 187 71 [some (zwR 7 0), some (zwI a_), some (zwI r_), some (zwI s_), some (zwI b_), some (zwI (Int32.ofNat k_))] [zwI x_, zwI a_] J_ L_ 0 (zRet (some (zwI (zptL J_ n_ (k_ + 1) (a_ + zptA J_ k_) (r_ + zptR J_ k_) (s_ + zptS J_ k_) (b_ + zptB J_ k_)))) J_ L_) := by
      intro x_ hx
      rw [← hx]
      refine zY.go 6 rfl ?_
      refine zY.ai rfl rfl hk ?_
      refine zY.go 1 rfl ?_
      refine zY.bc rfl (fun hp => ?_) (fun hp => ?_)
      · refine zY.go 1 rfl ?_
        exact T90 _ 0 (if_neg hp).symm
      · refine zY.go 2 rfl ?_
        exact T90 _ 1 (if_pos (Decidable.byContradiction hp)).symm
    have T66 : (J_ 30 33 k_ = 1 ∨ J_ 30 33 k_ = 2) → zY none 6 187 66 [some (zwR 7 0), some (zwI a_), some (zwI r_), some (zwI s_), some (zwI b_), some (zwI (Int32.ofNat k_))] [zwI a_] J_ L_ 0 (zRet (some (zwI (zptL J_ n_ (k_ + 1) (a_ + zptA J_ k_) (r_ + zptR J_ k_) (s_ + zptS J_ k_) (b_ + zptB J_ k_)))) J_ L_) := by
      intro hc_
      refine zY.go 2 rfl ?_
      exact T71 0 (if_pos hc_).symm
    refine zY.go 4 rfl ?_
    refine zY.ai rfl rfl hk ?_
    refine zY.go 1 rfl ?_
    refine zY.bc rfl (fun hp => T66 (Or.inl hp)) (fun hp => ?_)
    refine zY.go 3 rfl ?_
    refine zY.ai rfl rfl hk ?_
    refine zY.go 1 rfl ?_
    refine zY.bc rfl (fun hp2 => ?_) (fun hp2 => T66 (Or.inr (Decidable.byContradiction hp2)))
    refine zY.go 1 rfl ?_
    exact T71 1 (if_neg (fun e_ => e_.elim hp hp2)).symm
theorem zm187 {I_ J_ : zIn} {L_ : zLi} {M_ : Nat} (hJ : zset I_ 7 0 0 0 = J_) (hM_ : M_ ≤ 60) (h28 : J_ 7 0 28 = Int32.ofNat M_) : zYm 6 187 [zwR 7 0] I_ L_ 0 (zRet (some (zwI (zptL J_ M_ 0 0 0 0 0))) J_ L_) := by
  refine zYm.of (Nat.le_of_ble_eq_true rfl) rfl ?_
  refine zY.go 13 rfl ?_
  change zY _ _ _ _ _ _ (zset I_ 7 0 0 0) _ _ _
  rw [hJ]
  exact zm187l hM_ h28 M_ 0 0 0 0 0 (by omega)
def zctM (J_ : zIn) (r_ : Nat) : Nat → Bool
  | 7 => zilM J_ r_
  | 8 => zigM J_ r_
  | 9 => decide (¬ J_ 31 40 r_ = 0)
  | k_ => decide (J_ 30 32 r_ = Int32.ofNat k_)
def zctL (J_ : zIn) (w_ : Nat) : Nat → Nat → Int32 → Int32
  | 0, _, x_ => x_
  | n_ + 1, k_, x_ => zctL J_ w_ n_ (k_ + 1) (x_ + if zctM J_ k_ w_ = true then 1 else 0)
theorem zm188a {I_ : zIn} {L_ : zLi} {x_ : Int32} (hx : zbt x_ 0 9 = false) : zYm 6 188 [zwR 7 0, zwI x_] I_ L_ 0 (zRet (some (zwI 0)) (zset I_ 7 0 0 1) L_) := by
  have T118 : zY none 6 188 118 [some (zwR 7 0), some (zwI x_), some (zwI 0), some (zwI 0), none] [] (zset I_ 7 0 0 1) L_ 0 (zRet (some (zwI 0)) (zset I_ 7 0 0 1) L_) := by
    refine zY.go 1 rfl ?_
    exact zY.ri rfl rfl ⟨rfl, rfl, rfl⟩
  refine zYm.of (Nat.le_of_ble_eq_true rfl) rfl ?_
  refine zY.go 5 rfl ?_
  refine zY.cr zm123 rfl rfl rfl rfl (Nat.le_of_ble_eq_true rfl) rfl (by decide) rfl (by decide) (by decide) ?_
  rw [hx]
  refine zY.bi rfl (fun hp => absurd (show (0 : Int32) = 0 from rfl) hp) (fun _ => ?_)
  refine zY.go 10 rfl ?_
  refine zY.bc rfl (fun _ => T118) (fun _ => ?_)
  refine zY.go 2 rfl ?_
  show zY _ _ _ _ _ [zwI (zset I_ 7 0 0 1 7 0 0)] _ _ _ _
  rw [zset_is]
  exact zY.bi rfl (fun _ => T118) (fun hp => absurd (show ¬ (1 : Int32) = 0 by decide) hp)
theorem zm188l {J_ : zIn} {L_ : zLi} {w_ M_ : Nat} (hw : w_ ≤ 9) (hM_ : M_ ≤ 60) (h28 : J_ 7 0 28 = Int32.ofNat M_) (h0 : J_ 7 0 0 = 0) : ∀ (n_ k_ : Nat) (x_ : Int32) (k4_ : Option zW), n_ + k_ = M_ → zY none 6 188 24 [some (zwR 7 0), some (zwI (Int32.ofNat w_)), some (zwI x_), some (zwI (Int32.ofNat k_)), k4_] [] J_ L_ 0 (zRet (some (zwI (zctL J_ w_ n_ k_ x_))) J_ L_)
  | 0, k_, x_, k4_, h_ => by
    refine zY.go 3 rfl ?_
    show zY _ _ _ _ _ [zwI (J_ 7 0 28), zwI (Int32.ofNat k_)] _ _ _ _
    rw [h28]
    refine zY.bn rfl (by omega) (by omega) (fun _ => ?_) (fun hF => absurd (show M_ ≤ k_ by omega) hF)
    refine zY.go 1 rfl ?_
    exact zY.ri rfl rfl ⟨rfl, rfl, rfl⟩
  | n_ + 1, k_, x_, k4_, h_ => by
    have ih_ := fun (x_ : Int32) (k4_ : Option zW) => zm188l (L_ := L_) hw hM_ h28 h0 n_ (k_ + 1) x_ k4_ (by omega)
    simp only [← zisucc] at ih_
    have hk : k_ < 60 := by omega
    have T97 : zY none 6 188 97 [some (zwR 7 0), some (zwI (Int32.ofNat w_)), some (zwI x_), some (zwI (Int32.ofNat k_)), k4_] [zwI (if zctM J_ k_ w_ = true then 1 else 0)] J_ L_ 0 (zRet (some (zwI (zctL J_ w_ (n_ + 1) k_ x_))) J_ L_) := by
      unfold zctL
      refine zY.go 3 rfl ?_
      refine zY.we rfl (fun hc_ => ?_) (fun hc_ => ?_)
      · rw [show (if zctM J_ k_ w_ = true then (1 : Int32) else 0) = 0 by simp [hc_]]
        refine zY.go 5 rfl ?_
        exact ih_ _ _
      · rw [show (if zctM J_ k_ w_ = true then (1 : Int32) else 0) = 1 by simp [hc_]]
        refine zY.go 6 rfl ?_
        exact ih_ _ _
    refine zY.go 3 rfl ?_
    show zY _ _ _ _ _ [zwI (J_ 7 0 28), zwI (Int32.ofNat k_)] _ _ _ _
    rw [h28]
    refine zY.bn rfl (by omega) (by omega) (fun hT_ => absurd hT_ (show ¬ M_ ≤ k_ by omega)) (fun _ => ?_)
    refine zY.go 2 rfl ?_
    show zY _ _ _ _ _ [zwI (J_ 7 0 0)] _ _ _ _
    rw [h0]
    refine zY.bi rfl (fun hp => absurd (show (0 : Int32) = 0 from rfl) hp) (fun _ => ?_)
    refine zY.go 2 rfl ?_
    show zY _ _ _ _ _ [zwI (Int32.ofNat 7), zwI (Int32.ofNat w_)] _ _ _ _
    refine zY.bn rfl (by omega) (by omega) (fun h7 => ?_) (fun h7 => ?_)
    · refine zY.go 2 rfl ?_
      show zY _ _ _ _ _ [zwI (Int32.ofNat 8), zwI (Int32.ofNat w_)] _ _ _ _
      refine zY.bn rfl (by omega) (by omega) (fun h8 => ?_) (fun h8 => ?_)
      · refine zY.go 2 rfl ?_
        show zY _ _ _ _ _ [zwI (Int32.ofNat 9), zwI (Int32.ofNat w_)] _ _ _ _
        refine zY.bn rfl (by omega) (by omega) (fun h9 => ?_) (fun h9 => ?_)
        · have hc_ : zctM J_ k_ w_ = decide (J_ 30 32 k_ = Int32.ofNat w_) := by
            unfold zctM
            split
            · exact absurd rfl h7
            · exact absurd rfl h8
            · exact absurd rfl h9
            · rfl
          rw [hc_] at T97
          refine zY.go 3 rfl ?_
          refine zY.ai rfl rfl hk ?_
          refine zY.go 1 rfl ?_
          refine zY.bc rfl (fun hp => ?_) (fun hp => ?_)
          · rw [show (if decide (J_ 30 32 k_ = Int32.ofNat w_) = true then (1 : Int32) else 0) = 0 by rw [decide_eq_false hp]; rfl] at T97
            refine zY.go 1 rfl ?_
            exact T97
          · rw [show (if decide (J_ 30 32 k_ = Int32.ofNat w_) = true then (1 : Int32) else 0) = 1 by rw [decide_eq_true (Decidable.byContradiction hp)]; rfl] at T97
            refine zY.go 2 rfl ?_
            exact T97
        · have hw9 : w_ = 9 := Decidable.byContradiction h9
          subst hw9
          rw [show (if zctM J_ k_ 9 = true then (1 : Int32) else 0) = zbo (J_ 31 40 k_) by
            unfold zctM zbo
            by_cases hc_ : J_ 31 40 k_ = 0 <;> simp [hc_]] at T97
          refine zY.go 3 rfl ?_
          refine zY.ab rfl rfl hk ?_
          refine zY.go 1 rfl ?_
          exact T97
      · have hw8 : w_ = 8 := Decidable.byContradiction h8
        subst hw8
        refine zY.go 2 rfl ?_
        refine zY.cr (zm180 hk) rfl rfl rfl rfl (Nat.le_of_ble_eq_true rfl) rfl (by decide) rfl (by decide) (by decide) ?_
        refine zY.go 1 rfl ?_
        exact T97
    · have hw7 : w_ = 7 := Decidable.byContradiction h7
      subst hw7
      refine zY.go 2 rfl ?_
      refine zY.cr (zm179 hk) rfl rfl rfl rfl (Nat.le_of_ble_eq_true rfl) rfl (by decide) rfl (by decide) (by decide) ?_
      refine zY.go 1 rfl ?_
      exact T97
theorem zm188b {I_ J_ : zIn} {L_ : zLi} {w_ M_ : Nat} (hx : zbt (Int32.ofNat w_) 0 9 = true) (hw : w_ ≤ 9) (hJ : zset I_ 7 0 0 0 = J_) (hM_ : M_ ≤ 60) (h28 : J_ 7 0 28 = Int32.ofNat M_) : zYm 6 188 [zwR 7 0, zwI (Int32.ofNat w_)] I_ L_ 0 (zRet (some (zwI (zctL J_ w_ M_ 0 0))) J_ L_) := by
  refine zYm.of (Nat.le_of_ble_eq_true rfl) rfl ?_
  refine zY.go 5 rfl ?_
  refine zY.cr zm123 rfl rfl rfl rfl (Nat.le_of_ble_eq_true rfl) rfl (by decide) rfl (by decide) (by decide) ?_
  rw [hx]
  refine zY.bi rfl (fun _ => ?_) (fun hp => absurd (show ¬ (1 : Int32) = 0 by decide) hp)
  refine zY.go 6 rfl ?_
  change zY _ _ _ _ _ _ (zset I_ 7 0 0 0) _ _ _
  rw [hJ]
  exact zm188l hw hM_ h28 (by rw [← hJ]; exact zset_is) M_ 0 0 none (by omega)
def zmoN (J_ : zIn) (k_ : Nat) : Int32 := if J_ 30 32 k_ = 2 ∧ zilM J_ k_ = false ∧ zigM J_ k_ = false then 200 + 20 * zspm (J_ 30 30 k_) (J_ 30 31 k_) else 0
def zmoL (J_ : zIn) : Nat → Nat → Int64 → Int64
  | 0, _, x_ => x_
  | n_ + 1, k_, x_ => zmoL J_ n_ (k_ + 1) (x_ + (zmoN J_ k_).toInt64)
theorem zm189l {J_ : zIn} {L_ : zLi} {M_ : Nat} (hM_ : M_ ≤ 60) (h28 : J_ 7 0 28 = Int32.ofNat M_) : ∀ (n_ k_ : Nat) (x_ : Int64) (k4_ : Option zW), n_ + k_ = M_ → zY none 6 189 9 [some (zwR 7 0), some (zwL x_), none, some (zwI (Int32.ofNat k_)), k4_] [] J_ L_ 0 (zRet (some (zwL (zmoL J_ n_ k_ x_))) J_ L_)
  | 0, k_, x_, k4_, h_ => by
    refine zY.go 3 rfl ?_
    show zY _ _ _ _ _ [zwI (J_ 7 0 28), zwI (Int32.ofNat k_)] _ _ _ _
    rw [h28]
    refine zY.bn rfl (by omega) (by omega) (fun _ => ?_) (fun hF => absurd (show M_ ≤ k_ by omega) hF)
    refine zY.go 1 rfl ?_
    exact zY.rl rfl rfl ⟨rfl, rfl, rfl⟩
  | n_ + 1, k_, x_, k4_, h_ => by
    have ih_ := fun (x_ : Int64) (k4_ : Option zW) => zm189l (L_ := L_) hM_ h28 n_ (k_ + 1) x_ k4_ (by omega)
    simp only [← zisucc] at ih_
    have hk : k_ < 60 := by omega
    have T47 : ¬ (J_ 30 32 k_ = 2 ∧ zilM J_ k_ = false ∧ zigM J_ k_ = false) → zY none 6 189 47 [some (zwR 7 0), some (zwL x_), none, some (zwI (Int32.ofNat k_)), k4_] [] J_ L_ 0 (zRet (some (zwL (zmoL J_ (n_ + 1) k_ x_))) J_ L_) := by
      intro hc_
      unfold zmoL zmoN
      rw [if_neg hc_]
      refine zY.go 4 rfl ?_
      refine zY.bi rfl (fun _ => ?_) (fun hp => absurd (show (0 : Int32) = 0 from rfl) hp)
      refine zY.go 5 rfl ?_
      exact ih_ _ _
    refine zY.go 3 rfl ?_
    show zY _ _ _ _ _ [zwI (J_ 7 0 28), zwI (Int32.ofNat k_)] _ _ _ _
    rw [h28]
    refine zY.bn rfl (by omega) (by omega) (fun hT_ => absurd hT_ (show ¬ M_ ≤ k_ by omega)) (fun _ => ?_)
    refine zY.go 3 rfl ?_
    refine zY.ai rfl rfl hk ?_
    refine zY.go 1 rfl ?_
    refine zY.bc rfl (fun hp => T47 (fun e_ => hp e_.1)) (fun hp => ?_)
    refine zY.go 2 rfl ?_
    refine zY.cr (zm179 hk) rfl rfl rfl rfl (Nat.le_of_ble_eq_true rfl) rfl (by decide) rfl (by decide) (by decide) ?_
    refine zY.wn (b_ := zilM J_ k_) rfl (fun hl => T47 (fun e_ => by rw [hl] at e_; cases e_.2.1)) (fun hl => ?_)
    refine zY.go 2 rfl ?_
    refine zY.cr (zm180 hk) rfl rfl rfl rfl (Nat.le_of_ble_eq_true rfl) rfl (by decide) rfl (by decide) (by decide) ?_
    refine zY.wn (b_ := zigM J_ k_) rfl (fun hg => T47 (fun e_ => by rw [hg] at e_; cases e_.2.2)) (fun hg => ?_)
    have hc_ : J_ 30 32 k_ = 2 ∧ zilM J_ k_ = false ∧ zigM J_ k_ = false := ⟨Decidable.byContradiction hp, hl, hg⟩
    unfold zmoL zmoN
    rw [if_pos hc_]
    refine zY.go 5 rfl ?_
    refine zY.bi rfl (fun hp => absurd (show (1 : Int32) = 0 from hp) (by decide)) (fun _ => ?_)
    refine zY.go 6 rfl ?_
    refine zY.ai rfl rfl hk ?_
    refine zY.go 3 rfl ?_
    refine zY.ai rfl rfl hk ?_
    refine zY.cr zm134 rfl rfl rfl rfl (Nat.le_of_ble_eq_true rfl) rfl (by decide) rfl (by decide) (by decide) ?_
    refine zY.go 8 rfl ?_
    exact ih_ _ _
theorem zm189 {I_ J_ : zIn} {L_ : zLi} {M_ : Nat} (hJ : zset I_ 7 0 0 0 = J_) (hM_ : M_ ≤ 60) (h28 : J_ 7 0 28 = Int32.ofNat M_) : zYm 6 189 [zwR 7 0] I_ L_ 0 (zRet (some (zwL (zmoL J_ M_ 0 0))) J_ L_) := by
  refine zYm.of (Nat.le_of_ble_eq_true rfl) rfl ?_
  refine zY.go 7 rfl ?_
  change zY _ _ _ _ _ _ (zset I_ 7 0 0 0) _ _ _
  rw [hJ]
  exact zm189l hM_ h28 M_ 0 0 none (by omega)
