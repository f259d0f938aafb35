/-! CONTRACTS: promise, rider -/
def zpmt (w_ : Int32) (t_ : Nat) : Int32 := if Int32.ofNat t_ - Int32.ofNat t_ / 2 * 2 = 1 then w_ + 10 * ((Int32.ofNat t_ + 1) / 2) else w_ - 10 * ((Int32.ofNat t_ + 1) / 2)
def zprl (q_ : Nat) (w_ : Int32) : Nat → Nat → zIn → zLi → Bool × (zIn × zLi)
  | 0, _, I_, L_ => (false, I_, L_)
  | n_ + 1, t_, I_, L_ =>
    if I_ 6 0 8 < zpmt w_ t_ ∧ zpmt w_ t_ ≤ 600 then
      (if (zpb (zset I_ 1 q_ 7 (zpmt w_ t_)) L_ (2 * q_) (2 * q_ + 1) (I_ 6 0 8)).1 = true then zpb (zset I_ 1 q_ 7 (zpmt w_ t_)) L_ (2 * q_) (2 * q_ + 1) (I_ 6 0 8)
      else zprl q_ w_ n_ (t_ + 1) (zpb (zset I_ 1 q_ 7 (zpmt w_ t_)) L_ (2 * q_) (2 * q_ + 1) (I_ 6 0 8)).2.1 (zpb (zset I_ 1 q_ 7 (zpmt w_ t_)) L_ (2 * q_) (2 * q_ + 1) (I_ 6 0 8)).2.2)
    else zprl q_ w_ n_ (t_ + 1) (zset I_ 1 q_ 7 (zpmt w_ t_)) L_
def zsbd2 (L_ : zLi) : Prop := ∀ v_ ∈ L_ 21 0, (L_ 24 v_).length ≤ 90 ∧ (L_ 26 v_).length ≤ 150 ∧ v_ < 4
theorem zsbd2_zpb {I_ : zIn} {L_ : zLi} {p_ t_ : Nat} {x_ : Int32} (h_ : ¬ (zpb I_ L_ p_ t_ x_).1 = true) (hb_ : zsbd2 L_) : zsbd2 (zpb I_ L_ p_ t_ x_).2.2 := by
  intro v_ hv
  rw [zpb_f24 h_ (by decide)] at hv
  rw [zpb_f24 h_ (by decide), zpb_f24 h_ (by decide)]
  exact hb_ v_ hv
theorem zm48l (q_ : Nat) (w_ : Int32) : ∀ (n_ t_ : Nat) (I_ : zIn) (L_ : zLi) (k6_ k7_ : Option zW), n_ + t_ = 13 → zsbd2 L_ → zY none 12 48 24 [some (zwR 6 0), some (zwR 1 q_), some (zwI w_), some (zwR 4 (2 * q_)), some (zwR 4 (2 * q_ + 1)), some (zwI (Int32.ofNat t_)), k6_, k7_] [] I_ L_ 0 (zRb (zprl q_ w_ n_ t_ I_ L_))
  | 0, t_, I_, L_, k6_, k7_, ht, hb_ => by
    have : t_ = 13 := by omega
    subst this
    refine zY.go 2 rfl ?_
    refine zY.bn (x_ := 13) (y_ := 12) rfl (by omega) (by omega) (fun _ => ?_) (fun h_ => absurd (show 12 < 13 by omega) h_)
    refine zY.go 1 rfl ?_
    exact zY.rb rfl rfl (Or.inl rfl) ⟨rfl, rfl, rfl⟩
  | n_ + 1, t_, I_, L_, k6_, k7_, ht, hb_ => by
    have ih_ := fun I_ L_ k6_ k7_ h_ => zm48l q_ w_ n_ (t_ + 1) I_ L_ k6_ k7_ (by omega) h_
    simp only [← zisucc] at ih_
    refine zY.go 2 rfl ?_
    refine zY.bn (y_ := 12) rfl (by omega) (by omega) (fun h_ => absurd h_ (show ¬ 12 < t_ by omega)) (fun _ => ?_)
    have hr6 : zset I_ 1 q_ 7 (zpmt w_ t_) 6 0 8 = I_ 6 0 8 := zset_ne (by simp)
    have hr7 : zset I_ 1 q_ 7 (zpmt w_ t_) 1 q_ 7 = zpmt w_ t_ := zset_is
    have T65 : ∀ y6 : Int32, zY none 12 48 65 [some (zwR 6 0), some (zwR 1 q_), some (zwI w_), some (zwR 4 (2 * q_)), some (zwR 4 (2 * q_ + 1)), some (zwI (Int32.ofNat t_)), some (zwI y6), k7_] [] (zset I_ 1 q_ 7 (zpmt w_ t_)) L_ 0 (zRb (zprl q_ w_ (n_ + 1) t_ I_ L_)) := by
      intro y6
      unfold zprl
      refine zY.go 4 rfl ?_
      show zY _ _ _ _ _ [zwI (zset I_ 1 q_ 7 (zpmt w_ t_) 6 0 8), zwI (zset I_ 1 q_ 7 (zpmt w_ t_) 1 q_ 7)] _ _ _ _
      rw [hr6, hr7]
      refine zY.bc rfl (fun hp73 => ?_) (fun hp73 => ?_)
      · rw [if_neg (fun h_ => absurd h_.1 (Int32.not_lt.mpr hp73))]
        refine zY.go 3 rfl ?_
        refine zY.bi rfl (fun _ => ?_) (fun h_ => absurd rfl h_)
        refine zY.go 2 rfl ?_
        exact ih_ _ _ _ _ hb_
      · refine zY.go 3 rfl ?_
        show zY _ _ _ _ _ [zwI 600, zwI (zset I_ 1 q_ 7 (zpmt w_ t_) 1 q_ 7)] _ _ _ _
        rw [hr7]
        refine zY.bc rfl (fun hp83 => ?_) (fun hp83 => ?_)
        · rw [if_neg (fun h_ => absurd h_.2 (Int32.not_le.mpr hp83))]
          refine zY.go 3 rfl ?_
          refine zY.bi rfl (fun _ => ?_) (fun h_ => absurd rfl h_)
          refine zY.go 2 rfl ?_
          exact ih_ _ _ _ _ hb_
        · rw [if_pos ⟨Int32.not_le.mp hp73, Int32.not_lt.mp hp83⟩]
          refine zY.go 4 rfl ?_
          refine zY.bi rfl (fun h_ => absurd h_ (show ¬ ((1 : Int32) = 0) by decide)) (fun _ => ?_)
          refine zY.go 8 rfl ?_
          show zY _ _ _ _ _ [zwI (zset I_ 1 q_ 7 (zpmt w_ t_) 6 0 8), zwR 4 (2 * q_ + 1), zwR 4 (2 * q_), zwR 21 0, zwR 3 0] _ _ _ _
          rw [hr6]
          refine zY.cr (zm89 hb_) rfl rfl rfl rfl (Nat.le_of_ble_eq_true rfl) rfl (by decide) rfl (by decide) (by decide) ?_
          refine zY.bi rfl (fun hp => ?_) (fun hp => ?_)
          · have hn : ¬ (zpb (zset I_ 1 q_ 7 (zpmt w_ t_)) L_ (2 * q_) (2 * q_ + 1) (I_ 6 0 8)).1 = true := by rw [zb_eq0.mp hp]; decide
            rw [if_neg hn]
            refine zY.go 2 rfl ?_
            exact ih_ _ _ _ _ (zsbd2_zpb hn hb_)
          · have hn : (zpb (zset I_ 1 q_ 7 (zpmt w_ t_)) L_ (2 * q_) (2 * q_ + 1) (I_ 6 0 8)).1 = true := by
              cases h_ : (zpb (zset I_ 1 q_ 7 (zpmt w_ t_)) L_ (2 * q_) (2 * q_ + 1) (I_ 6 0 8)).1
              · exact absurd (zb_eq0.mpr h_) hp
              · rfl
            rw [if_pos hn]
            refine zY.go 1 rfl ?_
            refine zY.rb rfl rfl (Or.inr rfl) ?_
            unfold zRb; rw [if_pos hn]
            exact ⟨rfl, rfl, rfl⟩
    refine zY.go 13 rfl ?_
    refine zY.bc rfl (fun hp => ?_) (fun hp => ?_)
    · have e_ : zpmt w_ t_ = w_ - 10 * ((Int32.ofNat t_ + 1) / 2) := if_neg hp
      rw [e_] at T65
      refine zY.go 4 rfl ?_
      exact T65 _
    · have e_ : zpmt w_ t_ = w_ + 10 * ((Int32.ofNat t_ + 1) / 2) := if_pos (Decidable.byContradiction hp)
      rw [e_] at T65
      refine zY.go 5 rfl ?_
      exact T65 _
def zps1 (I_ : zIn) (q_ : Nat) : zIn := znwI I_ 4 (2 * q_ + 0) (zrw [0, 0, if (0 : Nat) = 0 then I_ 1 q_ 1 else I_ 1 q_ 2, 0, 0, 0])
def zps (I_ : zIn) (q_ : Nat) : zIn := znwI (zps1 I_ q_) 4 (2 * q_ + 1) (zrw [0, 0, if (1 : Nat) = 0 then zps1 I_ q_ 1 q_ 1 else zps1 I_ q_ 1 q_ 2, 0, 0, 0])
theorem zm48 {I_ : zIn} {L_ : zLi} {q_ : Nat} {w_ : Int32} (h0 : I_ 99 4 (2 * q_) ≠ 1) (h1 : I_ 99 4 (2 * q_ + 1) ≠ 1) (hb_ : zsbd2 L_) : zYm 12 48 [zwR 6 0, zwR 1 q_, zwI w_] I_ L_ 14 (zRb (zprl q_ w_ 13 0 (zps I_ q_) L_)) := by
  refine zYm.of (Nat.le_of_ble_eq_true rfl) rfl ?_
  refine zY.nw 2 (zc92 (q_ := q_) (e_ := 0) (by decide) h0) rfl (by decide) rfl rfl rfl rfl rfl rfl (by decide) rfl (Nat.le_of_ble_eq_true rfl) (by decide) (by decide) ?_
  refine zY.go 1 rfl ?_
  refine zY.nw 2 (zc92 (q_ := q_) (e_ := 1) (by decide) (fun h_ => by
    rcases znwI_99.mp h_ with h_ | h_
    · have := h_.2; omega
    · exact h1 h_)) rfl (by decide) rfl rfl rfl rfl rfl rfl (by decide) rfl (Nat.le_of_ble_eq_true rfl) (by decide) (by decide) ?_
  refine zY.go 3 rfl ?_
  exact zm48l q_ w_ 13 0 (zps I_ q_) L_ none none rfl hb_
