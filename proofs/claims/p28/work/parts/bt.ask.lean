/-! THE LAW: what a turn does: ask, behind -/
section
variable {I_ I' : zIn} {L_ L' : zLi} {M_ t_ t' y_ y' bus j_ v_ p_ f_ a_ b_ m_ turn_ T B_ r_ : Nat} {xs : Nat → Int32} {Q_ : zPost} {x14 x15 x16 x17 x18 x19 x20 x21 x22 x23 x24 x25 x26 : Option zW} {z14_ z15 z16 z18 z21 z22 z23 z24 w_ : Int32} {ow su : Bool}
set_option maxRecDepth 100000 in
theorem zob5 (h_ : zLw I_ L_ (M_ + 1) t_ y_ bus j_) (hw : 0 < w_) (h5 : I_ 1 M_ 5 = 6) (ha_ : B_ ≤ a_) (hX : zoX T xs Q_ bus j_ turn_ y_ B_) : zY (some (T, xs)) 20 210 868 (zlLw (some (zwI 1)) (some (zwI (Int32.ofNat bus))) (some (zwI (Int32.ofNat M_))) (some (zwI (Int32.ofNat y_))) (some (zwI (Int32.ofNat turn_))) (some (zwI z14_)) (some (zwI z15)) (some (zwI (Int32.ofNat t_))) (some (zwI (Int32.ofNat p_))) (some (zwI (Int32.ofNat f_))) (some (zwI (Int32.ofNat b_))) (some (zwI (Int32.ofNat m_))) (some (zwI z21)) (some (zwI z22)) (some (zwI z23)) (some (zwI z24)) (some (zwI w_)) (some (zwI (-1)))) [] I_ L_ a_ Q_ := by
  refine zY.go 1 rfl ?_
  refine zY.bi rfl (fun hp => absurd hp (Int32.not_le.mpr hw)) (fun _ => ?_)
  refine zY.go 3 rfl ?_
  refine zY.cr (zq62' (k_ := 0) h_.1 (Nat.lt_succ_self M_) (by decide)) rfl rfl rfl rfl (Nat.le_of_ble_eq_true rfl) rfl (by decide) rfl (by decide) (Nat.zero_le _) ?_
  refine zY.go 1 rfl ?_
  refine zY.bc rfl (fun hp => absurd h5 hp) (fun _ => ?_)
  refine zY.go 2 rfl ?_
  refine zY.bc rfl (fun hp => absurd rfl hp) (fun _ => ?_)
  refine zY.go 6 rfl ?_
  have := hX I_ L_ (M_ + 1) t_ y_ a_ z14_ z15 (Int32.ofNat t_) (some (zwI (Int32.ofNat p_))) (some (zwI (Int32.ofNat f_))) (some (zwI (Int32.ofNat b_))) (some (zwI (Int32.ofNat m_))) (some (zwI z21)) (some (zwI z22)) (some (zwI z23)) (some (zwI z24)) (some (zwI w_)) (some (zwI (-1))) (by omega) h_ (by omega)
  rw [← zisucc] at this
  exact this
set_option maxRecDepth 100000 in
theorem zob6 {n_ c_ : Nat} (h_ : zLw I_ L_ (M_ + 1) t_ y_ bus j_) (h5 : I_ 1 M_ 5 = 0) (hm_ : m_ ≤ 600) (hn : t_ < n_) (hn6 : n_ ≤ 600) (hc_ : c_ ≤ 6) (hnm : n_ - m_ + (m_ - n_) = 10 * c_) (ha_ : B_ ≤ a_) (hX : zoX T xs Q_ bus j_ turn_ y_ B_) : zY (some (T, xs)) 20 210 868 (zlLw (some (zwI 1)) (some (zwI (Int32.ofNat bus))) (some (zwI (Int32.ofNat M_))) (some (zwI (Int32.ofNat y_))) (some (zwI (Int32.ofNat turn_))) (some (zwI z14_)) (some (zwI z15)) (some (zwI (Int32.ofNat t_))) (some (zwI (Int32.ofNat p_))) (some (zwI (Int32.ofNat f_))) (some (zwI (Int32.ofNat b_))) (some (zwI (Int32.ofNat m_))) (some (zwI z21)) (some (zwI z22)) (some (zwI z23)) (some (zwI z24)) (some (zwI 0)) (some (zwI (Int32.ofNat n_)))) [] I_ L_ a_ Q_ := by
  have ht := h_.1.now.2
  have ez : zap (Int32.ofNat n_) (Int32.ofNat m_) = Int32.ofNat (10 * c_) := by rw [zap_of (by omega) (by omega), hnm]
  refine zY.go 1 rfl ?_
  refine zY.bi rfl (fun _ => ?_) (fun hp => absurd (Int32.le_refl 0) hp)
  refine zY.go 3 rfl ?_
  refine zY.cr (zq62' (k_ := 0) h_.1 (Nat.lt_succ_self M_) (by decide)) rfl rfl rfl rfl (Nat.le_of_ble_eq_true rfl) rfl (by decide) rfl (by decide) (Nat.zero_le _) ?_
  refine zY.bi rfl (fun hp => absurd h5 hp) (fun _ => ?_)
  refine zY.go 2 rfl ?_
  refine zY.bc rfl (fun hp => absurd hp (Int32.not_le.mpr ((zilt (by omega) (by omega)).mpr hn))) (fun _ => ?_)
  refine zY.go 2 rfl ?_
  refine zY.bc rfl (fun hp => absurd hp (Int32.not_lt.mpr ((zile (b := 600) (by omega) (by omega)).mpr hn6))) (fun _ => ?_)
  refine zY.go 2 rfl ?_
  refine zY.cr za123 rfl rfl rfl rfl (Nat.le_of_ble_eq_true rfl) rfl (by decide) rfl (by decide) (Nat.zero_le _) ?_
  rw [ez]
  refine zY.go 1 rfl ?_
  refine zY.bc rfl (fun hp => absurd hp (Int32.not_lt.mpr ((zile (b := 60) (by omega) (by omega)).mpr (by omega)))) (fun _ => ?_)
  refine zY.go 2 rfl ?_
  refine zY.cr za123 rfl rfl rfl rfl (Nat.le_of_ble_eq_true rfl) rfl (by decide) rfl (by decide) (Nat.zero_le _) ?_
  rw [ez]
  refine zY.go 2 rfl ?_
  refine zY.bi rfl (fun hp => absurd (show Int32.ofNat (10 * c_) - Int32.ofNat (10 * c_) / Int32.ofNat 10 * Int32.ofNat 10 = 0 by
    rw [zmodT (by omega) (by omega), Nat.mul_mod_right]; rfl) hp) (fun _ => ?_)
  refine zY.go 5 rfl ?_
  have := hX I_ L_ (M_ + 1) t_ y_ a_ z14_ z15 (Int32.ofNat t_) (some (zwI (Int32.ofNat p_))) (some (zwI (Int32.ofNat f_))) (some (zwI (Int32.ofNat b_))) (some (zwI (Int32.ofNat m_))) (some (zwI z21)) (some (zwI z22)) (some (zwI z23)) (some (zwI z24)) (some (zwI 0)) (some (zwI (Int32.ofNat n_))) (by omega) h_ (by omega)
  rw [← zisucc] at this
  exact this
/-- the class told of it, and the law keeps it -/
theorem zLw.ask {I1 : zIn} {L1 : zLi} (h_ : zLw I_ L_ M_ t_ y_ bus j_) (h1 : zJ I1 L1 (M_ + 1) t_) (h2 : zFx I_ I1 M_) (h3 : I1 6 0 7 = Int32.ofNat y_) (h4 : I1 1 M_ 0 = Int32.ofNat p_ ∧ I1 1 M_ 1 = Int32.ofNat f_ ∧ I1 1 M_ 2 = Int32.ofNat b_) : zLw (zset (zset (zset I1 30 63 M_ (Int32.ofNat p_)) 30 64 M_ (Int32.ofNat f_)) 30 65 M_ (Int32.ofNat b_)) L1 (M_ + 1) t_ y_ bus j_ := by
  have nz : ∀ c_ i_ f', ¬ (c_ = 30 ∧ (i_ = 63 ∨ i_ = 64 ∨ i_ = 65) ∧ f' = M_) → zset (zset (zset I1 30 63 M_ (Int32.ofNat p_)) 30 64 M_ (Int32.ofNat f_)) 30 65 M_ (Int32.ofNat b_) c_ i_ f' = I1 c_ i_ f' := fun c_ i_ f' hh => by
    rw [zset_ne (by omega), zset_ne (by omega), zset_ne (by omega)]
  have hS_ : zSo I1 L1 (zset (zset (zset I1 30 63 M_ (Int32.ofNat p_)) 30 64 M_ (Int32.ofNat f_)) 30 65 M_ (Int32.ofNat b_)) L1 := (zSo.set.trans zSo.set).trans zSo.set
  have hT_ := h_.2.1.fx h2
  refine ⟨h1.so hS_, ⟨fun r_ hr => ?_, fun i_ hi_ => ?_, fun w_ hw => ?_⟩, fun k_ hk => ?_, ?_, ?_, fun i_ hi_ => ?_⟩
  · by_cases e_ : r_ = M_
    · subst e_
      refine ⟨?_, ?_, ?_⟩
      · rw [zset_ne (by omega), zset_ne (by omega), zset_is, nz 1 r_ 0 (by omega), h4.1]
      · rw [zset_ne (by omega), zset_is, nz 1 r_ 1 (by omega), h4.2.1]
      · rw [zset_is, nz 1 r_ 2 (by omega), h4.2.2]
    · rw [nz 30 63 r_ (by omega), nz 30 64 r_ (by omega), nz 30 65 r_ (by omega), nz 1 r_ 0 (by omega), nz 1 r_ 1 (by omega), nz 1 r_ 2 (by omega)]
      exact hT_.1 r_ (by omega)
  · rw [nz 30 60 i_ (by omega), nz 30 61 i_ (by omega), nz 30 62 i_ (by omega), nz 2 i_ 0 (by omega), nz 2 i_ 3 (by omega), nz 2 i_ 2 (by omega)]
    exact hT_.2.1 i_ hi_
  · rw [nz 30 66 _ (by omega), nz 30 66 _ (by omega), nz 30 66 _ (by omega), nz 5 w_ 1 (by omega), nz 5 w_ 2 (by omega), nz 5 w_ 3 (by omega)]
    exact hT_.2.2 w_ hw
  · rw [nz 31 0 k_ (by omega), h2.1 31 0 k_ (by omega)]; exact h_.2.2.1 k_ hk
  · rw [nz 6 0 6 (by omega), h2.1 6 0 6 (by omega)]; exact h_.2.2.2.1
  · rw [nz 6 0 7 (by omega)]; exact h3
  · rw [nz 99 30 i_ (by omega), h2.1 99 30 i_ (by omega)]; exact h_.2.2.2.2.2 i_ hi_
set_option maxRecDepth 100000 in
theorem zob7 {I1 : zIn} {L1 : zLi} (h_ : zLw I_ L_ M_ t_ y_ bus j_) (hM_ : M_ < 60) (hm_ : m_ ≤ 600) (eow : ow = zowd I_ p_ (Int32.ofNat f_) (Int32.ofNat b_)) (esu : su = zsus I_ L_ p_) (h1 : zJ I1 L1 (M_ + 1) t_) (h2 : zFx I_ I1 M_) (h3 : I1 6 0 7 = Int32.ofNat y_) (h4 : I1 1 M_ 0 = Int32.ofNat p_ ∧ I1 1 M_ 1 = Int32.ofNat f_ ∧ I1 1 M_ 2 = Int32.ofNat b_) (hO : zakO I_ L_ M_ t_ p_ f_ b_ m_ I1) (ha_ : B_ ≤ a_) (hX : zoX T xs Q_ bus j_ turn_ y_ B_) : zY (some (T, xs)) 20 210 771 (zlLw (some (zwI 1)) (some (zwI (Int32.ofNat bus))) (some (zwI (Int32.ofNat M_))) (some (zwI (Int32.ofNat y_))) (some (zwI (Int32.ofNat turn_))) (some (zwI z14_)) (some (zwI z15)) (some (zwI (Int32.ofNat t_))) (some (zwI (Int32.ofNat p_))) (some (zwI (Int32.ofNat f_))) (some (zwI (Int32.ofNat b_))) (some (zwI (Int32.ofNat m_))) (some (zwI z21)) (some (zwI z22)) (some (zwI (if ow = true then 1 else 0))) (some (zwI (if su = true then 1 else 0))) x25 x26) [zwI 1] I1 L1 a_ Q_ := by
  have hw := h_.ask h1 h2 h3 h4
  have nz : ∀ f', zset (zset (zset I1 30 63 M_ (Int32.ofNat p_)) 30 64 M_ (Int32.ofNat f_)) 30 65 M_ (Int32.ofNat b_) 1 M_ f' = I1 1 M_ f' := fun f' => by
    rw [zset_ne (by omega), zset_ne (by omega), zset_ne (by omega)]
  refine zY.go 4 rfl ?_
  refine zY.si (n_ := M_) rfl rfl (by show M_ < 60; omega) ?_
  refine zY.go 3 rfl ?_
  refine zY.si (n_ := M_) rfl rfl (by show M_ < 60; omega) ?_
  refine zY.go 3 rfl ?_
  refine zY.si (n_ := M_) rfl rfl (by show M_ < 60; omega) ?_
  generalize hI2 : zset (zset (zset I1 30 63 M_ (Int32.ofNat p_)) 30 64 M_ (Int32.ofNat f_)) 30 65 M_ (Int32.ofNat b_) = I2_ at *
  refine zY.go 3 rfl ?_
  refine zY.cr (zq62' (k_ := 1) hw.1 (Nat.lt_succ_self M_) (by decide)) rfl rfl rfl rfl (Nat.le_of_ble_eq_true rfl) rfl (by decide) rfl (by decide) (Nat.zero_le _) ?_
  refine zY.go 4 rfl ?_
  refine zY.cr (zq62' (k_ := 2) hw.1 (Nat.lt_succ_self M_) (by decide)) rfl rfl rfl rfl (Nat.le_of_ble_eq_true rfl) rfl (by decide) rfl (by decide) (Nat.zero_le _) ?_
  refine zY.go 2 rfl ?_
  refine zY.bi rfl (fun hp => absurd (show (1 : Int32) = 0 from hp) (by decide)) (fun _ => ?_)
  show zY (some (T, xs)) 20 210 817 (zlLw (some (zwI 1)) (some (zwI (Int32.ofNat bus))) (some (zwI (Int32.ofNat M_))) (some (zwI (Int32.ofNat y_))) (some (zwI (Int32.ofNat turn_))) (some (zwI z14_)) (some (zwI z15)) (some (zwI (Int32.ofNat t_))) (some (zwI (Int32.ofNat p_))) (some (zwI (Int32.ofNat f_))) (some (zwI (Int32.ofNat b_))) (some (zwI (Int32.ofNat m_))) (some (zwI z21)) (some (zwI z22)) (some (zwI (if ow = true then 1 else 0))) (some (zwI (if su = true then 1 else 0))) (some (zwI (I2_ 1 M_ 6))) (some (zwI (I2_ 1 M_ 7)))) [] I2_ L1 a_ Q_
  rw [nz 6, nz 7]
  have h5 := nz 5
  rcases hO with ⟨e1_, g1, g2, g3_⟩ | ⟨e1_, e2_, g1, g2, g3_⟩ | ⟨e1_, e2_, g_⟩
  · rw [e1_] at eow
    subst eow
    rw [g1, g3_]
    refine zY.go 1 rfl ?_
    refine zY.bi rfl (fun _ => ?_) (fun hp => absurd rfl hp)
    refine zY.go 2 rfl ?_
    refine zY.bc rfl (fun hp => absurd rfl hp) (fun _ => ?_)
    refine zY.go 4 rfl ?_
    refine zY.bi rfl (fun hp => absurd (show (1 : Int32) = 0 from hp) (by decide)) (fun _ => ?_)
    exact zob5 hw (by decide) (h5.trans g2) ha_ hX
  · rw [e1_] at eow
    rw [e2_] at esu
    subst eow
    subst esu
    rw [g1, g3_]
    refine zY.go 1 rfl ?_
    refine zY.bi rfl (fun hp => absurd (show (1 : Int32) = 0 from hp) (by decide)) (fun _ => ?_)
    refine zY.go 1 rfl ?_
    refine zY.bi rfl (fun hp => absurd (show (1 : Int32) = 0 from hp) (by decide)) (fun _ => ?_)
    refine zY.go 2 rfl ?_
    refine zY.bc rfl (fun hp => absurd rfl hp) (fun _ => ?_)
    refine zY.go 5 rfl ?_
    refine zY.bi rfl (fun hp => absurd (show (1 : Int32) = 0 from hp) (by decide)) (fun _ => ?_)
    exact zob5 hw (by decide) (h5.trans g2) ha_ hX
  · rw [e1_] at eow
    rw [e2_] at esu
    subst eow
    subst esu
    refine zY.go 1 rfl ?_
    refine zY.bi rfl (fun hp => absurd (show (1 : Int32) = 0 from hp) (by decide)) (fun _ => ?_)
    refine zY.go 1 rfl ?_
    refine zY.bi rfl (fun _ => ?_) (fun hp => absurd rfl hp)
    refine zY.go 1 rfl ?_
    rcases g_ with ⟨g1, g2, g3_⟩ | ⟨g1, g2, n_, c_, g3_, g4, g6, g7, g8⟩
    · rw [g1, g3_]
      refine zY.bi rfl (fun hp => absurd (show (3 : Int32) = 0 from hp) (by decide)) (fun _ => ?_)
      refine zY.go 2 rfl ?_
      refine zY.bc rfl (fun hp => absurd rfl hp) (fun _ => ?_)
      refine zY.go 5 rfl ?_
      refine zY.bi rfl (fun hp => absurd (show (1 : Int32) = 0 from hp) (by decide)) (fun _ => ?_)
      exact zob5 hw (by decide) (h5.trans g2) ha_ hX
    · rw [g1, g3_]
      refine zY.bi rfl (fun _ => ?_) (fun hp => absurd rfl hp)
      refine zY.go 4 rfl ?_
      refine zY.bi rfl (fun hp => absurd (show (1 : Int32) = 0 from hp) (by decide)) (fun _ => ?_)
      exact zob6 hw (h5.trans g2) hm_ g4 g6 g7 g8 ha_ hX
end
