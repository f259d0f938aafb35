/-! THE LAW: what a turn does: minutes, traffic, mend, lift, the end of a day -/
def zoX (T : Nat) (xs : Nat → Int32) (Q_ : zPost) (bus j_ turn_ y_ B_ : Nat) : Prop := ∀ (I' : zIn) (L' : zLi) (M_ t_ y' a_ : Nat) (z14_ z15 z16 : Int32) (x17 x18 x19 x20 x21 x22 x23 x24 x25 x26 : Option zW), y' ≤ y_ + 1 → zLw I' L' M_ t_ y' bus j_ → B_ ≤ a_ → zY (some (T, xs)) 20 210 1559 (zlLw (some (zwI 1)) (some (zwI (Int32.ofNat bus))) (some (zwI (Int32.ofNat M_))) (some (zwI (Int32.ofNat y'))) (some (zwI (Int32.ofNat turn_))) (some (zwI z14_)) (some (zwI z15)) (some (zwI z16)) x17 x18 x19 x20 x21 x22 x23 x24 x25 x26) [] I' L' a_ Q_
theorem zcnt_0 {f_ : Nat → Bool} : ∀ (l : List Nat) (x_ : Int32), (∀ q_ ∈ l, f_ q_ = false) → zcnt f_ l x_ = x_
  | [], _, _ => rfl
  | q_ :: l, x_, h_ => by
    unfold zcnt
    rw [h_ q_ List.mem_cons_self, if_neg (by decide)]
    exact zcnt_0 l x_ (fun r_ hr => h_ r_ (List.mem_cons_of_mem _ hr))
section
variable {I_ I' : zIn} {L_ L' : zLi} {M_ t_ t' y_ y' bus j_ v_ p_ a_ b_ m_ turn_ T B_ : Nat} {xs : Nat → Int32} {Q_ : zPost} {x14 x15 x16 x17 x18 x19 x20 x21 x22 x23 x24 x25 x26 : Option zW} {z14_ z15 z16 : Int32}
theorem zLw.sq (h_ : zLw I_ L_ M_ t_ y_ bus j_) (hs : zSq I_ L_ I' L') : zLw I' L' M_ t_ y_ bus j_ := by
  have hS_ := hs.o
  obtain ⟨⟨⟨D_, hR, et⟩, hx, hb_, h6⟩, hT_, hB_, g1, g2, g3_⟩ := h_
  refine ⟨⟨⟨D_, hS_.R hR, et⟩, fun w_ hw => (hx w_ hw).cg (hS_.a26 w_) (fun q_ _ => hS_.a1 q_ (by omega)), fun q_ hq => ?_, h6⟩, hT_.so hS_ (fun i_ f_ _ => (hs.a30 i_ f_).1), fun k_ hk => ?_, (hS_.a6 0 6).trans g1, (hS_.a6 0 7).trans g2, fun i_ hi_ e_ => ?_⟩
  · rw [hS_.a1 q_ (f_ := 7) (by omega), hS_.a1 q_ (f_ := 11) (by omega)]; exact hb_ q_ hq
  · rw [hS_.a31]; exact hB_ k_ hk
  · rw [(hs.a30 i_ 0).2] at e_
    exact g3_ i_ hi_ e_
set_option maxRecDepth 100000 in
theorem zocP (h_ : zLw I_ L_ M_ t_ y_ bus j_) (ha_ : B_ + 200 ≤ a_) (hX : zoX T xs Q_ bus j_ turn_ y_ B_) : zY (some (T, xs)) 20 210 1188 (zlLw (some (zwI 1)) (some (zwI (Int32.ofNat bus))) (some (zwI (Int32.ofNat M_))) (some (zwI (Int32.ofNat y_))) (some (zwI (Int32.ofNat turn_))) (some (zwI z14_)) (some (zwI z15)) (some (zwI (Int32.ofNat t_))) x17 x18 x19 x20 x21 x22 x23 x24 x25 x26) [] I_ L_ a_ Q_ := by
  obtain ⟨k_, hk, ek⟩ := zup_ok (v_ := z14_ / 32) (n_ := 50) (by omega) (by omega)
  refine zY.go 5 rfl ?_
  refine zY.cr (za120 (y_ := 50) (by decide)) rfl rfl rfl rfl (Nat.le_of_ble_eq_true rfl) rfl (by decide) rfl (by decide) (Nat.zero_le _) ?_
  rw [show zup (z14_ / 32) 50 = Int32.ofNat k_ from ek]
  refine zY.go 8 rfl ?_
  rw [show (1 : Int32) + Int32.ofNat k_ = Int32.ofNat (k_ + 1) by rw [Int32.add_comm]; exact zisucc k_]
  refine zY.c (zc53 h_ (n_ := k_ + 1) (by omega)) rfl rfl rfl rfl (Nat.le_of_ble_eq_true rfl) rfl (by decide) rfl (by decide) (by omega) (fun r_ I2_ L2_ hq => ?_)
  obtain ⟨x_, rfl, ex_, t2_, h2⟩ := hq
  refine ⟨_, rfl, ?_⟩
  have go_ : zY (some (T, xs)) 20 210 1234 (zlLw (some (zwI 1)) (some (zwI (Int32.ofNat bus))) (some (zwI (Int32.ofNat M_))) (some (zwI (Int32.ofNat y_))) (some (zwI (Int32.ofNat turn_))) (some (zwI z14_)) (some (zwI z15)) (some (zwI (Int32.ofNat t_))) (some (zwI (Int32.ofNat (k_ + 1)))) x18 x19 x20 x21 x22 x23 x24 x25 x26) [zwI x_, zwI x_] I2_ L2_ (a_ - 60) Q_ := by
    refine zY.bc rfl (fun hp => absurd rfl hp) (fun _ => ?_)
    refine zY.go 4 rfl ?_
    exact hX I2_ L2_ M_ t2_ y_ _ _ _ _ _ _ _ _ _ _ _ _ _ _ (by omega) h2 (by omega)
  refine zY.go 4 rfl ?_
  refine zY.bc rfl (fun hp => ?_) (fun hp => ?_)
  · rw [if_neg (Int32.not_lt.mpr hp)] at ex_
    refine zY.go 3 rfl ?_
    rw [ex_] at go_ ⊢
    exact go_
  · rw [if_pos (Int32.not_le.mp hp)] at ex_
    refine zY.go 2 rfl ?_
    rw [ex_] at go_ ⊢
    exact go_
set_option maxRecDepth 100000 in
theorem zocM (h_ : zLw I_ L_ M_ t_ y_ bus j_) (ha_ : B_ + 200 ≤ a_) (hX : zoX T xs Q_ bus j_ turn_ y_ B_) : zY (some (T, xs)) 20 210 1359 (zlLw (some (zwI 1)) (some (zwI (Int32.ofNat bus))) (some (zwI (Int32.ofNat M_))) (some (zwI (Int32.ofNat y_))) (some (zwI (Int32.ofNat turn_))) (some (zwI z14_)) (some (zwI z15)) (some (zwI (Int32.ofNat t_))) x17 x18 x19 x20 x21 x22 x23 x24 x25 x26) [] I_ L_ a_ Q_ := by
  obtain ⟨v_, hv, ev_⟩ := zup_ok (v_ := z14_ / 32) (n_ := 2) (by omega) (by omega)
  refine zY.go 4 rfl ?_
  refine zY.cr (za120 (y_ := 2) (by decide)) rfl rfl rfl rfl (Nat.le_of_ble_eq_true rfl) rfl (by decide) rfl (by decide) (Nat.zero_le _) ?_
  rw [show zup (z14_ / 32) 2 = Int32.ofNat v_ from ev_]
  refine zY.go 3 rfl ?_
  refine zY.c (zc58 h_ hv) rfl rfl rfl rfl (Nat.le_of_ble_eq_true rfl) rfl (by decide) rfl (by decide) (by omega) (fun r_ I2_ L2_ hq => ?_)
  obtain ⟨x_, rfl, ⟨n_, hn, rfl⟩, h2⟩ := hq
  refine ⟨_, rfl, ?_⟩
  refine zY.go 2 rfl ?_
  refine zY.bi rfl (fun hp => absurd hp (Int32.not_lt.mpr (zige (by omega)))) (fun _ => ?_)
  refine zY.go 2 rfl ?_
  refine zY.bc rfl (fun hp => absurd hp (Int32.not_lt.mpr ((zile (b := 16) (by omega) (by omega)).mpr hn))) (fun _ => ?_)
  refine zY.go 4 rfl ?_
  exact hX I2_ L2_ M_ t_ y_ _ _ _ _ _ _ _ _ _ _ _ _ _ _ (by omega) h2 (by omega)
set_option maxRecDepth 100000 in
theorem zocL (h_ : zLw I_ L_ M_ t_ y_ bus j_) (ha_ : B_ + 200 ≤ a_) (hX : zoX T xs Q_ bus j_ turn_ y_ B_) : zY (some (T, xs)) 20 210 1507 (zlLw (some (zwI 1)) (some (zwI (Int32.ofNat bus))) (some (zwI (Int32.ofNat M_))) (some (zwI (Int32.ofNat y_))) (some (zwI (Int32.ofNat turn_))) (some (zwI z14_)) (some (zwI z15)) (some (zwI (Int32.ofNat t_))) x17 x18 x19 x20 x21 x22 x23 x24 x25 x26) [] I_ L_ a_ Q_ := by
  obtain ⟨k_, hk, ek⟩ := zup_ok (v_ := z14_ / 128) (n_ := 2) (by omega) (by omega)
  have go_ : ∀ x_ : Int32, x_ = 0 ∨ x_ = 1 → zY (some (T, xs)) 20 210 1525 (zlLw (some (zwI 1)) (some (zwI (Int32.ofNat bus))) (some (zwI (Int32.ofNat M_))) (some (zwI (Int32.ofNat y_))) (some (zwI (Int32.ofNat turn_))) (some (zwI z14_)) (some (zwI z15)) (some (zwI (Int32.ofNat t_))) x17 x18 x19 x20 x21 x22 x23 x24 x25 x26) [zwI x_] I_ L_ a_ Q_ := by
    intro x_ hx
    obtain ⟨⟨⟨D_, hR, et⟩, _⟩, _⟩ := id h_
    refine zY.go 4 rfl ?_
    refine zY.c (zq63 (v_ := 0) (k_ := 6) hR (by omega) (by decide)) rfl rfl rfl rfl (Nat.le_of_ble_eq_true rfl) rfl (by decide) rfl (by decide) (Nat.zero_le _) (fun r_ J2 K2 hq => ?_)
    obtain ⟨rfl, s2_⟩ := hq
    refine ⟨_, rfl, ?_⟩
    have h2 := h_.sq s2_
    have e9_ := ((s2_.R hR).2.2.2.1 0 (by omega)).1.2.2.1
    refine zY.go 3 rfl ?_
    refine zY.c (zc40 (v_ := 0) h2 (by omega) hx) rfl rfl rfl rfl (Nat.le_of_ble_eq_true rfl) rfl (by decide) rfl (by decide) (by omega) (fun r_ I3 L3_ hq => ?_)
    obtain ⟨z_, rfl, ez, h3⟩ := hq
    refine ⟨_, rfl, ?_⟩
    show zY (some (T, xs)) 20 210 1541 _ [zwI z_, zwI (if D_ 31 16 0 = 0 then 0 else 1)] I3 L3_ _ Q_
    by_cases h9 : J2 5 0 9 = 0
    · have ed := e9_.mp h9
      rw [ez, zbo, if_pos h9, if_pos ed]
      refine zY.bi rfl (fun _ => ?_) (fun hp => absurd rfl hp)
      refine zY.go 1 rfl ?_
      refine zY.bc rfl (fun hp => absurd rfl hp) (fun _ => ?_)
      refine zY.go 3 rfl ?_
      exact hX I3 L3_ M_ t_ y_ _ _ _ _ _ _ _ _ _ _ _ _ _ _ (by omega) h3 (by omega)
    · have ed : ¬ D_ 31 16 0 = 0 := fun e_ => h9 (e9_.mpr e_)
      rw [ez, zbo, if_neg h9, if_neg ed]
      refine zY.bi rfl (fun hp => absurd (show (1 : Int32) = 0 from hp) (by decide)) (fun _ => ?_)
      refine zY.go 2 rfl ?_
      refine zY.bc rfl (fun hp => absurd rfl hp) (fun _ => ?_)
      refine zY.go 3 rfl ?_
      exact hX I3 L3_ M_ t_ y_ _ _ _ _ _ _ _ _ _ _ _ _ _ _ (by omega) h3 (by omega)
  refine zY.go 4 rfl ?_
  refine zY.cr (za120 (y_ := 2) (by decide)) rfl rfl rfl rfl (Nat.le_of_ble_eq_true rfl) rfl (by decide) rfl (by decide) (Nat.zero_le _) ?_
  refine zY.bi rfl (fun hp => ?_) (fun hp => ?_)
  · refine zY.go 1 rfl ?_
    exact go_ 0 (Or.inl rfl)
  · refine zY.go 2 rfl ?_
    exact go_ 1 (Or.inr rfl)
end
