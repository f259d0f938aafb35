/-! THE LAW: all that is asked at the end of a turn -/
section
variable {I_ I' : zIn} {L_ L' : zLi} {M_ t_ t' y_ y' bus j_ v_ p_ a_ b_ m_ turn_ T : Nat} {xs : Nat → Int32} {Q_ : zPost} {x14 x15 x16 x17 x18 x19 x20 x21 x22 x23 x24 x25 x26 : Option zW} {z16 z21 z22 : Int32}
theorem zLw.iso (h_ : zLw I_ L_ M_ t_ y_ bus j_) (hv : v_ < 2) {r_ : Option zW ⊕ Nat} (ho : zo6Q I_ L_ j_ (.inl (some (zwI 1))) I' L') : zLw I' L' M_ t_ y_ bus (j_ + 1) := by
  obtain ⟨_, hS_, h30, h99⟩ := ho
  obtain ⟨⟨⟨D_, hR, et⟩, hx, hb_, h6⟩, hT_, hB_, g1, g2, g3_⟩ := h_
  refine ⟨⟨⟨D_, hS_.R hR, et⟩, fun w_ hw => (hx w_ hw).cg (hS_.a26 w_) (fun q_ _ => hS_.a1 q_ (by omega)), fun q_ hq => ?_, h6⟩, hT_.so hS_ h30, fun k_ hk => ?_, (hS_.a6 0 6).trans g1, (hS_.a6 0 7).trans g2, fun i_ hi_ e_ => ?_⟩
  · rw [hS_.a1 q_ (f_ := 7) (by omega), hS_.a1 q_ (f_ := 11) (by omega)]; exact hb_ q_ hq
  · rw [hS_.a31]; exact hB_ k_ hk
  · rcases h99 i_ e_ with e_ | e_
    · exact g3_ i_ (by omega) e_
    · omega
theorem zo126' (h_ : zLw I_ L_ M_ t_ y_ bus j_) (hv : v_ < 2) : zYm 18 126 [zwR 6 0, zwI (Int32.ofNat v_), zwI (Int32.ofNat M_), zwR 30 63, zwR 30 64, zwR 30 65, zwR 30 60, zwR 30 61, zwR 30 66] I_ L_ 38 (zo6Q I_ L_ j_) := by
  obtain ⟨⟨⟨D_, hR, et⟩, hx, hb_, h6⟩, hT_, hB_, g1, g2, g3_⟩ := h_
  exact zo126 hR hv (by rw [zqnow hR, et]; exact hx v_ hv) hT_ g3_
set_option maxRecDepth 100000 in
theorem zoe8 (h_ : zLw I_ L_ M_ t_ y_ bus j_) (ha_ : 76 ≤ a_) (hX : ∀ I' L' x17 x18 x19 x20 x21 x22 x23 x24, zLw I' L' M_ t_ y_ bus (j_ + 2) → zY (some (T, xs)) 20 210 389 (zlLw (some (zwI 1)) (some (zwI (Int32.ofNat bus))) (some (zwI (Int32.ofNat M_))) (some (zwI (Int32.ofNat y_))) (some (zwI (Int32.ofNat (turn_ + 1)))) x14 x15 (some (zwI z16)) x17 x18 x19 x20 x21 x22 x23 x24 x25 x26) [] I' L' (a_ - 76) Q_) : zY (some (T, xs)) 20 210 1559 (zlLw (some (zwI 1)) (some (zwI (Int32.ofNat bus))) (some (zwI (Int32.ofNat M_))) (some (zwI (Int32.ofNat y_))) (some (zwI (Int32.ofNat turn_))) x14 x15 (some (zwI z16)) x17 x18 x19 x20 x21 x22 x23 x24 x25 x26) [] I_ L_ a_ Q_ := by
  refine zY.go 1 rfl ?_
  refine zY.bi rfl (fun hp => absurd (show (1 : Int32) = 0 from hp) (by decide)) (fun _ => ?_)
  refine zY.go 9 rfl ?_
  refine zY.c (zo126' h_ (show 0 < 2 by omega)) rfl rfl rfl rfl (Nat.le_of_ble_eq_true rfl) rfl (by decide) rfl (by decide) (by omega) (fun r_ I1 L1 hq => ?_)
  have er : r_ = .inl (some (zwI 1)) := hq.1
  subst er
  refine ⟨_, rfl, ?_⟩
  have h1 := h_.iso (v_ := 0) (by omega) (r_ := .inl none) hq
  refine zY.bi rfl (fun hp => absurd (show (1 : Int32) = 0 from hp) (by decide)) (fun _ => ?_)
  refine zY.go 9 rfl ?_
  refine zY.c (zo126' h1 (show 1 < 2 by omega)) rfl rfl rfl rfl (Nat.le_of_ble_eq_true rfl) rfl (by decide) rfl (by decide) (by omega) (fun r_ I2_ L2_ hq2 => ?_)
  have er : r_ = .inl (some (zwI 1)) := hq2.1
  subst er
  refine ⟨_, rfl, ?_⟩
  have h2 := h1.iso (v_ := 1) (by omega) (r_ := .inl none) hq2
  refine zY.bi rfl (fun hp => absurd (show (1 : Int32) = 0 from hp) (by decide)) (fun _ => ?_)
  refine zY.go 9 rfl ?_
  refine zoe6 h2.1 h2.2.1 (fun x21 x22 x23 x24 => zoe7 h2.1 ?_) M_ 0 _ _ _ _ (Nat.add_zero M_)
  have := hX I2_ L2_ (some (zwL (zmon I2_ (List.range M_) 0))) none (some (zwI (zcnt (fun q_ => zctd (I2_ 1 q_) 7) (List.range M_) 0))) (some (zwI (Int32.ofNat M_))) x21 x22 x23 x24 h2
  rw [show a_ - 76 = a_ - 38 - 38 by omega] at this
  exact this
end
