/-! THE LAW: all turns -/
section
variable {I_ I' : zIn} {L_ L' : zLi} {M_ t_ t' y_ y' bus j_ v_ p_ f_ a_ b_ m_ turn_ T B_ r_ : Nat} {xs : Nat → Int32} {Q_ : zPost} {x14 x15 x16 x17 x18 x19 x20 x21 x22 x23 x24 x25 x26 : Option zW} {z14_ z15 z16 z18 z21 z22 z23 z24 w_ : Int32} {ow su : Bool}
set_option maxRecDepth 100000 in
theorem zocA (h_ : zLw I_ L_ M_ t_ y_ bus j_) (hbus : bus < 40) (hM_ : M_ < 60) (ha_ : B_ + 200 ≤ a_) (hX : zoX T xs Q_ bus j_ turn_ y_ B_) : zY (some (T, xs)) 20 210 438 (zlLw (some (zwI 1)) (some (zwI (Int32.ofNat bus))) (some (zwI (Int32.ofNat M_))) (some (zwI (Int32.ofNat y_))) (some (zwI (Int32.ofNat turn_))) (some (zwI z14_)) (some (zwI z15)) (some (zwI (Int32.ofNat t_))) x17 x18 x19 x20 x21 x22 x23 x24 x25 x26) [] I_ L_ a_ Q_ := by
  obtain ⟨⟨⟨D_, hR, et⟩, _⟩, _⟩ := id h_
  have e22_ : L_ 22 0 = List.range M_ := hR.1.2.2.2.2.2.2.1
  have ht := h_.1.now.2
  obtain ⟨p_, hp, ep⟩ := zup_ok (v_ := z14_ / 32) (n_ := 6) (by omega) (by omega)
  obtain ⟨f_, hf, ef⟩ := zup_ok (v_ := z14_ / 256) (n_ := 36) (by omega) (by omega)
  obtain ⟨k_, hk, ek⟩ := zup_ok (v_ := z14_ / 16384) (n_ := 35) (by omega) (by omega)
  obtain ⟨k3_, hk3, ek3⟩ := zup_ok (v_ := z14_ / 2048) (n_ := 200) (by omega) (by omega)
  have hb_ : (f_ + 1 + k_) % 36 < 36 := Nat.mod_lt _ (by omega)
  have hfb : ¬ f_ = (f_ + 1 + k_) % 36 := by omega
  have go_ : ∀ m_, m_ ≤ 600 → ∀ x20, zY (some (T, xs)) 20 210 517 (zlLw (some (zwI 1)) (some (zwI (Int32.ofNat bus))) (some (zwI (Int32.ofNat M_))) (some (zwI (Int32.ofNat y_))) (some (zwI (Int32.ofNat turn_))) (some (zwI z14_)) (some (zwI z15)) (some (zwI (Int32.ofNat t_))) (some (zwI (Int32.ofNat p_))) (some (zwI (Int32.ofNat f_))) (some (zwI (Int32.ofNat ((f_ + 1 + k_) % 36)))) x20 x21 x22 x23 x24 x25 x26) [zwI (Int32.ofNat m_)] I_ L_ a_ Q_ := fun m_ hm_ x20 => by
    refine zY.go 7 rfl ?_
    exact zoa2 h_ hp (fun x24 => zob1 h_ hbus hp hf hb_ (zob2 e22_ (zob3 h_ hM_ hp hf hb_ hfb hm_ (by omega) (fun I1 L1 h1 h2 h3 h4 hO => zob7 h_ hM_ hm_ rfl rfl h1 h2 h3 h4 hO (by omega) hX)))) M_ 0 _ (Nat.add_zero M_)
  refine zY.go 4 rfl ?_
  refine zY.cr (za120 (y_ := 6) (by decide)) rfl rfl rfl rfl (Nat.le_of_ble_eq_true rfl) rfl (by decide) rfl (by decide) (Nat.zero_le _) ?_
  rw [show zup (z14_ / 32) 6 = Int32.ofNat p_ from ep]
  refine zY.go 5 rfl ?_
  refine zY.cr (za120 (y_ := 36) (by decide)) rfl rfl rfl rfl (Nat.le_of_ble_eq_true rfl) rfl (by decide) rfl (by decide) (Nat.zero_le _) ?_
  rw [show zup (z14_ / 256) 36 = Int32.ofNat f_ from ef]
  refine zY.go 8 rfl ?_
  refine zY.cr (za120 (y_ := 35) (by decide)) rfl rfl rfl rfl (Nat.le_of_ble_eq_true rfl) rfl (by decide) rfl (by decide) (Nat.zero_le _) ?_
  rw [show zup (z14_ / 16384) 35 = Int32.ofNat k_ from ek]
  refine zY.go 3 rfl ?_
  rw [show Int32.ofNat f_ + 1 + Int32.ofNat k_ = Int32.ofNat (f_ + 1 + k_) by rw [zisucc, ← Int32.ofNat_add], show Int32.ofNat (f_ + 1 + k_) - Int32.ofNat (f_ + 1 + k_) / 36 * 36 = Int32.ofNat ((f_ + 1 + k_) % 36) from zmodT (T := 36) (by omega) (by omega)]
  refine zY.go 6 rfl ?_
  refine zY.cr (za120 (y_ := 200) (by decide)) rfl rfl rfl rfl (Nat.le_of_ble_eq_true rfl) rfl (by decide) rfl (by decide) (Nat.zero_le _) ?_
  rw [show zup (z14_ / 2048) 200 = Int32.ofNat k3_ from ek3]
  refine zY.go 1 rfl ?_
  rw [← Int32.ofNat_add]
  refine zY.go 3 rfl ?_
  refine zY.bc rfl (fun hq => ?_) (fun hq => ?_)
  · have hle := (zile (b := 600) (by omega) (by omega)).mp hq
    refine zY.go 1 rfl ?_
    exact go_ (t_ + k3_) hle _
  · refine zY.go 2 rfl ?_
    exact go_ 600 (Nat.le_refl _) _
set_option maxRecDepth 100000 in
theorem zoT (hT_ : T ≤ 1000) (h_ : zLw I_ L_ M_ t_ y_ bus j_) (hbus : bus < 40) (hy : y_ < 400) (ht45 : turn_ < 45) (ha_ : B_ + 200 ≤ a_) (hX : zoX T xs Q_ bus j_ turn_ y_ B_) : zY (some (T, xs)) 20 210 401 (zlLw (some (zwI 1)) (some (zwI (Int32.ofNat bus))) (some (zwI (Int32.ofNat M_))) (some (zwI (Int32.ofNat y_))) (some (zwI (Int32.ofNat turn_))) x14 x15 x16 x17 x18 x19 x20 x21 x22 x23 x24 x25 x26) [] I_ L_ a_ Q_ := by
  obtain ⟨⟨⟨D_, hR, et⟩, _⟩, _⟩ := id h_
  have hM60 : M_ ≤ 60 := hR.1.2.2.2.2.2.2.2.1
  obtain ⟨w_, hw, ew⟩ := zup_ok (v_ := zcel T xs turn_) (n_ := 16) (by omega) (by omega)
  refine zY.go 2 rfl ?_
  refine zY.cl rfl rfl (by omega) hT_ (by decide) ?_
  refine zY.go 3 rfl ?_
  refine zY.cr (za120 (y_ := 16) (by decide)) rfl rfl rfl rfl (Nat.le_of_ble_eq_true rfl) rfl (by decide) rfl (by decide) (Nat.zero_le _) ?_
  rw [show zup (zcel T xs turn_) 16 = Int32.ofNat w_ from ew]
  refine zY.go 2 rfl ?_
  refine zY.cr zm25 rfl rfl rfl rfl (Nat.le_of_ble_eq_true rfl) rfl (by decide) rfl (by decide) (Nat.zero_le _) ?_
  rw [h_.1.now.1]
  have late : zY (some (T, xs)) 20 210 957 (zlLw (some (zwI 1)) (some (zwI (Int32.ofNat bus))) (some (zwI (Int32.ofNat M_))) (some (zwI (Int32.ofNat y_))) (some (zwI (Int32.ofNat turn_))) (some (zwI (zcel T xs turn_))) (some (zwI (Int32.ofNat w_))) (some (zwI (Int32.ofNat t_))) x17 x18 x19 x20 x21 x22 x23 x24 x25 x26) [] I_ L_ a_ Q_ := by
    have mid_ : zY (some (T, xs)) 20 210 1181 (zlLw (some (zwI 1)) (some (zwI (Int32.ofNat bus))) (some (zwI (Int32.ofNat M_))) (some (zwI (Int32.ofNat y_))) (some (zwI (Int32.ofNat turn_))) (some (zwI (zcel T xs turn_))) (some (zwI (Int32.ofNat w_))) (some (zwI (Int32.ofNat t_))) x17 x18 x19 x20 x21 x22 x23 x24 x25 x26) [] I_ L_ a_ Q_ := by
      refine zY.go 2 rfl ?_
      refine zY.bc rfl (fun _ => ?_) (fun _ => ?_)
      · refine zY.go 2 rfl ?_
        refine zY.bc rfl (fun _ => ?_) (fun _ => ?_)
        · refine zY.go 2 rfl ?_
          refine zY.bc rfl (fun _ => ?_) (fun _ => ?_)
          · exact zocF h_ hy ha_ hX
          · exact zocM h_ ha_ hX
        · exact zocT h_ ha_ hX
      · exact zocP h_ ha_ hX
    refine zY.go 2 rfl ?_
    refine zY.bc rfl (fun _ => mid_) (fun _ => ?_)
    refine zY.go 1 rfl ?_
    refine zY.bi rfl (fun _ => mid_) (fun hq => ?_)
    have h0 : 0 < M_ := Nat.pos_of_ne_zero (fun e_ => hq (by rw [e_]; exact Int32.le_refl 0))
    exact zocC h_ h0 ha_ hX
  refine zY.go 3 rfl ?_
  refine zY.bc rfl (fun _ => late) (fun _ => ?_)
  refine zY.go 2 rfl ?_
  refine zY.bc rfl (fun _ => late) (fun hq => ?_)
  have hM_ : M_ < 60 := (zilt (b := 60) (by omega) (by omega)).mp (Int32.not_le.mp hq)
  exact zocA h_ hbus hM_ ha_ hX
set_option maxRecDepth 100000 in
theorem zoLp (hT_ : T ≤ 1000) (hbus : bus < 40) (hQ : ∀ I' L', Q_ (.inl (some (zwI 1))) I' L') : ∀ (n_ turn_ : Nat) (I_ : zIn) (L_ : zLi) (M_ t_ y_ j_ a_ : Nat) (x14 x15 x16 x17 x18 x19 x20 x21 x22 x23 x24 x25 x26 : Option zW), n_ + turn_ = 45 → y_ ≤ turn_ → zLw I_ L_ M_ t_ y_ bus j_ → 300 * n_ ≤ a_ → zY (some (T, xs)) 20 210 389 (zlLw (some (zwI 1)) (some (zwI (Int32.ofNat bus))) (some (zwI (Int32.ofNat M_))) (some (zwI (Int32.ofNat y_))) (some (zwI (Int32.ofNat turn_))) x14 x15 x16 x17 x18 x19 x20 x21 x22 x23 x24 x25 x26) [] I_ L_ a_ Q_
  | 0, turn_, I_, L_, M_, t_, y_, j_, a_, x14, x15, x16, x17, x18, x19, x20, x21, x22, x23, x24, x25, x26, hn, hy, h_, ha_ => by
    have e_ : turn_ = 45 := by omega
    subst e_
    refine zY.go 2 rfl ?_
    refine zY.bc rfl (fun _ => ?_) (fun hq => absurd (Int32.le_refl 45) hq)
    refine zY.go 1 rfl ?_
    exact zY.rb rfl rfl (Or.inr rfl) (hQ I_ L_)
  | n_ + 1, turn_, I_, L_, M_, t_, y_, j_, a_, x14, x15, x16, x17, x18, x19, x20, x21, x22, x23, x24, x25, x26, hn, hy, h_, ha_ => by
    refine zY.go 2 rfl ?_
    refine zY.bc rfl (fun hq => absurd hq (Int32.not_le.mpr ((zilt (b := 45) (by omega) (by omega)).mpr (by omega)))) (fun _ => ?_)
    refine zY.go 1 rfl ?_
    refine zY.bi rfl (fun hp => absurd (show (1 : Int32) = 0 from hp) (by decide)) (fun _ => ?_)
    refine zoT (B_ := 76 + 300 * n_) hT_ h_ hbus (by omega) (by omega) (by omega) ?_
    intro I1 L1 M1_ t1_ y1 a1_ w14_ w15 w16 u17 u18 u19 u20 u21 u22 u23 u24 u25 u26 hy1 h1 ha1
    exact zoe8 h1 (by omega) (fun I2_ L2_ v17 v18 v19 v20 v21 v22 v23 v24 h2 => zoLp hT_ hbus hQ n_ (turn_ + 1) I2_ L2_ M1_ t1_ y1 (j_ + 2) (a1_ - 76) _ _ _ _ _ _ _ _ _ _ _ _ _ (by omega) (by omega) h2 (by omega))
end
