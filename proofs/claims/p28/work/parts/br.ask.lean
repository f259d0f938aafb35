/-! THE LAW: what a turn does: ask, before -/
/-- drives to the one stop of the bus -/
theorem zcb_one {C_ : zIn} {bus : Nat} : ∀ (n_ k_ : Nat) (x_ : Int32), n_ + k_ = 36 → (∀ i_, k_ ≤ i_ → i_ < 36 → (C_ 31 0 i_ = 0 ↔ ¬ i_ = bus)) → zcb C_ n_ k_ x_ = if k_ ≤ bus ∧ bus < 36 then x_ + 1 else x_
  | 0, k_, x_, hk, _ => by
    rw [if_neg (by omega)]; rfl
  | n_ + 1, k_, x_, hk, h_ => by
    unfold zcb
    rw [zcb_one n_ (k_ + 1) _ (by omega) (fun i_ h1 h2 => h_ i_ (by omega) h2)]
    have hb_ := h_ k_ (Nat.le_refl _) (by omega)
    by_cases e_ : k_ = bus
    · rw [if_neg (show ¬ C_ 31 0 k_ = 0 from fun e2_ => hb_.mp e2_ e_), if_neg (by omega), if_pos (by omega)]
    · rw [if_pos (hb_.mpr e_)]
      by_cases e2_ : k_ + 1 ≤ bus ∧ bus < 36
      · rw [if_pos e2_, if_pos (by omega)]
      · rw [if_neg e2_, if_neg (by omega)]
theorem znb_one {C_ : zIn} {bus : Nat} {y_ : Int32} : ∀ (n_ k_ : Nat) (x_ : Int32), n_ + k_ = 36 → (∀ i_, k_ ≤ i_ → i_ < 36 → (C_ 31 0 i_ = 0 ↔ ¬ i_ = bus)) → znb C_ y_ n_ k_ x_ = if k_ ≤ bus ∧ bus < 36 then (if zstp y_ (Int32.ofNat bus) < x_ then zstp y_ (Int32.ofNat bus) else x_) else x_
  | 0, k_, x_, hk, _ => by
    rw [if_neg (by omega)]; rfl
  | n_ + 1, k_, x_, hk, h_ => by
    unfold znb
    rw [znb_one n_ (k_ + 1) _ (by omega) (fun i_ h1 h2 => h_ i_ (by omega) h2)]
    have hb_ := h_ k_ (Nat.le_refl _) (by omega)
    by_cases e_ : k_ = bus
    · rw [if_neg (show ¬ C_ 31 0 k_ = 0 from fun e2_ => hb_.mp e2_ e_), if_neg (show ¬ (k_ + 1 ≤ bus ∧ bus < 36) by omega), if_pos (show k_ ≤ bus ∧ bus < 36 by omega), e_]
    · rw [if_pos (hb_.mpr e_)]
      by_cases e2_ : k_ + 1 ≤ bus ∧ bus < 36
      · rw [if_pos e2_, if_pos (show k_ ≤ bus ∧ bus < 36 by omega)]
      · rw [if_neg e2_, if_neg (show ¬ (k_ ≤ bus ∧ bus < 36) by omega)]
theorem zhalf : ∀ a_, a_ < 11 → ∀ b_, b_ < 11 → (2 * Int32.ofNat a_ + 2 * Int32.ofNat b_) / 2 = Int32.ofNat a_ + Int32.ofNat b_ := by decide +kernel
theorem zspN (x_ : Nat) (hx : x_ < 36) (y_ : Nat) (hy : y_ < 36) : zspm (Int32.ofNat x_) (Int32.ofNat y_) = Int32.ofNat (zspm (Int32.ofNat x_) (Int32.ofNat y_)).toNatClampNeg ∧ (zspm (Int32.ofNat x_) (Int32.ofNat y_)).toNatClampNeg < 11 := by
  obtain ⟨s1_, s2_⟩ := zspB x_ hx y_ hy
  refine ⟨(Int32.ofNat_toNatClampNeg _ (zti0 s1_)).symm, ?_⟩
  show (zspm (Int32.ofNat x_) (Int32.ofNat y_)).toInt.toNat < 11
  omega
theorem zowd_law {I_ : zIn} {bus p_ f_ b_ : Nat} (hB_ : zBt I_ bus) (h6 : I_ 6 0 6 = 0) (hf : f_ < 36) (hb_ : b_ < 36) : zowd I_ p_ (Int32.ofNat f_) (Int32.ofNat b_) = (decide (35 < bus) || decide (I_ 2 p_ 2 < (2 * zspm (Int32.ofNat f_) (Int32.ofNat bus) + 2 * zspm (Int32.ofNat b_) (Int32.ofNat bus)) / 2)) := by
  unfold zowd
  rw [zcb_one 36 0 0 rfl (fun i_ _ hi_ => hB_ i_ hi_), znb_one 36 0 36 rfl (fun i_ _ hi_ => hB_ i_ hi_), znb_one 36 0 36 rfl (fun i_ _ hi_ => hB_ i_ hi_), if_pos (Or.inl h6)]
  by_cases h_ : 35 < bus
  · rw [if_neg (show ¬ (0 ≤ bus ∧ bus < 36) by omega), decide_eq_true h_, show decide ((0 : Int32) = 0) = true from by decide, Bool.true_or, Bool.true_or]
  · have hb36 : bus < 36 := by omega
    have hc_ : 0 ≤ bus ∧ bus < 36 := ⟨Nat.zero_le _, hb36⟩
    rw [if_pos hc_, if_pos hc_, if_pos hc_, decide_eq_false h_, Bool.false_or, zzstp ⟨f_, hf, rfl⟩ ⟨bus, hb36, rfl⟩, zzstp ⟨b_, hb_, rfl⟩ ⟨bus, hb36, rfl⟩]
    obtain ⟨e1_, l1⟩ := zspN f_ hf bus hb36
    obtain ⟨e2_, l2⟩ := zspN b_ hb_ bus hb36
    rw [e1_, e2_]
    generalize (zspm (Int32.ofNat f_) (Int32.ofNat bus)).toNatClampNeg = n1_ at *
    generalize (zspm (Int32.ofNat b_) (Int32.ofNat bus)).toNatClampNeg = n2_ at *
    rw [if_pos (show Int32.ofNat n1_ < 36 from (zilt (b := 36) (by omega) (by omega)).mpr (by omega)), if_pos (show Int32.ofNat n2_ < 36 from (zilt (b := 36) (by omega) (by omega)).mpr (by omega)), zhalf n1_ l1 n2_ l2, show decide ((0 : Int32) + 1 = 0) = false from by decide, Bool.false_or]
theorem zap_of {a_ b_ : Nat} (ha_ : a_ < 1000) (hb_ : b_ < 1000) : zap (Int32.ofNat a_) (Int32.ofNat b_) = Int32.ofNat (a_ - b_ + (b_ - a_)) := by
  unfold zap
  by_cases h_ : a_ ≤ b_
  · rw [if_pos ((zile (by omega) (by omega)).mpr h_), ← Int32.ofNat_sub _ _ h_]
    congr 1; omega
  · rw [if_neg (fun e_ => h_ ((zile (by omega) (by omega)).mp e_)), ← Int32.ofNat_sub _ _ (by omega)]
    congr 1; omega
section
variable {I_ I' : zIn} {L_ L' : zLi} {M_ t_ t' y_ y' bus j_ v_ p_ f_ a_ b_ m_ turn_ T B_ r_ : Nat} {xs : Nat → Int32} {Q_ : zPost} {x14 x15 x16 x17 x18 x19 x20 x21 x22 x23 x24 x25 x26 : Option zW} {z14_ z15 z16 z18 : Int32} {st_ lf_ : Bool}
theorem zJ.so (h_ : zJ I_ L_ M_ t_) (hS_ : zSo I_ L_ I' L') : zJ I' L' M_ t_ := by
  obtain ⟨⟨D_, hR, et⟩, hx, hb_, h6⟩ := h_
  refine ⟨⟨D_, hS_.R hR, et⟩, fun w_ hw => (hx w_ hw).cg (hS_.a26 w_) (fun q_ _ => hS_.a1 q_ (by omega)), fun q_ hq => ?_, h6⟩
  rw [hS_.a1 q_ (f_ := 7) (by omega), hS_.a1 q_ (f_ := 11) (by omega)]; exact hb_ q_ hq
set_option maxRecDepth 100000 in
/-- whether a request counts: of the rider, of the last days, not denied -/
theorem zoa1 {z21 z22 : Int32} (h_ : zLw I_ L_ M_ t_ y_ bus j_) (hr : r_ < M_) (hp : p_ < 6) (hX : ∀ x24, zY (some (T, xs)) 20 210 528 (zlLw (some (zwI 1)) (some (zwI (Int32.ofNat bus))) (some (zwI (Int32.ofNat M_))) (some (zwI (Int32.ofNat y_))) (some (zwI (Int32.ofNat turn_))) (some (zwI z14_)) (some (zwI z15)) (some (zwI (Int32.ofNat t_))) (some (zwI (Int32.ofNat p_))) (some (zwI (Int32.ofNat f_))) (some (zwI (Int32.ofNat b_))) (some (zwI (Int32.ofNat m_))) (some (zwI (z21 + (if zlyc I_ p_ 1 r_ = true then 1 else 0)))) (some (zwI (z22 + (if zlyc I_ p_ 0 r_ = true then 1 else 0)))) (some (zwI (Int32.ofNat (r_ + 1)))) x24 x25 x26) [] I_ L_ a_ Q_) : zY (some (T, xs)) 20 210 535 (zlLw (some (zwI 1)) (some (zwI (Int32.ofNat bus))) (some (zwI (Int32.ofNat M_))) (some (zwI (Int32.ofNat y_))) (some (zwI (Int32.ofNat turn_))) (some (zwI z14_)) (some (zwI z15)) (some (zwI (Int32.ofNat t_))) (some (zwI (Int32.ofNat p_))) (some (zwI (Int32.ofNat f_))) (some (zwI (Int32.ofNat b_))) (some (zwI (Int32.ofNat m_))) (some (zwI z21)) (some (zwI z22)) (some (zwI (Int32.ofNat r_))) x24 x25 x26) [] I_ L_ a_ Q_ := by
  obtain ⟨⟨⟨D_, hR, et⟩, _⟩, _⟩ := id h_
  have hM_ : M_ ≤ 60 := hR.1.2.2.2.2.2.2.2.1
  obtain ⟨u_, hu, eu⟩ := zrq hR hr
  have t1_ := (h_.2.1.1 r_ hr).1.trans eu
  have ey := h_.2.2.2.2.1
  have ec : (I_ 1 r_ 0).toNatClampNeg = u_ := by rw [eu, zicl (by omega)]
  have go_ : ∀ cb : Bool, cb = zlyc I_ p_ 0 r_ → zY (some (T, xs)) 20 210 578 (zlLw (some (zwI 1)) (some (zwI (Int32.ofNat bus))) (some (zwI (Int32.ofNat M_))) (some (zwI (Int32.ofNat y_))) (some (zwI (Int32.ofNat turn_))) (some (zwI z14_)) (some (zwI z15)) (some (zwI (Int32.ofNat t_))) (some (zwI (Int32.ofNat p_))) (some (zwI (Int32.ofNat f_))) (some (zwI (Int32.ofNat b_))) (some (zwI (Int32.ofNat m_))) (some (zwI z21)) (some (zwI z22)) (some (zwI (Int32.ofNat r_))) x24 x25 x26) [zwI (if cb = true then 1 else 0)] I_ L_ a_ Q_ := by
    intro cb ecb
    have e1_ : zlyc I_ p_ 1 r_ = (cb && znos (I_ 1 r_)) := by
      rw [ecb]
      unfold zlyc
      rw [show decide ((0 : Int32) = 0) = true from rfl, show decide ((1 : Int32) = 0) = false from rfl, Bool.true_or, Bool.false_or, Bool.and_true, Bool.and_assoc, Bool.and_assoc]
    rw [← ecb, e1_] at hX
    rw [← zisucc] at hX
    cases cb with
    | false =>
      rw [Bool.false_and] at hX
      refine zY.go 3 rfl ?_
      refine zY.bi rfl (fun _ => ?_) (fun hp => absurd rfl hp)
      refine zY.go 5 rfl ?_
      refine zY.bi rfl (fun _ => ?_) (fun hp => absurd rfl hp)
      refine zY.go 5 rfl ?_
      exact hX _
    | true =>
      rw [Bool.true_and] at hX
      refine zY.go 3 rfl ?_
      refine zY.bi rfl (fun hp => absurd (show (1 : Int32) = 0 from hp) (by decide)) (fun _ => ?_)
      refine zY.go 6 rfl ?_
      refine zY.bi rfl (fun hp => absurd (show (1 : Int32) = 0 from hp) (by decide)) (fun _ => ?_)
      refine zY.go 3 rfl ?_
      refine zY.cr (zq62' (k_ := 10) h_.1 hr (by decide)) rfl rfl rfl rfl (Nat.le_of_ble_eq_true rfl) rfl (by decide) rfl (by decide) (Nat.zero_le _) ?_
      refine zY.go 1 rfl ?_
      cases hz : znos (I_ 1 r_) with
      | false =>
        rw [hz] at hX
        refine zY.bc rfl (fun _ => ?_) (fun hp => absurd (show ¬ (if znos (I_ 1 r_) = true then (1 : Int32) else 0) = 1 by rw [hz]; decide) hp)
        refine zY.go 5 rfl ?_
        exact hX _
      | true =>
        rw [hz] at hX
        refine zY.bc rfl (fun hp => absurd (show (if znos (I_ 1 r_) = true then (1 : Int32) else 0) = 1 by rw [hz]; rfl) hp) (fun _ => ?_)
        refine zY.go 6 rfl ?_
        exact hX _
  have no_ : zlyc I_ p_ 0 r_ = false → zY (some (T, xs)) 20 210 577 (zlLw (some (zwI 1)) (some (zwI (Int32.ofNat bus))) (some (zwI (Int32.ofNat M_))) (some (zwI (Int32.ofNat y_))) (some (zwI (Int32.ofNat turn_))) (some (zwI z14_)) (some (zwI z15)) (some (zwI (Int32.ofNat t_))) (some (zwI (Int32.ofNat p_))) (some (zwI (Int32.ofNat f_))) (some (zwI (Int32.ofNat b_))) (some (zwI (Int32.ofNat m_))) (some (zwI z21)) (some (zwI z22)) (some (zwI (Int32.ofNat r_))) x24 x25 x26) [] I_ L_ a_ Q_ := fun e_ => by
    refine zY.go 1 rfl ?_
    exact go_ false e_.symm
  have elyc : zlyc I_ p_ 0 r_ = (decide (u_ = p_) && (decide (¬ I_ 1 r_ 5 = 6) && (decide (Int32.ofNat y_ - 30 < I_ 1 r_ 3) && true))) := by
    unfold zlyc zol
    rw [ec, ey, show decide ((0 : Int32) = 0) = true from rfl, Bool.true_or]
  refine zY.go 2 rfl ?_
  refine zY.ai (n_ := r_) rfl rfl (by show r_ < 60; omega) ?_
  rw [t1_]
  refine zY.go 1 rfl ?_
  by_cases hup : u_ = p_
  · refine zY.bc rfl (fun hq => absurd (show Int32.ofNat u_ = Int32.ofNat p_ by rw [hup]) hq) (fun _ => ?_)
    refine zY.go 3 rfl ?_
    refine zY.cr (zq62' (k_ := 9) h_.1 hr (by decide)) rfl rfl rfl rfl (Nat.le_of_ble_eq_true rfl) rfl (by decide) rfl (by decide) (Nat.zero_le _) ?_
    refine zY.go 3 rfl ?_
    refine zY.bc rfl (fun hq => ?_) (fun hq => ?_)
    · exact no_ (by rw [elyc, decide_eq_false (show ¬ Int32.ofNat y_ - 30 < I_ 1 r_ 3 from Int32.not_lt.mpr hq), Bool.false_and, Bool.and_false, Bool.and_false])
    · refine zY.go 3 rfl ?_
      refine zY.cr (zq62' (k_ := 0) h_.1 hr (by decide)) rfl rfl rfl rfl (Nat.le_of_ble_eq_true rfl) rfl (by decide) rfl (by decide) (Nat.zero_le _) ?_
      refine zY.go 1 rfl ?_
      refine zY.bc rfl (fun hq2 => ?_) (fun hq2 => ?_)
      · exact no_ (by rw [elyc, decide_eq_false (show ¬ ¬ I_ 1 r_ 5 = 6 from fun hh => hh hq2), Bool.false_and, Bool.and_false])
      · refine zY.go 2 rfl ?_
        refine go_ true ?_
        rw [elyc, decide_eq_true hup, decide_eq_true (show Int32.ofNat y_ - 30 < I_ 1 r_ 3 from Int32.not_le.mp hq), decide_eq_true (show ¬ I_ 1 r_ 5 = 6 from hq2)]
        rfl
  · refine zY.bc rfl (fun _ => ?_) (fun hq => absurd (fun e_ => hup ((zof_eq (by omega) (by omega)).mp e_)) hq)
    exact no_ (by rw [elyc, decide_eq_false hup, Bool.false_and])
set_option maxRecDepth 100000 in
theorem zoa2 (h_ : zLw I_ L_ M_ t_ y_ bus j_) (hp : p_ < 6) (hX : ∀ x24, zY (some (T, xs)) 20 210 628 (zlLw (some (zwI 1)) (some (zwI (Int32.ofNat bus))) (some (zwI (Int32.ofNat M_))) (some (zwI (Int32.ofNat y_))) (some (zwI (Int32.ofNat turn_))) (some (zwI z14_)) (some (zwI z15)) (some (zwI (Int32.ofNat t_))) (some (zwI (Int32.ofNat p_))) (some (zwI (Int32.ofNat f_))) (some (zwI (Int32.ofNat b_))) (some (zwI (Int32.ofNat m_))) (some (zwI (zcnt (zlyc I_ p_ 1) (List.range M_) 0))) (some (zwI (zcnt (zlyc I_ p_ 0) (List.range M_) 0))) (some (zwI (Int32.ofNat M_))) x24 x25 x26) [] I_ L_ a_ Q_) : ∀ (n_ r_ : Nat) (x24 : Option zW), n_ + r_ = M_ → zY (some (T, xs)) 20 210 528 (zlLw (some (zwI 1)) (some (zwI (Int32.ofNat bus))) (some (zwI (Int32.ofNat M_))) (some (zwI (Int32.ofNat y_))) (some (zwI (Int32.ofNat turn_))) (some (zwI z14_)) (some (zwI z15)) (some (zwI (Int32.ofNat t_))) (some (zwI (Int32.ofNat p_))) (some (zwI (Int32.ofNat f_))) (some (zwI (Int32.ofNat b_))) (some (zwI (Int32.ofNat m_))) (some (zwI (zcnt (zlyc I_ p_ 1) (List.range r_) 0))) (some (zwI (zcnt (zlyc I_ p_ 0) (List.range r_) 0))) (some (zwI (Int32.ofNat r_))) x24 x25 x26) [] I_ L_ a_ Q_
  | 0, r_, x24, hr => by
    obtain ⟨⟨⟨D_, hR, et⟩, _⟩, _⟩ := id h_
    have hM_ : M_ ≤ 60 := hR.1.2.2.2.2.2.2.2.1
    have e_ : r_ = M_ := by omega
    subst e_
    refine zY.go 2 rfl ?_
    refine zY.bn rfl (by omega) (by omega) (fun _ => hX _) (fun hF => absurd (Nat.le_refl r_) hF)
  | n_ + 1, r_, x24, hr => by
    obtain ⟨⟨⟨D_, hR, et⟩, _⟩, _⟩ := id h_
    have hM_ : M_ ≤ 60 := hR.1.2.2.2.2.2.2.2.1
    refine zY.go 2 rfl ?_
    refine zY.bn rfl (by omega) (by omega) (fun hT_ => absurd hT_ (show ¬ M_ ≤ r_ by omega)) (fun _ => ?_)
    refine zoa1 h_ (by omega) hp (fun x24 => ?_)
    have := zoa2 h_ hp hX n_ (r_ + 1) x24 (by omega)
    rw [List.range_succ, zcnt_app, zcnt_app] at this
    exact this
end
