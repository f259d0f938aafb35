/-! THE LAW: the loop at the end of a turn -/
section
variable {I_ I' : zIn} {L_ L' : zLi} {M_ t_ t' y_ y' bus j_ v_ p_ a_ b_ m_ turn_ T : Nat} {xs : Nat → Int32} {Q_ : zPost} {x14 x15 x16 x17 x18 x19 x20 x21 x22 x23 x24 x25 x26 : Option zW} {z16 z21 z22 : Int32}
set_option maxRecDepth 100000 in
theorem zoe4 {r_ : Nat} (hX : zY (some (T, xs)) 20 210 1785 (zlLw (some (zwI 1)) (some (zwI (Int32.ofNat bus))) (some (zwI (Int32.ofNat M_))) (some (zwI (Int32.ofNat y_))) (some (zwI (Int32.ofNat turn_))) x14 x15 (some (zwI z16)) (some (zwL (zmon I_ (List.range r_) 0))) none (some (zwI (zcnt (fun q_ => zctd (I_ 1 q_) 7) (List.range (r_ + 1)) 0))) (some (zwI (Int32.ofNat r_))) (some (zwI z21)) (some (zwI z22)) (some (zwI (if zlat (I_ 1 r_) = true then 1 else 0))) (some (zwI (if zlon (I_ 1 r_) = true then 1 else 0))) x25 x26) [] I_ L_ a_ Q_) : zY (some (T, xs)) 20 210 1770 (zlLw (some (zwI 1)) (some (zwI (Int32.ofNat bus))) (some (zwI (Int32.ofNat M_))) (some (zwI (Int32.ofNat y_))) (some (zwI (Int32.ofNat turn_))) x14 x15 (some (zwI z16)) (some (zwL (zmon I_ (List.range r_) 0))) none (some (zwI (zcnt (fun q_ => zctd (I_ 1 q_) 7) (List.range r_) 0))) (some (zwI (Int32.ofNat r_))) (some (zwI z21)) (some (zwI z22)) (some (zwI (if zlat (I_ 1 r_) = true then 1 else 0))) (some (zwI (if zlon (I_ 1 r_) = true then 1 else 0))) x25 x26) [] I_ L_ a_ Q_ := by
  have e_ : zcnt (fun q_ => zctd (I_ 1 q_) 7) (List.range (r_ + 1)) 0 = zcnt (fun q_ => zctd (I_ 1 q_) 7) (List.range r_) 0 + (if zlat (I_ 1 r_) = true then 1 else 0) := by rw [List.range_succ, zcnt_app]; rfl
  rw [e_] at hX
  refine zY.go 2 rfl ?_
  refine zY.we rfl (fun hb_ => ?_) (fun hb_ => ?_)
  · rw [hb_] at hX ⊢
    refine zY.go 3 rfl ?_
    exact hX
  · rw [hb_] at hX ⊢
    refine zY.go 4 rfl ?_
    exact hX
set_option maxRecDepth 100000 in
theorem zoe5 {r_ : Nat} (h_ : zJ I_ L_ M_ t_) (hT_ : zTie I_ M_) (hr : r_ < M_) (hX : zY (some (T, xs)) 20 210 1620 (zlLw (some (zwI 1)) (some (zwI (Int32.ofNat bus))) (some (zwI (Int32.ofNat M_))) (some (zwI (Int32.ofNat y_))) (some (zwI (Int32.ofNat turn_))) x14 x15 (some (zwI z16)) (some (zwL (zmon I_ (List.range (r_ + 1)) 0))) none (some (zwI (zcnt (fun q_ => zctd (I_ 1 q_) 7) (List.range (r_ + 1)) 0))) (some (zwI (Int32.ofNat (r_ + 1)))) (some (zwI z21)) (some (zwI z22)) (some (zwI (if zlat (I_ 1 r_) = true then 1 else 0))) (some (zwI (if zlon (I_ 1 r_) = true then 1 else 0))) x25 x26) [] I_ L_ a_ Q_) : zY (some (T, xs)) 20 210 1785 (zlLw (some (zwI 1)) (some (zwI (Int32.ofNat bus))) (some (zwI (Int32.ofNat M_))) (some (zwI (Int32.ofNat y_))) (some (zwI (Int32.ofNat turn_))) x14 x15 (some (zwI z16)) (some (zwL (zmon I_ (List.range r_) 0))) none (some (zwI (zcnt (fun q_ => zctd (I_ 1 q_) 7) (List.range (r_ + 1)) 0))) (some (zwI (Int32.ofNat r_))) (some (zwI z21)) (some (zwI z22)) (some (zwI (if zlat (I_ 1 r_) = true then 1 else 0))) (some (zwI (if zlon (I_ 1 r_) = true then 1 else 0))) x25 x26) [] I_ L_ a_ Q_ := by
  have hM_ : M_ ≤ 60 := by obtain ⟨⟨D_, hR, et⟩, _⟩ := h_; exact hR.1.2.2.2.2.2.2.2.1
  obtain ⟨b1, b2, b3, b4, b5⟩ := h_.bnds hr
  obtain ⟨t1_, t2_, t3_⟩ := hT_.1 r_ hr
  have e_ : zmon I_ (List.range (r_ + 1)) 0 = zmon I_ (List.range r_) 0 + (zfar (I_ 1 r_)).toInt64 := by rw [List.range_succ, zmon_app]
  rw [e_, ← zisucc] at hX
  have no_ : zfar (I_ 1 r_) = 0 → zY (some (T, xs)) 20 210 1832 (zlLw (some (zwI 1)) (some (zwI (Int32.ofNat bus))) (some (zwI (Int32.ofNat M_))) (some (zwI (Int32.ofNat y_))) (some (zwI (Int32.ofNat turn_))) x14 x15 (some (zwI z16)) (some (zwL (zmon I_ (List.range r_) 0))) none (some (zwI (zcnt (fun q_ => zctd (I_ 1 q_) 7) (List.range (r_ + 1)) 0))) (some (zwI (Int32.ofNat r_))) (some (zwI z21)) (some (zwI z22)) (some (zwI (if zlat (I_ 1 r_) = true then 1 else 0))) (some (zwI (if zlon (I_ 1 r_) = true then 1 else 0))) x25 x26) [zwL (zmon I_ (List.range r_) 0)] I_ L_ a_ Q_ := fun e0_ => by
    rw [e0_] at hX
    refine zY.go 5 rfl ?_
    exact hX
  refine zY.go 4 rfl ?_
  refine zY.cr (zq62' (k_ := 0) h_ hr (by decide)) rfl rfl rfl rfl (Nat.le_of_ble_eq_true rfl) rfl (by decide) rfl (by decide) (Nat.zero_le _) ?_
  refine zY.go 1 rfl ?_
  refine zY.bc rfl (fun hp => ?_) (fun hp => ?_)
  · exact no_ (by unfold zfar; rw [if_neg (fun hh => hp hh.1)])
  · have e5_ : I_ 1 r_ 5 = 2 := Classical.not_not.mp hp
    refine zY.go 1 rfl ?_
    cases hl : zlat (I_ 1 r_) with
    | true =>
      rw [hl] at no_
      refine zY.bi rfl (fun _ => ?_) (fun hp2 => absurd (show ¬ (1 : Int32) = 0 by decide) hp2)
      exact no_ (by unfold zfar; rw [if_neg (fun hh => by rw [hl] at hh; exact Bool.noConfusion hh.2.1)])
    | false =>
      refine zY.bi rfl (fun hp2 => absurd rfl hp2) (fun _ => ?_)
      refine zY.go 1 rfl ?_
      cases hn : zlon (I_ 1 r_) with
      | true =>
        rw [hl, hn] at no_
        refine zY.bi rfl (fun _ => ?_) (fun hp2 => absurd (show ¬ (1 : Int32) = 0 by decide) hp2)
        exact no_ (by unfold zfar; rw [if_neg (fun hh => by rw [hn] at hh; exact Bool.noConfusion hh.2.2)])
      | false =>
        refine zY.bi rfl (fun hp2 => absurd rfl hp2) (fun _ => ?_)
        have ef : zfar (I_ 1 r_) = 200 + 10 * (2 * zspm (I_ 1 r_ 1) (I_ 1 r_ 2)) := by
          unfold zfar
          rw [if_pos ⟨e5_, hl, hn⟩, zzstp b1 b2, ← Int32.mul_assoc]; rfl
        rw [ef, hl, hn] at hX
        refine zY.go 4 rfl ?_
        refine zY.ai (n_ := r_) rfl rfl (by show r_ < 60; omega) ?_
        refine zY.go 2 rfl ?_
        refine zY.ai (n_ := r_) rfl rfl (by show r_ < 60; omega) ?_
        rw [t2_, t3_]
        refine zY.cr za124 rfl rfl rfl rfl (Nat.le_of_ble_eq_true rfl) rfl (by decide) rfl (by decide) (Nat.zero_le _) ?_
        refine zY.go 8 rfl ?_
        exact hX
set_option maxRecDepth 100000 in
theorem zoe6 (h_ : zJ I_ L_ M_ t_) (hT_ : zTie I_ M_) (hX : ∀ x21 x22 x23 x24, zY (some (T, xs)) 20 210 1842 (zlLw (some (zwI 1)) (some (zwI (Int32.ofNat bus))) (some (zwI (Int32.ofNat M_))) (some (zwI (Int32.ofNat y_))) (some (zwI (Int32.ofNat turn_))) x14 x15 (some (zwI z16)) (some (zwL (zmon I_ (List.range M_) 0))) none (some (zwI (zcnt (fun q_ => zctd (I_ 1 q_) 7) (List.range M_) 0))) (some (zwI (Int32.ofNat M_))) x21 x22 x23 x24 x25 x26) [] I_ L_ a_ Q_) : ∀ (n_ r_ : Nat) (x21 x22 x23 x24 : Option zW), n_ + r_ = M_ → zY (some (T, xs)) 20 210 1620 (zlLw (some (zwI 1)) (some (zwI (Int32.ofNat bus))) (some (zwI (Int32.ofNat M_))) (some (zwI (Int32.ofNat y_))) (some (zwI (Int32.ofNat turn_))) x14 x15 (some (zwI z16)) (some (zwL (zmon I_ (List.range r_) 0))) none (some (zwI (zcnt (fun q_ => zctd (I_ 1 q_) 7) (List.range r_) 0))) (some (zwI (Int32.ofNat r_))) x21 x22 x23 x24 x25 x26) [] I_ L_ a_ Q_
  | 0, r_, x21, x22, x23, x24, hr => by
    have hM_ : M_ ≤ 60 := by obtain ⟨⟨D_, hR, et⟩, _⟩ := h_; exact hR.1.2.2.2.2.2.2.2.1
    have e_ : r_ = M_ := by omega
    subst e_
    refine zY.go 2 rfl ?_
    refine zY.bn rfl (by omega) (by omega) (fun _ => hX _ _ _ _) (fun hF => absurd (Nat.le_refl r_) hF)
  | n_ + 1, r_, x21, x22, x23, x24, hr => by
    have hM_ : M_ ≤ 60 := by obtain ⟨⟨D_, hR, et⟩, _⟩ := h_; exact hR.1.2.2.2.2.2.2.2.1
    have hrM : r_ < M_ := by omega
    refine zY.go 2 rfl ?_
    refine zY.bn rfl (by omega) (by omega) (fun hT_ => absurd hT_ (show ¬ M_ ≤ r_ by omega)) (fun _ => ?_)
    refine zY.go 3 rfl ?_
    refine zY.cr (zq62' (k_ := 4) h_ hrM (by decide)) rfl rfl rfl rfl (Nat.le_of_ble_eq_true rfl) rfl (by decide) rfl (by decide) (Nat.zero_le _) ?_
    refine zY.go 4 rfl ?_
    refine zY.cr (zq62' (k_ := 6) h_ hrM (by decide)) rfl rfl rfl rfl (Nat.le_of_ble_eq_true rfl) rfl (by decide) rfl (by decide) (Nat.zero_le _) ?_
    refine zY.go 1 rfl ?_
    exact zoe1 h_ hrM (zoe2 h_ hT_ hrM (zoe3 h_ hrM (zoe4 (zoe5 h_ hT_ hrM (zoe6 h_ hT_ hX n_ (r_ + 1) _ _ _ _ (by omega))))))
set_option maxRecDepth 100000 in
theorem zoe7 (h_ : zJ I_ L_ M_ t_) (hX : zY (some (T, xs)) 20 210 389 (zlLw (some (zwI 1)) (some (zwI (Int32.ofNat bus))) (some (zwI (Int32.ofNat M_))) (some (zwI (Int32.ofNat y_))) (some (zwI (Int32.ofNat (turn_ + 1)))) x14 x15 (some (zwI z16)) (some (zwL (zmon I_ (List.range M_) 0))) none (some (zwI (zcnt (fun q_ => zctd (I_ 1 q_) 7) (List.range M_) 0))) (some (zwI (Int32.ofNat M_))) x21 x22 x23 x24 x25 x26) [] I_ L_ a_ Q_) : zY (some (T, xs)) 20 210 1842 (zlLw (some (zwI 1)) (some (zwI (Int32.ofNat bus))) (some (zwI (Int32.ofNat M_))) (some (zwI (Int32.ofNat y_))) (some (zwI (Int32.ofNat turn_))) x14 x15 (some (zwI z16)) (some (zwL (zmon I_ (List.range M_) 0))) none (some (zwI (zcnt (fun q_ => zctd (I_ 1 q_) 7) (List.range M_) 0))) (some (zwI (Int32.ofNat M_))) x21 x22 x23 x24 x25 x26) [] I_ L_ a_ Q_ := by
  have e22_ : L_ 22 0 = List.range M_ := by obtain ⟨⟨D_, hR, et⟩, _⟩ := h_; exact hR.1.2.2.2.2.2.2.1
  rw [← zisucc] at hX
  refine zY.go 1 rfl ?_
  refine zY.bi rfl (fun hp => absurd (show (1 : Int32) = 0 from hp) (by decide)) (fun _ => ?_)
  refine zY.go 1 rfl ?_
  refine zY.cr zm30 rfl rfl rfl rfl (Nat.le_of_ble_eq_true rfl) rfl (by decide) rfl (by decide) (Nat.zero_le _) ?_
  rw [e22_]
  refine zY.go 2 rfl ?_
  rw [zlgc]
  refine zY.bi rfl (fun hp => absurd rfl hp) (fun _ => ?_)
  refine zY.go 2 rfl ?_
  refine zY.cr (zm71t (k_ := 7) (by decide)) rfl rfl rfl rfl (Nat.le_of_ble_eq_true rfl) rfl (by decide) rfl (by decide) (Nat.zero_le _) ?_
  rw [e22_]
  refine zY.go 1 rfl ?_
  refine zY.bc rfl (fun hp => absurd rfl hp) (fun _ => ?_)
  refine zY.go 5 rfl ?_
  exact hX
end
