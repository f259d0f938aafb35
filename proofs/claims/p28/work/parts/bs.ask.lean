/-! THE LAW: what a turn does: ask, what is owed and who is out -/
section
variable {I_ I' : zIn} {L_ L' : zLi} {M_ t_ t' y_ y' bus j_ v_ p_ f_ a_ b_ m_ turn_ T B_ r_ : Nat} {xs : Nat → Int32} {Q_ : zPost} {x14 x15 x16 x17 x18 x19 x20 x21 x22 x23 x24 x25 x26 : Option zW} {z14_ z15 z16 z18 w_ : Int32} {st_ lf_ : Bool}
set_option maxRecDepth 100000 in
theorem zob1 (h_ : zLw I_ L_ M_ t_ y_ bus j_) (hbus : bus < 40) (hp : p_ < 6) (hf : f_ < 36) (hb_ : b_ < 36) (hX : zY (some (T, xs)) 20 210 665 (zlLw (some (zwI 1)) (some (zwI (Int32.ofNat bus))) (some (zwI (Int32.ofNat M_))) (some (zwI (Int32.ofNat y_))) (some (zwI (Int32.ofNat turn_))) (some (zwI z14_)) (some (zwI z15)) (some (zwI (Int32.ofNat t_))) (some (zwI (Int32.ofNat p_))) (some (zwI (Int32.ofNat f_))) (some (zwI (Int32.ofNat b_))) (some (zwI (Int32.ofNat m_))) (some (zwI (zcnt (zlyc I_ p_ 1) (List.range M_) 0))) (some (zwI (zcnt (zlyc I_ p_ 0) (List.range M_) 0))) (some (zwI (Int32.ofNat M_))) x24 x25 x26) [zwI (if (zowd I_ p_ (Int32.ofNat f_) (Int32.ofNat b_)) = true then 1 else 0)] I_ L_ a_ Q_) : zY (some (T, xs)) 20 210 628 (zlLw (some (zwI 1)) (some (zwI (Int32.ofNat bus))) (some (zwI (Int32.ofNat M_))) (some (zwI (Int32.ofNat y_))) (some (zwI (Int32.ofNat turn_))) (some (zwI z14_)) (some (zwI z15)) (some (zwI (Int32.ofNat t_))) (some (zwI (Int32.ofNat p_))) (some (zwI (Int32.ofNat f_))) (some (zwI (Int32.ofNat b_))) (some (zwI (Int32.ofNat m_))) (some (zwI (zcnt (zlyc I_ p_ 1) (List.range M_) 0))) (some (zwI (zcnt (zlyc I_ p_ 0) (List.range M_) 0))) (some (zwI (Int32.ofNat M_))) x24 x25 x26) [] I_ L_ a_ Q_ := by
  have e_ := zowd_law (p_ := p_) h_.2.2.1 h_.2.2.2.1 hf hb_
  have e2_ := (h_.2.1.2.1 p_ hp).2.2
  have yes_ : (zowd I_ p_ (Int32.ofNat f_) (Int32.ofNat b_)) = true → zY (some (T, xs)) 20 210 660 (zlLw (some (zwI 1)) (some (zwI (Int32.ofNat bus))) (some (zwI (Int32.ofNat M_))) (some (zwI (Int32.ofNat y_))) (some (zwI (Int32.ofNat turn_))) (some (zwI z14_)) (some (zwI z15)) (some (zwI (Int32.ofNat t_))) (some (zwI (Int32.ofNat p_))) (some (zwI (Int32.ofNat f_))) (some (zwI (Int32.ofNat b_))) (some (zwI (Int32.ofNat m_))) (some (zwI (zcnt (zlyc I_ p_ 1) (List.range M_) 0))) (some (zwI (zcnt (zlyc I_ p_ 0) (List.range M_) 0))) (some (zwI (Int32.ofNat M_))) x24 x25 x26) [] I_ L_ a_ Q_ := fun e_ => by
    rw [e_] at hX
    refine zY.go 2 rfl ?_
    exact hX
  refine zY.go 2 rfl ?_
  refine zY.bc rfl (fun hq => ?_) (fun hq => ?_)
  · have h35 : 35 < bus := (zilt (a := 35) (by omega) (by omega)).mp hq
    exact yes_ (by rw [e_, decide_eq_true h35, Bool.true_or])
  · have h35 : ¬ 35 < bus := fun hh => hq ((zilt (a := 35) (by omega) (by omega)).mpr hh)
    rw [decide_eq_false h35, Bool.false_or] at e_
    refine zY.go 2 rfl ?_
    refine zY.cr za124 rfl rfl rfl rfl (Nat.le_of_ble_eq_true rfl) rfl (by decide) rfl (by decide) (Nat.zero_le _) ?_
    refine zY.go 2 rfl ?_
    refine zY.cr za124 rfl rfl rfl rfl (Nat.le_of_ble_eq_true rfl) rfl (by decide) rfl (by decide) (Nat.zero_le _) ?_
    refine zY.go 5 rfl ?_
    refine zY.ai (n_ := p_) rfl rfl (by show p_ < 6; omega) ?_
    rw [e2_]
    refine zY.bc rfl (fun hq2 => ?_) (fun hq2 => ?_)
    · rw [e_, decide_eq_false (show ¬ I_ 2 p_ 2 < (2 * zspm (Int32.ofNat f_) (Int32.ofNat bus) + 2 * zspm (Int32.ofNat b_) (Int32.ofNat bus)) / 2 from Int32.not_lt.mpr hq2)] at hX
      refine zY.go 1 rfl ?_
      exact hX
    · exact yes_ (by rw [e_]; exact decide_eq_true (show I_ 2 p_ 2 < (2 * zspm (Int32.ofNat f_) (Int32.ofNat bus) + 2 * zspm (Int32.ofNat b_) (Int32.ofNat bus)) / 2 from Int32.not_le.mp hq2))
set_option maxRecDepth 100000 in
theorem zob2 {ow : Int32} (e22_ : L_ 22 0 = List.range M_) (hX : zY (some (T, xs)) 20 210 687 (zlLw (some (zwI 1)) (some (zwI (Int32.ofNat bus))) (some (zwI (Int32.ofNat M_))) (some (zwI (Int32.ofNat y_))) (some (zwI (Int32.ofNat turn_))) (some (zwI z14_)) (some (zwI z15)) (some (zwI (Int32.ofNat t_))) (some (zwI (Int32.ofNat p_))) (some (zwI (Int32.ofNat f_))) (some (zwI (Int32.ofNat b_))) (some (zwI (Int32.ofNat m_))) (some (zwI (zcnt (zlyc I_ p_ 1) (List.range M_) 0))) (some (zwI (zcnt (zlyc I_ p_ 0) (List.range M_) 0))) (some (zwI ow)) x24 x25 x26) [zwI (if (zsus I_ L_ p_) = true then 1 else 0)] I_ L_ a_ Q_) : zY (some (T, xs)) 20 210 665 (zlLw (some (zwI 1)) (some (zwI (Int32.ofNat bus))) (some (zwI (Int32.ofNat M_))) (some (zwI (Int32.ofNat y_))) (some (zwI (Int32.ofNat turn_))) (some (zwI z14_)) (some (zwI z15)) (some (zwI (Int32.ofNat t_))) (some (zwI (Int32.ofNat p_))) (some (zwI (Int32.ofNat f_))) (some (zwI (Int32.ofNat b_))) (some (zwI (Int32.ofNat m_))) (some (zwI (zcnt (zlyc I_ p_ 1) (List.range M_) 0))) (some (zwI (zcnt (zlyc I_ p_ 0) (List.range M_) 0))) (some (zwI (Int32.ofNat M_))) x24 x25 x26) [zwI ow] I_ L_ a_ Q_ := by
  have e_ : zsus I_ L_ p_ = (decide (3 ≤ zcnt (zlyc I_ p_ 1) (List.range M_) 0) && decide (zcnt (zlyc I_ p_ 0) (List.range M_) 0 ≤ 5 * zcnt (zlyc I_ p_ 1) (List.range M_) 0)) := by
    unfold zsus; rw [e22_]
  have no_ : (zsus I_ L_ p_) = false → zY (some (T, xs)) 20 210 686 (zlLw (some (zwI 1)) (some (zwI (Int32.ofNat bus))) (some (zwI (Int32.ofNat M_))) (some (zwI (Int32.ofNat y_))) (some (zwI (Int32.ofNat turn_))) (some (zwI z14_)) (some (zwI z15)) (some (zwI (Int32.ofNat t_))) (some (zwI (Int32.ofNat p_))) (some (zwI (Int32.ofNat f_))) (some (zwI (Int32.ofNat b_))) (some (zwI (Int32.ofNat m_))) (some (zwI (zcnt (zlyc I_ p_ 1) (List.range M_) 0))) (some (zwI (zcnt (zlyc I_ p_ 0) (List.range M_) 0))) (some (zwI ow)) x24 x25 x26) [] I_ L_ a_ Q_ := fun e_ => by
    rw [e_] at hX
    refine zY.go 1 rfl ?_
    exact hX
  refine zY.go 3 rfl ?_
  refine zY.bc rfl (fun hq => ?_) (fun hq => ?_)
  · exact no_ (by rw [e_, decide_eq_false (Int32.not_le.mpr hq), Bool.false_and])
  · rw [decide_eq_true (Int32.not_lt.mp hq), Bool.true_and] at e_
    refine zY.go 4 rfl ?_
    refine zY.bc rfl (fun hq2 => ?_) (fun hq2 => ?_)
    · exact no_ (by rw [e_]; exact decide_eq_false (Int32.not_le.mpr hq2))
    · rw [e_, decide_eq_true (Int32.not_lt.mp hq2)] at hX
      refine zY.go 2 rfl ?_
      exact hX
set_option maxRecDepth 100000 in
theorem zob3 (h_ : zLw I_ L_ M_ t_ y_ bus j_) (hM_ : M_ < 60) (hp : p_ < 6) (hf : f_ < 36) (hb_ : b_ < 36) (hfb : ¬ f_ = b_) (hm_ : m_ ≤ 600) (ha_ : 200 ≤ a_) (hX : ∀ I1 L1, zJ I1 L1 (M_ + 1) t_ → zFx I_ I1 M_ → I1 6 0 7 = Int32.ofNat y_ → I1 1 M_ 0 = Int32.ofNat p_ ∧ I1 1 M_ 1 = Int32.ofNat f_ ∧ I1 1 M_ 2 = Int32.ofNat b_ → zakO I_ L_ M_ t_ p_ f_ b_ m_ I1 → zY (some (T, xs)) 20 210 771 (zlLw (some (zwI 1)) (some (zwI (Int32.ofNat bus))) (some (zwI (Int32.ofNat M_))) (some (zwI (Int32.ofNat y_))) (some (zwI (Int32.ofNat turn_))) (some (zwI z14_)) (some (zwI z15)) (some (zwI (Int32.ofNat t_))) (some (zwI (Int32.ofNat p_))) (some (zwI (Int32.ofNat f_))) (some (zwI (Int32.ofNat b_))) (some (zwI (Int32.ofNat m_))) (some (zwI (zcnt (zlyc I_ p_ 1) (List.range M_) 0))) (some (zwI (zcnt (zlyc I_ p_ 0) (List.range M_) 0))) (some (zwI (if (zowd I_ p_ (Int32.ofNat f_) (Int32.ofNat b_)) = true then 1 else 0))) (some (zwI (if (zsus I_ L_ p_) = true then 1 else 0))) x25 x26) [zwI 1] I1 L1 (a_ - 200) Q_) : zY (some (T, xs)) 20 210 687 (zlLw (some (zwI 1)) (some (zwI (Int32.ofNat bus))) (some (zwI (Int32.ofNat M_))) (some (zwI (Int32.ofNat y_))) (some (zwI (Int32.ofNat turn_))) (some (zwI z14_)) (some (zwI z15)) (some (zwI (Int32.ofNat t_))) (some (zwI (Int32.ofNat p_))) (some (zwI (Int32.ofNat f_))) (some (zwI (Int32.ofNat b_))) (some (zwI (Int32.ofNat m_))) (some (zwI (zcnt (zlyc I_ p_ 1) (List.range M_) 0))) (some (zwI (zcnt (zlyc I_ p_ 0) (List.range M_) 0))) (some (zwI (if (zowd I_ p_ (Int32.ofNat f_) (Int32.ofNat b_)) = true then 1 else 0))) x24 x25 x26) [zwI (if (zsus I_ L_ p_) = true then 1 else 0)] I_ L_ a_ Q_ := by
  obtain ⟨⟨⟨D_, hR, et⟩, _⟩, _⟩ := id h_
  have e22_ : L_ 22 0 = List.range M_ := hR.1.2.2.2.2.2.2.1
  have hs : (L_ 20 0)[p_]? = some p_ := by rw [hR.1.1]; exact List.getElem?_range hp
  have hpl : ∀ k_, k_ < 36 → (0 : Int32) ≤ Int32.ofNat k_ ∧ Int32.ofNat k_ ≤ 35 := fun k_ hk => ⟨zige (by omega), (zile (b := 35) (by omega) (by omega)).mpr (by omega)⟩
  have fin_ : zY (some (T, xs)) 20 210 748 (zlLw (some (zwI 1)) (some (zwI (Int32.ofNat bus))) (some (zwI (Int32.ofNat M_))) (some (zwI (Int32.ofNat y_))) (some (zwI (Int32.ofNat turn_))) (some (zwI z14_)) (some (zwI z15)) (some (zwI (Int32.ofNat t_))) (some (zwI (Int32.ofNat p_))) (some (zwI (Int32.ofNat f_))) (some (zwI (Int32.ofNat b_))) (some (zwI (Int32.ofNat m_))) (some (zwI (zcnt (zlyc I_ p_ 1) (List.range M_) 0))) (some (zwI (zcnt (zlyc I_ p_ 0) (List.range M_) 0))) (some (zwI (if (zowd I_ p_ (Int32.ofNat f_) (Int32.ofNat b_)) = true then 1 else 0))) (some (zwI (if (zsus I_ L_ p_) = true then 1 else 0))) x25 x26) [] I_ L_ a_ Q_ := by
    refine zY.go 6 rfl ?_
    refine zY.c (zc42 h_ hM_ hp hf hb_ hfb hm_) rfl rfl rfl rfl (Nat.le_of_ble_eq_true rfl) rfl (by decide) rfl (by decide) ha_ (fun q_ I1 L1 hq => ?_)
    obtain ⟨x_, rfl, rfl, h1, h2, h3, h4, h5⟩ := hq
    refine ⟨_, rfl, ?_⟩
    refine zY.go 1 rfl ?_
    refine zY.bc rfl (fun hp => absurd rfl hp) (fun _ => ?_)
    refine zY.go 2 rfl ?_
    exact hX I1 L1 h1 h2 h3 ⟨h4.1, h4.2.1, h4.2.2.1⟩ h5
  refine zY.go 5 rfl ?_
  refine zY.cr (zm60t hs (hpl f_ hf) (hpl b_ hb_)) rfl rfl rfl rfl (Nat.le_of_ble_eq_true rfl) rfl (by decide) rfl (by decide) (Nat.zero_le _) ?_
  refine zY.go 1 rfl ?_
  refine zY.bc rfl (fun hp => absurd rfl hp) (fun _ => ?_)
  refine zY.go 3 rfl ?_
  refine zY.cr (zm61t (k_ := 0) hs (by decide)) rfl rfl rfl rfl (Nat.le_of_ble_eq_true rfl) rfl (by decide) rfl (by decide) (Nat.zero_le _) ?_
  refine zY.go 1 rfl ?_
  refine zY.bc rfl (fun hp => absurd (show zcnt (zlyc I_ p_ 0) (L_ 22 0) 0 = zcnt (zlyc I_ p_ 0) (List.range M_) 0 by rw [e22_]) hp) (fun _ => ?_)
  refine zY.go 3 rfl ?_
  refine zY.cr (zm61t (k_ := 1) hs (by decide)) rfl rfl rfl rfl (Nat.le_of_ble_eq_true rfl) rfl (by decide) rfl (by decide) (Nat.zero_le _) ?_
  refine zY.go 1 rfl ?_
  refine zY.bc rfl (fun hp => absurd (show zcnt (zlyc I_ p_ 1) (L_ 22 0) 0 = zcnt (zlyc I_ p_ 1) (List.range M_) 0 by rw [e22_]) hp) (fun _ => ?_)
  refine zY.go 3 rfl ?_
  refine zY.cr (zm61t (k_ := 2) hs (by decide)) rfl rfl rfl rfl (Nat.le_of_ble_eq_true rfl) rfl (by decide) rfl (by decide) (Nat.zero_le _) ?_
  refine zY.go 1 rfl ?_
  refine zY.we rfl (fun hz => ?_) (fun hz => ?_)
  · refine zY.go 1 rfl ?_
    refine zY.bc rfl (fun hp => absurd (show (if zsus I_ L_ p_ = true then (1 : Int32) else 0) = 0 by rw [hz]; rfl) hp) (fun _ => ?_)
    exact fin_
  · refine zY.go 2 rfl ?_
    refine zY.bc rfl (fun hp => absurd (show (if zsus I_ L_ p_ = true then (1 : Int32) else 0) = 1 by rw [hz]; rfl) hp) (fun _ => ?_)
    exact fin_
end
