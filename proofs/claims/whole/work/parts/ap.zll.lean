/-! THE LAW: its loop -/
theorem zlwc {n_ T : Nat} (hn : n_ ≤ 200000) (hT_ : T ≤ 100000) : Int32.ofNat T - 5 < Int32.ofNat n_ ↔ T < n_ + 5 := by
  have e1_ : (Int32.ofNat n_).toInt = n_ := Int32.toInt_ofNat_of_lt (by omega)
  have e2_ : (Int32.ofNat T).toInt = T := Int32.toInt_ofNat_of_lt (by omega)
  have e5_ : (5 : Int32).toInt = 5 := by decide
  have e3_ : (Int32.ofNat T - 5).toInt = (T : Int) - 5 := by
    rw [Int32.toInt_sub, e2_, e5_]
    exact Int.bmod_eq_of_le (by omega) (by omega)
  rw [Int32.lt_iff_toInt_lt, e1_, e3_]
  omega
set_option maxRecDepth 20000 in
theorem zlw_loop {T : Nat} {xs : Nat → Int32} (hT_ : T ≤ 100000) : ∀ (m_ n_ : Nat) (I_ : zIn) (L_ : zLi) (k5_ k6_ : Option zW), T ≤ n_ + 5 * m_ + 4 → n_ ≤ T + 5 → zzRR0 I_ L_ → zY (some (T, xs)) 20 210 23 [some (zwK 1), some (zwR 6 0), some (zwR 7 0), some (zwR 32 0), some (zwI (Int32.ofNat n_)), k5_, k6_] [] I_ L_ (200 * m_) (fun r_ _ _ => r_ = .inl (some (zwI 1)))
  | 0, n_, I_, L_, k5_, k6_, hm_, hn, h_ => by
    refine zY.go 2 rfl ?_
    refine zY.ln rfl ?_
    refine zY.go 2 rfl ?_
    refine zY.bc rfl (fun _ => ?_) (fun hp => absurd ((zlwc (by omega) hT_).mpr (by omega)) hp)
    refine zY.go 1 rfl ?_
    exact zY.rb rfl rfl (Or.inr rfl) rfl
  | m_ + 1, n_, I_, L_, k5_, k6_, hm_, hn, h_ => by
    refine zY.go 2 rfl ?_
    refine zY.ln rfl ?_
    refine zY.go 2 rfl ?_
    refine zY.bc rfl (fun _ => ?_) (fun hp => ?_)
    · refine zY.go 1 rfl ?_
      exact zY.rb rfl rfl (Or.inr rfl) rfl
    · have hnT : n_ + 4 < T := by
        have h2 : ¬ (T < n_ + 5) := fun e_ => hp ((zlwc (n_ := n_) (T := T) (by omega) hT_).mpr e_)
        omega
      have K_ : ∀ I1 L1 k5_ k6_, zzRR0 I1 L1 → zY (some (T, xs)) 20 210 1631 [some (zwK 1), some (zwR 6 0), some (zwR 7 0), some (zwR 32 0), some (zwI (Int32.ofNat n_)), k5_, k6_] [] I1 L1 (200 * m_) (fun r_ _ _ => r_ = .inl (some (zwI 1))) := fun I1 L1 k5_ k6_ hR => by
        have e_ : Int32.ofNat n_ + 5 = Int32.ofNat (n_ + 5) := (Int32.ofNat_add n_ 5).symm
        refine zY.go 2 rfl ?_
        rw [e_]
        exact zlw_loop hT_ m_ (n_ + 5) I1 L1 k5_ k6_ (by omega) (by omega) hR
      refine zY.go 2 rfl ?_
      refine zY.li rfl rfl (by omega) hT_ ?_
      refine zY.go 2 rfl ?_
      generalize hx : xs n_ &&& 31 = x_
      by_cases hd_ : x_.toInt < 0 ∨ 24 < x_.toInt
      · refine zY.sw rfl rfl (t_ := 1631) (show (if x_.toInt < 0 ∨ 24 < x_.toInt then _ else _) = _ by rw [if_pos hd_]; rfl) ?_
        exact (K_ I_ L_ k5_ k6_ h_).mono (Nat.le_add_right _ _) (fun _ _ _ hq => hq)
      · have hk : x_.toInt = 0 ∨ x_.toInt = 1 ∨ x_.toInt = 2 ∨ x_.toInt = 3 ∨ x_.toInt = 4 ∨ x_.toInt = 5 ∨ x_.toInt = 6 ∨ x_.toInt = 7 ∨ x_.toInt = 8 ∨ x_.toInt = 9 ∨ x_.toInt = 10 ∨ x_.toInt = 11 ∨ x_.toInt = 12 ∨ x_.toInt = 13 ∨ x_.toInt = 14 ∨ x_.toInt = 15 ∨ x_.toInt = 16 ∨ x_.toInt = 17 ∨ x_.toInt = 18 ∨ x_.toInt = 19 ∨ x_.toInt = 20 ∨ x_.toInt = 21 ∨ x_.toInt = 22 ∨ x_.toInt = 23 ∨ x_.toInt = 24 := by omega
        rcases hk with hk | hk | hk | hk | hk | hk | hk | hk | hk | hk | hk | hk | hk | hk | hk | hk | hk | hk | hk | hk | hk | hk | hk | hk | hk
        · refine zY.sw rfl rfl (t_ := 152) (show (if x_.toInt < 0 ∨ 24 < x_.toInt then _ else _) = _ by rw [if_neg hd_]; simp only [hk]; rfl) ?_
          exact zlw0 hnT hT_ h_ K_
        · refine zY.sw rfl rfl (t_ := 260) (show (if x_.toInt < 0 ∨ 24 < x_.toInt then _ else _) = _ by rw [if_neg hd_]; simp only [hk]; rfl) ?_
          exact zlw1 hnT hT_ h_ K_
        · refine zY.sw rfl rfl (t_ := 301) (show (if x_.toInt < 0 ∨ 24 < x_.toInt then _ else _) = _ by rw [if_neg hd_]; simp only [hk]; rfl) ?_
          exact zlw2 hnT hT_ h_ K_
        · refine zY.sw rfl rfl (t_ := 385) (show (if x_.toInt < 0 ∨ 24 < x_.toInt then _ else _) = _ by rw [if_neg hd_]; simp only [hk]; rfl) ?_
          exact zlw3 hnT hT_ h_ K_
        · refine zY.sw rfl rfl (t_ := 477) (show (if x_.toInt < 0 ∨ 24 < x_.toInt then _ else _) = _ by rw [if_neg hd_]; simp only [hk]; rfl) ?_
          exact zlw4 hnT hT_ h_ K_
        · refine zY.sw rfl rfl (t_ := 568) (show (if x_.toInt < 0 ∨ 24 < x_.toInt then _ else _) = _ by rw [if_neg hd_]; simp only [hk]; rfl) ?_
          exact zlw5 hnT hT_ h_ K_
        · refine zY.sw rfl rfl (t_ := 660) (show (if x_.toInt < 0 ∨ 24 < x_.toInt then _ else _) = _ by rw [if_neg hd_]; simp only [hk]; rfl) ?_
          exact zlw6 hnT hT_ h_ K_
        · refine zY.sw rfl rfl (t_ := 723) (show (if x_.toInt < 0 ∨ 24 < x_.toInt then _ else _) = _ by rw [if_neg hd_]; simp only [hk]; rfl) ?_
          exact zlw7 hnT hT_ h_ K_
        · refine zY.sw rfl rfl (t_ := 759) (show (if x_.toInt < 0 ∨ 24 < x_.toInt then _ else _) = _ by rw [if_neg hd_]; simp only [hk]; rfl) ?_
          exact zlw8 hnT hT_ h_ K_
        · refine zY.sw rfl rfl (t_ := 815) (show (if x_.toInt < 0 ∨ 24 < x_.toInt then _ else _) = _ by rw [if_neg hd_]; simp only [hk]; rfl) ?_
          exact zlw9 hnT hT_ h_ K_
        · refine zY.sw rfl rfl (t_ := 859) (show (if x_.toInt < 0 ∨ 24 < x_.toInt then _ else _) = _ by rw [if_neg hd_]; simp only [hk]; rfl) ?_
          exact zlw10 hnT hT_ h_ K_
        · refine zY.sw rfl rfl (t_ := 927) (show (if x_.toInt < 0 ∨ 24 < x_.toInt then _ else _) = _ by rw [if_neg hd_]; simp only [hk]; rfl) ?_
          exact zlw11 hnT hT_ h_ K_
        · refine zY.sw rfl rfl (t_ := 983) (show (if x_.toInt < 0 ∨ 24 < x_.toInt then _ else _) = _ by rw [if_neg hd_]; simp only [hk]; rfl) ?_
          exact zlw12 hnT hT_ h_ K_
        · refine zY.sw rfl rfl (t_ := 996) (show (if x_.toInt < 0 ∨ 24 < x_.toInt then _ else _) = _ by rw [if_neg hd_]; simp only [hk]; rfl) ?_
          exact zlw13 hnT hT_ h_ K_
        · refine zY.sw rfl rfl (t_ := 1009) (show (if x_.toInt < 0 ∨ 24 < x_.toInt then _ else _) = _ by rw [if_neg hd_]; simp only [hk]; rfl) ?_
          exact zlw14 hnT hT_ h_ K_
        · refine zY.sw rfl rfl (t_ := 1096) (show (if x_.toInt < 0 ∨ 24 < x_.toInt then _ else _) = _ by rw [if_neg hd_]; simp only [hk]; rfl) ?_
          exact zlw15 hnT hT_ h_ K_
        · refine zY.sw rfl rfl (t_ := 1164) (show (if x_.toInt < 0 ∨ 24 < x_.toInt then _ else _) = _ by rw [if_neg hd_]; simp only [hk]; rfl) ?_
          exact zlw16 hnT hT_ h_ K_
        · refine zY.sw rfl rfl (t_ := 1232) (show (if x_.toInt < 0 ∨ 24 < x_.toInt then _ else _) = _ by rw [if_neg hd_]; simp only [hk]; rfl) ?_
          exact zlw17 hnT hT_ h_ K_
        · refine zY.sw rfl rfl (t_ := 1300) (show (if x_.toInt < 0 ∨ 24 < x_.toInt then _ else _) = _ by rw [if_neg hd_]; simp only [hk]; rfl) ?_
          exact zlw18 hnT hT_ h_ K_
        · refine zY.sw rfl rfl (t_ := 1380) (show (if x_.toInt < 0 ∨ 24 < x_.toInt then _ else _) = _ by rw [if_neg hd_]; simp only [hk]; rfl) ?_
          exact zlw19 hnT hT_ h_ K_
        · refine zY.sw rfl rfl (t_ := 1436) (show (if x_.toInt < 0 ∨ 24 < x_.toInt then _ else _) = _ by rw [if_neg hd_]; simp only [hk]; rfl) ?_
          exact zlw20 hnT hT_ h_ K_
        · refine zY.sw rfl rfl (t_ := 1492) (show (if x_.toInt < 0 ∨ 24 < x_.toInt then _ else _) = _ by rw [if_neg hd_]; simp only [hk]; rfl) ?_
          exact zlw21 hnT hT_ h_ K_
        · refine zY.sw rfl rfl (t_ := 1548) (show (if x_.toInt < 0 ∨ 24 < x_.toInt then _ else _) = _ by rw [if_neg hd_]; simp only [hk]; rfl) ?_
          exact zlw22 hnT hT_ h_ K_
        · refine zY.sw rfl rfl (t_ := 1561) (show (if x_.toInt < 0 ∨ 24 < x_.toInt then _ else _) = _ by rw [if_neg hd_]; simp only [hk]; rfl) ?_
          exact zlw23 hnT hT_ h_ K_
        · refine zY.sw rfl rfl (t_ := 1617) (show (if x_.toInt < 0 ∨ 24 < x_.toInt then _ else _) = _ by rw [if_neg hd_]; simp only [hk]; rfl) ?_
          exact zlw24 hnT hT_ h_ K_
