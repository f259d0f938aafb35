/-! THE LAW: its cases -/
theorem zzb01_01 (x_ : Int32) : zzb01 x_ = 0 ∨ zzb01 x_ = 1 := by
  unfold zzb01
  split
  · exact Or.inl rfl
  · exact Or.inr rfl
theorem zzval_no {v_ : Option zW} (h_ : zzVal 52 v_) : v_ = none := by
  rcases h_ with h_ | h_ | h_
  · exact h_.2
  · exact absurd rfl h_.1.1
  · exact absurd h_.1 (by decide)
theorem zzval_is {mc_ : Nat} {v_ : Option zW} (h_ : zzVal mc_ v_) (hm_ : ¬ mc_ = 52 ∧ ¬ mc_ = 30) : ∃ u_, v_ = some (zwI u_) := by
  rcases h_ with h_ | h_ | h_
  · exact absurd h_.1 hm_.1
  · exact h_.2
  · exact absurd h_.1 hm_.2
theorem zzval_lg {v_ : Option zW} (h_ : zzVal 30 v_) : ∃ u_, v_ = some (zwL u_) := by
  rcases h_ with h_ | h_ | h_
  · exact absurd h_.1 (by decide)
  · exact absurd rfl h_.1.2
  · exact h_.2
theorem zzdir {mc_ dm mm : Nat} {am : List zW} {cd : Nat → Int32} {r_ : zQr} {I1 : zIn} {L1 : zLi} (h_ : zzKd mc_ r_ ∧ ∀ y_, zYm dm mm am (zset I1 32 0 0 y_) L1 0 (fun r2 I2_ L2_ => zzRR0 I2_ L2_ ∧ zzAns mc_ cd r_ r2 (I2_ 7 0 0) ∧ I2_ 32 0 0 = y_)) (hE : ∀ E_, zzEs mc_ E_ = false) : ∃ v_, r_ = .inl v_ ∧ zzVal mc_ v_ ∧ zYm dm mm am I1 L1 0 (fun r2 I2_ L2_ => zzRR0 I2_ L2_ ∧ r2 = .inl v_) := by
  obtain ⟨hk, hm_⟩ := h_
  have h0 := hm_ (I1 32 0 0)
  rw [zzset_id] at h0
  cases r_ with
  | inl v_ =>
    refine ⟨v_, rfl, hk, h0.mono (Nat.le_refl _) (Nat.le_refl _) (fun r2 I2_ L2_ hq => ?_)⟩
    exact ⟨hq.1, hq.2.1.2⟩
  | inr E_ =>
    have : zzEs mc_ E_ = true := hk
    rw [hE E_] at this
    exact absurd this (by decide)
theorem zzlc (x_ : Int64) : zcp .eq (lg_cmp x_ x_) 0 := by
  show lg_cmp x_ x_ = 0
  unfold lg_cmp
  rw [if_neg Int64.lt_irrefl, if_pos rfl]
theorem zzlc0 : zcp .eq (lg_cmp (Int32.toInt64 0) (Int64.ofNat (0 : Nat))) 0 := by
  show lg_cmp (Int32.toInt64 0) (Int64.ofNat (0 : Nat)) = 0
  decide
theorem zzlc1 : zcp .eq (lg_cmp (Int32.toInt64 1) (Int64.ofNat (1 : Nat))) 0 := by
  show lg_cmp (Int32.toInt64 1) (Int64.ofNat (1 : Nat)) = 0
  decide
set_option maxRecDepth 20000 in
theorem zlw0 {T n_ a_ : Nat} {xs : Nat → Int32} {I_ : zIn} {L_ : zLi} {k5_ k6_ : Option zW} {Q_ : zPost} (hn : n_ + 4 < T) (hT_ : T ≤ 100000) (h_ : zzRR0 I_ L_) (K_ : ∀ I1 L1 k5_ k6_, zzRR0 I1 L1 → zY (some (T, xs)) 20 210 1631 [some (zwK 1), some (zwR 6 0), some (zwR 7 0), some (zwR 32 0), some (zwI (Int32.ofNat n_)), k5_, k6_] [] I1 L1 a_ Q_) : zY (some (T, xs)) 20 210 152 [some (zwK 1), some (zwR 6 0), some (zwR 7 0), some (zwR 32 0), some (zwI (Int32.ofNat n_)), k5_, k6_] [] I_ L_ (a_ + 200) Q_ := by
  have e1_ : Int32.ofNat n_ + 1 = Int32.ofNat (n_ + 1) := (Int32.ofNat_add n_ 1).symm
  have e2_ : Int32.ofNat n_ + 2 = Int32.ofNat (n_ + 2) := (Int32.ofNat_add n_ 2).symm
  have e3_ : Int32.ofNat n_ + 3 = Int32.ofNat (n_ + 3) := (Int32.ofNat_add n_ 3).symm
  have e4_ : Int32.ofNat n_ + 4 = Int32.ofNat (n_ + 4) := (Int32.ofNat_add n_ 4).symm
  refine zY.go 5 rfl ?_
  refine zY.li rfl e1_ (by omega) hT_ ?_
  refine zY.go 4 rfl ?_
  refine zY.li rfl e2_ (by omega) hT_ ?_
  refine zY.go 4 rfl ?_
  refine zY.li rfl e3_ (by omega) hT_ ?_
  refine zY.go 4 rfl ?_
  refine zY.li rfl e4_ (by omega) hT_ ?_
  refine zY.bi rfl (fun hp => ?_) (fun hp => ?_)
  · have eb : zzb01 (xs (n_ + 4)) = 0 := if_pos hp
    refine zY.go 1 rfl ?_
    rw [← eb]
    refine zY.go 1 rfl ?_
    refine zY.c (zzh190 (zzO_rider h_ (zzb01_01 _))) rfl rfl rfl rfl (Nat.le_of_ble_eq_true rfl) rfl (by decide) rfl (by decide) (Nat.le_add_left 200 a_) (fun r_ I1 L1 hq => ?_)
    obtain ⟨t_, rfl, hm_⟩ := hq
    refine ⟨_, rfl, ?_⟩
    rw [Nat.add_sub_cancel]
    refine zY.go 6 rfl ?_
    refine zY.li rfl e1_ (by omega) hT_ ?_
    refine zY.go 4 rfl ?_
    refine zY.li rfl e2_ (by omega) hT_ ?_
    refine zY.go 4 rfl ?_
    refine zY.li rfl e3_ (by omega) hT_ ?_
    refine zY.go 4 rfl ?_
    refine zY.li rfl e4_ (by omega) hT_ ?_
    refine zY.bi rfl (fun hp => ?_) (fun hp => ?_)
    · have eb : zzb01 (xs (n_ + 4)) = 0 := if_pos hp
      refine zY.go 1 rfl ?_
      rw [← eb]
      refine zY.c hm_ rfl rfl rfl rfl (Nat.le_of_ble_eq_true rfl) rfl (by decide) rfl (by decide) (Nat.zero_le _) (fun r2 I2_ L2_ hq2 => ?_)
      obtain ⟨hR, h0, v_, rfl, hv, hg⟩ := hq2
      refine ⟨_, rfl, ?_⟩
      obtain ⟨u_, rfl⟩ := zzval_is hv (by decide)
      refine zY.go 2 rfl ?_
      refine zY.cr zm121 rfl rfl rfl rfl (Nat.le_of_ble_eq_true rfl) rfl (by decide) rfl (by decide) (Nat.zero_le _) ?_
      rw [h0]
      refine zY.go 1 rfl ?_
      refine zY.bc rfl (fun _ => ?_) (fun hp => absurd (show t_ = t_ from rfl) hp)
      refine zY.go 1 rfl ?_
      refine zY.bi rfl (fun hp => ?_) (fun hp => ?_)
      · refine zY.go 1 rfl ?_
        exact K_ _ _ _ _ hR
      · have ht : t_ = 0 := Classical.byContradiction (fun e_ => hp e_)
        have hu : I2_ 32 0 0 = u_ := hg ht u_ rfl
        refine zY.go 2 rfl ?_
        refine zY.al rfl ?_
        rw [hu]
        refine zY.go 3 rfl ?_
        refine zY.bi rfl (fun _ => ?_) (fun hp => absurd (zzlc _) hp)
        refine zY.go 1 rfl ?_
        exact K_ _ _ _ _ hR
    · have eb : zzb01 (xs (n_ + 4)) = 1 := if_neg hp
      refine zY.go 2 rfl ?_
      rw [← eb]
      refine zY.c hm_ rfl rfl rfl rfl (Nat.le_of_ble_eq_true rfl) rfl (by decide) rfl (by decide) (Nat.zero_le _) (fun r2 I2_ L2_ hq2 => ?_)
      obtain ⟨hR, h0, v_, rfl, hv, hg⟩ := hq2
      refine ⟨_, rfl, ?_⟩
      obtain ⟨u_, rfl⟩ := zzval_is hv (by decide)
      refine zY.go 2 rfl ?_
      refine zY.cr zm121 rfl rfl rfl rfl (Nat.le_of_ble_eq_true rfl) rfl (by decide) rfl (by decide) (Nat.zero_le _) ?_
      rw [h0]
      refine zY.go 1 rfl ?_
      refine zY.bc rfl (fun _ => ?_) (fun hp => absurd (show t_ = t_ from rfl) hp)
      refine zY.go 1 rfl ?_
      refine zY.bi rfl (fun hp => ?_) (fun hp => ?_)
      · refine zY.go 1 rfl ?_
        exact K_ _ _ _ _ hR
      · have ht : t_ = 0 := Classical.byContradiction (fun e_ => hp e_)
        have hu : I2_ 32 0 0 = u_ := hg ht u_ rfl
        refine zY.go 2 rfl ?_
        refine zY.al rfl ?_
        rw [hu]
        refine zY.go 3 rfl ?_
        refine zY.bi rfl (fun _ => ?_) (fun hp => absurd (zzlc _) hp)
        refine zY.go 1 rfl ?_
        exact K_ _ _ _ _ hR
  · have eb : zzb01 (xs (n_ + 4)) = 1 := if_neg hp
    refine zY.go 2 rfl ?_
    rw [← eb]
    refine zY.go 1 rfl ?_
    refine zY.c (zzh190 (zzO_rider h_ (zzb01_01 _))) rfl rfl rfl rfl (Nat.le_of_ble_eq_true rfl) rfl (by decide) rfl (by decide) (Nat.le_add_left 200 a_) (fun r_ I1 L1 hq => ?_)
    obtain ⟨t_, rfl, hm_⟩ := hq
    refine ⟨_, rfl, ?_⟩
    rw [Nat.add_sub_cancel]
    refine zY.go 6 rfl ?_
    refine zY.li rfl e1_ (by omega) hT_ ?_
    refine zY.go 4 rfl ?_
    refine zY.li rfl e2_ (by omega) hT_ ?_
    refine zY.go 4 rfl ?_
    refine zY.li rfl e3_ (by omega) hT_ ?_
    refine zY.go 4 rfl ?_
    refine zY.li rfl e4_ (by omega) hT_ ?_
    refine zY.bi rfl (fun hp => ?_) (fun hp => ?_)
    · have eb : zzb01 (xs (n_ + 4)) = 0 := if_pos hp
      refine zY.go 1 rfl ?_
      rw [← eb]
      refine zY.c hm_ rfl rfl rfl rfl (Nat.le_of_ble_eq_true rfl) rfl (by decide) rfl (by decide) (Nat.zero_le _) (fun r2 I2_ L2_ hq2 => ?_)
      obtain ⟨hR, h0, v_, rfl, hv, hg⟩ := hq2
      refine ⟨_, rfl, ?_⟩
      obtain ⟨u_, rfl⟩ := zzval_is hv (by decide)
      refine zY.go 2 rfl ?_
      refine zY.cr zm121 rfl rfl rfl rfl (Nat.le_of_ble_eq_true rfl) rfl (by decide) rfl (by decide) (Nat.zero_le _) ?_
      rw [h0]
      refine zY.go 1 rfl ?_
      refine zY.bc rfl (fun _ => ?_) (fun hp => absurd (show t_ = t_ from rfl) hp)
      refine zY.go 1 rfl ?_
      refine zY.bi rfl (fun hp => ?_) (fun hp => ?_)
      · refine zY.go 1 rfl ?_
        exact K_ _ _ _ _ hR
      · have ht : t_ = 0 := Classical.byContradiction (fun e_ => hp e_)
        have hu : I2_ 32 0 0 = u_ := hg ht u_ rfl
        refine zY.go 2 rfl ?_
        refine zY.al rfl ?_
        rw [hu]
        refine zY.go 3 rfl ?_
        refine zY.bi rfl (fun _ => ?_) (fun hp => absurd (zzlc _) hp)
        refine zY.go 1 rfl ?_
        exact K_ _ _ _ _ hR
    · have eb : zzb01 (xs (n_ + 4)) = 1 := if_neg hp
      refine zY.go 2 rfl ?_
      rw [← eb]
      refine zY.c hm_ rfl rfl rfl rfl (Nat.le_of_ble_eq_true rfl) rfl (by decide) rfl (by decide) (Nat.zero_le _) (fun r2 I2_ L2_ hq2 => ?_)
      obtain ⟨hR, h0, v_, rfl, hv, hg⟩ := hq2
      refine ⟨_, rfl, ?_⟩
      obtain ⟨u_, rfl⟩ := zzval_is hv (by decide)
      refine zY.go 2 rfl ?_
      refine zY.cr zm121 rfl rfl rfl rfl (Nat.le_of_ble_eq_true rfl) rfl (by decide) rfl (by decide) (Nat.zero_le _) ?_
      rw [h0]
      refine zY.go 1 rfl ?_
      refine zY.bc rfl (fun _ => ?_) (fun hp => absurd (show t_ = t_ from rfl) hp)
      refine zY.go 1 rfl ?_
      refine zY.bi rfl (fun hp => ?_) (fun hp => ?_)
      · refine zY.go 1 rfl ?_
        exact K_ _ _ _ _ hR
      · have ht : t_ = 0 := Classical.byContradiction (fun e_ => hp e_)
        have hu : I2_ 32 0 0 = u_ := hg ht u_ rfl
        refine zY.go 2 rfl ?_
        refine zY.al rfl ?_
        rw [hu]
        refine zY.go 3 rfl ?_
        refine zY.bi rfl (fun _ => ?_) (fun hp => absurd (zzlc _) hp)
        refine zY.go 1 rfl ?_
        exact K_ _ _ _ _ hR
set_option maxRecDepth 20000 in
theorem zlw1 {T n_ a_ : Nat} {xs : Nat → Int32} {I_ : zIn} {L_ : zLi} {k5_ k6_ : Option zW} {Q_ : zPost} (hn : n_ + 4 < T) (hT_ : T ≤ 100000) (h_ : zzRR0 I_ L_) (K_ : ∀ I1 L1 k5_ k6_, zzRR0 I1 L1 → zY (some (T, xs)) 20 210 1631 [some (zwK 1), some (zwR 6 0), some (zwR 7 0), some (zwR 32 0), some (zwI (Int32.ofNat n_)), k5_, k6_] [] I1 L1 a_ Q_) : zY (some (T, xs)) 20 210 260 [some (zwK 1), some (zwR 6 0), some (zwR 7 0), some (zwR 32 0), some (zwI (Int32.ofNat n_)), k5_, k6_] [] I_ L_ (a_ + 200) Q_ := by
  have e1_ : Int32.ofNat n_ + 1 = Int32.ofNat (n_ + 1) := (Int32.ofNat_add n_ 1).symm
  refine zY.go 5 rfl ?_
  refine zY.li rfl e1_ (by omega) hT_ ?_
  refine zY.bi rfl (fun hp => ?_) (fun hp => ?_)
  · have eb : zzb01 (xs (n_ + 1)) = 0 := if_pos hp
    refine zY.go 1 rfl ?_
    rw [← eb]
    refine zY.c (zzO_winter (cd := zcdD) h_ (zzb01_01 _)) rfl rfl rfl rfl (Nat.le_of_ble_eq_true rfl) rfl (by decide) rfl (by decide) (Nat.le_add_left 200 a_) (fun r_ I1 L1 hq => ?_)
    obtain ⟨v_, rfl, hv, hm_⟩ := zzdir hq (fun _ => rfl)
    obtain ⟨u_, rfl⟩ := zzval_is hv (by decide)
    refine ⟨_, rfl, ?_⟩
    rw [Nat.add_sub_cancel]
    refine zY.go 5 rfl ?_
    refine zY.li rfl e1_ (by omega) hT_ ?_
    refine zY.bi rfl (fun hp => ?_) (fun hp => ?_)
    · have eb : zzb01 (xs (n_ + 1)) = 0 := if_pos hp
      refine zY.go 1 rfl ?_
      rw [← eb]
      refine zY.c hm_ rfl rfl rfl rfl (Nat.le_of_ble_eq_true rfl) rfl (by decide) rfl (by decide) (Nat.zero_le _) (fun r2 I2_ L2_ hq2 => ?_)
      obtain ⟨hR, rfl⟩ := hq2
      refine ⟨_, rfl, ?_⟩
      refine zY.bc rfl (fun _ => ?_) (fun hp => absurd (show u_ = u_ from rfl) hp)
      exact K_ _ _ _ _ hR
    · have eb : zzb01 (xs (n_ + 1)) = 1 := if_neg hp
      refine zY.go 2 rfl ?_
      rw [← eb]
      refine zY.c hm_ rfl rfl rfl rfl (Nat.le_of_ble_eq_true rfl) rfl (by decide) rfl (by decide) (Nat.zero_le _) (fun r2 I2_ L2_ hq2 => ?_)
      obtain ⟨hR, rfl⟩ := hq2
      refine ⟨_, rfl, ?_⟩
      refine zY.bc rfl (fun _ => ?_) (fun hp => absurd (show u_ = u_ from rfl) hp)
      exact K_ _ _ _ _ hR
  · have eb : zzb01 (xs (n_ + 1)) = 1 := if_neg hp
    refine zY.go 2 rfl ?_
    rw [← eb]
    refine zY.c (zzO_winter (cd := zcdD) h_ (zzb01_01 _)) rfl rfl rfl rfl (Nat.le_of_ble_eq_true rfl) rfl (by decide) rfl (by decide) (Nat.le_add_left 200 a_) (fun r_ I1 L1 hq => ?_)
    obtain ⟨v_, rfl, hv, hm_⟩ := zzdir hq (fun _ => rfl)
    obtain ⟨u_, rfl⟩ := zzval_is hv (by decide)
    refine ⟨_, rfl, ?_⟩
    rw [Nat.add_sub_cancel]
    refine zY.go 5 rfl ?_
    refine zY.li rfl e1_ (by omega) hT_ ?_
    refine zY.bi rfl (fun hp => ?_) (fun hp => ?_)
    · have eb : zzb01 (xs (n_ + 1)) = 0 := if_pos hp
      refine zY.go 1 rfl ?_
      rw [← eb]
      refine zY.c hm_ rfl rfl rfl rfl (Nat.le_of_ble_eq_true rfl) rfl (by decide) rfl (by decide) (Nat.zero_le _) (fun r2 I2_ L2_ hq2 => ?_)
      obtain ⟨hR, rfl⟩ := hq2
      refine ⟨_, rfl, ?_⟩
      refine zY.bc rfl (fun _ => ?_) (fun hp => absurd (show u_ = u_ from rfl) hp)
      exact K_ _ _ _ _ hR
    · have eb : zzb01 (xs (n_ + 1)) = 1 := if_neg hp
      refine zY.go 2 rfl ?_
      rw [← eb]
      refine zY.c hm_ rfl rfl rfl rfl (Nat.le_of_ble_eq_true rfl) rfl (by decide) rfl (by decide) (Nat.zero_le _) (fun r2 I2_ L2_ hq2 => ?_)
      obtain ⟨hR, rfl⟩ := hq2
      refine ⟨_, rfl, ?_⟩
      refine zY.bc rfl (fun _ => ?_) (fun hp => absurd (show u_ = u_ from rfl) hp)
      exact K_ _ _ _ _ hR
set_option maxRecDepth 20000 in
theorem zlw2 {T n_ a_ : Nat} {xs : Nat → Int32} {I_ : zIn} {L_ : zLi} {k5_ k6_ : Option zW} {Q_ : zPost} (hn : n_ + 4 < T) (hT_ : T ≤ 100000) (h_ : zzRR0 I_ L_) (K_ : ∀ I1 L1 k5_ k6_, zzRR0 I1 L1 → zY (some (T, xs)) 20 210 1631 [some (zwK 1), some (zwR 6 0), some (zwR 7 0), some (zwR 32 0), some (zwI (Int32.ofNat n_)), k5_, k6_] [] I1 L1 a_ Q_) : zY (some (T, xs)) 20 210 301 [some (zwK 1), some (zwR 6 0), some (zwR 7 0), some (zwR 32 0), some (zwI (Int32.ofNat n_)), k5_, k6_] [] I_ L_ (a_ + 200) Q_ := by
  have e1_ : Int32.ofNat n_ + 1 = Int32.ofNat (n_ + 1) := (Int32.ofNat_add n_ 1).symm
  have e2_ : Int32.ofNat n_ + 2 = Int32.ofNat (n_ + 2) := (Int32.ofNat_add n_ 2).symm
  refine zY.go 5 rfl ?_
  refine zY.li rfl e1_ (by omega) hT_ ?_
  refine zY.go 4 rfl ?_
  refine zY.li rfl e2_ (by omega) hT_ ?_
  refine zY.bi rfl (fun hp => ?_) (fun hp => ?_)
  · have eb : zzb01 (xs (n_ + 2)) = 0 := if_pos hp
    refine zY.go 1 rfl ?_
    rw [← eb]
    refine zY.go 1 rfl ?_
    refine zY.c (zzh191 (zzO_busStop h_ (zzb01_01 _))) rfl rfl rfl rfl (Nat.le_of_ble_eq_true rfl) rfl (by decide) rfl (by decide) (Nat.le_add_left 200 a_) (fun r_ I1 L1 hq => ?_)
    obtain ⟨t_, rfl, hm_⟩ := hq
    refine ⟨_, rfl, ?_⟩
    rw [Nat.add_sub_cancel]
    refine zY.go 6 rfl ?_
    refine zY.li rfl e1_ (by omega) hT_ ?_
    refine zY.go 4 rfl ?_
    refine zY.li rfl e2_ (by omega) hT_ ?_
    refine zY.bi rfl (fun hp => ?_) (fun hp => ?_)
    · have eb : zzb01 (xs (n_ + 2)) = 0 := if_pos hp
      refine zY.go 1 rfl ?_
      rw [← eb]
      refine zY.c hm_ rfl rfl rfl rfl (Nat.le_of_ble_eq_true rfl) rfl (by decide) rfl (by decide) (Nat.zero_le _) (fun r2 I2_ L2_ hq2 => ?_)
      obtain ⟨hR, h0, v_, rfl, hv, hg⟩ := hq2
      refine ⟨_, rfl, ?_⟩
      obtain ⟨u_, rfl⟩ := zzval_is hv (by decide)
      refine zY.go 2 rfl ?_
      refine zY.cr zm121 rfl rfl rfl rfl (Nat.le_of_ble_eq_true rfl) rfl (by decide) rfl (by decide) (Nat.zero_le _) ?_
      rw [h0]
      refine zY.go 1 rfl ?_
      refine zY.bc rfl (fun _ => ?_) (fun hp => absurd (show t_ = t_ from rfl) hp)
      refine zY.go 1 rfl ?_
      refine zY.bi rfl (fun hp => ?_) (fun hp => ?_)
      · refine zY.go 1 rfl ?_
        exact K_ _ _ _ _ hR
      · have ht : t_ = 0 := Classical.byContradiction (fun e_ => hp e_)
        have hu : I2_ 32 0 0 = u_ := hg ht u_ rfl
        refine zY.go 2 rfl ?_
        refine zY.al rfl ?_
        rw [hu]
        refine zY.go 3 rfl ?_
        refine zY.bi rfl (fun _ => ?_) (fun hp => absurd (zzlc _) hp)
        refine zY.go 1 rfl ?_
        exact K_ _ _ _ _ hR
    · have eb : zzb01 (xs (n_ + 2)) = 1 := if_neg hp
      refine zY.go 2 rfl ?_
      rw [← eb]
      refine zY.c hm_ rfl rfl rfl rfl (Nat.le_of_ble_eq_true rfl) rfl (by decide) rfl (by decide) (Nat.zero_le _) (fun r2 I2_ L2_ hq2 => ?_)
      obtain ⟨hR, h0, v_, rfl, hv, hg⟩ := hq2
      refine ⟨_, rfl, ?_⟩
      obtain ⟨u_, rfl⟩ := zzval_is hv (by decide)
      refine zY.go 2 rfl ?_
      refine zY.cr zm121 rfl rfl rfl rfl (Nat.le_of_ble_eq_true rfl) rfl (by decide) rfl (by decide) (Nat.zero_le _) ?_
      rw [h0]
      refine zY.go 1 rfl ?_
      refine zY.bc rfl (fun _ => ?_) (fun hp => absurd (show t_ = t_ from rfl) hp)
      refine zY.go 1 rfl ?_
      refine zY.bi rfl (fun hp => ?_) (fun hp => ?_)
      · refine zY.go 1 rfl ?_
        exact K_ _ _ _ _ hR
      · have ht : t_ = 0 := Classical.byContradiction (fun e_ => hp e_)
        have hu : I2_ 32 0 0 = u_ := hg ht u_ rfl
        refine zY.go 2 rfl ?_
        refine zY.al rfl ?_
        rw [hu]
        refine zY.go 3 rfl ?_
        refine zY.bi rfl (fun _ => ?_) (fun hp => absurd (zzlc _) hp)
        refine zY.go 1 rfl ?_
        exact K_ _ _ _ _ hR
  · have eb : zzb01 (xs (n_ + 2)) = 1 := if_neg hp
    refine zY.go 2 rfl ?_
    rw [← eb]
    refine zY.go 1 rfl ?_
    refine zY.c (zzh191 (zzO_busStop h_ (zzb01_01 _))) rfl rfl rfl rfl (Nat.le_of_ble_eq_true rfl) rfl (by decide) rfl (by decide) (Nat.le_add_left 200 a_) (fun r_ I1 L1 hq => ?_)
    obtain ⟨t_, rfl, hm_⟩ := hq
    refine ⟨_, rfl, ?_⟩
    rw [Nat.add_sub_cancel]
    refine zY.go 6 rfl ?_
    refine zY.li rfl e1_ (by omega) hT_ ?_
    refine zY.go 4 rfl ?_
    refine zY.li rfl e2_ (by omega) hT_ ?_
    refine zY.bi rfl (fun hp => ?_) (fun hp => ?_)
    · have eb : zzb01 (xs (n_ + 2)) = 0 := if_pos hp
      refine zY.go 1 rfl ?_
      rw [← eb]
      refine zY.c hm_ rfl rfl rfl rfl (Nat.le_of_ble_eq_true rfl) rfl (by decide) rfl (by decide) (Nat.zero_le _) (fun r2 I2_ L2_ hq2 => ?_)
      obtain ⟨hR, h0, v_, rfl, hv, hg⟩ := hq2
      refine ⟨_, rfl, ?_⟩
      obtain ⟨u_, rfl⟩ := zzval_is hv (by decide)
      refine zY.go 2 rfl ?_
      refine zY.cr zm121 rfl rfl rfl rfl (Nat.le_of_ble_eq_true rfl) rfl (by decide) rfl (by decide) (Nat.zero_le _) ?_
      rw [h0]
      refine zY.go 1 rfl ?_
      refine zY.bc rfl (fun _ => ?_) (fun hp => absurd (show t_ = t_ from rfl) hp)
      refine zY.go 1 rfl ?_
      refine zY.bi rfl (fun hp => ?_) (fun hp => ?_)
      · refine zY.go 1 rfl ?_
        exact K_ _ _ _ _ hR
      · have ht : t_ = 0 := Classical.byContradiction (fun e_ => hp e_)
        have hu : I2_ 32 0 0 = u_ := hg ht u_ rfl
        refine zY.go 2 rfl ?_
        refine zY.al rfl ?_
        rw [hu]
        refine zY.go 3 rfl ?_
        refine zY.bi rfl (fun _ => ?_) (fun hp => absurd (zzlc _) hp)
        refine zY.go 1 rfl ?_
        exact K_ _ _ _ _ hR
    · have eb : zzb01 (xs (n_ + 2)) = 1 := if_neg hp
      refine zY.go 2 rfl ?_
      rw [← eb]
      refine zY.c hm_ rfl rfl rfl rfl (Nat.le_of_ble_eq_true rfl) rfl (by decide) rfl (by decide) (Nat.zero_le _) (fun r2 I2_ L2_ hq2 => ?_)
      obtain ⟨hR, h0, v_, rfl, hv, hg⟩ := hq2
      refine ⟨_, rfl, ?_⟩
      obtain ⟨u_, rfl⟩ := zzval_is hv (by decide)
      refine zY.go 2 rfl ?_
      refine zY.cr zm121 rfl rfl rfl rfl (Nat.le_of_ble_eq_true rfl) rfl (by decide) rfl (by decide) (Nat.zero_le _) ?_
      rw [h0]
      refine zY.go 1 rfl ?_
      refine zY.bc rfl (fun _ => ?_) (fun hp => absurd (show t_ = t_ from rfl) hp)
      refine zY.go 1 rfl ?_
      refine zY.bi rfl (fun hp => ?_) (fun hp => ?_)
      · refine zY.go 1 rfl ?_
        exact K_ _ _ _ _ hR
      · have ht : t_ = 0 := Classical.byContradiction (fun e_ => hp e_)
        have hu : I2_ 32 0 0 = u_ := hg ht u_ rfl
        refine zY.go 2 rfl ?_
        refine zY.al rfl ?_
        rw [hu]
        refine zY.go 3 rfl ?_
        refine zY.bi rfl (fun _ => ?_) (fun hp => absurd (zzlc _) hp)
        refine zY.go 1 rfl ?_
        exact K_ _ _ _ _ hR
set_option maxRecDepth 20000 in
theorem zlw3 {T n_ a_ : Nat} {xs : Nat → Int32} {I_ : zIn} {L_ : zLi} {k5_ k6_ : Option zW} {Q_ : zPost} (hn : n_ + 4 < T) (hT_ : T ≤ 100000) (h_ : zzRR0 I_ L_) (K_ : ∀ I1 L1 k5_ k6_, zzRR0 I1 L1 → zY (some (T, xs)) 20 210 1631 [some (zwK 1), some (zwR 6 0), some (zwR 7 0), some (zwR 32 0), some (zwI (Int32.ofNat n_)), k5_, k6_] [] I1 L1 a_ Q_) : zY (some (T, xs)) 20 210 385 [some (zwK 1), some (zwR 6 0), some (zwR 7 0), some (zwR 32 0), some (zwI (Int32.ofNat n_)), k5_, k6_] [] I_ L_ (a_ + 200) Q_ := by
  have e1_ : Int32.ofNat n_ + 1 = Int32.ofNat (n_ + 1) := (Int32.ofNat_add n_ 1).symm
  have e2_ : Int32.ofNat n_ + 2 = Int32.ofNat (n_ + 2) := (Int32.ofNat_add n_ 2).symm
  have e3_ : Int32.ofNat n_ + 3 = Int32.ofNat (n_ + 3) := (Int32.ofNat_add n_ 3).symm
  have e4_ : Int32.ofNat n_ + 4 = Int32.ofNat (n_ + 4) := (Int32.ofNat_add n_ 4).symm
  refine zY.go 5 rfl ?_
  refine zY.li rfl e1_ (by omega) hT_ ?_
  refine zY.go 4 rfl ?_
  refine zY.li rfl e2_ (by omega) hT_ ?_
  refine zY.go 4 rfl ?_
  refine zY.li rfl e3_ (by omega) hT_ ?_
  refine zY.go 4 rfl ?_
  refine zY.li rfl e4_ (by omega) hT_ ?_
  refine zY.go 1 rfl ?_
  refine zY.c (zzh192 (zzO_vehicle h_)) rfl rfl rfl rfl (Nat.le_of_ble_eq_true rfl) rfl (by decide) rfl (by decide) (Nat.le_add_left 200 a_) (fun r_ I1 L1 hq => ?_)
  obtain ⟨t_, rfl, hm_⟩ := hq
  refine ⟨_, rfl, ?_⟩
  rw [Nat.add_sub_cancel]
  refine zY.go 6 rfl ?_
  refine zY.li rfl e1_ (by omega) hT_ ?_
  refine zY.go 4 rfl ?_
  refine zY.li rfl e2_ (by omega) hT_ ?_
  refine zY.go 4 rfl ?_
  refine zY.li rfl e3_ (by omega) hT_ ?_
  refine zY.go 4 rfl ?_
  refine zY.li rfl e4_ (by omega) hT_ ?_
  refine zY.c hm_ rfl rfl rfl rfl (Nat.le_of_ble_eq_true rfl) rfl (by decide) rfl (by decide) (Nat.zero_le _) (fun r2 I2_ L2_ hq2 => ?_)
  obtain ⟨hR, h0, v_, rfl, hv, hg⟩ := hq2
  refine ⟨_, rfl, ?_⟩
  obtain ⟨u_, rfl⟩ := zzval_is hv (by decide)
  refine zY.go 2 rfl ?_
  refine zY.cr zm121 rfl rfl rfl rfl (Nat.le_of_ble_eq_true rfl) rfl (by decide) rfl (by decide) (Nat.zero_le _) ?_
  rw [h0]
  refine zY.go 1 rfl ?_
  refine zY.bc rfl (fun _ => ?_) (fun hp => absurd (show t_ = t_ from rfl) hp)
  refine zY.go 1 rfl ?_
  refine zY.bi rfl (fun hp => ?_) (fun hp => ?_)
  · refine zY.go 1 rfl ?_
    exact K_ _ _ _ _ hR
  · have ht : t_ = 0 := Classical.byContradiction (fun e_ => hp e_)
    have hu : I2_ 32 0 0 = u_ := hg ht u_ rfl
    refine zY.go 2 rfl ?_
    refine zY.al rfl ?_
    rw [hu]
    refine zY.go 3 rfl ?_
    refine zY.bi rfl (fun _ => ?_) (fun hp => absurd (zzlc _) hp)
    refine zY.go 1 rfl ?_
    exact K_ _ _ _ _ hR
set_option maxRecDepth 20000 in
theorem zlw4 {T n_ a_ : Nat} {xs : Nat → Int32} {I_ : zIn} {L_ : zLi} {k5_ k6_ : Option zW} {Q_ : zPost} (hn : n_ + 4 < T) (hT_ : T ≤ 100000) (h_ : zzRR0 I_ L_) (K_ : ∀ I1 L1 k5_ k6_, zzRR0 I1 L1 → zY (some (T, xs)) 20 210 1631 [some (zwK 1), some (zwR 6 0), some (zwR 7 0), some (zwR 32 0), some (zwI (Int32.ofNat n_)), k5_, k6_] [] I1 L1 a_ Q_) : zY (some (T, xs)) 20 210 477 [some (zwK 1), some (zwR 6 0), some (zwR 7 0), some (zwR 32 0), some (zwI (Int32.ofNat n_)), k5_, k6_] [] I_ L_ (a_ + 200) Q_ := by
  have e1_ : Int32.ofNat n_ + 1 = Int32.ofNat (n_ + 1) := (Int32.ofNat_add n_ 1).symm
  have e2_ : Int32.ofNat n_ + 2 = Int32.ofNat (n_ + 2) := (Int32.ofNat_add n_ 2).symm
  refine zY.go 5 rfl ?_
  refine zY.li rfl e1_ (by omega) hT_ ?_
  refine zY.go 4 rfl ?_
  refine zY.li rfl e2_ (by omega) hT_ ?_
  refine zY.bi rfl (fun hp => ?_) (fun hp => ?_)
  · have eb : zzb01 (xs (n_ + 2)) = 0 := if_pos hp
    refine zY.go 1 rfl ?_
    rw [← eb]
    refine zY.go 1 rfl ?_
    refine zY.c (zzh193 (zzO_lift h_ (zzb01_01 _))) rfl rfl rfl rfl (Nat.le_of_ble_eq_true rfl) rfl (by decide) rfl (by decide) (Nat.le_add_left 200 a_) (fun r_ I1 L1 hq => ?_)
    obtain ⟨t_, rfl, hm_⟩ := hq
    refine ⟨_, rfl, ?_⟩
    rw [Nat.add_sub_cancel]
    refine zY.go 6 rfl ?_
    refine zY.li rfl e1_ (by omega) hT_ ?_
    refine zY.go 4 rfl ?_
    refine zY.li rfl e2_ (by omega) hT_ ?_
    refine zY.bi rfl (fun hp => ?_) (fun hp => ?_)
    · have eb : zzb01 (xs (n_ + 2)) = 0 := if_pos hp
      refine zY.go 1 rfl ?_
      rw [← eb]
      refine zY.c hm_ rfl rfl rfl rfl (Nat.le_of_ble_eq_true rfl) rfl (by decide) rfl (by decide) (Nat.zero_le _) (fun r2 I2_ L2_ hq2 => ?_)
      obtain ⟨hR, h0, v_, rfl, hv, hg⟩ := hq2
      refine ⟨_, rfl, ?_⟩
      obtain ⟨u_, rfl⟩ := zzval_is hv (by decide)
      refine zY.go 2 rfl ?_
      refine zY.cr zm121 rfl rfl rfl rfl (Nat.le_of_ble_eq_true rfl) rfl (by decide) rfl (by decide) (Nat.zero_le _) ?_
      rw [h0]
      refine zY.go 1 rfl ?_
      refine zY.bc rfl (fun _ => ?_) (fun hp => absurd (show t_ = t_ from rfl) hp)
      refine zY.go 1 rfl ?_
      refine zY.bi rfl (fun hp => ?_) (fun hp => ?_)
      · refine zY.go 1 rfl ?_
        exact K_ _ _ _ _ hR
      · have ht : t_ = 0 := Classical.byContradiction (fun e_ => hp e_)
        have hu : I2_ 32 0 0 = zzb01 u_ := hg ht u_ rfl
        refine zY.go 2 rfl ?_
        refine zY.al rfl ?_
        rw [hu]
        refine zY.go 1 rfl ?_
        refine zY.bi rfl (fun hp2 => ?_) (fun hp2 => ?_)
        · rw [show zzb01 u_ = 0 from if_pos hp2]
          refine zY.go 2 rfl ?_
          refine zY.bi rfl (fun _ => ?_) (fun hp => absurd zzlc0 hp)
          refine zY.go 1 rfl ?_
          exact K_ _ _ _ _ hR
        · rw [show zzb01 u_ = 1 from if_neg hp2]
          refine zY.go 3 rfl ?_
          refine zY.bi rfl (fun _ => ?_) (fun hp => absurd zzlc1 hp)
          refine zY.go 1 rfl ?_
          exact K_ _ _ _ _ hR
    · have eb : zzb01 (xs (n_ + 2)) = 1 := if_neg hp
      refine zY.go 2 rfl ?_
      rw [← eb]
      refine zY.c hm_ rfl rfl rfl rfl (Nat.le_of_ble_eq_true rfl) rfl (by decide) rfl (by decide) (Nat.zero_le _) (fun r2 I2_ L2_ hq2 => ?_)
      obtain ⟨hR, h0, v_, rfl, hv, hg⟩ := hq2
      refine ⟨_, rfl, ?_⟩
      obtain ⟨u_, rfl⟩ := zzval_is hv (by decide)
      refine zY.go 2 rfl ?_
      refine zY.cr zm121 rfl rfl rfl rfl (Nat.le_of_ble_eq_true rfl) rfl (by decide) rfl (by decide) (Nat.zero_le _) ?_
      rw [h0]
      refine zY.go 1 rfl ?_
      refine zY.bc rfl (fun _ => ?_) (fun hp => absurd (show t_ = t_ from rfl) hp)
      refine zY.go 1 rfl ?_
      refine zY.bi rfl (fun hp => ?_) (fun hp => ?_)
      · refine zY.go 1 rfl ?_
        exact K_ _ _ _ _ hR
      · have ht : t_ = 0 := Classical.byContradiction (fun e_ => hp e_)
        have hu : I2_ 32 0 0 = zzb01 u_ := hg ht u_ rfl
        refine zY.go 2 rfl ?_
        refine zY.al rfl ?_
        rw [hu]
        refine zY.go 1 rfl ?_
        refine zY.bi rfl (fun hp2 => ?_) (fun hp2 => ?_)
        · rw [show zzb01 u_ = 0 from if_pos hp2]
          refine zY.go 2 rfl ?_
          refine zY.bi rfl (fun _ => ?_) (fun hp => absurd zzlc0 hp)
          refine zY.go 1 rfl ?_
          exact K_ _ _ _ _ hR
        · rw [show zzb01 u_ = 1 from if_neg hp2]
          refine zY.go 3 rfl ?_
          refine zY.bi rfl (fun _ => ?_) (fun hp => absurd zzlc1 hp)
          refine zY.go 1 rfl ?_
          exact K_ _ _ _ _ hR
  · have eb : zzb01 (xs (n_ + 2)) = 1 := if_neg hp
    refine zY.go 2 rfl ?_
    rw [← eb]
    refine zY.go 1 rfl ?_
    refine zY.c (zzh193 (zzO_lift h_ (zzb01_01 _))) rfl rfl rfl rfl (Nat.le_of_ble_eq_true rfl) rfl (by decide) rfl (by decide) (Nat.le_add_left 200 a_) (fun r_ I1 L1 hq => ?_)
    obtain ⟨t_, rfl, hm_⟩ := hq
    refine ⟨_, rfl, ?_⟩
    rw [Nat.add_sub_cancel]
    refine zY.go 6 rfl ?_
    refine zY.li rfl e1_ (by omega) hT_ ?_
    refine zY.go 4 rfl ?_
    refine zY.li rfl e2_ (by omega) hT_ ?_
    refine zY.bi rfl (fun hp => ?_) (fun hp => ?_)
    · have eb : zzb01 (xs (n_ + 2)) = 0 := if_pos hp
      refine zY.go 1 rfl ?_
      rw [← eb]
      refine zY.c hm_ rfl rfl rfl rfl (Nat.le_of_ble_eq_true rfl) rfl (by decide) rfl (by decide) (Nat.zero_le _) (fun r2 I2_ L2_ hq2 => ?_)
      obtain ⟨hR, h0, v_, rfl, hv, hg⟩ := hq2
      refine ⟨_, rfl, ?_⟩
      obtain ⟨u_, rfl⟩ := zzval_is hv (by decide)
      refine zY.go 2 rfl ?_
      refine zY.cr zm121 rfl rfl rfl rfl (Nat.le_of_ble_eq_true rfl) rfl (by decide) rfl (by decide) (Nat.zero_le _) ?_
      rw [h0]
      refine zY.go 1 rfl ?_
      refine zY.bc rfl (fun _ => ?_) (fun hp => absurd (show t_ = t_ from rfl) hp)
      refine zY.go 1 rfl ?_
      refine zY.bi rfl (fun hp => ?_) (fun hp => ?_)
      · refine zY.go 1 rfl ?_
        exact K_ _ _ _ _ hR
      · have ht : t_ = 0 := Classical.byContradiction (fun e_ => hp e_)
        have hu : I2_ 32 0 0 = zzb01 u_ := hg ht u_ rfl
        refine zY.go 2 rfl ?_
        refine zY.al rfl ?_
        rw [hu]
        refine zY.go 1 rfl ?_
        refine zY.bi rfl (fun hp2 => ?_) (fun hp2 => ?_)
        · rw [show zzb01 u_ = 0 from if_pos hp2]
          refine zY.go 2 rfl ?_
          refine zY.bi rfl (fun _ => ?_) (fun hp => absurd zzlc0 hp)
          refine zY.go 1 rfl ?_
          exact K_ _ _ _ _ hR
        · rw [show zzb01 u_ = 1 from if_neg hp2]
          refine zY.go 3 rfl ?_
          refine zY.bi rfl (fun _ => ?_) (fun hp => absurd zzlc1 hp)
          refine zY.go 1 rfl ?_
          exact K_ _ _ _ _ hR
    · have eb : zzb01 (xs (n_ + 2)) = 1 := if_neg hp
      refine zY.go 2 rfl ?_
      rw [← eb]
      refine zY.c hm_ rfl rfl rfl rfl (Nat.le_of_ble_eq_true rfl) rfl (by decide) rfl (by decide) (Nat.zero_le _) (fun r2 I2_ L2_ hq2 => ?_)
      obtain ⟨hR, h0, v_, rfl, hv, hg⟩ := hq2
      refine ⟨_, rfl, ?_⟩
      obtain ⟨u_, rfl⟩ := zzval_is hv (by decide)
      refine zY.go 2 rfl ?_
      refine zY.cr zm121 rfl rfl rfl rfl (Nat.le_of_ble_eq_true rfl) rfl (by decide) rfl (by decide) (Nat.zero_le _) ?_
      rw [h0]
      refine zY.go 1 rfl ?_
      refine zY.bc rfl (fun _ => ?_) (fun hp => absurd (show t_ = t_ from rfl) hp)
      refine zY.go 1 rfl ?_
      refine zY.bi rfl (fun hp => ?_) (fun hp => ?_)
      · refine zY.go 1 rfl ?_
        exact K_ _ _ _ _ hR
      · have ht : t_ = 0 := Classical.byContradiction (fun e_ => hp e_)
        have hu : I2_ 32 0 0 = zzb01 u_ := hg ht u_ rfl
        refine zY.go 2 rfl ?_
        refine zY.al rfl ?_
        rw [hu]
        refine zY.go 1 rfl ?_
        refine zY.bi rfl (fun hp2 => ?_) (fun hp2 => ?_)
        · rw [show zzb01 u_ = 0 from if_pos hp2]
          refine zY.go 2 rfl ?_
          refine zY.bi rfl (fun _ => ?_) (fun hp => absurd zzlc0 hp)
          refine zY.go 1 rfl ?_
          exact K_ _ _ _ _ hR
        · rw [show zzb01 u_ = 1 from if_neg hp2]
          refine zY.go 3 rfl ?_
          refine zY.bi rfl (fun _ => ?_) (fun hp => absurd zzlc1 hp)
          refine zY.go 1 rfl ?_
          exact K_ _ _ _ _ hR
set_option maxRecDepth 20000 in
theorem zlw5 {T n_ a_ : Nat} {xs : Nat → Int32} {I_ : zIn} {L_ : zLi} {k5_ k6_ : Option zW} {Q_ : zPost} (hn : n_ + 4 < T) (hT_ : T ≤ 100000) (h_ : zzRR0 I_ L_) (K_ : ∀ I1 L1 k5_ k6_, zzRR0 I1 L1 → zY (some (T, xs)) 20 210 1631 [some (zwK 1), some (zwR 6 0), some (zwR 7 0), some (zwR 32 0), some (zwI (Int32.ofNat n_)), k5_, k6_] [] I1 L1 a_ Q_) : zY (some (T, xs)) 20 210 568 [some (zwK 1), some (zwR 6 0), some (zwR 7 0), some (zwR 32 0), some (zwI (Int32.ofNat n_)), k5_, k6_] [] I_ L_ (a_ + 200) Q_ := by
  have e1_ : Int32.ofNat n_ + 1 = Int32.ofNat (n_ + 1) := (Int32.ofNat_add n_ 1).symm
  have e2_ : Int32.ofNat n_ + 2 = Int32.ofNat (n_ + 2) := (Int32.ofNat_add n_ 2).symm
  have e3_ : Int32.ofNat n_ + 3 = Int32.ofNat (n_ + 3) := (Int32.ofNat_add n_ 3).symm
  have e4_ : Int32.ofNat n_ + 4 = Int32.ofNat (n_ + 4) := (Int32.ofNat_add n_ 4).symm
  refine zY.go 5 rfl ?_
  refine zY.li rfl e1_ (by omega) hT_ ?_
  refine zY.go 4 rfl ?_
  refine zY.li rfl e2_ (by omega) hT_ ?_
  refine zY.go 4 rfl ?_
  refine zY.li rfl e3_ (by omega) hT_ ?_
  refine zY.go 4 rfl ?_
  refine zY.li rfl e4_ (by omega) hT_ ?_
  refine zY.go 1 rfl ?_
  refine zY.c (zzh194 (zzO_ask h_)) rfl rfl rfl rfl (Nat.le_of_ble_eq_true rfl) rfl (by decide) rfl (by decide) (Nat.le_add_left 200 a_) (fun r_ I1 L1 hq => ?_)
  obtain ⟨t_, rfl, hm_⟩ := hq
  refine ⟨_, rfl, ?_⟩
  rw [Nat.add_sub_cancel]
  refine zY.go 6 rfl ?_
  refine zY.li rfl e1_ (by omega) hT_ ?_
  refine zY.go 4 rfl ?_
  refine zY.li rfl e2_ (by omega) hT_ ?_
  refine zY.go 4 rfl ?_
  refine zY.li rfl e3_ (by omega) hT_ ?_
  refine zY.go 4 rfl ?_
  refine zY.li rfl e4_ (by omega) hT_ ?_
  refine zY.c hm_ rfl rfl rfl rfl (Nat.le_of_ble_eq_true rfl) rfl (by decide) rfl (by decide) (Nat.zero_le _) (fun r2 I2_ L2_ hq2 => ?_)
  obtain ⟨hR, h0, v_, rfl, hv, hg⟩ := hq2
  refine ⟨_, rfl, ?_⟩
  obtain ⟨u_, rfl⟩ := zzval_is hv (by decide)
  refine zY.go 2 rfl ?_
  refine zY.cr zm121 rfl rfl rfl rfl (Nat.le_of_ble_eq_true rfl) rfl (by decide) rfl (by decide) (Nat.zero_le _) ?_
  rw [h0]
  refine zY.go 1 rfl ?_
  refine zY.bc rfl (fun _ => ?_) (fun hp => absurd (show t_ = t_ from rfl) hp)
  refine zY.go 1 rfl ?_
  refine zY.bi rfl (fun hp => ?_) (fun hp => ?_)
  · refine zY.go 1 rfl ?_
    exact K_ _ _ _ _ hR
  · have ht : t_ = 0 := Classical.byContradiction (fun e_ => hp e_)
    have hu : I2_ 32 0 0 = u_ := hg ht u_ rfl
    refine zY.go 2 rfl ?_
    refine zY.al rfl ?_
    rw [hu]
    refine zY.go 3 rfl ?_
    refine zY.bi rfl (fun _ => ?_) (fun hp => absurd (zzlc _) hp)
    refine zY.go 1 rfl ?_
    exact K_ _ _ _ _ hR
set_option maxRecDepth 20000 in
theorem zlw6 {T n_ a_ : Nat} {xs : Nat → Int32} {I_ : zIn} {L_ : zLi} {k5_ k6_ : Option zW} {Q_ : zPost} (hn : n_ + 4 < T) (hT_ : T ≤ 100000) (h_ : zzRR0 I_ L_) (K_ : ∀ I1 L1 k5_ k6_, zzRR0 I1 L1 → zY (some (T, xs)) 20 210 1631 [some (zwK 1), some (zwR 6 0), some (zwR 7 0), some (zwR 32 0), some (zwI (Int32.ofNat n_)), k5_, k6_] [] I1 L1 a_ Q_) : zY (some (T, xs)) 20 210 660 [some (zwK 1), some (zwR 6 0), some (zwR 7 0), some (zwR 32 0), some (zwI (Int32.ofNat n_)), k5_, k6_] [] I_ L_ (a_ + 200) Q_ := by
  have e1_ : Int32.ofNat n_ + 1 = Int32.ofNat (n_ + 1) := (Int32.ofNat_add n_ 1).symm
  refine zY.go 5 rfl ?_
  refine zY.li rfl e1_ (by omega) hT_ ?_
  refine zY.go 1 rfl ?_
  refine zY.c (zzh195 (zzO_cancel h_)) rfl rfl rfl rfl (Nat.le_of_ble_eq_true rfl) rfl (by decide) rfl (by decide) (Nat.le_add_left 200 a_) (fun r_ I1 L1 hq => ?_)
  obtain ⟨t_, rfl, hm_⟩ := hq
  refine ⟨_, rfl, ?_⟩
  rw [Nat.add_sub_cancel]
  refine zY.go 6 rfl ?_
  refine zY.li rfl e1_ (by omega) hT_ ?_
  refine zY.c hm_ rfl rfl rfl rfl (Nat.le_of_ble_eq_true rfl) rfl (by decide) rfl (by decide) (Nat.zero_le _) (fun r2 I2_ L2_ hq2 => ?_)
  obtain ⟨hR, h0, v_, rfl, hv, hg⟩ := hq2
  refine ⟨_, rfl, ?_⟩
  obtain ⟨u_, rfl⟩ := zzval_is hv (by decide)
  refine zY.go 2 rfl ?_
  refine zY.cr zm121 rfl rfl rfl rfl (Nat.le_of_ble_eq_true rfl) rfl (by decide) rfl (by decide) (Nat.zero_le _) ?_
  rw [h0]
  refine zY.go 1 rfl ?_
  refine zY.bc rfl (fun _ => ?_) (fun hp => absurd (show t_ = t_ from rfl) hp)
  refine zY.go 1 rfl ?_
  refine zY.bi rfl (fun hp => ?_) (fun hp => ?_)
  · refine zY.go 1 rfl ?_
    exact K_ _ _ _ _ hR
  · have ht : t_ = 0 := Classical.byContradiction (fun e_ => hp e_)
    have hu : I2_ 32 0 0 = zzb01 u_ := hg ht u_ rfl
    refine zY.go 2 rfl ?_
    refine zY.al rfl ?_
    rw [hu]
    refine zY.go 1 rfl ?_
    refine zY.bi rfl (fun hp2 => ?_) (fun hp2 => ?_)
    · rw [show zzb01 u_ = 0 from if_pos hp2]
      refine zY.go 2 rfl ?_
      refine zY.bi rfl (fun _ => ?_) (fun hp => absurd zzlc0 hp)
      refine zY.go 1 rfl ?_
      exact K_ _ _ _ _ hR
    · rw [show zzb01 u_ = 1 from if_neg hp2]
      refine zY.go 3 rfl ?_
      refine zY.bi rfl (fun _ => ?_) (fun hp => absurd zzlc1 hp)
      refine zY.go 1 rfl ?_
      exact K_ _ _ _ _ hR
set_option maxRecDepth 20000 in
theorem zlw7 {T n_ a_ : Nat} {xs : Nat → Int32} {I_ : zIn} {L_ : zLi} {k5_ k6_ : Option zW} {Q_ : zPost} (hn : n_ + 4 < T) (hT_ : T ≤ 100000) (h_ : zzRR0 I_ L_) (K_ : ∀ I1 L1 k5_ k6_, zzRR0 I1 L1 → zY (some (T, xs)) 20 210 1631 [some (zwK 1), some (zwR 6 0), some (zwR 7 0), some (zwR 32 0), some (zwI (Int32.ofNat n_)), k5_, k6_] [] I1 L1 a_ Q_) : zY (some (T, xs)) 20 210 723 [some (zwK 1), some (zwR 6 0), some (zwR 7 0), some (zwR 32 0), some (zwI (Int32.ofNat n_)), k5_, k6_] [] I_ L_ (a_ + 200) Q_ := by
  have e1_ : Int32.ofNat n_ + 1 = Int32.ofNat (n_ + 1) := (Int32.ofNat_add n_ 1).symm
  refine zY.go 5 rfl ?_
  refine zY.li rfl e1_ (by omega) hT_ ?_
  refine zY.c (zzh196 (zzO_absent h_)) rfl rfl rfl rfl (Nat.le_of_ble_eq_true rfl) rfl (by decide) rfl (by decide) (Nat.le_add_left 200 a_) (fun r_ I1 L1 hq => ?_)
  obtain ⟨t_, rfl, hm_⟩ := hq
  refine ⟨_, rfl, ?_⟩
  rw [Nat.add_sub_cancel]
  refine zY.go 6 rfl ?_
  refine zY.li rfl e1_ (by omega) hT_ ?_
  refine zY.c hm_ rfl rfl rfl rfl (Nat.le_of_ble_eq_true rfl) rfl (by decide) rfl (by decide) (Nat.zero_le _) (fun r2 I2_ L2_ hq2 => ?_)
  obtain ⟨hR, h0, v_, rfl, hv, hg⟩ := hq2
  refine ⟨_, rfl, ?_⟩
  have hv2 : v_ = none := zzval_no hv
  subst hv2
  refine zY.go 1 rfl ?_
  refine zY.cr zm121 rfl rfl rfl rfl (Nat.le_of_ble_eq_true rfl) rfl (by decide) rfl (by decide) (Nat.zero_le _) ?_
  rw [h0]
  refine zY.go 1 rfl ?_
  refine zY.bc rfl (fun _ => ?_) (fun hp => absurd (show t_ = t_ from rfl) hp)
  refine zY.go 1 rfl ?_
  exact K_ _ _ _ _ hR
set_option maxRecDepth 20000 in
theorem zlw8 {T n_ a_ : Nat} {xs : Nat → Int32} {I_ : zIn} {L_ : zLi} {k5_ k6_ : Option zW} {Q_ : zPost} (hn : n_ + 4 < T) (hT_ : T ≤ 100000) (h_ : zzRR0 I_ L_) (K_ : ∀ I1 L1 k5_ k6_, zzRR0 I1 L1 → zY (some (T, xs)) 20 210 1631 [some (zwK 1), some (zwR 6 0), some (zwR 7 0), some (zwR 32 0), some (zwI (Int32.ofNat n_)), k5_, k6_] [] I1 L1 a_ Q_) : zY (some (T, xs)) 20 210 759 [some (zwK 1), some (zwR 6 0), some (zwR 7 0), some (zwR 32 0), some (zwI (Int32.ofNat n_)), k5_, k6_] [] I_ L_ (a_ + 200) Q_ := by
  have e1_ : Int32.ofNat n_ + 1 = Int32.ofNat (n_ + 1) := (Int32.ofNat_add n_ 1).symm
  refine zY.go 5 rfl ?_
  refine zY.li rfl e1_ (by omega) hT_ ?_
  refine zY.go 1 rfl ?_
  refine zY.c (zzh197 (zzO_pass h_)) rfl rfl rfl rfl (Nat.le_of_ble_eq_true rfl) rfl (by decide) rfl (by decide) (Nat.le_add_left 200 a_) (fun r_ I1 L1 hq => ?_)
  obtain ⟨t_, rfl, hm_⟩ := hq
  refine ⟨_, rfl, ?_⟩
  rw [Nat.add_sub_cancel]
  refine zY.go 6 rfl ?_
  refine zY.li rfl e1_ (by omega) hT_ ?_
  refine zY.c hm_ rfl rfl rfl rfl (Nat.le_of_ble_eq_true rfl) rfl (by decide) rfl (by decide) (Nat.zero_le _) (fun r2 I2_ L2_ hq2 => ?_)
  obtain ⟨hR, h0, v_, rfl, hv, hg⟩ := hq2
  refine ⟨_, rfl, ?_⟩
  obtain ⟨u_, rfl⟩ := zzval_is hv (by decide)
  refine zY.go 2 rfl ?_
  refine zY.cr zm121 rfl rfl rfl rfl (Nat.le_of_ble_eq_true rfl) rfl (by decide) rfl (by decide) (Nat.zero_le _) ?_
  rw [h0]
  refine zY.go 1 rfl ?_
  refine zY.bc rfl (fun _ => ?_) (fun hp => absurd (show t_ = t_ from rfl) hp)
  refine zY.go 1 rfl ?_
  refine zY.bi rfl (fun hp => ?_) (fun hp => ?_)
  · refine zY.go 1 rfl ?_
    exact K_ _ _ _ _ hR
  · have ht : t_ = 0 := Classical.byContradiction (fun e_ => hp e_)
    have hu : I2_ 32 0 0 = u_ := hg ht u_ rfl
    refine zY.go 2 rfl ?_
    refine zY.al rfl ?_
    rw [hu]
    refine zY.go 3 rfl ?_
    refine zY.bi rfl (fun _ => ?_) (fun hp => absurd (zzlc _) hp)
    refine zY.go 1 rfl ?_
    exact K_ _ _ _ _ hR
set_option maxRecDepth 20000 in
theorem zlw9 {T n_ a_ : Nat} {xs : Nat → Int32} {I_ : zIn} {L_ : zLi} {k5_ k6_ : Option zW} {Q_ : zPost} (hn : n_ + 4 < T) (hT_ : T ≤ 100000) (h_ : zzRR0 I_ L_) (K_ : ∀ I1 L1 k5_ k6_, zzRR0 I1 L1 → zY (some (T, xs)) 20 210 1631 [some (zwK 1), some (zwR 6 0), some (zwR 7 0), some (zwR 32 0), some (zwI (Int32.ofNat n_)), k5_, k6_] [] I1 L1 a_ Q_) : zY (some (T, xs)) 20 210 815 [some (zwK 1), some (zwR 6 0), some (zwR 7 0), some (zwR 32 0), some (zwI (Int32.ofNat n_)), k5_, k6_] [] I_ L_ (a_ + 200) Q_ := by
  refine zY.go 2 rfl ?_
  refine zY.c (zzh198 (zzO_end h_)) rfl rfl rfl rfl (Nat.le_of_ble_eq_true rfl) rfl (by decide) rfl (by decide) (Nat.le_add_left 200 a_) (fun r_ I1 L1 hq => ?_)
  obtain ⟨t_, rfl, hm_⟩ := hq
  refine ⟨_, rfl, ?_⟩
  rw [Nat.add_sub_cancel]
  refine zY.go 2 rfl ?_
  refine zY.c hm_ rfl rfl rfl rfl (Nat.le_of_ble_eq_true rfl) rfl (by decide) rfl (by decide) (Nat.zero_le _) (fun r2 I2_ L2_ hq2 => ?_)
  obtain ⟨hR, h0, v_, rfl, hv, hg⟩ := hq2
  refine ⟨_, rfl, ?_⟩
  obtain ⟨u_, rfl⟩ := zzval_is hv (by decide)
  refine zY.go 2 rfl ?_
  refine zY.cr zm121 rfl rfl rfl rfl (Nat.le_of_ble_eq_true rfl) rfl (by decide) rfl (by decide) (Nat.zero_le _) ?_
  rw [h0]
  refine zY.go 1 rfl ?_
  refine zY.bc rfl (fun _ => ?_) (fun hp => absurd (show t_ = t_ from rfl) hp)
  refine zY.go 1 rfl ?_
  refine zY.bi rfl (fun hp => ?_) (fun hp => ?_)
  · refine zY.go 1 rfl ?_
    exact K_ _ _ _ _ hR
  · have ht : t_ = 0 := Classical.byContradiction (fun e_ => hp e_)
    have hu : I2_ 32 0 0 = u_ := hg ht u_ rfl
    refine zY.go 2 rfl ?_
    refine zY.al rfl ?_
    rw [hu]
    refine zY.go 3 rfl ?_
    refine zY.bi rfl (fun _ => ?_) (fun hp => absurd (zzlc _) hp)
    refine zY.go 1 rfl ?_
    exact K_ _ _ _ _ hR
set_option maxRecDepth 20000 in
theorem zlw10 {T n_ a_ : Nat} {xs : Nat → Int32} {I_ : zIn} {L_ : zLi} {k5_ k6_ : Option zW} {Q_ : zPost} (hn : n_ + 4 < T) (hT_ : T ≤ 100000) (h_ : zzRR0 I_ L_) (K_ : ∀ I1 L1 k5_ k6_, zzRR0 I1 L1 → zY (some (T, xs)) 20 210 1631 [some (zwK 1), some (zwR 6 0), some (zwR 7 0), some (zwR 32 0), some (zwI (Int32.ofNat n_)), k5_, k6_] [] I1 L1 a_ Q_) : zY (some (T, xs)) 20 210 859 [some (zwK 1), some (zwR 6 0), some (zwR 7 0), some (zwR 32 0), some (zwI (Int32.ofNat n_)), k5_, k6_] [] I_ L_ (a_ + 200) Q_ := by
  have e1_ : Int32.ofNat n_ + 1 = Int32.ofNat (n_ + 1) := (Int32.ofNat_add n_ 1).symm
  have e2_ : Int32.ofNat n_ + 2 = Int32.ofNat (n_ + 2) := (Int32.ofNat_add n_ 2).symm
  refine zY.go 5 rfl ?_
  refine zY.li rfl e1_ (by omega) hT_ ?_
  refine zY.go 4 rfl ?_
  refine zY.li rfl e2_ (by omega) hT_ ?_
  refine zY.go 1 rfl ?_
  refine zY.c (zzh199 (zzO_traffic h_)) rfl rfl rfl rfl (Nat.le_of_ble_eq_true rfl) rfl (by decide) rfl (by decide) (Nat.le_add_left 200 a_) (fun r_ I1 L1 hq => ?_)
  obtain ⟨t_, rfl, hm_⟩ := hq
  refine ⟨_, rfl, ?_⟩
  rw [Nat.add_sub_cancel]
  refine zY.go 6 rfl ?_
  refine zY.li rfl e1_ (by omega) hT_ ?_
  refine zY.go 4 rfl ?_
  refine zY.li rfl e2_ (by omega) hT_ ?_
  refine zY.c hm_ rfl rfl rfl rfl (Nat.le_of_ble_eq_true rfl) rfl (by decide) rfl (by decide) (Nat.zero_le _) (fun r2 I2_ L2_ hq2 => ?_)
  obtain ⟨hR, h0, v_, rfl, hv, hg⟩ := hq2
  refine ⟨_, rfl, ?_⟩
  obtain ⟨u_, rfl⟩ := zzval_is hv (by decide)
  refine zY.go 2 rfl ?_
  refine zY.cr zm121 rfl rfl rfl rfl (Nat.le_of_ble_eq_true rfl) rfl (by decide) rfl (by decide) (Nat.zero_le _) ?_
  rw [h0]
  refine zY.go 1 rfl ?_
  refine zY.bc rfl (fun _ => ?_) (fun hp => absurd (show t_ = t_ from rfl) hp)
  refine zY.go 1 rfl ?_
  refine zY.bi rfl (fun hp => ?_) (fun hp => ?_)
  · refine zY.go 1 rfl ?_
    exact K_ _ _ _ _ hR
  · have ht : t_ = 0 := Classical.byContradiction (fun e_ => hp e_)
    have hu : I2_ 32 0 0 = u_ := hg ht u_ rfl
    refine zY.go 2 rfl ?_
    refine zY.al rfl ?_
    rw [hu]
    refine zY.go 3 rfl ?_
    refine zY.bi rfl (fun _ => ?_) (fun hp => absurd (zzlc _) hp)
    refine zY.go 1 rfl ?_
    exact K_ _ _ _ _ hR
set_option maxRecDepth 20000 in
theorem zlw11 {T n_ a_ : Nat} {xs : Nat → Int32} {I_ : zIn} {L_ : zLi} {k5_ k6_ : Option zW} {Q_ : zPost} (hn : n_ + 4 < T) (hT_ : T ≤ 100000) (h_ : zzRR0 I_ L_) (K_ : ∀ I1 L1 k5_ k6_, zzRR0 I1 L1 → zY (some (T, xs)) 20 210 1631 [some (zwK 1), some (zwR 6 0), some (zwR 7 0), some (zwR 32 0), some (zwI (Int32.ofNat n_)), k5_, k6_] [] I1 L1 a_ Q_) : zY (some (T, xs)) 20 210 927 [some (zwK 1), some (zwR 6 0), some (zwR 7 0), some (zwR 32 0), some (zwI (Int32.ofNat n_)), k5_, k6_] [] I_ L_ (a_ + 200) Q_ := by
  have e1_ : Int32.ofNat n_ + 1 = Int32.ofNat (n_ + 1) := (Int32.ofNat_add n_ 1).symm
  refine zY.go 5 rfl ?_
  refine zY.li rfl e1_ (by omega) hT_ ?_
  refine zY.go 1 rfl ?_
  refine zY.c (zzh200 (zzO_mend h_)) rfl rfl rfl rfl (Nat.le_of_ble_eq_true rfl) rfl (by decide) rfl (by decide) (Nat.le_add_left 200 a_) (fun r_ I1 L1 hq => ?_)
  obtain ⟨t_, rfl, hm_⟩ := hq
  refine ⟨_, rfl, ?_⟩
  rw [Nat.add_sub_cancel]
  refine zY.go 6 rfl ?_
  refine zY.li rfl e1_ (by omega) hT_ ?_
  refine zY.c hm_ rfl rfl rfl rfl (Nat.le_of_ble_eq_true rfl) rfl (by decide) rfl (by decide) (Nat.zero_le _) (fun r2 I2_ L2_ hq2 => ?_)
  obtain ⟨hR, h0, v_, rfl, hv, hg⟩ := hq2
  refine ⟨_, rfl, ?_⟩
  obtain ⟨u_, rfl⟩ := zzval_is hv (by decide)
  refine zY.go 2 rfl ?_
  refine zY.cr zm121 rfl rfl rfl rfl (Nat.le_of_ble_eq_true rfl) rfl (by decide) rfl (by decide) (Nat.zero_le _) ?_
  rw [h0]
  refine zY.go 1 rfl ?_
  refine zY.bc rfl (fun _ => ?_) (fun hp => absurd (show t_ = t_ from rfl) hp)
  refine zY.go 1 rfl ?_
  refine zY.bi rfl (fun hp => ?_) (fun hp => ?_)
  · refine zY.go 1 rfl ?_
    exact K_ _ _ _ _ hR
  · have ht : t_ = 0 := Classical.byContradiction (fun e_ => hp e_)
    have hu : I2_ 32 0 0 = u_ := hg ht u_ rfl
    refine zY.go 2 rfl ?_
    refine zY.al rfl ?_
    rw [hu]
    refine zY.go 3 rfl ?_
    refine zY.bi rfl (fun _ => ?_) (fun hp => absurd (zzlc _) hp)
    refine zY.go 1 rfl ?_
    exact K_ _ _ _ _ hR
set_option maxRecDepth 20000 in
theorem zlw12 {T n_ a_ : Nat} {xs : Nat → Int32} {I_ : zIn} {L_ : zLi} {k5_ k6_ : Option zW} {Q_ : zPost} (hn : n_ + 4 < T) (hT_ : T ≤ 100000) (h_ : zzRR0 I_ L_) (K_ : ∀ I1 L1 k5_ k6_, zzRR0 I1 L1 → zY (some (T, xs)) 20 210 1631 [some (zwK 1), some (zwR 6 0), some (zwR 7 0), some (zwR 32 0), some (zwI (Int32.ofNat n_)), k5_, k6_] [] I1 L1 a_ Q_) : zY (some (T, xs)) 20 210 983 [some (zwK 1), some (zwR 6 0), some (zwR 7 0), some (zwR 32 0), some (zwI (Int32.ofNat n_)), k5_, k6_] [] I_ L_ (a_ + 200) Q_ := by
  refine zY.go 1 rfl ?_
  refine zY.c (zzO_day (cd := zcdD) h_) rfl rfl rfl rfl (Nat.le_of_ble_eq_true rfl) rfl (by decide) rfl (by decide) (Nat.le_add_left 200 a_) (fun r_ I1 L1 hq => ?_)
  obtain ⟨v_, rfl, hv, hm_⟩ := zzdir hq (fun _ => rfl)
  obtain ⟨u_, rfl⟩ := zzval_is hv (by decide)
  refine ⟨_, rfl, ?_⟩
  rw [Nat.add_sub_cancel]
  refine zY.go 1 rfl ?_
  refine zY.c hm_ rfl rfl rfl rfl (Nat.le_of_ble_eq_true rfl) rfl (by decide) rfl (by decide) (Nat.zero_le _) (fun r2 I2_ L2_ hq2 => ?_)
  obtain ⟨hR, rfl⟩ := hq2
  refine ⟨_, rfl, ?_⟩
  refine zY.bc rfl (fun _ => ?_) (fun hp => absurd (show u_ = u_ from rfl) hp)
  exact K_ _ _ _ _ hR
set_option maxRecDepth 20000 in
theorem zlw13 {T n_ a_ : Nat} {xs : Nat → Int32} {I_ : zIn} {L_ : zLi} {k5_ k6_ : Option zW} {Q_ : zPost} (hn : n_ + 4 < T) (hT_ : T ≤ 100000) (h_ : zzRR0 I_ L_) (K_ : ∀ I1 L1 k5_ k6_, zzRR0 I1 L1 → zY (some (T, xs)) 20 210 1631 [some (zwK 1), some (zwR 6 0), some (zwR 7 0), some (zwR 32 0), some (zwI (Int32.ofNat n_)), k5_, k6_] [] I1 L1 a_ Q_) : zY (some (T, xs)) 20 210 996 [some (zwK 1), some (zwR 6 0), some (zwR 7 0), some (zwR 32 0), some (zwI (Int32.ofNat n_)), k5_, k6_] [] I_ L_ (a_ + 200) Q_ := by
  refine zY.go 1 rfl ?_
  refine zY.c (zzO_now (cd := zcdD) h_) rfl rfl rfl rfl (Nat.le_of_ble_eq_true rfl) rfl (by decide) rfl (by decide) (Nat.le_add_left 200 a_) (fun r_ I1 L1 hq => ?_)
  obtain ⟨v_, rfl, hv, hm_⟩ := zzdir hq (fun _ => rfl)
  obtain ⟨u_, rfl⟩ := zzval_is hv (by decide)
  refine ⟨_, rfl, ?_⟩
  rw [Nat.add_sub_cancel]
  refine zY.go 1 rfl ?_
  refine zY.c hm_ rfl rfl rfl rfl (Nat.le_of_ble_eq_true rfl) rfl (by decide) rfl (by decide) (Nat.zero_le _) (fun r2 I2_ L2_ hq2 => ?_)
  obtain ⟨hR, rfl⟩ := hq2
  refine ⟨_, rfl, ?_⟩
  refine zY.bc rfl (fun _ => ?_) (fun hp => absurd (show u_ = u_ from rfl) hp)
  exact K_ _ _ _ _ hR
set_option maxRecDepth 20000 in
theorem zlw14 {T n_ a_ : Nat} {xs : Nat → Int32} {I_ : zIn} {L_ : zLi} {k5_ k6_ : Option zW} {Q_ : zPost} (hn : n_ + 4 < T) (hT_ : T ≤ 100000) (h_ : zzRR0 I_ L_) (K_ : ∀ I1 L1 k5_ k6_, zzRR0 I1 L1 → zY (some (T, xs)) 20 210 1631 [some (zwK 1), some (zwR 6 0), some (zwR 7 0), some (zwR 32 0), some (zwI (Int32.ofNat n_)), k5_, k6_] [] I1 L1 a_ Q_) : zY (some (T, xs)) 20 210 1009 [some (zwK 1), some (zwR 6 0), some (zwR 7 0), some (zwR 32 0), some (zwI (Int32.ofNat n_)), k5_, k6_] [] I_ L_ (a_ + 200) Q_ := by
  have e1_ : Int32.ofNat n_ + 1 = Int32.ofNat (n_ + 1) := (Int32.ofNat_add n_ 1).symm
  have e2_ : Int32.ofNat n_ + 2 = Int32.ofNat (n_ + 2) := (Int32.ofNat_add n_ 2).symm
  have e3_ : Int32.ofNat n_ + 3 = Int32.ofNat (n_ + 3) := (Int32.ofNat_add n_ 3).symm
  refine zY.go 5 rfl ?_
  refine zY.li rfl e1_ (by omega) hT_ ?_
  refine zY.go 4 rfl ?_
  refine zY.li rfl e2_ (by omega) hT_ ?_
  refine zY.go 4 rfl ?_
  refine zY.li rfl e3_ (by omega) hT_ ?_
  refine zY.go 1 rfl ?_
  refine zY.c (zzh201 (zzO_owes h_)) rfl rfl rfl rfl (Nat.le_of_ble_eq_true rfl) rfl (by decide) rfl (by decide) (Nat.le_add_left 200 a_) (fun r_ I1 L1 hq => ?_)
  obtain ⟨t_, rfl, hm_⟩ := hq
  refine ⟨_, rfl, ?_⟩
  rw [Nat.add_sub_cancel]
  refine zY.go 6 rfl ?_
  refine zY.li rfl e1_ (by omega) hT_ ?_
  refine zY.go 4 rfl ?_
  refine zY.li rfl e2_ (by omega) hT_ ?_
  refine zY.go 4 rfl ?_
  refine zY.li rfl e3_ (by omega) hT_ ?_
  refine zY.c hm_ rfl rfl rfl rfl (Nat.le_of_ble_eq_true rfl) rfl (by decide) rfl (by decide) (Nat.zero_le _) (fun r2 I2_ L2_ hq2 => ?_)
  obtain ⟨hR, h0, v_, rfl, hv, hg⟩ := hq2
  refine ⟨_, rfl, ?_⟩
  obtain ⟨u_, rfl⟩ := zzval_is hv (by decide)
  refine zY.go 2 rfl ?_
  refine zY.cr zm121 rfl rfl rfl rfl (Nat.le_of_ble_eq_true rfl) rfl (by decide) rfl (by decide) (Nat.zero_le _) ?_
  rw [h0]
  refine zY.go 1 rfl ?_
  refine zY.bc rfl (fun _ => ?_) (fun hp => absurd (show t_ = t_ from rfl) hp)
  refine zY.go 1 rfl ?_
  refine zY.bi rfl (fun hp => ?_) (fun hp => ?_)
  · refine zY.go 1 rfl ?_
    exact K_ _ _ _ _ hR
  · have ht : t_ = 0 := Classical.byContradiction (fun e_ => hp e_)
    have hu : I2_ 32 0 0 = zzb01 u_ := hg ht u_ rfl
    refine zY.go 2 rfl ?_
    refine zY.al rfl ?_
    rw [hu]
    refine zY.go 1 rfl ?_
    refine zY.bi rfl (fun hp2 => ?_) (fun hp2 => ?_)
    · rw [show zzb01 u_ = 0 from if_pos hp2]
      refine zY.go 2 rfl ?_
      refine zY.bi rfl (fun _ => ?_) (fun hp => absurd zzlc0 hp)
      refine zY.go 1 rfl ?_
      exact K_ _ _ _ _ hR
    · rw [show zzb01 u_ = 1 from if_neg hp2]
      refine zY.go 3 rfl ?_
      refine zY.bi rfl (fun _ => ?_) (fun hp => absurd zzlc1 hp)
      refine zY.go 1 rfl ?_
      exact K_ _ _ _ _ hR
set_option maxRecDepth 20000 in
theorem zlw15 {T n_ a_ : Nat} {xs : Nat → Int32} {I_ : zIn} {L_ : zLi} {k5_ k6_ : Option zW} {Q_ : zPost} (hn : n_ + 4 < T) (hT_ : T ≤ 100000) (h_ : zzRR0 I_ L_) (K_ : ∀ I1 L1 k5_ k6_, zzRR0 I1 L1 → zY (some (T, xs)) 20 210 1631 [some (zwK 1), some (zwR 6 0), some (zwR 7 0), some (zwR 32 0), some (zwI (Int32.ofNat n_)), k5_, k6_] [] I1 L1 a_ Q_) : zY (some (T, xs)) 20 210 1096 [some (zwK 1), some (zwR 6 0), some (zwR 7 0), some (zwR 32 0), some (zwI (Int32.ofNat n_)), k5_, k6_] [] I_ L_ (a_ + 200) Q_ := by
  have e1_ : Int32.ofNat n_ + 1 = Int32.ofNat (n_ + 1) := (Int32.ofNat_add n_ 1).symm
  have e2_ : Int32.ofNat n_ + 2 = Int32.ofNat (n_ + 2) := (Int32.ofNat_add n_ 2).symm
  refine zY.go 5 rfl ?_
  refine zY.li rfl e1_ (by omega) hT_ ?_
  refine zY.go 4 rfl ?_
  refine zY.li rfl e2_ (by omega) hT_ ?_
  refine zY.go 1 rfl ?_
  refine zY.c (zzh202 (zzO_riderOf h_)) rfl rfl rfl rfl (Nat.le_of_ble_eq_true rfl) rfl (by decide) rfl (by decide) (Nat.le_add_left 200 a_) (fun r_ I1 L1 hq => ?_)
  obtain ⟨t_, rfl, hm_⟩ := hq
  refine ⟨_, rfl, ?_⟩
  rw [Nat.add_sub_cancel]
  refine zY.go 6 rfl ?_
  refine zY.li rfl e1_ (by omega) hT_ ?_
  refine zY.go 4 rfl ?_
  refine zY.li rfl e2_ (by omega) hT_ ?_
  refine zY.c hm_ rfl rfl rfl rfl (Nat.le_of_ble_eq_true rfl) rfl (by decide) rfl (by decide) (Nat.zero_le _) (fun r2 I2_ L2_ hq2 => ?_)
  obtain ⟨hR, h0, v_, rfl, hv, hg⟩ := hq2
  refine ⟨_, rfl, ?_⟩
  obtain ⟨u_, rfl⟩ := zzval_is hv (by decide)
  refine zY.go 2 rfl ?_
  refine zY.cr zm121 rfl rfl rfl rfl (Nat.le_of_ble_eq_true rfl) rfl (by decide) rfl (by decide) (Nat.zero_le _) ?_
  rw [h0]
  refine zY.go 1 rfl ?_
  refine zY.bc rfl (fun _ => ?_) (fun hp => absurd (show t_ = t_ from rfl) hp)
  refine zY.go 1 rfl ?_
  refine zY.bi rfl (fun hp => ?_) (fun hp => ?_)
  · refine zY.go 1 rfl ?_
    exact K_ _ _ _ _ hR
  · have ht : t_ = 0 := Classical.byContradiction (fun e_ => hp e_)
    have hu : I2_ 32 0 0 = u_ := hg ht u_ rfl
    refine zY.go 2 rfl ?_
    refine zY.al rfl ?_
    rw [hu]
    refine zY.go 3 rfl ?_
    refine zY.bi rfl (fun _ => ?_) (fun hp => absurd (zzlc _) hp)
    refine zY.go 1 rfl ?_
    exact K_ _ _ _ _ hR
set_option maxRecDepth 20000 in
theorem zlw16 {T n_ a_ : Nat} {xs : Nat → Int32} {I_ : zIn} {L_ : zLi} {k5_ k6_ : Option zW} {Q_ : zPost} (hn : n_ + 4 < T) (hT_ : T ≤ 100000) (h_ : zzRR0 I_ L_) (K_ : ∀ I1 L1 k5_ k6_, zzRR0 I1 L1 → zY (some (T, xs)) 20 210 1631 [some (zwK 1), some (zwR 6 0), some (zwR 7 0), some (zwR 32 0), some (zwI (Int32.ofNat n_)), k5_, k6_] [] I1 L1 a_ Q_) : zY (some (T, xs)) 20 210 1164 [some (zwK 1), some (zwR 6 0), some (zwR 7 0), some (zwR 32 0), some (zwI (Int32.ofNat n_)), k5_, k6_] [] I_ L_ (a_ + 200) Q_ := by
  have e1_ : Int32.ofNat n_ + 1 = Int32.ofNat (n_ + 1) := (Int32.ofNat_add n_ 1).symm
  have e2_ : Int32.ofNat n_ + 2 = Int32.ofNat (n_ + 2) := (Int32.ofNat_add n_ 2).symm
  refine zY.go 5 rfl ?_
  refine zY.li rfl e1_ (by omega) hT_ ?_
  refine zY.go 4 rfl ?_
  refine zY.li rfl e2_ (by omega) hT_ ?_
  refine zY.go 1 rfl ?_
  refine zY.c (zzh203 (zzO_requestOf h_)) rfl rfl rfl rfl (Nat.le_of_ble_eq_true rfl) rfl (by decide) rfl (by decide) (Nat.le_add_left 200 a_) (fun r_ I1 L1 hq => ?_)
  obtain ⟨t_, rfl, hm_⟩ := hq
  refine ⟨_, rfl, ?_⟩
  rw [Nat.add_sub_cancel]
  refine zY.go 6 rfl ?_
  refine zY.li rfl e1_ (by omega) hT_ ?_
  refine zY.go 4 rfl ?_
  refine zY.li rfl e2_ (by omega) hT_ ?_
  refine zY.c hm_ rfl rfl rfl rfl (Nat.le_of_ble_eq_true rfl) rfl (by decide) rfl (by decide) (Nat.zero_le _) (fun r2 I2_ L2_ hq2 => ?_)
  obtain ⟨hR, h0, v_, rfl, hv, hg⟩ := hq2
  refine ⟨_, rfl, ?_⟩
  obtain ⟨u_, rfl⟩ := zzval_is hv (by decide)
  refine zY.go 2 rfl ?_
  refine zY.cr zm121 rfl rfl rfl rfl (Nat.le_of_ble_eq_true rfl) rfl (by decide) rfl (by decide) (Nat.zero_le _) ?_
  rw [h0]
  refine zY.go 1 rfl ?_
  refine zY.bc rfl (fun _ => ?_) (fun hp => absurd (show t_ = t_ from rfl) hp)
  refine zY.go 1 rfl ?_
  refine zY.bi rfl (fun hp => ?_) (fun hp => ?_)
  · refine zY.go 1 rfl ?_
    exact K_ _ _ _ _ hR
  · have ht : t_ = 0 := Classical.byContradiction (fun e_ => hp e_)
    have hu : I2_ 32 0 0 = u_ := hg ht u_ rfl
    refine zY.go 2 rfl ?_
    refine zY.al rfl ?_
    rw [hu]
    refine zY.go 3 rfl ?_
    refine zY.bi rfl (fun _ => ?_) (fun hp => absurd (zzlc _) hp)
    refine zY.go 1 rfl ?_
    exact K_ _ _ _ _ hR
set_option maxRecDepth 20000 in
theorem zlw17 {T n_ a_ : Nat} {xs : Nat → Int32} {I_ : zIn} {L_ : zLi} {k5_ k6_ : Option zW} {Q_ : zPost} (hn : n_ + 4 < T) (hT_ : T ≤ 100000) (h_ : zzRR0 I_ L_) (K_ : ∀ I1 L1 k5_ k6_, zzRR0 I1 L1 → zY (some (T, xs)) 20 210 1631 [some (zwK 1), some (zwR 6 0), some (zwR 7 0), some (zwR 32 0), some (zwI (Int32.ofNat n_)), k5_, k6_] [] I1 L1 a_ Q_) : zY (some (T, xs)) 20 210 1232 [some (zwK 1), some (zwR 6 0), some (zwR 7 0), some (zwR 32 0), some (zwI (Int32.ofNat n_)), k5_, k6_] [] I_ L_ (a_ + 200) Q_ := by
  have e1_ : Int32.ofNat n_ + 1 = Int32.ofNat (n_ + 1) := (Int32.ofNat_add n_ 1).symm
  have e2_ : Int32.ofNat n_ + 2 = Int32.ofNat (n_ + 2) := (Int32.ofNat_add n_ 2).symm
  refine zY.go 5 rfl ?_
  refine zY.li rfl e1_ (by omega) hT_ ?_
  refine zY.go 4 rfl ?_
  refine zY.li rfl e2_ (by omega) hT_ ?_
  refine zY.go 1 rfl ?_
  refine zY.c (zzh204 (zzO_vehicleOf h_)) rfl rfl rfl rfl (Nat.le_of_ble_eq_true rfl) rfl (by decide) rfl (by decide) (Nat.le_add_left 200 a_) (fun r_ I1 L1 hq => ?_)
  obtain ⟨t_, rfl, hm_⟩ := hq
  refine ⟨_, rfl, ?_⟩
  rw [Nat.add_sub_cancel]
  refine zY.go 6 rfl ?_
  refine zY.li rfl e1_ (by omega) hT_ ?_
  refine zY.go 4 rfl ?_
  refine zY.li rfl e2_ (by omega) hT_ ?_
  refine zY.c hm_ rfl rfl rfl rfl (Nat.le_of_ble_eq_true rfl) rfl (by decide) rfl (by decide) (Nat.zero_le _) (fun r2 I2_ L2_ hq2 => ?_)
  obtain ⟨hR, h0, v_, rfl, hv, hg⟩ := hq2
  refine ⟨_, rfl, ?_⟩
  obtain ⟨u_, rfl⟩ := zzval_is hv (by decide)
  refine zY.go 2 rfl ?_
  refine zY.cr zm121 rfl rfl rfl rfl (Nat.le_of_ble_eq_true rfl) rfl (by decide) rfl (by decide) (Nat.zero_le _) ?_
  rw [h0]
  refine zY.go 1 rfl ?_
  refine zY.bc rfl (fun _ => ?_) (fun hp => absurd (show t_ = t_ from rfl) hp)
  refine zY.go 1 rfl ?_
  refine zY.bi rfl (fun hp => ?_) (fun hp => ?_)
  · refine zY.go 1 rfl ?_
    exact K_ _ _ _ _ hR
  · have ht : t_ = 0 := Classical.byContradiction (fun e_ => hp e_)
    have hu : I2_ 32 0 0 = u_ := hg ht u_ rfl
    refine zY.go 2 rfl ?_
    refine zY.al rfl ?_
    rw [hu]
    refine zY.go 3 rfl ?_
    refine zY.bi rfl (fun _ => ?_) (fun hp => absurd (zzlc _) hp)
    refine zY.go 1 rfl ?_
    exact K_ _ _ _ _ hR
set_option maxRecDepth 20000 in
theorem zlw18 {T n_ a_ : Nat} {xs : Nat → Int32} {I_ : zIn} {L_ : zLi} {k5_ k6_ : Option zW} {Q_ : zPost} (hn : n_ + 4 < T) (hT_ : T ≤ 100000) (h_ : zzRR0 I_ L_) (K_ : ∀ I1 L1 k5_ k6_, zzRR0 I1 L1 → zY (some (T, xs)) 20 210 1631 [some (zwK 1), some (zwR 6 0), some (zwR 7 0), some (zwR 32 0), some (zwI (Int32.ofNat n_)), k5_, k6_] [] I1 L1 a_ Q_) : zY (some (T, xs)) 20 210 1300 [some (zwK 1), some (zwR 6 0), some (zwR 7 0), some (zwR 32 0), some (zwI (Int32.ofNat n_)), k5_, k6_] [] I_ L_ (a_ + 200) Q_ := by
  have e1_ : Int32.ofNat n_ + 1 = Int32.ofNat (n_ + 1) := (Int32.ofNat_add n_ 1).symm
  have e2_ : Int32.ofNat n_ + 2 = Int32.ofNat (n_ + 2) := (Int32.ofNat_add n_ 2).symm
  have e3_ : Int32.ofNat n_ + 3 = Int32.ofNat (n_ + 3) := (Int32.ofNat_add n_ 3).symm
  refine zY.go 5 rfl ?_
  refine zY.li rfl e1_ (by omega) hT_ ?_
  refine zY.go 4 rfl ?_
  refine zY.li rfl e2_ (by omega) hT_ ?_
  refine zY.go 4 rfl ?_
  refine zY.li rfl e3_ (by omega) hT_ ?_
  refine zY.go 1 rfl ?_
  refine zY.c (zzh205 (zzO_stopOf h_)) rfl rfl rfl rfl (Nat.le_of_ble_eq_true rfl) rfl (by decide) rfl (by decide) (Nat.le_add_left 200 a_) (fun r_ I1 L1 hq => ?_)
  obtain ⟨t_, rfl, hm_⟩ := hq
  refine ⟨_, rfl, ?_⟩
  rw [Nat.add_sub_cancel]
  refine zY.go 6 rfl ?_
  refine zY.li rfl e1_ (by omega) hT_ ?_
  refine zY.go 4 rfl ?_
  refine zY.li rfl e2_ (by omega) hT_ ?_
  refine zY.go 4 rfl ?_
  refine zY.li rfl e3_ (by omega) hT_ ?_
  refine zY.c hm_ rfl rfl rfl rfl (Nat.le_of_ble_eq_true rfl) rfl (by decide) rfl (by decide) (Nat.zero_le _) (fun r2 I2_ L2_ hq2 => ?_)
  obtain ⟨hR, h0, v_, rfl, hv, hg⟩ := hq2
  refine ⟨_, rfl, ?_⟩
  obtain ⟨u_, rfl⟩ := zzval_is hv (by decide)
  refine zY.go 2 rfl ?_
  refine zY.cr zm121 rfl rfl rfl rfl (Nat.le_of_ble_eq_true rfl) rfl (by decide) rfl (by decide) (Nat.zero_le _) ?_
  rw [h0]
  refine zY.go 1 rfl ?_
  refine zY.bc rfl (fun _ => ?_) (fun hp => absurd (show t_ = t_ from rfl) hp)
  refine zY.go 1 rfl ?_
  refine zY.bi rfl (fun hp => ?_) (fun hp => ?_)
  · refine zY.go 1 rfl ?_
    exact K_ _ _ _ _ hR
  · have ht : t_ = 0 := Classical.byContradiction (fun e_ => hp e_)
    have hu : I2_ 32 0 0 = u_ := hg ht u_ rfl
    refine zY.go 2 rfl ?_
    refine zY.al rfl ?_
    rw [hu]
    refine zY.go 3 rfl ?_
    refine zY.bi rfl (fun _ => ?_) (fun hp => absurd (zzlc _) hp)
    refine zY.go 1 rfl ?_
    exact K_ _ _ _ _ hR
set_option maxRecDepth 20000 in
theorem zlw19 {T n_ a_ : Nat} {xs : Nat → Int32} {I_ : zIn} {L_ : zLi} {k5_ k6_ : Option zW} {Q_ : zPost} (hn : n_ + 4 < T) (hT_ : T ≤ 100000) (h_ : zzRR0 I_ L_) (K_ : ∀ I1 L1 k5_ k6_, zzRR0 I1 L1 → zY (some (T, xs)) 20 210 1631 [some (zwK 1), some (zwR 6 0), some (zwR 7 0), some (zwR 32 0), some (zwI (Int32.ofNat n_)), k5_, k6_] [] I1 L1 a_ Q_) : zY (some (T, xs)) 20 210 1380 [some (zwK 1), some (zwR 6 0), some (zwR 7 0), some (zwR 32 0), some (zwI (Int32.ofNat n_)), k5_, k6_] [] I_ L_ (a_ + 200) Q_ := by
  have e1_ : Int32.ofNat n_ + 1 = Int32.ofNat (n_ + 1) := (Int32.ofNat_add n_ 1).symm
  refine zY.go 5 rfl ?_
  refine zY.li rfl e1_ (by omega) hT_ ?_
  refine zY.go 1 rfl ?_
  refine zY.c (zzh206 (zzO_seatsAnew h_)) rfl rfl rfl rfl (Nat.le_of_ble_eq_true rfl) rfl (by decide) rfl (by decide) (Nat.le_add_left 200 a_) (fun r_ I1 L1 hq => ?_)
  obtain ⟨t_, rfl, hm_⟩ := hq
  refine ⟨_, rfl, ?_⟩
  rw [Nat.add_sub_cancel]
  refine zY.go 6 rfl ?_
  refine zY.li rfl e1_ (by omega) hT_ ?_
  refine zY.c hm_ rfl rfl rfl rfl (Nat.le_of_ble_eq_true rfl) rfl (by decide) rfl (by decide) (Nat.zero_le _) (fun r2 I2_ L2_ hq2 => ?_)
  obtain ⟨hR, h0, v_, rfl, hv, hg⟩ := hq2
  refine ⟨_, rfl, ?_⟩
  obtain ⟨u_, rfl⟩ := zzval_is hv (by decide)
  refine zY.go 2 rfl ?_
  refine zY.cr zm121 rfl rfl rfl rfl (Nat.le_of_ble_eq_true rfl) rfl (by decide) rfl (by decide) (Nat.zero_le _) ?_
  rw [h0]
  refine zY.go 1 rfl ?_
  refine zY.bc rfl (fun _ => ?_) (fun hp => absurd (show t_ = t_ from rfl) hp)
  refine zY.go 1 rfl ?_
  refine zY.bi rfl (fun hp => ?_) (fun hp => ?_)
  · refine zY.go 1 rfl ?_
    exact K_ _ _ _ _ hR
  · have ht : t_ = 0 := Classical.byContradiction (fun e_ => hp e_)
    have hu : I2_ 32 0 0 = u_ := hg ht u_ rfl
    refine zY.go 2 rfl ?_
    refine zY.al rfl ?_
    rw [hu]
    refine zY.go 3 rfl ?_
    refine zY.bi rfl (fun _ => ?_) (fun hp => absurd (zzlc _) hp)
    refine zY.go 1 rfl ?_
    exact K_ _ _ _ _ hR
set_option maxRecDepth 20000 in
theorem zlw20 {T n_ a_ : Nat} {xs : Nat → Int32} {I_ : zIn} {L_ : zLi} {k5_ k6_ : Option zW} {Q_ : zPost} (hn : n_ + 4 < T) (hT_ : T ≤ 100000) (h_ : zzRR0 I_ L_) (K_ : ∀ I1 L1 k5_ k6_, zzRR0 I1 L1 → zY (some (T, xs)) 20 210 1631 [some (zwK 1), some (zwR 6 0), some (zwR 7 0), some (zwR 32 0), some (zwI (Int32.ofNat n_)), k5_, k6_] [] I1 L1 a_ Q_) : zY (some (T, xs)) 20 210 1436 [some (zwK 1), some (zwR 6 0), some (zwR 7 0), some (zwR 32 0), some (zwI (Int32.ofNat n_)), k5_, k6_] [] I_ L_ (a_ + 200) Q_ := by
  have e1_ : Int32.ofNat n_ + 1 = Int32.ofNat (n_ + 1) := (Int32.ofNat_add n_ 1).symm
  refine zY.go 5 rfl ?_
  refine zY.li rfl e1_ (by omega) hT_ ?_
  refine zY.go 1 rfl ?_
  refine zY.c (zzh207 (zzO_drive h_)) rfl rfl rfl rfl (Nat.le_of_ble_eq_true rfl) rfl (by decide) rfl (by decide) (Nat.le_add_left 200 a_) (fun r_ I1 L1 hq => ?_)
  obtain ⟨t_, rfl, hm_⟩ := hq
  refine ⟨_, rfl, ?_⟩
  rw [Nat.add_sub_cancel]
  refine zY.go 6 rfl ?_
  refine zY.li rfl e1_ (by omega) hT_ ?_
  refine zY.c hm_ rfl rfl rfl rfl (Nat.le_of_ble_eq_true rfl) rfl (by decide) rfl (by decide) (Nat.zero_le _) (fun r2 I2_ L2_ hq2 => ?_)
  obtain ⟨hR, h0, v_, rfl, hv, hg⟩ := hq2
  refine ⟨_, rfl, ?_⟩
  obtain ⟨u_, rfl⟩ := zzval_is hv (by decide)
  refine zY.go 2 rfl ?_
  refine zY.cr zm121 rfl rfl rfl rfl (Nat.le_of_ble_eq_true rfl) rfl (by decide) rfl (by decide) (Nat.zero_le _) ?_
  rw [h0]
  refine zY.go 1 rfl ?_
  refine zY.bc rfl (fun _ => ?_) (fun hp => absurd (show t_ = t_ from rfl) hp)
  refine zY.go 1 rfl ?_
  refine zY.bi rfl (fun hp => ?_) (fun hp => ?_)
  · refine zY.go 1 rfl ?_
    exact K_ _ _ _ _ hR
  · have ht : t_ = 0 := Classical.byContradiction (fun e_ => hp e_)
    have hu : I2_ 32 0 0 = u_ := hg ht u_ rfl
    refine zY.go 2 rfl ?_
    refine zY.al rfl ?_
    rw [hu]
    refine zY.go 3 rfl ?_
    refine zY.bi rfl (fun _ => ?_) (fun hp => absurd (zzlc _) hp)
    refine zY.go 1 rfl ?_
    exact K_ _ _ _ _ hR
set_option maxRecDepth 20000 in
theorem zlw21 {T n_ a_ : Nat} {xs : Nat → Int32} {I_ : zIn} {L_ : zLi} {k5_ k6_ : Option zW} {Q_ : zPost} (hn : n_ + 4 < T) (hT_ : T ≤ 100000) (h_ : zzRR0 I_ L_) (K_ : ∀ I1 L1 k5_ k6_, zzRR0 I1 L1 → zY (some (T, xs)) 20 210 1631 [some (zwK 1), some (zwR 6 0), some (zwR 7 0), some (zwR 32 0), some (zwI (Int32.ofNat n_)), k5_, k6_] [] I1 L1 a_ Q_) : zY (some (T, xs)) 20 210 1492 [some (zwK 1), some (zwR 6 0), some (zwR 7 0), some (zwR 32 0), some (zwI (Int32.ofNat n_)), k5_, k6_] [] I_ L_ (a_ + 200) Q_ := by
  have e1_ : Int32.ofNat n_ + 1 = Int32.ofNat (n_ + 1) := (Int32.ofNat_add n_ 1).symm
  refine zY.go 5 rfl ?_
  refine zY.li rfl e1_ (by omega) hT_ ?_
  refine zY.go 1 rfl ?_
  refine zY.c (zzh208 (zzO_leastDrive h_)) rfl rfl rfl rfl (Nat.le_of_ble_eq_true rfl) rfl (by decide) rfl (by decide) (Nat.le_add_left 200 a_) (fun r_ I1 L1 hq => ?_)
  obtain ⟨t_, rfl, hm_⟩ := hq
  refine ⟨_, rfl, ?_⟩
  rw [Nat.add_sub_cancel]
  refine zY.go 6 rfl ?_
  refine zY.li rfl e1_ (by omega) hT_ ?_
  refine zY.c hm_ rfl rfl rfl rfl (Nat.le_of_ble_eq_true rfl) rfl (by decide) rfl (by decide) (Nat.zero_le _) (fun r2 I2_ L2_ hq2 => ?_)
  obtain ⟨hR, h0, v_, rfl, hv, hg⟩ := hq2
  refine ⟨_, rfl, ?_⟩
  obtain ⟨u_, rfl⟩ := zzval_is hv (by decide)
  refine zY.go 2 rfl ?_
  refine zY.cr zm121 rfl rfl rfl rfl (Nat.le_of_ble_eq_true rfl) rfl (by decide) rfl (by decide) (Nat.zero_le _) ?_
  rw [h0]
  refine zY.go 1 rfl ?_
  refine zY.bc rfl (fun _ => ?_) (fun hp => absurd (show t_ = t_ from rfl) hp)
  refine zY.go 1 rfl ?_
  refine zY.bi rfl (fun hp => ?_) (fun hp => ?_)
  · refine zY.go 1 rfl ?_
    exact K_ _ _ _ _ hR
  · have ht : t_ = 0 := Classical.byContradiction (fun e_ => hp e_)
    have hu : I2_ 32 0 0 = u_ := hg ht u_ rfl
    refine zY.go 2 rfl ?_
    refine zY.al rfl ?_
    rw [hu]
    refine zY.go 3 rfl ?_
    refine zY.bi rfl (fun _ => ?_) (fun hp => absurd (zzlc _) hp)
    refine zY.go 1 rfl ?_
    exact K_ _ _ _ _ hR
set_option maxRecDepth 20000 in
theorem zlw22 {T n_ a_ : Nat} {xs : Nat → Int32} {I_ : zIn} {L_ : zLi} {k5_ k6_ : Option zW} {Q_ : zPost} (hn : n_ + 4 < T) (hT_ : T ≤ 100000) (h_ : zzRR0 I_ L_) (K_ : ∀ I1 L1 k5_ k6_, zzRR0 I1 L1 → zY (some (T, xs)) 20 210 1631 [some (zwK 1), some (zwR 6 0), some (zwR 7 0), some (zwR 32 0), some (zwI (Int32.ofNat n_)), k5_, k6_] [] I1 L1 a_ Q_) : zY (some (T, xs)) 20 210 1548 [some (zwK 1), some (zwR 6 0), some (zwR 7 0), some (zwR 32 0), some (zwI (Int32.ofNat n_)), k5_, k6_] [] I_ L_ (a_ + 200) Q_ := by
  refine zY.go 1 rfl ?_
  refine zY.c (zzO_patterns (cd := zcdD) h_) rfl rfl rfl rfl (Nat.le_of_ble_eq_true rfl) rfl (by decide) rfl (by decide) (Nat.le_add_left 200 a_) (fun r_ I1 L1 hq => ?_)
  obtain ⟨v_, rfl, hv, hm_⟩ := zzdir hq (fun _ => rfl)
  obtain ⟨u_, rfl⟩ := zzval_is hv (by decide)
  refine ⟨_, rfl, ?_⟩
  rw [Nat.add_sub_cancel]
  refine zY.go 1 rfl ?_
  refine zY.c hm_ rfl rfl rfl rfl (Nat.le_of_ble_eq_true rfl) rfl (by decide) rfl (by decide) (Nat.zero_le _) (fun r2 I2_ L2_ hq2 => ?_)
  obtain ⟨hR, rfl⟩ := hq2
  refine ⟨_, rfl, ?_⟩
  refine zY.bc rfl (fun _ => ?_) (fun hp => absurd (show u_ = u_ from rfl) hp)
  exact K_ _ _ _ _ hR
set_option maxRecDepth 20000 in
theorem zlw23 {T n_ a_ : Nat} {xs : Nat → Int32} {I_ : zIn} {L_ : zLi} {k5_ k6_ : Option zW} {Q_ : zPost} (hn : n_ + 4 < T) (hT_ : T ≤ 100000) (h_ : zzRR0 I_ L_) (K_ : ∀ I1 L1 k5_ k6_, zzRR0 I1 L1 → zY (some (T, xs)) 20 210 1631 [some (zwK 1), some (zwR 6 0), some (zwR 7 0), some (zwR 32 0), some (zwI (Int32.ofNat n_)), k5_, k6_] [] I1 L1 a_ Q_) : zY (some (T, xs)) 20 210 1561 [some (zwK 1), some (zwR 6 0), some (zwR 7 0), some (zwR 32 0), some (zwI (Int32.ofNat n_)), k5_, k6_] [] I_ L_ (a_ + 200) Q_ := by
  have e1_ : Int32.ofNat n_ + 1 = Int32.ofNat (n_ + 1) := (Int32.ofNat_add n_ 1).symm
  refine zY.go 5 rfl ?_
  refine zY.li rfl e1_ (by omega) hT_ ?_
  refine zY.go 1 rfl ?_
  refine zY.c (zzh209 (zzO_count h_)) rfl rfl rfl rfl (Nat.le_of_ble_eq_true rfl) rfl (by decide) rfl (by decide) (Nat.le_add_left 200 a_) (fun r_ I1 L1 hq => ?_)
  obtain ⟨t_, rfl, hm_⟩ := hq
  refine ⟨_, rfl, ?_⟩
  rw [Nat.add_sub_cancel]
  refine zY.go 6 rfl ?_
  refine zY.li rfl e1_ (by omega) hT_ ?_
  refine zY.c hm_ rfl rfl rfl rfl (Nat.le_of_ble_eq_true rfl) rfl (by decide) rfl (by decide) (Nat.zero_le _) (fun r2 I2_ L2_ hq2 => ?_)
  obtain ⟨hR, h0, v_, rfl, hv, hg⟩ := hq2
  refine ⟨_, rfl, ?_⟩
  obtain ⟨u_, rfl⟩ := zzval_is hv (by decide)
  refine zY.go 2 rfl ?_
  refine zY.cr zm121 rfl rfl rfl rfl (Nat.le_of_ble_eq_true rfl) rfl (by decide) rfl (by decide) (Nat.zero_le _) ?_
  rw [h0]
  refine zY.go 1 rfl ?_
  refine zY.bc rfl (fun _ => ?_) (fun hp => absurd (show t_ = t_ from rfl) hp)
  refine zY.go 1 rfl ?_
  refine zY.bi rfl (fun hp => ?_) (fun hp => ?_)
  · refine zY.go 1 rfl ?_
    exact K_ _ _ _ _ hR
  · have ht : t_ = 0 := Classical.byContradiction (fun e_ => hp e_)
    have hu : I2_ 32 0 0 = u_ := hg ht u_ rfl
    refine zY.go 2 rfl ?_
    refine zY.al rfl ?_
    rw [hu]
    refine zY.go 3 rfl ?_
    refine zY.bi rfl (fun _ => ?_) (fun hp => absurd (zzlc _) hp)
    refine zY.go 1 rfl ?_
    exact K_ _ _ _ _ hR
set_option maxRecDepth 20000 in
theorem zlw24 {T n_ a_ : Nat} {xs : Nat → Int32} {I_ : zIn} {L_ : zLi} {k5_ k6_ : Option zW} {Q_ : zPost} (hn : n_ + 4 < T) (hT_ : T ≤ 100000) (h_ : zzRR0 I_ L_) (K_ : ∀ I1 L1 k5_ k6_, zzRR0 I1 L1 → zY (some (T, xs)) 20 210 1631 [some (zwK 1), some (zwR 6 0), some (zwR 7 0), some (zwR 32 0), some (zwI (Int32.ofNat n_)), k5_, k6_] [] I1 L1 a_ Q_) : zY (some (T, xs)) 20 210 1617 [some (zwK 1), some (zwR 6 0), some (zwR 7 0), some (zwR 32 0), some (zwI (Int32.ofNat n_)), k5_, k6_] [] I_ L_ (a_ + 200) Q_ := by
  refine zY.go 1 rfl ?_
  refine zY.c (zzO_money (cd := zcdD) h_) rfl rfl rfl rfl (Nat.le_of_ble_eq_true rfl) rfl (by decide) rfl (by decide) (Nat.le_add_left 200 a_) (fun r_ I1 L1 hq => ?_)
  obtain ⟨v_, rfl, hv, hm_⟩ := zzdir hq (fun _ => rfl)
  obtain ⟨u_, rfl⟩ := zzval_lg hv
  refine ⟨_, rfl, ?_⟩
  rw [Nat.add_sub_cancel]
  refine zY.go 1 rfl ?_
  refine zY.c hm_ rfl rfl rfl rfl (Nat.le_of_ble_eq_true rfl) rfl (by decide) rfl (by decide) (Nat.zero_le _) (fun r2 I2_ L2_ hq2 => ?_)
  obtain ⟨hR, rfl⟩ := hq2
  refine ⟨_, rfl, ?_⟩
  refine zY.go 1 rfl ?_
  refine zY.bi rfl (fun _ => ?_) (fun hp => absurd (zzlc _) hp)
  exact K_ _ _ _ _ hR
