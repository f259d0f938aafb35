/-! CONTRACTS OF THE MODEL: put -/
def zBs (I_ : zIn) (N_ : Nat) (R_ : Nat → List Nat) : Prop := I_ 7 0 48 = -1 ∨ ∃ b_ p_ d_, b_ < N_ ∧ I_ 7 0 48 = Int32.ofNat b_ ∧ I_ 7 0 49 = Int32.ofNat p_ ∧ I_ 7 0 50 = Int32.ofNat d_ ∧ p_ ≤ (R_ b_).length ∧ p_ < d_ ∧ d_ ≤ (R_ b_).length + 1 ∧ (R_ b_).length ≤ 14
theorem zBs.of {J_ I_ : zIn} {N_ : Nat} {R_ : Nat → List Nat} (h_ : zBs I_ N_ R_) (h1 : J_ 7 0 48 = I_ 7 0 48) (h2 : J_ 7 0 49 = I_ 7 0 49) (h3 : J_ 7 0 50 = I_ 7 0 50) : zBs J_ N_ R_ := by
  unfold zBs at *
  rw [h1, h2, h3]
  exact h_
theorem zBs.fx {J_ I_ : zIn} {N_ : Nat} {R_ : Nat → List Nat} (hf : zfx J_ I_) (h_ : zBs I_ N_ R_) : zBs J_ N_ R_ := h_.of (hf _ _ _ (by simp)) (hf _ _ _ (by simp)) (hf _ _ _ (by simp))
theorem zBs.try {I_ : zIn} {N_ v_ n_ : Nat} {R_ : Nat → List Nat} (h_ : zBs I_ N_ R_) : zBs (ztry I_ v_ n_) N_ R_ := h_.of (ztry_ne (by simp) (by simp)) (ztry_ne (by simp) (by simp)) (ztry_ne (by simp) (by simp))
theorem zBs.pst {I_ : zIn} {N_ n_ a_ s_ : Nat} {R_ : Nat → List Nat} (h_ : zBs I_ N_ R_) : zBs (zpst I_ n_ a_ s_) N_ R_ := h_.of (zpst_ne (by simp) (by simp)) (zpst_ne (by simp) (by simp)) (zpst_ne (by simp) (by simp))
theorem zlk1_bs {I_ : zIn} {N_ v_ r_ m_ p_ d_ : Nat} {R_ : Nat → List Nat} {w_ : Int32} (h_ : zBs I_ N_ R_) (hv : v_ < N_) (h1 : p_ ≤ (R_ v_).length) (h2 : p_ < d_) (h3 : d_ ≤ (R_ v_).length + 1) (h4 : (R_ v_).length ≤ 14) : zBs (zlk1 v_ (R_ v_) r_ m_ w_ p_ d_ I_) N_ R_ := by
  have h0 : zBs (zlkT I_ v_ (R_ v_) r_ p_ d_) N_ R_ := h_.try.pst.pst
  unfold zlk1
  split
  · split
    · refine Or.inr ⟨v_, p_, d_, hv, ?_, ?_, ?_, h1, h2, h3, h4⟩
      · unfold zlkB
        rw [zset_ne (by simp), zset_ne (by simp), zset_is]
      · unfold zlkB
        rw [zset_ne (by simp), zset_is]
      · unfold zlkB
        rw [zset_is]
    · exact zBs.fx zmrT_fx h0
  · exact h0
theorem zlkD_bs {N_ v_ r_ m_ p_ : Nat} {R_ : Nat → List Nat} {w_ : Int32} (hv : v_ < N_) (h1 : p_ ≤ (R_ v_).length) (h4 : (R_ v_).length ≤ 14) : ∀ (n_ d_ : Nat) (I_ : zIn), n_ + d_ = (R_ v_).length + 2 → p_ < d_ → zBs I_ N_ R_ → zBs (zlkD v_ (R_ v_) r_ m_ w_ p_ n_ d_ I_) N_ R_
  | 0, _, _, _, _, h_ => h_
  | n_ + 1, d_, I_, hn, hd_, h_ => zlkD_bs hv h1 h4 n_ (d_ + 1) _ (by omega) (by omega) (zlk1_bs h_ hv h1 hd_ (by omega) h4)
theorem zlkP_bs {N_ v_ r_ m_ : Nat} {R_ : Nat → List Nat} {w_ : Int32} (hv : v_ < N_) (h4 : (R_ v_).length ≤ 14) : ∀ (n_ p_ : Nat) (I_ : zIn), n_ + p_ = (R_ v_).length + 1 → zBs I_ N_ R_ → zBs (zlkP v_ (R_ v_) r_ m_ w_ n_ p_ I_) N_ R_
  | 0, _, _, _, h_ => h_
  | n_ + 1, p_, I_, hn, h_ => zlkP_bs hv h4 n_ (p_ + 1) _ (by omega) (zlkD_bs hv (by omega) h4 _ _ _ (by omega) (by omega) h_)
theorem zlkA_bs {I_ : zIn} {N_ v_ r_ m_ : Nat} {R_ : Nat → List Nat} (hv : v_ < N_) (h_ : zBs I_ N_ R_) : zBs (zlkA I_ v_ (R_ v_) r_ m_) N_ R_ := by
  have hF : zlkF I_ v_ ≤ 1 := by unfold zlkF; split <;> omega
  unfold zlkA
  split
  · rename_i hx
    exact zlkP_bs hv hx.2 _ _ _ (by omega) h_.try
  · exact h_.try
def zpuV (R_ : Nat → List Nat) (M_ : Nat → Nat) (r_ : Nat) : Nat → Nat → zIn → zIn
  | 0, _, I_ => I_
  | n_ + 1, v_, I_ => zpuV R_ M_ r_ n_ (v_ + 1) (zlkA I_ v_ (R_ v_) r_ (M_ v_))
theorem zpuV_fz {R_ : Nat → List Nat} {M_ : Nat → Nat} {r_ : Nat} : ∀ (n_ v_ : Nat) (I_ : zIn), zfz (zpuV R_ M_ r_ n_ v_ I_) I_
  | 0, _, _ => zfz.rfl
  | n_ + 1, v_, I_ => (zpuV_fz n_ (v_ + 1) _).trans zlkA_fz
theorem zpuV_bs {R_ : Nat → List Nat} {M_ : Nat → Nat} {r_ N_ : Nat} : ∀ (n_ v_ : Nat) (I_ : zIn), n_ + v_ = N_ → zBs I_ N_ R_ → zBs (zpuV R_ M_ r_ n_ v_ I_) N_ R_
  | 0, _, _, _, h_ => h_
  | n_ + 1, v_, I_, hn, h_ => zpuV_bs n_ (v_ + 1) _ (by omega) (zlkA_bs (by omega) h_)
def zpuW (I_ : zIn) (R_ : Nat → List Nat) (r_ b_ p_ d_ : Nat) : zIn := zset (zkep (zlkT I_ b_ (R_ b_) r_ p_ d_) b_ ((R_ b_).length + 2)) 30 35 r_ (Int32.ofNat b_)
def zpuE (R_ : Nat → List Nat) (r_ : Nat) (I_ : zIn) : Bool × zIn := if I_ 7 0 48 = -1 then (false, I_) else (true, zpuW I_ R_ r_ (I_ 7 0 48).toNatClampNeg (I_ 7 0 49).toNatClampNeg (I_ 7 0 50).toNatClampNeg)
def zputA (I_ : zIn) (N_ : Nat) (R_ : Nat → List Nat) (M_ : Nat → Nat) (r_ : Nat) : Bool × zIn := zpuE R_ r_ (zpuV R_ M_ r_ N_ 0 (zset I_ 7 0 48 (-1)))
theorem zm140l (N_ : Nat) (R_ : Nat → List Nat) (M_ : Nat → Nat) (r_ : Nat) (L_ : zLi) (hN_ : N_ ≤ 4) : ∀ (n_ v_ : Nat) (I_ : zIn), n_ + v_ = N_ → I_ 7 0 11 = Int32.ofNat N_ → (∀ v_, v_ < N_ → zLok I_ v_ (R_ v_) r_ (M_ v_)) → zMq I_ r_ → zBs I_ N_ R_ → zY none 8 140 7 [some (zwR 7 0), some (zwI (Int32.ofNat r_)), some (zwI (Int32.ofNat v_))] [] I_ L_ 0 (zRb ((zpuE R_ r_ (zpuV R_ M_ r_ n_ v_ I_)).1, (zpuE R_ r_ (zpuV R_ M_ r_ n_ v_ I_)).2, L_))
  | 0, v_, I_, hn, h11, hk, hmq, hb_ => by
    refine zY.go 3 rfl ?_
    show zY _ _ _ _ _ [zwI (I_ 7 0 11), zwI (Int32.ofNat v_)] _ _ _ _
    rw [h11]
    refine zY.bn rfl (by omega) (by omega) (fun _ => ?_) (fun hF => absurd (show N_ ≤ v_ by omega) hF)
    refine zY.go 3 rfl ?_
    show zY _ _ _ _ _ _ _ _ _ (zRb ((zpuE R_ r_ I_).1, (zpuE R_ r_ I_).2, L_))
    by_cases hx : I_ 7 0 48 = -1
    · have e_ : zpuE R_ r_ I_ = (false, I_) := if_pos hx
      rw [e_]
      refine zY.bc rfl (fun hp => absurd hx hp) (fun _ => ?_)
      refine zY.go 1 rfl ?_
      exact zY.rb rfl rfl (Or.inl rfl) ⟨rfl, rfl, rfl⟩
    · rcases hb_ with hb_ | ⟨b_, p_, d_, hbN, e48, e49, e50, h1, h2, h3, h4⟩
      · exact absurd hb_ hx
      · have e_ : zpuE R_ r_ I_ = (true, zpuW I_ R_ r_ b_ p_ d_) := by
          unfold zpuE
          rw [if_neg hx, e48, e49, e50, zicl (by omega), zicl (by omega), zicl (by omega)]
        rw [e_]
        obtain ⟨hv, _, hro, hml, hc_, hm3, hO⟩ := hk b_ hbN
        have t0_ := ztry_tr hro
        have hT_ : zTr (zlkT I_ b_ (R_ b_) r_ p_ d_) (zlkL (R_ b_) r_ p_ d_) := zlkT_tr hro hmq.1 h1 h3
        have eL : (zlkL (R_ b_) r_ p_ d_).length = (R_ b_).length + 2 := by
          have e1_ : ((R_ b_).insertIdx p_ (2 * r_)).length = (R_ b_).length + 1 := by rw [List.length_insertIdx, if_pos h1]
          unfold zlkL
          rw [List.length_insertIdx, e1_, if_pos h3]
        have h42 := hT_.1
        rw [eL] at h42
        refine zY.bc rfl (fun _ => ?_) (fun hp => absurd hp (fun h_ => h_ hx))
        refine zY.go 3 rfl ?_
        show zY _ _ _ _ _ [zwI (I_ 7 0 48), zwR 7 0] _ _ _ _
        rw [e48]
        refine zY.cr (zm143 hv hro.2.1 hro.1) rfl rfl rfl rfl (Nat.le_of_ble_eq_true rfl) rfl (by decide) rfl (by decide) (by decide) ?_
        refine zY.go 6 rfl ?_
        show zY _ _ _ _ _ [zwI (2 * Int32.ofNat r_), zwI (ztry I_ b_ (R_ b_).length 7 0 49), zwR 7 0] _ _ _ _
        rw [z2q, ztry_ne (by simp) (by simp), e49]
        refine zY.cr (zm147 (by omega) h1 t0_.1) rfl rfl rfl rfl (Nat.le_of_ble_eq_true rfl) rfl (by decide) rfl (by decide) (by decide) ?_
        refine zY.go 8 rfl ?_
        show zY _ _ _ _ _ [zwI (2 * Int32.ofNat r_ + 1), zwI (zpst (ztry I_ b_ (R_ b_).length) (R_ b_).length p_ (2 * r_) 7 0 50), zwR 7 0] _ _ _ _
        rw [z2q1, zpst_ne (by simp) (by simp), ztry_ne (by simp) (by simp), e50]
        refine zY.cr (zm147 (n_ := (R_ b_).length + 1) (by omega) h3 zset_is) rfl rfl rfl rfl (Nat.le_of_ble_eq_true rfl) rfl (by decide) rfl (by decide) (by decide) ?_
        refine zY.go 3 rfl ?_
        change zY _ _ _ _ _ [zwI (zlkT I_ b_ (R_ b_) r_ p_ d_ 7 0 48), zwR 7 0] (zlkT I_ b_ (R_ b_) r_ p_ d_) _ _ _
        have e48' : zlkT I_ b_ (R_ b_) r_ p_ d_ 7 0 48 = Int32.ofNat b_ := by unfold zlkT; rw [zpst_ne (by simp) (by simp), zpst_ne (by simp) (by simp), ztry_ne (by simp) (by simp), e48]
        rw [e48']
        refine zY.cr (zm157 hv (by omega) h42) rfl rfl rfl rfl (Nat.le_of_ble_eq_true rfl) rfl (by decide) rfl (by decide) (by decide) ?_
        refine zY.go 5 rfl ?_
        show zY _ _ _ _ _ [zwI (zkep (zlkT I_ b_ (R_ b_) r_ p_ d_) b_ ((R_ b_).length + 2) 7 0 48), zwI (Int32.ofNat r_), zwR 30 35] _ _ _ _
        rw [zkep_ne (by simp) (by simp), e48']
        have h60 : r_ < zas30 35 := hmq.1
        refine zY.si rfl rfl h60 ?_
        refine zY.go 1 rfl ?_
        exact zY.rb rfl rfl (Or.inr rfl) ⟨rfl, rfl, rfl⟩
  | n_ + 1, v_, I_, hn, h11, hk, hmq, hb_ => by
    have hz : zfz (zlkA I_ v_ (R_ v_) r_ (M_ v_)) I_ := zlkA_fz
    have ih_ := zm140l N_ R_ M_ r_ L_ hN_ n_ (v_ + 1) (zlkA I_ v_ (R_ v_) r_ (M_ v_)) (by omega) ((hz 7 0 11 (by simp) (by simp)).trans h11) (fun u_ hu => hz.lk (hk u_ hu)) (hz.mq hmq) (zlkA_bs (by omega) hb_)
    refine zY.go 3 rfl ?_
    show zY _ _ _ _ _ [zwI (I_ 7 0 11), zwI (Int32.ofNat v_)] _ _ _ _
    rw [h11]
    refine zY.bn rfl (by omega) (by omega) (fun hT_ => absurd hT_ (show ¬ N_ ≤ v_ by omega)) (fun _ => ?_)
    refine zY.go 3 rfl ?_
    refine zY.cr (zm141 (hk v_ (by omega))) rfl rfl rfl rfl (Nat.le_of_ble_eq_true rfl) rfl (by decide) rfl (by decide) (by decide) ?_
    rw [← zisucc] at ih_
    refine zY.go 2 rfl ?_
    exact ih_
theorem zm140 {I_ : zIn} {L_ : zLi} {N_ r_ : Nat} {R_ : Nat → List Nat} {M_ : Nat → Nat} (hN_ : N_ ≤ 4) (h11 : I_ 7 0 11 = Int32.ofNat N_) (hk : ∀ v_, v_ < N_ → zLok I_ v_ (R_ v_) r_ (M_ v_)) (hmq : zMq I_ r_) : zYm 8 140 [zwR 7 0, zwI (Int32.ofNat r_)] I_ L_ 0 (zRb ((zputA I_ N_ R_ M_ r_).1, (zputA I_ N_ R_ M_ r_).2, L_)) := by
  have hz : zfz (zset I_ 7 0 48 (-1)) I_ := zfz.rfl.set (by decide) (by decide)
  refine zYm.of (Nat.le_of_ble_eq_true rfl) rfl ?_
  refine zY.go 5 rfl ?_
  exact zm140l N_ R_ M_ r_ L_ hN_ N_ 0 (zset I_ 7 0 48 (-1)) (by omega) ((hz 7 0 11 (by simp) (by simp)).trans h11) (fun u_ hu => hz.lk (hk u_ hu)) (hz.mq hmq) (Or.inl zset_is)
