/-! CONTRACTS OF THE MODEL: put -/
def zBs (I_ : zIn) (N_ : Nat) (R_ : Nat → List Nat) : Prop := I_ 7 0 48 = -1 ∨ ∃ b_ p_ d_, b_ < N_ ∧ I_ 7 0 48 = Int32.ofNat b_ ∧ I_ 7 0 49 = Int32.ofNat p_ ∧ I_ 7 0 50 = Int32.ofNat d_ ∧ p_ ≤ (R_ b_).length ∧ p_ < d_ ∧ d_ ≤ (R_ b_).length + 1 ∧ (R_ b_).length ≤ 14
theorem zBs.of {J_ I_ : zIn} {N_ : Nat} {R_ : Nat → List Nat} (h_ : zBs I_ N_ R_) (h1 : J_ 7 0 48 = I_ 7 0 48) (h2 : J_ 7 0 49 = I_ 7 0 49) (h3 : J_ 7 0 50 = I_ 7 0 50) : zBs J_ N_ R_ := by
  unfold zBs at *
  rw [h1, h2, h3]
  exact h_
theorem zBs.fx {J_ I_ : zIn} {N_ : Nat} {R_ : Nat → List Nat} (hf : zfx J_ I_) (h_ : zBs I_ N_ R_) : zBs J_ N_ R_ := h_.of (hf _ _ _ (by simp)) (hf _ _ _ (by simp)) (hf _ _ _ (by simp))
theorem zBs.try {I_ : zIn} {N_ v_ n_ : Nat} {R_ : Nat → List Nat} (h_ : zBs I_ N_ R_) : zBs (ztry I_ v_ n_) N_ R_ := h_.of (ztry_ne (by simp) (by simp)) (ztry_ne (by simp) (by simp)) (ztry_ne (by simp) (by simp))
theorem zBs.pst {I_ : zIn} {N_ n_ a_ s_ : Nat} {R_ : Nat → List Nat} (h_ : zBs I_ N_ R_) : zBs (zpst I_ n_ a_ s_) N_ R_ := h_.of (zpst_ne (by simp) (by simp)) (zpst_ne (by simp) (by simp)) (zpst_ne (by simp) (by simp))
theorem zlk1_bs {I_ : zIn} {N_ v_ r_ m_ p_ d_ : Nat} {R_ : Nat → List Nat} {w_ : Int32} (h_ : zBs I_ N_ R_) (hv : v_ < N_) (h1 : p_ ≤ (R_ v_).length) (h2 : p_ < d_) (h3 : d_ ≤ (R_ v_).length + 1) (h4 : (R_ v_).length ≤ 14) : zBs (zlk1 v_ (R_ v_) r_ m_ w_ p_ d_ I_) N_ R_ := by
  have h0 : zBs (zlkT I_ v_ (R_ v_) r_ p_ d_) N_ R_ := h_.try.pst.pst
  unfold zlk1
  split
  · split
    · refine Or.inr ⟨v_, p_, d_, hv, ?_, ?_, ?_, h1, h2, h3, h4⟩
      · unfold zlkB
        rw [zset_ne (by simp), zset_ne (by simp), zset_is]
      · unfold zlkB
        rw [zset_ne (by simp), zset_is]
      · unfold zlkB
        rw [zset_is]
    · exact zBs.fx zmrT_fx h0
  · exact h0
theorem zlkD_bs {N_ v_ r_ m_ p_ : Nat} {R_ : Nat → List Nat} {w_ : Int32} (hv : v_ < N_) (h1 : p_ ≤ (R_ v_).length) (h4 : (R_ v_).length ≤ 14) : ∀ (n_ d_ : Nat) (I_ : zIn), n_ + d_ = (R_ v_).length + 2 → p_ < d_ → zBs I_ N_ R_ → zBs (zlkD v_ (R_ v_) r_ m_ w_ p_ n_ d_ I_) N_ R_
  | 0, _, _, _, _, h_ => h_
  | n_ + 1, d_, I_, hn, hd_, h_ => zlkD_bs hv h1 h4 n_ (d_ + 1) _ (by omega) (by omega) (zlk1_bs h_ hv h1 hd_ (by omega) h4)
theorem zlkP_bs {N_ v_ r_ m_ : Nat} {R_ : Nat → List Nat} {w_ : Int32} (hv : v_ < N_) (h4 : (R_ v_).length ≤ 14) : ∀ (n_ p_ : Nat) (I_ : zIn), n_ + p_ = (R_ v_).length + 1 → zBs I_ N_ R_ → zBs (zlkP v_ (R_ v_) r_ m_ w_ n_ p_ I_) N_ R_
  | 0, _, _, _, h_ => h_
  | n_ + 1, p_, I_, hn, h_ => zlkP_bs hv h4 n_ (p_ + 1) _ (by omega) (zlkD_bs hv (by omega) h4 _ _ _ (by omega) (by omega) h_)
theorem zlkA_bs {I_ : zIn} {N_ v_ r_ m_ : Nat} {R_ : Nat → List Nat} (hv : v_ < N_) (h_ : zBs I_ N_ R_) : zBs (zlkA I_ v_ (R_ v_) r_ m_) N_ R_ := by
  have hF : zlkF I_ v_ ≤ 1 := by unfold zlkF; split <;> omega
  unfold zlkA
  split
  · rename_i hx
    exact zlkP_bs hv hx.2 _ _ _ (by omega) h_.try
  · exact h_.try
def zpuV (R_ : Nat → List Nat) (M_ : Nat → Nat) (r_ : Nat) : Nat → Nat → zIn → zIn
  | 0, _, I_ => I_
  | n_ + 1, v_, I_ => zpuV R_ M_ r_ n_ (v_ + 1) (zlkA I_ v_ (R_ v_) r_ (M_ v_))
theorem zpuV_fz {R_ : Nat → List Nat} {M_ : Nat → Nat} {r_ : Nat} : ∀ (n_ v_ : Nat) (I_ : zIn), zfz (zpuV R_ M_ r_ n_ v_ I_) I_
  | 0, _, _ => zfz.rfl
  | n_ + 1, v_, I_ => (zpuV_fz n_ (v_ + 1) _).trans zlkA_fz
theorem zpuV_bs {R_ : Nat → List Nat} {M_ : Nat → Nat} {r_ N_ : Nat} : ∀ (n_ v_ : Nat) (I_ : zIn), n_ + v_ = N_ → zBs I_ N_ R_ → zBs (zpuV R_ M_ r_ n_ v_ I_) N_ R_
  | 0, _, _, _, h_ => h_
  | n_ + 1, v_, I_, hn, h_ => zpuV_bs n_ (v_ + 1) _ (by omega) (zlkA_bs (by omega) h_)
def zpuW (I_ : zIn) (R_ : Nat → List Nat) (r_ b_ p_ d_ : Nat) : zIn := zset (zkep (zlkT I_ b_ (R_ b_) r_ p_ d_) b_ ((R_ b_).length + 2)) 30 35 r_ (Int32.ofNat b_)
def zpuE (R_ : Nat → List Nat) (r_ : Nat) (I_ : zIn) : Bool × zIn := if I_ 7 0 48 = -1 then (false, I_) else (true, zpuW I_ R_ r_ (I_ 7 0 48).toNatClampNeg (I_ 7 0 49).toNatClampNeg (I_ 7 0 50).toNatClampNeg)
def zputA (I_ : zIn) (N_ : Nat) (R_ : Nat → List Nat) (M_ : Nat → Nat) (r_ : Nat) : Bool × zIn := zpuE R_ r_ (zpuV R_ M_ r_ N_ 0 (zset I_ 7 0 48 (-1)))
