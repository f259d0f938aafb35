/-! CONTRACTS: Search -/
theorem zins_at {j_ t_ : Nat} {l : List Nat} (h_ : j_ ≤ l.length) : (zins j_ t_ l)[j_]? = some t_ := by
  unfold zins
  rw [List.getElem?_append_right (by simp; omega)]
  simp [Nat.min_eq_left h_]
theorem zins_era {j_ t_ : Nat} {l : List Nat} (h_ : j_ ≤ l.length) : (zins j_ t_ l).eraseIdx j_ = l := by
  unfold zins
  rw [List.eraseIdx_append_of_length_le (by simp; omega)]
  simp [Nat.min_eq_left h_]
theorem zirl_ne {v_ c_ i' : Nat} (h_ : ¬ (c_ = 27 ∧ i' = v_)) : ∀ (l : List Nat) (i_ : Nat) (I_ : zIn) (L_ : zLi), (zirl v_ l i_ I_ L_).2.2 c_ i' = L_ c_ i'
  | [], _, _, _ => rfl
  | s_ :: r_, i_, I_, L_ => by
    unfold zirl
    split
    · split
      · rw [zirl_ne h_ r_]; exact zclL_ne h_
      · exact zclL_ne h_
    · rfl
theorem zirt_ne {I_ : zIn} {L_ : zLi} {v_ c_ i_ : Nat} {x_ : Int32} (h_ : ¬ (c_ = 27 ∧ i_ = v_)) : (zirt I_ L_ v_ x_).2.2 c_ i_ = L_ c_ i_ := by
  unfold zirt
  rw [zirl_ne h_]; exact zlup_ne h_
def zkp (I_ : zIn) (v_ : Nat) (g_ : Int32) (i_ j_ : Nat) : zIn := zset (zset (zset (zset I_ 3 0 0 (Int32.ofNat (v_ + 1))) 3 0 1 g_) 3 0 2 (Int32.ofNat i_)) 3 0 3 (Int32.ofNat j_)
theorem zm91 {I_ : zIn} {L_ : zLi} {v_ i_ j_ : Nat} {g_ : Int32} (hv : v_ < 1000) : zYm 1 91 [zwR 3 0, zwR 5 v_, zwI g_, zwI (Int32.ofNat i_), zwI (Int32.ofNat j_)] I_ L_ 0 (zRet none (zkp I_ v_ g_ i_ j_) L_) := by
  refine zYm.of (Nat.le_of_ble_eq_true rfl) rfl ?_
  refine zY.go 2 rfl ?_
  refine zY.pv rfl hv ?_
  refine zY.go 9 rfl ?_
  exact zY.rv rfl rfl ⟨rfl, rfl, rfl⟩
def zgw (I_ : zIn) (v_ t_ j_ : Nat) (bf : Int32) (l1 : List Nat) : Int32 := zdrv I_ (zins j_ t_ l1) (I_ 5 v_ 11) (I_ 5 v_ 1) - bf
def zin1 (v_ t_ : Nat) (x_ bf : Int32) (l1 : List Nat) (i_ : Nat) : Nat → Nat → zIn → zLi → zIn × zLi
  | 0, _, I_, L_ => (I_, L_)
  | n_ + 1, j_, I_, L_ =>
    if I_ 3 0 0 = 0 ∨ zgw I_ v_ t_ j_ bf l1 < I_ 3 0 1 then
      zin1 v_ t_ x_ bf l1 i_ n_ (j_ + 1) (if (zirt I_ (zlup L_ 24 v_ (zins j_ t_ l1)) v_ x_).1 = true then zkp (zirt I_ (zlup L_ 24 v_ (zins j_ t_ l1)) v_ x_).2.1 v_ (zgw I_ v_ t_ j_ bf l1) i_ j_ else (zirt I_ (zlup L_ 24 v_ (zins j_ t_ l1)) v_ x_).2.1) (zlup (zirt I_ (zlup L_ 24 v_ (zins j_ t_ l1)) v_ x_).2.2 24 v_ l1)
    else zin1 v_ t_ x_ bf l1 i_ n_ (j_ + 1) I_ L_
section
variable {v_ p_ t_ N_ i_ : Nat} {x_ bf : Int32} {l1 : List Nat} {Q_ : zPost}
theorem zm90a {j_ : Nat} {I_ : zIn} {L_ : zLi} {k_ : Option zW} (h24 : L_ 24 v_ = zins j_ t_ l1) (hj : j_ ≤ l1.length) (hY : zY none 10 90 61 [some (zwR 3 0), some (zwR 5 v_), some (zwR 4 p_), some (zwR 4 t_), some (zwI x_), some (zwR 24 v_), some (zwI bf), some (zwI (Int32.ofNat N_)), some (zwI (Int32.ofNat i_)), some (zwI (Int32.ofNat (j_ + 1))), k_] [] I_ (zlup L_ 24 v_ l1) 0 Q_) : zY none 10 90 123 [some (zwR 3 0), some (zwR 5 v_), some (zwR 4 p_), some (zwR 4 t_), some (zwI x_), some (zwR 24 v_), some (zwI bf), some (zwI (Int32.ofNat N_)), some (zwI (Int32.ofNat i_)), some (zwI (Int32.ofNat (j_))), k_] [] I_ L_ 0 Q_ := by
  refine zY.go 2 rfl ?_
  refine zY.cr (w_rem (k_ := j_) rfl (show (L_ 24 v_)[j_]? = some t_ by rw [h24]; exact zins_at hj)) rfl rfl rfl rfl (Nat.le_of_ble_eq_true rfl) rfl (by decide) rfl (by decide) (by decide) ?_
  refine zY.go 3 rfl ?_
  rw [h24, zins_era hj]
  rw [← zisucc] at hY
  exact hY
theorem zm90b {j_ : Nat} {I_ : zIn} {L_ : zLi} {g_ : Int32} (hv : v_ < 1000) (h24 : L_ 24 v_ = zins j_ t_ l1) (hj : j_ ≤ l1.length) (hn : (L_ 26 v_).length + (L_ 24 v_).length < 500)
    (hY : zY none 10 90 61 [some (zwR 3 0), some (zwR 5 v_), some (zwR 4 p_), some (zwR 4 t_), some (zwI x_), some (zwR 24 v_), some (zwI bf), some (zwI (Int32.ofNat N_)), some (zwI (Int32.ofNat i_)), some (zwI (Int32.ofNat (j_ + 1))), some (zwI g_)] [] (if (zirt I_ L_ v_ x_).1 = true then zkp (zirt I_ L_ v_ x_).2.1 v_ g_ i_ j_ else (zirt I_ L_ v_ x_).2.1) (zlup (zirt I_ L_ v_ x_).2.2 24 v_ l1) 0 Q_) : zY none 10 90 103 [some (zwR 3 0), some (zwR 5 v_), some (zwR 4 p_), some (zwR 4 t_), some (zwI x_), some (zwR 24 v_), some (zwI bf), some (zwI (Int32.ofNat N_)), some (zwI (Int32.ofNat i_)), some (zwI (Int32.ofNat (j_))), some (zwI g_)] [] I_ L_ 0 Q_ := by
  have h24' : (zirt I_ L_ v_ x_).2.2 24 v_ = zins j_ t_ l1 := (zirt_ne (by simp)).trans h24
  refine zY.go 2 rfl ?_
  refine zY.cr (zm100 hn) rfl rfl rfl rfl (Nat.le_of_ble_eq_true rfl) rfl (by decide) rfl (by decide) (by decide) ?_
  refine zY.bi rfl (fun hp109 => ?_) (fun hp109 => ?_)
  · rw [if_neg (by rw [zb_eq0.mp hp109]; decide)] at hY
    exact zm90a h24' hj hY
  · have hb_ : (zirt I_ L_ v_ x_).1 = true := by
      cases h_ : (zirt I_ L_ v_ x_).1
      · exact absurd (zb_eq0.mpr h_) hp109
      · rfl
    rw [if_pos hb_] at hY
    refine zY.go 5 rfl ?_
    refine zY.cr (zm91 hv) rfl rfl rfl rfl (Nat.le_of_ble_eq_true rfl) rfl (by decide) rfl (by decide) (by decide) ?_
    exact zm90a h24' hj hY
theorem zm90i (hv : v_ < 1000) (hl1 : l1.length = N_ + 1) (hN_ : N_ ≤ 300) : ∀ (n_ j_ : Nat) (I_ : zIn) (L_ : zLi) (k_ : Option zW), j_ + n_ = N_ + 2 → L_ 24 v_ = l1 → (L_ 26 v_).length ≤ 150 → (∀ k_, zY none 10 90 137 [some (zwR 3 0), some (zwR 5 v_), some (zwR 4 p_), some (zwR 4 t_), some (zwI x_), some (zwR 24 v_), some (zwI bf), some (zwI (Int32.ofNat N_)), some (zwI (Int32.ofNat i_)), some (zwI (Int32.ofNat (N_ + 2))), k_] [] (zin1 v_ t_ x_ bf l1 i_ n_ j_ I_ L_).1 (zin1 v_ t_ x_ bf l1 i_ n_ j_ I_ L_).2 0 Q_) → zY none 10 90 61 [some (zwR 3 0), some (zwR 5 v_), some (zwR 4 p_), some (zwR 4 t_), some (zwI x_), some (zwR 24 v_), some (zwI bf), some (zwI (Int32.ofNat N_)), some (zwI (Int32.ofNat i_)), some (zwI (Int32.ofNat (j_))), k_] [] I_ L_ 0 Q_
  | 0, j_, I_, L_, k_, hj, h24, h26, hX => by
    have : j_ = N_ + 2 := by omega
    subst this
    refine zY.go 4 rfl ?_
    show zY _ _ _ _ _ [zwI (Int32.ofNat N_ + 1), zwI (Int32.ofNat (N_ + 2))] _ _ _ _
    rw [zisucc]
    refine zY.bn rfl (by omega) (by omega) (fun _ => hX k_) (fun h_ => absurd (show N_ + 1 < N_ + 2 by omega) h_)
  | n_ + 1, j_, I_, L_, k_, hj, h24, h26, hX => by
    refine zY.go 4 rfl ?_
    show zY _ _ _ _ _ [zwI (Int32.ofNat N_ + 1), zwI (Int32.ofNat j_)] _ _ _ _
    rw [zisucc]
    refine zY.bn rfl (by omega) (by omega) (fun h_ => absurd h_ (show ¬ N_ + 1 < j_ by omega)) (fun _ => ?_)
    have ih_ := fun (I_ : zIn) (L_ : zLi) k_ h1 h2 h3 => zm90i hv hl1 hN_ n_ (j_ + 1) I_ L_ k_ (by omega) h1 h2 h3
    have e2_ : zlup L_ 24 v_ (zins j_ t_ l1) 24 v_ = zins j_ t_ l1 := zlup_self
    have e26_ : zlup L_ 24 v_ (zins j_ t_ l1) 26 v_ = L_ 26 v_ := zlup_ne (by simp)
    refine zY.go 3 rfl ?_
    refine zY.cr (w_addi (k_ := j_) rfl (by rw [h24]; omega) (by rw [h24]; omega)) rfl rfl rfl rfl (Nat.le_of_ble_eq_true rfl) rfl (by decide) rfl (by decide) (by decide) ?_
    rw [h24]
    show zY _ _ _ _ _ _ _ (zlup L_ 24 v_ (zins j_ t_ l1)) _ _
    refine zY.go 1 rfl ?_
    refine zY.cr zm98 rfl rfl rfl rfl (Nat.le_of_ble_eq_true rfl) rfl (by decide) rfl (by decide) (by decide) ?_
    rw [e2_]
    refine zY.go 5 rfl ?_
    show zY _ _ _ _ [some (zwR 3 0), some (zwR 5 v_), some (zwR 4 p_), some (zwR 4 t_), some (zwI x_), some (zwR 24 v_), some (zwI bf), some (zwI (Int32.ofNat N_)), some (zwI (Int32.ofNat i_)), some (zwI (Int32.ofNat (j_))), some (zwI (zgw I_ v_ t_ j_ bf l1))] [if I_ 3 0 0 = 0 then zwK 0 else zwR 5 ((I_ 3 0 0).toNatClampNeg - 1)] _ _ _ _
    have hn : (zlup L_ 24 v_ (zins j_ t_ l1) 26 v_).length + (zlup L_ 24 v_ (zins j_ t_ l1) 24 v_).length < 500 := by
      rw [e2_, e26_, zins_len (by omega)]; omega
    have h26' : ∀ r_, ((zlup (zirt I_ (zlup L_ 24 v_ (zins j_ t_ l1)) v_ x_).2.2 24 v_ r_) 26 v_).length ≤ 150 := by
      intro r_
      rw [zlup_ne (by simp), zirt_ne (by simp), e26_]; exact h26
    by_cases h0 : I_ 3 0 0 = 0
    · rw [if_pos h0]
      refine zY.bk (t_ := true) rfl rfl (fun _ => rfl) ?_
      unfold zin1 at hX
      simp only [if_pos (Or.inl h0 : I_ 3 0 0 = 0 ∨ zgw I_ v_ t_ j_ bf l1 < I_ 3 0 1)] at hX
      exact zm90b hv e2_ (by omega) hn (ih_ _ _ _ zlup_self (h26' _) hX)
    · rw [if_neg h0]
      refine zY.bk (t_ := false) rfl rfl (fun _ => rfl) ?_
      refine zY.go 3 rfl ?_
      refine zY.bc rfl (fun hp100 => ?_) (fun hp100 => ?_)
      · unfold zin1 at hX
        simp only [if_neg (fun h_ => h_.elim h0 (fun h2 => absurd hp100 (Int32.not_le.mpr h2)) : ¬ (I_ 3 0 0 = 0 ∨ zgw I_ v_ t_ j_ bf l1 < I_ 3 0 1))] at hX
        refine zm90a e2_ (by omega) ?_
        rw [zlup_same, show zlup L_ 24 v_ l1 = L_ by rw [← h24]; exact zlup_id]
        exact ih_ _ _ _ h24 h26 hX
      · unfold zin1 at hX
        simp only [if_pos (Or.inr (Int32.not_le.mp hp100) : I_ 3 0 0 = 0 ∨ zgw I_ v_ t_ j_ bf l1 < I_ 3 0 1)] at hX
        exact zm90b hv e2_ (by omega) hn (ih_ _ _ _ zlup_self (h26' _) hX)
end

