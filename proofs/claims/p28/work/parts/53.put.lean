/-! CONTRACTS: Search, all of a route and all routes -/
theorem zin1_ne {v_ t_ i_ : Nat} {x_ bf : Int32} {l1 : List Nat} : ∀ (n_ j_ : Nat) (I_ : zIn) (L_ : zLi), L_ 24 v_ = l1 → (zin1 v_ t_ x_ bf l1 i_ n_ j_ I_ L_).2 24 v_ = l1 ∧ ∀ c_ i', ¬ (c_ = 24 ∧ i' = v_) → ¬ (c_ = 27 ∧ i' = v_) → (zin1 v_ t_ x_ bf l1 i_ n_ j_ I_ L_).2 c_ i' = L_ c_ i'
  | 0, _, _, _, h_ => ⟨h_, fun _ _ _ _ => rfl⟩
  | n_ + 1, j_, I_, L_, h_ => by
    unfold zin1
    split
    · obtain ⟨h1, h2⟩ := zin1_ne (v_ := v_) (t_ := t_) (i_ := i_) (x_ := x_) (bf := bf) (l1 := l1) n_ (j_ + 1) (if (zirt I_ (zlup L_ 24 v_ (zins j_ t_ l1)) v_ x_).1 = true then zkp (zirt I_ (zlup L_ 24 v_ (zins j_ t_ l1)) v_ x_).2.1 v_ (zgw I_ v_ t_ j_ bf l1) i_ j_ else (zirt I_ (zlup L_ 24 v_ (zins j_ t_ l1)) v_ x_).2.1) (zlup (zirt I_ (zlup L_ 24 v_ (zins j_ t_ l1)) v_ x_).2.2 24 v_ l1) zlup_self
      refine ⟨h1, fun c_ i' a_ b_ => ?_⟩
      rw [h2 c_ i' a_ b_, zlup_ne a_, zirt_ne b_, zlup_ne a_]
    · exact zin1_ne n_ (j_ + 1) I_ L_ h_
def zin2 (v_ p_ t_ : Nat) (x_ bf : Int32) (l : List Nat) : Nat → Nat → zIn → zLi → zIn × zLi
  | 0, _, I_, L_ => (I_, L_)
  | n_ + 1, i_, I_, L_ => zin2 v_ p_ t_ x_ bf l n_ (i_ + 1) (zin1 v_ t_ x_ bf (zins i_ p_ l) i_ (l.length + 1 - i_) (i_ + 1) I_ (zlup L_ 24 v_ (zins i_ p_ l))).1 (zlup (zin1 v_ t_ x_ bf (zins i_ p_ l) i_ (l.length + 1 - i_) (i_ + 1) I_ (zlup L_ 24 v_ (zins i_ p_ l))).2 24 v_ l)
theorem zin2_ne {v_ p_ t_ : Nat} {x_ bf : Int32} {l : List Nat} : ∀ (n_ i_ : Nat) (I_ : zIn) (L_ : zLi), L_ 24 v_ = l → (zin2 v_ p_ t_ x_ bf l n_ i_ I_ L_).2 24 v_ = l ∧ ∀ c_ i', ¬ (c_ = 24 ∧ i' = v_) → ¬ (c_ = 27 ∧ i' = v_) → (zin2 v_ p_ t_ x_ bf l n_ i_ I_ L_).2 c_ i' = L_ c_ i'
  | 0, _, _, _, h_ => ⟨h_, fun _ _ _ _ => rfl⟩
  | n_ + 1, i_, I_, L_, h_ => by
    unfold zin2
    obtain ⟨h1, h2⟩ := zin2_ne (v_ := v_) (p_ := p_) (t_ := t_) (x_ := x_) (bf := bf) (l := l) n_ (i_ + 1) (zin1 v_ t_ x_ bf (zins i_ p_ l) i_ (l.length + 1 - i_) (i_ + 1) I_ (zlup L_ 24 v_ (zins i_ p_ l))).1 (zlup (zin1 v_ t_ x_ bf (zins i_ p_ l) i_ (l.length + 1 - i_) (i_ + 1) I_ (zlup L_ 24 v_ (zins i_ p_ l))).2 24 v_ l) zlup_self
    refine ⟨h1, fun c_ i' a_ b_ => ?_⟩
    rw [h2 c_ i' a_ b_, zlup_ne a_, (zin1_ne _ _ _ _ zlup_self).2 c_ i' a_ b_, zlup_ne a_]
theorem zm90o {v_ p_ t_ : Nat} {x_ bf : Int32} {l : List Nat} (hv : v_ < 1000) (hN_ : l.length ≤ 200) : ∀ (n_ i_ : Nat) (I_ : zIn) (L_ : zLi) (k_ k2_ : Option zW), i_ + n_ = l.length + 1 → L_ 24 v_ = l → (L_ 26 v_).length ≤ 150 → zY none 10 90 40 [some (zwR 3 0), some (zwR 5 v_), some (zwR 4 p_), some (zwR 4 t_), some (zwI x_), some (zwR 24 v_), some (zwI bf), some (zwI (Int32.ofNat l.length)), some (zwI (Int32.ofNat i_)), k_, k2_] [] I_ L_ 0 (zRet none (zin2 v_ p_ t_ x_ bf l n_ i_ I_ L_).1 (zin2 v_ p_ t_ x_ bf l n_ i_ I_ L_).2)
  | 0, i_, I_, L_, k_, k2_, hi_, h24, h26 => by
    refine zY.go 2 rfl ?_
    refine zY.bn rfl (by omega) (by omega) (fun _ => ?_) (fun h_ => absurd (show l.length < i_ by omega) h_)
    exact zY.rv rfl rfl ⟨rfl, rfl, rfl⟩
  | n_ + 1, i_, I_, L_, k_, k2_, hi_, h24, h26 => by
    have ih_ := fun (I_ : zIn) (L_ : zLi) k_ k2_ h1 h2 => zm90o (p_ := p_) (t_ := t_) (x_ := x_) (bf := bf) hv hN_ n_ (i_ + 1) I_ L_ k_ k2_ (by omega) h1 h2
    simp only [← zisucc] at ih_
    have e26_ : zlup L_ 24 v_ (zins i_ p_ l) 26 v_ = L_ 26 v_ := zlup_ne (by simp)
    refine zY.go 2 rfl ?_
    refine zY.bn rfl (by omega) (by omega) (fun h_ => absurd h_ (show ¬ l.length < i_ by omega)) (fun _ => ?_)
    refine zY.go 3 rfl ?_
    refine zY.cr (w_addi (k_ := i_) rfl (by rw [h24]; omega) (by rw [h24]; omega)) rfl rfl rfl rfl (Nat.le_of_ble_eq_true rfl) rfl (by decide) rfl (by decide) (by decide) ?_
    rw [h24]
    show zY _ _ _ _ _ _ _ (zlup L_ 24 v_ (zins i_ p_ l)) _ _
    refine zY.go 4 rfl ?_
    show zY _ _ _ _ [some (zwR 3 0), some (zwR 5 v_), some (zwR 4 p_), some (zwR 4 t_), some (zwI x_), some (zwR 24 v_), some (zwI bf), some (zwI (Int32.ofNat l.length)), some (zwI (Int32.ofNat i_)), some (zwI (Int32.ofNat i_ + 1)), k2_] _ _ _ _ _
    rw [zisucc]
    refine zm90i (N_ := l.length) (l1 := zins i_ p_ l) hv (zins_len (by omega)) (by omega) (l.length + 1 - i_) (i_ + 1) I_ (zlup L_ 24 v_ (zins i_ p_ l)) k2_ (by omega) zlup_self (by rw [e26_]; exact h26) (fun k3_ => ?_)
    obtain ⟨g1, g2⟩ := zin1_ne (v_ := v_) (t_ := t_) (i_ := i_) (x_ := x_) (bf := bf) (l1 := zins i_ p_ l) (l.length + 1 - i_) (i_ + 1) I_ (zlup L_ 24 v_ (zins i_ p_ l)) zlup_self
    refine zY.go 2 rfl ?_
    refine zY.cr (w_rem (k_ := i_) rfl (show (_ : List Nat)[i_]? = some p_ by rw [g1]; exact zins_at (by omega))) rfl rfl rfl rfl (Nat.le_of_ble_eq_true rfl) rfl (by decide) rfl (by decide) (by decide) ?_
    refine zY.go 3 rfl ?_
    rw [g1, zins_era (by omega)]
    exact ih_ _ _ _ _ zlup_self (by rw [zlup_ne (by simp), g2 _ _ (by simp) (by simp), e26_]; exact h26)
def zfo (I_ : zIn) (v_ : Nat) : Nat := if I_ 5 v_ 10 = 0 then 0 else 1
def ztr1 (I_ : zIn) (L_ : zLi) (v_ p_ t_ : Nat) (x_ : Int32) : zIn × zLi :=
  if zmay I_ L_ v_ (I_ 1 (p_ / 2) 0).toNatClampNeg = true then zin2 v_ p_ t_ x_ (zdrv I_ (L_ 24 v_) (I_ 5 v_ 11) (I_ 5 v_ 1)) (L_ 24 v_) ((L_ 24 v_).length + 1 - zfo I_ v_) (zfo I_ v_) I_ L_ else (I_, L_)
theorem zm90 {I_ : zIn} {L_ : zLi} {v_ p_ t_ : Nat} {x_ : Int32} (hn : (L_ 24 v_).length ≤ 200) (h26 : (L_ 26 v_).length ≤ 150) : zYm 10 90 [zwR 3 0, zwR 5 v_, zwR 4 p_, zwR 4 t_, zwI x_] I_ L_ 0 (zRet none (ztr1 I_ L_ v_ p_ t_ x_).1 (ztr1 I_ L_ v_ p_ t_ x_).2) := by
  refine zYm.inv (fun hi_ hw => ?_)
  have hx := hi_.veh (v_ := v_) (hw (zwR 5 v_) (by simp))
  refine zYm.of (Nat.le_of_ble_eq_true rfl) rfl ?_
  refine zY.go 4 rfl ?_
  refine zY.cr zm97 rfl rfl rfl rfl (Nat.le_of_ble_eq_true rfl) rfl (by decide) rfl (by decide) (by decide) ?_
  unfold ztr1
  refine zY.bi rfl (fun hp11 => ?_) (fun hp11 => ?_)
  · rw [if_pos (zb_ne0.mp hp11)]
    refine zY.go 4 rfl ?_
    refine zY.cr zm98 rfl rfl rfl rfl (Nat.le_of_ble_eq_true rfl) rfl (by decide) rfl (by decide) (by decide) ?_
    refine zY.go 5 rfl ?_
    refine zY.cr zm99 rfl rfl rfl rfl (Nat.le_of_ble_eq_true rfl) rfl (by decide) rfl (by decide) (by decide) ?_
    refine zY.go 1 rfl ?_
    have hf : (if I_ 5 v_ 10 = 0 then (0 : Int32) else 1) = Int32.ofNat (zfo I_ v_) := by
      unfold zfo; split <;> rfl
    have hf1 : zfo I_ v_ ≤ 1 := by unfold zfo; split <;> omega
    have := zm90o (v_ := v_) (p_ := p_) (t_ := t_) (x_ := x_) (bf := zdrv I_ (L_ 24 v_) (I_ 5 v_ 11) (I_ 5 v_ 1)) (l := L_ 24 v_) (by omega) hn ((L_ 24 v_).length + 1 - zfo I_ v_) (zfo I_ v_) I_ L_ none none (by omega) rfl h26
    rw [← hf] at this
    exact this
  · rw [if_neg (fun h_ => hp11 (zb_ne0.mpr h_))]
    exact zY.rv rfl rfl ⟨rfl, rfl, rfl⟩
/-- the vehicles one by one -/
def zptl (p_ t_ : Nat) (x_ : Int32) : List Nat → zIn → zLi → zIn × zLi
  | [], I_, L_ => (I_, L_)
  | v_ :: r_, I_, L_ => zptl p_ t_ x_ r_ (ztr1 I_ L_ v_ p_ t_ x_).1 (ztr1 I_ L_ v_ p_ t_ x_).2
theorem ztr1_ne {I_ : zIn} {L_ : zLi} {v_ p_ t_ : Nat} {x_ : Int32} {c_ i_ : Nat} (h_ : ¬ (c_ = 27 ∧ i_ = v_)) : (ztr1 I_ L_ v_ p_ t_ x_).2 c_ i_ = L_ c_ i_ := by
  unfold ztr1
  split
  · obtain ⟨h1, h2⟩ := zin2_ne (v_ := v_) (p_ := p_) (t_ := t_) (x_ := x_) (bf := zdrv I_ (L_ 24 v_) (I_ 5 v_ 11) (I_ 5 v_ 1)) (l := L_ 24 v_) ((L_ 24 v_).length + 1 - zfo I_ v_) (zfo I_ v_) I_ L_ rfl
    by_cases h3 : c_ = 24 ∧ i_ = v_
    · obtain ⟨rfl, rfl⟩ := h3; exact h1
    · exact h2 c_ i_ h3 h_
  · rfl
theorem zptl_ne {p_ t_ : Nat} {x_ : Int32} {c_ i_ : Nat} (h_ : ¬ c_ = 27) : ∀ (l : List Nat) (I_ : zIn) (L_ : zLi), (zptl p_ t_ x_ l I_ L_).2 c_ i_ = L_ c_ i_
  | [], _, _ => rfl
  | v_ :: r_, I_, L_ => by
    unfold zptl
    rw [zptl_ne h_ r_, ztr1_ne (fun e_ => h_ e_.1)]
/-- putBest: the route where it counts -/
def zpb (I_ : zIn) (L_ : zLi) (p_ t_ : Nat) (x_ : Int32) : Bool × (zIn × zLi) :=
  if (zptl p_ t_ x_ (L_ 21 0) (zset I_ 3 0 0 0) L_).1 3 0 0 = 0 then (false, zptl p_ t_ x_ (L_ 21 0) (zset I_ 3 0 0 0) L_)
  else (true, zset (zptl p_ t_ x_ (L_ 21 0) (zset I_ 3 0 0 0) L_).1 1 (p_ / 2) 8 (Int32.ofNat (((zptl p_ t_ x_ (L_ 21 0) (zset I_ 3 0 0 0) L_).1 3 0 0).toNatClampNeg - 1)),
    zlup (zptl p_ t_ x_ (L_ 21 0) (zset I_ 3 0 0 0) L_).2 24 (((zptl p_ t_ x_ (L_ 21 0) (zset I_ 3 0 0 0) L_).1 3 0 0).toNatClampNeg - 1) (zins ((zptl p_ t_ x_ (L_ 21 0) (zset I_ 3 0 0 0) L_).1 3 0 3).toNatClampNeg t_ (zins ((zptl p_ t_ x_ (L_ 21 0) (zset I_ 3 0 0 0) L_).1 3 0 2).toNatClampNeg p_ (L_ 24 (((zptl p_ t_ x_ (L_ 21 0) (zset I_ 3 0 0 0) L_).1 3 0 0).toNatClampNeg - 1)))))

