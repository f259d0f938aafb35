/-! CONTRACTS OF THE MODEL: ask -/
def zaqF (y_ z_ w_ : Int32) : Bool := zbt y_ 0 35 && (zbt z_ 0 35 && (zbt w_ 0 600 && decide (¬ y_ = z_)))
theorem zm130r {I_ : zIn} {L_ : zLi} {x_ y_ z_ w_ f_ t_ : Int32} {k6_ k7_ : Option zW} (ht : t_ = 1 ∨ t_ = 2 ∨ t_ = 3) : zY none 11 130 77 [some (zwR 7 0), some (zwI x_), some (zwI y_), some (zwI z_), some (zwI w_), some (zwI f_), k6_, k7_] [zwI t_, zwR 7 0] I_ L_ 0 (zRet (some (zwI 0)) (zset I_ 7 0 0 t_) L_) := by
  refine zY.go 3 rfl ?_
  show zY _ _ _ _ _ [zwI (zset I_ 7 0 0 t_ 7 0 0)] _ _ _ _
  rw [zset_is]
  refine zY.bi rfl (fun hp => ?_) (fun _ => ?_)
  · rcases ht with rfl | rfl | rfl
    · exact absurd hp zle1
    · exact absurd hp zle2
    · exact absurd hp zle3
  · refine zY.go 1 rfl ?_
    exact zY.ri rfl rfl ⟨rfl, rfl, rfl⟩
theorem zm130p {I_ : zIn} {L_ : zLi} {x_ y_ z_ w_ : Int32} {Q_ : zPost} (hT_ : zY none 11 130 39 [some (zwR 7 0), some (zwI x_), some (zwI y_), some (zwI z_), some (zwI w_), none, none, none] [zwI (if zaqF y_ z_ w_ = true then 1 else 0)] I_ L_ 0 Q_) : zYm 11 130 [zwR 7 0, zwI x_, zwI y_, zwI z_, zwI w_] I_ L_ 0 Q_ := by
  have T38 : zaqF y_ z_ w_ = false → zY none 11 130 38 [some (zwR 7 0), some (zwI x_), some (zwI y_), some (zwI z_), some (zwI w_), none, none, none] [] I_ L_ 0 Q_ := by
    intro hf
    rw [hf] at hT_
    refine zY.go 1 rfl ?_
    exact hT_
  refine zYm.of (Nat.le_of_ble_eq_true rfl) rfl ?_
  refine zY.go 2 rfl ?_
  refine zY.cr zm126 rfl rfl rfl rfl (Nat.le_of_ble_eq_true rfl) rfl (by decide) rfl (by decide) (by decide) ?_
  refine zY.we rfl (fun h1 => T38 (by simp [zaqF, h1])) (fun h1 => ?_)
  refine zY.go 2 rfl ?_
  refine zY.cr zm126 rfl rfl rfl rfl (Nat.le_of_ble_eq_true rfl) rfl (by decide) rfl (by decide) (by decide) ?_
  refine zY.we rfl (fun h2 => T38 (by simp [zaqF, h2])) (fun h2 => ?_)
  refine zY.go 4 rfl ?_
  refine zY.cr zm123 rfl rfl rfl rfl (Nat.le_of_ble_eq_true rfl) rfl (by decide) rfl (by decide) (by decide) ?_
  refine zY.we rfl (fun h3 => T38 (by simp [zaqF, h3])) (fun h3 => ?_)
  refine zY.go 2 rfl ?_
  refine zY.bc rfl (fun h4 => T38 (by simp [zaqF, show y_ = z_ from h4])) (fun h4 => ?_)
  have h4' : ¬ y_ = z_ := h4
  rw [show zaqF y_ z_ w_ = true by simp [zaqF, h1, h2, h3, h4']] at hT_
  refine zY.go 2 rfl ?_
  exact hT_
theorem zm130a {I_ : zIn} {L_ : zLi} {x_ y_ z_ w_ : Int32} (hx : zbt x_ 0 (I_ 7 0 6 - 1) = false) : zYm 11 130 [zwR 7 0, zwI x_, zwI y_, zwI z_, zwI w_] I_ L_ 0 (zRet (some (zwI 0)) (zset I_ 7 0 0 1) L_) := by
  refine zm130p ?_
  refine zY.go 4 rfl ?_
  refine zY.cr zm131 rfl rfl rfl rfl (Nat.le_of_ble_eq_true rfl) rfl (by decide) rfl (by decide) (by decide) ?_
  rw [hx]
  refine zY.bi rfl (fun hp => absurd (show (0 : Int32) = 0 from rfl) hp) (fun _ => ?_)
  refine zY.go 2 rfl ?_
  exact zm130r (Or.inl rfl)
theorem zm130b {I_ : zIn} {L_ : zLi} {x_ y_ z_ w_ : Int32} (hx : zbt x_ 0 (I_ 7 0 6 - 1) = true) (hf : zaqF y_ z_ w_ = false) : zYm 11 130 [zwR 7 0, zwI x_, zwI y_, zwI z_, zwI w_] I_ L_ 0 (zRet (some (zwI 0)) (zset I_ 7 0 0 2) L_) := by
  refine zm130p ?_
  rw [hf]
  refine zY.go 4 rfl ?_
  refine zY.cr zm131 rfl rfl rfl rfl (Nat.le_of_ble_eq_true rfl) rfl (by decide) rfl (by decide) (by decide) ?_
  rw [hx]
  refine zY.bi rfl (fun _ => ?_) (fun hp => absurd (show ¬ (1 : Int32) = 0 by decide) hp)
  refine zY.go 1 rfl ?_
  refine zY.bi rfl (fun hp => absurd (show (0 : Int32) = 0 from rfl) hp) (fun _ => ?_)
  refine zY.go 2 rfl ?_
  exact zm130r (Or.inr (Or.inl rfl))
theorem zm130c {I_ : zIn} {L_ : zLi} {x_ y_ z_ w_ : Int32} (hx : zbt x_ 0 (I_ 7 0 6 - 1) = true) (hf : zaqF y_ z_ w_ = true) (h28 : I_ 7 0 28 = Int32.ofNat 60) : zYm 11 130 [zwR 7 0, zwI x_, zwI y_, zwI z_, zwI w_] I_ L_ 0 (zRet (some (zwI 0)) (zset I_ 7 0 0 3) L_) := by
  refine zm130p ?_
  rw [hf]
  refine zY.go 4 rfl ?_
  refine zY.cr zm131 rfl rfl rfl rfl (Nat.le_of_ble_eq_true rfl) rfl (by decide) rfl (by decide) (by decide) ?_
  rw [hx]
  refine zY.bi rfl (fun _ => ?_) (fun hp => absurd (show ¬ (1 : Int32) = 0 by decide) hp)
  refine zY.go 1 rfl ?_
  refine zY.bi rfl (fun _ => ?_) (fun hp => absurd (show ¬ (1 : Int32) = 0 by decide) hp)
  refine zY.go 3 rfl ?_
  show zY _ _ _ _ _ [zwI (Int32.ofNat 60), zwI (I_ 7 0 28), zwR 7 0] _ _ _ _
  rw [h28]
  refine zY.bn rfl (by omega) (by omega) (fun hp => absurd (show 60 = 60 from rfl) hp) (fun _ => ?_)
  refine zY.go 2 rfl ?_
  exact zm130r (Or.inr (Or.inr rfl))
def zak3 (J_ : zIn) (n_ : Nat) (x_ y_ z_ : Int32) : zIn := zset (zset (zset J_ 30 29 n_ x_) 30 30 n_ y_) 30 31 n_ z_
def zak4 (J_ : zIn) (n_ : Nat) (x_ y_ z_ : Int32) : zIn := zset (zak3 J_ n_ x_ y_ z_) 30 39 n_ (zak3 J_ n_ x_ y_ z_ 7 0 1)
def zakZ (J_ : zIn) (n_ : Nat) (x_ y_ z_ : Int32) : zIn := zset (zset (zset (zset (zak4 J_ n_ x_ y_ z_) 30 36 n_ (-1)) 30 37 n_ (-1)) 30 38 n_ (-1)) 30 32 n_ 0
def zakD (K_ : zIn) (n_ : Nat) (w_ : Int32) : zIn := zset (zset (zset (zset K_ 30 32 n_ 6) 30 33 n_ w_) 30 34 n_ (-1)) 30 35 n_ (-1)
def zakE (K_ : zIn) : zIn := zset K_ 7 0 28 (K_ 7 0 28 + 1)
theorem zm130e {K_ : zIn} {L_ : zLi} {n_ : Nat} {x_ y_ z_ w_ f_ v_ : Int32} : zY none 11 130 254 [some (zwR 7 0), some (zwI x_), some (zwI y_), some (zwI z_), some (zwI w_), some (zwI f_), some (zwI (Int32.ofNat n_)), some (zwI v_)] [] K_ L_ 0 (zRet (some (zwI (Int32.ofNat n_))) (zakE K_) L_) := by
  refine zY.go 7 rfl ?_
  exact zY.ri rfl rfl ⟨rfl, rfl, rfl⟩
theorem zm130g {K_ : zIn} {L_ : zLi} {n_ : Nat} {x_ y_ z_ w_ f_ v_ w0_ : Int32} (hn : n_ < 60) (hv : v_ = 1 ∨ v_ = 2 ∨ v_ = 3) : zY none 11 130 213 [some (zwR 7 0), some (zwI x_), some (zwI y_), some (zwI z_), some (zwI w_), some (zwI f_), some (zwI (Int32.ofNat n_)), some (zwI w0_)] [zwI v_] K_ L_ 0 (zRet (some (zwI (Int32.ofNat n_))) (zakE (zakD K_ n_ v_)) L_) := by
  refine zY.go 2 rfl ?_
  refine zY.bi rfl (fun hp => ?_) (fun _ => ?_)
  · rcases hv with rfl | rfl | rfl
    · exact absurd hp zle1
    · exact absurd hp zle2
    · exact absurd hp zle3
  · refine zY.go 4 rfl ?_
    refine zY.si rfl rfl hn ?_
    refine zY.go 4 rfl ?_
    refine zY.si rfl rfl hn ?_
    refine zY.go 4 rfl ?_
    refine zY.si rfl rfl hn ?_
    refine zY.go 4 rfl ?_
    refine zY.si rfl rfl hn ?_
    exact zm130e
/-- the request's row is laid, then the state is handed on -/
theorem zm130h {J_ : zIn} {L_ : zLi} {n_ q_ : Nat} {y_ z_ w_ f_ v_ : Int32} {k7_ : Option zW} {Q_ : zPost} (hn : n_ < 60) (hY : zY none 11 130 193 [some (zwR 7 0), some (zwI (Int32.ofNat q_)), some (zwI y_), some (zwI z_), some (zwI w_), some (zwI f_), some (zwI (Int32.ofNat n_)), some (zwI v_)] [zwI v_] (zakZ J_ n_ (Int32.ofNat q_) y_ z_) L_ 0 Q_) : zY none 11 130 122 [some (zwR 7 0), some (zwI (Int32.ofNat q_)), some (zwI y_), some (zwI z_), some (zwI w_), some (zwI f_), some (zwI (Int32.ofNat n_)), k7_] [zwI v_] J_ L_ 0 Q_ := by
  refine zY.go 5 rfl ?_
  refine zY.si rfl rfl hn ?_
  refine zY.go 4 rfl ?_
  refine zY.si rfl rfl hn ?_
  refine zY.go 4 rfl ?_
  refine zY.si rfl rfl hn ?_
  change zY _ _ _ _ _ _ (zak3 J_ n_ (Int32.ofNat q_) y_ z_) _ _ _
  refine zY.go 5 rfl ?_
  refine zY.si rfl rfl hn ?_
  change zY _ _ _ _ _ _ (zak4 J_ n_ (Int32.ofNat q_) y_ z_) _ _ _
  refine zY.go 4 rfl ?_
  refine zY.si rfl rfl hn ?_
  refine zY.go 4 rfl ?_
  refine zY.si rfl rfl hn ?_
  refine zY.go 4 rfl ?_
  refine zY.si rfl rfl hn ?_
  refine zY.go 4 rfl ?_
  refine zY.si rfl rfl hn ?_
  refine zY.go 1 rfl ?_
  exact hY
def zakM (J_ : zIn) (n_ q_ : Nat) (y_ z_ w_ : Int32) (N_ : Nat) (R_ : Nat → List Nat) (M_ : Nat → Nat) : zIn :=
  if zowM J_ q_ y_ z_ = false then zakE (zakD (zakZ J_ n_ (Int32.ofNat q_) y_ z_) n_ 1)
  else if zsuM J_ q_ n_ = true then zakE (zakD (zakZ J_ n_ (Int32.ofNat q_) y_ z_) n_ 2)
  else if (zpNA (zakZ J_ n_ (Int32.ofNat q_) y_ z_) N_ R_ M_ n_ w_).1 = true then zakE (zpNA (zakZ J_ n_ (Int32.ofNat q_) y_ z_) N_ R_ M_ n_ w_).2
  else zakE (zakD (zpNA (zakZ J_ n_ (Int32.ofNat q_) y_ z_) N_ R_ M_ n_ w_).2 n_ 3)
theorem zm130d {I_ J_ : zIn} {L_ : zLi} {n_ q_ N_ : Nat} {y_ z_ w_ : Int32} {R_ : Nat → List Nat} {M_ : Nat → Nat} (hx : zbt (Int32.ofNat q_) 0 (I_ 7 0 6 - 1) = true) (hq : q_ < 16) (hf : zaqF y_ z_ w_ = true) (h28 : I_ 7 0 28 = Int32.ofNat n_) (hn : n_ < 60) (hJ : zset I_ 7 0 0 0 = J_) (hk : zPk (zakZ J_ n_ (Int32.ofNat q_) y_ z_) N_ R_ M_ n_) : zYm 11 130 [zwR 7 0, zwI (Int32.ofNat q_), zwI y_, zwI z_, zwI w_] I_ L_ 0 (zRet (some (zwI (Int32.ofNat n_))) (zakM J_ n_ q_ y_ z_ w_ N_ R_ M_) L_) := by
  have h' : J_ 7 0 28 = Int32.ofNat n_ := by rw [← hJ]; exact (zset_ne (by simp)).trans h28
  refine zm130p ?_
  rw [hf]
  refine zY.go 4 rfl ?_
  refine zY.cr zm131 rfl rfl rfl rfl (Nat.le_of_ble_eq_true rfl) rfl (by decide) rfl (by decide) (by decide) ?_
  rw [hx]
  refine zY.bi rfl (fun _ => ?_) (fun hp => absurd (show ¬ (1 : Int32) = 0 by decide) hp)
  refine zY.go 1 rfl ?_
  refine zY.bi rfl (fun _ => ?_) (fun hp => absurd (show ¬ (1 : Int32) = 0 by decide) hp)
  refine zY.go 3 rfl ?_
  show zY _ _ _ _ _ [zwI (Int32.ofNat 60), zwI (I_ 7 0 28), zwR 7 0] _ _ _ _
  rw [h28]
  refine zY.bn rfl (by omega) (by omega) (fun _ => ?_) (fun hp => absurd (show ¬ n_ = 60 by omega) hp)
  refine zY.go 4 rfl ?_
  show zY _ _ _ _ _ [zwI (zset I_ 7 0 0 0 7 0 0)] _ _ _ _
  rw [zset_is]
  refine zY.bi rfl (fun _ => ?_) (fun hp => absurd (show (0 : Int32) ≤ 0 by decide) hp)
  rw [hJ]
  refine zY.go 7 rfl ?_
  show zY _ _ _ _ [_, _, _, _, _, _, some (zwI (J_ 7 0 28)), _] _ _ _ _ _
  rw [h']
  refine zY.cr (zm132 hq) rfl rfl rfl rfl (Nat.le_of_ble_eq_true rfl) rfl (by decide) rfl (by decide) (by decide) ?_
  show zY _ _ _ _ _ [zwI (if zowM J_ q_ y_ z_ = true then 1 else 0)] _ _ _ _
  refine zY.wn rfl (fun ho => ?_) (fun ho => ?_)
  · refine zY.go 2 rfl ?_
    refine zY.cr (zm136 (by omega) h') rfl rfl rfl rfl (Nat.le_of_ble_eq_true rfl) rfl (by decide) rfl (by decide) (by decide) ?_
    show zY _ _ _ _ _ [zwI (if zsuM J_ q_ n_ = true then 1 else 0)] _ _ _ _
    refine zY.we rfl (fun hs => ?_) (fun hs => ?_)
    · refine zY.go 1 rfl ?_
      refine zm130h hn ?_
      refine zY.bi rfl (fun hp => absurd (show (0 : Int32) = 0 from rfl) hp) (fun _ => ?_)
      refine zY.go 3 rfl ?_
      refine zY.cr (zm138 hk) rfl rfl rfl rfl (Nat.le_of_ble_eq_true rfl) rfl (by decide) rfl (by decide) (by decide) ?_
      show zY _ _ _ _ _ [zwI (if (zpNA (zakZ J_ n_ (Int32.ofNat q_) y_ z_) N_ R_ M_ n_ w_).1 = true then 1 else 0)] _ _ _ _
      refine zY.wn rfl (fun hp => ?_) (fun hp => ?_)
      · rw [show zakM J_ n_ q_ y_ z_ w_ N_ R_ M_ = zakE (zpNA (zakZ J_ n_ (Int32.ofNat q_) y_ z_) N_ R_ M_ n_ w_).2 by simp [zakM, ho, hs, hp]]
        refine zY.go 3 rfl ?_
        refine zY.bi rfl (fun _ => ?_) (fun hp => absurd (show (0 : Int32) ≤ 0 by decide) hp)
        exact zm130e
      · rw [show zakM J_ n_ q_ y_ z_ w_ N_ R_ M_ = zakE (zakD (zpNA (zakZ J_ n_ (Int32.ofNat q_) y_ z_) N_ R_ M_ n_ w_).2 n_ 3) by simp [zakM, ho, hs, hp]]
        refine zY.go 2 rfl ?_
        exact zm130g hn (Or.inr (Or.inr rfl))
    · rw [show zakM J_ n_ q_ y_ z_ w_ N_ R_ M_ = zakE (zakD (zakZ J_ n_ (Int32.ofNat q_) y_ z_) n_ 2) by simp [zakM, ho, hs]]
      refine zY.go 2 rfl ?_
      refine zm130h hn ?_
      refine zY.bi rfl (fun _ => ?_) (fun hp => absurd (show ¬ (2 : Int32) = 0 by decide) hp)
      refine zY.go 1 rfl ?_
      exact zm130g hn (Or.inr (Or.inl rfl))
  · rw [show zakM J_ n_ q_ y_ z_ w_ N_ R_ M_ = zakE (zakD (zakZ J_ n_ (Int32.ofNat q_) y_ z_) n_ 1) by simp [zakM, ho]]
    refine zY.go 2 rfl ?_
    refine zm130h hn ?_
    refine zY.bi rfl (fun _ => ?_) (fun hp => absurd (show ¬ (1 : Int32) = 0 by decide) hp)
    refine zY.go 1 rfl ?_
    exact zm130g hn (Or.inl rfl)
