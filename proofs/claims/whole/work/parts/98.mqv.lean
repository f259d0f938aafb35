/-! CONTRACTS OF THE MODEL: vehicleOf, stopOf, drive -/
theorem zm181r {I_ : zIn} {L_ : zLi} {x_ y_ t_ : Int32} (ht : t_ = 1 ∨ t_ = 2) : zY none 7 181 29 [some (zwR 7 0), some (zwI x_), some (zwI y_)] [zwI t_, zwR 7 0] I_ L_ 0 (zRet (some (zwI 0)) (zset I_ 7 0 0 t_) L_) := by
  refine zY.go 3 rfl ?_
  show zY _ _ _ _ _ [zwI (zset I_ 7 0 0 t_ 7 0 0)] _ _ _ _
  rw [zset_is]
  refine zY.bi rfl (fun hp => ?_) (fun _ => ?_)
  · rcases ht with rfl | rfl
    · exact absurd hp zle1
    · exact absurd hp zle2
  · refine zY.go 1 rfl ?_
    exact zY.ri rfl rfl ⟨rfl, rfl, rfl⟩
theorem zm181a {I_ : zIn} {L_ : zLi} {x_ y_ : Int32} (hx : zbt x_ 0 (I_ 7 0 11 - 1) = false) : zYm 7 181 [zwR 7 0, zwI x_, zwI y_] I_ L_ 0 (zRet (some (zwI 0)) (zset I_ 7 0 0 1) L_) := by
  refine zYm.of (Nat.le_of_ble_eq_true rfl) rfl ?_
  refine zY.go 3 rfl ?_
  refine zY.cr zm129 rfl rfl rfl rfl (Nat.le_of_ble_eq_true rfl) rfl (by decide) rfl (by decide) (by decide) ?_
  rw [hx]
  refine zY.bi rfl (fun hp => absurd (show (0 : Int32) = 0 from rfl) hp) (fun _ => ?_)
  refine zY.go 2 rfl ?_
  exact zm181r (Or.inl rfl)
theorem zm181b {I_ : zIn} {L_ : zLi} {x_ y_ : Int32} (hx : zbt x_ 0 (I_ 7 0 11 - 1) = true) (hy : zbt y_ 0 8 = false) : zYm 7 181 [zwR 7 0, zwI x_, zwI y_] I_ L_ 0 (zRet (some (zwI 0)) (zset I_ 7 0 0 2) L_) := by
  refine zYm.of (Nat.le_of_ble_eq_true rfl) rfl ?_
  refine zY.go 3 rfl ?_
  refine zY.cr zm129 rfl rfl rfl rfl (Nat.le_of_ble_eq_true rfl) rfl (by decide) rfl (by decide) (by decide) ?_
  rw [hx]
  refine zY.bi rfl (fun _ => ?_) (fun hp => absurd (show ¬ (1 : Int32) = 0 by decide) hp)
  refine zY.go 4 rfl ?_
  refine zY.cr zm123 rfl rfl rfl rfl (Nat.le_of_ble_eq_true rfl) rfl (by decide) rfl (by decide) (by decide) ?_
  rw [hy]
  refine zY.bi rfl (fun hp => absurd (show (0 : Int32) = 0 from rfl) hp) (fun _ => ?_)
  refine zY.go 2 rfl ?_
  exact zm181r (Or.inr rfl)
def zvoM (K_ : zIn) (v_ : Nat) (l : List Nat) (m_ : Nat) : Nat → Int32 × zIn
  | 0 => (K_ 30 17 v_, K_)
  | 1 => (K_ 30 18 v_, K_)
  | 2 => (Int32.ofNat l.length, K_)
  | 3 => (K_ 30 23 v_, K_)
  | 4 => (K_ 30 25 v_, K_)
  | 5 => (zbo (K_ 31 19 v_), K_)
  | 6 => (zbo (K_ 31 16 v_), K_)
  | 7 => (if l = [] then -1 else zmba (zpln K_ v_ l) v_ l, zpln K_ v_ l)
  | _ => (if (zmrT K_ v_ l m_).1 = true then 1 else 0, (zmrT K_ v_ l m_).2)
theorem zm181c {I_ J_ K_ : zIn} {L_ : zLi} {v_ k_ m_ : Nat} {l : List Nat} (hv : v_ < 4) (hx : zbt (Int32.ofNat v_) 0 (I_ 7 0 11 - 1) = true) (hy : zbt (Int32.ofNat k_) 0 8 = true) (hk : k_ ≤ 8) (hJ : zset I_ 7 0 0 0 = J_) (hro : zRo J_ v_ l) (hK_ : ztry J_ v_ l.length = K_) (hm_ : ∀ s_ ∈ l, zMq J_ (s_ / 2)) (hc_ : J_ 30 25 v_ = Int32.ofNat m_) (hm3 : m_ ≤ 3) (hO : zmrO J_ l m_) : zYm 7 181 [zwR 7 0, zwI (Int32.ofNat v_), zwI (Int32.ofNat k_)] I_ L_ 0 (zRet (some (zwI (zvoM K_ v_ l m_ k_).1)) (zvoM K_ v_ l m_ k_).2 L_) := by
  have fz : zfz K_ J_ := hK_ ▸ zfz.try zfz.rfl
  have htr : zTr K_ l := hK_ ▸ ztry_tr hro
  have hmK : ∀ s_ ∈ l, zMq K_ (s_ / 2) := fun s_ hs => fz.mq (hm_ s_ hs)
  refine zYm.of (Nat.le_of_ble_eq_true rfl) rfl ?_
  refine zY.go 3 rfl ?_
  refine zY.cr zm129 rfl rfl rfl rfl (Nat.le_of_ble_eq_true rfl) rfl (by decide) rfl (by decide) (by decide) ?_
  rw [hx]
  refine zY.bi rfl (fun _ => ?_) (fun hp => absurd (show ¬ (1 : Int32) = 0 by decide) hp)
  refine zY.go 4 rfl ?_
  refine zY.cr zm123 rfl rfl rfl rfl (Nat.le_of_ble_eq_true rfl) rfl (by decide) rfl (by decide) (by decide) ?_
  rw [hy]
  refine zY.bi rfl (fun _ => ?_) (fun hp => absurd (show ¬ (1 : Int32) = 0 by decide) hp)
  refine zY.go 4 rfl ?_
  show zY _ _ _ _ _ [zwI (zset I_ 7 0 0 0 7 0 0)] _ _ _ _
  rw [zset_is]
  refine zY.bi rfl (fun _ => ?_) (fun hp => absurd (show (0 : Int32) ≤ 0 by decide) hp)
  rw [hJ]
  refine zY.go 2 rfl ?_
  refine zY.cr (zm143 hv hro.2.1 hro.1) rfl rfl rfl rfl (Nat.le_of_ble_eq_true rfl) rfl (by decide) rfl (by decide) (by decide) ?_
  rw [hK_]
  refine zY.go 1 rfl ?_
  obtain rfl | rfl | rfl | rfl | rfl | rfl | rfl | rfl | rfl : k_ = 0 ∨ k_ = 1 ∨ k_ = 2 ∨ k_ = 3 ∨ k_ = 4 ∨ k_ = 5 ∨ k_ = 6 ∨ k_ = 7 ∨ k_ = 8 := by omega
  · refine zY.sw (t_ := 92) rfl rfl rfl ?_
    refine zY.go 3 rfl ?_
    refine zY.ai rfl rfl hv ?_
    exact zY.ri rfl rfl ⟨rfl, rfl, rfl⟩
  · refine zY.sw (t_ := 99) rfl rfl rfl ?_
    refine zY.go 3 rfl ?_
    refine zY.ai rfl rfl hv ?_
    exact zY.ri rfl rfl ⟨rfl, rfl, rfl⟩
  · refine zY.sw (t_ := 106) rfl rfl rfl ?_
    refine zY.go 2 rfl ?_
    show zY _ _ _ _ _ [zwI (K_ 7 0 42)] _ _ _ _
    rw [htr.1]
    exact zY.ri rfl rfl ⟨rfl, rfl, rfl⟩
  · refine zY.sw (t_ := 111) rfl rfl rfl ?_
    refine zY.go 3 rfl ?_
    refine zY.ai rfl rfl hv ?_
    exact zY.ri rfl rfl ⟨rfl, rfl, rfl⟩
  · refine zY.sw (t_ := 118) rfl rfl rfl ?_
    refine zY.go 3 rfl ?_
    refine zY.ai rfl rfl hv ?_
    exact zY.ri rfl rfl ⟨rfl, rfl, rfl⟩
  · refine zY.sw (t_ := 125) rfl rfl rfl ?_
    refine zY.go 3 rfl ?_
    refine zY.ab rfl rfl hv ?_
    refine zY.bi rfl (fun hp => ?_) (fun hp => ?_)
    · rw [show zvoM K_ v_ l m_ 5 = (0, K_) from Prod.ext hp rfl]
      refine zY.go 1 rfl ?_
      exact zY.ri rfl rfl ⟨rfl, rfl, rfl⟩
    · rw [show zvoM K_ v_ l m_ 5 = (1, K_) from Prod.ext (if_neg (fun e_ => hp (zbo_0.mpr e_))) rfl]
      refine zY.go 2 rfl ?_
      exact zY.ri rfl rfl ⟨rfl, rfl, rfl⟩
  · refine zY.sw (t_ := 140) rfl rfl rfl ?_
    refine zY.go 3 rfl ?_
    refine zY.ab rfl rfl hv ?_
    refine zY.bi rfl (fun hp => ?_) (fun hp => ?_)
    · rw [show zvoM K_ v_ l m_ 6 = (0, K_) from Prod.ext hp rfl]
      refine zY.go 1 rfl ?_
      exact zY.ri rfl rfl ⟨rfl, rfl, rfl⟩
    · rw [show zvoM K_ v_ l m_ 6 = (1, K_) from Prod.ext (if_neg (fun e_ => hp (zbo_0.mpr e_))) rfl]
      refine zY.go 2 rfl ?_
      exact zY.ri rfl rfl ⟨rfl, rfl, rfl⟩
  · refine zY.sw (t_ := 155) rfl rfl rfl ?_
    refine zY.go 2 rfl ?_
    refine zY.cr (zm149 htr hv hmK) rfl rfl rfl rfl (Nat.le_of_ble_eq_true rfl) rfl (by decide) rfl (by decide) (by decide) ?_
    have fx : zfx (zpln K_ v_ l) K_ := zpln_fx
    have htr2 : zTr (zpln K_ v_ l) l := fx.tr htr
    refine zY.go 2 rfl ?_
    show zY _ _ _ _ _ [zwI (zpln K_ v_ l 7 0 42)] _ _ _ _
    rw [htr2.1]
    cases hl : l with
    | nil =>
      rw [show zvoM K_ v_ [] m_ 7 = (-1, zpln K_ v_ []) from rfl]
      refine zY.bi rfl (fun hp => absurd (show (0 : Int32) = 0 from rfl) hp) (fun _ => ?_)
      refine zY.go 2 rfl ?_
      exact zY.ri rfl rfl ⟨rfl, rfl, rfl⟩
    | cons s_ r_ =>
      have hlen : (s_ :: r_).length ≤ 16 := hl ▸ hro.2.1
      have htr3 : zTr (zpln K_ v_ (s_ :: r_)) (s_ :: r_) := hl ▸ htr2
      refine zY.bi rfl (fun _ => ?_) (fun hp => absurd (fun (e_ : Int32.ofNat (s_ :: r_).length = 0) => absurd ((zof_0 (by omega)).mp e_) (by simp)) hp)
      refine zY.go 2 rfl ?_
      have hg : (s_ :: r_).getLast? = some ((s_ :: r_).getLast (by simp)) := List.getLast?_eq_some_getLast (by simp)
      refine zY.cr (zm156 htr3 hv hg) rfl rfl rfl rfl (Nat.le_of_ble_eq_true rfl) rfl (by decide) rfl (by decide) (by decide) ?_
      exact zY.ri rfl rfl ⟨by
        show Sum.inl _ = Sum.inl _
        unfold zvoM zmba
        rw [if_neg (by simp), hg]; rfl, rfl, rfl⟩
  · refine zY.sw (t_ := 177) rfl rfl rfl ?_
    refine zY.go 2 rfl ?_
    refine zY.cr (zm148 htr hv hmK ((fz 30 25 v_ (by simp) (by simp)).trans hc_) hm3 (fz.mO l m_ hO)) rfl rfl rfl rfl (Nat.le_of_ble_eq_true rfl) rfl (by decide) rfl (by decide) (by decide) ?_
    show zY _ _ _ _ _ [zwI (if (zmrT K_ v_ l m_).1 = true then 1 else 0)] _ _ _ _
    refine zY.we rfl (fun hs => ?_) (fun hs => ?_)
    · refine zY.go 1 rfl ?_
      exact zY.ri rfl rfl ⟨by simp [zvoM, hs], rfl, rfl⟩
    · refine zY.go 2 rfl ?_
      exact zY.ri rfl rfl ⟨by simp [zvoM, hs], rfl, rfl⟩
theorem zm182r {I_ : zIn} {L_ : zLi} {x_ y_ z_ t_ : Int32} (ht : t_ = 1 ∨ t_ = 2) (h_ : I_ 7 0 0 = t_) : zY none 6 182 64 [some (zwR 7 0), some (zwI x_), some (zwI y_), some (zwI z_)] [] I_ L_ 0 (zRet (some (zwI 0)) I_ L_) := by
  refine zY.go 2 rfl ?_
  show zY _ _ _ _ _ [zwI (I_ 7 0 0)] _ _ _ _
  rw [h_]
  refine zY.bi rfl (fun hp => ?_) (fun _ => ?_)
  · rcases ht with rfl | rfl
    · exact absurd hp zle1
    · exact absurd hp zle2
  · refine zY.go 1 rfl ?_
    exact zY.ri rfl rfl ⟨rfl, rfl, rfl⟩
theorem zm182a {I_ : zIn} {L_ : zLi} {x_ y_ z_ : Int32} (hx : zbt x_ 0 (I_ 7 0 11 - 1) = false) : zYm 6 182 [zwR 7 0, zwI x_, zwI y_, zwI z_] I_ L_ 0 (zRet (some (zwI 0)) (zset I_ 7 0 0 1) L_) := by
  refine zYm.of (Nat.le_of_ble_eq_true rfl) rfl ?_
  refine zY.go 3 rfl ?_
  refine zY.cr zm129 rfl rfl rfl rfl (Nat.le_of_ble_eq_true rfl) rfl (by decide) rfl (by decide) (by decide) ?_
  rw [hx]
  refine zY.bi rfl (fun hp => absurd (show (0 : Int32) = 0 from rfl) hp) (fun _ => ?_)
  refine zY.go 5 rfl ?_
  show zY _ _ _ _ _ [zwI (zset I_ 7 0 0 1 7 0 0)] _ _ _ _
  rw [zset_is]
  refine zY.bi rfl (fun _ => ?_) (fun hp => absurd (show ¬ (1 : Int32) = 0 by decide) hp)
  exact zm182r (Or.inl rfl) zset_is
theorem zm182h {I_ J_ : zIn} {L_ : zLi} {v_ : Nat} {y_ z_ : Int32} {Q_ : zPost} (hv : v_ < 4) (hx : zbt (Int32.ofNat v_) 0 (I_ 7 0 11 - 1) = true) (hJ : zset I_ 7 0 0 0 = J_) (h1 : zbt y_ 0 (J_ 30 27 v_ - 1) = false → zY none 6 182 64 [some (zwR 7 0), some (zwI (Int32.ofNat v_)), some (zwI y_), some (zwI z_)] [] (zset J_ 7 0 0 1) L_ 0 Q_) (h2 : zbt y_ 0 (J_ 30 27 v_ - 1) = true → zbt z_ 0 3 = false → zY none 6 182 64 [some (zwR 7 0), some (zwI (Int32.ofNat v_)), some (zwI y_), some (zwI z_)] [] (zset J_ 7 0 0 2) L_ 0 Q_) (h3 : zbt y_ 0 (J_ 30 27 v_ - 1) = true → zbt z_ 0 3 = true → zY none 6 182 64 [some (zwR 7 0), some (zwI (Int32.ofNat v_)), some (zwI y_), some (zwI z_)] [] (zset J_ 7 0 0 0) L_ 0 Q_) : zYm 6 182 [zwR 7 0, zwI (Int32.ofNat v_), zwI y_, zwI z_] I_ L_ 0 Q_ := by
  refine zYm.of (Nat.le_of_ble_eq_true rfl) rfl ?_
  refine zY.go 3 rfl ?_
  refine zY.cr zm129 rfl rfl rfl rfl (Nat.le_of_ble_eq_true rfl) rfl (by decide) rfl (by decide) (by decide) ?_
  rw [hx]
  refine zY.bi rfl (fun _ => ?_) (fun hp => absurd (show ¬ (1 : Int32) = 0 by decide) hp)
  refine zY.go 4 rfl ?_
  show zY _ _ _ _ _ [zwI (zset I_ 7 0 0 0 7 0 0)] _ _ _ _
  rw [zset_is]
  refine zY.bi rfl (fun hp => absurd (show (0 : Int32) = 0 from rfl) hp) (fun _ => ?_)
  rw [hJ]
  refine zY.go 7 rfl ?_
  refine zY.ai rfl rfl hv ?_
  refine zY.go 2 rfl ?_
  refine zY.cr zm123 rfl rfl rfl rfl (Nat.le_of_ble_eq_true rfl) rfl (by decide) rfl (by decide) (by decide) ?_
  refine zY.wn rfl (fun hy => ?_) (fun hy => ?_)
  · refine zY.go 4 rfl ?_
    refine zY.cr zm123 rfl rfl rfl rfl (Nat.le_of_ble_eq_true rfl) rfl (by decide) rfl (by decide) (by decide) ?_
    refine zY.wn rfl (fun hz => ?_) (fun hz => ?_)
    · refine zY.go 2 rfl ?_
      exact h3 hy hz
    · refine zY.go 3 rfl ?_
      exact h2 hy hz
  · refine zY.go 3 rfl ?_
    exact h1 hy
theorem zm182b {I_ J_ : zIn} {L_ : zLi} {v_ : Nat} {y_ z_ : Int32} (hv : v_ < 4) (hx : zbt (Int32.ofNat v_) 0 (I_ 7 0 11 - 1) = true) (hJ : zset I_ 7 0 0 0 = J_) (hy : zbt y_ 0 (J_ 30 27 v_ - 1) = false) : zYm 6 182 [zwR 7 0, zwI (Int32.ofNat v_), zwI y_, zwI z_] I_ L_ 0 (zRet (some (zwI 0)) (zset J_ 7 0 0 1) L_) :=
  zm182h hv hx hJ (fun _ => zm182r (Or.inl rfl) zset_is) (fun h_ _ => by rw [hy] at h_; cases h_) (fun h_ _ => by rw [hy] at h_; cases h_)
theorem zm182c {I_ J_ : zIn} {L_ : zLi} {v_ : Nat} {y_ z_ : Int32} (hv : v_ < 4) (hx : zbt (Int32.ofNat v_) 0 (I_ 7 0 11 - 1) = true) (hJ : zset I_ 7 0 0 0 = J_) (hy : zbt y_ 0 (J_ 30 27 v_ - 1) = true) (hz : zbt z_ 0 3 = false) : zYm 6 182 [zwR 7 0, zwI (Int32.ofNat v_), zwI y_, zwI z_] I_ L_ 0 (zRet (some (zwI 0)) (zset J_ 7 0 0 2) L_) :=
  zm182h hv hx hJ (fun h_ => by rw [hy] at h_; cases h_) (fun _ _ => zm182r (Or.inr rfl) zset_is) (fun _ h_ => by rw [hz] at h_; cases h_)
def zsoM (K_ : zIn) (s_ j_ : Nat) : Nat → Int32
  | 0 => Int32.ofNat (s_ / 2)
  | 1 => Int32.ofNat (s_ % 2)
  | 2 => K_ 30 44 j_
  | _ => K_ 30 45 j_
theorem zm182d {I_ J_ K_ : zIn} {L_ : zLi} {v_ j_ k_ s_ : Nat} {l : List Nat} (hv : v_ < 4) (hx : zbt (Int32.ofNat v_) 0 (I_ 7 0 11 - 1) = true) (hJ : zset I_ 7 0 0 0 = J_) (hy : zbt (Int32.ofNat j_) 0 (J_ 30 27 v_ - 1) = true) (hz : zbt (Int32.ofNat k_) 0 3 = true) (hk : k_ ≤ 3) (hro : zRo J_ v_ l) (hs : l[j_]? = some s_) (hK_ : zpln (ztry (zset J_ 7 0 0 0) v_ l.length) v_ l = K_) (hm_ : ∀ s_ ∈ l, zMq J_ (s_ / 2)) : zYm 6 182 [zwR 7 0, zwI (Int32.ofNat v_), zwI (Int32.ofNat j_), zwI (Int32.ofNat k_)] I_ L_ 0 (zRet (some (zwI (zsoM K_ s_ j_ k_))) K_ L_) := by
  refine zm182h hv hx hJ (fun h_ => by rw [hy] at h_; cases h_) (fun _ h_ => by rw [hz] at h_; cases h_) (fun _ _ => ?_)
  have hj : j_ < l.length := (List.getElem?_eq_some_iff.mp hs).1
  have hro1 : zRo (zset J_ 7 0 0 0) v_ l := ⟨(zset_ne (by simp)).trans hro.1, hro.2.1, fun k_ s_ hs => ⟨(zset_ne (by simp)).trans (hro.2.2 k_ s_ hs).1, (hro.2.2 k_ s_ hs).2⟩⟩
  have fz : zfz (ztry (zset J_ 7 0 0 0) v_ l.length) (zset J_ 7 0 0 0) := zfz.try zfz.rfl
  have htr : zTr (ztry (zset J_ 7 0 0 0) v_ l.length) l := ztry_tr hro1
  have hmK : ∀ s_ ∈ l, zMq (ztry (zset J_ 7 0 0 0) v_ l.length) (s_ / 2) := fun s_ hs => fz.mq (zMq_s7 (hm_ s_ hs))
  have fx : zfx K_ (ztry (zset J_ 7 0 0 0) v_ l.length) := hK_ ▸ zpln_fx
  have htr2 : zTr K_ l := fx.tr htr
  obtain ⟨g1, g2⟩ := htr2.2.2 j_ s_ hs
  obtain ⟨f1_, f2_⟩ := zs2d s_ (by omega)
  have hl := hro.2.1
  refine zY.go 2 rfl ?_
  show zY _ _ _ _ _ [zwI (zset J_ 7 0 0 0 7 0 0)] _ _ _ _
  rw [zset_is]
  refine zY.bi rfl (fun _ => ?_) (fun hp => absurd (show (0 : Int32) ≤ 0 by decide) hp)
  refine zY.go 2 rfl ?_
  refine zY.cr (zm143 hv hro1.2.1 hro1.1) rfl rfl rfl rfl (Nat.le_of_ble_eq_true rfl) rfl (by decide) rfl (by decide) (by decide) ?_
  refine zY.go 2 rfl ?_
  refine zY.cr (zm149 htr hv hmK) rfl rfl rfl rfl (Nat.le_of_ble_eq_true rfl) rfl (by decide) rfl (by decide) (by decide) ?_
  rw [hK_]
  refine zY.go 1 rfl ?_
  obtain rfl | rfl | rfl | rfl : k_ = 0 ∨ k_ = 1 ∨ k_ = 2 ∨ k_ = 3 := by omega
  · refine zY.bi rfl (fun hp => absurd (show (0 : Int32) = 0 from rfl) hp) (fun _ => ?_)
    refine zY.go 3 rfl ?_
    refine zY.ai rfl rfl (show j_ < 20 by omega) ?_
    rw [g1]
    refine zY.go 3 rfl ?_
    exact zY.ri rfl rfl ⟨by show Sum.inl (some (zwI (Int32.ofNat s_ / 2))) = _; rw [f1_]; rfl, rfl, rfl⟩
  · refine zY.bi rfl (fun _ => ?_) (fun hp => absurd (show ¬ (1 : Int32) = 0 by decide) hp)
    refine zY.go 2 rfl ?_
    refine zY.bc rfl (fun hp => absurd (show (1 : Int32) = 1 from rfl) hp) (fun _ => ?_)
    refine zY.go 3 rfl ?_
    refine zY.ai rfl rfl (show j_ < 20 by omega) ?_
    rw [g1]
    refine zY.go 3 rfl ?_
    exact zY.ri rfl rfl ⟨by show Sum.inl (some (zwI (Int32.ofNat s_ - Int32.ofNat s_ / 2 * 2))) = _; rw [f2_]; rfl, rfl, rfl⟩
  · refine zY.bi rfl (fun _ => ?_) (fun hp => absurd (show ¬ (2 : Int32) = 0 by decide) hp)
    refine zY.go 2 rfl ?_
    refine zY.bc rfl (fun _ => ?_) (fun hp => absurd (show ¬ (2 : Int32) = 1 by decide) hp)
    refine zY.go 2 rfl ?_
    refine zY.bc rfl (fun hp => absurd (show (2 : Int32) = 2 from rfl) hp) (fun _ => ?_)
    refine zY.go 3 rfl ?_
    refine zY.ai rfl rfl (show j_ < 20 by omega) ?_
    refine zY.go 1 rfl ?_
    exact zY.ri rfl rfl ⟨rfl, rfl, rfl⟩
  · refine zY.bi rfl (fun _ => ?_) (fun hp => absurd (show ¬ (3 : Int32) = 0 by decide) hp)
    refine zY.go 2 rfl ?_
    refine zY.bc rfl (fun _ => ?_) (fun hp => absurd (show ¬ (3 : Int32) = 1 by decide) hp)
    refine zY.go 2 rfl ?_
    refine zY.bc rfl (fun _ => ?_) (fun hp => absurd (show ¬ (3 : Int32) = 2 by decide) hp)
    refine zY.go 3 rfl ?_
    refine zY.ai rfl rfl (show j_ < 20 by omega) ?_
    exact zY.ri rfl rfl ⟨rfl, rfl, rfl⟩
theorem zm184a {I_ : zIn} {L_ : zLi} {x_ : Int32} (hx : zbt x_ 0 (I_ 7 0 11 - 1) = false) : zYm 5 184 [zwR 7 0, zwI x_] I_ L_ 0 (zRet (some (zwI 0)) (zset I_ 7 0 0 1) L_) := by
  refine zYm.of (Nat.le_of_ble_eq_true rfl) rfl ?_
  refine zY.go 3 rfl ?_
  refine zY.cr zm129 rfl rfl rfl rfl (Nat.le_of_ble_eq_true rfl) rfl (by decide) rfl (by decide) (by decide) ?_
  rw [hx]
  refine zY.bi rfl (fun hp => absurd (show (0 : Int32) = 0 from rfl) hp) (fun _ => ?_)
  refine zY.go 5 rfl ?_
  show zY _ _ _ _ _ [zwI (zset I_ 7 0 0 1 7 0 0)] _ _ _ _
  rw [zset_is]
  refine zY.bi rfl (fun hp => absurd hp zle1) (fun _ => ?_)
  refine zY.go 1 rfl ?_
  exact zY.ri rfl rfl ⟨rfl, rfl, rfl⟩
theorem zm184b {I_ J_ : zIn} {L_ : zLi} {v_ : Nat} {l : List Nat} (hv : v_ < 4) (hx : zbt (Int32.ofNat v_) 0 (I_ 7 0 11 - 1) = true) (hJ : zset I_ 7 0 0 0 = J_) (hro : zRo J_ v_ l) : zYm 5 184 [zwR 7 0, zwI (Int32.ofNat v_)] I_ L_ 0 (zRet (some (zwI (zdm (ztry J_ v_ l.length) l (ztry J_ v_ l.length 30 17 v_) (ztry J_ v_ l.length 30 12 v_)))) (ztry J_ v_ l.length) L_) := by
  refine zYm.of (Nat.le_of_ble_eq_true rfl) rfl ?_
  refine zY.go 3 rfl ?_
  refine zY.cr zm129 rfl rfl rfl rfl (Nat.le_of_ble_eq_true rfl) rfl (by decide) rfl (by decide) (by decide) ?_
  rw [hx]
  refine zY.bi rfl (fun _ => ?_) (fun hp => absurd (show ¬ (1 : Int32) = 0 by decide) hp)
  refine zY.go 4 rfl ?_
  show zY _ _ _ _ _ [zwI (zset I_ 7 0 0 0 7 0 0)] _ _ _ _
  rw [zset_is]
  refine zY.bi rfl (fun _ => ?_) (fun hp => absurd (show (0 : Int32) ≤ 0 by decide) hp)
  rw [hJ]
  refine zY.go 2 rfl ?_
  refine zY.cr (zm143 hv hro.2.1 hro.1) rfl rfl rfl rfl (Nat.le_of_ble_eq_true rfl) rfl (by decide) rfl (by decide) (by decide) ?_
  refine zY.go 2 rfl ?_
  refine zY.cr (zm144 (ztry_tr hro) hv) rfl rfl rfl rfl (Nat.le_of_ble_eq_true rfl) rfl (by decide) rfl (by decide) (by decide) ?_
  exact zY.ri rfl rfl ⟨rfl, rfl, rfl⟩
