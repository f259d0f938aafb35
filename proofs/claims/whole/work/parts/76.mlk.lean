/-! CONTRACTS OF THE MODEL: look, its outer loop -/
theorem zm141p (v_ : Nat) (l : List Nat) (r_ m_ : Nat) (w_ f6_ : Int32) (L_ : zLi) (h14 : l.length ≤ 14) : ∀ (n_ p_ : Nat) (I_ : zIn) (k8_ k9 : Option zW), n_ + p_ = l.length + 1 → zLok I_ v_ l r_ m_ → zY none 7 141 82 [some (zwR 7 0), some (zwI (Int32.ofNat v_)), some (zwI (Int32.ofNat r_)), some (zwI (zbi true)), some (zwI w_), some (zwI (Int32.ofNat l.length)), some (zwI f6_), some (zwI (Int32.ofNat p_)), k8_, k9] [] I_ L_ 0 (zRet none (zlkP v_ l r_ m_ w_ n_ p_ I_) L_)
  | 0, p_, I_, k8_, k9, hn, hk => by
    refine zY.go 2 rfl ?_
    refine zY.bn rfl (by omega) (by omega) (fun _ => ?_) (fun hF => absurd (show l.length < p_ by omega) hF)
    exact zY.rv rfl rfl ⟨rfl, rfl, rfl⟩
  | n_ + 1, p_, I_, k8_, k9, hn, hk => by
    have ih_ := fun k8_ k9 hk' => zm141p v_ l r_ m_ w_ f6_ L_ h14 n_ (p_ + 1) (zlkD v_ l r_ m_ w_ p_ (l.length + 1 - p_) (p_ + 1) I_) k8_ k9 (by omega) hk'
    refine zY.go 2 rfl ?_
    refine zY.bn rfl (by omega) (by omega) (fun hT_ => absurd hT_ (show ¬ l.length < p_ by omega)) (fun _ => ?_)
    refine zY.go 1 rfl ?_
    refine zY.bi rfl (fun hp => absurd (show (1 : Int32) = 0 from hp) (by decide)) (fun _ => ?_)
    refine zY.go 2 rfl ?_
    show zY _ _ _ _ _ [zwI (Int32.ofNat 14), zwI (Int32.ofNat l.length)] _ _ _ _
    refine zY.bn rfl (by omega) (by omega) (fun hT_ => absurd hT_ (show ¬ 14 < l.length by omega)) (fun _ => ?_)
    refine zY.go 4 rfl ?_
    have h_ := zm141d v_ l r_ m_ w_ L_ p_ (by omega) (zRet none (zlkP v_ l r_ m_ w_ n_ (p_ + 1) (zlkD v_ l r_ m_ w_ p_ (l.length + 1 - p_) (p_ + 1) I_)) L_) (some (zwI (zbi true))) f6_ (l.length + 1 - p_) (p_ + 1) I_ k9 (by omega) (by omega) hk (fun k8_ k9 hk' => ih_ k8_ k9 hk')
    show zY none 7 141 106 [some (zwR 7 0), some (zwI (Int32.ofNat v_)), some (zwI (Int32.ofNat r_)), some (zwI (zbi true)), some (zwI w_), some (zwI (Int32.ofNat l.length)), some (zwI f6_), some (zwI (Int32.ofNat p_)), some (zwI (Int32.ofNat p_ + 1)), k9] [] I_ L_ 0 _
    rw [zisucc]
    exact h_
theorem zm141q (v_ : Nat) (l : List Nat) (r_ p_ : Nat) (c_ : Bool) (w_ f6_ : Int32) (I_ : zIn) (L_ : zLi) (k8_ k9 : Option zW) (hl : l.length ≤ 16) (hp : p_ ≤ 1) (hc_ : ¬ (c_ = true ∧ l.length ≤ 14)) : zY none 7 141 82 [some (zwR 7 0), some (zwI (Int32.ofNat v_)), some (zwI (Int32.ofNat r_)), some (zwI (zbi c_)), some (zwI w_), some (zwI (Int32.ofNat l.length)), some (zwI f6_), some (zwI (Int32.ofNat p_)), k8_, k9] [] I_ L_ 0 (zRet none I_ L_) := by
  refine zY.go 2 rfl ?_
  refine zY.bn rfl (by omega) (by omega) (fun _ => ?_) (fun _ => ?_)
  · exact zY.rv rfl rfl ⟨rfl, rfl, rfl⟩
  · refine zY.go 1 rfl ?_
    cases c_ with
    | false =>
      refine zY.bi rfl (fun _ => ?_) (fun hp => absurd (show zbi false = 0 from rfl) hp)
      exact zY.rv rfl rfl ⟨rfl, rfl, rfl⟩
    | true =>
      refine zY.bi rfl (fun hp => absurd (show (1 : Int32) = 0 from hp) (by decide)) (fun _ => ?_)
      refine zY.go 2 rfl ?_
      show zY _ _ _ _ _ [zwI (Int32.ofNat 14), zwI (Int32.ofNat l.length)] _ _ _ _
      refine zY.bn rfl (by omega) (by omega) (fun _ => ?_) (fun hF => absurd ⟨rfl, Nat.not_lt.mp hF⟩ hc_)
      exact zY.rv rfl rfl ⟨rfl, rfl, rfl⟩
def zlkC (I_ : zIn) (v_ r_ : Nat) : Bool := decide (¬ zmkd I_ r_ = 2) || (decide (¬ I_ 31 16 v_ = 0) && decide (I_ 30 8 (zmrd I_ r_) ≤ I_ 30 15 v_))
def zlkF (I_ : zIn) (v_ : Nat) : Nat := if I_ 31 19 v_ = 0 then 0 else 1
def zlkA (I_ : zIn) (v_ : Nat) (l : List Nat) (r_ m_ : Nat) : zIn := if zlkC I_ v_ r_ = true ∧ l.length ≤ 14 then zlkP v_ l r_ m_ (zlkG (ztry I_ v_ l.length) v_ l) (l.length + 1 - zlkF I_ v_) (zlkF I_ v_) (ztry I_ v_ l.length) else ztry I_ v_ l.length
theorem zlkA_fz {I_ : zIn} {v_ r_ m_ : Nat} {l : List Nat} : zfz (zlkA I_ v_ l r_ m_) I_ := by
  unfold zlkA
  split
  · exact (zlkP_fz _ _ _).trans zfz.rfl.try
  · exact zfz.rfl.try
theorem zm141 {I_ : zIn} {L_ : zLi} {v_ r_ m_ : Nat} {l : List Nat} (hk : zLok I_ v_ l r_ m_) : zYm 7 141 [zwR 7 0, zwI (Int32.ofNat v_), zwI (Int32.ofNat r_)] I_ L_ 0 (zRet none (zlkA I_ v_ l r_ m_) L_) := by
  have hk0 := hk
  obtain ⟨hv, hmq, hro, hml, hc_, hm3, hO⟩ := hk
  have h16_ := hro.2.1
  have hz : zfz (ztry I_ v_ l.length) I_ := zfz.rfl.try
  have hT_ := ztry_tr hro
  have T82 : ∀ (c_ : Bool) k8_ k9, c_ = zlkC I_ v_ r_ → zY none 7 141 82 [some (zwR 7 0), some (zwI (Int32.ofNat v_)), some (zwI (Int32.ofNat r_)), some (zwI (zbi c_)), some (zwI (zlkG (ztry I_ v_ l.length) v_ l)), some (zwI (Int32.ofNat l.length)), some (zwI (Int32.ofNat (zlkF I_ v_))), some (zwI (Int32.ofNat (zlkF I_ v_))), k8_, k9] [] (ztry I_ v_ l.length) L_ 0 (zRet none (zlkA I_ v_ l r_ m_) L_) := by
    intro c_ k8_ k9 hcc
    have hF : zlkF I_ v_ ≤ 1 := by unfold zlkF; split <;> omega
    by_cases hx : c_ = true ∧ l.length ≤ 14
    · have e_ : zlkA I_ v_ l r_ m_ = zlkP v_ l r_ m_ (zlkG (ztry I_ v_ l.length) v_ l) (l.length + 1 - zlkF I_ v_) (zlkF I_ v_) (ztry I_ v_ l.length) := if_pos (hcc ▸ hx)
      rw [e_, hx.1]
      exact zm141p v_ l r_ m_ _ _ L_ hx.2 _ _ _ _ _ (by omega) (hz.lk hk0)
    · have e_ : zlkA I_ v_ l r_ m_ = ztry I_ v_ l.length := if_neg (hcc ▸ hx)
      rw [e_]
      exact zm141q v_ l r_ _ c_ _ _ _ L_ _ _ h16_ hF hx
  have T43 : ∀ (c_ : Bool), c_ = zlkC I_ v_ r_ → zY none 7 141 43 [some (zwR 7 0), some (zwI (Int32.ofNat v_)), some (zwI (Int32.ofNat r_)), none, none, none, none, none, none, none] [zwI (zbi c_)] I_ L_ 0 (zRet none (zlkA I_ v_ l r_ m_) L_) := by
    intro c_ hcc
    refine zY.go 3 rfl ?_
    refine zY.cr (zm143 hv h16_ hro.1) rfl rfl rfl rfl (Nat.le_of_ble_eq_true rfl) rfl (by decide) rfl (by decide) (by decide) ?_
    refine zY.go 2 rfl ?_
    refine zY.cr (zm144 hT_ hv) rfl rfl rfl rfl (Nat.le_of_ble_eq_true rfl) rfl (by decide) rfl (by decide) (by decide) ?_
    refine zY.go 7 rfl ?_
    show zY _ _ _ _ [some (zwR 7 0), some (zwI (Int32.ofNat v_)), some (zwI (Int32.ofNat r_)), some (zwI (zbi c_)), some (zwI (zlkG (ztry I_ v_ l.length) v_ l)), some (zwI (ztry I_ v_ l.length 7 0 42)), none, none, none, none] [zwI (Int32.ofNat v_), zwR 31 19] _ _ _ _
    rw [hT_.1]
    refine zY.ab rfl rfl hv ?_
    have e19_ : ztry I_ v_ l.length 31 19 v_ = I_ 31 19 v_ := hz 31 19 v_ (by simp) (by simp)
    rw [e19_]
    have h_ := T82 c_ none none hcc
    refine zY.bi rfl (fun hp => ?_) (fun hp => ?_)
    · have e_ : zlkF I_ v_ = 0 := if_pos (zbo_0.mp hp)
      rw [e_] at h_
      refine zY.go 4 rfl ?_
      exact h_
    · have e_ : zlkF I_ v_ = 1 := if_neg (fun h_ => hp (zbo_0.mpr h_))
      rw [e_] at h_
      refine zY.go 5 rfl ?_
      exact h_
  refine zYm.of (Nat.le_of_ble_eq_true rfl) rfl ?_
  refine zY.go 2 rfl ?_
  refine zY.cr (zm142 hmq) rfl rfl rfl rfl (Nat.le_of_ble_eq_true rfl) rfl (by decide) rfl (by decide) (by decide) ?_
  refine zY.go 1 rfl ?_
  refine zY.bc rfl (fun hp6 => ?_) (fun hp6 => ?_)
  · refine zY.go 2 rfl ?_
    exact T43 true (by unfold zlkC; rw [decide_eq_true (show ¬ zmkd I_ r_ = 2 from hp6)]; rfl)
  · have h6 : ¬ ¬ zmkd I_ r_ = 2 := hp6
    refine zY.go 3 rfl ?_
    refine zY.ab rfl rfl hv ?_
    refine zY.bi rfl (fun hp15 => ?_) (fun hp15 => ?_)
    · refine zY.go 1 rfl ?_
      exact T43 false (by unfold zlkC; rw [decide_eq_false h6, decide_eq_false (fun h_ => h_ (zbo_0.mp hp15))]; rfl)
    · have h15 : ¬ I_ 31 16 v_ = 0 := fun h_ => hp15 (zbo_0.mpr h_)
      refine zY.go 5 rfl ?_
      refine zY.ai rfl rfl hmq.1 ?_
      refine zY.ai rfl hmq.rd hmq.2.2 ?_
      refine zY.go 3 rfl ?_
      refine zY.ai rfl rfl hv ?_
      refine zY.bc rfl (fun hp35 => ?_) (fun hp35 => ?_)
      · refine zY.go 1 rfl ?_
        exact T43 false (by unfold zlkC; rw [decide_eq_false h6, decide_eq_true h15, decide_eq_false (Int32.not_le.mpr hp35)]; rfl)
      · refine zY.go 2 rfl ?_
        exact T43 true (by unfold zlkC; rw [decide_eq_false h6, decide_eq_true h15, decide_eq_true (Int32.not_lt.mp hp35)]; rfl)
