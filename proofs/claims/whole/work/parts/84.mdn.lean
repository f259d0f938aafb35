/-! CONTRACTS OF THE MODEL: done -/
def zdn1 (I_ : zIn) (v_ : Nat) : zIn := zset (zset I_ 31 19 v_ 0) 31 22 v_ 0
def zdn2 (I_ : zIn) (v_ s_ : Nat) : zIn := zset (zdn1 I_ v_) 30 17 v_ (zmpl (zdn1 I_ v_) s_)
def zdn3 (I_ : zIn) (v_ s_ : Nat) : zIn := zset (zdn2 I_ v_ s_) 30 18 v_ (zdn2 I_ v_ s_ 7 0 2)
def zdn4 (I_ : zIn) (v_ s_ n_ : Nat) : zIn := zkep (ztst (ztry (zdn3 I_ v_ s_) v_ (n_ + 1)) (n_ + 1) 0) v_ n_
theorem zdn3_ne {I_ : zIn} {v_ s_ c_ i_ f_ : Nat} (h1 : ¬ (c_ = 31 ∧ (i_ = 19 ∨ i_ = 22))) (h2 : ¬ (c_ = 30 ∧ (i_ = 17 ∨ i_ = 18))) : zdn3 I_ v_ s_ c_ i_ f_ = I_ c_ i_ f_ := by
  unfold zdn3 zdn2 zdn1
  rw [zset_ne (fun e_ => h2 ⟨e_.1, Or.inr e_.2.1⟩), zset_ne (fun e_ => h2 ⟨e_.1, Or.inl e_.2.1⟩), zset_ne (fun e_ => h1 ⟨e_.1, Or.inr e_.2.1⟩), zset_ne (fun e_ => h1 ⟨e_.1, Or.inl e_.2.1⟩)]
theorem zdn4_ne {I_ : zIn} {v_ s_ n_ c_ i_ f_ : Nat} (h1 : ¬ (c_ = 31 ∧ (i_ = 19 ∨ i_ = 22))) (h2 : ¬ (c_ = 30 ∧ (i_ = 17 ∨ i_ = 18 ∨ i_ = 26 ∨ i_ = 27 ∨ i_ = 43))) (h3 : ¬ (c_ = 7 ∧ i_ = 0 ∧ f_ = 42)) : zdn4 I_ v_ s_ n_ c_ i_ f_ = I_ c_ i_ f_ := by
  unfold zdn4
  rw [zkep_ne (fun e_ => h2 ⟨e_.1, by omega⟩) (fun e_ => h2 ⟨e_.1, by omega⟩), ztst_ne (fun e_ => h2 ⟨e_.1, by omega⟩) h3, ztry_ne (fun e_ => h2 ⟨e_.1, by omega⟩) h3, zdn3_ne h1 (fun e_ => h2 ⟨e_.1, by omega⟩)]
theorem zdn3_ro {I_ : zIn} {v_ s_ : Nat} {l : List Nat} (h_ : zRo I_ v_ l) : zRo (zdn3 I_ v_ s_) v_ l := ⟨(zdn3_ne (by simp) (by simp)).trans h_.1, h_.2.1, fun k_ t_ ht => ⟨(zdn3_ne (by simp) (by simp)).trans (h_.2.2 k_ t_ ht).1, (h_.2.2 k_ t_ ht).2⟩⟩
theorem zdn4_mq {I_ : zIn} {v_ s_ n_ q_ : Nat} (h_ : zMq I_ q_) : zMq (zdn4 I_ v_ s_ n_) q_ := by
  unfold zMq at *
  rw [zdn4_ne (by simp) (by simp) (by simp)]
  exact h_
theorem zdn4_kd {I_ : zIn} {v_ s_ n_ q_ : Nat} : zmkd (zdn4 I_ v_ s_ n_) q_ = zmkd I_ q_ := by
  unfold zmkd zmrd
  rw [zdn4_ne (i_ := 29) (by simp) (by simp) (by simp), zdn4_ne (i_ := 7) (by simp) (by simp) (by simp)]
theorem zdn4_pc {I_ : zIn} {v_ s_ n_ r_ : Nat} : zpkC (zdn4 I_ v_ s_ n_) v_ r_ = zpkC I_ v_ r_ := by
  unfold zpkC
  rw [zdn4_kd, zdn4_ne (i_ := 41) (by simp) (by simp) (by simp), zdn4_ne (i_ := 16) (by simp) (by simp) (by simp)]
def zdnM (I_ : zIn) (v_ s_ : Nat) (l : List Nat) (m_ d_ : Nat) : zIn := if s_ % 2 = 0 then zpkM (zdn4 I_ v_ s_ l.length) v_ (s_ / 2) m_ l d_ else zdrM (zdn4 I_ v_ s_ l.length) v_ (s_ / 2)
theorem zm166 {I_ : zIn} {L_ : zLi} {v_ s_ m_ d_ : Nat} {l : List Nat} (hv : v_ < 4) (hmq : zMq I_ (s_ / 2)) (hm_ : I_ 30 25 v_ = Int32.ofNat m_) (hm3 : s_ % 2 = 0 → zpkC I_ v_ (s_ / 2) = false → zmkd I_ (s_ / 2) = 2 → m_ < 3) (hrv : s_ % 2 = 0 → I_ 30 35 (s_ / 2) = Int32.ofNat v_) (hro : zRo I_ v_ (s_ :: l)) (hd_ : s_ % 2 = 0 → zlx (2 * (s_ / 2) + 1) (ztoL l (s_ / 2)) 0 none = some d_) : zYm 4 166 [zwR 7 0, zwI (Int32.ofNat v_)] I_ L_ 0 (zRet none (zdnM I_ v_ s_ l m_ d_) L_) := by
  obtain ⟨g1, g2⟩ := hro.2.2 0 s_ rfl
  have h16_ := hro.2.1
  have hlen : (s_ :: l).length = l.length + 1 := rfl
  have h26 : 16 * v_ < zas30 26 := by show 16 * v_ < 64; omega
  obtain ⟨e1_, e2_⟩ := zs2d s_ (by omega)
  have hro3 : zRo (zdn3 I_ v_ s_) v_ (s_ :: l) := zdn3_ro hro
  have t0_ := ztry_tr hro3
  have t1_ := ztst_tr (a_ := 0) t0_ (by rw [hlen]; omega)
  have t1' : zTr (ztst (ztry (zdn3 I_ v_ s_) v_ (l.length + 1)) (l.length + 1) 0) l := t1_
  have hro4 : zRo (zdn4 I_ v_ s_ l.length) v_ l := zkep_ro t1' (by omega)
  have hmq4 : zMq (zdn4 I_ v_ s_ l.length) (s_ / 2) := zdn4_mq hmq
  refine zYm.of (Nat.le_of_ble_eq_true rfl) rfl ?_
  refine zY.go 5 rfl ?_
  refine zY.ai rfl z16v h26 ?_
  rw [show I_ 30 26 (16 * v_) = Int32.ofNat s_ from g1]
  refine zY.go 5 rfl ?_
  refine zY.sb rfl rfl hv (Or.inl rfl) ?_
  refine zY.go 4 rfl ?_
  refine zY.sb rfl rfl hv (Or.inl rfl) ?_
  change zY _ _ _ _ _ _ (zdn1 I_ v_) _ _ _
  refine zY.go 5 rfl ?_
  refine zY.cr (zm145 g2) rfl rfl rfl rfl (Nat.le_of_ble_eq_true rfl) rfl (by decide) rfl (by decide) (by decide) ?_
  refine zY.si rfl rfl hv ?_
  change zY _ _ _ _ _ _ (zdn2 I_ v_ s_) _ _ _
  refine zY.go 5 rfl ?_
  refine zY.si rfl rfl hv ?_
  change zY _ _ _ _ _ _ (zdn3 I_ v_ s_) _ _ _
  refine zY.go 2 rfl ?_
  refine zY.cr (zm143 hv hro3.2.1 hro3.1) rfl rfl rfl rfl (Nat.le_of_ble_eq_true rfl) rfl (by decide) rfl (by decide) (by decide) ?_
  refine zY.go 2 rfl ?_
  refine zY.cr (zm162 (a_ := 0) (by omega) (by rw [hlen]; omega) t0_.1) rfl rfl rfl rfl (Nat.le_of_ble_eq_true rfl) rfl (by decide) rfl (by decide) (by decide) ?_
  refine zY.go 2 rfl ?_
  refine zY.cr (zm157 hv (by omega) t1'.1) rfl rfl rfl rfl (Nat.le_of_ble_eq_true rfl) rfl (by decide) rfl (by decide) (by decide) ?_
  change zY _ _ _ _ _ _ (zdn4 I_ v_ s_ l.length) _ _ _
  refine zY.go 3 rfl ?_
  show zY _ _ _ _ _ [zwI (Int32.ofNat s_ - Int32.ofNat s_ / 2 * 2)] _ _ _ _
  rw [e2_]
  unfold zdnM
  refine zY.bi rfl (fun hp => ?_) (fun hp => ?_)
  · rw [if_neg (fun h_ => hp (zpar_0.mpr h_))]
    refine zY.go 5 rfl ?_
    show zY _ _ _ _ _ [zwI (Int32.ofNat s_ / 2), zwI (Int32.ofNat v_), zwR 7 0] _ _ _ _
    rw [e1_]
    refine zY.cr (zm168 hv hmq4) rfl rfl rfl rfl (Nat.le_of_ble_eq_true rfl) rfl (by decide) rfl (by decide) (by decide) ?_
    exact zY.rv rfl rfl ⟨rfl, rfl, rfl⟩
  · have hs2 : s_ % 2 = 0 := zpar_0.mp (Decidable.byContradiction hp)
    rw [if_pos hs2]
    refine zY.go 5 rfl ?_
    show zY _ _ _ _ _ [zwI (Int32.ofNat s_ / 2), zwI (Int32.ofNat v_), zwR 7 0] _ _ _ _
    rw [e1_]
    refine zY.cr (zm167 hv hmq4 ((zdn4_ne (by simp) (by simp) (by simp)).trans hm_) (by rw [zdn4_pc, zdn4_kd]; exact hm3 hs2) ((zdn4_ne (by simp) (by simp) (by simp)).trans (hrv hs2)) hro4 (hd_ hs2)) rfl rfl rfl rfl (Nat.le_of_ble_eq_true rfl) rfl (by decide) rfl (by decide) (by decide) ?_
    refine zY.go 1 rfl ?_
    exact zY.rv rfl rfl ⟨rfl, rfl, rfl⟩
