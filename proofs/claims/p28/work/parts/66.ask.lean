/-! CONTRACTS: rider, cancel, ask -/
abbrev zQr.ofI (x_ : Int32) : zQr := .inl (some (zwI x_))
def zrdI (I_ : zIn) (i_ : Nat) (k_ w_ l y_ : Int32) : zIn := znwI I_ 2 i_ (zrw [k_, w_, l, (if k_ = 2 then 2 else 1) + (if y_ = 0 then 0 else 1), if k_ = 2 then 6 else if k_ = 1 then 4 else 2])
theorem zm32a {I_ : zIn} {L_ : zLi} {k_ w_ l y_ : Int32} (h_ : ¬ (0 ≤ k_ ∧ k_ ≤ 2)) : zYm 6 32 [zwR 6 0, zwI k_, zwI w_, zwI l, zwI y_] I_ L_ 60 (zThw 9 I_ L_) := by
  refine zYm.of (Nat.le_of_ble_eq_true rfl) rfl ?_
  refine zY.go 3 rfl ?_
  exact zY.cx (zm33x h_) rfl rfl rfl rfl (Nat.le_of_ble_eq_true rfl) rfl (by decide) rfl (by decide) (by decide) (by decide) rfl ⟨rfl, rfl, rfl⟩
theorem zm32b {I_ : zIn} {L_ : zLi} {k_ w_ l y_ : Int32} (h_ : 0 ≤ k_ ∧ k_ ≤ 2) (h2 : ¬ (30 ≤ w_ ∧ w_ ≤ 300)) : zYm 6 32 [zwR 6 0, zwI k_, zwI w_, zwI l, zwI y_] I_ L_ 60 (zThw 9 I_ L_) := by
  refine zYm.of (Nat.le_of_ble_eq_true rfl) rfl ?_
  refine zY.go 3 rfl ?_
  refine zY.cr (zm33t h_) rfl rfl rfl rfl (Nat.le_of_ble_eq_true rfl) rfl (by decide) rfl (by decide) (by decide) ?_
  refine zY.go 3 rfl ?_
  exact zY.cx (zm33x h2) rfl rfl rfl rfl (Nat.le_of_ble_eq_true rfl) rfl (by decide) rfl (by decide) (by decide) (by decide) rfl ⟨rfl, rfl, rfl⟩
theorem zm32c {I_ : zIn} {L_ : zLi} {k_ w_ l y_ : Int32} (h_ : 0 ≤ k_ ∧ k_ ≤ 2) (h2 : 30 ≤ w_ ∧ w_ ≤ 300) (h3 : ¬ (0 ≤ l ∧ l ≤ 10)) : zYm 6 32 [zwR 6 0, zwI k_, zwI w_, zwI l, zwI y_] I_ L_ 60 (zThw 9 I_ L_) := by
  refine zYm.of (Nat.le_of_ble_eq_true rfl) rfl ?_
  refine zY.go 3 rfl ?_
  refine zY.cr (zm33t h_) rfl rfl rfl rfl (Nat.le_of_ble_eq_true rfl) rfl (by decide) rfl (by decide) (by decide) ?_
  refine zY.go 3 rfl ?_
  refine zY.cr (zm33t h2) rfl rfl rfl rfl (Nat.le_of_ble_eq_true rfl) rfl (by decide) rfl (by decide) (by decide) ?_
  refine zY.go 3 rfl ?_
  exact zY.cx (zm33x h3) rfl rfl rfl rfl (Nat.le_of_ble_eq_true rfl) rfl (by decide) rfl (by decide) (by decide) (by decide) rfl ⟨rfl, rfl, rfl⟩
theorem zm32d {I_ : zIn} {L_ : zLi} {k_ w_ l y_ : Int32} (h_ : 0 ≤ k_ ∧ k_ ≤ 2) (h2 : 30 ≤ w_ ∧ w_ ≤ 300) (h3 : 0 ≤ l ∧ l ≤ 10) (hn : 16 ≤ (L_ 20 0).length) (hn2 : (L_ 20 0).length ≤ 1000) : zYm 6 32 [zwR 6 0, zwI k_, zwI w_, zwI l, zwI y_] I_ L_ 60 (zThw 10 I_ L_) := by
  refine zYm.of (Nat.le_of_ble_eq_true rfl) rfl ?_
  refine zY.go 3 rfl ?_
  refine zY.cr (zm33t h_) rfl rfl rfl rfl (Nat.le_of_ble_eq_true rfl) rfl (by decide) rfl (by decide) (by decide) ?_
  refine zY.go 3 rfl ?_
  refine zY.cr (zm33t h2) rfl rfl rfl rfl (Nat.le_of_ble_eq_true rfl) rfl (by decide) rfl (by decide) (by decide) ?_
  refine zY.go 3 rfl ?_
  refine zY.cr (zm33t h3) rfl rfl rfl rfl (Nat.le_of_ble_eq_true rfl) rfl (by decide) rfl (by decide) (by decide) ?_
  refine zY.go 4 rfl ?_
  refine zY.bn (y_ := 16) rfl (by omega) (by omega) (fun _ => ?_) (fun hp => absurd hn hp)
  refine zY.go 1 rfl ?_
  exact zY.cx (zm35x) rfl rfl rfl rfl (Nat.le_of_ble_eq_true rfl) rfl (by decide) rfl (by decide) (by decide) (by decide) rfl ⟨rfl, rfl, rfl⟩
theorem zm32t {I_ : zIn} {L_ : zLi} {k_ w_ l y_ : Int32} {i_ : Nat} (h_ : 0 ≤ k_ ∧ k_ ≤ 2) (h2 : 30 ≤ w_ ∧ w_ ≤ 300) (h3 : 0 ≤ l ∧ l ≤ 10) (hn : (L_ 20 0).length < 16) (hi_ : I_ 99 2 i_ ≠ 1) : zYm 6 32 [zwR 6 0, zwI k_, zwI w_, zwI l, zwI y_] I_ L_ 60 (zRet (some (zwI (Int32.ofNat (L_ 20 0).length))) (zrdI I_ i_ k_ w_ l y_) (zlup L_ 20 0 (L_ 20 0 ++ [i_]))) := by
  refine zYm.of (Nat.le_of_ble_eq_true rfl) rfl ?_
  refine zY.go 3 rfl ?_
  refine zY.cr (zm33t h_) rfl rfl rfl rfl (Nat.le_of_ble_eq_true rfl) rfl (by decide) rfl (by decide) (by decide) ?_
  refine zY.go 3 rfl ?_
  refine zY.cr (zm33t h2) rfl rfl rfl rfl (Nat.le_of_ble_eq_true rfl) rfl (by decide) rfl (by decide) (by decide) ?_
  refine zY.go 3 rfl ?_
  refine zY.cr (zm33t h3) rfl rfl rfl rfl (Nat.le_of_ble_eq_true rfl) rfl (by decide) rfl (by decide) (by decide) ?_
  refine zY.go 4 rfl ?_
  refine zY.bn (y_ := 16) rfl (by omega) (by omega) (fun hp => absurd hp (show ¬ 16 ≤ (L_ 20 0).length by omega)) (fun _ => ?_)
  refine zY.go 2 rfl ?_
  refine zY.cr (zm35t (x_ := 1) (by decide)) rfl rfl rfl rfl (Nat.le_of_ble_eq_true rfl) rfl (by decide) rfl (by decide) (by decide) ?_
  refine zY.go 2 rfl ?_
  refine zY.nw 4 (zc87 hi_) rfl (by decide) rfl rfl rfl rfl rfl rfl (by decide) rfl (Nat.le_of_ble_eq_true rfl) (by decide) (by decide) ?_
  refine zY.cr (w_add (c_ := 20) rfl (by omega)) rfl rfl rfl rfl (Nat.le_of_ble_eq_true rfl) rfl (by decide) rfl (by decide) (by decide) ?_
  refine zY.go 6 rfl ?_
  refine zY.ri rfl rfl ⟨?_, rfl, rfl⟩
  show zQr.ofI (Int32.ofNat (zlup L_ 20 0 (L_ 20 0 ++ [i_]) 20 0).length - 1) = _
  rw [zlup_self, List.length_append]
  exact congrArg zQr.ofI (zisubn (a := (L_ 20 0).length + 1) (b := 1) (by omega))
theorem zm49x {I_ : zIn} {L_ : zLi} {x_ : Int32} (h_ : x_ < 0 ∨ Int32.ofNat (L_ 22 0).length ≤ x_) : zYm 5 49 [zwR 6 0, zwI x_] I_ L_ 60 (zThw 11 I_ L_) := by
  refine zYm.of (Nat.le_of_ble_eq_true rfl) rfl ?_
  refine zY.go 2 rfl ?_
  exact zY.cx (zm50x h_) rfl rfl rfl rfl (Nat.le_of_ble_eq_true rfl) rfl (by decide) rfl (by decide) (by decide) (by decide) rfl ⟨rfl, rfl, rfl⟩
theorem zm49a {I_ : zIn} {L_ : zLi} {i_ q_ : Nat} (hs : (L_ 22 0)[i_]? = some q_) (h_ : ¬ I_ 1 q_ 5 = 0) : zYm 5 49 [zwR 6 0, zwI (Int32.ofNat i_)] I_ L_ 60 (zThw 10 I_ L_) := by
  refine zYm.of (Nat.le_of_ble_eq_true rfl) rfl ?_
  refine zY.go 2 rfl ?_
  refine zY.cr (zm50t hs) rfl rfl rfl rfl (Nat.le_of_ble_eq_true rfl) rfl (by decide) rfl (by decide) (by decide) ?_
  refine zY.go 3 rfl ?_
  refine zY.bi rfl (fun _ => ?_) (fun hp => absurd h_ hp)
  refine zY.go 1 rfl ?_
  exact zY.cx (zm35x) rfl rfl rfl rfl (Nat.le_of_ble_eq_true rfl) rfl (by decide) rfl (by decide) (by decide) (by decide) rfl ⟨rfl, rfl, rfl⟩
theorem zm49b {I_ : zIn} {L_ : zLi} {i_ q_ : Nat} (hs : (L_ 22 0)[i_]? = some q_) {u_ v_ : Nat} (h_ : I_ 1 q_ 5 = 0) (hu : I_ 1 q_ 8 = Int32.ofNat u_) (hv : (L_ 21 0)[u_]? = some v_) (hl : zlef I_ L_ v_ q_ = true) : zYm 5 49 [zwR 6 0, zwI (Int32.ofNat i_)] I_ L_ 60 (zThw 10 I_ L_) := by
  refine zYm.of (Nat.le_of_ble_eq_true rfl) rfl ?_
  refine zY.go 2 rfl ?_
  refine zY.cr (zm50t hs) rfl rfl rfl rfl (Nat.le_of_ble_eq_true rfl) rfl (by decide) rfl (by decide) (by decide) ?_
  refine zY.go 3 rfl ?_
  refine zY.bi rfl (fun hp => absurd h_ hp) (fun _ => ?_)
  refine zY.go 2 rfl ?_
  refine zY.cr (zm35t (x_ := 1) (by decide)) rfl rfl rfl rfl (Nat.le_of_ble_eq_true rfl) rfl (by decide) rfl (by decide) (by decide) ?_
  refine zY.go 2 rfl ?_
  refine zY.cr (zm51t hu hv) rfl rfl rfl rfl (Nat.le_of_ble_eq_true rfl) rfl (by decide) rfl (by decide) (by decide) ?_
  refine zY.go 2 rfl ?_
  refine zY.bk (t_ := false) rfl rfl (fun _ => rfl) ?_
  refine zY.go 2 rfl ?_
  refine zY.cr (zm103) rfl rfl rfl rfl (Nat.le_of_ble_eq_true rfl) rfl (by decide) rfl (by decide) (by decide) ?_
  refine zY.bi rfl (fun _ => ?_) (fun hp => absurd (zb_ne0.mpr hl) hp)
  refine zY.go 1 rfl ?_
  exact zY.cx (zm35x) rfl rfl rfl rfl (Nat.le_of_ble_eq_true rfl) rfl (by decide) rfl (by decide) (by decide) (by decide) rfl ⟨rfl, rfl, rfl⟩
def zcnI (I_ : zIn) (q_ : Nat) : zIn := zset (zset I_ 1 q_ 5 4) 1 q_ 14 (if zset I_ 1 q_ 5 4 1 q_ 7 - zset I_ 1 q_ 5 4 6 0 8 < 60 then 1 else 0)
theorem zm49t {I_ : zIn} {L_ : zLi} {i_ q_ : Nat} (hs : (L_ 22 0)[i_]? = some q_) {u_ v_ : Nat} (h_ : I_ 1 q_ 5 = 0) (hu : I_ 1 q_ 8 = Int32.ofNat u_) (hv : (L_ 21 0)[u_]? = some v_) (hl : zlef I_ L_ v_ q_ = false) : zYm 5 49 [zwR 6 0, zwI (Int32.ofNat i_)] I_ L_ 0 (zRet (some (zwI (if znos (zcnI I_ q_ 1 q_) = true then 1 else 0))) (zcnI I_ q_) (zlup L_ 24 v_ (ztko q_ (L_ 24 v_).length (L_ 24 v_)))) := by
  refine zYm.of (Nat.le_of_ble_eq_true rfl) rfl ?_
  refine zY.go 2 rfl ?_
  refine zY.cr (zm50t hs) rfl rfl rfl rfl (Nat.le_of_ble_eq_true rfl) rfl (by decide) rfl (by decide) (by decide) ?_
  refine zY.go 3 rfl ?_
  refine zY.bi rfl (fun hp => absurd h_ hp) (fun _ => ?_)
  refine zY.go 2 rfl ?_
  refine zY.cr (zm35t (x_ := 1) (by decide)) rfl rfl rfl rfl (Nat.le_of_ble_eq_true rfl) rfl (by decide) rfl (by decide) (by decide) ?_
  refine zY.go 2 rfl ?_
  refine zY.cr (zm51t hu hv) rfl rfl rfl rfl (Nat.le_of_ble_eq_true rfl) rfl (by decide) rfl (by decide) (by decide) ?_
  refine zY.go 2 rfl ?_
  refine zY.bk (t_ := false) rfl rfl (fun _ => rfl) ?_
  refine zY.go 2 rfl ?_
  refine zY.cr (zm103) rfl rfl rfl rfl (Nat.le_of_ble_eq_true rfl) rfl (by decide) rfl (by decide) (by decide) ?_
  refine zY.bi rfl (fun hp => by have := zb_ne0.mp hp; rw [hl] at this; cases this) (fun _ => ?_)
  refine zY.go 2 rfl ?_
  refine zY.cr (zm35t (x_ := 1) (by decide)) rfl rfl rfl rfl (Nat.le_of_ble_eq_true rfl) rfl (by decide) rfl (by decide) (by decide) ?_
  refine zY.go 1 rfl ?_
  refine zY.bk (t_ := false) rfl rfl (fun _ => rfl) ?_
  refine zY.go 2 rfl ?_
  refine zY.cr (zm104) rfl rfl rfl rfl (Nat.le_of_ble_eq_true rfl) rfl (by decide) rfl (by decide) (by decide) ?_
  refine zY.go 10 rfl ?_
  refine zY.bc rfl (fun hp => ?_) (fun hp => ?_)
  · have e_ : zcnI I_ q_ = zset (zset I_ 1 q_ 5 4) 1 q_ 14 0 := by unfold zcnI; rw [if_neg (Int32.not_lt.mpr hp)]
    rw [e_]
    refine zY.go 3 rfl ?_
    refine zY.cr (zm84) rfl rfl rfl rfl (Nat.le_of_ble_eq_true rfl) rfl (by decide) rfl (by decide) (by decide) ?_
    exact zY.rb rfl rfl (by split <;> simp) ⟨rfl, rfl, rfl⟩
  · have e_ : zcnI I_ q_ = zset (zset I_ 1 q_ 5 4) 1 q_ 14 1 := by unfold zcnI; rw [if_pos (Int32.not_le.mp hp)]
    rw [e_]
    refine zY.go 4 rfl ?_
    refine zY.cr (zm84) rfl rfl rfl rfl (Nat.le_of_ble_eq_true rfl) rfl (by decide) rfl (by decide) (by decide) ?_
    exact zY.rb rfl rfl (by split <;> simp) ⟨rfl, rfl, rfl⟩
theorem zm42x {I_ : zIn} {L_ : zLi} {z_ x_ y_ w_ : Int32} (h_ : z_ < 0 ∨ Int32.ofNat (L_ 20 0).length ≤ z_) : zYm 13 42 [zwR 6 0, zwI z_, zwI x_, zwI y_, zwI w_] I_ L_ 200 (zThw 11 I_ L_) := by
  refine zYm.of (Nat.le_of_ble_eq_true rfl) rfl ?_
  refine zY.go 2 rfl ?_
  exact zY.cx (zm43x h_) rfl rfl rfl rfl (Nat.le_of_ble_eq_true rfl) rfl (by decide) rfl (by decide) (by decide) (by decide) rfl ⟨rfl, rfl, rfl⟩
theorem zm42a {I_ : zIn} {L_ : zLi} {i_ p_ : Nat} {x_ y_ w_ : Int32} (hs : (L_ 20 0)[i_]? = some p_) (h_ : ¬ (0 ≤ x_ ∧ x_ ≤ 35)) : zYm 13 42 [zwR 6 0, zwI (Int32.ofNat i_), zwI x_, zwI y_, zwI w_] I_ L_ 200 (zThw 9 I_ L_) := by
  refine zYm.of (Nat.le_of_ble_eq_true rfl) rfl ?_
  refine zY.go 2 rfl ?_
  refine zY.cr (zm43t hs) rfl rfl rfl rfl (Nat.le_of_ble_eq_true rfl) rfl (by decide) rfl (by decide) (by decide) ?_
  refine zY.go 2 rfl ?_
  exact zY.cx (zm37x h_) rfl rfl rfl rfl (Nat.le_of_ble_eq_true rfl) rfl (by decide) rfl (by decide) (by decide) (by decide) rfl ⟨rfl, rfl, rfl⟩
theorem zm42b {I_ : zIn} {L_ : zLi} {i_ p_ : Nat} {x_ y_ w_ : Int32} (hs : (L_ 20 0)[i_]? = some p_) (hx : 0 ≤ x_ ∧ x_ ≤ 35) (h_ : ¬ (0 ≤ y_ ∧ y_ ≤ 35)) : zYm 13 42 [zwR 6 0, zwI (Int32.ofNat i_), zwI x_, zwI y_, zwI w_] I_ L_ 200 (zThw 9 I_ L_) := by
  refine zYm.of (Nat.le_of_ble_eq_true rfl) rfl ?_
  refine zY.go 2 rfl ?_
  refine zY.cr (zm43t hs) rfl rfl rfl rfl (Nat.le_of_ble_eq_true rfl) rfl (by decide) rfl (by decide) (by decide) ?_
  refine zY.go 2 rfl ?_
  refine zY.cr (zm37t hx) rfl rfl rfl rfl (Nat.le_of_ble_eq_true rfl) rfl (by decide) rfl (by decide) (by decide) ?_
  refine zY.go 1 rfl ?_
  exact zY.cx (zm37x h_) rfl rfl rfl rfl (Nat.le_of_ble_eq_true rfl) rfl (by decide) rfl (by decide) (by decide) (by decide) rfl ⟨rfl, rfl, rfl⟩
theorem zm42c {I_ : zIn} {L_ : zLi} {i_ p_ : Nat} {x_ y_ w_ : Int32} (hs : (L_ 20 0)[i_]? = some p_) (hx : 0 ≤ x_ ∧ x_ ≤ 35) (hy : 0 ≤ y_ ∧ y_ ≤ 35) (h_ : ¬ (0 ≤ w_ ∧ w_ ≤ 600)) : zYm 13 42 [zwR 6 0, zwI (Int32.ofNat i_), zwI x_, zwI y_, zwI w_] I_ L_ 200 (zThw 9 I_ L_) := by
  refine zYm.of (Nat.le_of_ble_eq_true rfl) rfl ?_
  refine zY.go 2 rfl ?_
  refine zY.cr (zm43t hs) rfl rfl rfl rfl (Nat.le_of_ble_eq_true rfl) rfl (by decide) rfl (by decide) (by decide) ?_
  refine zY.go 2 rfl ?_
  refine zY.cr (zm37t hx) rfl rfl rfl rfl (Nat.le_of_ble_eq_true rfl) rfl (by decide) rfl (by decide) (by decide) ?_
  refine zY.go 1 rfl ?_
  refine zY.cr (zm37t hy) rfl rfl rfl rfl (Nat.le_of_ble_eq_true rfl) rfl (by decide) rfl (by decide) (by decide) ?_
  refine zY.go 3 rfl ?_
  exact zY.cx (zm33x h_) rfl rfl rfl rfl (Nat.le_of_ble_eq_true rfl) rfl (by decide) rfl (by decide) (by decide) (by decide) rfl ⟨rfl, rfl, rfl⟩
theorem zm42d {I_ : zIn} {L_ : zLi} {i_ p_ : Nat} {x_ y_ w_ : Int32} (hs : (L_ 20 0)[i_]? = some p_) (hx : 0 ≤ x_ ∧ x_ ≤ 35) (hy : 0 ≤ y_ ∧ y_ ≤ 35) (hw : 0 ≤ w_ ∧ w_ ≤ 600) (h_ : x_ = y_) : zYm 13 42 [zwR 6 0, zwI (Int32.ofNat i_), zwI x_, zwI y_, zwI w_] I_ L_ 200 (zThw 9 I_ L_) := by
  refine zYm.of (Nat.le_of_ble_eq_true rfl) rfl ?_
  refine zY.go 2 rfl ?_
  refine zY.cr (zm43t hs) rfl rfl rfl rfl (Nat.le_of_ble_eq_true rfl) rfl (by decide) rfl (by decide) (by decide) ?_
  refine zY.go 2 rfl ?_
  refine zY.cr (zm37t hx) rfl rfl rfl rfl (Nat.le_of_ble_eq_true rfl) rfl (by decide) rfl (by decide) (by decide) ?_
  refine zY.go 1 rfl ?_
  refine zY.cr (zm37t hy) rfl rfl rfl rfl (Nat.le_of_ble_eq_true rfl) rfl (by decide) rfl (by decide) (by decide) ?_
  refine zY.go 3 rfl ?_
  refine zY.cr (zm33t hw) rfl rfl rfl rfl (Nat.le_of_ble_eq_true rfl) rfl (by decide) rfl (by decide) (by decide) ?_
  refine zY.go 2 rfl ?_
  refine zY.bc rfl (fun _ => ?_) (fun hp => absurd h_ hp)
  refine zY.go 1 rfl ?_
  exact zY.cx (zm34x) rfl rfl rfl rfl (Nat.le_of_ble_eq_true rfl) rfl (by decide) rfl (by decide) (by decide) (by decide) rfl ⟨rfl, rfl, rfl⟩
theorem zm42e {I_ : zIn} {L_ : zLi} {i_ p_ : Nat} {x_ y_ w_ : Int32} (hs : (L_ 20 0)[i_]? = some p_) (hx : 0 ≤ x_ ∧ x_ ≤ 35) (hy : 0 ≤ y_ ∧ y_ ≤ 35) (hw : 0 ≤ w_ ∧ w_ ≤ 600) (hxy : ¬ x_ = y_) (hn : 60 ≤ (L_ 22 0).length) (hn2 : (L_ 22 0).length ≤ 1000) : zYm 13 42 [zwR 6 0, zwI (Int32.ofNat i_), zwI x_, zwI y_, zwI w_] I_ L_ 200 (zThw 10 I_ L_) := by
  refine zYm.of (Nat.le_of_ble_eq_true rfl) rfl ?_
  refine zY.go 2 rfl ?_
  refine zY.cr (zm43t hs) rfl rfl rfl rfl (Nat.le_of_ble_eq_true rfl) rfl (by decide) rfl (by decide) (by decide) ?_
  refine zY.go 2 rfl ?_
  refine zY.cr (zm37t hx) rfl rfl rfl rfl (Nat.le_of_ble_eq_true rfl) rfl (by decide) rfl (by decide) (by decide) ?_
  refine zY.go 1 rfl ?_
  refine zY.cr (zm37t hy) rfl rfl rfl rfl (Nat.le_of_ble_eq_true rfl) rfl (by decide) rfl (by decide) (by decide) ?_
  refine zY.go 3 rfl ?_
  refine zY.cr (zm33t hw) rfl rfl rfl rfl (Nat.le_of_ble_eq_true rfl) rfl (by decide) rfl (by decide) (by decide) ?_
  refine zY.go 2 rfl ?_
  refine zY.bc rfl (fun hp => absurd hp hxy) (fun _ => ?_)
  refine zY.go 2 rfl ?_
  refine zY.cr (zm34t (x_ := 1) (by decide)) rfl rfl rfl rfl (Nat.le_of_ble_eq_true rfl) rfl (by decide) rfl (by decide) (by decide) ?_
  refine zY.go 4 rfl ?_
  refine zY.bn (y_ := 60) rfl (by omega) (by omega) (fun _ => ?_) (fun hp => absurd hn hp)
  refine zY.go 1 rfl ?_
  exact zY.cx (zm35x) rfl rfl rfl rfl (Nat.le_of_ble_eq_true rfl) rfl (by decide) rfl (by decide) (by decide) (by decide) rfl ⟨rfl, rfl, rfl⟩
def zaqI (I_ : zIn) (q_ p_ : Nat) (x_ y_ : Int32) : zIn := znwI I_ 1 q_ (zrw [Int32.ofNat p_, x_, y_, I_ 6 0 7, 10 + 4 * zstp x_ y_, 0, 0, -1, -1, -1, -1, -1, -1, 0, 0])
def zdny (I_ : zIn) (q_ : Nat) (x_ : Int32) : zIn := zset (zset (zset I_ 1 q_ 5 6) 1 q_ 6 x_) 1 q_ 7 (-1)
def zas1 (I_ : zIn) (L_ : zLi) (q_ p_ : Nat) (x_ y_ w_ : Int32) : zIn × zLi :=
  if zowd I_ p_ x_ y_ = true then
    (if zsus I_ L_ p_ = true then (zdny I_ q_ 2, L_)
    else if (zprl q_ w_ 13 0 (zps I_ q_) L_).1 = true then (zprl q_ w_ 13 0 (zps I_ q_) L_).2 else (zdny (zprl q_ w_ 13 0 (zps I_ q_) L_).2.1 q_ 3, (zprl q_ w_ 13 0 (zps I_ q_) L_).2.2))
  else (zdny I_ q_ 1, L_)
def zask (I_ : zIn) (L_ : zLi) (q_ p_ : Nat) (x_ y_ w_ : Int32) : zIn × zLi := ((zas1 (zaqI I_ q_ p_ x_ y_) L_ q_ p_ x_ y_ w_).1, zlup (zas1 (zaqI I_ q_ p_ x_ y_) L_ q_ p_ x_ y_ w_).2 22 0 ((zas1 (zaqI I_ q_ p_ x_ y_) L_ q_ p_ x_ y_ w_).2 22 0 ++ [q_]))
theorem zprl_ne {q_ : Nat} {w_ : Int32} {c_ u_ : Nat} (h_ : ¬ c_ = 27) (h2 : ¬ c_ = 24) : ∀ (n_ t_ : Nat) (I_ : zIn) (L_ : zLi), (zprl q_ w_ n_ t_ I_ L_).2.2 c_ u_ = L_ c_ u_
  | 0, _, _, _ => rfl
  | n_ + 1, t_, I_, L_ => by
    unfold zprl
    split
    · split
      · exact zpb_ne h_ h2
      · rw [zprl_ne h_ h2 n_, zpb_ne h_ h2]
    · exact zprl_ne h_ h2 n_ _ _ _
theorem zas1_22 {I_ : zIn} {L_ : zLi} {q_ p_ : Nat} {x_ y_ w_ : Int32} : (zas1 I_ L_ q_ p_ x_ y_ w_).2 22 0 = L_ 22 0 := by
  unfold zas1
  split
  · split
    · rfl
    · split
      · exact zprl_ne (by decide) (by decide) _ _ _ _
      · exact zprl_ne (by decide) (by decide) _ _ _ _
  · rfl
theorem zm42z {q_ : Nat} {a_ : Nat} {k2_ k3_ k4_ k5_ : Option zW} {w1_ : Int32} {I_ : zIn} {L_ : zLi} (hn : (L_ 22 0).length < 60) : zY none 13 42 129 [some (zwR 6 0), k2_, k3_, k4_, some (zwI w1_), k5_, some (zwR 1 q_)] [] I_ L_ a_ (zRet (some (zwI (Int32.ofNat (L_ 22 0).length))) I_ (zlup L_ 22 0 (L_ 22 0 ++ [q_]))) := by
  refine zY.go 3 rfl ?_
  refine zY.cr (w_add (c_ := 22) rfl (by omega)) rfl rfl rfl rfl (Nat.le_of_ble_eq_true rfl) rfl (by decide) rfl (by decide) (Nat.zero_le _) ?_
  refine zY.go 6 rfl ?_
  refine zY.ri rfl rfl ⟨?_, rfl, rfl⟩
  show zQr.ofI (Int32.ofNat (zlup L_ 22 0 (L_ 22 0 ++ [q_]) 22 0).length - 1) = _
  rw [zlup_self, List.length_append]
  exact congrArg zQr.ofI (zisubn (a := (L_ 22 0).length + 1) (b := 1) (by omega))
theorem zm42t {I_ : zIn} {L_ : zLi} {i_ p_ : Nat} {x_ y_ w_ : Int32} (hs : (L_ 20 0)[i_]? = some p_) (hx : 0 ≤ x_ ∧ x_ ≤ 35) (hy : 0 ≤ y_ ∧ y_ ≤ 35) (hw : 0 ≤ w_ ∧ w_ ≤ 600) {q_ : Nat} (hxy : ¬ x_ = y_) (hn : (L_ 22 0).length < 60) (hp : p_ < 1000) (hq : I_ 99 1 q_ ≠ 1) (hq0 : I_ 99 4 (2 * q_) ≠ 1) (hq1 : I_ 99 4 (2 * q_ + 1) ≠ 1) (hb_ : zsbd2 L_) : zYm 13 42 [zwR 6 0, zwI (Int32.ofNat i_), zwI x_, zwI y_, zwI w_] I_ L_ 200 (zRet (some (zwI (Int32.ofNat (L_ 22 0).length))) (zask I_ L_ q_ p_ x_ y_ w_).1 (zask I_ L_ q_ p_ x_ y_ w_).2) := by
  refine zYm.of (Nat.le_of_ble_eq_true rfl) rfl ?_
  refine zY.go 2 rfl ?_
  refine zY.cr (zm43t hs) rfl rfl rfl rfl (Nat.le_of_ble_eq_true rfl) rfl (by decide) rfl (by decide) (by decide) ?_
  refine zY.go 2 rfl ?_
  refine zY.cr (zm37t hx) rfl rfl rfl rfl (Nat.le_of_ble_eq_true rfl) rfl (by decide) rfl (by decide) (by decide) ?_
  refine zY.go 1 rfl ?_
  refine zY.cr (zm37t hy) rfl rfl rfl rfl (Nat.le_of_ble_eq_true rfl) rfl (by decide) rfl (by decide) (by decide) ?_
  refine zY.go 3 rfl ?_
  refine zY.cr (zm33t hw) rfl rfl rfl rfl (Nat.le_of_ble_eq_true rfl) rfl (by decide) rfl (by decide) (by decide) ?_
  refine zY.go 2 rfl ?_
  refine zY.bc rfl (fun hp => absurd hp hxy) (fun _ => ?_)
  refine zY.go 2 rfl ?_
  refine zY.cr (zm34t (x_ := 1) (by decide)) rfl rfl rfl rfl (Nat.le_of_ble_eq_true rfl) rfl (by decide) rfl (by decide) (by decide) ?_
  refine zY.go 4 rfl ?_
  refine zY.bn (y_ := 60) rfl (by omega) (by omega) (fun hp => absurd hp (show ¬ 60 ≤ (L_ 22 0).length by omega)) (fun _ => ?_)
  refine zY.go 2 rfl ?_
  refine zY.cr (zm35t (x_ := 1) (by decide)) rfl rfl rfl rfl (Nat.le_of_ble_eq_true rfl) rfl (by decide) rfl (by decide) (by decide) ?_
  refine zY.nw 5 (zc82 hp hq) rfl (by decide) rfl rfl rfl rfl rfl rfl (by decide) rfl (Nat.le_of_ble_eq_true rfl) (by decide) (by decide) ?_
  show zY _ _ _ _ _ _ (zaqI I_ q_ p_ x_ y_) L_ _ _
  refine zY.go 5 rfl ?_
  refine zY.cr (zm44) rfl rfl rfl rfl (Nat.le_of_ble_eq_true rfl) rfl (by decide) rfl (by decide) (by decide) ?_
  have e22_ := zas1_22 (I_ := zaqI I_ q_ p_ x_ y_) (L_ := L_) (q_ := q_) (p_ := p_) (x_ := x_) (y_ := y_) (w_ := w_)
  unfold zask; rw [e22_]; unfold zas1
  refine zY.bi rfl (fun h1 => ?_) (fun h1 => ?_)
  · rw [if_pos (zb_ne0.mp h1)]
    refine zY.go 2 rfl ?_
    refine zY.cr (zm46) rfl rfl rfl rfl (Nat.le_of_ble_eq_true rfl) rfl (by decide) rfl (by decide) (by decide) ?_
    refine zY.bi rfl (fun h2 => ?_) (fun h2 => ?_)
    · rw [if_neg (by rw [zb_eq0.mp h2]; decide)]
      refine zY.go 3 rfl ?_
      refine zY.cr (zm48 (fun h_ => hq0 ((znwI_99.mp h_).elim (fun e_ => absurd e_.1 (by decide)) id)) (fun h_ => hq1 ((znwI_99.mp h_).elim (fun e_ => absurd e_.1 (by decide)) id)) hb_) rfl rfl rfl rfl (Nat.le_of_ble_eq_true rfl) rfl (by decide) rfl (by decide) (by decide) ?_
      have e2_ := zprl_ne (q_ := q_) (w_ := w_) (c_ := 22) (u_ := 0) (by decide) (by decide) 13 0 (zps (zaqI I_ q_ p_ x_ y_) q_) L_
      refine zY.bi rfl (fun h3 => ?_) (fun h3 => ?_)
      · rw [if_pos (zb_ne0.mp h3)]
        rw [← e2_]
        exact zm42z (by rw [e2_]; exact hn)
      · rw [if_neg (fun h_ => h3 (zb_ne0.mpr h_))]
        refine zY.go 2 rfl ?_
        refine zY.cr (zm83) rfl rfl rfl rfl (Nat.le_of_ble_eq_true rfl) rfl (by decide) rfl (by decide) (by decide) ?_
        rw [← e2_]
        exact zm42z (by rw [e2_]; exact hn)
    · rw [if_pos (by cases h_ : zsus (zaqI I_ q_ p_ x_ y_) L_ p_; exact absurd (zb_eq0.mpr h_) h2; rfl)]
      refine zY.go 2 rfl ?_
      refine zY.cr (zm83) rfl rfl rfl rfl (Nat.le_of_ble_eq_true rfl) rfl (by decide) rfl (by decide) (by decide) ?_
      refine zY.go 1 rfl ?_
      exact zm42z hn
  · rw [if_neg (fun h_ => h1 (zb_ne0.mpr h_))]
    refine zY.go 2 rfl ?_
    refine zY.cr (zm83) rfl rfl rfl rfl (Nat.le_of_ble_eq_true rfl) rfl (by decide) rfl (by decide) (by decide) ?_
    refine zY.go 1 rfl ?_
    exact zm42z hn

