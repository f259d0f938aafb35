/-! CONTRACTS: vehicle; the object's own constructor -/
theorem zm39a {I_ : zIn} {L_ : zLi} {k_ w_ l y_ : Int32} (h_ : ¬ (0 ≤ k_ ∧ k_ ≤ 35)) : zYm 6 39 [zwR 6 0, zwI k_, zwI w_, zwI l, zwI y_] I_ L_ 100 (zThw 9 I_ L_) := by
  refine zYm.of (Nat.le_of_ble_eq_true rfl) rfl ?_
  refine zY.go 1 rfl ?_
  exact zY.cx (zm37x h_) rfl rfl rfl rfl (Nat.le_of_ble_eq_true rfl) rfl (by decide) rfl (by decide) (by decide) (by decide) rfl ⟨rfl, rfl, rfl⟩
theorem zm39b {I_ : zIn} {L_ : zLi} {k_ w_ l y_ : Int32} (h_ : 0 ≤ k_ ∧ k_ ≤ 35) (h2 : ¬ (1 ≤ w_ ∧ w_ ≤ 8)) : zYm 6 39 [zwR 6 0, zwI k_, zwI w_, zwI l, zwI y_] I_ L_ 100 (zThw 9 I_ L_) := by
  refine zYm.of (Nat.le_of_ble_eq_true rfl) rfl ?_
  refine zY.go 1 rfl ?_
  refine zY.cr (zm37t h_) rfl rfl rfl rfl (Nat.le_of_ble_eq_true rfl) rfl (by decide) rfl (by decide) (by decide) ?_
  refine zY.go 3 rfl ?_
  exact zY.cx (zm33x h2) rfl rfl rfl rfl (Nat.le_of_ble_eq_true rfl) rfl (by decide) rfl (by decide) (by decide) (by decide) rfl ⟨rfl, rfl, rfl⟩
theorem zm39c {I_ : zIn} {L_ : zLi} {k_ w_ l y_ : Int32} (h_ : 0 ≤ k_ ∧ k_ ≤ 35) (h2 : 1 ≤ w_ ∧ w_ ≤ 8) (h3 : ¬ (0 ≤ l ∧ l ≤ 3)) : zYm 6 39 [zwR 6 0, zwI k_, zwI w_, zwI l, zwI y_] I_ L_ 100 (zThw 9 I_ L_) := by
  refine zYm.of (Nat.le_of_ble_eq_true rfl) rfl ?_
  refine zY.go 1 rfl ?_
  refine zY.cr (zm37t h_) rfl rfl rfl rfl (Nat.le_of_ble_eq_true rfl) rfl (by decide) rfl (by decide) (by decide) ?_
  refine zY.go 3 rfl ?_
  refine zY.cr (zm33t h2) rfl rfl rfl rfl (Nat.le_of_ble_eq_true rfl) rfl (by decide) rfl (by decide) (by decide) ?_
  refine zY.go 3 rfl ?_
  exact zY.cx (zm33x h3) rfl rfl rfl rfl (Nat.le_of_ble_eq_true rfl) rfl (by decide) rfl (by decide) (by decide) (by decide) rfl ⟨rfl, rfl, rfl⟩
theorem zm39d {I_ : zIn} {L_ : zLi} {k_ w_ l y_ : Int32} (h_ : 0 ≤ k_ ∧ k_ ≤ 35) (h2 : 1 ≤ w_ ∧ w_ ≤ 8) (h3 : 0 ≤ l ∧ l ≤ 3) (h4 : ¬ (50 ≤ y_ ∧ y_ ≤ 400)) : zYm 6 39 [zwR 6 0, zwI k_, zwI w_, zwI l, zwI y_] I_ L_ 100 (zThw 9 I_ L_) := by
  refine zYm.of (Nat.le_of_ble_eq_true rfl) rfl ?_
  refine zY.go 1 rfl ?_
  refine zY.cr (zm37t h_) rfl rfl rfl rfl (Nat.le_of_ble_eq_true rfl) rfl (by decide) rfl (by decide) (by decide) ?_
  refine zY.go 3 rfl ?_
  refine zY.cr (zm33t h2) rfl rfl rfl rfl (Nat.le_of_ble_eq_true rfl) rfl (by decide) rfl (by decide) (by decide) ?_
  refine zY.go 3 rfl ?_
  refine zY.cr (zm33t h3) rfl rfl rfl rfl (Nat.le_of_ble_eq_true rfl) rfl (by decide) rfl (by decide) (by decide) ?_
  refine zY.go 3 rfl ?_
  exact zY.cx (zm33x h4) rfl rfl rfl rfl (Nat.le_of_ble_eq_true rfl) rfl (by decide) rfl (by decide) (by decide) (by decide) rfl ⟨rfl, rfl, rfl⟩
theorem zm39e {I_ : zIn} {L_ : zLi} {k_ w_ l y_ : Int32} (h_ : 0 ≤ k_ ∧ k_ ≤ 35) (h2 : 1 ≤ w_ ∧ w_ ≤ 8) (h3 : 0 ≤ l ∧ l ≤ 3) (h4 : 50 ≤ y_ ∧ y_ ≤ 400) (hn : 4 ≤ (L_ 21 0).length) (hn2 : (L_ 21 0).length ≤ 1000) : zYm 6 39 [zwR 6 0, zwI k_, zwI w_, zwI l, zwI y_] I_ L_ 100 (zThw 10 I_ L_) := by
  refine zYm.of (Nat.le_of_ble_eq_true rfl) rfl ?_
  refine zY.go 1 rfl ?_
  refine zY.cr (zm37t h_) rfl rfl rfl rfl (Nat.le_of_ble_eq_true rfl) rfl (by decide) rfl (by decide) (by decide) ?_
  refine zY.go 3 rfl ?_
  refine zY.cr (zm33t h2) rfl rfl rfl rfl (Nat.le_of_ble_eq_true rfl) rfl (by decide) rfl (by decide) (by decide) ?_
  refine zY.go 3 rfl ?_
  refine zY.cr (zm33t h3) rfl rfl rfl rfl (Nat.le_of_ble_eq_true rfl) rfl (by decide) rfl (by decide) (by decide) ?_
  refine zY.go 3 rfl ?_
  refine zY.cr (zm33t h4) rfl rfl rfl rfl (Nat.le_of_ble_eq_true rfl) rfl (by decide) rfl (by decide) (by decide) ?_
  refine zY.go 4 rfl ?_
  refine zY.bn (y_ := 4) rfl (by omega) (by omega) (fun _ => ?_) (fun hp => absurd hn hp)
  refine zY.go 1 rfl ?_
  exact zY.cx (zm35x) rfl rfl rfl rfl (Nat.le_of_ble_eq_true rfl) rfl (by decide) rfl (by decide) (by decide) (by decide) rfl ⟨rfl, rfl, rfl⟩
theorem zm39t {I_ : zIn} {L_ : zLi} {k_ w_ l y_ : Int32} {v_ : Nat} (h_ : 0 ≤ k_ ∧ k_ ≤ 35) (h2 : 1 ≤ w_ ∧ w_ ≤ 8) (h3 : 0 ≤ l ∧ l ≤ 3) (h4 : 50 ≤ y_ ∧ y_ ≤ 400) (hv : (L_ 21 0).length = v_) (hn : v_ < 4) (n5_ : I_ 99 5 v_ ≠ 1) (n0_ : I_ 99 0 v_ ≠ 1) (n24_ : I_ 99 24 v_ ≠ 1) (n25_ : I_ 99 25 v_ ≠ 1) (n26_ : I_ 99 26 v_ ≠ 1) (n27 : I_ 99 27 v_ ≠ 1) (l24 : L_ 24 v_ = []) (l25 : L_ 25 v_ = []) (l26 : L_ 26 v_ = []) (l27 : L_ 27 v_ = []) : zYm 6 39 [zwR 6 0, zwI k_, zwI w_, zwI l, zwI y_] I_ L_ 100 (zRet (some (zwI (Int32.ofNat v_))) (zveI I_ v_ k_ w_ l y_) (zlup L_ 21 0 (L_ 21 0 ++ [v_]))) := by
  refine zYm.of (Nat.le_of_ble_eq_true rfl) rfl ?_
  subst hv
  refine zY.go 1 rfl ?_
  refine zY.cr (zm37t h_) rfl rfl rfl rfl (Nat.le_of_ble_eq_true rfl) rfl (by decide) rfl (by decide) (by decide) ?_
  refine zY.go 3 rfl ?_
  refine zY.cr (zm33t h2) rfl rfl rfl rfl (Nat.le_of_ble_eq_true rfl) rfl (by decide) rfl (by decide) (by decide) ?_
  refine zY.go 3 rfl ?_
  refine zY.cr (zm33t h3) rfl rfl rfl rfl (Nat.le_of_ble_eq_true rfl) rfl (by decide) rfl (by decide) (by decide) ?_
  refine zY.go 3 rfl ?_
  refine zY.cr (zm33t h4) rfl rfl rfl rfl (Nat.le_of_ble_eq_true rfl) rfl (by decide) rfl (by decide) (by decide) ?_
  refine zY.go 4 rfl ?_
  refine zY.bn (y_ := 4) rfl (by omega) (by omega) (fun hp => absurd hp (show ¬ 4 ≤ (L_ 21 0).length by omega)) (fun _ => ?_)
  refine zY.go 2 rfl ?_
  refine zY.cr (zm35t (x_ := 1) (by decide)) rfl rfl rfl rfl (Nat.le_of_ble_eq_true rfl) rfl (by decide) rfl (by decide) (by decide) ?_
  refine zY.go 2 rfl ?_
  refine zY.nw 7 (zc96n (y1 := k_) (y2 := w_) (y3 := l) (y4 := y_) hn n5_ n0_ n24_ n25_ n26_ n27 l24 l25 l26 l27) rfl (by decide) rfl rfl rfl rfl rfl rfl (by decide) rfl (Nat.le_of_ble_eq_true rfl) (by decide) (by decide) ?_
  refine zY.cr (w_add (c_ := 21) rfl (by omega)) rfl rfl rfl rfl (Nat.le_of_ble_eq_true rfl) rfl (by decide) rfl (by decide) (by decide) ?_
  refine zY.go 6 rfl ?_
  refine zY.ri rfl rfl ⟨?_, rfl, rfl⟩
  show zQr.ofI (Int32.ofNat (zlup L_ 21 0 (L_ 21 0 ++ [(L_ 21 0).length]) 21 0).length - 1) = _
  rw [zlup_self, List.length_append]
  exact congrArg zQr.ofI (zisubn (a := (L_ 21 0).length + 1) (b := 1) (by omega))

