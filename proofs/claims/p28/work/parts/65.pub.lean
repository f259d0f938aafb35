/-! CONTRACTS: what is asked and told, call by call -/
theorem zm24 {I_ : zIn} {L_ : zLi}  : zYm 1 24 [zwR 6 0] I_ L_ 0 (zRet (some (zwI (I_ 6 0 7))) I_ L_) := by
  refine zYm.of (Nat.le_of_ble_eq_true rfl) rfl ?_
  refine zY.go 2 rfl ?_
  exact zY.ri rfl rfl ⟨rfl, rfl, rfl⟩
theorem zm25 {I_ : zIn} {L_ : zLi}  : zYm 1 25 [zwR 6 0] I_ L_ 0 (zRet (some (zwI (I_ 6 0 8))) I_ L_) := by
  refine zYm.of (Nat.le_of_ble_eq_true rfl) rfl ?_
  refine zY.go 2 rfl ?_
  exact zY.ri rfl rfl ⟨rfl, rfl, rfl⟩
theorem zm40t {I_ : zIn} {L_ : zLi} {i_ v_ : Nat} (hs : (L_ 21 0)[i_]? = some v_) {x_ : Int32} (hx : x_ = 0 ∨ x_ = 1) : zYm 4 40 [zwR 6 0, zwI (Int32.ofNat i_), zwI x_] I_ L_ 0 (zRet (some (zwI (zbo (I_ 5 v_ 9)))) (zset I_ 5 v_ 9 x_) L_) := by
  refine zYm.of (Nat.le_of_ble_eq_true rfl) rfl ?_
  refine zY.go 2 rfl ?_
  refine zY.cr (zm41t hs) rfl rfl rfl rfl (Nat.le_of_ble_eq_true rfl) rfl (by decide) rfl (by decide) (by decide) ?_
  refine zY.go 6 rfl ?_
  refine zY.pf rfl (by decide) (by decide) (Or.inr ⟨rfl, hx⟩) ?_
  refine zY.go 1 rfl ?_
  exact zY.rb rfl rfl (zbo_01 _) ⟨rfl, rfl, rfl⟩
theorem zm40x {I_ : zIn} {L_ : zLi} {x_ y_ : Int32} (h_ : x_ < 0 ∨ Int32.ofNat (L_ 21 0).length ≤ x_) : zYm 4 40 [zwR 6 0, zwI x_, zwI y_] I_ L_ 60 (zThw 11 I_ L_) := by
  refine zYm.of (Nat.le_of_ble_eq_true rfl) rfl ?_
  refine zY.go 2 rfl ?_
  exact zY.cx (zm41x h_) rfl rfl rfl rfl (Nat.le_of_ble_eq_true rfl) rfl (by decide) rfl (by decide) (by decide) (by decide) rfl ⟨rfl, rfl, rfl⟩
theorem zm67t {I_ : zIn} {L_ : zLi} {i_ v_ : Nat} (hs : (L_ 21 0)[i_]? = some v_) : zYm 4 67 [zwR 6 0, zwI (Int32.ofNat i_)] I_ L_ 0 (zRet (some (zwI (zsbd I_ (L_ 25 v_) 0))) I_ L_) := by
  refine zYm.of (Nat.le_of_ble_eq_true rfl) rfl ?_
  refine zY.go 2 rfl ?_
  refine zY.cr (zm41t hs) rfl rfl rfl rfl (Nat.le_of_ble_eq_true rfl) rfl (by decide) rfl (by decide) (by decide) ?_
  refine zY.cr (zm117) rfl rfl rfl rfl (Nat.le_of_ble_eq_true rfl) rfl (by decide) rfl (by decide) (by decide) ?_
  exact zY.ri rfl rfl ⟨rfl, rfl, rfl⟩
theorem zm67x {I_ : zIn} {L_ : zLi} {x_ : Int32} (h_ : x_ < 0 ∨ Int32.ofNat (L_ 21 0).length ≤ x_) : zYm 4 67 [zwR 6 0, zwI x_] I_ L_ 60 (zThw 11 I_ L_) := by
  refine zYm.of (Nat.le_of_ble_eq_true rfl) rfl ?_
  refine zY.go 2 rfl ?_
  exact zY.cx (zm41x h_) rfl rfl rfl rfl (Nat.le_of_ble_eq_true rfl) rfl (by decide) rfl (by decide) (by decide) (by decide) rfl ⟨rfl, rfl, rfl⟩
theorem zm68t {I_ : zIn} {L_ : zLi} {i_ v_ : Nat} (hs : (L_ 21 0)[i_]? = some v_) : zYm 4 68 [zwR 6 0, zwI (Int32.ofNat i_)] I_ L_ 0 (zRet (some (zwI (zdrv I_ (L_ 24 v_) (I_ 5 v_ 11) (I_ 5 v_ 1)))) I_ L_) := by
  refine zYm.of (Nat.le_of_ble_eq_true rfl) rfl ?_
  refine zY.go 2 rfl ?_
  refine zY.cr (zm41t hs) rfl rfl rfl rfl (Nat.le_of_ble_eq_true rfl) rfl (by decide) rfl (by decide) (by decide) ?_
  refine zY.cr (zm98) rfl rfl rfl rfl (Nat.le_of_ble_eq_true rfl) rfl (by decide) rfl (by decide) (by decide) ?_
  exact zY.ri rfl rfl ⟨rfl, rfl, rfl⟩
theorem zm68x {I_ : zIn} {L_ : zLi} {x_ : Int32} (h_ : x_ < 0 ∨ Int32.ofNat (L_ 21 0).length ≤ x_) : zYm 4 68 [zwR 6 0, zwI x_] I_ L_ 60 (zThw 11 I_ L_) := by
  refine zYm.of (Nat.le_of_ble_eq_true rfl) rfl ?_
  refine zY.go 2 rfl ?_
  exact zY.cx (zm41x h_) rfl rfl rfl rfl (Nat.le_of_ble_eq_true rfl) rfl (by decide) rfl (by decide) (by decide) (by decide) rfl ⟨rfl, rfl, rfl⟩
theorem zm57x {I_ : zIn} {L_ : zLi} {x_ y_ : Int32} (h_ : x_ < 0 ∨ Int32.ofNat (L_ 21 0).length ≤ x_) : zYm 4 57 [zwR 6 0, zwI x_, zwI y_] I_ L_ 60 (zThw 11 I_ L_) := by
  refine zYm.of (Nat.le_of_ble_eq_true rfl) rfl ?_
  refine zY.go 2 rfl ?_
  exact zY.cx (zm41x h_) rfl rfl rfl rfl (Nat.le_of_ble_eq_true rfl) rfl (by decide) rfl (by decide) (by decide) (by decide) rfl ⟨rfl, rfl, rfl⟩
theorem zm57a {I_ : zIn} {L_ : zLi} {i_ v_ : Nat} (hs : (L_ 21 0)[i_]? = some v_) {y_ : Int32} (hy : ¬ (1 ≤ y_ ∧ y_ ≤ 60)) : zYm 4 57 [zwR 6 0, zwI (Int32.ofNat i_), zwI y_] I_ L_ 60 (zThw 9 I_ L_) := by
  refine zYm.of (Nat.le_of_ble_eq_true rfl) rfl ?_
  refine zY.go 2 rfl ?_
  refine zY.cr (zm41t hs) rfl rfl rfl rfl (Nat.le_of_ble_eq_true rfl) rfl (by decide) rfl (by decide) (by decide) ?_
  refine zY.go 4 rfl ?_
  exact zY.cx (zm33x hy) rfl rfl rfl rfl (Nat.le_of_ble_eq_true rfl) rfl (by decide) rfl (by decide) (by decide) (by decide) rfl ⟨rfl, rfl, rfl⟩
theorem zm57l {I_ : zIn} {L_ : zLi} {i_ v_ : Nat} (hs : (L_ 21 0)[i_]? = some v_) {y_ : Int32} {s_ : Nat} {l : List Nat} (hy : 1 ≤ y_ ∧ y_ ≤ 60) (h0 : ¬ I_ 5 v_ 10 = 0) (hl : L_ 24 v_ = s_ :: l) : zYm 4 57 [zwR 6 0, zwI (Int32.ofNat i_), zwI y_] I_ L_ 0 (zRet (some (zwI (I_ 4 s_ 4 + y_))) (zset (zset I_ 4 s_ 3 (I_ 4 s_ 3 + y_)) 4 s_ 4 (I_ 4 s_ 4 + y_)) L_) := by
  refine zYm.of (Nat.le_of_ble_eq_true rfl) rfl ?_
  refine zY.go 2 rfl ?_
  refine zY.cr (zm41t hs) rfl rfl rfl rfl (Nat.le_of_ble_eq_true rfl) rfl (by decide) rfl (by decide) (by decide) ?_
  refine zY.go 4 rfl ?_
  refine zY.cr (zm33t hy) rfl rfl rfl rfl (Nat.le_of_ble_eq_true rfl) rfl (by decide) rfl (by decide) (by decide) ?_
  refine zY.go 4 rfl ?_
  refine zY.cr (zm110l h0 hl) rfl rfl rfl rfl (Nat.le_of_ble_eq_true rfl) rfl (by decide) rfl (by decide) (by decide) ?_
  exact zY.ri rfl rfl ⟨rfl, rfl, rfl⟩
theorem zm57f {I_ : zIn} {L_ : zLi} {i_ v_ : Nat} (hs : (L_ 21 0)[i_]? = some v_) {y_ : Int32} (hy : 1 ≤ y_ ∧ y_ ≤ 60) (h0 : I_ 5 v_ 10 = 0 ∨ L_ 24 v_ = []) : zYm 4 57 [zwR 6 0, zwI (Int32.ofNat i_), zwI y_] I_ L_ 0 (zRet (some (zwI ((if I_ 5 v_ 12 < I_ 6 0 8 then I_ 6 0 8 else I_ 5 v_ 12) + y_))) (zset I_ 5 v_ 12 ((if I_ 5 v_ 12 < I_ 6 0 8 then I_ 6 0 8 else I_ 5 v_ 12) + y_)) L_) := by
  refine zYm.of (Nat.le_of_ble_eq_true rfl) rfl ?_
  refine zY.go 2 rfl ?_
  refine zY.cr (zm41t hs) rfl rfl rfl rfl (Nat.le_of_ble_eq_true rfl) rfl (by decide) rfl (by decide) (by decide) ?_
  refine zY.go 4 rfl ?_
  refine zY.cr (zm33t hy) rfl rfl rfl rfl (Nat.le_of_ble_eq_true rfl) rfl (by decide) rfl (by decide) (by decide) ?_
  refine zY.go 4 rfl ?_
  refine zY.cr (zm110f h0) rfl rfl rfl rfl (Nat.le_of_ble_eq_true rfl) rfl (by decide) rfl (by decide) (by decide) ?_
  exact zY.ri rfl rfl ⟨rfl, rfl, rfl⟩
theorem zm60x {I_ : zIn} {L_ : zLi} {x_ y_ z_ : Int32} (h_ : x_ < 0 ∨ Int32.ofNat (L_ 20 0).length ≤ x_) : zYm 4 60 [zwR 6 0, zwI x_, zwI y_, zwI z_] I_ L_ 60 (zThw 11 I_ L_) := by
  refine zYm.of (Nat.le_of_ble_eq_true rfl) rfl ?_
  refine zY.go 2 rfl ?_
  exact zY.cx (zm43x h_) rfl rfl rfl rfl (Nat.le_of_ble_eq_true rfl) rfl (by decide) rfl (by decide) (by decide) (by decide) rfl ⟨rfl, rfl, rfl⟩
theorem zm60a {I_ : zIn} {L_ : zLi} {i_ p_ : Nat} (hs : (L_ 20 0)[i_]? = some p_) {y_ z_ : Int32} (hy : ¬ (0 ≤ y_ ∧ y_ ≤ 35)) : zYm 4 60 [zwR 6 0, zwI (Int32.ofNat i_), zwI y_, zwI z_] I_ L_ 60 (zThw 9 I_ L_) := by
  refine zYm.of (Nat.le_of_ble_eq_true rfl) rfl ?_
  refine zY.go 2 rfl ?_
  refine zY.cr (zm43t hs) rfl rfl rfl rfl (Nat.le_of_ble_eq_true rfl) rfl (by decide) rfl (by decide) (by decide) ?_
  refine zY.go 2 rfl ?_
  exact zY.cx (zm37x hy) rfl rfl rfl rfl (Nat.le_of_ble_eq_true rfl) rfl (by decide) rfl (by decide) (by decide) (by decide) rfl ⟨rfl, rfl, rfl⟩
theorem zm60b {I_ : zIn} {L_ : zLi} {i_ p_ : Nat} (hs : (L_ 20 0)[i_]? = some p_) {y_ z_ : Int32} (hy : 0 ≤ y_ ∧ y_ ≤ 35) (hz : ¬ (0 ≤ z_ ∧ z_ ≤ 35)) : zYm 4 60 [zwR 6 0, zwI (Int32.ofNat i_), zwI y_, zwI z_] I_ L_ 60 (zThw 9 I_ L_) := by
  refine zYm.of (Nat.le_of_ble_eq_true rfl) rfl ?_
  refine zY.go 2 rfl ?_
  refine zY.cr (zm43t hs) rfl rfl rfl rfl (Nat.le_of_ble_eq_true rfl) rfl (by decide) rfl (by decide) (by decide) ?_
  refine zY.go 2 rfl ?_
  refine zY.cr (zm37t hy) rfl rfl rfl rfl (Nat.le_of_ble_eq_true rfl) rfl (by decide) rfl (by decide) (by decide) ?_
  refine zY.go 1 rfl ?_
  exact zY.cx (zm37x hz) rfl rfl rfl rfl (Nat.le_of_ble_eq_true rfl) rfl (by decide) rfl (by decide) (by decide) (by decide) rfl ⟨rfl, rfl, rfl⟩
theorem zm60t {I_ : zIn} {L_ : zLi} {i_ p_ : Nat} (hs : (L_ 20 0)[i_]? = some p_) {y_ z_ : Int32} (hy : 0 ≤ y_ ∧ y_ ≤ 35) (hz : 0 ≤ z_ ∧ z_ ≤ 35) : zYm 4 60 [zwR 6 0, zwI (Int32.ofNat i_), zwI y_, zwI z_] I_ L_ 0 (zRet (some (zwI (if zowd I_ p_ y_ z_ = true then 1 else 0))) I_ L_) := by
  refine zYm.of (Nat.le_of_ble_eq_true rfl) rfl ?_
  refine zY.go 2 rfl ?_
  refine zY.cr (zm43t hs) rfl rfl rfl rfl (Nat.le_of_ble_eq_true rfl) rfl (by decide) rfl (by decide) (by decide) ?_
  refine zY.go 2 rfl ?_
  refine zY.cr (zm37t hy) rfl rfl rfl rfl (Nat.le_of_ble_eq_true rfl) rfl (by decide) rfl (by decide) (by decide) ?_
  refine zY.go 1 rfl ?_
  refine zY.cr (zm37t hz) rfl rfl rfl rfl (Nat.le_of_ble_eq_true rfl) rfl (by decide) rfl (by decide) (by decide) ?_
  refine zY.go 4 rfl ?_
  refine zY.cr (zm44) rfl rfl rfl rfl (Nat.le_of_ble_eq_true rfl) rfl (by decide) rfl (by decide) (by decide) ?_
  exact zY.rb rfl rfl (by split <;> simp) ⟨rfl, rfl, rfl⟩
def zrof (I_ : zIn) (L_ : zLi) (p_ : Nat) : Nat → Int32
  | 0 => zcnt (zlyc I_ p_ 0) (L_ 22 0) 0
  | 1 => zcnt (zlyc I_ p_ 1) (L_ 22 0) 0
  | _ => if zsus I_ L_ p_ = true then 1 else 0
theorem zm61x {I_ : zIn} {L_ : zLi} {x_ y_ : Int32} (h_ : x_ < 0 ∨ Int32.ofNat (L_ 20 0).length ≤ x_) : zYm 5 61 [zwR 6 0, zwI x_, zwI y_] I_ L_ 60 (zThw 11 I_ L_) := by
  refine zYm.of (Nat.le_of_ble_eq_true rfl) rfl ?_
  refine zY.go 2 rfl ?_
  exact zY.cx (zm43x h_) rfl rfl rfl rfl (Nat.le_of_ble_eq_true rfl) rfl (by decide) rfl (by decide) (by decide) (by decide) rfl ⟨rfl, rfl, rfl⟩
theorem zm61a {I_ : zIn} {L_ : zLi} {i_ p_ : Nat} (hs : (L_ 20 0)[i_]? = some p_) {y_ : Int32} (hy : ¬ (0 ≤ y_ ∧ y_ ≤ 2)) : zYm 5 61 [zwR 6 0, zwI (Int32.ofNat i_), zwI y_] I_ L_ 60 (zThw 9 I_ L_) := by
  refine zYm.of (Nat.le_of_ble_eq_true rfl) rfl ?_
  refine zY.go 2 rfl ?_
  refine zY.cr (zm43t hs) rfl rfl rfl rfl (Nat.le_of_ble_eq_true rfl) rfl (by decide) rfl (by decide) (by decide) ?_
  refine zY.go 4 rfl ?_
  exact zY.cx (zm33x hy) rfl rfl rfl rfl (Nat.le_of_ble_eq_true rfl) rfl (by decide) rfl (by decide) (by decide) (by decide) rfl ⟨rfl, rfl, rfl⟩
theorem zm61t {I_ : zIn} {L_ : zLi} {i_ p_ : Nat} (hs : (L_ 20 0)[i_]? = some p_) {k_ : Nat} (hk : k_ ≤ 2) : zYm 5 61 [zwR 6 0, zwI (Int32.ofNat i_), zwI (Int32.ofNat k_)] I_ L_ 0 (zRet (some (zwI (zrof I_ L_ p_ k_))) I_ L_) := by
  refine zYm.of (Nat.le_of_ble_eq_true rfl) rfl ?_
  refine zY.go 2 rfl ?_
  refine zY.cr (zm43t hs) rfl rfl rfl rfl (Nat.le_of_ble_eq_true rfl) rfl (by decide) rfl (by decide) (by decide) ?_
  refine zY.go 4 rfl ?_
  refine zY.cr (zm33t ⟨zige (by omega), (zile (b := 2) (by omega) (by omega)).mpr hk⟩) rfl rfl rfl rfl (Nat.le_of_ble_eq_true rfl) rfl (by decide) rfl (by decide) (by decide) ?_
  refine zY.go 1 rfl ?_
  obtain rfl | rfl | rfl : k_ = 0 ∨ k_ = 1 ∨ k_ = 2 := by omega
  · refine zY.bi rfl (fun h_ => absurd rfl h_) (fun _ => ?_)
    refine zY.go 3 rfl ?_
    refine zY.cr (zm47) rfl rfl rfl rfl (Nat.le_of_ble_eq_true rfl) rfl (by decide) rfl (by decide) (by decide) ?_
    exact zY.ri rfl rfl ⟨rfl, rfl, rfl⟩
  · refine zY.bi rfl (fun _ => ?_) (fun h_ => h_ (show ¬ Int32.ofNat 1 = 0 by decide) |>.elim)
    refine zY.go 2 rfl ?_
    refine zY.bc rfl (fun h_ => absurd rfl h_) (fun _ => ?_)
    refine zY.go 3 rfl ?_
    refine zY.cr (zm47) rfl rfl rfl rfl (Nat.le_of_ble_eq_true rfl) rfl (by decide) rfl (by decide) (by decide) ?_
    exact zY.ri rfl rfl ⟨rfl, rfl, rfl⟩
  · refine zY.bi rfl (fun _ => ?_) (fun h_ => h_ (show ¬ Int32.ofNat 2 = 0 by decide) |>.elim)
    refine zY.go 2 rfl ?_
    refine zY.bc rfl (fun _ => ?_) (fun h_ => h_ (show ¬ Int32.ofNat 2 = 1 by decide) |>.elim)
    refine zY.go 2 rfl ?_
    refine zY.cr (zm46) rfl rfl rfl rfl (Nat.le_of_ble_eq_true rfl) rfl (by decide) rfl (by decide) (by decide) ?_
    refine zY.bi rfl (fun h_ => ?_) (fun h_ => ?_)
    · refine zY.go 1 rfl ?_
      exact zY.ri rfl rfl ⟨by simp [zrof, zb_eq0.mp h_], rfl, rfl⟩
    · refine zY.go 2 rfl ?_
      exact zY.ri rfl rfl ⟨by have h2 : zsus I_ L_ p_ = true := by { cases h3 : zsus I_ L_ p_; exact absurd (zb_eq0.mpr h3) h_; rfl }
                              simp [zrof, h2], rfl, rfl⟩
theorem zm62x {I_ : zIn} {L_ : zLi} {x_ y_ : Int32} (h_ : x_ < 0 ∨ Int32.ofNat (L_ 22 0).length ≤ x_) : zYm 4 62 [zwR 6 0, zwI x_, zwI y_] I_ L_ 60 (zThw 11 I_ L_) := by
  refine zYm.of (Nat.le_of_ble_eq_true rfl) rfl ?_
  refine zY.go 2 rfl ?_
  exact zY.cx (zm50x h_) rfl rfl rfl rfl (Nat.le_of_ble_eq_true rfl) rfl (by decide) rfl (by decide) (by decide) (by decide) rfl ⟨rfl, rfl, rfl⟩
theorem zm62a {I_ : zIn} {L_ : zLi} {i_ q_ : Nat} (hs : (L_ 22 0)[i_]? = some q_) {y_ : Int32} (hy : ¬ (0 ≤ y_ ∧ y_ ≤ 10)) : zYm 4 62 [zwR 6 0, zwI (Int32.ofNat i_), zwI y_] I_ L_ 60 (zThw 9 I_ L_) := by
  refine zYm.of (Nat.le_of_ble_eq_true rfl) rfl ?_
  refine zY.go 2 rfl ?_
  refine zY.cr (zm50t hs) rfl rfl rfl rfl (Nat.le_of_ble_eq_true rfl) rfl (by decide) rfl (by decide) (by decide) ?_
  refine zY.go 4 rfl ?_
  exact zY.cx (zm33x hy) rfl rfl rfl rfl (Nat.le_of_ble_eq_true rfl) rfl (by decide) rfl (by decide) (by decide) (by decide) rfl ⟨rfl, rfl, rfl⟩
theorem zm62t {I_ : zIn} {L_ : zLi} {i_ q_ : Nat} (hs : (L_ 22 0)[i_]? = some q_) {k_ : Nat} (hk : k_ ≤ 10) : zYm 4 62 [zwR 6 0, zwI (Int32.ofNat i_), zwI (Int32.ofNat k_)] I_ L_ 0 (zRet (some (zwI (zrtl (I_ 1 q_) k_))) I_ L_) := by
  refine zYm.of (Nat.le_of_ble_eq_true rfl) rfl ?_
  refine zY.go 2 rfl ?_
  refine zY.cr (zm50t hs) rfl rfl rfl rfl (Nat.le_of_ble_eq_true rfl) rfl (by decide) rfl (by decide) (by decide) ?_
  refine zY.go 4 rfl ?_
  refine zY.cr (zm33t ⟨zige (by omega), (zile (b := 10) (by omega) (by omega)).mpr hk⟩) rfl rfl rfl rfl (Nat.le_of_ble_eq_true rfl) rfl (by decide) rfl (by decide) (by decide) ?_
  refine zY.go 2 rfl ?_
  refine zY.cr (zm86 hk) rfl rfl rfl rfl (Nat.le_of_ble_eq_true rfl) rfl (by decide) rfl (by decide) (by decide) ?_
  exact zY.ri rfl rfl ⟨rfl, rfl, rfl⟩
theorem zm63x {I_ : zIn} {L_ : zLi} {x_ y_ : Int32} (h_ : x_ < 0 ∨ Int32.ofNat (L_ 21 0).length ≤ x_) : zYm 11 63 [zwR 6 0, zwI x_, zwI y_] I_ L_ 60 (zThw 11 I_ L_) := by
  refine zYm.of (Nat.le_of_ble_eq_true rfl) rfl ?_
  refine zY.go 2 rfl ?_
  exact zY.cx (zm41x h_) rfl rfl rfl rfl (Nat.le_of_ble_eq_true rfl) rfl (by decide) rfl (by decide) (by decide) (by decide) rfl ⟨rfl, rfl, rfl⟩
theorem zm63a {I_ : zIn} {L_ : zLi} {i_ v_ : Nat} (hs : (L_ 21 0)[i_]? = some v_) {y_ : Int32} (hy : ¬ (0 ≤ y_ ∧ y_ ≤ 8)) : zYm 11 63 [zwR 6 0, zwI (Int32.ofNat i_), zwI y_] I_ L_ 60 (zThw 9 I_ L_) := by
  refine zYm.of (Nat.le_of_ble_eq_true rfl) rfl ?_
  refine zY.go 2 rfl ?_
  refine zY.cr (zm41t hs) rfl rfl rfl rfl (Nat.le_of_ble_eq_true rfl) rfl (by decide) rfl (by decide) (by decide) ?_
  refine zY.go 4 rfl ?_
  exact zY.cx (zm33x hy) rfl rfl rfl rfl (Nat.le_of_ble_eq_true rfl) rfl (by decide) rfl (by decide) (by decide) (by decide) rfl ⟨rfl, rfl, rfl⟩
theorem zm63t {I_ : zIn} {L_ : zLi} {i_ v_ : Nat} (hs : (L_ 21 0)[i_]? = some v_) {k_ : Nat} (hk : k_ ≤ 8) (hn : (L_ 26 v_).length + (L_ 24 v_).length < 500) : zYm 11 63 [zwR 6 0, zwI (Int32.ofNat i_), zwI (Int32.ofNat k_)] I_ L_ 0 (zRet (some (zwI ((zvtl I_ L_ v_ (I_ 6 0 8) k_).1))) (zvtl I_ L_ v_ (I_ 6 0 8) k_).2.1 (zvtl I_ L_ v_ (I_ 6 0 8) k_).2.2) := by
  refine zYm.of (Nat.le_of_ble_eq_true rfl) rfl ?_
  refine zY.go 2 rfl ?_
  refine zY.cr (zm41t hs) rfl rfl rfl rfl (Nat.le_of_ble_eq_true rfl) rfl (by decide) rfl (by decide) (by decide) ?_
  refine zY.go 4 rfl ?_
  refine zY.cr (zm33t ⟨zige (by omega), (zile (b := 8) (by omega) (by omega)).mpr hk⟩) rfl rfl rfl rfl (Nat.le_of_ble_eq_true rfl) rfl (by decide) rfl (by decide) (by decide) ?_
  refine zY.go 4 rfl ?_
  refine zY.cr (zm115 hn hk) rfl rfl rfl rfl (Nat.le_of_ble_eq_true rfl) rfl (by decide) rfl (by decide) (by decide) ?_
  exact zY.ri rfl rfl ⟨rfl, rfl, rfl⟩
theorem zm52x {I_ : zIn} {L_ : zLi} {x_ : Int32} (h_ : x_ < 0 ∨ Int32.ofNat (L_ 22 0).length ≤ x_) : zYm 4 52 [zwR 6 0, zwI x_] I_ L_ 60 (zThw 11 I_ L_) := by
  refine zYm.of (Nat.le_of_ble_eq_true rfl) rfl ?_
  refine zY.go 2 rfl ?_
  exact zY.cx (zm50x h_) rfl rfl rfl rfl (Nat.le_of_ble_eq_true rfl) rfl (by decide) rfl (by decide) (by decide) (by decide) rfl ⟨rfl, rfl, rfl⟩
theorem zm52a {I_ : zIn} {L_ : zLi} {i_ q_ : Nat} (hs : (L_ 22 0)[i_]? = some q_) (h_ : ¬ I_ 1 q_ 5 = 0) : zYm 4 52 [zwR 6 0, zwI (Int32.ofNat i_)] I_ L_ 60 (zThw 10 I_ L_) := by
  refine zYm.of (Nat.le_of_ble_eq_true rfl) rfl ?_
  refine zY.go 2 rfl ?_
  refine zY.cr (zm50t hs) rfl rfl rfl rfl (Nat.le_of_ble_eq_true rfl) rfl (by decide) rfl (by decide) (by decide) ?_
  refine zY.go 3 rfl ?_
  refine zY.bi rfl (fun _ => ?_) (fun hp => absurd h_ hp)
  refine zY.go 1 rfl ?_
  exact zY.cx (zm35x) rfl rfl rfl rfl (Nat.le_of_ble_eq_true rfl) rfl (by decide) rfl (by decide) (by decide) (by decide) rfl ⟨rfl, rfl, rfl⟩
theorem zm52t {I_ : zIn} {L_ : zLi} {i_ q_ : Nat} (hs : (L_ 22 0)[i_]? = some q_) (h_ : I_ 1 q_ 5 = 0) : zYm 4 52 [zwR 6 0, zwI (Int32.ofNat i_)] I_ L_ 0 (zRet none (zset I_ 1 q_ 13 1) L_) := by
  refine zYm.of (Nat.le_of_ble_eq_true rfl) rfl ?_
  refine zY.go 2 rfl ?_
  refine zY.cr (zm50t hs) rfl rfl rfl rfl (Nat.le_of_ble_eq_true rfl) rfl (by decide) rfl (by decide) (by decide) ?_
  refine zY.go 3 rfl ?_
  refine zY.bi rfl (fun hp => absurd h_ hp) (fun _ => ?_)
  refine zY.go 2 rfl ?_
  refine zY.cr (zm35t (x_ := 1) (by decide)) rfl rfl rfl rfl (Nat.le_of_ble_eq_true rfl) rfl (by decide) rfl (by decide) (by decide) ?_
  refine zY.go 3 rfl ?_
  exact zY.rv rfl rfl ⟨rfl, rfl, rfl⟩
def zsof (I_ : zIn) (L_ : zLi) (v_ s_ j_ : Nat) : Nat → Int32 × (zIn × zLi)
  | 0 => (zfnd (s_ / 2) (L_ 22 0) 0, I_, L_)
  | 1 => (if s_ % 2 = 0 then 0 else 1, I_, L_)
  | 2 => (zplS I_ L_ v_ (I_ 6 0 8) 4 s_ 3, zplS I_ L_ v_ (I_ 6 0 8), zplL I_ L_ v_ (I_ 6 0 8))
  | _ => (zplS I_ L_ v_ (I_ 6 0 8) 4 s_ 4, zplS I_ L_ v_ (I_ 6 0 8), zplL I_ L_ v_ (I_ 6 0 8))
theorem zm64x {I_ : zIn} {L_ : zLi} {x_ y_ z_ : Int32} (h_ : x_ < 0 ∨ Int32.ofNat (L_ 21 0).length ≤ x_) : zYm 10 64 [zwR 6 0, zwI x_, zwI y_, zwI z_] I_ L_ 60 (zThw 11 I_ L_) := by
  refine zYm.of (Nat.le_of_ble_eq_true rfl) rfl ?_
  refine zY.go 2 rfl ?_
  exact zY.cx (zm41x h_) rfl rfl rfl rfl (Nat.le_of_ble_eq_true rfl) rfl (by decide) rfl (by decide) (by decide) (by decide) rfl ⟨rfl, rfl, rfl⟩
theorem zm64y {I_ : zIn} {L_ : zLi} {i_ v_ : Nat} (hs : (L_ 21 0)[i_]? = some v_) {y_ z_ : Int32} (h_ : y_ < 0 ∨ Int32.ofNat (L_ 24 v_).length ≤ y_) : zYm 10 64 [zwR 6 0, zwI (Int32.ofNat i_), zwI y_, zwI z_] I_ L_ 60 (zThw 11 I_ L_) := by
  refine zYm.of (Nat.le_of_ble_eq_true rfl) rfl ?_
  refine zY.go 2 rfl ?_
  refine zY.cr (zm41t hs) rfl rfl rfl rfl (Nat.le_of_ble_eq_true rfl) rfl (by decide) rfl (by decide) (by decide) ?_
  refine zY.go 3 rfl ?_
  exact zY.cx (zm65x h_) rfl rfl rfl rfl (Nat.le_of_ble_eq_true rfl) rfl (by decide) rfl (by decide) (by decide) (by decide) rfl ⟨rfl, rfl, rfl⟩
theorem zm64a {I_ : zIn} {L_ : zLi} {i_ v_ : Nat} (hs : (L_ 21 0)[i_]? = some v_) {j_ s_ : Nat} (hj : (L_ 24 v_)[j_]? = some s_) {z_ : Int32} (hz : ¬ (0 ≤ z_ ∧ z_ ≤ 3)) : zYm 10 64 [zwR 6 0, zwI (Int32.ofNat i_), zwI (Int32.ofNat j_), zwI z_] I_ L_ 60 (zThw 9 I_ L_) := by
  refine zYm.of (Nat.le_of_ble_eq_true rfl) rfl ?_
  refine zY.go 2 rfl ?_
  refine zY.cr (zm41t hs) rfl rfl rfl rfl (Nat.le_of_ble_eq_true rfl) rfl (by decide) rfl (by decide) (by decide) ?_
  refine zY.go 3 rfl ?_
  refine zY.cr (zm65t hj) rfl rfl rfl rfl (Nat.le_of_ble_eq_true rfl) rfl (by decide) rfl (by decide) (by decide) ?_
  refine zY.go 4 rfl ?_
  exact zY.cx (zm33x hz) rfl rfl rfl rfl (Nat.le_of_ble_eq_true rfl) rfl (by decide) rfl (by decide) (by decide) (by decide) rfl ⟨rfl, rfl, rfl⟩
theorem zm64t {I_ : zIn} {L_ : zLi} {i_ v_ : Nat} (hs : (L_ 21 0)[i_]? = some v_) {j_ s_ : Nat} (hj : (L_ 24 v_)[j_]? = some s_) {k_ : Nat} (hk : k_ ≤ 3) (hn : (L_ 26 v_).length ≤ 500) : zYm 10 64 [zwR 6 0, zwI (Int32.ofNat i_), zwI (Int32.ofNat j_), zwI (Int32.ofNat k_)] I_ L_ 0 (zRet (some (zwI ((zsof I_ L_ v_ s_ j_ k_).1))) (zsof I_ L_ v_ s_ j_ k_).2.1 (zsof I_ L_ v_ s_ j_ k_).2.2) := by
  refine zYm.of (Nat.le_of_ble_eq_true rfl) rfl ?_
  refine zY.go 2 rfl ?_
  refine zY.cr (zm41t hs) rfl rfl rfl rfl (Nat.le_of_ble_eq_true rfl) rfl (by decide) rfl (by decide) (by decide) ?_
  refine zY.go 3 rfl ?_
  refine zY.cr (zm65t hj) rfl rfl rfl rfl (Nat.le_of_ble_eq_true rfl) rfl (by decide) rfl (by decide) (by decide) ?_
  refine zY.go 4 rfl ?_
  refine zY.cr (zm33t ⟨zige (by omega), (zile (b := 3) (by omega) (by omega)).mpr hk⟩) rfl rfl rfl rfl (Nat.le_of_ble_eq_true rfl) rfl (by decide) rfl (by decide) (by decide) ?_
  refine zY.go 1 rfl ?_
  obtain rfl | rfl | rfl | rfl : k_ = 0 ∨ k_ = 1 ∨ k_ = 2 ∨ k_ = 3 := by omega
  · refine zY.bi rfl (fun h_ => absurd rfl h_) (fun _ => ?_)
    refine zY.go 3 rfl ?_
    refine zY.cr (zm66) rfl rfl rfl rfl (Nat.le_of_ble_eq_true rfl) rfl (by decide) rfl (by decide) (by decide) ?_
    exact zY.ri rfl rfl ⟨rfl, rfl, rfl⟩
  · refine zY.bi rfl (fun _ => ?_) (fun h_ => h_ (show ¬ Int32.ofNat 1 = 0 by decide) |>.elim)
    refine zY.go 2 rfl ?_
    refine zY.bc rfl (fun h_ => absurd rfl h_) (fun _ => ?_)
    refine zY.go 2 rfl ?_
    refine zY.bi rfl (fun h_ => ?_) (fun h_ => ?_)
    · refine zY.go 1 rfl ?_
      exact zY.ri rfl rfl ⟨by simp [zsof, zpar_0.mp h_], rfl, rfl⟩
    · refine zY.go 2 rfl ?_
      exact zY.ri rfl rfl ⟨by have h2 : ¬ s_ % 2 = 0 := fun e_ => h_ (zpar_0.mpr e_)
                              simp [zsof, h2], rfl, rfl⟩
  · refine zY.bi rfl (fun _ => ?_) (fun h_ => h_ (show ¬ Int32.ofNat 2 = 0 by decide) |>.elim)
    refine zY.go 2 rfl ?_
    refine zY.bc rfl (fun _ => ?_) (fun h_ => h_ (show ¬ Int32.ofNat 2 = 1 by decide) |>.elim)
    refine zY.go 3 rfl ?_
    refine zY.cr (zm113 hn) rfl rfl rfl rfl (Nat.le_of_ble_eq_true rfl) rfl (by decide) rfl (by decide) (by decide) ?_
    refine zY.go 3 rfl ?_
    refine zY.bc rfl (fun h_ => absurd rfl h_) (fun _ => ?_)
    refine zY.go 3 rfl ?_
    exact zY.ri rfl rfl ⟨rfl, rfl, rfl⟩
  · refine zY.bi rfl (fun _ => ?_) (fun h_ => h_ (show ¬ Int32.ofNat 3 = 0 by decide) |>.elim)
    refine zY.go 2 rfl ?_
    refine zY.bc rfl (fun _ => ?_) (fun h_ => h_ (show ¬ Int32.ofNat 3 = 1 by decide) |>.elim)
    refine zY.go 3 rfl ?_
    refine zY.cr (zm113 hn) rfl rfl rfl rfl (Nat.le_of_ble_eq_true rfl) rfl (by decide) rfl (by decide) (by decide) ?_
    refine zY.go 3 rfl ?_
    refine zY.bc rfl (fun _ => ?_) (fun h_ => h_ (show ¬ Int32.ofNat 3 = 2 by decide) |>.elim)
    refine zY.go 2 rfl ?_
    exact zY.ri rfl rfl ⟨rfl, rfl, rfl⟩


