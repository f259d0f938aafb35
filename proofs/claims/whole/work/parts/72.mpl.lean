/-! CONTRACTS OF THE MODEL: plan, backAt -/
theorem zTr_set {I_ : zIn} {l : List Nat} {j_ k_ : Nat} {x_ : Int32} (h_ : zTr I_ l) (hj : j_ ≠ 43) : zTr (zset I_ 30 j_ k_ x_) l := by
  refine ⟨(zset_ne (by simp)).trans h_.1, h_.2.1, fun k' s_ hs => ?_⟩
  rw [zset_ne (fun e_ => hj e_.2.1.symm)]
  exact h_.2.2 k' s_ hs
theorem zMq_set {I_ : zIn} {q_ j_ k_ : Nat} {x_ : Int32} (h_ : zMq I_ q_) (hj : j_ ≠ 29) : zMq (zset I_ 30 j_ k_ x_) q_ := by
  unfold zMq
  rw [zset_ne (fun e_ => hj e_.2.1.symm)]
  exact h_
def zplv (I_ : zIn) (s_ : Nat) (lv d_ : Int32) : Int32 := if s_ % 2 = 0 ∧ lv < I_ 30 34 (s_ / 2) - d_ then I_ 30 34 (s_ / 2) - d_ else lv
def zpl1 (I_ : zIn) (v_ k_ s_ : Nat) (lv p_ : Int32) : zIn :=
  if k_ = 0 ∧ ¬ I_ 31 19 v_ = 0 then zset (zset I_ 30 44 k_ (I_ 30 20 v_)) 30 45 k_ (zset I_ 30 44 k_ (I_ 30 20 v_) 30 21 v_)
  else zset (zset I_ 30 44 k_ (zplv I_ s_ lv (2 * zspm p_ (zmpl I_ s_)) + 2 * zspm p_ (zmpl I_ s_))) 30 45 k_ (zset I_ 30 44 k_ (zplv I_ s_ lv (2 * zspm p_ (zmpl I_ s_)) + 2 * zspm p_ (zmpl I_ s_)) 30 44 k_ + (2 + 2 * zmkd (zset I_ 30 44 k_ (zplv I_ s_ lv (2 * zspm p_ (zmpl I_ s_)) + 2 * zspm p_ (zmpl I_ s_))) (s_ / 2)))
def zplm (v_ : Nat) : List Nat → Nat → Int32 → Int32 → zIn → zIn
  | [], _, _, _, I_ => I_
  | s_ :: r_, k_, lv, p_, I_ => zplm v_ r_ (k_ + 1) (zpl1 I_ v_ k_ s_ lv p_ 30 45 k_) (zmpl (zpl1 I_ v_ k_ s_ lv p_) s_) (zpl1 I_ v_ k_ s_ lv p_)
theorem zpl1_tr {I_ : zIn} {v_ k_ s_ : Nat} {lv p_ : Int32} {l : List Nat} (h_ : zTr I_ l) : zTr (zpl1 I_ v_ k_ s_ lv p_) l := by
  unfold zpl1
  split <;> exact zTr_set (zTr_set h_ (by decide)) (by decide)
theorem zpl1_mq {I_ : zIn} {v_ k_ s_ q_ : Nat} {lv p_ : Int32} (h_ : zMq I_ q_) : zMq (zpl1 I_ v_ k_ s_ lv p_) q_ := by
  unfold zpl1
  split <;> exact zMq_set (zMq_set h_ (by decide)) (by decide)
theorem zm149t {v_ k_ s_ : Nat} {l : List Nat} {I_ : zIn} {L_ : zLi} {x_ p_ d_ : Int32} {k5_ k7_ : Option zW} {Q_ : zPost} (hl : zTr I_ l) (hs : l[k_]? = some s_) (hY : zY none 5 149 41 [some (zwR 7 0), some (zwI (Int32.ofNat v_)), some (zwI (I_ 30 45 k_)), some (zwI (zmpl I_ s_)), some (zwI (Int32.ofNat (k_ + 1))), k5_, some (zwI d_), k7_] [] I_ L_ 0 Q_) : zY none 5 149 191 [some (zwR 7 0), some (zwI (Int32.ofNat v_)), some (zwI x_), some (zwI p_), some (zwI (Int32.ofNat k_)), k5_, some (zwI d_), k7_] [] I_ L_ 0 Q_ := by
  obtain ⟨hlt, _⟩ := List.getElem?_eq_some_iff.mp hs
  obtain ⟨g1, g2⟩ := hl.2.2 k_ s_ hs
  have h20 := hl.2.1
  have hk43 : k_ < zas30 43 := by show k_ < 20; omega
  have hk45 : k_ < zas30 45 := by show k_ < 20; omega
  refine zY.go 3 rfl ?_
  refine zY.ai rfl rfl hk45 ?_
  refine zY.go 5 rfl ?_
  refine zY.ai rfl rfl hk43 ?_
  rw [g1]
  refine zY.cr (zm145 g2) rfl rfl rfl rfl (Nat.le_of_ble_eq_true rfl) rfl (by decide) rfl (by decide) (by decide) ?_
  rw [← zisucc] at hY
  refine zY.go 3 rfl ?_
  exact hY
theorem zm149l (v_ : Nat) (L_ : zLi) (l : List Nat) (hv : v_ < 4) : ∀ (n_ k_ : Nat) (lv p_ : Int32) (I_ : zIn) (k5_ k6_ k7_ : Option zW), n_ + k_ = l.length → zTr I_ l → (∀ s_ ∈ l, zMq I_ (s_ / 2)) → zY none 5 149 41 [some (zwR 7 0), some (zwI (Int32.ofNat v_)), some (zwI lv), some (zwI p_), some (zwI (Int32.ofNat k_)), k5_, k6_, k7_] [] I_ L_ 0 (zRet none (zplm v_ (l.drop k_) k_ lv p_ I_) L_)
  | 0, k_, lv, p_, I_, k5_, k6_, k7_, hk, hl, hm_ => by
    obtain ⟨h42, h20, _⟩ := hl
    rw [List.drop_of_length_le (by omega)]
    refine zY.go 3 rfl ?_
    show zY _ _ _ _ _ [zwI (I_ 7 0 42), zwI (Int32.ofNat k_)] _ _ _ _
    rw [h42]
    refine zY.bn rfl (by omega) (by omega) (fun _ => ?_) (fun hF => absurd (show l.length ≤ k_ by omega) hF)
    exact zY.rv rfl rfl ⟨rfl, rfl, rfl⟩
  | n_ + 1, k_, lv, p_, I_, k5_, k6_, k7_, hk, hl, hm_ => by
    have hl0 := hl
    obtain ⟨h42, h20, hg⟩ := hl
    obtain ⟨s_, hs⟩ : ∃ s_, l[k_]? = some s_ := ⟨_, List.getElem?_eq_getElem (by omega)⟩
    obtain ⟨g1, g2⟩ := hg k_ s_ hs
    obtain ⟨e1_, e2_⟩ := zs2d s_ (by omega)
    rw [zdrop_cons hs]
    unfold zplm
    have hmq := hm_ s_ (List.mem_of_getElem? hs)
    have hk43 : k_ < zas30 43 := by show k_ < 20; omega
    have hk44 : k_ < zas30 44 := by show k_ < 20; omega
    have hk45 : k_ < zas30 45 := by show k_ < 20; omega
    have h60 : s_ / 2 < zas30 34 := by show s_ / 2 < 60; omega
    have hz := zof_0 (i_ := k_) (by omega)
    have ih_ := fun k5_ k6_ k7_ => zm149l v_ L_ l hv n_ (k_ + 1) (zpl1 I_ v_ k_ s_ lv p_ 30 45 k_) (zmpl (zpl1 I_ v_ k_ s_ lv p_) s_) (zpl1 I_ v_ k_ s_ lv p_) k5_ k6_ k7_ (by omega) (zpl1_tr hl0) (fun t_ ht => zpl1_mq (hm_ t_ ht))
    refine zY.go 3 rfl ?_
    show zY _ _ _ _ _ [zwI (I_ 7 0 42), zwI (Int32.ofNat k_)] _ _ _ _
    rw [h42]
    refine zY.bn rfl (by omega) (by omega) (fun hT_ => absurd hT_ (show ¬ l.length ≤ k_ by omega)) (fun _ => ?_)
    refine zY.go 3 rfl ?_
    refine zY.ai rfl rfl hk43 ?_
    rw [g1]
    refine zY.go 9 rfl ?_
    show zY _ _ _ _ [some (zwR 7 0), some (zwI (Int32.ofNat v_)), some (zwI lv), some (zwI p_), some (zwI (Int32.ofNat k_)), some (zwI (Int32.ofNat s_ / 2)), k6_, k7_] [zwI (Int32.ofNat k_), zwR 30 43, zwR 7 0, zwI p_, zwR 7 0] _ _ _ _
    rw [e1_]
    refine zY.ai rfl rfl hk43 ?_
    rw [g1]
    refine zY.cr (zm145 g2) rfl rfl rfl rfl (Nat.le_of_ble_eq_true rfl) rfl (by decide) rfl (by decide) (by decide) ?_
    refine zY.cr zm146 rfl rfl rfl rfl (Nat.le_of_ble_eq_true rfl) rfl (by decide) rfl (by decide) (by decide) ?_
    generalize hd_ : 2 * zspm p_ (zmpl I_ s_) = d_
    refine zY.go 2 rfl ?_
    have T158 : ∀ y_ : Int32, ¬ (k_ = 0 ∧ ¬ I_ 31 19 v_ = 0) → zplv I_ s_ lv d_ = y_ → zY none 5 149 158 [some (zwR 7 0), some (zwI (Int32.ofNat v_)), some (zwI lv), some (zwI p_), some (zwI (Int32.ofNat k_)), some (zwI (Int32.ofNat (s_ / 2))), some (zwI d_), some (zwI (I_ 30 34 (s_ / 2) - d_))] [zwI y_] I_ L_ 0 (zRet none (zplm v_ (l.drop (k_ + 1)) (k_ + 1) (zpl1 I_ v_ k_ s_ lv p_ 30 45 k_) (zmpl (zpl1 I_ v_ k_ s_ lv p_) s_) (zpl1 I_ v_ k_ s_ lv p_)) L_) := by
      intro y_ hc_ hy
      have e_ : zpl1 I_ v_ k_ s_ lv p_ = zset (zset I_ 30 44 k_ (y_ + d_)) 30 45 k_ (zset I_ 30 44 k_ (y_ + d_) 30 44 k_ + (2 + 2 * zmkd (zset I_ 30 44 k_ (y_ + d_)) (s_ / 2))) := by
        unfold zpl1; rw [if_neg hc_, hd_, hy]
      refine zY.go 7 rfl ?_
      refine zY.si rfl rfl hk44 ?_
      refine zY.go 6 rfl ?_
      refine zY.ai rfl rfl hk44 ?_
      refine zY.go 2 rfl ?_
      refine zY.cr (zm150 (zMq_set hmq (by decide))) rfl rfl rfl rfl (Nat.le_of_ble_eq_true rfl) rfl (by decide) rfl (by decide) (by decide) ?_
      refine zY.go 1 rfl ?_
      refine zY.si rfl rfl hk45 ?_
      rw [e_] at ih_ ⊢
      exact zm149t (zTr_set (zTr_set hl0 (by decide)) (by decide)) hs (ih_ _ _ _)
    have T122 : ∀ k7_, ¬ (k_ = 0 ∧ ¬ I_ 31 19 v_ = 0) → zY none 5 149 122 [some (zwR 7 0), some (zwI (Int32.ofNat v_)), some (zwI lv), some (zwI p_), some (zwI (Int32.ofNat k_)), some (zwI (Int32.ofNat (s_ / 2))), some (zwI d_), k7_] [] I_ L_ 0 (zRet none (zplm v_ (l.drop (k_ + 1)) (k_ + 1) (zpl1 I_ v_ k_ s_ lv p_ 30 45 k_) (zmpl (zpl1 I_ v_ k_ s_ lv p_) s_) (zpl1 I_ v_ k_ s_ lv p_)) L_) := by
      intro k7_ hc_
      refine zY.go 3 rfl ?_
      refine zY.ai rfl rfl h60 ?_
      refine zY.go 6 rfl ?_
      refine zY.ai rfl rfl hk43 ?_
      rw [g1]
      refine zY.go 2 rfl ?_
      show zY _ _ _ _ _ [zwI (Int32.ofNat s_ - Int32.ofNat s_ / 2 * 2)] _ _ _ _
      rw [e2_]
      refine zY.bi rfl (fun hp => ?_) (fun hp => ?_)
      · refine zY.go 1 rfl ?_
        exact T158 lv hc_ (if_neg (fun h_ => hp (zpar_0.mpr h_.1)))
      · refine zY.go 2 rfl ?_
        refine zY.bc rfl (fun hp2 => ?_) (fun hp2 => ?_)
        · refine zY.go 1 rfl ?_
          exact T158 lv hc_ (if_neg (fun h_ => absurd h_.2 (Int32.not_lt.mpr hp2)))
        · refine zY.go 2 rfl ?_
          exact T158 _ hc_ (if_pos ⟨zpar_0.mp (Decidable.byContradiction hp), Int32.not_le.mp hp2⟩)
    refine zY.bi rfl (fun hp81 => ?_) (fun hp81 => ?_)
    · exact T122 k7_ (fun h_ => hp81 (hz.mpr h_.1))
    · refine zY.go 3 rfl ?_
      refine zY.ab rfl rfl hv ?_
      refine zY.bi rfl (fun hp90 => ?_) (fun hp90 => ?_)
      · exact T122 k7_ (fun h_ => h_.2 (zbo_0.mp hp90))
      · have hc_ : k_ = 0 ∧ ¬ I_ 31 19 v_ = 0 := ⟨hz.mp (Decidable.byContradiction hp81), fun h_ => hp90 (zbo_0.mpr h_)⟩
        have e_ : zpl1 I_ v_ k_ s_ lv p_ = zset (zset I_ 30 44 k_ (I_ 30 20 v_)) 30 45 k_ (zset I_ 30 44 k_ (I_ 30 20 v_) 30 21 v_) := if_pos hc_
        refine zY.go 6 rfl ?_
        refine zY.ai rfl rfl hv ?_
        refine zY.si rfl rfl hk44 ?_
        refine zY.go 6 rfl ?_
        refine zY.ai rfl rfl hv ?_
        refine zY.si rfl rfl hk45 ?_
        refine zY.go 1 rfl ?_
        rw [e_] at ih_ ⊢
        exact zm149t (zTr_set (zTr_set hl0 (by decide)) (by decide)) hs (ih_ _ _ _)
def zpln (I_ : zIn) (v_ : Nat) (l : List Nat) : zIn := zplm v_ l 0 (if I_ 7 0 2 + 1 < I_ 30 18 v_ then I_ 30 18 v_ else I_ 7 0 2 + 1) (I_ 30 17 v_) I_
theorem zm149 {I_ : zIn} {L_ : zLi} {v_ : Nat} {l : List Nat} (hl : zTr I_ l) (hv : v_ < 4) (hm_ : ∀ s_ ∈ l, zMq I_ (s_ / 2)) : zYm 5 149 [zwR 7 0, zwI (Int32.ofNat v_)] I_ L_ 0 (zRet none (zpln I_ v_ l) L_) := by
  refine zYm.of (Nat.le_of_ble_eq_true rfl) rfl ?_
  refine zY.go 3 rfl ?_
  refine zY.ai rfl rfl hv ?_
  refine zY.go 4 rfl ?_
  unfold zpln
  refine zY.bc rfl (fun hp => ?_) (fun hp => ?_)
  · rw [if_neg (Int32.not_lt.mpr hp)]
    refine zY.go 8 rfl ?_
    refine zY.ai rfl rfl hv ?_
    refine zY.go 3 rfl ?_
    exact zm149l v_ L_ l hv l.length 0 _ _ I_ _ _ _ (by omega) hl hm_
  · rw [if_pos (Int32.not_le.mp hp)]
    refine zY.go 3 rfl ?_
    refine zY.ai rfl rfl hv ?_
    refine zY.go 5 rfl ?_
    refine zY.ai rfl rfl hv ?_
    refine zY.go 3 rfl ?_
    exact zm149l v_ L_ l hv l.length 0 _ _ I_ _ _ _ (by omega) hl hm_
theorem zm156 {I_ : zIn} {L_ : zLi} {v_ s_ : Nat} {l : List Nat} (hl : zTr I_ l) (hv : v_ < 4) (hs : l.getLast? = some s_) : zYm 4 156 [zwR 7 0, zwI (Int32.ofNat v_)] I_ L_ 0 (zRet (some (zwI (I_ 30 45 (l.length - 1) + 2 * zspm (zmpl I_ s_) (I_ 30 12 v_)))) I_ L_) := by
  have h0 : 0 < l.length := by
    cases l with
    | nil => simp at hs
    | cons a_ b_ => simp
  have hs' := (zlast h0).mpr hs
  obtain ⟨g1, g2⟩ := hl.2.2 _ s_ hs'
  obtain ⟨h42, h20, _⟩ := hl
  have e1_ : Int32.ofNat l.length - 1 = Int32.ofNat (l.length - 1) := zisubn (b := 1) (by omega)
  have hk45 : l.length - 1 < zas30 45 := by show l.length - 1 < 20; omega
  have hk43 : l.length - 1 < zas30 43 := by show l.length - 1 < 20; omega
  refine zYm.of (Nat.le_of_ble_eq_true rfl) rfl ?_
  refine zY.go 6 rfl ?_
  show zY _ _ _ _ _ [zwI (I_ 7 0 42 - 1), zwR 30 45] _ _ _ _
  rw [h42, e1_]
  refine zY.ai rfl rfl hk45 ?_
  refine zY.go 8 rfl ?_
  show zY _ _ _ _ _ [zwI (I_ 7 0 42 - 1), zwR 30 43, zwR 7 0, zwR 7 0, zwI (I_ 30 45 (l.length - 1))] _ _ _ _
  rw [h42, e1_]
  refine zY.ai rfl rfl hk43 ?_
  rw [g1]
  refine zY.cr (zm145 g2) rfl rfl rfl rfl (Nat.le_of_ble_eq_true rfl) rfl (by decide) rfl (by decide) (by decide) ?_
  refine zY.go 3 rfl ?_
  refine zY.ai rfl rfl hv ?_
  refine zY.cr zm146 rfl rfl rfl rfl (Nat.le_of_ble_eq_true rfl) rfl (by decide) rfl (by decide) (by decide) ?_
  refine zY.go 1 rfl ?_
  exact zY.ri rfl rfl ⟨rfl, rfl, rfl⟩
