/-! CONTRACTS OF THE MODEL: find, driveOfTry, isTooLate -/
def zlx (t_ : Nat) : List Nat → Nat → Option Nat → Option Nat
  | [], _, o => o
  | s_ :: r_, k_, o => zlx t_ r_ (k_ + 1) (if s_ = t_ then some k_ else o)
def zox : Option Nat → Int32
  | none => -1
  | some j_ => Int32.ofNat j_
theorem zlx_lt {t_ : Nat} : ∀ (l : List Nat) (k_ : Nat) (o : Option Nat) (N_ : Nat), k_ + l.length ≤ N_ → (∀ j_, o = some j_ → j_ < N_) → ∀ j_, zlx t_ l k_ o = some j_ → j_ < N_
  | [], _, _, _, _, h_ => h_
  | s_ :: r_, k_, o, N_, hk, h_ => by
    unfold zlx
    have hk' : k_ + 1 + r_.length ≤ N_ := by simp at hk; omega
    refine zlx_lt r_ (k_ + 1) _ N_ hk' (fun j_ hj => ?_)
    split at hj
    · cases hj; simp at hk; omega
    · exact h_ j_ hj
theorem zm153l (t_ : Nat) (I_ : zIn) (L_ : zLi) (l : List Nat) (hl : zTr I_ l) (ht : t_ < 200) : ∀ (n_ k_ : Nat) (o : Option Nat), n_ + k_ = l.length → zY none 1 153 4 [some (zwR 7 0), some (zwI (Int32.ofNat t_)), some (zwI (zox o)), some (zwI (Int32.ofNat k_))] [] I_ L_ 0 (zRet (some (zwI (zox (zlx t_ (l.drop k_) k_ o)))) I_ L_)
  | 0, k_, o, hk => by
    obtain ⟨h42, h20, _⟩ := hl
    rw [List.drop_of_length_le (by omega)]
    refine zY.go 3 rfl ?_
    show zY _ _ _ _ _ [zwI (I_ 7 0 42), zwI (Int32.ofNat k_)] _ _ _ _
    rw [h42]
    refine zY.bn rfl (by omega) (by omega) (fun _ => ?_) (fun hF => absurd (show l.length ≤ k_ by omega) hF)
    refine zY.go 1 rfl ?_
    exact zY.ri rfl rfl ⟨rfl, rfl, rfl⟩
  | n_ + 1, k_, o, hk => by
    have hl0 := hl
    obtain ⟨h42, h20, hg⟩ := hl
    obtain ⟨s_, hs⟩ : ∃ s_, l[k_]? = some s_ := ⟨_, List.getElem?_eq_getElem (by omega)⟩
    obtain ⟨g1, g2⟩ := hg k_ s_ hs
    rw [zdrop_cons hs]
    have hk20 : k_ < zas30 43 := by show k_ < 20; omega
    have ih_ := fun o => zm153l t_ I_ L_ l hl0 ht n_ (k_ + 1) o (by omega)
    simp only [← zisucc] at ih_
    refine zY.go 3 rfl ?_
    show zY _ _ _ _ _ [zwI (I_ 7 0 42), zwI (Int32.ofNat k_)] _ _ _ _
    rw [h42]
    refine zY.bn rfl (by omega) (by omega) (fun hT_ => absurd hT_ (show ¬ l.length ≤ k_ by omega)) (fun _ => ?_)
    refine zY.go 3 rfl ?_
    refine zY.ai rfl rfl hk20 ?_
    rw [g1]
    refine zY.go 1 rfl ?_
    unfold zlx
    refine zY.bn rfl (by omega) (by omega) (fun hp => ?_) (fun hp => ?_)
    · rw [if_neg (show ¬ s_ = t_ from hp)]
      refine zY.go 4 rfl ?_
      exact ih_ o
    · rw [if_pos (show s_ = t_ from Decidable.byContradiction hp)]
      refine zY.go 5 rfl ?_
      exact ih_ (some k_)
theorem zm153 {I_ : zIn} {L_ : zLi} {t_ : Nat} {l : List Nat} (hl : zTr I_ l) (ht : t_ < 200) : zYm 1 153 [zwR 7 0, zwI (Int32.ofNat t_)] I_ L_ 0 (zRet (some (zwI (zox (zlx t_ l 0 none)))) I_ L_) := by
  refine zYm.of (Nat.le_of_ble_eq_true rfl) rfl ?_
  refine zY.go 4 rfl ?_
  exact zm153l t_ I_ L_ l hl ht l.length 0 none (by omega)
def zkm (I_ : zIn) : List Nat → Int32 → Int32 → Int32 × Int32
  | [], p_, w_ => (p_, w_)
  | s_ :: r_, p_, w_ => zkm I_ r_ (zmpl I_ s_) (w_ + 2 * zspm p_ (zmpl I_ s_))
def zdm (I_ : zIn) (l : List Nat) (p_ base_ : Int32) : Int32 := (zkm I_ l p_ 0).2 + 2 * zspm (zkm I_ l p_ 0).1 base_
theorem zm144l (v_ : Nat) (I_ : zIn) (L_ : zLi) (l : List Nat) (hl : zTr I_ l) (hv : v_ < 4) : ∀ (n_ k_ : Nat) (p_ w_ : Int32), n_ + k_ = l.length → zY none 4 144 12 [some (zwR 7 0), some (zwI (Int32.ofNat v_)), some (zwI w_), some (zwI p_), some (zwI (Int32.ofNat k_))] [] I_ L_ 0 (zRet (some (zwI ((zkm I_ (l.drop k_) p_ w_).2 + 2 * zspm (zkm I_ (l.drop k_) p_ w_).1 (I_ 30 12 v_)))) I_ L_)
  | 0, k_, p_, w_, hk => by
    obtain ⟨h42, h20, _⟩ := hl
    rw [List.drop_of_length_le (by omega)]
    refine zY.go 3 rfl ?_
    show zY _ _ _ _ _ [zwI (I_ 7 0 42), zwI (Int32.ofNat k_)] _ _ _ _
    rw [h42]
    refine zY.bn rfl (by omega) (by omega) (fun _ => ?_) (fun hF => absurd (show l.length ≤ k_ by omega) hF)
    refine zY.go 6 rfl ?_
    refine zY.ai rfl rfl hv ?_
    refine zY.cr zm146 rfl rfl rfl rfl (Nat.le_of_ble_eq_true rfl) rfl (by decide) rfl (by decide) (by decide) ?_
    refine zY.go 1 rfl ?_
    exact zY.ri rfl rfl ⟨rfl, rfl, rfl⟩
  | n_ + 1, k_, p_, w_, hk => by
    have hl0 := hl
    obtain ⟨h42, h20, hg⟩ := hl
    obtain ⟨s_, hs⟩ : ∃ s_, l[k_]? = some s_ := ⟨_, List.getElem?_eq_getElem (by omega)⟩
    obtain ⟨g1, g2⟩ := hg k_ s_ hs
    rw [zdrop_cons hs]
    have hk20 : k_ < zas30 43 := by show k_ < 20; omega
    have ih_ := fun p_ w_ => zm144l v_ I_ L_ l hl0 hv n_ (k_ + 1) p_ w_ (by omega)
    simp only [← zisucc] at ih_
    refine zY.go 3 rfl ?_
    show zY _ _ _ _ _ [zwI (I_ 7 0 42), zwI (Int32.ofNat k_)] _ _ _ _
    rw [h42]
    refine zY.bn rfl (by omega) (by omega) (fun hT_ => absurd hT_ (show ¬ l.length ≤ k_ by omega)) (fun _ => ?_)
    refine zY.go 7 rfl ?_
    refine zY.ai rfl rfl hk20 ?_
    rw [g1]
    refine zY.cr (zm145 g2) rfl rfl rfl rfl (Nat.le_of_ble_eq_true rfl) rfl (by decide) rfl (by decide) (by decide) ?_
    refine zY.cr zm146 rfl rfl rfl rfl (Nat.le_of_ble_eq_true rfl) rfl (by decide) rfl (by decide) (by decide) ?_
    refine zY.go 6 rfl ?_
    refine zY.ai rfl rfl hk20 ?_
    rw [g1]
    refine zY.cr (zm145 g2) rfl rfl rfl rfl (Nat.le_of_ble_eq_true rfl) rfl (by decide) rfl (by decide) (by decide) ?_
    refine zY.go 3 rfl ?_
    exact ih_ _ _
theorem zm144 {I_ : zIn} {L_ : zLi} {v_ : Nat} {l : List Nat} (hl : zTr I_ l) (hv : v_ < 4) : zYm 4 144 [zwR 7 0, zwI (Int32.ofNat v_)] I_ L_ 0 (zRet (some (zwI (zdm I_ l (I_ 30 17 v_) (I_ 30 12 v_)))) I_ L_) := by
  refine zYm.of (Nat.le_of_ble_eq_true rfl) rfl ?_
  refine zY.go 5 rfl ?_
  refine zY.ai rfl rfl hv ?_
  refine zY.go 3 rfl ?_
  exact zm144l v_ I_ L_ l hl hv l.length 0 _ _ (by omega)
theorem z2q {q_ : Nat} : 2 * Int32.ofNat q_ = Int32.ofNat (2 * q_) := by rw [Int32.ofNat_mul]; rfl
/-- when the pick of a request ends -/
def zpeo (I_ : zIn) (l : List Nat) (q_ : Nat) : Int32 := match zlx (2 * q_) l 0 none with
  | none => I_ 30 37 q_
  | some j_ => I_ 30 45 j_
theorem zm152 {I_ : zIn} {L_ : zLi} {q_ : Nat} {l : List Nat} (hl : zTr I_ l) (hq : q_ < 60) : zYm 2 152 [zwR 7 0, zwI (Int32.ofNat q_)] I_ L_ 0 (zRet (some (zwI (zpeo I_ l q_))) I_ L_) := by
  have h20 := hl.2.1
  refine zYm.of (Nat.le_of_ble_eq_true rfl) rfl ?_
  refine zY.go 4 rfl ?_
  show zY _ _ _ _ _ [zwI (2 * Int32.ofNat q_), zwR 7 0] _ _ _ _
  rw [z2q]
  refine zY.cr (zm153 hl (by omega)) rfl rfl rfl rfl (Nat.le_of_ble_eq_true rfl) rfl (by decide) rfl (by decide) (by decide) ?_
  refine zY.go 3 rfl ?_
  unfold zpeo
  have hlt := zlx_lt (t_ := 2 * q_) l 0 none 20 (by omega) (fun j_ hj => by cases hj)
  cases ho : zlx (2 * q_) l 0 none with
  | none =>
    refine zY.bc rfl (fun hp => absurd rfl hp) (fun _ => ?_)
    refine zY.go 3 rfl ?_
    refine zY.ai rfl rfl hq ?_
    refine zY.go 1 rfl ?_
    exact zY.ri rfl rfl ⟨rfl, rfl, rfl⟩
  | some j_ =>
    have hj := hlt j_ ho
    have hj20 : j_ < zas30 45 := hj
    have hne : ¬ Int32.ofNat j_ = -1 := by
      intro e_
      have h0 := zige (a := j_) (by omega)
      rw [e_] at h0
      exact absurd h0 (by decide)
    refine zY.bc rfl (fun _ => ?_) (fun hp => absurd hne hp)
    refine zY.go 3 rfl ?_
    refine zY.ai rfl rfl hj20 ?_
    exact zY.ri rfl rfl ⟨rfl, rfl, rfl⟩
def zmtl (I_ : zIn) (l : List Nat) (k_ s_ : Nat) : Bool := if s_ % 2 = 0 then decide (I_ 30 34 (s_ / 2) + 20 < I_ 30 44 k_) else decide (zmlt I_ (s_ / 2) (zpeo I_ l (s_ / 2)) < I_ 30 44 k_)
theorem zm151 {I_ : zIn} {L_ : zLi} {k_ s_ : Nat} {l : List Nat} (hl : zTr I_ l) (hs : l[k_]? = some s_) : zYm 5 151 [zwR 7 0, zwI (Int32.ofNat k_)] I_ L_ 0 (zRet (some (zwI (if zmtl I_ l k_ s_ = true then 1 else 0))) I_ L_) := by
  obtain ⟨hlt, _⟩ := List.getElem?_eq_some_iff.mp hs
  obtain ⟨g1, g2⟩ := hl.2.2 k_ s_ hs
  have h20 := hl.2.1
  have hk20 : k_ < zas30 43 := by show k_ < 20; omega
  have hk44 : k_ < zas30 44 := by show k_ < 20; omega
  have h60 : s_ / 2 < zas30 34 := by show s_ / 2 < 60; omega
  obtain ⟨e1_, e2_⟩ := zs2d s_ (by omega)
  refine zYm.of (Nat.le_of_ble_eq_true rfl) rfl ?_
  refine zY.go 3 rfl ?_
  refine zY.ai rfl rfl hk20 ?_
  rw [g1]
  refine zY.go 6 rfl ?_
  show zY _ _ _ _ [some (zwR 7 0), some (zwI (Int32.ofNat k_)), some (zwI (Int32.ofNat s_ / 2))] [zwI (Int32.ofNat k_), zwR 30 43] _ _ _ _
  rw [e1_]
  refine zY.ai rfl rfl hk20 ?_
  rw [g1]
  refine zY.go 2 rfl ?_
  show zY _ _ _ _ _ [zwI (Int32.ofNat s_ - Int32.ofNat s_ / 2 * 2)] _ _ _ _
  rw [e2_]
  unfold zmtl
  refine zY.bi rfl (fun hp17 => ?_) (fun hp17 => ?_)
  · rw [if_neg (fun h_ => hp17 (zpar_0.mpr h_))]
    refine zY.go 3 rfl ?_
    refine zY.ai rfl rfl hk44 ?_
    refine zY.go 4 rfl ?_
    refine zY.cr (zm152 hl (show s_ / 2 < 60 from h60)) rfl rfl rfl rfl (Nat.le_of_ble_eq_true rfl) rfl (by decide) rfl (by decide) (by decide) ?_
    refine zY.cr (zm154 (show s_ / 2 < 60 from h60)) rfl rfl rfl rfl (Nat.le_of_ble_eq_true rfl) rfl (by decide) rfl (by decide) (by decide) ?_
    refine zY.bc rfl (fun hp => ?_) (fun hp => ?_)
    · refine zY.go 1 rfl ?_
      exact zY.rb rfl rfl (Or.inl rfl) ⟨by rw [decide_eq_false (Int32.not_lt.mpr hp)]; rfl, rfl, rfl⟩
    · refine zY.go 2 rfl ?_
      exact zY.rb rfl rfl (Or.inr rfl) ⟨by rw [decide_eq_true (Int32.not_le.mp hp)]; rfl, rfl, rfl⟩
  · rw [if_pos (zpar_0.mp (Decidable.byContradiction hp17))]
    refine zY.go 3 rfl ?_
    refine zY.ai rfl rfl hk44 ?_
    refine zY.go 3 rfl ?_
    refine zY.ai rfl rfl h60 ?_
    refine zY.go 2 rfl ?_
    refine zY.bc rfl (fun hp => ?_) (fun hp => ?_)
    · refine zY.go 2 rfl ?_
      exact zY.rb rfl rfl (Or.inl rfl) ⟨by rw [decide_eq_false (Int32.not_lt.mpr hp)]; rfl, rfl, rfl⟩
    · refine zY.go 2 rfl ?_
      exact zY.rb rfl rfl (Or.inr rfl) ⟨by rw [decide_eq_true (Int32.not_le.mp hp)]; rfl, rfl, rfl⟩
