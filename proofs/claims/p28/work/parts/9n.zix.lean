/-! MATHEMATICS: the relation's parts, row by row -/
theorem zzRp.ix {C_ C'_ D_ D' : zIn} {i_ : Nat} (h_ : zzRp C_ D_ i_) (hc_ : ∀ f_, C'_ 2 i_ f_ = C_ 2 i_ f_) (h7 : D' 30 7 i_ = D_ 30 7 i_) (h8 : D' 30 8 i_ = D_ 30 8 i_) (h9 : D' 30 9 i_ = D_ 30 9 i_) (h10 : D' 31 10 i_ = D_ 31 10 i_) : zzRp C'_ D' i_ := by
  unfold zzRp at h_ ⊢
  rw [hc_, hc_, hc_, hc_, hc_, h7, h8, h9, h10]
  exact h_
theorem zzRb.ix {C_ C'_ D_ D' : zIn} {p_ r_ : Nat} (h_ : zzRb C_ D_ p_ r_) (hc_ : ∀ f_, ¬ f_ = 9 → C'_ 1 r_ f_ = C_ 1 r_ f_) (hd_ : ∀ i_, 29 ≤ i_ → i_ ≤ 39 → D' 30 i_ r_ = D_ 30 i_ r_) : zzRb C'_ D' p_ r_ := by
  unfold zzRb at h_ ⊢
  rw [hc_ 0 (by decide), hc_ 1 (by decide), hc_ 2 (by decide), hc_ 4 (by decide), hc_ 7 (by decide), hc_ 11 (by decide), hd_ 29 (by decide) (by decide), hd_ 30 (by decide) (by decide), hd_ 31 (by decide) (by decide), hd_ 34 (by decide) (by decide), hd_ 37 (by decide) (by decide)]
  exact h_
theorem zznos_ix {C_ C'_ : zIn} {r_ : Nat} (hc_ : ∀ f_, ¬ f_ = 9 → C'_ 1 r_ f_ = C_ 1 r_ f_) : znos (C'_ 1 r_) = znos (C_ 1 r_) := by
  unfold znos
  rw [hc_ 5 (by decide), hc_ 14 (by decide)]
theorem zzRc.ix {C_ C'_ D_ D' : zIn} {r_ : Nat} (h_ : zzRc C_ D_ r_) (hc_ : ∀ f_, ¬ f_ = 9 → C'_ 1 r_ f_ = C_ 1 r_ f_) (hd_ : ∀ i_, 29 ≤ i_ → i_ ≤ 39 → D' 30 i_ r_ = D_ 30 i_ r_) (h40 : D' 31 40 r_ = D_ 31 40 r_) (h41 : D' 31 41 r_ = D_ 31 41 r_) : zzRc C'_ D' r_ := by
  unfold zzRc at h_ ⊢
  rw [zznos_ix hc_, hc_ 3 (by decide), hc_ 5 (by decide), hc_ 6 (by decide), hc_ 8 (by decide), hc_ 10 (by decide), hc_ 12 (by decide), hc_ 13 (by decide), hd_ 39 (by decide) (by decide), hd_ 32 (by decide) (by decide), hd_ 33 (by decide) (by decide), hd_ 35 (by decide) (by decide), hd_ 36 (by decide) (by decide), hd_ 38 (by decide) (by decide), h40, h41]
  exact h_
theorem zzcv.ix {C_ C'_ D_ D' : zIn} {v_ : Nat} (h_ : zzcv C_ D_ v_) (h5 : ∀ f_, C'_ 5 v_ f_ = C_ 5 v_ f_) (hd_ : ∀ i_, 12 ≤ i_ → i_ ≤ 23 → D' 30 i_ v_ = D_ 30 i_ v_) (h19 : D' 31 19 v_ = D_ 31 19 v_) : zzcv C'_ D' v_ := by
  unfold zzcv at h_ ⊢
  rw [h5, h5, h5, h5, h5, h5, hd_ 12 (by decide) (by decide), hd_ 13 (by decide) (by decide), hd_ 14 (by decide) (by decide), hd_ 17 (by decide) (by decide), hd_ 18 (by decide) (by decide), h19]
  exact h_
theorem zRo.ix {D_ D' : zIn} {v_ : Nat} {l : List Nat} (h_ : zRo D_ v_ l) (h27 : D' 30 27 v_ = D_ 30 27 v_) (h26 : ∀ k_, k_ < 16 → D' 30 26 (16 * v_ + k_) = D_ 30 26 (16 * v_ + k_)) : zRo D' v_ l := by
  refine ⟨h27.trans h_.1, h_.2.1, fun k_ s_ hs => ?_⟩
  have hl := (List.getElem?_eq_some_iff.mp hs).1
  have h2 := h_.2.1
  rw [h26 k_ (by omega)]
  exact h_.2.2 k_ s_ hs
theorem zzftakm {C_ C0_ : zIn} : ∀ (l : List Nat) (x_ : Int32), (∀ q_ ∈ l, zsea C_ q_ = zsea C0_ q_) → ztak C_ l x_ = ztak C0_ l x_
  | [], _, _ => rfl
  | q_ :: l, x_, h_ => by
    unfold ztak
    rw [h_ q_ List.mem_cons_self, zzftakm l _ (fun q_ hq => h_ q_ (List.mem_cons_of_mem _ hq))]
theorem zzfchlm {C_ C0_ : zIn} {l : List Nat} (h_ : ∀ q_ ∈ l, zchr C_ q_ = zchr C0_ q_) : zchl C_ l = zchl C0_ l := List.filter_congr (fun q_ hq => h_ q_ hq)
theorem zzsq_ix {D_ D' : zIn} {v_ : Nat} : ∀ (n_ k_ : Nat) (x_ : Int32), (∀ j_, k_ ≤ j_ → j_ < k_ + n_ → zsqN D' v_ j_ = zsqN D_ v_ j_) → zsqL D' v_ n_ k_ x_ = zsqL D_ v_ n_ k_ x_
  | 0, _, _, _ => rfl
  | n_ + 1, k_, x_, h_ => by
    unfold zsqL
    rw [h_ k_ (by omega) (by omega), zzsq_ix n_ (k_ + 1) _ (fun j_ a_ b_ => h_ j_ (by omega) (by omega))]
theorem zzRv.ix {C_ C'_ D_ D' : zIn} {L_ L' : zLi} {v_ : Nat} (h_ : zzRv C_ L_ D_ v_) (h5 : ∀ f_, C'_ 5 v_ f_ = C_ 5 v_ f_) (hl24 : L' 24 v_ = L_ 24 v_) (hl26 : L' 26 v_ = L_ 26 v_) (hs : ∀ q_ ∈ L_ 26 v_, zsea C'_ q_ = zsea C_ q_) (hc_ : ∀ q_ ∈ L_ 26 v_, zchr C'_ q_ = zchr C_ q_) (hd_ : ∀ i_, 12 ≤ i_ → i_ ≤ 23 → D' 30 i_ v_ = D_ 30 i_ v_) (h25 : D' 30 25 v_ = D_ 30 25 v_) (h16_ : D' 31 16 v_ = D_ 31 16 v_) (h19 : D' 31 19 v_ = D_ 31 19 v_) (hro : zRo D_ v_ (L_ 24 v_) → zRo D' v_ (L_ 24 v_)) (h24 : ∀ j_, j_ < 3 → D' 30 24 (3 * v_ + j_) = D_ 30 24 (3 * v_ + j_)) : zzRv C'_ L' D' v_ := by
  obtain ⟨a1_, a2, a3, a4, a5, a6, a7, a8, a9, b1, b2, b3, b4⟩ := h_
  unfold zzRv
  rw [hl24, hl26, zzftakm _ _ hs, zzfchlm hc_, h5, h5, h16_, h25, hd_ 13 (by decide) (by decide), hd_ 14 (by decide) (by decide), hd_ 15 (by decide) (by decide), hd_ 23 (by decide) (by decide)]
  refine ⟨a1_.ix h5 hd_ h19, a2, a3, a4, a5, hro a6, a7, a8, a9, b1, b2, b3, fun j_ q_ hj => ?_⟩
  have hlt := (List.getElem?_eq_some_iff.mp hj).1
  rw [h24 j_ (by omega)]
  exact b4 j_ q_ hj
theorem zzRl.ix {C_ C'_ D_ D' : zIn} {L_ L' : zLi} {v_ : Nat} (h_ : zzRl C_ L_ D_ v_) (h10 : C'_ 5 v_ 10 = C_ 5 v_ 10) (hl24 : L' 24 v_ = L_ 24 v_) (h4 : ∀ s_ ∈ L_ 24 v_, C'_ 4 s_ 5 = C_ 4 s_ 5 ∧ (¬ C_ 5 v_ 10 = 0 → (L_ 24 v_)[0]? = some s_ → C'_ 4 s_ 3 = C_ 4 s_ 3 ∧ C'_ 4 s_ 4 = C_ 4 s_ 4)) (h20 : D' 30 20 v_ = D_ 30 20 v_) (h21 : D' 30 21 v_ = D_ 30 21 v_) (h22 : D' 31 22 v_ = D_ 31 22 v_) : zzRl C'_ L' D' v_ := by
  obtain ⟨a1_, a2, a3⟩ := h_
  unfold zzRl
  rw [hl24, h10, h20, h21, h22]
  refine ⟨fun hne => ?_, a2, fun s_ hs hne => ?_⟩
  · obtain ⟨s_, l, e1_, e2_, e3_, e4_⟩ := a1_ hne
    obtain ⟨g1, g2⟩ := h4 s_ (by rw [e1_]; exact List.mem_cons_self)
    obtain ⟨g3_, g4⟩ := g2 hne (by rw [e1_]; rfl)
    refine ⟨s_, l, e1_, ?_⟩
    rw [g1, g3_, g4]
    exact ⟨e2_, e3_, e4_⟩
  · rw [(h4 s_ hs).1] at hne
    exact a3 s_ hs hne
theorem zzRt.ix {C_ C'_ D_ D' : zIn} {L_ L' : zLi} {M_ M' v_ : Nat} (h_ : zzRt C_ L_ D_ M_ v_) (hM_ : M_ ≤ M') (hl24 : L' 24 v_ = L_ 24 v_) (hl25 : L' 25 v_ = L_ 25 v_) (hl26 : L' 26 v_ = L_ 26 v_) (hq : ∀ s_ ∈ L_ 24 v_, C'_ 1 (s_ / 2) 1 = C_ 1 (s_ / 2) 1 ∧ C'_ 1 (s_ / 2) 2 = C_ 1 (s_ / 2) 2 ∧ C'_ 1 (s_ / 2) 5 = C_ 1 (s_ / 2) 5 ∧ C'_ 1 (s_ / 2) 8 = C_ 1 (s_ / 2) 8 ∧ C'_ 4 s_ 2 = C_ 4 s_ 2) (ha_ : ∀ q_ ∈ L_ 26 v_, C'_ 1 q_ 5 = C_ 1 q_ 5 ∧ C'_ 1 q_ 8 = C_ 1 q_ 8) (hd5 : ∀ s_ ∈ L_ 25 v_, C'_ 1 (s_ / 2) 5 = C_ 1 (s_ / 2) 5) (hs : ∀ q_, q_ < M_ → zsea C'_ q_ = zsea C_ q_) (hc_ : ∀ q_, q_ < M_ → zchr C'_ q_ = zchr C_ q_) (hkd : ∀ s_ ∈ L_ 24 v_, zmkd D' (s_ / 2) = zmkd D_ (s_ / 2)) (hse : ∀ s_ ∈ L_ 24 v_, zmse D' (s_ / 2) = zmse D_ (s_ / 2)) (h13 : D' 30 13 v_ = D_ 30 13 v_) (h14 : D' 30 14 v_ = D_ 30 14 v_) (h23 : D' 30 23 v_ = D_ 30 23 v_) (hsq : zsqL D' v_ M' 0 0 = zsqL D_ v_ M_ 0 0) : zzRt C'_ L' D' M' v_ := by
  obtain ⟨a1_, a2, a3, a4, a5, a6, a7, a8, a9⟩ := h_
  have hcl : ∀ l : List Nat, (∀ q_ ∈ l, q_ < M_) → zchl C'_ l = zchl C_ l := fun l hl => List.filter_congr (fun q_ hq => hc_ q_ (hl q_ hq))
  have hsb : ∀ (l : List Nat) (x_ : Int32), (∀ s_ ∈ l, s_ / 2 < M_ ∧ C'_ 1 (s_ / 2) 5 = C_ 1 (s_ / 2) 5) → zsbd C'_ l x_ = zsbd C_ l x_ := by
    intro l
    induction l with
    | nil => intro x_ _; rfl
    | cons s_ l ih_ =>
      intro x_ hh
      unfold zsbd
      rw [(hh s_ List.mem_cons_self).2, hs _ (hh s_ List.mem_cons_self).1, ih_ _ (fun s_ hs => hh s_ (List.mem_cons_of_mem _ hs))]
  have hfe : ∀ (l : List Nat) (u_ : Int) (st_ : List Nat), (∀ s_ ∈ l, zmkd D' (s_ / 2) = zmkd D_ (s_ / 2) ∧ zmse D' (s_ / 2) = zmse D_ (s_ / 2)) → zzfe D_ v_ l u_ st_ → zzfe D' v_ l u_ st_ := by
    intro l
    induction l with
    | nil => intro u_ st_ _ _; trivial
    | cons s_ l ih_ =>
      intro u_ st_ hh hf
      obtain ⟨k1_, k2_⟩ := hh s_ List.mem_cons_self
      have ih2 := fun u_ st_ => ih_ u_ st_ (fun s_ hs => hh s_ (List.mem_cons_of_mem _ hs))
      have e1_ : zzst D' s_ st_ = zzst D_ s_ st_ := by unfold zzst; rw [k1_]
      have e2_ : zzsd D' s_ st_ = zzsd D_ s_ st_ := by unfold zzsd; rw [k1_]
      have e3_ : zmch D' s_ = zmch D_ s_ := by unfold zmch; rw [k1_]
      by_cases hp : s_ % 2 = 0
      · obtain ⟨x1_, x2_, x3⟩ := (zzfe_e hp).mp hf
        refine (zzfe_e hp).mpr ?_
        rw [k2_, h13, h14, e1_]
        exact ⟨x1_, x2_, ih2 _ _ x3⟩
      · obtain ⟨x1_, x2_⟩ := (zzfe_o hp).mp hf
        refine (zzfe_o hp).mpr ?_
        rw [k2_, e2_, e3_]
        exact ⟨x1_, ih2 _ _ x2_⟩
  unfold zzRt
  rw [hl24, hl25, hl26, hcl _ (fun q_ hq => (a5 q_ hq).1), h23, hsq, hsb _ _ (fun s_ hs => ⟨(a8 s_ hs).1, hd5 s_ hs⟩)]
  refine ⟨a1_, a2, a3, fun s_ hs => ?_, fun q_ hq => ?_, a6, hfe _ _ _ (fun s_ hs => ⟨hkd s_ hs, hse s_ hs⟩) a7, fun s_ hs => ?_, a9⟩
  · obtain ⟨e1_, e2_, e3_, e4_, e5_⟩ := hq s_ hs
    obtain ⟨x1_, x2_, x3, x4_, x5_⟩ := a4 s_ hs
    rw [e1_, e2_, e3_, e4_, e5_]
    exact ⟨by omega, x2_, x3, x4_, x5_⟩
  · obtain ⟨e1_, e2_⟩ := ha_ q_ hq
    obtain ⟨x1_, x2_, x3⟩ := a5 q_ hq
    rw [e1_, e2_]
    exact ⟨by omega, x2_, x3⟩
  · obtain ⟨x1_, x2_, x3⟩ := a8 s_ hs
    rw [hd5 s_ hs]
    exact ⟨by omega, x2_, x3⟩
theorem zzRr.ix {C_ C'_ : zIn} {L_ L' : zLi} {N_ r_ : Nat} (h_ : zzRr C_ L_ N_ r_) (h5 : C'_ 1 r_ 5 = C_ 1 r_ 5) (h8 : C'_ 1 r_ 8 = C_ 1 r_ 8) (h11 : C'_ 1 r_ 11 = C_ 1 r_ 11) (h24 : ∀ v_, v_ < N_ → 2 * r_ ∈ L_ 24 v_ → 2 * r_ ∈ L' 24 v_) (h24o : ∀ v_, v_ < N_ → 2 * r_ + 1 ∈ L_ 24 v_ → 2 * r_ + 1 ∈ L' 24 v_) (h26 : ∀ v_, v_ < N_ → r_ ∈ L_ 26 v_ → r_ ∈ L' 26 v_) : zzRr C'_ L' N_ r_ := by
  unfold zzRr at h_ ⊢
  rw [h5, h8, h11]
  refine ⟨fun e_ => ?_, fun e_ => ?_⟩
  · obtain ⟨b1, v_, b2, b3, b4, b5⟩ := h_.1 e_
    exact ⟨b1, v_, b2, b3, h24 v_ b2 b4, h24o v_ b2 b5⟩
  · obtain ⟨b1, v_, b2, b3, b4, b5⟩ := h_.2 e_
    exact ⟨b1, v_, b2, b3, h26 v_ b2 b4, h24o v_ b2 b5⟩
/-- the class's rows alone, the model's rows alone -/
def zzco (K_ I_ : zIn) : Prop := ∀ c_ i_ f_, (c_ = 7 ∨ c_ = 30 ∨ (c_ = 31 ∧ ¬ i_ = 0)) → K_ c_ i_ f_ = I_ c_ i_ f_
def zzmo (K_ I_ : zIn) : Prop := ∀ c_ i_ f_, (c_ = 1 ∨ c_ = 2 ∨ c_ = 4 ∨ c_ = 5 ∨ c_ = 6 ∨ c_ = 99 ∨ c_ = 32 ∨ (c_ = 31 ∧ i_ = 0)) → K_ c_ i_ f_ = I_ c_ i_ f_
theorem zzco.m {K_ I_ : zIn} (h_ : zzco K_ I_) : zzm K_ I_ := fun c_ i_ f_ a_ _ _ => h_ c_ i_ f_ a_
theorem zzmo.n {K_ I_ : zIn} {Z_ : List Nat} (h_ : zzmo K_ I_) : zzn K_ I_ Z_ := ⟨fun c_ i_ f_ a_ _ _ => h_ c_ i_ f_ (by omega), fun s_ _ f_ => h_ 4 s_ f_ (by simp)⟩
theorem zzco.trans {K_ J_ I_ : zIn} (h1 : zzco K_ J_) (h2 : zzco J_ I_) : zzco K_ I_ := fun c_ i_ f_ a_ => (h1 c_ i_ f_ a_).trans (h2 c_ i_ f_ a_)
theorem zzmo.trans {K_ J_ I_ : zIn} (h1 : zzmo K_ J_) (h2 : zzmo J_ I_) : zzmo K_ I_ := fun c_ i_ f_ a_ => (h1 c_ i_ f_ a_).trans (h2 c_ i_ f_ a_)
theorem zzco.rfl {I_ : zIn} : zzco I_ I_ := fun _ _ _ _ => Eq.refl _
theorem zzmo.rfl {I_ : zIn} : zzmo I_ I_ := fun _ _ _ _ => Eq.refl _
theorem zzco.set {K_ I_ : zIn} {c_ i_ f_ : Nat} {x_ : Int32} (h_ : zzco K_ I_) (hc_ : ¬ (c_ = 7 ∨ c_ = 30 ∨ (c_ = 31 ∧ ¬ i_ = 0))) : zzco (zset K_ c_ i_ f_ x_) I_ := fun c' i' f' a_ => (zset_ne (fun e_ => hc_ (by rw [← e_.1, ← e_.2.1]; exact a_))).trans (h_ c' i' f' a_)
theorem zzmo.set {K_ I_ : zIn} {c_ i_ f_ : Nat} {x_ : Int32} (h_ : zzmo K_ I_) (hc_ : ¬ (c_ = 1 ∨ c_ = 2 ∨ c_ = 4 ∨ c_ = 5 ∨ c_ = 6 ∨ c_ = 99 ∨ c_ = 32 ∨ (c_ = 31 ∧ i_ = 0))) : zzmo (zset K_ c_ i_ f_ x_) I_ := fun c' i' f' a_ => (zset_ne (fun e_ => hc_ (by rw [← e_.1, ← e_.2.1]; exact a_))).trans (h_ c' i' f' a_)
def zzRR0 (I_ : zIn) (L_ : zLi) : Prop := ∃ p_ N_ M_, zzR I_ L_ I_ p_ N_ M_
/-- what a method of the class may throw, and that it answers with a number -/
def zzEt : List (Nat × List Nat) := [(32, [9, 10]), (36, [9]), (39, [9, 10]), (40, [11]), (42, [11, 9, 10]), (49, [11, 10]), (52, [11, 10]), (53, [9, 10]), (55, [10]), (57, [11, 9]), (58, [11]), (60, [11, 9]), (61, [11, 9]), (62, [11, 9]), (63, [11, 9]), (64, [11, 9]), (67, [11]), (68, [11]), (69, [11]), (71, [9])]
def zzEs (mc_ E_ : Nat) : Bool := match zzEt.lookup mc_ with
  | some l => l.contains E_
  | none => false
def zzVal (mc_ : Nat) (v_ : Option zW) : Prop := (mc_ = 52 ∧ v_ = none) ∨ ((¬ mc_ = 52 ∧ ¬ mc_ = 30) ∧ ∃ w_, v_ = some (zwI w_)) ∨ (mc_ = 30 ∧ ∃ w_, v_ = some (zwL w_))
/-- how the law compares: nothing thrown and the same, or the same thrown -/
def zzAns (mc_ : Nat) (cd : Nat → Int32) (r_ r2 : zQr) (t_ : Int32) : Prop := match r_ with
  | .inl v_ => t_ = 0 ∧ r2 = .inl v_
  | .inr E_ => t_ = cd E_ ∧ ∃ v_, r2 = .inl v_ ∧ zzVal mc_ v_
def zzKd (mc_ : Nat) (r_ : zQr) : Prop := match r_ with
  | .inl v_ => zzVal mc_ v_
  | .inr E_ => zzEs mc_ E_ = true
/-- a call on both: mc of the class, then mm of the model, whatever stands in the law's long -/
def zzOk (I_ : zIn) (L_ : zLi) (dc mc_ dm mm : Nat) (ac am : List zW) (cd : Nat → Int32) : Prop := zYm dc mc_ ac I_ L_ 200 (fun r_ I1 L1 => zzKd mc_ r_ ∧ ∀ y_, zYm dm mm am (zset I1 32 0 0 y_) L1 0 (fun r2 I2_ L2_ => zzRR0 I2_ L2_ ∧ zzAns mc_ cd r_ r2 (I2_ 7 0 0) ∧ I2_ 32 0 0 = y_))
theorem zzpre {I_ I1 : zIn} {L_ : zLi} {p_ N_ M_ : Nat} {y_ : Int32} (h_ : zzR I_ L_ I_ p_ N_ M_) (hco : zzco I1 I_) : zzR I_ L_ (zset I1 32 0 0 y_) p_ N_ M_ := h_.cg zzn.rfl ((zzco.set hco (by simp)).m) (fun _ _ _ _ => rfl)
theorem zz32n {I_ : zIn} {Z_ : List Nat} {y_ : Int32} : zzn (zset I_ 32 0 0 y_) I_ Z_ := ⟨fun c_ i_ f_ a_ _ _ => zset_ne (by omega), fun s_ _ f_ => zset_ne (by simp)⟩
theorem zzpost {I1 J_ I2_ : zIn} {L_ : zLi} {p_ N_ M_ : Nat} {y_ : Int32} (h_ : zzR I1 L_ I2_ p_ N_ M_) (hJ : J_ = zset I1 32 0 0 y_) (hmo : zzmo I2_ J_) : zzRR0 I2_ L_ := ⟨p_, N_, M_, h_.cg (hmo.n.trans (hJ ▸ zz32n)) zzm.rfl (fun _ _ _ _ => rfl)⟩

