/-! THE CALLS: vehicle -/
theorem zzvl_ne {I_ : zIn} {c_ v_ c' i_ f_ : Nat} (h_ : ¬ c' = 99) : zvl I_ c_ v_ c' i_ f_ = I_ c' i_ f_ := by
  unfold zvl znwI
  rw [if_neg h_]
  split
  · rename_i e_
    rw [e_.1, e_.2]
  · rfl
theorem zzvl_99 {I_ : zIn} {c_ v_ c' i_ : Nat} (h_ : ¬ (c' = c_ ∧ i_ = v_)) : zvl I_ c_ v_ 99 c' i_ = I_ 99 c' i_ := by
  unfold zvl znwI
  rw [if_pos rfl, if_neg h_]
theorem zzveI {C_ : zIn} {v_ : Nat} {y1 y2 y3 y4 : Int32} {c_ i_ f_ : Nat} (h1 : ¬ (c_ = 5 ∧ i_ = v_)) (h2 : ¬ (c_ = 0 ∧ i_ = v_)) (h3 : ¬ (c_ = 99 ∧ (i_ = 0 ∨ i_ = 5 ∨ i_ = 24 ∨ i_ = 25 ∨ i_ = 26 ∨ i_ = 27) ∧ f_ = v_)) : zveI C_ v_ y1 y2 y3 y4 c_ i_ f_ = C_ c_ i_ f_ := by
  unfold zveI zveL
  by_cases h_ : c_ = 99
  · subst h_
    unfold znwI
    rw [if_pos rfl, if_neg (by omega), if_pos rfl, if_neg (by omega), zzvl_99 (by omega), zzvl_99 (by omega), zzvl_99 (by omega), zzvl_99 (by omega)]
  · unfold znwI
    rw [if_neg h_, if_neg h1, if_neg h_, if_neg h2, zzvl_ne h_, zzvl_ne h_, zzvl_ne h_, zzvl_ne h_]
theorem zzveI_is {C_ : zIn} {v_ : Nat} {y1 y2 y3 y4 : Int32} {f_ : Nat} : zveI C_ v_ y1 y2 y3 y4 5 v_ f_ = zrw [0, y1, y2, y3, y4, 0, 0, 0, 0, 1, 0, y1, 0] f_ := by
  unfold zveI
  rw [znwI_is (by decide)]
theorem zzvhM {D_ : zIn} {n_ : Nat} {y1 y2 y3 y4 : Int32} {c_ i_ f_ : Nat} (h1 : ¬ (c_ = 30 ∧ (i_ = 12 ∨ i_ = 13 ∨ i_ = 14 ∨ i_ = 15 ∨ i_ = 17) ∧ f_ = n_)) (h2 : ¬ (c_ = 31 ∧ i_ = 16 ∧ f_ = n_)) (h3 : ¬ (c_ = 7 ∧ i_ = 0 ∧ f_ = 11)) : zvhM D_ n_ y1 y2 y3 y4 c_ i_ f_ = D_ c_ i_ f_ := by
  unfold zvhM zvhZ
  rw [zset_ne h3, zset_ne (by omega), zset_ne h2, zset_ne (by omega), zset_ne (by omega), zset_ne (by omega), zset_ne (by omega)]
theorem zzvhR {D_ : zIn} {n_ : Nat} {y1 y2 y3 y4 : Int32} : zvhM D_ n_ y1 y2 y3 y4 30 12 n_ = y1 ∧ zvhM D_ n_ y1 y2 y3 y4 30 13 n_ = y2 ∧ zvhM D_ n_ y1 y2 y3 y4 30 14 n_ = y3 ∧ zvhM D_ n_ y1 y2 y3 y4 30 15 n_ = y4 ∧ zvhM D_ n_ y1 y2 y3 y4 31 16 n_ = 1 ∧ zvhM D_ n_ y1 y2 y3 y4 30 17 n_ = y1 ∧ zvhM D_ n_ y1 y2 y3 y4 7 0 11 = D_ 7 0 11 + 1 := by
  unfold zvhM zvhZ
  refine ⟨by simp [zset], by simp [zset], by simp [zset], by simp [zset], by simp [zset], by simp [zset], by simp [zset]⟩
theorem zzsq0 {D_ : zIn} {v_ : Nat} : ∀ (n_ k_ : Nat) (x_ : Int32), (∀ j_, k_ ≤ j_ → j_ < k_ + n_ → ¬ (D_ 30 32 j_ = 1 ∧ D_ 30 35 j_ = Int32.ofNat v_)) → zsqL D_ v_ n_ k_ x_ = x_
  | 0, _, _, _ => rfl
  | n_ + 1, k_, x_, h_ => by
    unfold zsqL zsqN
    rw [if_neg (h_ k_ (by omega) (by omega)), Int32.add_zero, zzsq0 n_ (k_ + 1) _ (fun j_ a_ b_ => h_ j_ (by omega) (by omega))]
theorem zzsV {C_ D_ : zIn} {L_ : zLi} {p_ N_ M_ b0 b1 b2 : Nat} {y4 : Int32} (h_ : zzR C_ L_ D_ p_ N_ M_) (hN_ : N_ < 4) (h0 : b0 ≤ 35) (h1' : 1 ≤ b1 ∧ b1 ≤ 8) (h2' : b2 ≤ 3) : zzR (zveI C_ N_ (Int32.ofNat b0) (Int32.ofNat b1) (Int32.ofNat b2) y4) (zlup L_ 21 0 (L_ 21 0 ++ [N_])) (zvhM D_ N_ (Int32.ofNat b0) (Int32.ofNat b1) (Int32.ofNat b2) y4) p_ (N_ + 1) M_ ∧ zvhM D_ N_ (Int32.ofNat b0) (Int32.ofNat b1) (Int32.ofNat b2) y4 7 0 11 = Int32.ofNat (N_ + 1) := by
  obtain ⟨h1, h2, h3, h4, h5, h6⟩ := h_
  obtain ⟨a1_, a2, a3, a4, a5, a6, a7, a8, a9, b1', b2', b3, b4, b5, b6, b7⟩ := h1
  have nc : ∀ c_ i_ f_, ¬ (c_ = 5 ∧ i_ = N_) → ¬ (c_ = 0 ∧ i_ = N_) → ¬ (c_ = 99 ∧ (i_ = 0 ∨ i_ = 5 ∨ i_ = 24 ∨ i_ = 25 ∨ i_ = 26 ∨ i_ = 27) ∧ f_ = N_) → zveI C_ N_ (Int32.ofNat b0) (Int32.ofNat b1) (Int32.ofNat b2) y4 c_ i_ f_ = C_ c_ i_ f_ := fun c_ i_ f_ => zzveI
  have nd_ : ∀ c_ i_ f_, ¬ (c_ = 30 ∧ (i_ = 12 ∨ i_ = 13 ∨ i_ = 14 ∨ i_ = 15 ∨ i_ = 17) ∧ f_ = N_) → ¬ (c_ = 31 ∧ i_ = 16 ∧ f_ = N_) → ¬ (c_ = 7 ∧ i_ = 0 ∧ f_ = 11) → zvhM D_ N_ (Int32.ofNat b0) (Int32.ofNat b1) (Int32.ofNat b2) y4 c_ i_ f_ = D_ c_ i_ f_ := fun c_ i_ f_ => zzvhM
  have nl : ∀ c_ u_, ¬ (c_ = 21 ∧ u_ = 0) → zlup L_ 21 0 (L_ 21 0 ++ [N_]) c_ u_ = L_ c_ u_ := fun c_ u_ h_ => zlup_ne h_
  obtain ⟨r1_, r2, r3, r4, r5_, r6, r7⟩ := zzvhR (D_ := D_) (n_ := N_) (y1 := Int32.ofNat b0) (y2 := Int32.ofNat b1) (y3 := Int32.ofNat b2) (y4 := y4)
  have e11_ : zvhM D_ N_ (Int32.ofNat b0) (Int32.ofNat b1) (Int32.ofNat b2) y4 7 0 11 = Int32.ofNat (N_ + 1) := by rw [r7, a6, zisucc]
  obtain ⟨x1_, x2_, x3, x4_, x5_⟩ := h6
  obtain ⟨n1_, n2_, n3_, n4_, n5_, n6_, n7, n8, n9, n0_⟩ := x3 N_ (Nat.le_refl _)
  obtain ⟨m1_, m2_, m3_, m4_, m5_, m6_⟩ := x5_ N_ (Nat.le_refl _) hN_
  have hs : ∀ q_, zsea (zveI C_ N_ (Int32.ofNat b0) (Int32.ofNat b1) (Int32.ofNat b2) y4) q_ = zsea C_ q_ := fun q_ => by
    unfold zsea
    rw [nc 1 q_ 0 (by omega) (by omega) (by omega), nc 2 _ 3 (by omega) (by omega) (by omega)]
  have hch : ∀ q_, zchr (zveI C_ N_ (Int32.ofNat b0) (Int32.ofNat b1) (Int32.ofNat b2) y4) q_ = zchr C_ q_ := fun q_ => by
    unfold zchr
    rw [nc 1 q_ 0 (by omega) (by omega) (by omega), nc 2 _ 0 (by omega) (by omega) (by omega)]
  have hkd : ∀ q_, zmkd (zvhM D_ N_ (Int32.ofNat b0) (Int32.ofNat b1) (Int32.ofNat b2) y4) q_ = zmkd D_ q_ := fun q_ => by
    unfold zmkd zmrd
    rw [nd_ 30 29 q_ (by omega) (by omega) (by omega), nd_ 30 7 _ (by omega) (by omega) (by omega)]
  have hse : ∀ q_, zmse (zvhM D_ N_ (Int32.ofNat b0) (Int32.ofNat b1) (Int32.ofNat b2) y4) q_ = zmse D_ q_ := fun q_ => by
    unfold zmse
    rw [hkd q_]
    unfold zmrd
    rw [nd_ 30 29 q_ (by omega) (by omega) (by omega), nd_ 31 10 _ (by omega) (by omega) (by omega)]
  have hsq : ∀ v_, zsqL (zvhM D_ N_ (Int32.ofNat b0) (Int32.ofNat b1) (Int32.ofNat b2) y4) v_ M_ 0 0 = zsqL D_ v_ M_ 0 0 := fun v_ => zzsq_ix M_ 0 0 (fun j_ _ hj => by unfold zsqN; rw [nd_ 30 32 j_ (by omega) (by omega) (by omega), nd_ 30 35 j_ (by omega) (by omega) (by omega), hse j_])
  refine ⟨⟨?_, fun i_ hi_ => (h2 i_ hi_).ix (fun f_ => nc 2 i_ f_ (by omega) (by omega) (by omega)) (nd_ 30 7 i_ (by omega) (by omega) (by omega)) (nd_ 30 8 i_ (by omega) (by omega) (by omega)) (nd_ 30 9 i_ (by omega) (by omega) (by omega)) (nd_ 31 10 i_ (by omega) (by omega) (by omega)), fun r_ hr => ⟨(h3 r_ hr).1.jx (fun f_ _ => nc 1 r_ f_ (by omega) (by omega) (by omega)) (fun i_ _ => nd_ 30 i_ r_ (by omega) (by omega) (by omega)), (h3 r_ hr).2.ix (fun f_ _ => nc 1 r_ f_ (by omega) (by omega) (by omega)) (fun i_ a_ b_ => nd_ 30 i_ r_ (by omega) (by omega) (by omega)) (nd_ 31 40 r_ (by omega) (by omega) (by omega)) (nd_ 31 41 r_ (by omega) (by omega) (by omega))⟩, fun v_ hv => ?_, fun r_ hr => ?_, ?_⟩, e11_⟩
  · unfold zzRg
    rw [e11_, zlup_self, nl 20 0 (by simp), nl 22 0 (by simp), nd_ 7 0 6 (by omega) (by omega) (by omega), nd_ 7 0 28 (by omega) (by omega) (by omega), nd_ 7 0 2 (by omega) (by omega) (by omega), nd_ 7 0 1 (by omega) (by omega) (by omega), nd_ 7 0 3 (by omega) (by omega) (by omega), nd_ 7 0 5 (by omega) (by omega) (by omega), nc 6 0 8 (by omega) (by omega) (by omega), nc 6 0 7 (by omega) (by omega) (by omega), nc 6 0 6 (by omega) (by omega) (by omega), zzcb_n (fun f_ => nc 31 0 f_ (by omega) (by omega) (by omega))]
    refine ⟨a1_, a2, a3, by rw [a4, List.range_succ], by omega, rfl, a7, a8, a9, b1', b2', b3, b4, b5, fun j_ hj => ?_, b7⟩
    rw [nc 31 0 j_ (by omega) (by omega) (by omega), nd_ 31 4 j_ (by omega) (by omega) (by omega)]
    exact b6 j_ hj
  · by_cases e_ : v_ = N_
    · subst e_
      have l24 : zlup L_ 21 0 (L_ 21 0 ++ [v_]) 24 v_ = [] := (nl 24 v_ (by simp)).trans n7
      have l25 : zlup L_ 21 0 (L_ 21 0 ++ [v_]) 25 v_ = [] := (nl 25 v_ (by simp)).trans n8
      have l26 : zlup L_ 21 0 (L_ 21 0 ++ [v_]) 26 v_ = [] := (nl 26 v_ (by simp)).trans n9
      have g10 : zveI C_ v_ (Int32.ofNat b0) (Int32.ofNat b1) (Int32.ofNat b2) y4 5 v_ 10 = 0 := by rw [zzveI_is]; rfl
      have d23_ : zvhM D_ v_ (Int32.ofNat b0) (Int32.ofNat b1) (Int32.ofNat b2) y4 30 23 v_ = 0 := (nd_ 30 23 v_ (by omega) (by omega) (by omega)).trans m4_
      have d22_ : zvhM D_ v_ (Int32.ofNat b0) (Int32.ofNat b1) (Int32.ofNat b2) y4 31 22 v_ = 0 := (nd_ 31 22 v_ (by omega) (by omega) (by omega)).trans m3_
      have d19_ : zvhM D_ v_ (Int32.ofNat b0) (Int32.ofNat b1) (Int32.ofNat b2) y4 31 19 v_ = 0 := (nd_ 31 19 v_ (by omega) (by omega) (by omega)).trans m2_
      have d18_ : zvhM D_ v_ (Int32.ofNat b0) (Int32.ofNat b1) (Int32.ofNat b2) y4 30 18 v_ = 0 := (nd_ 30 18 v_ (by omega) (by omega) (by omega)).trans m1_
      have d25_ : zvhM D_ v_ (Int32.ofNat b0) (Int32.ofNat b1) (Int32.ofNat b2) y4 30 25 v_ = 0 := (nd_ 30 25 v_ (by omega) (by omega) (by omega)).trans m5_
      have d27_ : zvhM D_ v_ (Int32.ofNat b0) (Int32.ofNat b1) (Int32.ofNat b2) y4 30 27 v_ = 0 := (nd_ 30 27 v_ (by omega) (by omega) (by omega)).trans m6_
      have hpc : zzpc (Int32.ofNat b0) := ⟨b0, by omega, rfl⟩
      refine ⟨⟨⟨?_, ?_, ?_, ?_, ?_, ?_, ?_, ?_⟩, ?_, ?_, ⟨b1, h1'.2, r2⟩, ⟨b2, h2', r3⟩, ⟨?_, ?_, fun k_ s_ hk => ?_⟩, ?_, ?_, ?_, ?_, ?_, ?_, fun j_ q_ hj => ?_⟩, ⟨fun e_ => absurd g10 e_, fun _ => d22_, fun s_ hs => ?_⟩, ⟨?_, ?_, ?_, fun s_ hs => ?_, fun s_ hs => ?_, ?_, ?_, fun s_ hs => ?_, ?_⟩⟩
      · rw [zzveI_is, r1_]; rfl
      · rw [zzveI_is, r2]; rfl
      · rw [zzveI_is, r3]; rfl
      · rw [zzveI_is, r6]; rfl
      · rw [zzveI_is, d18_]; rfl
      · rw [g10, d19_]
      · rw [r6]; exact hpc
      · rw [r1_]; exact hpc
      · rw [zzveI_is, r4]; rfl
      · rw [zzveI_is, r5_]
        show ((1 : Int32) = 0) ↔ (1 : Int32) = 0
        exact Iff.rfl
      · rw [l24, d27_]; rfl
      · rw [l24]; exact Nat.zero_le _
      · rw [l24] at hk; simp at hk
      · rw [l26, d23_]; rfl
      · rw [d23_]; decide
      · rw [d23_, r2]; exact zige (by omega)
      · rw [l26, d25_]; rfl
      · rw [l26, r3]; exact zige (by omega)
      · rw [l26]; exact Nat.zero_le _
      · rw [l26] at hj; simp [zchl] at hj
      · rw [l24] at hs; cases hs
      · rw [l24]; exact List.nodup_nil
      · rw [l26]; exact List.nodup_nil
      · rw [l25]; exact List.nodup_nil
      · rw [l24] at hs; cases hs
      · rw [l26] at hs; cases hs
      · rw [l24]; trivial
      · rw [l24]; trivial
      · rw [l25] at hs; cases hs
      · rw [l25, hsq, zzsq0 M_ 0 0 (fun j_ _ hj e_ => ?_)]
        · rfl
        · have hj2 : j_ < M_ := by omega
          obtain ⟨g1, g2⟩ := h3 j_ hj2
          have e5_ : C_ 1 j_ 5 = 1 := by rw [g2.2.1]; exact e_.1
          obtain ⟨_, w_, hw, e8, _⟩ := (h5 j_ hj2).2 e5_
          rw [g2.2.2.2.1, e_.2] at e8
          have := (zof_eq (by omega) (by omega)).mp e8
          omega
    · have hv' : v_ < N_ := by omega
      refine ⟨(h4 v_ hv').1.ix (fun f_ => nc 5 v_ f_ (by omega) (by omega) (by omega)) (nl 24 v_ (by simp)) (nl 26 v_ (by simp)) (fun q_ _ => hs q_) (fun q_ _ => hch q_) (fun i_ a_ b_ => nd_ 30 i_ v_ (by omega) (by omega) (by omega)) (nd_ 30 25 v_ (by omega) (by omega) (by omega)) (nd_ 31 16 v_ (by omega) (by omega) (by omega)) (nd_ 31 19 v_ (by omega) (by omega) (by omega)) (fun hro => hro.ix (nd_ 30 27 v_ (by omega) (by omega) (by omega)) (fun k_ _ => nd_ 30 26 _ (by omega) (by omega) (by omega))) (fun j_ _ => nd_ 30 24 _ (by omega) (by omega) (by omega)), (h4 v_ hv').2.1.ix (nc 5 v_ 10 (by omega) (by omega) (by omega)) (nl 24 v_ (by simp)) (fun s_ _ => ⟨nc 4 s_ 5 (by omega) (by omega) (by omega), fun _ _ => ⟨nc 4 s_ 3 (by omega) (by omega) (by omega), nc 4 s_ 4 (by omega) (by omega) (by omega)⟩⟩) (nd_ 30 20 v_ (by omega) (by omega) (by omega)) (nd_ 30 21 v_ (by omega) (by omega) (by omega)) (nd_ 31 22 v_ (by omega) (by omega) (by omega)), (h4 v_ hv').2.2.ix (Nat.le_refl _) (nl 24 v_ (by simp)) (nl 25 v_ (by simp)) (nl 26 v_ (by simp)) (fun s_ _ => ⟨nc 1 _ _ (by omega) (by omega) (by omega), nc 1 _ _ (by omega) (by omega) (by omega), nc 1 _ _ (by omega) (by omega) (by omega), nc 1 _ _ (by omega) (by omega) (by omega), nc 4 _ _ (by omega) (by omega) (by omega)⟩) (fun q_ _ => ⟨nc 1 _ _ (by omega) (by omega) (by omega), nc 1 _ _ (by omega) (by omega) (by omega)⟩) (fun s_ _ => nc 1 _ _ (by omega) (by omega) (by omega)) (fun q_ _ => hs q_) (fun q_ _ => hch q_) (fun s_ _ => hkd _) (fun s_ _ => hse _) (nd_ 30 13 v_ (by omega) (by omega) (by omega)) (nd_ 30 14 v_ (by omega) (by omega) (by omega)) (nd_ 30 23 v_ (by omega) (by omega) (by omega)) (hsq v_)⟩
  · have hr5 := h5 r_ hr
    unfold zzRr at hr5 ⊢
    rw [nc 1 r_ 5 (by omega) (by omega) (by omega), nc 1 r_ 8 (by omega) (by omega) (by omega), nc 1 r_ 11 (by omega) (by omega) (by omega)]
    refine ⟨fun e_ => ?_, fun e_ => ?_⟩
    · obtain ⟨c1_, v_, c2_, c3_, c4_, c5_⟩ := hr5.1 e_
      exact ⟨c1_, v_, by omega, c3_, by rw [nl 24 v_ (by simp)]; exact c4_, by rw [nl 24 v_ (by simp)]; exact c5_⟩
    · obtain ⟨c1_, v_, c2_, c3_, c4_, c5_⟩ := hr5.2 e_
      exact ⟨c1_, v_, by omega, c3_, by rw [nl 26 v_ (by simp)]; exact c4_, by rw [nl 24 v_ (by simp)]; exact c5_⟩
  · refine ⟨fun i_ hi_ => ?_, fun r_ hr => ?_, fun v_ hv => ?_, fun r_ h1 h2 => ?_, fun v_ h1 h2 => ?_⟩
    · rw [nc 99 2 i_ (by omega) (by omega) (by omega)]; exact x1_ i_ (by omega)
    · rw [nc 99 1 r_ (by omega) (by omega) (by omega), nc 99 4 (2 * r_) (by omega) (by omega) (by omega), nc 99 4 (2 * r_ + 1) (by omega) (by omega) (by omega)]; exact x2_ r_ hr
    · rw [nc 99 5 v_ (by omega) (by omega) (by omega), nc 99 0 v_ (by omega) (by omega) (by omega), nc 99 24 v_ (by omega) (by omega) (by omega), nc 99 25 v_ (by omega) (by omega) (by omega), nc 99 26 v_ (by omega) (by omega) (by omega), nc 99 27 v_ (by omega) (by omega) (by omega), nl 24 v_ (by simp), nl 25 v_ (by simp), nl 26 v_ (by simp), nl 27 v_ (by simp)]; exact x3 v_ (by omega)
    · rw [nd_ 30 33 r_ (by omega) (by omega) (by omega), nd_ 31 40 r_ (by omega) (by omega) (by omega), nd_ 31 41 r_ (by omega) (by omega) (by omega)]; exact x4_ r_ h1 h2
    · rw [nd_ 30 18 v_ (by omega) (by omega) (by omega), nd_ 31 19 v_ (by omega) (by omega) (by omega), nd_ 31 22 v_ (by omega) (by omega) (by omega), nd_ 30 23 v_ (by omega) (by omega) (by omega), nd_ 30 25 v_ (by omega) (by omega) (by omega), nd_ 30 27 v_ (by omega) (by omega) (by omega)]; exact x5_ v_ (by omega) h2
