/-! THE CALLS: absent, busStop -/
theorem zzRb.jx {C_ C'_ D_ D' : zIn} {p_ r_ : Nat} (h_ : zzRb C_ D_ p_ r_) (hc_ : ∀ f_, (f_ = 0 ∨ f_ = 1 ∨ f_ = 2 ∨ f_ = 4 ∨ f_ = 7 ∨ f_ = 11) → C'_ 1 r_ f_ = C_ 1 r_ f_) (hd_ : ∀ i_, (i_ = 29 ∨ i_ = 30 ∨ i_ = 31 ∨ i_ = 34 ∨ i_ = 37) → D' 30 i_ r_ = D_ 30 i_ r_) : zzRb C'_ D' p_ r_ := by
  unfold zzRb at h_ ⊢
  rw [hc_ 0 (by decide), hc_ 1 (by decide), hc_ 2 (by decide), hc_ 4 (by decide), hc_ 7 (by decide), hc_ 11 (by decide), hd_ 29 (by decide), hd_ 30 (by decide), hd_ 31 (by decide), hd_ 34 (by decide), hd_ 37 (by decide)]
  exact h_
section
variable {I_ : zIn} {L_ : zLi} {dc mc_ dm mm a_ p_ N_ M_ : Nat} {ac am : List zW} {cd : Nat → Int32}
theorem zzRefN {E_ : Nat} {t_ : Int32} (h_ : zzR I_ L_ I_ p_ N_ M_) (hc_ : zYm dc mc_ ac I_ L_ a_ (zThw E_ I_ L_)) (ha_ : a_ ≤ 200) (ht : cd E_ = t_) (hm_ : ∀ y_, zYm dm mm am (zset I_ 32 0 0 y_) L_ 0 (zRet none (zset (zset I_ 32 0 0 y_) 7 0 0 t_) L_)) (hke : zzEs mc_ E_ = true := by decide) (hkw : mc_ = 52 := by rfl) : zzOk I_ L_ dc mc_ dm mm ac am cd := by
  refine hc_.mono (Nat.le_refl _) ha_ (fun r_ I1 L1 hq => ?_)
  obtain ⟨rfl, rfl, rfl⟩ := hq
  refine ⟨hke, fun y_ => ?_⟩
  refine (hm_ y_).mono (Nat.le_refl _) (Nat.le_refl _) (fun r2 I2_ L2_ hq2 => ?_)
  obtain ⟨rfl, rfl, rfl⟩ := hq2
  refine ⟨?_, ?_, by rw [zset_ne (by simp), zset_is]⟩
  · exact ⟨p_, N_, M_, h_.cg ((zzmo.set zzmo.rfl (by simp)).n.trans zz32n) (fun c_ i_ f_ h1 h2 h3 => by
      rw [zset_ne (fun e_ => h3 ⟨e_.1, e_.2.1, Or.inl e_.2.2⟩), zset_ne (by omega)]) (fun _ _ _ _ => rfl)⟩
  · exact ⟨by rw [zset_is, ht], _, rfl, Or.inl ⟨hkw, rfl⟩⟩
end
theorem zzsA {C_ D_ : zIn} {L_ : zLi} {p_ N_ M_ r_ : Nat} (h_ : zzR C_ L_ D_ p_ N_ M_) (hr : r_ < M_) : zzR (zset C_ 1 r_ 13 1) L_ (zset D_ 31 41 r_ 1) p_ N_ M_ := by
  have nc : ∀ c_ i_ f_, ¬ (c_ = 1 ∧ i_ = r_ ∧ f_ = 13) → zset C_ 1 r_ 13 1 c_ i_ f_ = C_ c_ i_ f_ := fun c_ i_ f_ hh => zset_ne hh
  have nd_ : ∀ c_ i_ f_, ¬ (c_ = 31 ∧ i_ = 41 ∧ f_ = r_) → zset D_ 31 41 r_ 1 c_ i_ f_ = D_ c_ i_ f_ := fun c_ i_ f_ hh => zset_ne hh
  have hs : ∀ q_, zsea (zset C_ 1 r_ 13 1) q_ = zsea C_ q_ := fun q_ => by unfold zsea; rw [nc 1 q_ 0 (by simp), nc 2 _ 3 (by simp)]
  have hch : ∀ q_, zchr (zset C_ 1 r_ 13 1) q_ = zchr C_ q_ := fun q_ => by unfold zchr; rw [nc 1 q_ 0 (by simp), nc 2 _ 0 (by simp)]
  have hkd : ∀ q_, zmkd (zset D_ 31 41 r_ 1) q_ = zmkd D_ q_ := fun q_ => by unfold zmkd zmrd; rw [nd_ 30 29 q_ (by simp), nd_ 30 7 _ (by simp)]
  have hse : ∀ q_, zmse (zset D_ 31 41 r_ 1) q_ = zmse D_ q_ := fun q_ => by unfold zmse; rw [hkd]; unfold zmrd; rw [nd_ 30 29 q_ (by simp), nd_ 31 10 _ (by simp)]
  obtain ⟨h1, h2, h3, h4, h5, h6⟩ := h_
  refine ⟨?_, fun i_ hi_ => (h2 i_ hi_).ix (fun f_ => nc 2 i_ f_ (by simp)) (nd_ _ _ _ (by simp)) (nd_ _ _ _ (by simp)) (nd_ _ _ _ (by simp)) (nd_ _ _ _ (by simp)), fun q_ hq => ⟨(h3 q_ hq).1.jx (fun f_ hf => nc 1 q_ f_ (by omega)) (fun i_ hi_ => nd_ 30 i_ q_ (by simp)), ?_⟩, fun v_ hv => ⟨(h4 v_ hv).1.ix (fun f_ => nc 5 v_ f_ (by simp)) rfl rfl (fun q_ _ => hs q_) (fun q_ _ => hch q_) (fun i_ _ _ => nd_ 30 i_ v_ (by simp)) (nd_ _ _ _ (by simp)) (nd_ _ _ _ (by simp)) (nd_ _ _ _ (by simp)) (fun hro => hro.ix (nd_ _ _ _ (by simp)) (fun k_ _ => nd_ _ _ _ (by simp))) (fun j_ _ => nd_ _ _ _ (by simp)), (h4 v_ hv).2.1.ix (nc 5 v_ 10 (by simp)) rfl (fun s_ _ => ⟨nc 4 s_ 5 (by simp), fun _ _ => ⟨nc 4 s_ 3 (by simp), nc 4 s_ 4 (by simp)⟩⟩) (nd_ _ _ _ (by simp)) (nd_ _ _ _ (by simp)) (nd_ _ _ _ (by simp)), (h4 v_ hv).2.2.ix (Nat.le_refl _) rfl rfl rfl (fun s_ _ => ⟨nc _ _ _ (by simp), nc _ _ _ (by simp), nc _ _ _ (by simp), nc _ _ _ (by simp), nc _ _ _ (by simp)⟩) (fun q_ _ => ⟨nc _ _ _ (by simp), nc _ _ _ (by simp)⟩) (fun s_ _ => nc _ _ _ (by simp)) (fun q_ _ => hs q_) (fun q_ _ => hch q_) (fun s_ _ => hkd _) (fun s_ _ => hse _) (nd_ _ _ _ (by simp)) (nd_ _ _ _ (by simp)) (nd_ _ _ _ (by simp)) (zzsq_ix M_ 0 0 (fun j_ _ _ => by unfold zsqN; rw [nd_ 30 32 j_ (by simp), nd_ 30 35 j_ (by simp), hse]))⟩, fun q_ hq => (h5 q_ hq).ix (nc _ _ _ (by simp)) (nc _ _ _ (by simp)) (nc _ _ _ (by simp)) (fun _ _ h_ => h_) (fun _ _ h_ => h_) (fun _ _ h_ => h_), ?_⟩
  · obtain ⟨a1_, a2, a3, a4, a5, a6, a7, a8, a9, b1, b2, b3, b4, b5, b6, b7⟩ := h1
    unfold zzRg
    rw [nd_ 7 0 6 (by simp), nd_ 7 0 11 (by simp), nd_ 7 0 28 (by simp), nd_ 7 0 2 (by simp), nd_ 7 0 1 (by simp), nd_ 7 0 3 (by simp), nd_ 7 0 5 (by simp), nc 6 0 8 (by simp), nc 6 0 7 (by simp), nc 6 0 6 (by simp), zzcb_n (fun f_ => nc 31 0 f_ (by simp))]
    refine ⟨a1_, a2, a3, a4, a5, a6, a7, a8, a9, b1, b2, b3, b4, b5, fun k_ hk => ?_, b7⟩
    rw [nc 31 0 k_ (by simp), nd_ 31 4 k_ (by simp)]
    exact b6 k_ hk
  · obtain ⟨g1, g2⟩ := h3 q_ hq
    obtain ⟨c3_, c5_, c6_, c8_, c10_, c12_, c13_, c14_⟩ := g2
    have hz : znos (zset C_ 1 r_ 13 1 1 q_) = znos (C_ 1 q_) := by unfold znos; rw [nc 1 q_ 5 (by simp), nc 1 q_ 14 (by simp)]
    unfold zzRc
    rw [hz, nc 1 q_ 3 (by simp), nc 1 q_ 5 (by simp), nc 1 q_ 6 (by simp), nc 1 q_ 8 (by simp), nc 1 q_ 10 (by simp), nc 1 q_ 12 (by simp), nd_ 30 39 q_ (by simp), nd_ 30 32 q_ (by simp), nd_ 30 33 q_ (by simp), nd_ 30 35 q_ (by simp), nd_ 30 36 q_ (by simp), nd_ 30 38 q_ (by simp), nd_ 31 40 q_ (by simp)]
    refine ⟨c3_, c5_, c6_, c8_, c10_, c12_, ?_, c14_⟩
    by_cases e_ : q_ = r_
    · subst e_
      rw [zset_is, zset_is]
    · rw [nc 1 q_ 13 (by simp [e_]), nd_ 31 41 q_ (by simp [e_])]
      exact c13_
  · obtain ⟨a1_, a2, a3, a4, a5⟩ := h6
    refine ⟨fun i_ hi_ => ?_, fun r_ hr => ?_, fun v_ hv => ?_, fun q_ h1 h2 => ?_, fun v_ h1 h2 => ?_⟩
    · rw [nc 99 2 i_ (by simp)]; exact a1_ i_ hi_
    · rw [nc 99 1 r_ (by simp), nc 99 4 (2 * r_) (by simp), nc 99 4 (2 * r_ + 1) (by simp)]; exact a2 r_ hr
    · rw [nc 99 5 v_ (by simp), nc 99 0 v_ (by simp), nc 99 24 v_ (by simp), nc 99 25 v_ (by simp), nc 99 26 v_ (by simp), nc 99 27 v_ (by simp)]; exact a3 v_ hv
    · have hqr : ¬ q_ = r_ := by omega
      rw [nd_ 30 33 q_ (by simp), nd_ 31 40 q_ (by simp), nd_ 31 41 q_ (by simp [hqr])]; exact a4 q_ h1 h2
    · rw [nd_ 30 18 v_ (by simp), nd_ 30 23 v_ (by simp), nd_ 30 25 v_ (by simp), nd_ 30 27 v_ (by simp), nd_ 31 19 v_ (by simp), nd_ 31 22 v_ (by simp)]; exact a5 v_ h1 h2
theorem zzct_set {C_ : zIn} {q_ : Nat} {b_ : Int32} : ∀ (n_ k_ : Nat), zzct (zset C_ 31 0 q_ b_) n_ k_ + (if k_ ≤ q_ ∧ q_ < k_ + n_ then (if C_ 31 0 q_ = 0 then 0 else 1) else 0) = zzct C_ n_ k_ + (if k_ ≤ q_ ∧ q_ < k_ + n_ then (if b_ = 0 then 0 else 1) else 0)
  | 0, k_ => by
    have h0 : ¬ (k_ ≤ q_ ∧ q_ < k_ + 0) := by omega
    rw [if_neg h0, if_neg h0]; rfl
  | n_ + 1, k_ => by
    have ih_ := zzct_set (C_ := C_) (q_ := q_) (b_ := b_) n_ (k_ + 1)
    unfold zzct
    by_cases e_ : k_ = q_
    · subst e_
      have h0 : ¬ (k_ + 1 ≤ k_ ∧ k_ < k_ + 1 + n_) := by omega
      have h1 : k_ ≤ k_ ∧ k_ < k_ + (n_ + 1) := by omega
      rw [if_neg h0, if_neg h0] at ih_
      rw [if_pos h1, if_pos h1, zset_is]
      omega
    · rw [zset_ne (by simp [e_])]
      by_cases h1 : k_ + 1 ≤ q_ ∧ q_ < k_ + 1 + n_
      · have h2 : k_ ≤ q_ ∧ q_ < k_ + (n_ + 1) := by omega
        rw [if_pos h1, if_pos h1] at ih_
        rw [if_pos h2, if_pos h2]
        omega
      · have h2 : ¬ (k_ ≤ q_ ∧ q_ < k_ + (n_ + 1)) := by omega
        rw [if_neg h1, if_neg h1] at ih_
        rw [if_neg h2, if_neg h2]
        omega
theorem zzsB {C_ D_ : zIn} {L_ : zLi} {p_ N_ M_ k_ : Nat} {b_ : Int32} (h_ : zzR C_ L_ D_ p_ N_ M_) (hk : k_ < 36) (hb_ : b_ = 0 ∨ b_ = 1) : zzR (zset C_ 31 0 k_ b_) L_ (zbsM D_ k_ b_) p_ N_ M_ ∧ zbsM D_ k_ b_ 7 0 5 = zcb (zset C_ 31 0 k_ b_) 36 0 0 := by
  have nd_ : ∀ c_ i_ f_, ¬ (c_ = 31 ∧ i_ = 4 ∧ f_ = k_) → ¬ (c_ = 7 ∧ i_ = 0 ∧ f_ = 5) → zbsM D_ k_ b_ c_ i_ f_ = D_ c_ i_ f_ := fun c_ i_ f_ h1 h2 => by
    unfold zbsM; rw [zset_ne h1, zset_ne h2]
  have nc : ∀ c_ i_ f_, ¬ (c_ = 31 ∧ i_ = 0 ∧ f_ = k_) → zset C_ 31 0 k_ b_ c_ i_ f_ = C_ c_ i_ f_ := fun c_ i_ f_ hh => zset_ne hh
  obtain ⟨a1_, a2, a3, a4, a5, a6, a7, a8, a9, b1, b2, b3, b4, b5, b6, b7⟩ := h_.1
  have e5_ : zbsM D_ k_ b_ 7 0 5 = zcb (zset C_ 31 0 k_ b_) 36 0 0 := by
    have hs := zzct_set (C_ := C_) (q_ := k_) (b_ := b_) 36 0
    have h36 : 0 ≤ k_ ∧ k_ < 0 + 36 := by omega
    rw [if_pos h36, if_pos h36] at hs
    unfold zbsM
    rw [zset_ne (by simp), zset_is, b7, zzcb0, zzcb0]
    have hkk := b6 k_ hk
    have hle := zzct_le (C_ := C_) 36 0
    unfold zbsD zbo
    by_cases h0 : C_ 31 0 k_ = 0
    · rw [if_pos (hkk.mp h0)]
      rw [if_pos h0] at hs
      rcases hb_ with rfl | rfl
      · rw [if_pos rfl, Int32.add_zero]
        rw [if_pos rfl] at hs
        rw [show zzct C_ 36 0 = zzct (zset C_ 31 0 k_ 0) 36 0 by omega]
      · rw [if_neg (by decide), if_neg (by decide), zisucc]
        rw [if_neg (by decide)] at hs
        rw [show zzct C_ 36 0 + 1 = zzct (zset C_ 31 0 k_ 1) 36 0 by omega]
    · rw [if_neg (fun e_ => h0 (hkk.mpr e_))]
      rw [if_neg h0] at hs
      rcases hb_ with rfl | rfl
      · rw [if_neg (by decide), if_pos rfl]
        rw [if_pos rfl] at hs
        have e_ : zzct C_ 36 0 = zzct (zset C_ 31 0 k_ 0) 36 0 + 1 := by omega
        rw [e_, ← zisucc, Int32.add_assoc, show (1 : Int32) + -1 = 0 by decide, Int32.add_zero]
      · rw [if_pos rfl, Int32.add_zero]
        rw [if_neg (by decide)] at hs
        rw [show zzct C_ 36 0 = zzct (zset C_ 31 0 k_ 1) 36 0 by omega]
  refine ⟨zzRgl h_ (fun c_ i_ f_ hc_ => nc c_ i_ f_ (by omega)) (fun i_ f_ => nd_ 30 i_ f_ (by simp) (by simp)) (fun i_ f_ hi_ => nd_ 31 i_ f_ (by simp [hi_]) (by simp)) ?_, e5_⟩
  unfold zzRg
  rw [e5_, nd_ 7 0 6 (by simp) (by simp), nd_ 7 0 11 (by simp) (by simp), nd_ 7 0 28 (by simp) (by simp), nd_ 7 0 2 (by simp) (by simp), nd_ 7 0 1 (by simp) (by simp), nd_ 7 0 3 (by simp) (by simp), nc 6 0 8 (by simp), nc 6 0 7 (by simp), nc 6 0 6 (by simp)]
  refine ⟨a1_, a2, a3, a4, a5, a6, a7, a8, a9, b1, b2, b3, b4, b5, fun j_ hj => ?_, rfl⟩
  by_cases e_ : j_ = k_
  · subst e_
    unfold zbsM
    rw [zset_is, zset_is]
  · rw [nc 31 0 j_ (by simp [e_]), nd_ 31 4 j_ (by simp [e_]) (by simp)]
    exact b6 j_ hj
