/-! THE CALLS: what is thrown; winter, day, now; lift, absent -/
theorem zzarg {x_ : Int32} {n_ : Nat} (hn : n_ < 1000) : (∃ i_, i_ < n_ ∧ x_ = Int32.ofNat i_ ∧ zbt x_ 0 (Int32.ofNat n_ - 1) = true) ∨ ((x_ < 0 ∨ Int32.ofNat n_ ≤ x_) ∧ zbt x_ 0 (Int32.ofNat n_ - 1) = false) := by
  unfold zbt
  by_cases h0 : 0 ≤ x_
  · by_cases h1 : x_ < Int32.ofNat n_
    · obtain ⟨i_, rfl, hi_⟩ := zix h0 h1 (by omega)
      refine Or.inl ⟨i_, hi_, rfl, ?_⟩
      rw [decide_eq_true h0, show Int32.ofNat n_ - 1 = Int32.ofNat (n_ - 1) from (Int32.ofNat_sub n_ 1 (by omega)).symm, decide_eq_true ((zile (by omega) (by omega)).mpr (by omega))]
      rfl
    · have h2 := Int32.not_lt.mp h1
      refine Or.inr ⟨Or.inr h2, ?_⟩
      have h3 : ¬ x_ ≤ Int32.ofNat n_ - 1 := by
        intro h3
        by_cases hz : n_ = 0
        · subst hz
          have h4 : (0 : Int32) ≤ Int32.ofNat 0 - 1 := Int32.le_trans h0 h3
          exact absurd h4 (by decide)
        · rw [show Int32.ofNat n_ - 1 = Int32.ofNat (n_ - 1) from (Int32.ofNat_sub n_ 1 (by omega)).symm] at h3
          have h4 := (zile (by omega) (by omega)).mp (Int32.le_trans h2 h3)
          omega
      rw [decide_eq_false h3, Bool.and_false]
  · refine Or.inr ⟨Or.inl (Int32.not_le.mp h0), ?_⟩
    rw [decide_eq_false h0, Bool.false_and]
theorem zzbt {x_ a_ b_ : Int32} : zbt x_ a_ b_ = true ↔ (a_ ≤ x_ ∧ x_ ≤ b_) := by
  unfold zbt
  rw [Bool.and_eq_true, decide_eq_true_iff, decide_eq_true_iff]
theorem zzbf {x_ a_ b_ : Int32} : zbt x_ a_ b_ = false ↔ ¬ (a_ ≤ x_ ∧ x_ ≤ b_) := by
  rw [← zzbt, Bool.not_eq_true]
theorem zznat {x_ : Int32} {n_ : Nat} (hn : n_ < 1000) (h_ : 0 ≤ x_ ∧ x_ ≤ Int32.ofNat n_) : ∃ i_, i_ ≤ n_ ∧ x_ = Int32.ofNat i_ := by
  have h2 : x_ < Int32.ofNat (n_ + 1) := Int32.lt_of_le_of_lt h_.2 ((zilt (by omega) (by omega)).mpr (by omega))
  obtain ⟨i_, rfl, hi_⟩ := zix h_.1 h2 (by omega)
  exact ⟨i_, by omega, rfl⟩
section
variable {I_ : zIn} {L_ : zLi} {dc mc_ dm mm a_ p_ N_ M_ : Nat} {ac am : List zW} {cd : Nat → Int32}
/-- both throw -/
theorem zzRef {E_ : Nat} {w_ t_ : Int32} (h_ : zzR I_ L_ I_ p_ N_ M_) (hc_ : zYm dc mc_ ac I_ L_ a_ (zThw E_ I_ L_)) (ha_ : a_ ≤ 200) (ht : cd E_ = t_) (hm_ : ∀ y_, zYm dm mm am (zset I_ 32 0 0 y_) L_ 0 (zRet (some (zwI w_)) (zset (zset I_ 32 0 0 y_) 7 0 0 t_) L_)) (hke : zzEs mc_ E_ = true := by decide) (hkw : ¬ mc_ = 52 ∧ ¬ mc_ = 30 := by decide) : zzOk I_ L_ dc mc_ dm mm ac am cd := by
  refine hc_.mono (Nat.le_refl _) ha_ (fun r_ I1 L1 hq => ?_)
  obtain ⟨rfl, rfl, rfl⟩ := hq
  refine ⟨hke, fun y_ => ?_⟩
  refine (hm_ y_).mono (Nat.le_refl _) (Nat.le_refl _) (fun r2 I2_ L2_ hq2 => ?_)
  obtain ⟨rfl, rfl, rfl⟩ := hq2
  refine ⟨?_, ?_, by rw [zset_ne (by simp), zset_is]⟩
  · exact ⟨p_, N_, M_, h_.cg ((zzmo.set zzmo.rfl (by simp)).n.trans zz32n) (fun c_ i_ f_ h1 h2 h3 => by
      rw [zset_ne (fun e_ => h3 ⟨e_.1, e_.2.1, Or.inl e_.2.2⟩), zset_ne (by omega)]) (fun _ _ _ _ => rfl)⟩
  · exact ⟨by rw [zset_is, ht], _, rfl, Or.inr (Or.inl ⟨hkw, w_, rfl⟩)⟩
/-- both answer -/
theorem zzDone {v_ : Option zW} {I1 : zIn} {L1 : zLi} (h_ : zzR I_ L_ I_ p_ N_ M_) (hc_ : zYm dc mc_ ac I_ L_ a_ (zRet v_ I1 L1)) (ha_ : a_ ≤ 200) (hm_ : ∀ y_, zYm dm mm am (zset I1 32 0 0 y_) L1 0 (fun r2 I2_ L2_ => r2 = .inl v_ ∧ I2_ 7 0 0 = 0 ∧ L2_ = L1 ∧ zzmo I2_ (zset I1 32 0 0 y_) ∧ ∃ p' N' M', zzR I1 L1 I2_ p' N' M')) (hkv : zzVal mc_ v_ := by first | exact Or.inl ⟨rfl, rfl⟩ | exact Or.inr (Or.inl ⟨by decide, _, rfl⟩) | exact Or.inr (Or.inr ⟨rfl, _, rfl⟩)) : zzOk I_ L_ dc mc_ dm mm ac am cd := by
  refine hc_.mono (Nat.le_refl _) ha_ (fun r_ J1 K1 hq => ?_)
  obtain ⟨rfl, rfl, rfl⟩ := hq
  refine ⟨hkv, fun y_ => ?_⟩
  refine (hm_ y_).mono (Nat.le_refl _) (Nat.le_refl _) (fun r2 I2_ L2_ hq2 => ?_)
  obtain ⟨rfl, h0, rfl, hmo, p', N', M', hR⟩ := hq2
  exact ⟨zzpost hR rfl hmo, ⟨h0, rfl⟩, (hmo 32 0 0 (by simp)).trans zset_is⟩
end
/-- the state's globals alone change -/
theorem zzRgl {C_ C'_ D_ D' : zIn} {L_ : zLi} {p_ N_ M_ : Nat} (h_ : zzR C_ L_ D_ p_ N_ M_) (hc_ : ∀ c_ i_ f_, (c_ = 1 ∨ c_ = 2 ∨ c_ = 4 ∨ c_ = 5 ∨ c_ = 99) → C'_ c_ i_ f_ = C_ c_ i_ f_) (hd_ : ∀ i_ f_, D' 30 i_ f_ = D_ 30 i_ f_) (hd1 : ∀ i_ f_, ¬ i_ = 4 → D' 31 i_ f_ = D_ 31 i_ f_) (hg : zzRg C'_ L_ D' p_ N_ M_) : zzR C'_ L_ D' p_ N_ M_ := by
  obtain ⟨h1, h2, h3, h4, h5, h6⟩ := h_
  have hs : ∀ q_, zsea C'_ q_ = zsea C_ q_ := fun q_ => by unfold zsea; rw [hc_ 1 q_ 0 (by simp), hc_ 2 _ 3 (by simp)]
  have hch : ∀ q_, zchr C'_ q_ = zchr C_ q_ := fun q_ => by unfold zchr; rw [hc_ 1 q_ 0 (by simp), hc_ 2 _ 0 (by simp)]
  have hkd : ∀ q_, zmkd D' q_ = zmkd D_ q_ := fun q_ => by unfold zmkd zmrd; rw [hd_, hd_]
  have hse : ∀ q_, zmse D' q_ = zmse D_ q_ := fun q_ => by unfold zmse; rw [hkd]; unfold zmrd; rw [hd_, hd1 _ _ (by decide)]
  refine ⟨hg, fun i_ hi_ => (h2 i_ hi_).ix (fun f_ => hc_ 2 i_ f_ (by simp)) (hd_ _ _) (hd_ _ _) (hd_ _ _) (hd1 _ _ (by decide)), fun r_ hr => ⟨(h3 r_ hr).1.ix (fun f_ _ => hc_ 1 r_ f_ (by simp)) (fun i_ _ _ => hd_ i_ r_), (h3 r_ hr).2.ix (fun f_ _ => hc_ 1 r_ f_ (by simp)) (fun i_ _ _ => hd_ i_ r_) (hd1 _ _ (by decide)) (hd1 _ _ (by decide))⟩, fun v_ hv => ⟨(h4 v_ hv).1.ix (fun f_ => hc_ 5 v_ f_ (by simp)) rfl rfl (fun q_ _ => hs q_) (fun q_ _ => hch q_) (fun i_ _ _ => hd_ i_ v_) (hd_ _ _) (hd1 _ _ (by decide)) (hd1 _ _ (by decide)) (fun hro => hro.ix (hd_ _ _) (fun k_ _ => hd_ _ _)) (fun j_ _ => hd_ _ _), (h4 v_ hv).2.1.ix (hc_ 5 v_ 10 (by simp)) rfl (fun s_ _ => ⟨hc_ 4 s_ 5 (by simp), fun _ _ => ⟨hc_ 4 s_ 3 (by simp), hc_ 4 s_ 4 (by simp)⟩⟩) (hd_ _ _) (hd_ _ _) (hd1 _ _ (by decide)), (h4 v_ hv).2.2.ix (Nat.le_refl _) rfl rfl rfl (fun s_ _ => ⟨hc_ 1 _ 1 (by simp), hc_ 1 _ 2 (by simp), hc_ 1 _ 5 (by simp), hc_ 1 _ 8 (by simp), hc_ 4 s_ 2 (by simp)⟩) (fun q_ _ => ⟨hc_ 1 q_ 5 (by simp), hc_ 1 q_ 8 (by simp)⟩) (fun s_ _ => hc_ 1 _ 5 (by simp)) (fun q_ _ => hs q_) (fun q_ _ => hch q_) (fun s_ _ => hkd _) (fun s_ _ => hse _) (hd_ _ _) (hd_ _ _) (hd_ _ _) (zzsq_ix M_ 0 0 (fun j_ _ _ => by unfold zsqN; rw [hd_, hd_, hse]))⟩, fun r_ hr => (h5 r_ hr).ix (hc_ 1 r_ 5 (by simp)) (hc_ 1 r_ 8 (by simp)) (hc_ 1 r_ 11 (by simp)) (fun _ _ h_ => h_) (fun _ _ h_ => h_) (fun _ _ h_ => h_), ?_⟩
  obtain ⟨a1_, a2, a3, a4, a5⟩ := h6
  refine ⟨fun i_ hi_ => ?_, fun r_ hr => ?_, fun v_ hv => ?_, fun r_ h1 h2 => ?_, fun v_ h1 h2 => ?_⟩
  · rw [hc_ 99 2 i_ (by simp)]; exact a1_ i_ hi_
  · rw [hc_ 99 1 r_ (by simp), hc_ 99 4 (2 * r_) (by simp), hc_ 99 4 (2 * r_ + 1) (by simp)]; exact a2 r_ hr
  · rw [hc_ 99 5 v_ (by simp), hc_ 99 0 v_ (by simp), hc_ 99 24 v_ (by simp), hc_ 99 25 v_ (by simp), hc_ 99 26 v_ (by simp), hc_ 99 27 v_ (by simp)]; exact a3 v_ hv
  · rw [hd_, hd1 _ _ (by decide), hd1 _ _ (by decide)]; exact a4 r_ h1 h2
  · rw [hd_, hd_, hd_, hd_, hd1 _ _ (by decide), hd1 _ _ (by decide)]; exact a5 v_ h1 h2
theorem zzsW {C_ D_ : zIn} {L_ : zLi} {p_ N_ M_ : Nat} {b_ : Int32} (h_ : zzR C_ L_ D_ p_ N_ M_) : zzR (zset C_ 6 0 6 b_) L_ (zset (zset D_ 7 0 0 0) 7 0 3 b_) p_ N_ M_ := by
  refine zzRgl h_ (fun c_ i_ f_ hc_ => zset_ne (by omega)) (fun i_ f_ => by rw [zset_ne (by simp), zset_ne (by simp)]) (fun i_ f_ _ => by rw [zset_ne (by simp), zset_ne (by simp)]) ?_
  obtain ⟨a1_, a2, a3, a4, a5, a6, a7, a8, a9, b1, b2, b3, b4, b5, b6, b7⟩ := h_.1
  have e7_ : ∀ f_, ¬ f_ = 0 → ¬ f_ = 3 → zset (zset D_ 7 0 0 0) 7 0 3 b_ 7 0 f_ = D_ 7 0 f_ := fun f_ h1 h2 => by rw [zset_ne (by simp [h2]), zset_ne (by simp [h1])]
  have e6_ : ∀ f_, ¬ f_ = 6 → zset C_ 6 0 6 b_ 6 0 f_ = C_ 6 0 f_ := fun f_ h1 => zset_ne (by simp [h1])
  unfold zzRg
  rw [e7_ 6 (by decide) (by decide), e7_ 11 (by decide) (by decide), e7_ 28 (by decide) (by decide), e7_ 2 (by decide) (by decide), e7_ 1 (by decide) (by decide), e7_ 5 (by decide) (by decide), e6_ 8 (by decide), e6_ 7 (by decide), zset_is, zset_is]
  refine ⟨a1_, a2, a3, a4, a5, a6, a7, a8, a9, b1, b2, b3, b4, Iff.rfl, fun k_ hk => ?_, ?_⟩
  · rw [zset_ne (by simp), zset_ne (by simp), zset_ne (by simp)]
    exact b6 k_ hk
  · rw [b7]
    exact (zzcb_n (fun f_ => zset_ne (by simp)) 36 0 0).symm
theorem zzbo_eq {x_ y_ : Int32} (h_ : x_ = 0 ↔ y_ = 0) : zbo x_ = zbo y_ := by
  unfold zbo
  by_cases e_ : x_ = 0
  · rw [if_pos e_, if_pos (h_.mp e_)]
  · rw [if_neg e_, if_neg (fun g_ => e_ (h_.mpr g_))]
theorem zzthr {C_ D_ : zIn} {L_ : zLi} {p_ N_ M_ : Nat} (h_ : zzR C_ L_ D_ p_ N_ M_) : zzR C_ L_ (zset D_ 7 0 0 0) p_ N_ M_ := h_.cg zzn.rfl (fun c_ i_ f_ h1 h2 h3 => zset_ne (fun e_ => h3 ⟨e_.1, e_.2.1, Or.inl e_.2.2⟩)) (fun _ _ _ _ => rfl)
