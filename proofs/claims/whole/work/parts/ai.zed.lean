/-! THE CALLS: end -/
theorem zpid6 {I_ : zIn} {L_ : zLi} {v_ s_ f_ : Nat} : (zpid I_ L_ v_ s_).1 6 0 f_ = I_ 6 0 f_ := by
  have e_ : zpi1 I_ s_ 6 0 f_ = I_ 6 0 f_ := by unfold zpi1; rw [zset_ne (by simp), zset_ne (by simp)]
  unfold zpid
  split
  · dsimp only
    rw [zset_ne (by simp), e_]
  · split
    · dsimp only
      rw [zset_ne (by simp), e_]
    · dsimp only
      rw [zset_ne (by simp), e_]
theorem zfnn6 {I_ : zIn} {L_ : zLi} {v_ f_ : Nat} {x_ : Int32} : (zfnn I_ L_ v_ x_).1 6 0 f_ = I_ 6 0 f_ := by
  unfold zfnn
  split
  · rfl
  · split
    · rfl
    · split
      · split
        · dsimp only
          rw [zset_ne (by simp), zset_ne (by simp)]
        · unfold zfi2
          split
          · rw [zpid6, zzfi1.2.2.2 6 0 f_ (by simp)]
          · dsimp only
            rw [zset_ne (by simp), zset_ne (by simp), zzfi1.2.2.2 6 0 f_ (by simp)]
      · rfl
theorem zlvd6 {I_ : zIn} {L_ : zLi} {v_ f_ : Nat} {x_ : Int32} : zlvd I_ L_ v_ x_ 6 0 f_ = I_ 6 0 f_ := by
  unfold zlvd
  split
  · rfl
  · cases L_ 24 v_ with
    | nil => rfl
    | cons s_ l =>
      dsimp only
      split
      · rw [zset_ne (by simp), zset_ne (by simp), zset_ne (by simp)]
      · rfl
theorem zpml6 {f_ : Nat} : ∀ (l : List Nat) (I_ : zIn) (L_ : zLi), (zpml l I_ L_).1 6 0 f_ = I_ 6 0 f_
  | [], _, _ => rfl
  | v_ :: l, I_, L_ => by
    rw [zpml_cons, zpml6 l]
    show zlvd _ _ _ _ 6 0 f_ = _
    rw [zlvd6, zfnn6]
theorem zpms6 {f_ : Nat} (hf : ¬ f_ = 8) : ∀ (n_ : Nat) (I_ : zIn) (L_ : zLi), (zpms n_ I_ L_).1 6 0 f_ = I_ 6 0 f_
  | 0, _, _ => rfl
  | n_ + 1, I_, L_ => by
    unfold zpms
    rw [zpms6 hf n_]
    unfold zpm
    rw [zpml6, zset_ne (by simp [hf])]
theorem zzEdco {C_ : zIn} {L_ : zLi} {N_ M_ : Nat} {x_ : Int32} : zzco (zedy (zbgl (List.range N_) (zfao (List.range M_) C_ x_).2 L_)).1 C_ := by
  intro c_ i_ f_ hh
  obtain ⟨g1, _⟩ := zzbgl (N_ := N_) N_ 0 (zfao (List.range M_) C_ x_).2 L_ (by omega)
  rw [List.drop_zero] at g1
  show zset (zset _ 6 0 7 _) 6 0 8 0 c_ i_ f_ = _
  rw [zset_ne (by omega), zset_ne (by omega), g1 c_ i_ f_ (by omega), zzfao (C_ := C_) _ _ _ List.nodup_range (fun _ _ => rfl), if_neg (by omega)]
theorem zzpmsR {p_ N_ M_ : Nat} : ∀ (n_ t_ : Nat) (C_ : zIn) (L_ : zLi), t_ + n_ ≤ 600 → (∃ D_, zzR C_ L_ D_ p_ N_ M_ ∧ D_ 7 0 2 = Int32.ofNat t_) → ∃ D_, zzR (zpms n_ C_ L_).1 (zpms n_ C_ L_).2 D_ p_ N_ M_
  | 0, _, _, _, _, ⟨D_, h_, _⟩ => ⟨D_, h_⟩
  | n_ + 1, t_, C_, L_, ht, ⟨D_, h_, e_⟩ => by
    obtain ⟨D', h1, h2, h3⟩ := zzMinP h_ (by omega) e_
    unfold zpms
    exact zzpmsR n_ (t_ + 1) _ _ (by omega) ⟨D', h1, h3⟩
theorem zzO_end {I_ : zIn} {L_ : zLi} (h_ : zzRR0 I_ L_) : zzOk I_ L_ 9 55 6 170 [zwR 6 0] [zwR 7 0] zcdD := by
  obtain ⟨p_, N_, M_, h_⟩ := h_
  have hN4 := h_.1.2.2.2.2.1
  have hM60 := h_.1.2.2.2.2.2.2.2.1
  obtain ⟨T, hT_, eT⟩ := h_.1.2.2.2.2.2.2.2.2.2.2.2.1
  obtain ⟨y_, hy, ey⟩ := h_.1.2.2.2.2.2.2.2.2.2.2.2.2.1
  have e8 : I_ 6 0 8 = Int32.ofNat T := by rw [h_.1.2.2.2.2.2.2.2.2.2.1]; exact eT
  have e67 : I_ 6 0 7 = Int32.ofNat y_ := by rw [h_.1.2.2.2.2.2.2.2.2.2.2.1]; exact ey
  by_cases hy4 : y_ < 400
  · obtain ⟨K_, hK_⟩ : ∃ K_, T + K_ = 600 := ⟨600 - T, by omega⟩
    have h8 : 600 - I_ 6 0 8 = Int32.ofNat K_ := by
      rw [e8, show K_ = 600 - T by omega]
      exact (Int32.ofNat_sub 600 T (by omega)).symm
    have hc_ := zn55t (I_ := I_) (L_ := L_) (N_ := K_) (P_ := fun k_ C_ K' => ∃ D_, zzR C_ K' D_ p_ N_ M_ ∧ D_ 7 0 2 = Int32.ofNat (T + k_)) (fun k_ C_ K' hP => zzBnd hP.choose_spec.1) (fun k_ C_ K' hk hP => by
        obtain ⟨D_, hD, e_⟩ := hP
        obtain ⟨D', h1, _, h3⟩ := zzMinP hD (by omega) e_
        exact ⟨D', h1, h3⟩) ⟨I_, h_, eT⟩ (by omega) h8 (by rw [e67]; exact (zilt (b := 400) (by omega) (by omega)).mpr hy4)
    obtain ⟨D0, hD0⟩ := zzpmsR K_ T I_ L_ (by omega) ⟨I_, h_, eT⟩
    have e21_ := hD0.1.2.2.2.1
    have e22_ := hD0.1.2.2.2.2.2.2.1
    refine zzSet h_ hc_ (by decide) ?_ (fun w_ J_ hJ e7_ e30 hR => ?_)
    · unfold zend
      rw [e21_, e22_]
      exact zzEdco.trans (zzpsco K_ T I_ L_ (by omega) ⟨I_, h_, eT⟩)
    · have eJ : J_ 7 0 2 = Int32.ofNat T := by rw [← hR.1.2.2.2.2.2.2.2.2.2.1]; exact e8
      have hm_ := zm170b (I_ := zset (zend K_ I_ L_).2.1 32 0 0 w_) (L_ := (zend K_ I_ L_).2.2) (N_ := N_) (M_ := M_) (T := T) (K_ := K_) (P_ := zzPm I_ L_ J_ p_ N_ M_ T K_) (by
          rw [e7_ 1 (by decide), ← hR.1.2.2.2.2.2.2.2.2.2.2.1, e67]
          intro e_
          have := (zof_eq (b_ := 400) (by omega) (by omega)).mp e_
          omega) hN4 hM60 hK_ (fun k_ I' hP => by
          obtain ⟨C'_, L', _, g2, g3_, _⟩ := hP
          exact ⟨g3_, g2.1.2.2.2.2.2.2.2.2.1, g2.1.2.2.2.2.2.1⟩) (fun k_ I' hk hP => zzPm_go (by omega) hk hP) (by
        rw [hJ]
        exact ⟨I_, L_, by rw [Nat.sub_zero], hR, by rw [Nat.add_zero]; exact eJ, zzmo.rfl, by rw [← hJ, zset_is]⟩)
      refine hm_.mono (Nat.le_refl _) (Nat.le_refl _) (fun r2 I2_ L2_ hq => ?_)
      obtain ⟨J', ⟨C'_, L', g1, g2, g3_, g4, g5_⟩, rfl, rfl, rfl⟩ := hq
      rw [Nat.sub_self] at g1
      have g1' : zpms K_ I_ L_ = (C'_, L') := g1
      have e6_ : C'_ 6 0 7 = Int32.ofNat y_ := by
        have := zpms6 (f_ := 7) (by decide) K_ I_ L_
        rw [g1'] at this
        rw [← e67]
        exact this
      obtain ⟨z1, z2, z3, z4⟩ := zzEd g2 hy4 (by rw [← g2.1.2.2.2.2.2.2.2.2.2.2.1]; exact e6_)
      unfold zend
      rw [g1']
      exact ⟨by rw [← z1], rfl, z4.trans g5_, z3.trans g4, p_, N_, M_, z2⟩
  · have hy' : y_ = 400 := by omega
    subst hy'
    exact zzRef h_ (zm55x (by rw [e67]; decide)) (by decide) (t_ := 1) rfl (fun w_ => zm170a (by rw [zz32]; exact ey))
