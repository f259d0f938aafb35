/-! THE CALLS: questions -/
def zcdA (E_ : Nat) : Int32 := if E_ = 9 then 1 else 2
def zcdB (E_ : Nat) : Int32 := if E_ = 11 then 1 else 2
def zcdC (E_ : Nat) : Int32 := if E_ = 11 then 1 else if E_ = 9 then 2 else 3
def zcdD (_ : Nat) : Int32 := 1
theorem zzcf.co {K_ I_ : zIn} {Z_ : List Nat} (h_ : zzcf K_ I_ Z_) : zzco K_ I_ := fun c_ i_ f_ hc_ => h_.1 c_ i_ f_ ⟨by omega, by omega, by omega, by omega⟩
theorem zzg.mo {K_ J_ : zIn} (h_ : zzg K_ J_) : zzmo K_ J_ := fun c_ i_ f_ hc_ => h_ c_ i_ f_ (by omega) (by omega)
theorem zz32 {I_ : zIn} {y_ : Int32} {f_ : Nat} : zset I_ 32 0 0 y_ 7 0 f_ = I_ 7 0 f_ := zset_ne (by simp)
theorem zz320 {I_ : zIn} {y_ : Int32} {f_ : Nat} (hf : ¬ f_ = 0) : zset (zset I_ 32 0 0 y_) 7 0 0 0 7 0 f_ = zset I_ 32 0 0 y_ 7 0 f_ := zset_ne (by simp [hf])
/-- a question that both answer -/
theorem zzQd {I_ I1 : zIn} {L_ L1 : zLi} {dc mc_ dm mm a_ p_ N_ M_ : Nat} {ac am : List zW} {cd : Nat → Int32} {v_ : Option zW} (h_ : zzR I_ L_ I_ p_ N_ M_) (hc_ : zYm dc mc_ ac I_ L_ a_ (zRet v_ I1 L1)) (ha_ : a_ ≤ 200) (hcf : zzcf I1 I_ (zzZ I_ L_ N_)) (hL : ∀ c_ i_, ¬ (c_ = 27 ∧ i_ < N_) → L1 c_ i_ = L_ c_ i_) (hm_ : ∀ y_ J_, zset (zset I1 32 0 0 y_) 7 0 0 0 = J_ → (∀ f_, ¬ f_ = 0 → zset I1 32 0 0 y_ 7 0 f_ = J_ 7 0 f_) → zzR I_ L_ J_ p_ N_ M_ → zYm dm mm am (zset I1 32 0 0 y_) L1 0 (fun r2 I2_ L2_ => r2 = .inl v_ ∧ zzg I2_ J_ ∧ L2_ = L1)) (hkv : zzVal mc_ v_ := by first | exact Or.inl ⟨rfl, rfl⟩ | exact Or.inr (Or.inl ⟨by decide, _, rfl⟩) | exact Or.inr (Or.inr ⟨rfl, _, rfl⟩)) : zzOk I_ L_ dc mc_ dm mm ac am cd := by
  refine zzDone h_ hc_ ha_ (fun y_ => ?_) hkv
  have hJ := zzthr (zzpre (y_ := y_) h_ hcf.co)
  refine (hm_ y_ _ rfl (fun f_ hf => (zz320 hf).symm) hJ).mono (Nat.le_refl _) (Nat.le_refl _) (fun r2 I2_ L2_ hq => ?_)
  obtain ⟨rfl, hz, rfl⟩ := hq
  refine ⟨rfl, ?_, rfl, hz.mo.trans (zzmo.set zzmo.rfl (by simp)), p_, N_, M_, ?_⟩
  · rw [hz.a7 (by decide), zset_is]
  · refine hJ.cg (hcf.n trivial) hz.m (fun c_ i_ h23 h27 => hL c_ i_ h27)
theorem zzO_owes {I_ : zIn} {L_ : zLi} {x_ y_ z_ : Int32} (h_ : zzRR0 I_ L_) : zzOk I_ L_ 4 60 5 176 [zwR 6 0, zwI x_, zwI y_, zwI z_] [zwR 7 0, zwI x_, zwI y_, zwI z_] zcdB := by
  obtain ⟨p_, N_, M_, h_⟩ := h_
  have hp := h_.1.2.1
  have e6_ : I_ 7 0 6 = Int32.ofNat p_ := h_.1.2.2.1
  have hl : (L_ 20 0).length = p_ := by rw [h_.1.1, List.length_range]
  rcases zzarg (x_ := x_) (n_ := p_) (by omega) with ⟨i_, hi_, rfl, hx⟩ | ⟨hx1, hx2⟩
  · have hs : (L_ 20 0)[i_]? = some i_ := by rw [h_.1.1]; exact List.getElem?_range hi_
    by_cases hy : 0 ≤ y_ ∧ y_ ≤ 35
    · by_cases hz : 0 ≤ z_ ∧ z_ ≤ 35
      · obtain ⟨a_, ha_, rfl⟩ := zznat (n_ := 35) (by decide) hy
        obtain ⟨b_, hb_, rfl⟩ := zznat (n_ := 35) (by decide) hz
        refine zzQd h_ (zm60t hs hy hz) (by decide) zzcf.rfl (fun _ _ _ => rfl) (fun w_ J_ hJ e7_ hR => ?_)
        refine (zm176c (q_ := i_) (by omega) (by rw [zz32, e6_]; exact hx) (zzbt.mpr hy) (zzbt.mpr hz) hJ).mono (Nat.le_refl _) (Nat.le_refl _) (fun r2 I2_ L2_ hq => ?_)
        obtain ⟨rfl, rfl, rfl⟩ := hq
        refine ⟨?_, zzg.rfl, rfl⟩
        rw [← zzow hR hi_ ⟨a_, by omega, rfl⟩ ⟨b_, by omega, rfl⟩]
      · exact zzRef h_ (zm60b hs hy hz) (by decide) (t_ := 2) rfl (fun w_ => zm176b (by rw [zz32, e6_]; exact hx) (fun e_ => hz (zzbt.mp e_.2)))
    · exact zzRef h_ (zm60a hs hy) (by decide) (t_ := 2) rfl (fun w_ => zm176b (by rw [zz32, e6_]; exact hx) (fun e_ => hy (zzbt.mp e_.1)))
  · exact zzRef h_ (zm60x (by rw [hl]; exact hx1)) (by decide) (t_ := 1) rfl (fun w_ => zm176a (by rw [zz32, e6_]; exact hx2))
theorem zzO_riderOf {I_ : zIn} {L_ : zLi} {x_ y_ : Int32} (h_ : zzRR0 I_ L_) : zzOk I_ L_ 5 61 3 177 [zwR 6 0, zwI x_, zwI y_] [zwR 7 0, zwI x_, zwI y_] zcdB := by
  obtain ⟨p_, N_, M_, h_⟩ := h_
  have hp := h_.1.2.1
  have e6_ : I_ 7 0 6 = Int32.ofNat p_ := h_.1.2.2.1
  have hl : (L_ 20 0).length = p_ := by rw [h_.1.1, List.length_range]
  rcases zzarg (x_ := x_) (n_ := p_) (by omega) with ⟨i_, hi_, rfl, hx⟩ | ⟨hx1, hx2⟩
  · have hs : (L_ 20 0)[i_]? = some i_ := by rw [h_.1.1]; exact List.getElem?_range hi_
    by_cases hy : 0 ≤ y_ ∧ y_ ≤ 2
    · obtain ⟨k_, hk, rfl⟩ := zznat (n_ := 2) (by decide) hy
      refine zzQd h_ (zm61t hs hk) (by decide) zzcf.rfl (fun _ _ _ => rfl) (fun w_ J_ hJ e7_ hR => ?_)
      refine (zm177c (q_ := i_) (N_ := M_) (by rw [zz32, e6_]; exact hx) (zzbt.mpr hy) hk hR.1.2.2.2.2.2.2.2.1 hJ hR.1.2.2.2.2.2.2.2.2.1).mono (Nat.le_refl _) (Nat.le_refl _) (fun r2 I2_ L2_ hq => ?_)
      obtain ⟨rfl, rfl, rfl⟩ := hq
      refine ⟨?_, zzg.rfl, rfl⟩
      have e_ : zroM I2_ i_ M_ k_ = zrof I_ L2_ i_ k_ := by
        obtain rfl | rfl | rfl : k_ = 0 ∨ k_ = 1 ∨ k_ = 2 := by omega
        · exact (zzlately (b_ := false) hR hi_).symm
        · exact (zzlately (b_ := true) hR hi_).symm
        · show (if zsuM I2_ i_ M_ = true then (1 : Int32) else 0) = (if zsus I_ L2_ i_ = true then 1 else 0)
          rw [zzsus hR hi_]
      rw [e_]
    · exact zzRef h_ (zm61a hs hy) (by decide) (t_ := 2) rfl (fun w_ => zm177b (by rw [zz32, e6_]; exact hx) (zzbf.mpr hy))
  · exact zzRef h_ (zm61x (by rw [hl]; exact hx1)) (by decide) (t_ := 1) rfl (fun w_ => zm177a (by rw [zz32, e6_]; exact hx2))
theorem zzO_requestOf {I_ : zIn} {L_ : zLi} {x_ y_ : Int32} (h_ : zzRR0 I_ L_) : zzOk I_ L_ 4 62 6 178 [zwR 6 0, zwI x_, zwI y_] [zwR 7 0, zwI x_, zwI y_] zcdB := by
  obtain ⟨p_, N_, M_, h_⟩ := h_
  have hM_ := h_.1.2.2.2.2.2.2.2.1
  have e28_ : I_ 7 0 28 = Int32.ofNat M_ := h_.1.2.2.2.2.2.2.2.2.1
  have hl : (L_ 22 0).length = M_ := by rw [h_.1.2.2.2.2.2.2.1, List.length_range]
  rcases zzarg (x_ := x_) (n_ := M_) (by omega) with ⟨i_, hi_, rfl, hx⟩ | ⟨hx1, hx2⟩
  · have hs : (L_ 22 0)[i_]? = some i_ := by rw [h_.1.2.2.2.2.2.2.1]; exact List.getElem?_range hi_
    by_cases hy : 0 ≤ y_ ∧ y_ ≤ 10
    · obtain ⟨k_, hk, rfl⟩ := zznat (n_ := 10) (by decide) hy
      refine zzQd h_ (zm62t hs hk) (by decide) zzcf.rfl (fun _ _ _ => rfl) (fun w_ J_ hJ e7_ hR => ?_)
      refine (zm178c (r_ := i_) (by omega) (by rw [zz32, e28_]; exact hx) (zzbt.mpr hy) hk hJ).mono (Nat.le_refl _) (Nat.le_refl _) (fun r2 I2_ L2_ hq => ?_)
      obtain ⟨rfl, rfl, rfl⟩ := hq
      refine ⟨?_, zzg.rfl, rfl⟩
      obtain ⟨g1, g2⟩ := hR.2.2.1 i_ hi_
      rw [zzrtl g1 g2 k_ hk]
    · exact zzRef h_ (zm62a hs hy) (by decide) (t_ := 2) rfl (fun w_ => zm178b (by rw [zz32, e28_]; exact hx) (zzbf.mpr hy))
  · exact zzRef h_ (zm62x (by rw [hl]; exact hx1)) (by decide) (t_ := 1) rfl (fun w_ => zm178a (by rw [zz32, e28_]; exact hx2))
theorem zzZv {C_ D_ : zIn} {L_ : zLi} {p_ N_ M_ v_ : Nat} (h_ : zzR C_ L_ D_ p_ N_ M_) (hv : v_ < N_) : ∀ s_ ∈ zzZ C_ L_ N_, s_ ∈ L_ 24 v_ → ¬ C_ 5 v_ 10 = 0 ∧ (L_ 24 v_)[0]? = some s_ := by
  intro s_ hs hsv
  obtain ⟨w_, hw, hne, hs0⟩ := zzZ_mem.mp hs
  have hN4 := h_.1.2.2.2.2.1
  have e1_ := ((zzQ_of h_ hv).2.2.2.1 s_ hsv).2.2.1
  have e2_ := ((zzQ_of h_ hw).2.2.2.1 s_ (List.mem_of_getElem? hs0)).2.2.1
  have e_ : v_ = w_ := (zof_eq (by omega) (by omega)).mp (e1_.symm.trans e2_)
  subst e_
  exact ⟨hne, hs0⟩
theorem zzA26 {C_ D_ : zIn} {L_ : zLi} {p_ N_ M_ v_ : Nat} (h_ : zzR C_ L_ D_ p_ N_ M_) (hv : v_ < N_) : (L_ 26 v_).length ≤ 60 ∧ (L_ 24 v_).length ≤ 16 := by
  obtain ⟨t1_, t2_, t3_, t4_, t5_, _⟩ := (h_.2.2.2.1 v_ hv).2.2
  have hM_ := h_.1.2.2.2.2.2.2.2.1
  have h1 : (L_ 26 v_).length ≤ (List.range M_).length := t2_.length_le_of_subset (fun q_ hq => List.mem_range.mpr (t5_ q_ hq).1)
  rw [List.length_range] at h1
  exact ⟨by omega, (zzQ_of h_ hv).1.2.2.2.2.2.1.2.1⟩
theorem zzO_vehicleOf {I_ : zIn} {L_ : zLi} {x_ y_ : Int32} (h_ : zzRR0 I_ L_) : zzOk I_ L_ 11 63 7 181 [zwR 6 0, zwI x_, zwI y_] [zwR 7 0, zwI x_, zwI y_] zcdB := by
  obtain ⟨p_, N_, M_, h_⟩ := h_
  have hN_ := h_.1.2.2.2.2.1
  have e11_ : I_ 7 0 11 = Int32.ofNat N_ := h_.1.2.2.2.2.2.1
  have hl : (L_ 21 0).length = N_ := by rw [h_.1.2.2.2.1, List.length_range]
  rcases zzarg (x_ := x_) (n_ := N_) (by omega) with ⟨v_, hv, rfl, hx⟩ | ⟨hx1, hx2⟩
  · have hs : (L_ 21 0)[v_]? = some v_ := by rw [h_.1.2.2.2.1]; exact List.getElem?_range hv
    by_cases hy : 0 ≤ y_ ∧ y_ ≤ 8
    · obtain ⟨k_, hk, rfl⟩ := zznat (n_ := 8) (by decide) hy
      obtain ⟨l1, l2⟩ := zzA26 h_ hv
      have hnd := (zzQ_of h_ hv).2.2.1
      have e8 : I_ 6 0 8 = I_ 7 0 2 := h_.1.2.2.2.2.2.2.2.2.2.1
      have hpl := zzplZ (x_ := I_ 6 0 8) hnd (zzZv h_ hv)
      have hri := zzirt (x_ := I_ 6 0 8) hnd (zzZv h_ hv)
      have hcf : zzcf (zvtl I_ L_ v_ (I_ 6 0 8) k_).2.1 I_ (zzZ I_ L_ N_) ∧ ∀ c_ i_, ¬ (c_ = 27 ∧ i_ < N_) → (zvtl I_ L_ v_ (I_ 6 0 8) k_).2.2 c_ i_ = L_ c_ i_ := by
        obtain rfl | rfl | rfl | rfl | rfl | rfl | rfl | rfl | rfl : k_ = 0 ∨ k_ = 1 ∨ k_ = 2 ∨ k_ = 3 ∨ k_ = 4 ∨ k_ = 5 ∨ k_ = 6 ∨ k_ = 7 ∨ k_ = 8 := by omega
        · exact ⟨zzcf.rfl, fun _ _ _ => rfl⟩
        · exact ⟨zzcf.rfl, fun _ _ _ => rfl⟩
        · exact ⟨zzcf.rfl, fun _ _ _ => rfl⟩
        · exact ⟨zzcf.rfl, fun _ _ _ => rfl⟩
        · exact ⟨zzcf.rfl, fun _ _ _ => rfl⟩
        · exact ⟨zzcf.rfl, fun _ _ _ => rfl⟩
        · exact ⟨zzcf.rfl, fun _ _ _ => rfl⟩
        · by_cases hne : L_ 24 v_ = []
          · rw [show zvtl I_ L_ v_ (I_ 6 0 8) 7 = (-1, I_, L_) from if_pos hne]
            exact ⟨zzcf.rfl, fun _ _ _ => rfl⟩
          · rw [show zvtl I_ L_ v_ (I_ 6 0 8) 7 = (zbck (zplS I_ L_ v_ (I_ 6 0 8)) v_, zplS I_ L_ v_ (I_ 6 0 8), zplL I_ L_ v_ (I_ 6 0 8)) from if_neg hne]
            exact ⟨hpl, fun c_ i_ h_ => zlup_ne (fun e_ => h_ ⟨e_.1, by omega⟩)⟩
        · exact ⟨hri, fun c_ i_ h_ => zirt_ne (fun e_ => h_ ⟨e_.1, by omega⟩)⟩
      refine zzQd h_ (zm63t hs hk (by omega)) (by decide) hcf.1 hcf.2 (fun w_ J_ hJ e7_ hR => ?_)
      have hq := zzQ_of hR hv
      have hG := zzG_of hq
      have hH := zzH_of hq
      have hK_ : zzg (ztry J_ v_ (L_ 24 v_).length) J_ := (zfz.try zfz.rfl).zg
      refine (zm181c (v_ := v_) (K_ := ztry J_ v_ (L_ 24 v_).length) (m_ := (zchl I_ (L_ 26 v_)).length) (l := L_ 24 v_) (by omega) (by rw [e7_ 11 (by decide), hR.1.2.2.2.2.2.1]; exact hx) (zzbt.mpr hy) hk hJ hq.1.2.2.2.2.2.1 rfl (fun s_ hs => (hq.2.2.2.1 s_ hs).2.2.2) hq.1.2.2.2.2.2.2.2.2.2.1 hq.1.2.2.2.2.2.2.2.2.2.2.2.1 (hG.O hH)).mono (Nat.le_refl _) (Nat.le_refl _) (fun r2 I2_ L2_ hq2 => ?_)
      obtain ⟨rfl, rfl, rfl⟩ := hq2
      refine ⟨?_, ?_, rfl⟩
      · rw [zzvof hq hR.1.2.2.2.2.2.2.2.2.2.1 hK_ hk]
      · obtain rfl | rfl | rfl | rfl | rfl | rfl | rfl | rfl | rfl : k_ = 0 ∨ k_ = 1 ∨ k_ = 2 ∨ k_ = 3 ∨ k_ = 4 ∨ k_ = 5 ∨ k_ = 6 ∨ k_ = 7 ∨ k_ = 8 := by omega
        · exact hK_
        · exact hK_
        · exact hK_
        · exact hK_
        · exact hK_
        · exact hK_
        · exact hK_
        · exact zpln_fx.zg.trans hK_
        · exact (zmrT_fx.zg).trans hK_
    · exact zzRef h_ (zm63a hs hy) (by decide) (t_ := 2) rfl (fun w_ => zm181b (by rw [zz32, e11_]; exact hx) (zzbf.mpr hy))
  · exact zzRef h_ (zm63x (by rw [hl]; exact hx1)) (by decide) (t_ := 1) rfl (fun w_ => zm181a (by rw [zz32, e11_]; exact hx2))
theorem zzO_stopOf {I_ : zIn} {L_ : zLi} {x_ y_ z_ : Int32} (h_ : zzRR0 I_ L_) : zzOk I_ L_ 10 64 6 182 [zwR 6 0, zwI x_, zwI y_, zwI z_] [zwR 7 0, zwI x_, zwI y_, zwI z_] (fun E_ => if E_ = 11 then 1 else 2) := by
  obtain ⟨p_, N_, M_, h_⟩ := h_
  have hN_ := h_.1.2.2.2.2.1
  have e11_ : I_ 7 0 11 = Int32.ofNat N_ := h_.1.2.2.2.2.2.1
  have hl : (L_ 21 0).length = N_ := by rw [h_.1.2.2.2.1, List.length_range]
  rcases zzarg (x_ := x_) (n_ := N_) (by omega) with ⟨v_, hv, rfl, hx⟩ | ⟨hx1, hx2⟩
  · have hs : (L_ 21 0)[v_]? = some v_ := by rw [h_.1.2.2.2.1]; exact List.getElem?_range hv
    obtain ⟨l1, l2⟩ := zzA26 h_ hv
    have hro : zRo I_ v_ (L_ 24 v_) := (zzQ_of h_ hv).1.2.2.2.2.2.1
    have hxx : ∀ w_, zbt (Int32.ofNat v_) 0 (zset I_ 32 0 0 w_ 7 0 11 - 1) = true := fun w_ => by rw [zz32, e11_]; exact hx
    have h27 : ∀ w_, zset (zset I_ 32 0 0 w_) 7 0 0 0 30 27 v_ = Int32.ofNat (L_ 24 v_).length := fun w_ => by rw [zset_ne (by simp), zset_ne (by simp)]; exact hro.1
    rcases zzarg (x_ := y_) (n_ := (L_ 24 v_).length) (by omega) with ⟨j_, hj, rfl, hy⟩ | ⟨hy1, hy2⟩
    · obtain ⟨s_, hsj⟩ : ∃ s_, (L_ 24 v_)[j_]? = some s_ := ⟨_, List.getElem?_eq_getElem hj⟩
      by_cases hz : 0 ≤ z_ ∧ z_ ≤ 3
      · obtain ⟨k_, hk, rfl⟩ := zznat (n_ := 3) (by decide) hz
        have hnd := (zzQ_of h_ hv).2.2.1
        have hpl := zzplZ (x_ := I_ 6 0 8) hnd (zzZv h_ hv)
        have hcf : zzcf (zsof I_ L_ v_ s_ j_ k_).2.1 I_ (zzZ I_ L_ N_) ∧ ∀ c_ i_, ¬ (c_ = 27 ∧ i_ < N_) → (zsof I_ L_ v_ s_ j_ k_).2.2 c_ i_ = L_ c_ i_ := by
          obtain rfl | rfl | rfl | rfl : k_ = 0 ∨ k_ = 1 ∨ k_ = 2 ∨ k_ = 3 := by omega
          · exact ⟨zzcf.rfl, fun _ _ _ => rfl⟩
          · exact ⟨zzcf.rfl, fun _ _ _ => rfl⟩
          · exact ⟨hpl, fun c_ i_ h_ => zlup_ne (fun e_ => h_ ⟨e_.1, by omega⟩)⟩
          · exact ⟨hpl, fun c_ i_ h_ => zlup_ne (fun e_ => h_ ⟨e_.1, by omega⟩)⟩
        refine zzQd h_ (zm64t hs hsj hk (by omega)) (by decide) hcf.1 hcf.2 (fun w_ J_ hJ e7_ hR => ?_)
        have hq := zzQ_of hR hv
        have hJ0 : zset J_ 7 0 0 0 = J_ := by rw [← hJ, zzset2]
        have hK_ : zzg (ztry J_ v_ (L_ 24 v_).length) J_ := (zfz.try zfz.rfl).zg
        refine (zm182d (v_ := v_) (J_ := J_) (K_ := zpln (ztry J_ v_ (L_ 24 v_).length) v_ (L_ 24 v_)) (l := L_ 24 v_) (by omega) (by rw [e7_ 11 (by decide), hR.1.2.2.2.2.2.1]; exact hx) hJ (by rw [hq.1.2.2.2.2.2.1.1]; exact hy) (zzbt.mpr hz) hk hq.1.2.2.2.2.2.1 hsj (by rw [hJ0]) (fun s_ hs => (hq.2.2.2.1 s_ hs).2.2.2)).mono (Nat.le_refl _) (Nat.le_refl _) (fun r2 I2_ L2_ hq2 => ?_)
        obtain ⟨rfl, rfl, rfl⟩ := hq2
        refine ⟨?_, zpln_fx.zg.trans hK_, rfl⟩
        rw [zzsof hR hv hsj hK_ hk]
      · exact zzRef h_ (zm64a hs hsj hz) (by decide) (t_ := 2) rfl (fun w_ => by
          have hm_ := zm182c (I_ := zset I_ 32 0 0 w_) (L_ := L_) (v_ := v_) (y_ := Int32.ofNat j_) (z_ := z_) (by omega) (hxx w_) rfl (by rw [h27]; exact hy) (zzbf.mpr hz)
          rw [zzset2] at hm_
          exact hm_)
    · exact zzRef h_ (zm64y hs hy1) (by decide) (t_ := 1) rfl (fun w_ => by
          have hm_ := zm182b (I_ := zset I_ 32 0 0 w_) (L_ := L_) (v_ := v_) (y_ := y_) (z_ := z_) (by omega) (hxx w_) rfl (by rw [h27]; exact hy2)
          rw [zzset2] at hm_
          exact hm_)
  · exact zzRef h_ (zm64x (by rw [hl]; exact hx1)) (by decide) (t_ := 1) rfl (fun w_ => zm182a (by rw [zz32, e11_]; exact hx2))
theorem zzO_seatsAnew {I_ : zIn} {L_ : zLi} {x_ : Int32} (h_ : zzRR0 I_ L_) : zzOk I_ L_ 4 67 3 183 [zwR 6 0, zwI x_] [zwR 7 0, zwI x_] zcdD := by
  obtain ⟨p_, N_, M_, h_⟩ := h_
  have hN_ := h_.1.2.2.2.2.1
  have e11_ : I_ 7 0 11 = Int32.ofNat N_ := h_.1.2.2.2.2.2.1
  have hl : (L_ 21 0).length = N_ := by rw [h_.1.2.2.2.1, List.length_range]
  rcases zzarg (x_ := x_) (n_ := N_) (by omega) with ⟨v_, hv, rfl, hx⟩ | ⟨hx1, hx2⟩
  · have hs : (L_ 21 0)[v_]? = some v_ := by rw [h_.1.2.2.2.1]; exact List.getElem?_range hv
    refine zzQd h_ (zm67t hs) (by decide) zzcf.rfl (fun _ _ _ => rfl) (fun w_ J_ hJ e7_ hR => ?_)
    have hM_ := hR.1.2.2.2.2.2.2.2.1
    refine (zm183b (v_ := v_) (M_ := M_) (by rw [zz32, e11_]; exact hx) hJ hM_ hR.1.2.2.2.2.2.2.2.2.1 (fun k_ hk => zzMq (hR.2.2.1 k_ hk).1 hR.1.2.1 (by omega))).mono (Nat.le_refl _) (Nat.le_refl _) (fun r2 I2_ L2_ hq => ?_)
    obtain ⟨rfl, rfl, rfl⟩ := hq
    refine ⟨?_, zzg.rfl, rfl⟩
    rw [(hR.2.2.2.1 v_ hv).2.2.2.2.2.2.2.2.2.2]
  · exact zzRef h_ (zm67x (by rw [hl]; exact hx1)) (by decide) (t_ := 1) rfl (fun w_ => zm183a (by rw [zz32, e11_]; exact hx2))
theorem zzO_drive {I_ : zIn} {L_ : zLi} {x_ : Int32} (h_ : zzRR0 I_ L_) : zzOk I_ L_ 4 68 5 184 [zwR 6 0, zwI x_] [zwR 7 0, zwI x_] zcdD := by
  obtain ⟨p_, N_, M_, h_⟩ := h_
  have hN_ := h_.1.2.2.2.2.1
  have e11_ : I_ 7 0 11 = Int32.ofNat N_ := h_.1.2.2.2.2.2.1
  have hl : (L_ 21 0).length = N_ := by rw [h_.1.2.2.2.1, List.length_range]
  rcases zzarg (x_ := x_) (n_ := N_) (by omega) with ⟨v_, hv, rfl, hx⟩ | ⟨hx1, hx2⟩
  · have hs : (L_ 21 0)[v_]? = some v_ := by rw [h_.1.2.2.2.1]; exact List.getElem?_range hv
    refine zzQd h_ (zm68t hs) (by decide) zzcf.rfl (fun _ _ _ => rfl) (fun w_ J_ hJ e7_ hR => ?_)
    have hq := zzQ_of hR hv
    have hH := zzH_of hq
    have hK_ : zfq (ztry J_ v_ (L_ 24 v_).length) J_ := fun c_ i_ f_ a_ b_ => ztry_ne (fun e_ => a_ ⟨e_.1, by omega⟩) b_
    refine (zm184b (v_ := v_) (l := L_ 24 v_) (by omega) (by rw [zz32, e11_]; exact hx) hJ hq.1.2.2.2.2.2.1).mono (Nat.le_refl _) (Nat.le_refl _) (fun r2 I2_ L2_ hq2 => ?_)
    obtain ⟨rfl, rfl, rfl⟩ := hq2
    refine ⟨?_, hK_.zg, rfl⟩
    rw [zdm_fq hK_, ← zzdr (fun s_ hs => (hq.2.2.2.1 s_ hs).2.1) hH.1.2.2.2.2.2.2.1 hH.1.2.2.2.2.2.2.2, hH.1.2.2.2.1, hH.1.1]
  · exact zzRef h_ (zm68x (by rw [hl]; exact hx1)) (by decide) (t_ := 1) rfl (fun w_ => zm184a (by rw [zz32, e11_]; exact hx2))
theorem zzO_patterns {I_ : zIn} {L_ : zLi} {cd : Nat → Int32} (h_ : zzRR0 I_ L_) : zzOk I_ L_ 4 26 6 187 [zwR 6 0] [zwR 7 0] cd := by
  obtain ⟨p_, N_, M_, h_⟩ := h_
  refine zzQd h_ zm26 (Nat.zero_le _) zzcf.rfl (fun _ _ _ => rfl) (fun w_ J_ hJ e7_ hR => ?_)
  refine (zm187 (M_ := M_) hJ hR.1.2.2.2.2.2.2.2.1 hR.1.2.2.2.2.2.2.2.2.1).mono (Nat.le_refl _) (Nat.le_refl _) (fun r2 I2_ L2_ hq => ?_)
  obtain ⟨rfl, rfl, rfl⟩ := hq
  refine ⟨?_, zzg.rfl, rfl⟩
  have e_ := zzpat hR.1.2.2.2.2.2.2.2.2.2.2.1 hR.2.2.1 M_ 0 0 0 0 0 (by omega)
  rw [List.drop_zero] at e_
  rw [← e_, hR.1.2.2.2.2.2.2.1]
theorem zzO_count {I_ : zIn} {L_ : zLi} {x_ : Int32} (h_ : zzRR0 I_ L_) : zzOk I_ L_ 3 71 6 188 [zwR 6 0, zwI x_] [zwR 7 0, zwI x_] zcdD := by
  obtain ⟨p_, N_, M_, h_⟩ := h_
  by_cases hx : 0 ≤ x_ ∧ x_ ≤ 9
  · obtain ⟨k_, hk, rfl⟩ := zznat (n_ := 9) (by decide) hx
    refine zzQd h_ (zm71t hk) (by decide) zzcf.rfl (fun _ _ _ => rfl) (fun w_ J_ hJ e7_ hR => ?_)
    refine (zm188b (w_ := k_) (M_ := M_) (zzbt.mpr hx) hk hJ hR.1.2.2.2.2.2.2.2.1 hR.1.2.2.2.2.2.2.2.2.1).mono (Nat.le_refl _) (Nat.le_refl _) (fun r2 I2_ L2_ hq => ?_)
    obtain ⟨rfl, rfl, rfl⟩ := hq
    refine ⟨?_, zzg.rfl, rfl⟩
    rw [zzcount hR hk]
  · exact zzRef h_ (zm71x hx) (by decide) (t_ := 1) rfl (fun w_ => zm188a (zzbf.mpr hx))
theorem zzO_money {I_ : zIn} {L_ : zLi} {cd : Nat → Int32} (h_ : zzRR0 I_ L_) : zzOk I_ L_ 3 30 6 189 [zwR 6 0] [zwR 7 0] cd := by
  obtain ⟨p_, N_, M_, h_⟩ := h_
  refine zzQd h_ zm30 (Nat.zero_le _) zzcf.rfl (fun _ _ _ => rfl) (fun w_ J_ hJ e7_ hR => ?_)
  refine (zm189 (M_ := M_) hJ hR.1.2.2.2.2.2.2.2.1 hR.1.2.2.2.2.2.2.2.2.1).mono (Nat.le_refl _) (Nat.le_refl _) (fun r2 I2_ L2_ hq => ?_)
  obtain ⟨rfl, rfl, rfl⟩ := hq
  refine ⟨?_, zzg.rfl, rfl⟩
  have e_ := zzmonL hR.2.2.1 M_ 0 0 (by omega)
  rw [List.drop_zero] at e_
  rw [hR.1.2.2.2.2.2.2.1, e_]
