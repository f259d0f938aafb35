/-! THE CALLS: questions -/
def zcdA (E_ : Nat) : Int32 := if E_ = 9 then 1 else 2
def zcdB (E_ : Nat) : Int32 := if E_ = 11 then 1 else 2
def zcdC (E_ : Nat) : Int32 := if E_ = 11 then 1 else if E_ = 9 then 2 else 3
def zcdD (_ : Nat) : Int32 := 1
theorem zzcf.co {K_ I_ : zIn} {Z_ : List Nat} (h_ : zzcf K_ I_ Z_) : zzco K_ I_ := fun c_ i_ f_ hc_ => h_.1 c_ i_ f_ ⟨by omega, by omega, by omega, by omega⟩
theorem zzg.mo {K_ J_ : zIn} (h_ : zzg K_ J_) : zzmo K_ J_ := fun c_ i_ f_ hc_ => h_ c_ i_ f_ (by omega) (by omega)
theorem zz32 {I_ : zIn} {y_ : Int32} {f_ : Nat} : zset I_ 32 0 0 y_ 7 0 f_ = I_ 7 0 f_ := zset_ne (by simp)
theorem zz320 {I_ : zIn} {y_ : Int32} {f_ : Nat} (hf : ¬ f_ = 0) : zset (zset I_ 32 0 0 y_) 7 0 0 0 7 0 f_ = zset I_ 32 0 0 y_ 7 0 f_ := zset_ne (by simp [hf])
/-- a question that both answer -/
theorem zzQd {I_ I1 : zIn} {L_ L1 : zLi} {dc mc_ dm mm a_ p_ N_ M_ : Nat} {ac am : List zW} {cd : Nat → Int32} {v_ : Option zW} (h_ : zzR I_ L_ I_ p_ N_ M_) (hc_ : zYm dc mc_ ac I_ L_ a_ (zRet v_ I1 L1)) (ha_ : a_ ≤ 200) (hcf : zzcf I1 I_ (zzZ I_ L_ N_)) (hL : ∀ c_ i_, ¬ (c_ = 27 ∧ i_ < N_) → L1 c_ i_ = L_ c_ i_) (hm_ : ∀ y_ J_, zset (zset I1 32 0 0 y_) 7 0 0 0 = J_ → (∀ f_, ¬ f_ = 0 → zset I1 32 0 0 y_ 7 0 f_ = J_ 7 0 f_) → zzR I_ L_ J_ p_ N_ M_ → zYm dm mm am (zset I1 32 0 0 y_) L1 0 (fun r2 I2_ L2_ => r2 = .inl v_ ∧ zzg I2_ J_ ∧ L2_ = L1)) (hkv : zzVal mc_ v_ := by first | exact Or.inl ⟨rfl, rfl⟩ | exact Or.inr (Or.inl ⟨by decide, _, rfl⟩) | exact Or.inr (Or.inr ⟨rfl, _, rfl⟩)) : zzOk I_ L_ dc mc_ dm mm ac am cd := by
  refine zzDone h_ hc_ ha_ (fun y_ => ?_) hkv
  have hJ := zzthr (zzpre (y_ := y_) h_ hcf.co)
  refine (hm_ y_ _ rfl (fun f_ hf => (zz320 hf).symm) hJ).mono (Nat.le_refl _) (Nat.le_refl _) (fun r2 I2_ L2_ hq => ?_)
  obtain ⟨rfl, hz, rfl⟩ := hq
  refine ⟨rfl, ?_, rfl, hz.mo.trans (zzmo.set zzmo.rfl (by simp)), p_, N_, M_, ?_⟩
  · rw [hz.a7 (by decide), zset_is]
  · refine hJ.cg (hcf.n trivial) hz.m (fun c_ i_ h23 h27 => hL c_ i_ h27)
theorem zzZv {C_ D_ : zIn} {L_ : zLi} {p_ N_ M_ v_ : Nat} (h_ : zzR C_ L_ D_ p_ N_ M_) (hv : v_ < N_) : ∀ s_ ∈ zzZ C_ L_ N_, s_ ∈ L_ 24 v_ → ¬ C_ 5 v_ 10 = 0 ∧ (L_ 24 v_)[0]? = some s_ := by
  intro s_ hs hsv
  obtain ⟨w_, hw, hne, hs0⟩ := zzZ_mem.mp hs
  have hN4 := h_.1.2.2.2.2.1
  have e1_ := ((zzQ_of h_ hv).2.2.2.1 s_ hsv).2.2.1
  have e2_ := ((zzQ_of h_ hw).2.2.2.1 s_ (List.mem_of_getElem? hs0)).2.2.1
  have e_ : v_ = w_ := (zof_eq (by omega) (by omega)).mp (e1_.symm.trans e2_)
  subst e_
  exact ⟨hne, hs0⟩
theorem zzA26 {C_ D_ : zIn} {L_ : zLi} {p_ N_ M_ v_ : Nat} (h_ : zzR C_ L_ D_ p_ N_ M_) (hv : v_ < N_) : (L_ 26 v_).length ≤ 60 ∧ (L_ 24 v_).length ≤ 16 := by
  obtain ⟨t1_, t2_, t3_, t4_, t5_, _⟩ := (h_.2.2.2.1 v_ hv).2.2
  have hM_ := h_.1.2.2.2.2.2.2.2.1
  have h1 : (L_ 26 v_).length ≤ (List.range M_).length := t2_.length_le_of_subset (fun q_ hq => List.mem_range.mpr (t5_ q_ hq).1)
  rw [List.length_range] at h1
  exact ⟨by omega, (zzQ_of h_ hv).1.2.2.2.2.2.1.2.1⟩
