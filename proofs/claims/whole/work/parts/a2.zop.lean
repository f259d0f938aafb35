/-! THE CALLS: ask, answered -/
theorem zzaqf {x_ y_ w_ : Int32} : zaqF x_ y_ w_ = true ↔ (0 ≤ x_ ∧ x_ ≤ 35) ∧ (0 ≤ y_ ∧ y_ ≤ 35) ∧ (0 ≤ w_ ∧ w_ ≤ 600) ∧ ¬ x_ = y_ := by
  unfold zaqF
  rw [Bool.and_eq_true, Bool.and_eq_true, Bool.and_eq_true, zzbt, zzbt, zzbt, decide_eq_true_iff]
theorem zzO_ask {I_ : zIn} {L_ : zLi} {x_ y_ z_ w_ : Int32} (h_ : zzRR0 I_ L_) : zzOk I_ L_ 13 42 11 130 [zwR 6 0, zwI x_, zwI y_, zwI z_, zwI w_] [zwR 7 0, zwI x_, zwI y_, zwI z_, zwI w_] zcdC := by
  obtain ⟨p_, N_, M_, h_⟩ := h_
  have hp := h_.1.2.1
  have hN4 := h_.1.2.2.2.2.1
  have hM60 := h_.1.2.2.2.2.2.2.2.1
  have e6_ : I_ 7 0 6 = Int32.ofNat p_ := h_.1.2.2.1
  have e28_ : I_ 7 0 28 = Int32.ofNat M_ := h_.1.2.2.2.2.2.2.2.2.1
  have hl : (L_ 20 0).length = p_ := by rw [h_.1.1, List.length_range]
  have hl2 : (L_ 22 0).length = M_ := by rw [h_.1.2.2.2.2.2.2.1, List.length_range]
  rcases zzarg (x_ := x_) (n_ := p_) (by omega) with ⟨i_, hi_, rfl, hx⟩ | ⟨hx1, hx2⟩
  · have hs : (L_ 20 0)[i_]? = some i_ := by rw [h_.1.1]; exact List.getElem?_range hi_
    by_cases hf : zaqF y_ z_ w_ = true
    · obtain ⟨hy, hz, hw, hyz⟩ := zzaqf.mp hf
      by_cases hM_ : M_ < 60
      · obtain ⟨a_, ha_, rfl⟩ := zznat (n_ := 35) (by decide) hy
        obtain ⟨b_, hb_, rfl⟩ := zznat (n_ := 35) (by decide) hz
        have hq := h_.2.2.2.2.2.2.1 M_ (Nat.le_refl _)
        have hsb : zsbd2 L_ := fun v_ hv => by
          rw [h_.1.2.2.2.1, List.mem_range] at hv
          obtain ⟨l1, l2⟩ := zzA26 h_ hv
          exact ⟨by omega, by omega, by omega⟩
        have hc_ := zm42t (w_ := w_) hs hy hz hw (q_ := M_) hyz (by omega) (by omega) hq.1 hq.2.1 hq.2.2 hsb
        rw [hl2] at hc_
        refine zzSet h_ hc_ (by decide) (zzsK h_ hi_ hM_ (by omega) (by omega)).2.1 (fun u_ J_ hJ e7_ e30 hR => ?_)
        obtain ⟨s1_, s2_, s3_, s4_, s5⟩ := zzsK (w_ := w_) (a_ := a_) (b_ := b_) hR hi_ hM_ (by omega) (by omega)
        refine (zm130d (by rw [e7_ 6 (by decide), hR.1.2.2.1]; exact hx) (by omega) hf (by rw [e7_ 28 (by decide), hR.1.2.2.2.2.2.2.2.2.1]) hM_ hJ s1_).mono (Nat.le_refl _) (Nat.le_refl _) (fun r2 I2_ L2_ hq => ?_)
        obtain ⟨rfl, rfl, rfl⟩ := hq
        exact ⟨rfl, rfl, by rw [s4_, ← hJ, zset_is], s3_, p_, N_, M_ + 1, s5⟩
      · have hM' : M_ = 60 := by omega
        exact zzRef h_ (zm42e hs hy hz hw hyz (by omega) (by omega)) (by decide) (t_ := 3) rfl (fun u_ => zm130c (by rw [zz32, e6_]; exact hx) hf (by rw [zz32, e28_, hM']))
    · have hf' : zaqF y_ z_ w_ = false := by rw [← Bool.not_eq_true]; exact hf
      have hm_ : ∀ u_, zYm 11 130 [zwR 7 0, zwI (Int32.ofNat i_), zwI y_, zwI z_, zwI w_] (zset I_ 32 0 0 u_) L_ 0 (zRet (some (zwI 0)) (zset (zset I_ 32 0 0 u_) 7 0 0 2) L_) := fun u_ => zm130b (by rw [zz32, e6_]; exact hx) hf'
      by_cases hy : 0 ≤ y_ ∧ y_ ≤ 35
      · by_cases hz : 0 ≤ z_ ∧ z_ ≤ 35
        · by_cases hw : 0 ≤ w_ ∧ w_ ≤ 600
          · by_cases hyz : y_ = z_
            · exact zzRef h_ (zm42d hs hy hz hw hyz) (by decide) (t_ := 2) rfl hm_
            · exact absurd (zzaqf.mpr ⟨hy, hz, hw, hyz⟩) hf
          · exact zzRef h_ (zm42c hs hy hz hw) (by decide) (t_ := 2) rfl hm_
        · exact zzRef h_ (zm42b hs hy hz) (by decide) (t_ := 2) rfl hm_
      · exact zzRef h_ (zm42a hs hy) (by decide) (t_ := 2) rfl hm_
  · exact zzRef h_ (zm42x (by rw [hl]; exact hx1)) (by decide) (t_ := 1) rfl (fun u_ => zm130a (by rw [zz32, e6_]; exact hx2))
