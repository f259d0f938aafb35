/-! THE MINUTE: a stop is done, in the model -/
theorem zzdn4 {D_ : zIn} {v_ s_ n_ c_ i_ f_ : Nat} (hn : n_ ≤ 16) (h1 : ¬ (c_ = 31 ∧ (i_ = 19 ∨ i_ = 22) ∧ f_ = v_)) (h2 : ¬ (c_ = 30 ∧ (i_ = 17 ∨ i_ = 18 ∨ i_ = 27) ∧ f_ = v_)) (h3 : ¬ (c_ = 30 ∧ i_ = 26 ∧ 16 * v_ ≤ f_ ∧ f_ < 16 * v_ + 16)) (h4 : ¬ (c_ = 30 ∧ i_ = 43)) (h5 : ¬ (c_ = 7 ∧ i_ = 0 ∧ f_ = 42)) : zdn4 D_ v_ s_ n_ c_ i_ f_ = D_ c_ i_ f_ := by
  have e3_ : zdn3 D_ v_ s_ c_ i_ f_ = D_ c_ i_ f_ := by
    unfold zdn3 zdn2 zdn1
    rw [zset_ne (by omega), zset_ne (by omega), zset_ne (by omega), zset_ne (by omega)]
  unfold zdn4
  by_cases e_ : c_ = 30 ∧ i_ = 26
  · obtain ⟨rfl, rfl⟩ := e_
    rw [zzkepr hn (by omega), ztst_ne h4 h5, ztry_ne h4 h5, e3_]
  · rw [zkep_ne e_ (by omega), ztst_ne h4 h5, ztry_ne h4 h5, e3_]
theorem zzdn4_is {D_ : zIn} {v_ s_ n_ : Nat} : zdn4 D_ v_ s_ n_ 31 19 v_ = 0 ∧ zdn4 D_ v_ s_ n_ 31 22 v_ = 0 ∧ zdn4 D_ v_ s_ n_ 30 17 v_ = zmpl D_ s_ ∧ zdn4 D_ v_ s_ n_ 30 18 v_ = D_ 7 0 2 := by
  have e_ : ∀ c_ i_ f_, ¬ (c_ = 30 ∧ (i_ = 26 ∨ i_ = 27 ∨ i_ = 43)) → ¬ (c_ = 7) → zdn4 D_ v_ s_ n_ c_ i_ f_ = zdn3 D_ v_ s_ c_ i_ f_ := fun c_ i_ f_ a_ b_ => by
    unfold zdn4
    rw [zkep_ne (by omega) (by omega), ztst_ne (by omega) (by omega), ztry_ne (by omega) (by omega)]
  rw [e_ _ _ _ (by simp) (by simp), e_ _ _ _ (by simp) (by simp), e_ _ _ _ (by simp) (by simp), e_ _ _ _ (by simp) (by simp)]
  unfold zdn3 zdn2 zdn1
  refine ⟨?_, ?_, ?_, ?_⟩
  · rw [zset_ne (by simp), zset_ne (by simp), zset_ne (by simp), zset_is]
  · rw [zset_ne (by simp), zset_ne (by simp), zset_is]
  · rw [zset_ne (by simp), zset_is]
    unfold zmpl
    rw [zset_ne (by simp), zset_ne (by simp), zset_ne (by simp), zset_ne (by simp)]
  · rw [zset_is, zset_ne (by simp), zset_ne (by simp), zset_ne (by simp)]
theorem zzdn4_ro {D_ : zIn} {v_ s_ : Nat} {l : List Nat} (h_ : zRo D_ v_ (s_ :: l)) : zRo (zdn4 D_ v_ s_ l.length) v_ l := by
  have h16_ := h_.2.1
  rw [List.length_cons] at h16_
  have t1_ := ztst_tr (a_ := 0) (ztry_tr (zdn3_ro (s_ := s_) h_)) (by rw [List.length_cons]; omega)
  have k_ := zkep_ro (v_ := v_) t1_ (by rw [List.eraseIdx_zero]; show l.length ≤ 16; omega)
  rw [List.eraseIdx_zero] at k_
  exact k_
/-- the class's lists when a stop is done -/
theorem zzfiL {L_ : zLi} {v_ s_ : Nat} {l : List Nat} (hl : L_ 24 v_ = s_ :: l) : zfiL L_ v_ s_ 24 v_ = l ∧ zfiL L_ v_ s_ 25 v_ = L_ 25 v_ ++ [s_] ∧ zfiL L_ v_ s_ 26 v_ = L_ 26 v_ ∧ ∀ c_ u_, ¬ (u_ = v_ ∧ (c_ = 24 ∨ c_ = 25 ∨ c_ = 26)) → zfiL L_ v_ s_ c_ u_ = L_ c_ u_ := by
  unfold zfiL
  refine ⟨?_, ?_, ?_, fun c_ u_ hh => ?_⟩
  · rw [zlup_ne (by simp), zlup_self, hl]; rfl
  · rw [zlup_self, zlup_ne (by simp)]
  · rw [zlup_ne (by simp), zlup_ne (by simp)]
  · rw [zlup_ne (by omega), zlup_ne (by omega)]
theorem zzfi1 {C_ : zIn} {v_ s_ : Nat} {x_ : Int32} : zfi1 C_ v_ s_ x_ 5 v_ 10 = 0 ∧ zfi1 C_ v_ s_ x_ 5 v_ 11 = C_ 4 s_ 2 ∧ zfi1 C_ v_ s_ x_ 5 v_ 12 = x_ ∧ ∀ c_ i_ f_, ¬ (c_ = 5 ∧ i_ = v_ ∧ (f_ = 10 ∨ f_ = 11 ∨ f_ = 12)) → zfi1 C_ v_ s_ x_ c_ i_ f_ = C_ c_ i_ f_ := by
  unfold zfi1
  refine ⟨?_, ?_, ?_, fun c_ i_ f_ hh => ?_⟩
  · rw [zset_ne (by simp), zset_ne (by simp), zset_is]
  · rw [zset_ne (by simp), zset_is, zset_ne (by simp)]
  · rw [zset_is]
  · rw [zset_ne (by omega), zset_ne (by omega), zset_ne (by omega)]
theorem zzsm {C_ D_ : zIn} {p_ r_ : Nat} (hb_ : zzRb C_ D_ p_ r_) (hp16 : p_ ≤ 16) (hp : ∀ i_, i_ < p_ → zzRp C_ D_ i_) : zsea C_ r_ = zmse D_ r_ ∧ zchr C_ r_ = decide (zmkd D_ r_ = 2) := by
  obtain ⟨u_, k_, hu, hk, e1_, e2_, e3_, e4_, e5_, e6_, e7_⟩ := zzrd hb_ hp16 hp
  obtain ⟨k1_, k2_⟩ := zzk2 hk
  refine ⟨?_, ?_⟩
  · unfold zsea zmse
    rw [e1_, e6_, e4_, e2_]
    by_cases h_ : k_ = 2
    · rw [if_pos h_, if_pos (k1_.mpr h_)]
    · rw [if_neg h_, if_neg (fun e_ => h_ (k1_.mp e_))]
  · unfold zchr
    rw [e1_, e3_, e4_]

