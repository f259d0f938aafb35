/-! THE LAW'S STATE: minutes keep it -/
/-- what is promised, and when one came aboard, is a minute or nothing -/
def zrB (C_ : zIn) (M_ : Nat) : Prop := ∀ r_, r_ < M_ → (-1 ≤ (C_ 1 r_ 7).toInt ∧ (C_ 1 r_ 7).toInt ≤ 600) ∧ -1 ≤ (C_ 1 r_ 11).toInt ∧ (C_ 1 r_ 11).toInt ≤ 600
theorem ztka_sub {q_ : Nat} : ∀ (n_ : Nat) (l : List Nat), (ztka q_ n_ l).Sublist l
  | 0, l => List.Sublist.refl l
  | n_ + 1, l => by
    unfold ztka
    refine (ztka_sub n_ _).trans ?_
    split
    · split
      · exact List.eraseIdx_sublist _ _
      · exact List.Sublist.refl _
    · exact List.Sublist.refl _
section
variable {C_ : zIn} {L_ : zLi} {v_ s_ : Nat} {x_ : Int32}
/-- a stop that is done -/
def zdoS (C_ : zIn) (L_ : zLi) (v_ s_ : Nat) (C'_ : zIn) (L' : zLi) : Prop := C'_ 5 v_ 10 = 0 ∧ (∀ r_, C'_ 1 r_ 11 = if s_ % 2 = 0 ∧ r_ = s_ / 2 then C_ 4 s_ 4 else C_ 1 r_ 11) ∧ (∀ r_, C'_ 1 r_ 10 = if s_ % 2 = 0 ∧ r_ = s_ / 2 then C_ 4 s_ 3 else C_ 1 r_ 10) ∧ (∀ r_, C'_ 1 r_ 12 = if ¬ s_ % 2 = 0 ∧ r_ = s_ / 2 then C_ 4 s_ 3 else C_ 1 r_ 12) ∧ ((L' 26 v_).Sublist (L_ 26 v_) ∨ (s_ % 2 = 0 ∧ L' 26 v_ = L_ 26 v_ ++ [s_ / 2])) ∧ (∀ c_ u_, ¬ u_ = v_ → L' c_ u_ = L_ c_ u_) ∧ (∀ c_ i_ f_, (c_ = 4 ∨ c_ = 6 ∨ (c_ = 5 ∧ ¬ i_ = v_)) → C'_ c_ i_ f_ = C_ c_ i_ f_)
theorem zfi2_s : zdoS C_ L_ v_ s_ (zfi2 C_ L_ v_ s_ x_).1 (zfi2 C_ L_ v_ s_ x_).2 := by
  have e1_ : ∀ f_, zfi1 C_ v_ s_ x_ 4 s_ f_ = C_ 4 s_ f_ := fun f_ => zzfi1.2.2.2 4 s_ f_ (by omega)
  have e2_ : ∀ r_ f_, zfi1 C_ v_ s_ x_ 1 r_ f_ = C_ 1 r_ f_ := fun r_ f_ => zzfi1.2.2.2 1 r_ f_ (by omega)
  have e26_ : zfiL L_ v_ s_ 26 v_ = L_ 26 v_ := by unfold zfiL; rw [zlup_ne (by omega), zlup_ne (by omega)]
  have eL : ∀ c_ u_, ¬ u_ = v_ → zfiL L_ v_ s_ c_ u_ = L_ c_ u_ := fun c_ u_ hu => by unfold zfiL; rw [zlup_ne (by omega), zlup_ne (by omega)]
  unfold zfi2
  split
  · rename_i hs
    have p11 : ∀ y_ r_, zset (zpi1 (zfi1 C_ v_ s_ x_) s_) 1 (s_ / 2) 5 y_ 1 r_ 11 = if s_ % 2 = 0 ∧ r_ = s_ / 2 then C_ 4 s_ 4 else C_ 1 r_ 11 := fun y_ r_ => by
      rw [zset_ne (by omega)]
      unfold zpi1
      by_cases hr : r_ = s_ / 2
      · rw [if_pos ⟨hs, hr⟩, hr, zset_is, zset_ne (by omega), e1_]
      · rw [if_neg (fun h_ => hr h_.2), zset_ne (by omega), zset_ne (by omega), e2_]
    have p10 : ∀ y_ r_, zset (zpi1 (zfi1 C_ v_ s_ x_) s_) 1 (s_ / 2) 5 y_ 1 r_ 10 = if s_ % 2 = 0 ∧ r_ = s_ / 2 then C_ 4 s_ 3 else C_ 1 r_ 10 := fun y_ r_ => by
      rw [zset_ne (by omega)]
      unfold zpi1
      by_cases hr : r_ = s_ / 2
      · rw [if_pos ⟨hs, hr⟩, hr, zset_ne (by omega), zset_is, e1_]
      · rw [if_neg (fun h_ => hr h_.2), zset_ne (by omega), zset_ne (by omega), e2_]
    have p12 : ∀ y_ r_, zset (zpi1 (zfi1 C_ v_ s_ x_) s_) 1 (s_ / 2) 5 y_ 1 r_ 12 = if ¬ s_ % 2 = 0 ∧ r_ = s_ / 2 then C_ 4 s_ 3 else C_ 1 r_ 12 := fun y_ r_ => by
      rw [if_neg (fun h_ => h_.1 hs), zset_ne (by omega)]
      unfold zpi1
      rw [zset_ne (by omega), zset_ne (by omega), e2_]
    have p5_ : ∀ y_ c_ i_ f_, ¬ c_ = 1 → ¬ (c_ = 5 ∧ i_ = v_) → zset (zpi1 (zfi1 C_ v_ s_ x_) s_) 1 (s_ / 2) 5 y_ c_ i_ f_ = C_ c_ i_ f_ := fun y_ c_ i_ f_ hc_ h5 => by
      rw [zset_ne (by omega)]
      unfold zpi1
      rw [zset_ne (by omega), zset_ne (by omega), zzfi1.2.2.2 c_ i_ f_ (by omega)]
    have p0_ : ∀ y_, zset (zpi1 (zfi1 C_ v_ s_ x_) s_) 1 (s_ / 2) 5 y_ 5 v_ 10 = 0 := fun y_ => by
      rw [zset_ne (by omega)]
      unfold zpi1
      rw [zset_ne (by omega), zset_ne (by omega), zzfi1.1]
    unfold zpid
    split
    · refine ⟨p0_ 3, p11 3, p10 3, p12 3, Or.inl ?_, fun c_ u_ hu => ?_, fun c_ i_ f_ hc_ => p5_ 3 c_ i_ f_ (by omega) (by omega)⟩
      · dsimp only
        rw [zlup_ne (by omega), e26_]
        exact List.Sublist.refl _
      · dsimp only
        rw [zlup_ne (by omega), eL c_ u_ hu]
    · split
      · refine ⟨p0_ 5, p11 5, p10 5, p12 5, Or.inl ?_, fun c_ u_ hu => ?_, fun c_ i_ f_ hc_ => p5_ 5 c_ i_ f_ (by omega) (by omega)⟩
        · dsimp only
          rw [zlup_ne (by omega), e26_]
          exact List.Sublist.refl _
        · dsimp only
          rw [zlup_ne (by omega), eL c_ u_ hu]
      · refine ⟨p0_ 1, p11 1, p10 1, p12 1, Or.inr ⟨hs, ?_⟩, fun c_ u_ hu => ?_, fun c_ i_ f_ hc_ => p5_ 1 c_ i_ f_ (by omega) (by omega)⟩
        · dsimp only
          rw [zlup_self, e26_]
        · dsimp only
          rw [zlup_ne (by omega), eL c_ u_ hu]
  · rename_i hs
    refine ⟨?_, fun r_ => ?_, fun r_ => ?_, fun r_ => ?_, Or.inl ?_, fun c_ u_ hu => ?_, fun c_ i_ f_ hc_ => ?_⟩
    · dsimp only
      rw [zset_ne (by omega), zset_ne (by omega), zzfi1.1]
    · dsimp only
      rw [if_neg (fun h_ => hs h_.1), zset_ne (by omega), zset_ne (by omega), e2_]
    · dsimp only
      rw [if_neg (fun h_ => hs h_.1), zset_ne (by omega), zset_ne (by omega), e2_]
    · dsimp only
      by_cases hr : r_ = s_ / 2
      · rw [if_pos ⟨hs, hr⟩, hr, zset_ne (by omega), zset_is, e1_]
      · rw [if_neg (fun h_ => hr h_.2), zset_ne (by omega), zset_ne (by omega), e2_]
    · dsimp only
      rw [zlup_self, e26_]
      exact ztka_sub _ _
    · dsimp only
      rw [zlup_ne (by omega), eL c_ u_ hu]
    · dsimp only
      rw [zset_ne (by omega), zset_ne (by omega), zzfi1.2.2.2 c_ i_ f_ (by omega)]
/-- what a minute does to a vehicle: nothing, it waits for its lift, or a stop is done -/
theorem zfnn_s : ((∀ c_ i_ f_, ¬ (c_ = 4 ∧ (f_ = 4 ∨ f_ = 5)) → (zfnn C_ L_ v_ x_).1 c_ i_ f_ = C_ c_ i_ f_) ∧ (zfnn C_ L_ v_ x_).2 = L_) ∨ ∃ s_ l, L_ 24 v_ = s_ :: l ∧ ¬ C_ 5 v_ 10 = 0 ∧ C_ 4 s_ 4 = x_ ∧ zdoS C_ L_ v_ s_ (zfnn C_ L_ v_ x_).1 (zfnn C_ L_ v_ x_).2 := by
  unfold zfnn
  split
  · exact Or.inl ⟨fun _ _ _ _ => rfl, rfl⟩
  · rename_i h10
    cases hl : L_ 24 v_ with
    | nil => exact Or.inl ⟨fun _ _ _ _ => rfl, rfl⟩
    | cons s_ l =>
      dsimp only
      split
      · rename_i h4
        split
        · exact Or.inl ⟨fun c_ i_ f_ hc_ => by dsimp only; rw [zset_ne (by omega), zset_ne (by omega)], rfl⟩
        · exact Or.inr ⟨s_, l, rfl, h10, h4, zfi2_s⟩
      · exact Or.inl ⟨fun _ _ _ _ => rfl, rfl⟩
theorem zlvd_s : (zlvd C_ L_ v_ x_ = C_) ∨ ∃ s_ l, L_ 24 v_ = s_ :: l ∧ C_ 5 v_ 10 = 0 ∧ zlvd C_ L_ v_ x_ 4 s_ 3 = x_ + 2 * zstp (C_ 5 v_ 11) (C_ 4 s_ 2) ∧ ∀ c_ i_ f_, ¬ (c_ = 5 ∧ i_ = v_ ∧ f_ = 10) → ¬ (c_ = 4 ∧ i_ = s_ ∧ (f_ = 3 ∨ f_ = 4)) → zlvd C_ L_ v_ x_ c_ i_ f_ = C_ c_ i_ f_ := by
  unfold zlvd
  split
  · exact Or.inl rfl
  · rename_i h10
    cases hl : L_ 24 v_ with
    | nil => exact Or.inl rfl
    | cons s_ l =>
      dsimp only
      split
      · refine Or.inr ⟨s_, l, rfl, Classical.not_not.mp (fun h_ => h10 (Or.inl h_)), ?_, fun c_ i_ f_ h5 h4 => ?_⟩
        · rw [zset_ne (by omega), zset_is]
        · rw [zset_ne (by omega), zset_ne (by omega), zset_ne (by omega)]
      · exact Or.inl rfl
variable {D_ : zIn} {M_ p_ : Nat}
theorem zpmv_x (h_ : zzR C_ L_ D_ p_ 2 M_) (hv : v_ < 2) (t0_ : Int32) (hx : zxs C_ L_ v_ t0_) (ht : t0_ < C_ 6 0 8) (h0 : 0 ≤ C_ 6 0 8) : zxs (zpmv v_ C_ L_).1 (zpmv v_ C_ L_).2 v_ (C_ 6 0 8) := by
  have e1_ : ∀ q_, (zpmv v_ C_ L_).1 1 q_ 11 = (zfnn C_ L_ v_ (C_ 6 0 8)).1 1 q_ 11 := fun q_ => zlvd_k (by omega)
  have hR := (h_.2.2.2.1 v_ hv).2.2
  have key_ : ∀ l : List Nat, l.Sublist (L_ 26 v_) → (∀ q_ ∈ l, (zpmv v_ C_ L_).1 1 q_ 11 = C_ 1 q_ 11) → l.Pairwise (fun a_ b_ => (zpmv v_ C_ L_).1 1 a_ 11 < (zpmv v_ C_ L_).1 1 b_ 11) ∧ ∀ q_ ∈ l, 0 ≤ (zpmv v_ C_ L_).1 1 q_ 11 ∧ (zpmv v_ C_ L_).1 1 q_ 11 < C_ 6 0 8 := by
    intro l hl he
    refine ⟨(hx.1.sublist hl).imp_of_mem (fun {a_ b_} ha_ hb_ hab => by rw [he a_ ha_, he b_ hb_]; exact hab), fun q_ hq => ?_⟩
    rw [he q_ hq]
    have := hx.2 q_ (hl.subset hq)
    exact ⟨this.1, Int32.lt_of_le_of_lt this.2 ht⟩
  show ((zfnn C_ L_ v_ (C_ 6 0 8)).2 26 v_).Pairwise _ ∧ ∀ q_ ∈ (zfnn C_ L_ v_ (C_ 6 0 8)).2 26 v_, _
  rcases zfnn_s (C_ := C_) (L_ := L_) (v_ := v_) (x_ := C_ 6 0 8) with ⟨g1, g2⟩ | ⟨s_, l, hl, h10, h4, g0, g1, g2, g3_, g4, g5_, g6⟩
  · rw [g2]
    obtain ⟨k1_, k2_⟩ := key_ (L_ 26 v_) (List.Sublist.refl _) (fun q_ _ => by rw [e1_, g1 1 q_ 11 (by omega)])
    exact ⟨k1_, fun q_ hq => ⟨(k2_ q_ hq).1, Int32.le_of_lt (k2_ q_ hq).2⟩⟩
  · have hsm := hR.2.2.2.1 s_ (by rw [hl]; exact List.mem_cons_self)
    have hne : ∀ q_ ∈ L_ 26 v_, s_ % 2 = 0 → ¬ q_ = s_ / 2 := fun q_ hq hs e_ => by
      have a1_ := (hR.2.2.2.2.1 q_ hq).2.1
      have a2 := hsm.2.2.1 hs
      rw [e_, a2] at a1_
      exact absurd a1_ (by decide)
    have hk : ∀ q_ ∈ L_ 26 v_, (zpmv v_ C_ L_).1 1 q_ 11 = C_ 1 q_ 11 := fun q_ hq => by
      rw [e1_, g1, if_neg (fun hh => hne q_ hq hh.1 hh.2)]
    rcases g4 with g4 | ⟨hs, g4⟩
    · obtain ⟨k1_, k2_⟩ := key_ _ g4 (fun q_ hq => hk q_ (g4.subset hq))
      exact ⟨k1_, fun q_ hq => ⟨(k2_ q_ hq).1, Int32.le_of_lt (k2_ q_ hq).2⟩⟩
    · rw [g4]
      obtain ⟨k1_, k2_⟩ := key_ _ (List.Sublist.refl _) hk
      have e11_ : (zpmv v_ C_ L_).1 1 (s_ / 2) 11 = C_ 6 0 8 := by rw [e1_, g1, if_pos ⟨hs, rfl⟩, h4]
      refine ⟨List.pairwise_append.mpr ⟨k1_, List.pairwise_singleton _ _, fun a_ ha_ c_ hc_ => ?_⟩, fun q_ hq => ?_⟩
      · have : c_ = s_ / 2 := by simpa using hc_
        rw [this, e11_]
        exact (k2_ a_ ha_).2
      · rcases List.mem_append.mp hq with hq | hq
        · exact ⟨(k2_ q_ hq).1, Int32.le_of_lt (k2_ q_ hq).2⟩
        · have : q_ = s_ / 2 := by simpa using hq
          rw [this, e11_]
          exact ⟨h0, Int32.le_refl _⟩
theorem zpmv_o {u_ : Nat} (h_ : zzR C_ L_ D_ p_ 2 M_) (hv : v_ < 2) (hu : u_ < 2) (hne : ¬ u_ = v_) (t0_ : Int32) (hx : zxs C_ L_ u_ t0_) : zxs (zpmv v_ C_ L_).1 (zpmv v_ C_ L_).2 u_ t0_ := by
  have e1_ : ∀ q_, (zpmv v_ C_ L_).1 1 q_ 11 = (zfnn C_ L_ v_ (C_ 6 0 8)).1 1 q_ 11 := fun q_ => zlvd_k (by omega)
  have hR := (h_.2.2.2.1 v_ hv).2.2
  have hU := (h_.2.2.2.1 u_ hu).2.2
  have hk : (∀ q_ ∈ L_ 26 u_, (zpmv v_ C_ L_).1 1 q_ 11 = C_ 1 q_ 11) ∧ (zpmv v_ C_ L_).2 26 u_ = L_ 26 u_ := by
    show _ ∧ (zfnn C_ L_ v_ (C_ 6 0 8)).2 26 u_ = L_ 26 u_
    rcases zfnn_s (C_ := C_) (L_ := L_) (v_ := v_) (x_ := C_ 6 0 8) with ⟨g1, g2⟩ | ⟨s_, l, hl, h10, h4, g0, g1, g2, g3_, g4, g5_, g6⟩
    · exact ⟨fun q_ _ => by rw [e1_, g1 1 q_ 11 (by omega)], by rw [g2]⟩
    · refine ⟨fun q_ hq => ?_, g5_ 26 u_ hne⟩
      have hsm := hR.2.2.2.1 s_ (by rw [hl]; exact List.mem_cons_self)
      have a1_ := (hU.2.2.2.2.1 q_ hq).2.2
      rw [e1_, g1, if_neg]
      intro hh
      rw [hh.2, hsm.2.1] at a1_
      exact hne ((zof_eq (by omega) (by omega)).mp a1_).symm
  refine ⟨?_, fun q_ hq => ?_⟩
  · rw [hk.2]
    exact hx.1.imp_of_mem (fun {a_ b_} ha_ hb_ hab => by rw [hk.1 a_ ha_, hk.1 b_ hb_]; exact hab)
  · rw [hk.2] at hq
    rw [hk.1 q_ hq]
    exact hx.2 q_ hq
theorem zpmv_b (h0 : 0 ≤ (C_ 6 0 8).toInt) (h6 : (C_ 6 0 8).toInt ≤ 600) (hr : zrB C_ M_) : zrB (zpmv v_ C_ L_).1 M_ := by
  have e1_ : ∀ q_ f_, (zpmv v_ C_ L_).1 1 q_ f_ = (zfnn C_ L_ v_ (C_ 6 0 8)).1 1 q_ f_ := fun q_ f_ => zlvd_k (by omega)
  intro r_ hr1
  rw [e1_, e1_, zfnn_k (f_ := 7) (by omega)]
  refine ⟨(hr r_ hr1).1, ?_⟩
  rcases zfnn_s (C_ := C_) (L_ := L_) (v_ := v_) (x_ := C_ 6 0 8) with ⟨g1, g2⟩ | ⟨s_, l, hl, h10, h4, g0, g1, g2, g3_, g4, g5_, g6⟩
  · rw [g1 1 r_ 11 (by omega)]; exact (hr r_ hr1).2
  · rw [g1]
    split
    · rw [h4]; omega
    · exact (hr r_ hr1).2
end
