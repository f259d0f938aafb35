/-! THE LAW'S STATE: the end of a day, lifts, traffic, riders who are absent -/
theorem zfao_n : ∀ (l : List Nat) (C_ : zIn) (k_ : Nat), k_ + l.length < 1000 → ∃ k', k' < 1000 ∧ (zfao l C_ (Int32.ofNat k_)).1 = Int32.ofNat k'
  | [], _, k_, h_ => ⟨k_, by simpa using h_, rfl⟩
  | q_ :: l, C_, k_, h_ => by
    rw [List.length_cons] at h_
    unfold zfao
    split
    · rw [zisucc]
      exact zfao_n l _ (k_ + 1) (by omega)
    · exact zfao_n l _ k_ (by omega)
theorem zedy_ne {P_ : zIn × zLi} {c_ i_ f_ : Nat} (h_ : ¬ c_ = 6) : (zedy P_).1 c_ i_ f_ = P_.1 c_ i_ f_ := by
  show zset (zset P_.1 6 0 7 (P_.1 6 0 7 + 1)) 6 0 8 0 c_ i_ f_ = _
  rw [zset_ne (by omega), zset_ne (by omega)]
theorem zedy_7 {P_ : zIn × zLi} : (zedy P_).1 6 0 7 = P_.1 6 0 7 + 1 := by
  show zset (zset P_.1 6 0 7 (P_.1 6 0 7 + 1)) 6 0 8 0 6 0 7 = _
  rw [zset_ne (by omega), zset_is]
theorem zedy_8 {P_ : zIn × zLi} : (zedy P_).1 6 0 8 = 0 := by
  show zset (zset P_.1 6 0 7 (P_.1 6 0 7 + 1)) 6 0 8 0 6 0 8 = _
  rw [zset_is]
section
variable {I_ I' : zIn} {L_ L' : zLi} {M_ t_ t' y_ y' bus j_ v_ : Nat} {s_ : Int32}
theorem zc55 (h_ : zLw I_ L_ M_ t_ y_ bus j_) (hy : y_ < 400) : zYm 9 55 [zwR 6 0] I_ L_ 60 (zOkI (fun x_ I' L' => 0 ≤ x_ ∧ zLw I' L' M_ 0 (y_ + 1) bus j_ ∧ (∀ v_, v_ < 2 → L' 24 v_ = [] ∧ I' 5 v_ 11 = I' 5 v_ 1 ∧ I' 5 v_ 12 = 0) ∧ ∀ r_, r_ < M_ → ¬ I' 1 r_ 5 = 0 ∧ ¬ I' 1 r_ 5 = 1)) := by
  obtain ⟨en, h6⟩ := h_.1.now
  have hm_ := h_.1.mins (600 - t_) t_ I_ L_ (by omega)
  obtain ⟨⟨D_, hR, et⟩, hx, hr, _⟩ := hm_
  have e21_ : (zpms (600 - t_) I_ L_).2 21 0 = List.range 2 := hR.1.2.2.2.1
  have e22_ : (zpms (600 - t_) I_ L_).2 22 0 = List.range M_ := hR.1.2.2.2.2.2.2.1
  have hM_ : M_ ≤ 60 := hR.1.2.2.2.2.2.2.2.1
  have e7_ : I_ 6 0 7 = Int32.ofNat y_ := h_.2.2.2.2.1
  have e7' : (zpms (600 - t_) I_ L_).1 6 0 7 = Int32.ofNat y_ := (zpms6 (by omega) _ _ _).trans e7_
  have ed : D_ 7 0 1 = Int32.ofNat y_ := by rw [← hR.1.2.2.2.2.2.2.2.2.2.2.1]; exact e7'
  have hE := (zzEd hR hy ed).2.1
  refine (zYm.ok (zn55t (N_ := 600 - t_) (P_ := fun k_ J_ K_ => zJ J_ K_ M_ (t_ + k_)) (fun k_ J_ K_ hJ => hJ.bnd) (fun k_ J_ K_ hk hJ => hJ.min (by omega)) h_.1 (by omega) ?_ ?_) ?_).mono (Nat.le_refl _) (show 14 ≤ 60 by omega) (fun _ _ _ hq => hq)
  · rw [en]
    exact (Int32.ofNat_sub 600 t_ h6).symm
  · rw [e7_]; exact (zilt (b := 400) (by omega) (by omega)).mpr hy
  have eE : (zend (600 - t_) I_ L_).2 = zedy (zbgl (List.range 2) (zfao (List.range M_) (zpms (600 - t_) I_ L_).1 0).2 (zpms (600 - t_) I_ L_).2) := by unfold zend; rw [e21_, e22_]
  have e1_ : (zend (600 - t_) I_ L_).1 = (zfao (List.range M_) (zpms (600 - t_) I_ L_).1 0).1 := by unfold zend; rw [e22_]
  rw [e21_, e22_] at hE
  obtain ⟨k_, k1_, k2_⟩ := zfao_n (List.range M_) (zpms (600 - t_) I_ L_).1 0 (by rw [List.length_range]; omega)
  have hF : zFx I_ (zend (600 - t_) I_ L_).2.1 M_ := zFx.k (fun c_ i_ f_ hk h7 _ _ => zend_k hk h7 e21_ e22_)
  generalize zpms (600 - t_) I_ L_ = P_ at *
  obtain ⟨g1, g2, g3_, g4⟩ := zzbgl (N_ := 2) 2 0 (zfao (List.range M_) P_.1 0).2 P_.2 (by omega)
  rw [List.drop_zero] at g1 g2 g3_ g4
  have ek : ∀ c_ i_ f_, ¬ (c_ = 5 ∧ i_ < 2 ∧ (f_ = 10 ∨ f_ = 11 ∨ f_ = 12)) → ¬ (c_ = 6) → (zedy (zbgl (List.range 2) (zfao (List.range M_) P_.1 0).2 P_.2)).1 c_ i_ f_ = if c_ = 1 ∧ i_ ∈ List.range M_ ∧ f_ = 5 ∧ (P_.1 1 i_ 5 = 0 ∨ P_.1 1 i_ 5 = 1) then 5 else P_.1 c_ i_ f_ := fun c_ i_ f_ h5 hc6 => by
    rw [zedy_ne hc6, g1 c_ i_ f_ (by omega), zzfao (C_ := P_.1) _ _ _ List.nodup_range (fun _ _ => rfl)]
  have e5_ : ∀ v_, v_ < 2 → ∀ f_, f_ = 10 ∨ f_ = 11 ∨ f_ = 12 → (zedy (zbgl (List.range 2) (zfao (List.range M_) P_.1 0).2 P_.2)).1 5 v_ f_ = (zbgl (List.range 2) (zfao (List.range M_) P_.1 0).2 P_.2).1 5 v_ f_ := fun v_ hv f_ hf => zedy_ne (by omega)
  have ey : (zedy (zbgl (List.range 2) (zfao (List.range M_) P_.1 0).2 P_.2)).1 6 0 7 = Int32.ofNat (y_ + 1) := by
    rw [zedy_7, g1 6 0 7 (by omega), zzfao (C_ := P_.1) _ _ _ List.nodup_range (fun _ _ => rfl), if_neg (by omega), e7', zisucc]
  have e8 : (zedy (zbgl (List.range 2) (zfao (List.range M_) P_.1 0).2 P_.2)).1 6 0 8 = 0 := zedy_8
  rw [eE] at hF ⊢
  have e2L : (zedy (zbgl (List.range 2) (zfao (List.range M_) P_.1 0).2 P_.2)).2 = (zbgl (List.range 2) (zfao (List.range M_) P_.1 0).2 P_.2).2 := rfl
  refine ⟨by rw [e1_, show (0 : Int32) = Int32.ofNat 0 from rfl, k2_]; exact zige (by omega), h_.fx hF ey ⟨⟨_, hE, (zqnow hE).symm.trans e8⟩, fun v_ hv => ?_, fun r_ hr1 => ?_, by omega⟩, fun v_ hv => ⟨?_, ?_, ?_⟩, fun r_ hr1 => ?_⟩
  · unfold zxs
    rw [e2L, g4 26 v_ (by omega) (by omega) hv]
    exact ⟨List.Pairwise.nil, fun q_ hq => by cases hq⟩
  · rw [ek 1 r_ 7 (by omega) (by omega), ek 1 r_ 11 (by omega) (by omega), if_neg (by omega), if_neg (by omega)]
    exact hr r_ hr1
  · rw [e2L]; exact g4 24 v_ (by omega) (by omega) hv
  · rw [e5_ v_ hv 11 (by omega), (g2 v_ (by omega) hv).2.1, ek 5 v_ 1 (by omega) (by omega), if_neg (by omega), zzfao (C_ := P_.1) _ _ _ List.nodup_range (fun _ _ => rfl), if_neg (by omega)]
  · rw [e5_ v_ hv 12 (by omega), (g2 v_ (by omega) hv).2.2]
  · rw [ek 1 r_ 5 (by omega) (by omega)]
    by_cases hp : P_.1 1 r_ 5 = 0 ∨ P_.1 1 r_ 5 = 1
    · rw [if_pos ⟨rfl, List.mem_range.mpr hr1, rfl, hp⟩]
      exact ⟨by decide, by decide⟩
    · rw [if_neg (fun hh => hp hh.2.2.2)]
      exact ⟨fun e_ => hp (Or.inl e_), fun e_ => hp (Or.inr e_)⟩
/-- lift -/
theorem zc40 (h_ : zLw I_ L_ M_ t_ y_ bus j_) (hv : v_ < 2) {x_ : Int32} (hx : x_ = 0 ∨ x_ = 1) : zYm 4 40 [zwR 6 0, zwI (Int32.ofNat v_), zwI x_] I_ L_ 60 (zOkI (fun z_ I' L' => z_ = zbo (I_ 5 v_ 9) ∧ zLw I' L' M_ t_ y_ bus j_)) := by
  obtain ⟨⟨D_, hR, et⟩, hxs, hr, h6⟩ := h_.1
  refine (zYm.ok (zm40t (zq21 hR hv) hx) ⟨rfl, h_.fx ⟨fun c_ i_ f_ hc_ => zset_ne (by omega), fun r_ f_ _ _ => zset_ne (by omega)⟩ ((zset_ne (by omega)).trans h_.2.2.2.2.1) ⟨⟨_, zzsL hR hv, (zset_ne (by omega)).trans et⟩, fun w_ hw => (hxs w_ hw).cg rfl (fun q_ _ => zset_ne (by omega)), fun r_ hr1 => ?_, h6⟩⟩).mono (Nat.le_refl _) (Nat.zero_le _) (fun _ _ _ hq => hq)
  · rw [zset_ne (by omega), zset_ne (by omega)]; exact hr r_ hr1
/-- absent -/
theorem zc52 (h_ : zLw I_ L_ M_ t_ y_ bus j_) {r_ : Nat} (hr : r_ < M_) {B_ C_ D_ : Int32} : zYm 15 122 [zwR 6 0, zwI 2, zwI (Int32.ofNat r_), zwI B_, zwI C_, zwI D_] I_ L_ 60 (zOkI (fun x_ I' L' => x_ = (if I_ 1 r_ 5 = 0 then 0 else -1003) ∧ zLw I' L' M_ t_ y_ bus j_)) := by
  obtain ⟨⟨D_, hR, et⟩, hxs, hrb, h6⟩ := h_.1
  by_cases h0 : I_ 1 r_ 5 = 0
  · refine (za122 ((zYm.ok (za121c (zm52t (zq22 hR hr) h0)) (P_ := fun x_ I' L' => x_ = (if I_ 1 r_ 5 = 0 then 0 else -1003) ∧ zLw I' L' M_ t_ y_ bus j_) ⟨by rw [if_pos h0], h_.fx ⟨fun c_ i_ f_ hc_ => zset_ne (by omega), fun r_ f_ _ _ => zset_ne (by omega)⟩ ((zset_ne (by omega)).trans h_.2.2.2.2.1) ⟨⟨_, zzsA hR hr, (zset_ne (by omega)).trans et⟩, fun w_ hw => (hxs w_ hw).cg rfl (fun q_ _ => zset_ne (by omega)), fun r_ hr1 => ?_, h6⟩⟩).mono (Nat.le_refl _) (Nat.zero_le _) (fun _ _ _ hq => hq)))
    · rw [zset_ne (by omega), zset_ne (by omega)]; exact hrb r_ hr1
  · refine (za122x (za121cx (zm52a (zq22 hR hr) h0))).mono (Nat.le_refl _) (Nat.le_refl _) (fun r_ I2_ L2_ hq => ?_)
    obtain ⟨rfl, rfl, rfl⟩ := hq
    exact ⟨_, rfl, by rw [if_neg h0], h_⟩
/-- traffic -/
theorem zc57 (h_ : zLw I_ L_ M_ t_ y_ bus j_) (hv : v_ < 2) {n_ : Nat} (hn : 1 ≤ n_ ∧ n_ ≤ 60) : zYm 4 57 [zwR 6 0, zwI (Int32.ofNat v_), zwI (Int32.ofNat n_)] I_ L_ 60 (zOkI (fun x_ I' L' => (I_ 5 v_ 10 = 0 → x_ = (if I_ 6 0 8 < I_ 5 v_ 12 then I_ 5 v_ 12 else I_ 6 0 8) + Int32.ofNat n_) ∧ (¬ I_ 5 v_ 10 = 0 → ∀ s_ l, L_ 24 v_ = s_ :: l → x_ = I_ 4 s_ 4 + Int32.ofNat n_) ∧ zLw I' L' M_ t_ y_ bus j_)) := by
  obtain ⟨⟨D_, hR, et⟩, hxs, hrb, h6⟩ := h_.1
  have h1 : (1 : Int32) ≤ Int32.ofNat n_ ∧ Int32.ofNat n_ ≤ 60 := ⟨(zile (a := 1) (by omega) (by omega)).mpr hn.1, (zile (b := 60) (by omega) (by omega)).mpr hn.2⟩
  have iN_ : (Int32.ofNat n_).toInt = (n_ : Int) := Int32.toInt_ofNat_of_lt (by omega)
  by_cases h10 : I_ 5 v_ 10 = 0
  · refine (zYm.ok (zm57f (zq21 hR hv) h1 (Or.inl h10)) ⟨fun _ => ?_, fun hh => absurd h10 hh, h_.fx ⟨fun c_ i_ f_ hc_ => zset_ne (by omega), fun r_ f_ _ _ => zset_ne (by omega)⟩ ((zset_ne (by omega)).trans h_.2.2.2.2.1) ⟨⟨_, zzsT2 hR hv, (zset_ne (by omega)).trans et⟩, fun w_ hw => (hxs w_ hw).cg rfl (fun q_ _ => zset_ne (by omega)), fun r_ hr1 => ?_, h6⟩⟩).mono (Nat.le_refl _) (Nat.zero_le _) (fun _ _ _ hq => hq)
    · congr 1
      by_cases ha_ : I_ 5 v_ 12 < I_ 6 0 8
      · rw [if_pos ha_, if_neg (Int32.not_lt.mpr (Int32.le_of_lt ha_))]
      · rw [if_neg ha_]
        by_cases hc_ : I_ 6 0 8 < I_ 5 v_ 12
        · rw [if_pos hc_]
        · rw [if_neg hc_]; exact Int32.le_antisymm (Int32.not_lt.mp hc_) (Int32.not_lt.mp ha_)
    · rw [zset_ne (by omega), zset_ne (by omega)]; exact hrb r_ hr1
  · obtain ⟨s_, l, hl, _⟩ := (hR.2.2.2.1 v_ hv).2.1.1 h10
    refine (zYm.ok (zm57l (zq21 hR hv) h1 h10 hl) ⟨fun e_ => absurd e_ h10, fun _ s2_ l2 hl2 => ?_, h_.fx ⟨fun c_ i_ f_ hc_ => ?_, fun r_ f_ _ _ => ?_⟩ ?_ ⟨⟨_, zzsT1 hR hv h10 hl, ?_⟩, fun w_ hw => (hxs w_ hw).cg rfl (fun q_ _ => ?_), fun r_ hr1 => ?_, h6⟩⟩).mono (Nat.le_refl _) (Nat.zero_le _) (fun _ _ _ hq => hq)
    · rw [hl] at hl2
      injection hl2 with e_ _
      rw [e_]
    · rw [zset_ne (by omega), zset_ne (by omega)]
    · rw [zset_ne (by omega), zset_ne (by omega)]
    · rw [zset_ne (by omega), zset_ne (by omega)]; exact h_.2.2.2.2.1
    · rw [zset_ne (by omega), zset_ne (by omega)]; exact et
    · rw [zset_ne (by omega), zset_ne (by omega)]
    · rw [zset_ne (by omega), zset_ne (by omega), zset_ne (by omega), zset_ne (by omega)]; exact hrb r_ hr1
end
