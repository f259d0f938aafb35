/-! THE LAW'S STATE: cancel, mend -/
section
variable {I_ I' : zIn} {L_ L' : zLi} {M_ t_ t' y_ y' bus j_ v_ : Nat} {s_ : Int32}
/-- cancel -/
theorem zc49 (h_ : zLw I_ L_ M_ t_ y_ bus j_) {r_ : Nat} (hr : r_ < M_) {B_ C_ D_ : Int32} : zYm 15 122 [zwR 6 0, zwI 1, zwI (Int32.ofNat r_), zwI B_, zwI C_, zwI D_] I_ L_ 60 (zOkI (fun x_ I' L' => zLw I' L' M_ t_ y_ bus j_ ∧ (¬ I_ 1 r_ 5 = 0 → x_ = -1003) ∧ (I_ 1 r_ 5 = 0 → ∀ v_, v_ < 2 → I_ 1 r_ 8 = Int32.ofNat v_ → (zlef I_ L_ v_ r_ = true → x_ = -1003) ∧ (zlef I_ L_ v_ r_ = false → x_ = (if I_ 1 r_ 7 - I_ 6 0 8 < 60 then 1 else 0) ∧ I' 1 r_ 5 = 4)))) := by
  obtain ⟨⟨D_, hR, et⟩, hxs, hrb, h6⟩ := h_.1
  have hs := zq22 hR hr
  by_cases h0 : I_ 1 r_ 5 = 0
  · obtain ⟨v_, hv, e8, e11_, m1_, m2_, m3_, _⟩ := zzst0 hR hr h0
    have hvv : ∀ w_, w_ < 2 → I_ 1 r_ 8 = Int32.ofNat w_ → w_ = v_ := fun w_ hw hw8 => (zof_eq (by omega) (by omega)).mp (hw8.symm.trans e8)
    cases hlf : zlef I_ L_ v_ r_ with
    | true =>
      refine (za122x (za121bx (zm49b hs h0 e8 (zq21 hR hv) hlf))).mono (Nat.le_refl _) (Nat.le_refl _) (fun q_ I2_ L2_ hq => ?_)
      obtain ⟨rfl, rfl, rfl⟩ := hq
      refine ⟨_, rfl, h_, fun _ => rfl, fun _ w_ hw hw8 => ?_⟩
      rw [hvv w_ hw hw8, hlf]
      exact ⟨fun _ => rfl, fun e_ => by cases e_⟩
    | false =>
      obtain ⟨d_, _, d2_, d3_⟩ := zztoX (r_ := r_) (hR.2.2.2.1 v_ hv).2.2.1 m2_
      obtain ⟨R2, _, _, _⟩ := zzsC hR hr h0 hv e8 hlf d3_ d2_
      have hc_ := zm49t hs h0 e8 (zq21 hR hv) hlf
      rw [zzko_all] at hc_
      have nC : ∀ c_ i_ f_, ¬ (c_ = 1 ∧ (f_ = 5 ∨ f_ = 14)) → zcnI I_ r_ c_ i_ f_ = I_ c_ i_ f_ := fun c_ i_ f_ hh => by
        unfold zcnI
        rw [zset_ne (by omega), zset_ne (by omega)]
      have e5_ : zcnI I_ r_ 1 r_ 5 = 4 := by
        unfold zcnI
        rw [zset_ne (by omega), zset_is]
      have ez : znos (zcnI I_ r_ 1 r_) = decide (I_ 1 r_ 7 - I_ 6 0 8 < 60) := by
        unfold znos
        rw [e5_]
        unfold zcnI
        rw [zset_is, zset_ne (show ¬ (1 = 1 ∧ r_ = r_ ∧ 7 = 5) by omega), zset_ne (show ¬ (6 = 1 ∧ 0 = r_ ∧ 8 = 5) by omega)]
        by_cases hq : I_ 1 r_ 7 - I_ 6 0 8 < 60
        · rw [if_pos hq, decide_eq_true hq]; rfl
        · rw [if_neg hq, decide_eq_false hq]; rfl
      have key_ : zOkI (fun x_ I' L' => zLw I' L' M_ t_ y_ bus j_ ∧ (¬ I_ 1 r_ 5 = 0 → x_ = -1003) ∧ (I_ 1 r_ 5 = 0 → ∀ v_, v_ < 2 → I_ 1 r_ 8 = Int32.ofNat v_ → (zlef I_ L_ v_ r_ = true → x_ = -1003) ∧ (zlef I_ L_ v_ r_ = false → x_ = (if I_ 1 r_ 7 - I_ 6 0 8 < 60 then 1 else 0) ∧ I' 1 r_ 5 = 4))) (.inl (some (zwI (if znos (zcnI I_ r_ 1 r_) = true then 1 else 0)))) (zcnI I_ r_) (zlup L_ 24 v_ (zzwo r_ (L_ 24 v_))) := by
        refine ⟨_, rfl, h_.fx ⟨fun c_ i_ f_ hc_ => nC c_ i_ f_ (by omega), fun q_ f_ _ hf => nC 1 q_ f_ (by omega)⟩ ((nC 6 0 7 (by omega)).trans h_.2.2.2.2.1) ⟨⟨_, R2, (zqnow R2).symm.trans ((nC 6 0 8 (by omega)).trans ((zqnow hR).trans et))⟩, fun w_ hw => (hxs w_ hw).cg (zlup_ne (by omega)) (fun q_ _ => nC 1 q_ 11 (by omega)), fun q_ hq => ?_, h6⟩, fun hh => absurd h0 hh, fun _ w_ hw hw8 => ?_⟩
        · rw [nC 1 q_ 7 (by omega), nC 1 q_ 11 (by omega)]; exact hrb q_ hq
        · rw [hvv w_ hw hw8, hlf]
          refine ⟨fun e_ => Bool.noConfusion e_, fun _ => ⟨?_, e5_⟩⟩
          rw [ez]
          by_cases hq : I_ 1 r_ 7 - I_ 6 0 8 < 60
          · rw [if_pos hq, decide_eq_true hq]; rfl
          · rw [if_neg hq, decide_eq_false hq]; rfl
      refine (za122 (za121b (hc_.mono (Nat.le_refl _) (Nat.le_refl _) (Q_ := zOkI (fun x_ I' L' => (x_ = 0 ∨ x_ = 1) ∧ (zLw I' L' M_ t_ y_ bus j_ ∧ (¬ I_ 1 r_ 5 = 0 → x_ = -1003) ∧ (I_ 1 r_ 5 = 0 → ∀ v_, v_ < 2 → I_ 1 r_ 8 = Int32.ofNat v_ → (zlef I_ L_ v_ r_ = true → x_ = -1003) ∧ (zlef I_ L_ v_ r_ = false → x_ = (if I_ 1 r_ 7 - I_ 6 0 8 < 60 then 1 else 0) ∧ I' 1 r_ 5 = 4))))) (fun q_ I2_ L2_ hq => ?_)) (fun x_ I2_ L2_ hx => hx.1))).mono (Nat.le_refl _) (Nat.zero_le _) (fun q_ I2_ L2_ hq => ?_)
      · obtain ⟨rfl, rfl, rfl⟩ := hq
        obtain ⟨x_, e_, hx⟩ := key_
        refine ⟨x_, e_, ?_, hx⟩
        injection e_ with e_
        injection e_ with e_
        injection e_ with e_
        rw [← e_]
        split
        · exact Or.inr rfl
        · exact Or.inl rfl
      · obtain ⟨x_, e_, _, hx⟩ := hq
        exact ⟨x_, e_, hx⟩
  · refine (za122x (za121bx (zm49a hs h0))).mono (Nat.le_refl _) (Nat.le_refl _) (fun q_ I2_ L2_ hq => ?_)
    obtain ⟨rfl, rfl, rfl⟩ := hq
    exact ⟨_, rfl, h_, fun _ => rfl, fun e_ => absurd e_ h0⟩
end
