/-! MATHEMATICS: the search over places and vehicles; put -/
theorem zzN2 {C0_ D_ : zIn} {L0_ : zLi} {N_ r_ v_ : Nat} {x_ w_ : Int32} {Z_ : List Nat} (hW : zzW C0_ D_ L0_ N_ r_ x_ Z_) (hv : v_ < N_) (h14 : (L0_ 24 v_).length ≤ 14) (hC : zlkC D_ v_ r_ = true) : ∀ (n_ i_ : Nat) (C_ : zIn) (L_ : zLi) (K_ : zIn), n_ + i_ = (L0_ 24 v_).length + 1 → zlkF D_ v_ ≤ i_ → zzcf C_ C0_ Z_ → zzg K_ D_ → zzbs C_ K_ C0_ D_ L0_ N_ r_ → L_ 24 v_ = L0_ 24 v_ → L_ 26 v_ = L0_ 26 v_ → zzcf (zin2 v_ (2 * r_) (2 * r_ + 1) x_ w_ (L0_ 24 v_) n_ i_ C_ L_).1 C0_ Z_ ∧ zzg (zlkP v_ (L0_ 24 v_) r_ (zchl C0_ (L0_ 26 v_)).length w_ n_ i_ K_) D_ ∧ zzbs (zin2 v_ (2 * r_) (2 * r_ + 1) x_ w_ (L0_ 24 v_) n_ i_ C_ L_).1 (zlkP v_ (L0_ 24 v_) r_ (zchl C0_ (L0_ 26 v_)).length w_ n_ i_ K_) C0_ D_ L0_ N_ r_
  | 0, i_, C_, L_, K_, hi_, hf, hc_, hk, hb_, h24, h26 => ⟨hc_, hk, hb_⟩
  | n_ + 1, i_, C_, L_, K_, hi_, hf, hc_, hk, hb_, h24, h26 => by
    unfold zin2 zlkP
    obtain ⟨a1_, a2, a3⟩ := zzN1 (w_ := w_) hW hv h14 hC hf (by omega) ((L0_ 24 v_).length + 1 - i_) (i_ + 1) C_ (zlup L_ 24 v_ (zins i_ (2 * r_) (L0_ 24 v_))) K_ (by omega) (by omega) hc_ hk hb_ zlup_self (by rw [zlup_ne (by simp)]; exact h26)
    refine zzN2 hW hv h14 hC n_ (i_ + 1) _ _ _ (by omega) (by omega) a1_ a2 a3 zlup_self ?_
    rw [zlup_ne (by simp), (zin1_ne _ _ _ _ zlup_self).2 26 v_ (by simp) (by simp), zlup_ne (by simp)]
    exact h26
theorem zzN3 {C0_ D_ C_ K_ : zIn} {L0_ L_ : zLi} {N_ r_ v_ : Nat} {x_ : Int32} {Z_ : List Nat} (hW : zzW C0_ D_ L0_ N_ r_ x_ Z_) (hv : v_ < N_) (hc_ : zzcf C_ C0_ Z_) (hk : zzg K_ D_) (hb_ : zzbs C_ K_ C0_ D_ L0_ N_ r_) (h24 : L_ 24 v_ = L0_ 24 v_) (h26 : L_ 26 v_ = L0_ 26 v_) : zzcf (ztr1 C_ L_ v_ (2 * r_) (2 * r_ + 1) x_).1 C0_ Z_ ∧ zzg (zlkA K_ v_ (L0_ 24 v_) r_ (zchl C0_ (L0_ 26 v_)).length) D_ ∧ zzbs (ztr1 C_ L_ v_ (2 * r_) (2 * r_ + 1) x_).1 (zlkA K_ v_ (L0_ 24 v_) r_ (zchl C0_ (L0_ 26 v_)).length) C0_ D_ L0_ N_ r_ := by
  have hW2 := hW
  obtain ⟨w1_, w2_, w3_, w4_, w5, w6_, w7_, w8⟩ := hW2
  have hty : zzg (ztry K_ v_ (L0_ 24 v_).length) D_ := ((zfz.try zfz.rfl).zg).trans hk
  have hb2 : zzbs C_ (ztry K_ v_ (L0_ 24 v_).length) C0_ D_ L0_ N_ r_ := hb_.of (fun _ => rfl) (fun f_ hf => ztry_ne (by simp) (by simp [hf]))
  have hH0 := w2_ v_ hv
  have e9_ : C_ 5 v_ 9 = C0_ 5 v_ 9 := hc_.a5 v_ 9
  have e4_ : C_ 5 v_ 4 = C0_ 5 v_ 4 := hc_.a5 v_ 4
  have er : C_ 1 r_ 0 = C0_ 1 r_ 0 := hc_.a1 r_ (by decide)
  have hmay : zmay C_ L_ v_ (C_ 1 (2 * r_ / 2) 0).toNatClampNeg = true ↔ (zlkC K_ v_ r_ = true ∧ (L0_ 24 v_).length ≤ 14) := by
    unfold zmay zlkC
    rw [show 2 * r_ / 2 = r_ by omega, er, hc_.a2, hc_.a2, e9_, e4_, h24, w6_.1, w6_.2, (w5 v_ hv).2, hk.kd, hk.rd, hk.a1, hk.at _ (by decide), hk.at _ (by decide)]
    have e_ : decide (¬ C0_ 5 v_ 9 = 0) = decide (¬ D_ 31 16 v_ = 0) := decide_eq_decide.mpr (not_congr (w5 v_ hv).1)
    rw [e_, Bool.and_eq_true]
    constructor
    · intro h_
      exact ⟨h_.1, by have := of_decide_eq_true h_.2; omega⟩
    · intro h_
      exact ⟨h_.1, decide_eq_true (by omega)⟩
  have hCD : zlkC K_ v_ r_ = zlkC D_ v_ r_ := by
    unfold zlkC
    rw [hk.kd, hk.rd, hk.a1, hk.at _ (by decide), hk.at _ (by decide)]
  have hFD : zlkF K_ v_ = zlkF D_ v_ := by unfold zlkF; rw [hk.a1]
  have hfo : zfo C_ v_ = zlkF D_ v_ := by
    unfold zfo zlkF
    rw [hc_.a5]
    by_cases e_ : C0_ 5 v_ 10 = 0
    · rw [if_pos e_, if_pos (hH0.1.2.2.2.2.2.1.mp e_)]
    · rw [if_neg e_, if_neg (fun e2_ => e_ (hH0.1.2.2.2.2.2.1.mpr e2_))]
  unfold ztr1 zlkA
  by_cases hm_ : zmay C_ L_ v_ (C_ 1 (2 * r_ / 2) 0).toNatClampNeg = true
  · obtain ⟨m1_, m2_⟩ := hmay.mp hm_
    rw [if_pos hm_, if_pos ⟨m1_, m2_⟩, h24, hFD, hfo]
    have hbf : zdrv C_ (L0_ 24 v_) (C_ 5 v_ 11) (C_ 5 v_ 1) = zlkG (ztry K_ v_ (L0_ 24 v_).length) v_ (L0_ 24 v_) := by
      unfold zlkG
      rw [hc_.a5, hc_.a5, hH0.1.2.2.2.1, hH0.1.1]
      rw [zzdr (fun s_ hs => hc_.cs (w3_ v_ hv s_ hs)) hH0.1.2.2.2.2.2.2.1 hH0.1.2.2.2.2.2.2.2]
      rw [hty.at v_ (i_ := 17) (by decide), hty.at v_ (i_ := 12) (by decide)]
      unfold zdm
      have : ∀ (l : List Nat) (p_ w_ : Int32), zkm (ztry K_ v_ (L0_ 24 v_).length) l p_ w_ = zkm D_ l p_ w_ := by
        intro l
        induction l with
        | nil => intro p_ w_; rfl
        | cons s_ l ih_ =>
          intro p_ w_
          unfold zkm
          rw [hty.pl, ih_]
      rw [this]
    rw [hbf]
    have hfl : zlkF D_ v_ ≤ (L0_ 24 v_).length + 1 := by unfold zlkF; split <;> omega
    exact zzN2 hW hv m2_ (by rw [← hCD]; exact m1_) _ _ _ _ _ (by omega) (Nat.le_refl _) hc_ hty hb2 h24 h26
  · rw [if_neg hm_, if_neg (fun e_ => hm_ (hmay.mpr e_))]
    exact ⟨hc_, hty, hb2⟩
theorem zzN4 {C0_ D_ : zIn} {L0_ : zLi} {N_ r_ : Nat} {x_ : Int32} {Z_ : List Nat} (hW : zzW C0_ D_ L0_ N_ r_ x_ Z_) : ∀ (n_ v_ : Nat) (C_ : zIn) (L_ : zLi) (K_ : zIn), n_ + v_ = N_ → zzcf C_ C0_ Z_ → zzg K_ D_ → zzbs C_ K_ C0_ D_ L0_ N_ r_ → (∀ c_ u_, ¬ (c_ = 27 ∧ u_ < N_) → L_ c_ u_ = L0_ c_ u_) → zzcf (zptl (2 * r_) (2 * r_ + 1) x_ ((List.range N_).drop v_) C_ L_).1 C0_ Z_ ∧ zzg (zpuV (fun v_ => L0_ 24 v_) (fun v_ => (zchl C0_ (L0_ 26 v_)).length) r_ n_ v_ K_) D_ ∧ zzbs (zptl (2 * r_) (2 * r_ + 1) x_ ((List.range N_).drop v_) C_ L_).1 (zpuV (fun v_ => L0_ 24 v_) (fun v_ => (zchl C0_ (L0_ 26 v_)).length) r_ n_ v_ K_) C0_ D_ L0_ N_ r_
  | 0, v_, C_, L_, K_, hv, hc_, hk, hb_, hL => by
    rw [List.drop_of_length_le (by rw [List.length_range]; omega)]
    exact ⟨hc_, hk, hb_⟩
  | n_ + 1, v_, C_, L_, K_, hv, hc_, hk, hb_, hL => by
    have hs : (List.range N_)[v_]? = some v_ := List.getElem?_range (by omega)
    rw [zdrop_cons hs]
    unfold zptl zpuV
    obtain ⟨a1_, a2, a3⟩ := zzN3 hW (v_ := v_) (by omega) hc_ hk hb_ (hL 24 v_ (by simp)) (hL 26 v_ (by simp))
    exact zzN4 hW n_ (v_ + 1) _ _ _ (by omega) a1_ a2 a3 (fun c_ u_ h_ => (ztr1_ne (fun e_ => h_ ⟨e_.1, by omega⟩)).trans (hL c_ u_ h_))
theorem zzptl_ne {p_ t_ N_ : Nat} {x_ : Int32} {c_ u_ : Nat} (h_ : ¬ (c_ = 27 ∧ u_ < N_)) : ∀ (l : List Nat) (I_ : zIn) (L_ : zLi), (∀ w_ ∈ l, w_ < N_) → (zptl p_ t_ x_ l I_ L_).2 c_ u_ = L_ c_ u_
  | [], _, _, _ => rfl
  | v_ :: r_, I_, L_, hl => by
    unfold zptl
    rw [zzptl_ne h_ r_ _ _ (fun w_ hw => hl w_ (List.mem_cons_of_mem _ hw))]
    have hv := hl v_ List.mem_cons_self
    exact ztr1_ne (fun e_ => h_ ⟨e_.1, by omega⟩)
theorem zcl4 {b_ : Nat} (hb_ : b_ < 1000) : (Int32.ofNat (b_ + 1)).toNatClampNeg - 1 = b_ := by
  rw [zicl (by omega)]; omega
/-- put: alike in class and model -/
theorem zzPut {C_ C0_ K_ D_ : zIn} {L_ L0_ : zLi} {N_ r_ : Nat} {x_ : Int32} {Z_ : List Nat} (hW : zzW C0_ D_ L0_ N_ r_ x_ Z_) (h21 : L0_ 21 0 = List.range N_) (hc_ : zzcf C_ C0_ Z_) (hk : zfz K_ D_) (hL : ∀ c_ u_, ¬ (c_ = 27 ∧ u_ < N_) → L_ c_ u_ = L0_ c_ u_) :
    ((zpb C_ L_ (2 * r_) (2 * r_ + 1) x_).1 = false ∧ (zputA K_ N_ (fun v_ => L0_ 24 v_) (fun v_ => (zchl C0_ (L0_ 26 v_)).length) r_).1 = false ∧ zzcf (zpb C_ L_ (2 * r_) (2 * r_ + 1) x_).2.1 C0_ Z_ ∧ (∀ c_ u_, ¬ (c_ = 27 ∧ u_ < N_) → (zpb C_ L_ (2 * r_) (2 * r_ + 1) x_).2.2 c_ u_ = L0_ c_ u_) ∧ zfz (zputA K_ N_ (fun v_ => L0_ 24 v_) (fun v_ => (zchl C0_ (L0_ 26 v_)).length) r_).2 D_) ∨
    ∃ b_ p_ d_, b_ < N_ ∧ zlkF D_ b_ ≤ p_ ∧ p_ ≤ (L0_ 24 b_).length ∧ p_ < d_ ∧ d_ ≤ (L0_ 24 b_).length + 1 ∧ (L0_ 24 b_).length ≤ 14 ∧ zlkC D_ b_ r_ = true ∧ zzrt D_ b_ (zlkL (L0_ 24 b_) r_ p_ d_) (zchl C0_ (L0_ 26 b_)) = true ∧
      (zpb C_ L_ (2 * r_) (2 * r_ + 1) x_).1 = true ∧ (zputA K_ N_ (fun v_ => L0_ 24 v_) (fun v_ => (zchl C0_ (L0_ 26 v_)).length) r_).1 = true ∧
      zzcf (zpb C_ L_ (2 * r_) (2 * r_ + 1) x_).2.1 (zset C0_ 1 r_ 8 (Int32.ofNat b_)) Z_ ∧ (zpb C_ L_ (2 * r_) (2 * r_ + 1) x_).2.2 24 b_ = zlkL (L0_ 24 b_) r_ p_ d_ ∧ (∀ c_ u_, ¬ (c_ = 27 ∧ u_ < N_) → ¬ (c_ = 24 ∧ u_ = b_) → (zpb C_ L_ (2 * r_) (2 * r_ + 1) x_).2.2 c_ u_ = L0_ c_ u_) ∧
      ∃ J_, zfz J_ D_ ∧ (zputA K_ N_ (fun v_ => L0_ 24 v_) (fun v_ => (zchl C0_ (L0_ 26 v_)).length) r_).2 = zpuW J_ (fun v_ => L0_ 24 v_) r_ b_ p_ d_ := by
  have hi_ : zzbs (zset C_ 3 0 0 0) (zset K_ 7 0 48 (-1)) C0_ D_ L0_ N_ r_ := Or.inl ⟨zset_is, zset_is⟩
  have hfz0 : zfz (zset K_ 7 0 48 (-1)) D_ := hk.set (by decide) (by decide)
  obtain ⟨a1_, a2, a3⟩ := zzN4 hW N_ 0 (zset C_ 3 0 0 0) L_ (zset K_ 7 0 48 (-1)) (by omega) hc_.set3 hfz0.zg hi_ hL
  rw [List.drop_zero] at a1_ a3
  have hKz : zfz (zpuV (fun v_ => L0_ 24 v_) (fun v_ => (zchl C0_ (L0_ 26 v_)).length) r_ N_ 0 (zset K_ 7 0 48 (-1))) D_ := (zpuV_fz N_ 0 _).trans hfz0
  have h21' : L_ 21 0 = List.range N_ := (hL 21 0 (by simp)).trans h21
  unfold zpb zputA zpuE
  rw [h21']
  rcases a3 with ⟨h1, h2⟩ | ⟨b_, p_, d_, hb_, h1, h2, h3, h4, h5, h6, h7, h8, h9, h10, h11, h12, h13, h14⟩
  · rw [if_pos h1, if_pos h2]
    exact Or.inl ⟨rfl, rfl, a1_, fun c_ u_ h_ => (zzptl_ne h_ _ _ _ (fun w_ hw => List.mem_range.mp hw)).trans (hL c_ u_ h_), hKz⟩
  · have hN_ := hW.1
    have n1_ : ¬ (zptl (2 * r_) (2 * r_ + 1) x_ (List.range N_) (zset C_ 3 0 0 0) L_).1 3 0 0 = 0 := by
      rw [h1]; exact fun e_ => absurd ((zof_0 (by omega)).mp e_) (by omega)
    have n2_ : ¬ zpuV (fun v_ => L0_ 24 v_) (fun v_ => (zchl C0_ (L0_ 26 v_)).length) r_ N_ 0 (zset K_ 7 0 48 (-1)) 7 0 48 = -1 := by rw [h2]; exact zzm1 (by omega)
    rw [if_neg n1_, if_neg n2_]
    refine Or.inr ⟨b_, p_, d_, hb_, h8, h9, h10, h11, h12, h13, h14, rfl, rfl, ?_, ?_, ?_, _, hKz, ?_⟩
    · show zzcf (zset _ 1 (2 * r_ / 2) 8 _) _ Z_
      rw [h1, zcl4 (by omega), show 2 * r_ / 2 = r_ by omega]
      refine ⟨fun c_ i_ f_ h_ => ?_, fun s_ hs f_ => ?_⟩
      · by_cases e_ : c_ = 1 ∧ i_ = r_ ∧ f_ = 8
        · obtain ⟨rfl, rfl, rfl⟩ := e_
          rw [zset_is, zset_is]
        · rw [zset_ne e_, zset_ne e_]
          exact a1_.1 c_ i_ f_ h_
      · rw [zset_ne (by simp), zset_ne (by simp)]
        exact a1_.2 s_ hs f_
    · show zlup _ 24 _ _ 24 b_ = _
      rw [h1, zcl4 (by omega), zlup_self, h4, h6, zicl (by omega), zicl (by omega), hL 24 b_ (by simp)]
      unfold zlkL
      rw [zzins p_ _ h9, zzins d_ _ (by rw [List.length_insertIdx_of_le_length h9]; exact h11)]
    · intro c_ u_ hc1 hc2
      show zlup _ 24 _ _ c_ u_ = _
      rw [h1, zcl4 (by omega), zlup_ne hc2]
      exact (zzptl_ne hc1 _ _ _ (fun w_ hw => List.mem_range.mp hw)).trans (hL c_ u_ hc1)
    · show zpuW _ _ r_ _ _ _ = zpuW _ _ r_ b_ p_ d_
      rw [h2, h5, h7, zicl (by omega), zicl (by omega), zicl (by omega)]

