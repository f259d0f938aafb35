/-! THE LAW'S STATE: ask -/
theorem zpm_h : ∀ k_, k_ < 13 → (Int32.ofNat k_ + 1) / 2 = Int32.ofNat ((k_ + 1) / 2) := by decide +kernel
/-- a minute that was promised -/
def zpmO (t_ m_ : Nat) (x_ : Int32) : Prop := ∃ n_ c_, x_ = Int32.ofNat n_ ∧ t_ < n_ ∧ n_ ≤ 600 ∧ c_ ≤ 6 ∧ n_ - m_ + (m_ - n_) = 10 * c_
theorem zpm_of {t_ m_ k_ : Nat} (ht : t_ ≤ 600) (hm_ : m_ ≤ 600) (hk : k_ < 13) (h1 : Int32.ofNat t_ < zpmt (Int32.ofNat m_) k_) (h2 : zpmt (Int32.ofNat m_) k_ ≤ 600) : zpmO t_ m_ (zpmt (Int32.ofNat m_) k_) := by
  have e10_ : 10 * ((Int32.ofNat k_ + 1) / 2) = Int32.ofNat (10 * ((k_ + 1) / 2)) := by rw [zpm_h k_ hk, Int32.ofNat_mul]; rfl
  unfold zpmt at h1 h2 ⊢
  rw [e10_] at h1 h2 ⊢
  split at h1
  · rename_i hc_
    rw [if_pos hc_] at h2 ⊢
    have ea : Int32.ofNat m_ + Int32.ofNat (10 * ((k_ + 1) / 2)) = Int32.ofNat (m_ + 10 * ((k_ + 1) / 2)) := (Int32.ofNat_add _ _).symm
    rw [ea] at h1 h2 ⊢
    exact ⟨_, (k_ + 1) / 2, rfl, (zilt (by omega) (by omega)).mp h1, (zile (b := 600) (by omega) (by omega)).mp h2, by omega, by omega⟩
  · rename_i hc_
    rw [if_neg hc_] at h2 ⊢
    have hle : 10 * ((k_ + 1) / 2) ≤ m_ := by
      have i1_ : (Int32.ofNat m_).toInt = (m_ : Int) := Int32.toInt_ofNat_of_lt (by omega)
      have i2_ : (Int32.ofNat (10 * ((k_ + 1) / 2))).toInt = ((10 * ((k_ + 1) / 2) : Nat) : Int) := Int32.toInt_ofNat_of_lt (by omega)
      have i3_ : (Int32.ofNat t_).toInt = (t_ : Int) := Int32.toInt_ofNat_of_lt (by omega)
      rw [Int32.lt_iff_toInt_lt, Int32.toInt_sub, i1_, i2_, i3_, Int.bmod_eq_of_le (by omega) (by omega)] at h1
      omega
    have ea : Int32.ofNat m_ - Int32.ofNat (10 * ((k_ + 1) / 2)) = Int32.ofNat (m_ - 10 * ((k_ + 1) / 2)) := (Int32.ofNat_sub _ _ hle).symm
    rw [ea] at h1 h2 ⊢
    exact ⟨_, (k_ + 1) / 2, rfl, (zilt (by omega) (by omega)).mp h1, (zile (b := 600) (by omega) (by omega)).mp h2, by omega, by omega⟩
section
variable {I_ I' : zIn} {L_ L' : zLi} {M_ t_ t' y_ y' bus j_ v_ p_ a_ b_ m_ : Nat} {s_ : Int32}
def zdnR (I_ : zIn) (M_ : Nat) (w_ : Int32) : Prop := I_ 1 M_ 6 = w_ ∧ I_ 1 M_ 5 = 6 ∧ I_ 1 M_ 7 = -1
/-- what a request gets -/
def zakO (I_ : zIn) (L_ : zLi) (M_ t_ p_ a_ b_ m_ : Nat) (I' : zIn) : Prop := (zowd I_ p_ (Int32.ofNat a_) (Int32.ofNat b_) = false ∧ zdnR I' M_ 1) ∨ (zowd I_ p_ (Int32.ofNat a_) (Int32.ofNat b_) = true ∧ zsus I_ L_ p_ = true ∧ zdnR I' M_ 2) ∨ (zowd I_ p_ (Int32.ofNat a_) (Int32.ofNat b_) = true ∧ zsus I_ L_ p_ = false ∧ (zdnR I' M_ 3 ∨ (I' 1 M_ 6 = 0 ∧ I' 1 M_ 5 = 0 ∧ zpmO t_ m_ (I' 1 M_ 7))))
theorem zcb_cg {C_ C0_ : zIn} (h_ : ∀ f_, C_ 31 0 f_ = C0_ 31 0 f_) (x_ : Int32) : ∀ (n_ k_ : Nat) (z_ : Int32), znb C_ x_ n_ k_ z_ = znb C0_ x_ n_ k_ z_
  | 0, _, _ => rfl
  | n_ + 1, k_, z_ => by
    unfold znb
    rw [h_, zcb_cg h_ x_ n_]
theorem zcnt_cg {f_ g_ : Nat → Bool} : ∀ (l : List Nat) (x_ : Int32), (∀ q_ ∈ l, f_ q_ = g_ q_) → zcnt f_ l x_ = zcnt g_ l x_
  | [], _, _ => rfl
  | q_ :: l, x_, h_ => by
    unfold zcnt
    rw [h_ q_ List.mem_cons_self, zcnt_cg l _ (fun r_ hr => h_ r_ (List.mem_cons_of_mem _ hr))]
theorem zaqI_k {c_ i_ f_ : Nat} {x_ z_ : Int32} (h_ : ¬ (c_ = 1 ∧ i_ = M_)) (h99 : ¬ (c_ = 99 ∧ i_ = 1)) : zaqI I_ M_ p_ x_ z_ c_ i_ f_ = I_ c_ i_ f_ := by
  unfold zaqI znwI
  by_cases hc_ : c_ = 99
  · rw [if_pos hc_, if_neg (by omega), hc_]
  · rw [if_neg hc_, if_neg h_]
theorem zps_k {c_ i_ f_ : Nat} (h_ : ¬ c_ = 4) (h99 : ¬ (c_ = 99 ∧ i_ = 4)) : zps I_ M_ c_ i_ f_ = I_ c_ i_ f_ := by
  unfold zps zps1 znwI
  by_cases hc_ : c_ = 99
  · rw [if_pos hc_, if_neg (by omega), if_pos rfl, if_neg (by omega), hc_]
  · rw [if_neg hc_, if_neg (by omega), if_neg hc_, if_neg (by omega)]
theorem zdny_k {c_ i_ f_ : Nat} {x_ : Int32} (h_ : ¬ (c_ = 1 ∧ i_ = M_ ∧ (f_ = 5 ∨ f_ = 6 ∨ f_ = 7))) : zdny I_ M_ x_ c_ i_ f_ = I_ c_ i_ f_ := by
  unfold zdny
  rw [zset_ne (by omega), zset_ne (by omega), zset_ne (by omega)]
theorem zdny_r {x_ : Int32} : zdnR (zdny I_ M_ x_) M_ x_ := by
  unfold zdnR zdny
  refine ⟨?_, ?_, zset_is⟩
  · rw [zset_ne (by omega), zset_is]
  · rw [zset_ne (by omega), zset_ne (by omega), zset_is]
theorem zas1_k {c_ i_ f_ : Nat} {x_ z_ w_ : Int32} (hx : zxq c_ i_ f_) (h4 : ¬ c_ = 4) (h99 : ¬ (c_ = 99 ∧ i_ = 4)) (h1 : ¬ (c_ = 1 ∧ i_ = M_ ∧ (f_ = 5 ∨ f_ = 6 ∨ f_ = 7 ∨ f_ = 8))) : (zas1 I_ L_ M_ p_ x_ z_ w_).1 c_ i_ f_ = I_ c_ i_ f_ := by
  unfold zas1
  split
  · split
    · exact zdny_k (by omega)
    · split
      · rw [zprl_q hx (by omega), zps_k h4 h99]
      · dsimp only
        rw [zdny_k (by omega), zprl_q hx (by omega), zps_k h4 h99]
  · exact zdny_k (by omega)
theorem zas1_26 {u_ : Nat} {x_ z_ w_ : Int32} : (zas1 I_ L_ M_ p_ x_ z_ w_).2 26 u_ = L_ 26 u_ := by
  unfold zas1
  split
  · split
    · rfl
    · split
      · exact zprl_ne (by omega) (by omega) _ _ _ _
      · exact zprl_ne (by omega) (by omega) _ _ _ _
  · rfl
theorem zask_k {c_ i_ f_ : Nat} {x_ z_ w_ : Int32} (hx : zxq c_ i_ f_) (h4 : ¬ c_ = 4) (h99 : ¬ (c_ = 99 ∧ (i_ = 4 ∨ i_ = 1))) (h1 : ¬ (c_ = 1 ∧ i_ = M_)) : (zask I_ L_ M_ p_ x_ z_ w_).1 c_ i_ f_ = I_ c_ i_ f_ := by
  show (zas1 (zaqI I_ M_ p_ x_ z_) L_ M_ p_ x_ z_ w_).1 c_ i_ f_ = _
  rw [zas1_k hx h4 (by omega) (by omega), zaqI_k h1 (by omega)]
theorem zask_26 {u_ : Nat} {x_ z_ w_ : Int32} : (zask I_ L_ M_ p_ x_ z_ w_).2 26 u_ = L_ 26 u_ := by
  unfold zask
  dsimp only
  rw [zlup_ne (by omega), zas1_26]
theorem zowd_cg {x_ z_ : Int32} (hc_ : ∀ c_ i_ f_, c_ = 2 ∨ c_ = 31 ∨ c_ = 6 → I' c_ i_ f_ = I_ c_ i_ f_) : zowd I' p_ x_ z_ = zowd I_ p_ x_ z_ := by
  unfold zowd
  rw [zzcb_n (fun f_ => hc_ 31 0 f_ (by omega)), zcb_cg (fun f_ => hc_ 31 0 f_ (by omega)), zcb_cg (fun f_ => hc_ 31 0 f_ (by omega)), hc_ 6 0 6 (by omega), hc_ 2 p_ 0 (by omega), hc_ 2 p_ 2 (by omega)]
theorem zlyc_cg {z_ : Int32} {q_ : Nat} (hc_ : I' 6 0 7 = I_ 6 0 7) (hq : ∀ f_, I' 1 q_ f_ = I_ 1 q_ f_) : zlyc I' p_ z_ q_ = zlyc I_ p_ z_ q_ := by
  unfold zlyc zol znos
  rw [hc_, hq 0, hq 5, hq 3, hq 14]
theorem zsus_cg (hc_ : I' 6 0 7 = I_ 6 0 7) (hq : ∀ q_ ∈ L_ 22 0, ∀ f_, I' 1 q_ f_ = I_ 1 q_ f_) : zsus I' L_ p_ = zsus I_ L_ p_ := by
  unfold zsus
  rw [zcnt_cg _ _ (fun q_ h_ => zlyc_cg (z_ := 1) hc_ (hq q_ h_)), zcnt_cg _ _ (fun q_ h_ => zlyc_cg (z_ := 0) hc_ (hq q_ h_))]
theorem zc42 (h_ : zLw I_ L_ M_ t_ y_ bus j_) (hM_ : M_ < 60) (hp : p_ < 6) (ha_ : a_ < 36) (hb_ : b_ < 36) (hab : ¬ a_ = b_) (hm_ : m_ ≤ 600) : zYm 15 122 [zwR 6 0, zwI 0, zwI (Int32.ofNat p_), zwI (Int32.ofNat a_), zwI (Int32.ofNat b_), zwI (Int32.ofNat m_)] I_ L_ 200 (zOkI (fun x_ I' L' => x_ = Int32.ofNat M_ ∧ zJ I' L' (M_ + 1) t_ ∧ zFx I_ I' M_ ∧ I' 6 0 7 = Int32.ofNat y_ ∧ (I' 1 M_ 0 = Int32.ofNat p_ ∧ I' 1 M_ 1 = Int32.ofNat a_ ∧ I' 1 M_ 2 = Int32.ofNat b_ ∧ I' 1 M_ 3 = Int32.ofNat y_ ∧ I' 1 M_ 14 = 0) ∧ zakO I_ L_ M_ t_ p_ a_ b_ m_ I')) := by
  obtain ⟨⟨D_, hR, et⟩, hxs, hrb, h6⟩ := h_.1
  have en : I_ 6 0 8 = Int32.ofNat t_ := (zqnow hR).trans et
  have e22_ : L_ 22 0 = List.range M_ := hR.1.2.2.2.2.2.2.1
  have hs : (L_ 20 0)[p_]? = some p_ := by rw [hR.1.1]; exact List.getElem?_range hp
  have hq := hR.2.2.2.2.2.2.1 M_ (Nat.le_refl _)
  have hsb : zsbd2 L_ := fun u_ hu => by
    rw [hR.1.2.2.2.1, List.mem_range] at hu
    obtain ⟨l3, l4⟩ := zzA26 hR hu
    exact ⟨by omega, by omega, by omega⟩
  have hpl : ∀ k_, k_ < 36 → (0 : Int32) ≤ Int32.ofNat k_ ∧ Int32.ofNat k_ ≤ 35 := fun k_ hk => ⟨zige (by omega), (zile (b := 35) (by omega) (by omega)).mpr (by omega)⟩
  have hc_ := zm42t (w_ := Int32.ofNat m_) hs (hpl a_ ha_) (hpl b_ hb_) ⟨zige (by omega), (zile (b := 600) (by omega) (by omega)).mpr hm_⟩ (q_ := M_) (fun e_ => hab ((zof_eq (by omega) (by omega)).mp e_)) (by rw [e22_, List.length_range]; omega) (by omega) hq.1 hq.2.1 hq.2.2 hsb
  rw [e22_, List.length_range] at hc_
  have R2 := (zzsK (w_ := Int32.ofNat m_) hR (show p_ < 6 from hp) hM_ ha_ hb_).2.2.2.2
  have nK : ∀ c_ i_ f_, zxq c_ i_ f_ → ¬ c_ = 4 → ¬ (c_ = 99 ∧ (i_ = 4 ∨ i_ = 1)) → ¬ (c_ = 1 ∧ i_ = M_) → (zask I_ L_ M_ p_ (Int32.ofNat a_) (Int32.ofNat b_) (Int32.ofNat m_)).1 c_ i_ f_ = I_ c_ i_ f_ := fun c_ i_ f_ h1 h2 h3 h4 => zask_k h1 h2 h3 h4
  have nR : ∀ f_, ¬ f_ = 9 → ¬ (f_ = 5 ∨ f_ = 6 ∨ f_ = 7 ∨ f_ = 8) → (zask I_ L_ M_ p_ (Int32.ofNat a_) (Int32.ofNat b_) (Int32.ofNat m_)).1 1 M_ f_ = zrw [Int32.ofNat p_, Int32.ofNat a_, Int32.ofNat b_, I_ 6 0 7, 10 + 4 * zstp (Int32.ofNat a_) (Int32.ofNat b_), 0, 0, -1, -1, -1, -1, -1, -1, 0, 0] f_ := fun f_ h9 h5 => by
    show (zas1 (zaqI I_ M_ p_ (Int32.ofNat a_) (Int32.ofNat b_)) L_ M_ p_ (Int32.ofNat a_) (Int32.ofNat b_) (Int32.ofNat m_)).1 1 M_ f_ = _
    rw [zas1_k ⟨by omega, by omega, by omega, by omega⟩ (by omega) (by omega) (by omega)]
    unfold zaqI
    rw [znwI_is (by omega)]
  have e26_ : ∀ u_, (zask I_ L_ M_ p_ (Int32.ofNat a_) (Int32.ofNat b_) (Int32.ofNat m_)).2 26 u_ = L_ 26 u_ := fun u_ => zask_26
  have hO : zakO I_ L_ M_ t_ p_ a_ b_ m_ (zask I_ L_ M_ p_ (Int32.ofNat a_) (Int32.ofNat b_) (Int32.ofNat m_)).1 := by
    have eo : zowd (zaqI I_ M_ p_ (Int32.ofNat a_) (Int32.ofNat b_)) p_ (Int32.ofNat a_) (Int32.ofNat b_) = zowd I_ p_ (Int32.ofNat a_) (Int32.ofNat b_) := zowd_cg (fun c_ i_ f_ hc_ => zaqI_k (by omega) (by omega))
    have es : zsus (zaqI I_ M_ p_ (Int32.ofNat a_) (Int32.ofNat b_)) L_ p_ = zsus I_ L_ p_ := zsus_cg (zaqI_k (by omega) (by omega)) (fun q_ hq f_ => zaqI_k (by
      rw [e22_, List.mem_range] at hq
      omega) (by omega))
    show zakO I_ L_ M_ t_ p_ a_ b_ m_ (zas1 (zaqI I_ M_ p_ (Int32.ofNat a_) (Int32.ofNat b_)) L_ M_ p_ (Int32.ofNat a_) (Int32.ofNat b_) (Int32.ofNat m_)).1
    unfold zakO zas1
    rw [eo, es]
    cases ho : zowd I_ p_ (Int32.ofNat a_) (Int32.ofNat b_) with
    | false =>
      rw [if_neg (by decide)]
      exact Or.inl ⟨rfl, zdny_r⟩
    | true =>
      rw [if_pos rfl]
      cases hz : zsus I_ L_ p_ with
      | true =>
        rw [if_pos rfl]
        exact Or.inr (Or.inl ⟨rfl, rfl, zdny_r⟩)
      | false =>
        rw [if_neg (by decide)]
        refine Or.inr (Or.inr ⟨rfl, rfl, ?_⟩)
        by_cases hpr : (zprl M_ (Int32.ofNat m_) 13 0 (zps (zaqI I_ M_ p_ (Int32.ofNat a_) (Int32.ofNat b_)) M_) L_).1 = true
        · rw [if_pos hpr]
          refine Or.inr ⟨?_, ?_, ?_⟩
          · rw [zprl_q ⟨by omega, by omega, by omega, by omega⟩ (by omega), zps_k (by omega) (by omega)]
            unfold zaqI
            rw [znwI_is (by omega)]; rfl
          · rw [zprl_q ⟨by omega, by omega, by omega, by omega⟩ (by omega), zps_k (by omega) (by omega)]
            unfold zaqI
            rw [znwI_is (by omega)]; rfl
          · obtain ⟨k_, k1_, k2_, k3_, k4_, k5_⟩ := zprl_t 13 0 _ _ hpr
            rw [k3_]
            rw [zps_k (by omega) (by omega), zaqI_k (by omega) (by omega), en] at k4_
            exact zpm_of h6 hm_ (by omega) k4_ k5_
        · rw [if_neg hpr]
          exact Or.inl zdny_r
  have hr7 : -1 ≤ ((zask I_ L_ M_ p_ (Int32.ofNat a_) (Int32.ofNat b_) (Int32.ofNat m_)).1 1 M_ 7).toInt ∧ ((zask I_ L_ M_ p_ (Int32.ofNat a_) (Int32.ofNat b_) (Int32.ofNat m_)).1 1 M_ 7).toInt ≤ 600 := by
    have hd_ : ∀ w_, zdnR (zask I_ L_ M_ p_ (Int32.ofNat a_) (Int32.ofNat b_) (Int32.ofNat m_)).1 M_ w_ → -1 ≤ ((zask I_ L_ M_ p_ (Int32.ofNat a_) (Int32.ofNat b_) (Int32.ofNat m_)).1 1 M_ 7).toInt ∧ ((zask I_ L_ M_ p_ (Int32.ofNat a_) (Int32.ofNat b_) (Int32.ofNat m_)).1 1 M_ 7).toInt ≤ 600 := fun w_ hw => by rw [hw.2.2]; decide
    rcases hO with ⟨_, g_⟩ | ⟨_, _, g_⟩ | ⟨_, _, g_ | ⟨_, _, n_, c_, g_, g2, g3_, _⟩⟩
    · exact hd_ _ g_
    · exact hd_ _ g_
    · exact hd_ _ g_
    · rw [g_, Int32.toInt_ofNat_of_lt (by omega)]
      omega
  refine (za122 (za121a (zYm.ok hc_ (P_ := fun x_ I' L' => x_ = Int32.ofNat M_ ∧ zJ I' L' (M_ + 1) t_ ∧ zFx I_ I' M_ ∧ I' 6 0 7 = Int32.ofNat y_ ∧ (I' 1 M_ 0 = Int32.ofNat p_ ∧ I' 1 M_ 1 = Int32.ofNat a_ ∧ I' 1 M_ 2 = Int32.ofNat b_ ∧ I' 1 M_ 3 = Int32.ofNat y_ ∧ I' 1 M_ 14 = 0) ∧ zakO I_ L_ M_ t_ p_ a_ b_ m_ I') ⟨rfl, ⟨⟨_, R2, (zqnow R2).symm.trans ((nK 6 0 8 ⟨by omega, by omega, by omega, by omega⟩ (by omega) (by omega) (by omega)).trans en)⟩, fun w_ hw => (hxs w_ hw).cg (e26_ w_) (fun q_ hq => nK 1 q_ 11 ⟨by omega, by omega, by omega, by omega⟩ (by omega) (by omega) ?_), fun q_ hq => ?_, h6⟩, ⟨fun c_ i_ f_ hc_ => nK c_ i_ f_ ⟨by omega, by omega, by omega, by omega⟩ (by omega) (by omega) (by omega), fun q_ f_ hq hf => nK 1 q_ f_ ⟨by omega, by omega, by omega, by omega⟩ (by omega) (by omega) (by omega)⟩, (nK 6 0 7 ⟨by omega, by omega, by omega, by omega⟩ (by omega) (by omega) (by omega)).trans h_.2.2.2.2.1, ⟨nR 0 (by omega) (by omega), nR 1 (by omega) (by omega), nR 2 (by omega) (by omega), (nR 3 (by omega) (by omega)).trans h_.2.2.2.2.1, nR 14 (by omega) (by omega)⟩, hO⟩)))
  · have := ((hR.2.2.2.1 w_ hw).2.2.2.2.2.2.1 q_ hq).1
    omega
  · by_cases hqM : q_ = M_
    · subst hqM
      refine ⟨hr7, ?_⟩
      rw [nR 11 (by omega) (by omega)]
      show -1 ≤ (-1 : Int32).toInt ∧ (-1 : Int32).toInt ≤ 600
      decide
    · rw [nK 1 q_ 7 ⟨by omega, by omega, by omega, by omega⟩ (by omega) (by omega) (by omega), nK 1 q_ 11 ⟨by omega, by omega, by omega, by omega⟩ (by omega) (by omega) (by omega)]
      exact hrb q_ (by omega)
end
