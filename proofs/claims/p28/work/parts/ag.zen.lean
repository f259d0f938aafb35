/-! THE CALLS: end -/
theorem zzfao {C_ : zIn} {c_ i_ f_ : Nat} : ∀ (l : List Nat) (C0_ : zIn) (x_ : Int32), l.Nodup → (∀ j_ ∈ l, C0_ 1 j_ 5 = C_ 1 j_ 5) → (zfao l C0_ x_).2 c_ i_ f_ = if c_ = 1 ∧ i_ ∈ l ∧ f_ = 5 ∧ (C_ 1 i_ 5 = 0 ∨ C_ 1 i_ 5 = 1) then 5 else C0_ c_ i_ f_
  | [], C0_, x_, _, _ => by
    rw [if_neg (fun e_ => List.not_mem_nil e_.2.1)]; rfl
  | q_ :: l, C0_, x_, hn, h5 => by
    obtain ⟨n1_, n2_⟩ := List.nodup_cons.mp hn
    have hq := h5 q_ List.mem_cons_self
    unfold zfao
    rw [hq]
    by_cases hc_ : C_ 1 q_ 5 = 0 ∨ C_ 1 q_ 5 = 1
    · rw [if_pos hc_, zzfao (C_ := C_) l (zset C0_ 1 q_ 5 5) (x_ + 1) n2_ (fun j_ hj => by rw [zset_ne (show ¬ (1 = 1 ∧ j_ = q_ ∧ 5 = 5) from fun e_ => n1_ (e_.2.1 ▸ hj))]; exact h5 j_ (List.mem_cons_of_mem _ hj))]
      by_cases e_ : c_ = 1 ∧ i_ = q_ ∧ f_ = 5
      · obtain ⟨rfl, rfl, rfl⟩ := e_
        rw [if_neg (fun e_ => n1_ e_.2.1), if_pos ⟨rfl, List.mem_cons_self, rfl, hc_⟩, zset_is]
      · rw [zset_ne e_]
        by_cases e2_ : c_ = 1 ∧ i_ ∈ l ∧ f_ = 5 ∧ (C_ 1 i_ 5 = 0 ∨ C_ 1 i_ 5 = 1)
        · rw [if_pos e2_, if_pos ⟨e2_.1, List.mem_cons_of_mem _ e2_.2.1, e2_.2.2⟩]
        · rw [if_neg e2_, if_neg (fun e3_ => e2_ ⟨e3_.1, (List.mem_cons.mp e3_.2.1).resolve_left (fun e4_ => e_ ⟨e3_.1, e4_, e3_.2.2.1⟩), e3_.2.2⟩)]
    · rw [if_neg hc_, zzfao (C_ := C_) l C0_ x_ n2_ (fun j_ hj => h5 j_ (List.mem_cons_of_mem _ hj))]
      by_cases e2_ : c_ = 1 ∧ i_ ∈ l ∧ f_ = 5 ∧ (C_ 1 i_ 5 = 0 ∨ C_ 1 i_ 5 = 1)
      · rw [if_pos e2_, if_pos ⟨e2_.1, List.mem_cons_of_mem _ e2_.2.1, e2_.2.2⟩]
      · rw [if_neg e2_, if_neg (show ¬ (c_ = 1 ∧ i_ ∈ q_ :: l ∧ f_ = 5 ∧ (C_ 1 i_ 5 = 0 ∨ C_ 1 i_ 5 = 1)) from fun e3_ => e2_ ⟨e3_.1, (List.mem_cons.mp e3_.2.1).resolve_left (fun e4_ => hc_ (by rw [← e4_]; exact e3_.2.2.2)), e3_.2.2⟩)]
theorem zzefL {D_ : zIn} {c_ i_ f_ : Nat} : ∀ (n_ k_ : Nat) (D0 : zIn) (x_ : Int32), (∀ j_, k_ ≤ j_ → D0 30 32 j_ = D_ 30 32 j_) → (zefL n_ k_ x_ D0).2 c_ i_ f_ = if c_ = 30 ∧ i_ = 32 ∧ (k_ ≤ f_ ∧ f_ < k_ + n_) ∧ (D_ 30 32 f_ = 0 ∨ D_ 30 32 f_ = 1) then 5 else D0 c_ i_ f_
  | 0, k_, D0, x_, _ => by
    rw [if_neg (by omega)]; rfl
  | n_ + 1, k_, D0, x_, h5 => by
    unfold zefL
    rw [h5 k_ (Nat.le_refl _)]
    by_cases hc_ : D_ 30 32 k_ = 0 ∨ D_ 30 32 k_ = 1
    · rw [if_pos hc_, zzefL (D_ := D_) n_ (k_ + 1) (zset D0 30 32 k_ 5) (x_ + 1) (fun j_ hj => by rw [zset_ne (by omega)]; exact h5 j_ (by omega))]
      by_cases e_ : c_ = 30 ∧ i_ = 32 ∧ f_ = k_
      · obtain ⟨rfl, rfl, rfl⟩ := e_
        rw [if_neg (by omega), if_pos ⟨rfl, rfl, by omega, hc_⟩, zset_is]
      · rw [zset_ne e_]
        by_cases e2_ : c_ = 30 ∧ i_ = 32 ∧ (k_ + 1 ≤ f_ ∧ f_ < k_ + 1 + n_) ∧ (D_ 30 32 f_ = 0 ∨ D_ 30 32 f_ = 1)
        · rw [if_pos e2_, if_pos ⟨e2_.1, e2_.2.1, by omega, e2_.2.2.2⟩]
        · rw [if_neg e2_, if_neg (fun e3_ => e2_ ⟨e3_.1, e3_.2.1, by omega, e3_.2.2.2⟩)]
    · rw [if_neg hc_, zzefL (D_ := D_) n_ (k_ + 1) D0 x_ (fun j_ hj => h5 j_ (by omega))]
      by_cases e2_ : c_ = 30 ∧ i_ = 32 ∧ (k_ + 1 ≤ f_ ∧ f_ < k_ + 1 + n_) ∧ (D_ 30 32 f_ = 0 ∨ D_ 30 32 f_ = 1)
      · rw [if_pos e2_, if_pos ⟨e2_.1, e2_.2.1, by omega, e2_.2.2.2⟩]
      · rw [if_neg e2_, if_neg (fun e3_ => e2_ ⟨e3_.1, e3_.2.1, by
          by_cases e4_ : f_ = k_
          · exact absurd (e4_ ▸ e3_.2.2.2) hc_
          · omega, e3_.2.2.2⟩)]
theorem zzcntE {M_ : Nat} : ∀ (n_ k_ : Nat) (C_ D_ : zIn) (x_ : Int32), n_ + k_ = M_ → (∀ j_, k_ ≤ j_ → j_ < M_ → C_ 1 j_ 5 = D_ 30 32 j_) → (zfao ((List.range M_).drop k_) C_ x_).1 = (zefL n_ k_ x_ D_).1
  | 0, k_, C_, D_, x_, hk, h_ => by
    rw [List.drop_of_length_le (by rw [List.length_range]; omega)]; rfl
  | n_ + 1, k_, C_, D_, x_, hk, h_ => by
    have hv2 : (List.range M_)[k_]? = some k_ := List.getElem?_range (by omega)
    rw [zdrop_cons hv2]
    unfold zfao zefL
    rw [h_ k_ (Nat.le_refl _) (by omega)]
    by_cases hc_ : D_ 30 32 k_ = 0 ∨ D_ 30 32 k_ = 1
    · rw [if_pos hc_, if_pos hc_]
      exact zzcntE n_ (k_ + 1) _ _ _ (by omega) (fun j_ h1 h2 => by rw [zset_ne (by omega), zset_ne (by omega)]; exact h_ j_ (by omega) h2)
    · rw [if_neg hc_, if_neg hc_]
      exact zzcntE n_ (k_ + 1) _ _ _ (by omega) (fun j_ h1 h2 => h_ j_ (by omega) h2)
theorem zzbgl {N_ : Nat} : ∀ (n_ k_ : Nat) (C_ : zIn) (L_ : zLi), n_ + k_ = N_ → (∀ c_ i_ f_, ¬ (c_ = 5 ∧ k_ ≤ i_ ∧ i_ < N_ ∧ (f_ = 10 ∨ f_ = 11 ∨ f_ = 12)) → (zbgl ((List.range N_).drop k_) C_ L_).1 c_ i_ f_ = C_ c_ i_ f_) ∧ (∀ v_, k_ ≤ v_ → v_ < N_ → (zbgl ((List.range N_).drop k_) C_ L_).1 5 v_ 10 = 0 ∧ (zbgl ((List.range N_).drop k_) C_ L_).1 5 v_ 11 = C_ 5 v_ 1 ∧ (zbgl ((List.range N_).drop k_) C_ L_).1 5 v_ 12 = 0) ∧ (∀ c_ u_, ¬ ((c_ = 24 ∨ c_ = 25 ∨ c_ = 26) ∧ k_ ≤ u_ ∧ u_ < N_) → (zbgl ((List.range N_).drop k_) C_ L_).2 c_ u_ = L_ c_ u_) ∧ (∀ c_ u_, (c_ = 24 ∨ c_ = 25 ∨ c_ = 26) → k_ ≤ u_ → u_ < N_ → (zbgl ((List.range N_).drop k_) C_ L_).2 c_ u_ = [])
  | 0, k_, C_, L_, hk => by
    rw [List.drop_of_length_le (by rw [List.length_range]; omega)]
    exact ⟨fun _ _ _ _ => rfl, fun v_ (a_ : k_ ≤ v_) (b_ : v_ < N_) => by exfalso; omega, fun _ _ _ => rfl, fun c_ u_ _ (a_ : k_ ≤ u_) (b_ : u_ < N_) => by exfalso; omega⟩
  | n_ + 1, k_, C_, L_, hk => by
    have hv2 : (List.range N_)[k_]? = some k_ := List.getElem?_range (by omega)
    rw [zdrop_cons hv2]
    have e_ : zbgl (k_ :: (List.range N_).drop (k_ + 1)) C_ L_ = zbgl ((List.range N_).drop (k_ + 1)) (zbgd k_ C_ L_).1 (zbgd k_ C_ L_).2 := rfl
    rw [e_]
    obtain ⟨h1, h2, h3, h4⟩ := zzbgl (N_ := N_) n_ (k_ + 1) (zbgd k_ C_ L_).1 (zbgd k_ C_ L_).2 (by omega)
    have g1 : ∀ c_ i_ f_, ¬ (c_ = 5 ∧ i_ = k_ ∧ (f_ = 10 ∨ f_ = 11 ∨ f_ = 12)) → (zbgd k_ C_ L_).1 c_ i_ f_ = C_ c_ i_ f_ := fun c_ i_ f_ hh => by
      show zset _ 5 k_ 12 0 c_ i_ f_ = _
      rw [zset_ne (by omega), zset_ne (by omega), zset_ne (by omega)]
    have g2 : (zbgd k_ C_ L_).1 5 k_ 10 = 0 ∧ (zbgd k_ C_ L_).1 5 k_ 11 = C_ 5 k_ 1 ∧ (zbgd k_ C_ L_).1 5 k_ 12 = 0 := by
      refine ⟨?_, ?_, ?_⟩
      · show zset _ 5 k_ 12 0 5 k_ 10 = _
        rw [zset_ne (by simp), zset_ne (by simp), zset_is]
      · show zset (zset _ 5 k_ 11 (C_ 5 k_ 1)) 5 k_ 12 0 5 k_ 11 = _
        rw [zset_ne (by simp), zset_is]
      · show zset _ 5 k_ 12 0 5 k_ 12 = _
        rw [zset_is]
    have g3_ : ∀ c_ u_, ¬ ((c_ = 24 ∨ c_ = 25 ∨ c_ = 26) ∧ u_ = k_) → (zbgd k_ C_ L_).2 c_ u_ = L_ c_ u_ := fun c_ u_ hh => by
      show zlup _ 26 k_ [] c_ u_ = _
      rw [zlup_ne (by omega), zlup_ne (by omega), zlup_ne (by omega)]
    have g4 : ∀ c_, (c_ = 24 ∨ c_ = 25 ∨ c_ = 26) → (zbgd k_ C_ L_).2 c_ k_ = [] := fun c_ hc_ => by
      show zlup (zlup (zlup L_ 24 k_ []) 25 k_ []) 26 k_ [] c_ k_ = _
      rcases hc_ with rfl | rfl | rfl
      · rw [zlup_ne (by simp), zlup_ne (by simp), zlup_self]
      · rw [zlup_ne (by simp), zlup_self]
      · rw [zlup_self]
    refine ⟨fun c_ i_ f_ hh => ?_, fun v_ a_ b_ => ?_, fun c_ u_ hh => ?_, fun c_ u_ hc_ a_ b_ => ?_⟩
    · rw [h1 c_ i_ f_ (by omega), g1 c_ i_ f_ (by omega)]
    · by_cases ev_ : v_ = k_
      · subst ev_
        rw [h1 5 v_ 10 (by omega), h1 5 v_ 11 (by omega), h1 5 v_ 12 (by omega)]
        exact g2
      · have := h2 v_ (by omega) b_
        rw [g1 5 v_ 1 (by omega)] at this
        exact this
    · rw [h3 c_ u_ (by omega), g3_ c_ u_ (by omega)]
    · by_cases ev_ : u_ = k_
      · subst ev_
        rw [h3 c_ u_ (by omega)]
        exact g4 c_ hc_
      · exact h4 c_ u_ hc_ (by omega) b_
theorem zzevL {N_ : Nat} : ∀ (n_ k_ : Nat) (D_ : zIn), n_ + k_ = N_ → (∀ c_ i_ f_, ¬ ((c_ = 30 ∧ (i_ = 17 ∨ i_ = 18 ∨ i_ = 23 ∨ i_ = 25 ∨ i_ = 27) ∨ c_ = 31 ∧ (i_ = 19 ∨ i_ = 22)) ∧ k_ ≤ f_ ∧ f_ < N_) → zevL n_ k_ D_ c_ i_ f_ = D_ c_ i_ f_) ∧ (∀ v_, k_ ≤ v_ → v_ < N_ → zevL n_ k_ D_ 30 17 v_ = D_ 30 12 v_ ∧ zevL n_ k_ D_ 30 18 v_ = 0 ∧ zevL n_ k_ D_ 31 19 v_ = 0 ∧ zevL n_ k_ D_ 31 22 v_ = 0 ∧ zevL n_ k_ D_ 30 23 v_ = 0 ∧ zevL n_ k_ D_ 30 25 v_ = 0 ∧ zevL n_ k_ D_ 30 27 v_ = 0)
  | 0, k_, D_, hk => ⟨fun _ _ _ _ => rfl, fun v_ (a_ : k_ ≤ v_) (b_ : v_ < N_) => by exfalso; omega⟩
  | n_ + 1, k_, D_, hk => by
    unfold zevL
    obtain ⟨h1, h2⟩ := zzevL (N_ := N_) n_ (k_ + 1) (zevV k_ D_) (by omega)
    have g1 : ∀ c_ i_ f_, ¬ ((c_ = 30 ∧ (i_ = 17 ∨ i_ = 18 ∨ i_ = 23 ∨ i_ = 25 ∨ i_ = 27) ∨ c_ = 31 ∧ (i_ = 19 ∨ i_ = 22)) ∧ f_ = k_) → zevV k_ D_ c_ i_ f_ = D_ c_ i_ f_ := fun c_ i_ f_ hh => by
      unfold zevV
      rw [zset_ne (by omega), zset_ne (by omega), zset_ne (by omega), zset_ne (by omega), zset_ne (by omega), zset_ne (by omega), zset_ne (by omega)]
    refine ⟨fun c_ i_ f_ hh => ?_, fun v_ a_ b_ => ?_⟩
    · rw [h1 c_ i_ f_ (by omega), g1 c_ i_ f_ (by omega)]
    · by_cases ev_ : v_ = k_
      · subst ev_
        rw [h1 30 17 v_ (by omega), h1 30 18 v_ (by omega), h1 31 19 v_ (by omega), h1 31 22 v_ (by omega), h1 30 23 v_ (by omega), h1 30 25 v_ (by omega), h1 30 27 v_ (by omega)]
        unfold zevV
        refine ⟨?_, ?_, ?_, ?_, ?_, ?_, zset_is⟩
        · rw [zset_ne (by simp), zset_ne (by simp), zset_ne (by simp), zset_ne (by simp), zset_ne (by simp), zset_ne (by simp), zset_is]
        · rw [zset_ne (by simp), zset_ne (by simp), zset_ne (by simp), zset_ne (by simp), zset_ne (by simp), zset_is]
        · rw [zset_ne (by simp), zset_ne (by simp), zset_ne (by simp), zset_ne (by simp), zset_is]
        · rw [zset_ne (by simp), zset_ne (by simp), zset_ne (by simp), zset_is]
        · rw [zset_ne (by simp), zset_ne (by simp), zset_is]
        · rw [zset_ne (by simp), zset_is]
      · have := h2 v_ (by omega) b_
        rw [g1 30 12 v_ (by omega)] at this
        exact this

