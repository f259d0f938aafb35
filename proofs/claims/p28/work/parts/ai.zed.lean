/-! THE CALLS: end -/
theorem zpid6 {I_ : zIn} {L_ : zLi} {v_ s_ f_ : Nat} : (zpid I_ L_ v_ s_).1 6 0 f_ = I_ 6 0 f_ := by
  have e_ : zpi1 I_ s_ 6 0 f_ = I_ 6 0 f_ := by unfold zpi1; rw [zset_ne (by simp), zset_ne (by simp)]
  unfold zpid
  split
  · dsimp only
    rw [zset_ne (by simp), e_]
  · split
    · dsimp only
      rw [zset_ne (by simp), e_]
    · dsimp only
      rw [zset_ne (by simp), e_]
theorem zfnn6 {I_ : zIn} {L_ : zLi} {v_ f_ : Nat} {x_ : Int32} : (zfnn I_ L_ v_ x_).1 6 0 f_ = I_ 6 0 f_ := by
  unfold zfnn
  split
  · rfl
  · split
    · rfl
    · split
      · split
        · dsimp only
          rw [zset_ne (by simp), zset_ne (by simp)]
        · unfold zfi2
          split
          · rw [zpid6, zzfi1.2.2.2 6 0 f_ (by simp)]
          · dsimp only
            rw [zset_ne (by simp), zset_ne (by simp), zzfi1.2.2.2 6 0 f_ (by simp)]
      · rfl
theorem zlvd6 {I_ : zIn} {L_ : zLi} {v_ f_ : Nat} {x_ : Int32} : zlvd I_ L_ v_ x_ 6 0 f_ = I_ 6 0 f_ := by
  unfold zlvd
  split
  · rfl
  · cases L_ 24 v_ with
    | nil => rfl
    | cons s_ l =>
      dsimp only
      split
      · rw [zset_ne (by simp), zset_ne (by simp), zset_ne (by simp)]
      · rfl
theorem zpml6 {f_ : Nat} : ∀ (l : List Nat) (I_ : zIn) (L_ : zLi), (zpml l I_ L_).1 6 0 f_ = I_ 6 0 f_
  | [], _, _ => rfl
  | v_ :: l, I_, L_ => by
    rw [zpml_cons, zpml6 l]
    show zlvd _ _ _ _ 6 0 f_ = _
    rw [zlvd6, zfnn6]
theorem zpms6 {f_ : Nat} (hf : ¬ f_ = 8) : ∀ (n_ : Nat) (I_ : zIn) (L_ : zLi), (zpms n_ I_ L_).1 6 0 f_ = I_ 6 0 f_
  | 0, _, _ => rfl
  | n_ + 1, I_, L_ => by
    unfold zpms
    rw [zpms6 hf n_]
    unfold zpm
    rw [zpml6, zset_ne (by simp [hf])]
theorem zzEdco {C_ : zIn} {L_ : zLi} {N_ M_ : Nat} {x_ : Int32} : zzco (zedy (zbgl (List.range N_) (zfao (List.range M_) C_ x_).2 L_)).1 C_ := by
  intro c_ i_ f_ hh
  obtain ⟨g1, _⟩ := zzbgl (N_ := N_) N_ 0 (zfao (List.range M_) C_ x_).2 L_ (by omega)
  rw [List.drop_zero] at g1
  show zset (zset _ 6 0 7 _) 6 0 8 0 c_ i_ f_ = _
  rw [zset_ne (by omega), zset_ne (by omega), g1 c_ i_ f_ (by omega), zzfao (C_ := C_) _ _ _ List.nodup_range (fun _ _ => rfl), if_neg (by omega)]
theorem zzpmsR {p_ N_ M_ : Nat} : ∀ (n_ t_ : Nat) (C_ : zIn) (L_ : zLi), t_ + n_ ≤ 600 → (∃ D_, zzR C_ L_ D_ p_ N_ M_ ∧ D_ 7 0 2 = Int32.ofNat t_) → ∃ D_, zzR (zpms n_ C_ L_).1 (zpms n_ C_ L_).2 D_ p_ N_ M_
  | 0, _, _, _, _, ⟨D_, h_, _⟩ => ⟨D_, h_⟩
  | n_ + 1, t_, C_, L_, ht, ⟨D_, h_, e_⟩ => by
    obtain ⟨D', h1, h2, h3⟩ := zzMinP h_ (by omega) e_
    unfold zpms
    exact zzpmsR n_ (t_ + 1) _ _ (by omega) ⟨D', h1, h3⟩
