/-! FRAMES: what the steps of the class leave alone -/
def zxk (c_ i_ f_ : Nat) : Prop := ¬ c_ = 0 ∧ ¬ c_ = 3 ∧ ¬ c_ = 4 ∧ ¬ (c_ = 5 ∧ (f_ = 10 ∨ f_ = 11 ∨ f_ = 12)) ∧ ¬ (c_ = 1 ∧ (f_ = 5 ∨ f_ = 9 ∨ f_ = 10 ∨ f_ = 11 ∨ f_ = 12)) ∧ ¬ (c_ = 6 ∧ f_ = 8)
theorem zpi1_k {I_ : zIn} {s_ c_ i_ f_ : Nat} (hk : ¬ (c_ = 1 ∧ (f_ = 10 ∨ f_ = 11))) : zpi1 I_ s_ c_ i_ f_ = I_ c_ i_ f_ := by
  unfold zpi1; rw [zset_ne (by omega), zset_ne (by omega)]
theorem zpid_k {I_ : zIn} {L_ : zLi} {v_ s_ c_ i_ f_ : Nat} (hk : ¬ (c_ = 1 ∧ (f_ = 5 ∨ f_ = 10 ∨ f_ = 11))) : (zpid I_ L_ v_ s_).1 c_ i_ f_ = I_ c_ i_ f_ := by
  have e1_ : zpi1 I_ s_ c_ i_ f_ = I_ c_ i_ f_ := zpi1_k (by omega)
  unfold zpid
  split
  · dsimp only
    rw [zset_ne (by omega), e1_]
  · split
    · dsimp only
      rw [zset_ne (by omega), e1_]
    · dsimp only
      rw [zset_ne (by omega), e1_]
theorem zfnn_k {I_ : zIn} {L_ : zLi} {v_ c_ i_ f_ : Nat} {x_ : Int32} (hk : ¬ (c_ = 4 ∨ (c_ = 5 ∧ (f_ = 10 ∨ f_ = 11 ∨ f_ = 12)) ∨ (c_ = 1 ∧ (f_ = 5 ∨ f_ = 10 ∨ f_ = 11 ∨ f_ = 12)))) : (zfnn I_ L_ v_ x_).1 c_ i_ f_ = I_ c_ i_ f_ := by
  unfold zfnn
  split
  · rfl
  · split
    · rfl
    · split
      · split
        · dsimp only
          rw [zset_ne (by omega), zset_ne (by omega)]
        · unfold zfi2
          split
          · rw [zpid_k (by omega), zzfi1.2.2.2 c_ i_ f_ (by omega)]
          · dsimp only
            rw [zset_ne (by omega), zset_ne (by omega), zzfi1.2.2.2 c_ i_ f_ (by omega)]
      · rfl
theorem zlvd_k {I_ : zIn} {L_ : zLi} {v_ c_ i_ f_ : Nat} {x_ : Int32} (hk : ¬ (c_ = 4 ∨ (c_ = 5 ∧ f_ = 10))) : zlvd I_ L_ v_ x_ c_ i_ f_ = I_ c_ i_ f_ := by
  unfold zlvd
  split
  · rfl
  · cases L_ 24 v_ with
    | nil => rfl
    | cons s_ l =>
      dsimp only
      split
      · rw [zset_ne (by omega), zset_ne (by omega), zset_ne (by omega)]
      · rfl
theorem zpml_k {c_ i_ f_ : Nat} (hk : ¬ (c_ = 4 ∨ (c_ = 5 ∧ (f_ = 10 ∨ f_ = 11 ∨ f_ = 12)) ∨ (c_ = 1 ∧ (f_ = 5 ∨ f_ = 10 ∨ f_ = 11 ∨ f_ = 12)))) : ∀ (l : List Nat) (I_ : zIn) (L_ : zLi), (zpml l I_ L_).1 c_ i_ f_ = I_ c_ i_ f_
  | [], _, _ => rfl
  | v_ :: l, I_, L_ => by
    rw [zpml_cons, zpml_k hk l]
    show zlvd _ _ _ _ c_ i_ f_ = _
    rw [zlvd_k (by omega), zfnn_k (by omega)]
theorem zpms_k {c_ i_ f_ : Nat} (hk : zxk c_ i_ f_) : ∀ (n_ : Nat) (I_ : zIn) (L_ : zLi), (zpms n_ I_ L_).1 c_ i_ f_ = I_ c_ i_ f_
  | 0, _, _ => rfl
  | n_ + 1, I_, L_ => by
    have hk2 := hk
    unfold zxk at hk2
    unfold zpms
    rw [zpms_k hk n_]
    unfold zpm
    rw [zpml_k (by omega), zset_ne (by omega)]
theorem zend_k {c_ i_ f_ : Nat} {I_ : zIn} {L_ : zLi} {N_ n_ M_ : Nat} (hk : zxk c_ i_ f_) (h7 : ¬ (c_ = 6 ∧ f_ = 7)) (h21 : (zpms n_ I_ L_).2 21 0 = List.range N_) (h22 : (zpms n_ I_ L_).2 22 0 = List.range M_) : (zend n_ I_ L_).2.1 c_ i_ f_ = I_ c_ i_ f_ := by
  have hk2 := hk
  unfold zxk at hk2
  unfold zend
  dsimp only
  rw [h21, h22]
  obtain ⟨g1, _⟩ := zzbgl (N_ := N_) N_ 0 (zfao (List.range M_) (zpms n_ I_ L_).1 0).2 (zpms n_ I_ L_).2 (by omega)
  rw [List.drop_zero] at g1
  show zset (zset _ 6 0 7 _) 6 0 8 0 c_ i_ f_ = _
  rw [zset_ne (by omega), zset_ne (by omega), g1 c_ i_ f_ (by omega), zzfao (C_ := (zpms n_ I_ L_).1) _ _ _ List.nodup_range (fun _ _ => rfl), if_neg (by omega), zpms_k hk]
/-- what a search leaves alone -/
def zxq (c_ i_ f_ : Nat) : Prop := ¬ c_ = 0 ∧ ¬ c_ = 3 ∧ ¬ (c_ = 1 ∧ f_ = 9) ∧ ¬ (c_ = 4 ∧ (f_ = 3 ∨ f_ = 4))
theorem zxq.fr {v_ c_ i_ f_ : Nat} (h_ : zxq c_ i_ f_) : zfr v_ c_ i_ f_ := ⟨fun e_ => h_.1 e_.1, h_.2.2.1, h_.2.2.2⟩
theorem zkp_q {I_ : zIn} {v_ i_ j_ c_ u_ f_ : Nat} {g_ : Int32} (h_ : ¬ c_ = 3) : zkp I_ v_ g_ i_ j_ c_ u_ f_ = I_ c_ u_ f_ := by
  unfold zkp; rw [zset_ne (by omega), zset_ne (by omega), zset_ne (by omega), zset_ne (by omega)]
theorem zin1_q {v_ t_ i_ c_ u_ f_ : Nat} {x_ bf : Int32} {l1 : List Nat} (h_ : zxq c_ u_ f_) : ∀ (n_ j_ : Nat) (I_ : zIn) (L_ : zLi), (zin1 v_ t_ x_ bf l1 i_ n_ j_ I_ L_).1 c_ u_ f_ = I_ c_ u_ f_
  | 0, _, _, _ => rfl
  | n_ + 1, j_, I_, L_ => by
    unfold zin1
    split
    · rw [zin1_q h_ n_]
      split
      · rw [zkp_q h_.2.1, zirt_fr h_.fr]
      · rw [zirt_fr h_.fr]
    · rw [zin1_q h_ n_]
theorem zin2_q {v_ p_ t_ c_ u_ f_ : Nat} {x_ bf : Int32} {l : List Nat} (h_ : zxq c_ u_ f_) : ∀ (n_ i_ : Nat) (I_ : zIn) (L_ : zLi), (zin2 v_ p_ t_ x_ bf l n_ i_ I_ L_).1 c_ u_ f_ = I_ c_ u_ f_
  | 0, _, _, _ => rfl
  | n_ + 1, i_, I_, L_ => by
    unfold zin2
    rw [zin2_q h_ n_, zin1_q h_]
theorem ztr1_q {I_ : zIn} {L_ : zLi} {v_ p_ t_ c_ u_ f_ : Nat} {x_ : Int32} (h_ : zxq c_ u_ f_) : (ztr1 I_ L_ v_ p_ t_ x_).1 c_ u_ f_ = I_ c_ u_ f_ := by
  unfold ztr1
  split
  · exact zin2_q h_ _ _ _ _
  · rfl
theorem zptl_q {p_ t_ c_ u_ f_ : Nat} {x_ : Int32} (h_ : zxq c_ u_ f_) : ∀ (l : List Nat) (I_ : zIn) (L_ : zLi), (zptl p_ t_ x_ l I_ L_).1 c_ u_ f_ = I_ c_ u_ f_
  | [], _, _ => rfl
  | v_ :: l, I_, L_ => by
    unfold zptl
    rw [zptl_q h_ l, ztr1_q h_]
theorem zpb_q {I_ : zIn} {L_ : zLi} {p_ t_ c_ u_ f_ : Nat} {x_ : Int32} (h_ : zxq c_ u_ f_) (h8 : ¬ (c_ = 1 ∧ u_ = p_ / 2 ∧ f_ = 8)) : (zpb I_ L_ p_ t_ x_).2.1 c_ u_ f_ = I_ c_ u_ f_ := by
  have h3 := h_.2.1
  unfold zpb
  split
  · dsimp only
    rw [zptl_q h_, zset_ne (by omega)]
  · dsimp only
    rw [zset_ne (by omega), zptl_q h_, zset_ne (by omega)]
theorem zprl_q {r_ c_ u_ f_ : Nat} {w_ : Int32} (h_ : zxq c_ u_ f_) (h8 : ¬ (c_ = 1 ∧ u_ = r_ ∧ (f_ = 7 ∨ f_ = 8))) : ∀ (n_ t_ : Nat) (I_ : zIn) (L_ : zLi), (zprl r_ w_ n_ t_ I_ L_).2.1 c_ u_ f_ = I_ c_ u_ f_
  | 0, _, _, _ => rfl
  | n_ + 1, t_, I_, L_ => by
    unfold zprl
    split
    · split
      · rw [zpb_q h_ (by omega), zset_ne (by omega)]
      · rw [zprl_q h_ h8 n_, zpb_q h_ (by omega), zset_ne (by omega)]
    · rw [zprl_q h_ h8 n_, zset_ne (by omega)]
/-- a minute that was promised is one of those that are tried -/
theorem zprl_t {r_ : Nat} {w_ : Int32} : ∀ (n_ t_ : Nat) (I_ : zIn) (L_ : zLi), (zprl r_ w_ n_ t_ I_ L_).1 = true → ∃ k_, t_ ≤ k_ ∧ k_ < t_ + n_ ∧ (zprl r_ w_ n_ t_ I_ L_).2.1 1 r_ 7 = zpmt w_ k_ ∧ I_ 6 0 8 < zpmt w_ k_ ∧ zpmt w_ k_ ≤ 600
  | 0, _, _, _, h_ => by cases h_
  | n_ + 1, t_, I_, L_, h_ => by
    have e6_ : ∀ (J_ : zIn) (M_ : zLi) (x_ : Int32), (zpb J_ M_ (2 * r_) (2 * r_ + 1) x_).2.1 6 0 8 = J_ 6 0 8 := fun J_ M_ x_ => zpb_q ⟨by omega, by omega, by omega, by omega⟩ (by omega)
    unfold zprl at h_ ⊢
    split at h_
    · rename_i hb_
      rw [if_pos hb_]
      split at h_
      · rename_i h1
        rw [if_pos h1]
        refine ⟨t_, Nat.le_refl _, by omega, ?_, hb_.1, hb_.2⟩
        rw [zpb_q ⟨by omega, by omega, by omega, by omega⟩ (by omega), zset_is]
      · rename_i h1
        rw [if_neg h1]
        obtain ⟨k_, k1_, k2_, k3_, k4_, k5_⟩ := zprl_t n_ (t_ + 1) _ _ h_
        rw [e6_, zset_ne (by omega)] at k4_
        exact ⟨k_, by omega, by omega, k3_, k4_, k5_⟩
    · rename_i hb_
      rw [if_neg hb_]
      obtain ⟨k_, k1_, k2_, k3_, k4_, k5_⟩ := zprl_t n_ (t_ + 1) _ _ h_
      rw [zset_ne (by omega)] at k4_
      exact ⟨k_, by omega, by omega, k3_, k4_, k5_⟩
theorem zmvF_q {I_ : zIn} {L_ : zLi} {v_ q_ c_ u_ f_ : Nat} {x_ : Int32} (h_ : zxq c_ u_ f_) (h8 : ¬ (c_ = 1 ∧ u_ = q_ ∧ f_ = 8)) : (zmvF I_ L_ v_ q_ x_).2.1 c_ u_ f_ = I_ c_ u_ f_ := by
  unfold zmvF
  split
  · rw [zpb_q h_ (by omega)]
  · dsimp only
    rw [zset_ne (by omega), zpb_q h_ (by omega)]
theorem zmq_q {I_ : zIn} {L_ : zLi} {v_ q_ c_ u_ f_ : Nat} (h_ : zxq c_ u_ f_) (h8 : ¬ (c_ = 1 ∧ f_ = 8)) : (zmq v_ q_ I_ L_).2.1 c_ u_ f_ = I_ c_ u_ f_ := by
  unfold zmq
  split
  · rw [zmvF_q h_ (by omega), zplS_fr h_.fr]
  · exact zplS_fr h_.fr
theorem zmql_q {v_ c_ u_ f_ : Nat} (h_ : zxq c_ u_ f_) (h8 : ¬ (c_ = 1 ∧ f_ = 8)) : ∀ (l : List Nat) (y_ : Int32) (I_ : zIn) (L_ : zLi), (zmql v_ l y_ I_ L_).2.1 c_ u_ f_ = I_ c_ u_ f_
  | [], _, _, _ => rfl
  | q_ :: l, y_, I_, L_ => by
    unfold zmql
    rw [zmql_q h_ h8 l, zmq_q h_ h8]
