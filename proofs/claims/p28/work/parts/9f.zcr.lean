/-! MATHEMATICS: the class's isRight, without the machine -/
def zzpc (x_ : Int32) : Prop := ∃ n_, n_ < 36 ∧ x_ = Int32.ofNat n_
theorem zzap6 : ∀ a_, a_ < 6 → ∀ b_, b_ < 6 → (if 0 ≤ Int32.ofNat a_ - Int32.ofNat b_ then Int32.ofNat a_ - Int32.ofNat b_ else 0 - (Int32.ofNat a_ - Int32.ofNat b_)) = zap (Int32.ofNat a_) (Int32.ofNat b_) := by decide +kernel
theorem zzstp {x_ y_ : Int32} (hx : zzpc x_) (hy : zzpc y_) : zstp x_ y_ = zspm x_ y_ := by
  obtain ⟨a_, ha_, rfl⟩ := hx
  obtain ⟨b_, hb_, rfl⟩ := hy
  unfold zstp zspm
  have e1_ : Int32.ofNat a_ / 6 = Int32.ofNat (a_ / 6) := zidv (b_ := 6) (by omega) (by omega)
  have e2_ : Int32.ofNat b_ / 6 = Int32.ofNat (b_ / 6) := zidv (b_ := 6) (by omega) (by omega)
  have e3_ : Int32.ofNat a_ - Int32.ofNat a_ / 6 * 6 = Int32.ofNat (a_ % 6) := zirm (b_ := 6) (by omega) (by omega)
  have e4_ : Int32.ofNat b_ - Int32.ofNat b_ / 6 * 6 = Int32.ofNat (b_ % 6) := zirm (b_ := 6) (by omega) (by omega)
  rw [e3_, e4_, e1_, e2_, zzap6 _ (by omega) _ (by omega), zzap6 _ (by omega) _ (by omega)]
theorem zzmx {a_ b_ : Int32} : zmx a_ b_ = if b_ < a_ then a_ else b_ := by
  unfold zmx
  by_cases h1 : a_ < b_
  · rw [if_pos h1, if_neg (fun h2 => Int32.lt_irrefl (Int32.lt_of_lt_of_le h1 (Int32.le_of_lt h2)))]
  · rw [if_neg h1]
    by_cases h2 : b_ < a_
    · rw [if_pos h2]
    · rw [if_neg h2]
      exact Int32.le_antisymm (Int32.not_lt.mp h2) (Int32.not_lt.mp h1)
theorem zzlt4 {D_ : zIn} {q_ : Nat} {x_ : Int32} : zmlt D_ q_ x_ = x_ + (10 + 4 * zspm (D_ 30 30 q_) (D_ 30 31 q_)) := by
  unfold zmlt
  rw [← Int32.mul_assoc, Int32.add_assoc]
  rfl
theorem zzse {D_ : zIn} (q_ : Nat) : 1 ≤ (zmse D_ q_).toInt ∧ (zmse D_ q_).toInt ≤ 3 := by
  unfold zmse
  split <;> split <;> decide
theorem zzsub {u_ x_ : Int32} {D_ : zIn} {q_ : Nat} (h0 : -100 ≤ u_.toInt) (h8 : u_.toInt ≤ 8) (h_ : u_ ≤ x_) : u_ - zmse D_ q_ ≤ x_ ∧ u_.toInt - 3 ≤ (u_ - zmse D_ q_).toInt ∧ (u_ - zmse D_ q_).toInt ≤ 8 := by
  obtain ⟨a_, b_⟩ := zzse (D_ := D_) q_
  have e_ : (u_ - zmse D_ q_).toInt = u_.toInt - (zmse D_ q_).toInt := by
    rw [Int32.toInt_sub]
    exact Int.bmod_eq_of_le (by omega) (by omega)
  rw [Int32.le_iff_toInt_le] at h_ ⊢
  omega
theorem zzadd {u_ x_ : Int32} {D_ : zIn} {q_ : Nat} (h0 : -100 ≤ u_.toInt) (h8 : u_.toInt ≤ 8) (hx : x_.toInt ≤ 8) (h_ : u_ + zmse D_ q_ ≤ x_) : u_.toInt ≤ (u_ + zmse D_ q_).toInt ∧ (u_ + zmse D_ q_).toInt ≤ 8 := by
  obtain ⟨a_, b_⟩ := zzse (D_ := D_) q_
  have e_ : (u_ + zmse D_ q_).toInt = u_.toInt + (zmse D_ q_).toInt := by
    rw [Int32.toInt_add]
    exact Int.bmod_eq_of_le (by omega) (by omega)
  rw [Int32.le_iff_toInt_le] at h_
  omega
/-- the data of a stop's request, in the class as in the model -/
def zzcs (C_ D_ : zIn) (s_ : Nat) : Prop := C_ 4 s_ 2 = zmpl D_ s_ ∧ zzpc (zmpl D_ s_) ∧ C_ 1 (s_ / 2) 7 = D_ 30 34 (s_ / 2) ∧ C_ 1 (s_ / 2) 4 = 10 + 4 * zspm (D_ 30 30 (s_ / 2)) (D_ 30 31 (s_ / 2)) ∧ C_ 2 (C_ 1 (s_ / 2) 0).toNatClampNeg 4 = 2 + 2 * zmkd D_ (s_ / 2) ∧ zsea C_ (s_ / 2) = zmse D_ (s_ / 2) ∧ zchr C_ (s_ / 2) = decide (zmkd D_ (s_ / 2) = 2) ∧ C_ 1 (s_ / 2) 11 = D_ 30 37 (s_ / 2)
def zzcv (C_ D_ : zIn) (v_ : Nat) : Prop := C_ 5 v_ 1 = D_ 30 12 v_ ∧ C_ 5 v_ 2 = D_ 30 13 v_ ∧ C_ 5 v_ 3 = D_ 30 14 v_ ∧ C_ 5 v_ 11 = D_ 30 17 v_ ∧ C_ 5 v_ 12 = D_ 30 18 v_ ∧ (C_ 5 v_ 10 = 0 ↔ D_ 31 19 v_ = 0) ∧ zzpc (D_ 30 17 v_) ∧ zzpc (D_ 30 12 v_)
theorem zzf1 {v_ q_ f_ : Nat} (h_ : ¬ f_ = 9) : zfr v_ 1 q_ f_ := ⟨fun e_ => absurd e_.1 (by decide), fun e_ => h_ e_.2, fun e_ => absurd e_.1 (by decide)⟩
theorem zzf2 {v_ i_ f_ : Nat} : zfr v_ 2 i_ f_ := ⟨fun e_ => absurd e_.1 (by decide), fun e_ => absurd e_.1 (by decide), fun e_ => absurd e_.1 (by decide)⟩
theorem zzf5 {v_ i_ f_ : Nat} : zfr v_ 5 i_ f_ := ⟨fun e_ => absurd e_.1 (by decide), fun e_ => absurd e_.1 (by decide), fun e_ => absurd e_.1 (by decide)⟩
theorem zzf4 {v_ i_ f_ : Nat} (h_ : ¬ (f_ = 3 ∨ f_ = 4)) : zfr v_ 4 i_ f_ := ⟨fun e_ => absurd e_.1 (by decide), fun e_ => absurd e_.1 (by decide), fun e_ => h_ e_.2⟩
theorem zzfsea {C_ C0_ : zIn} {v_ : Nat} (h_ : ∀ c_ i_ f_, zfr v_ c_ i_ f_ → C_ c_ i_ f_ = C0_ c_ i_ f_) (q_ : Nat) : zsea C_ q_ = zsea C0_ q_ := by
  unfold zsea; rw [h_ 1 q_ 0 (zzf1 (by decide)), h_ 2 _ 3 zzf2]
theorem zzfchr {C_ C0_ : zIn} {v_ : Nat} (h_ : ∀ c_ i_ f_, zfr v_ c_ i_ f_ → C_ c_ i_ f_ = C0_ c_ i_ f_) (q_ : Nat) : zchr C_ q_ = zchr C0_ q_ := by
  unfold zchr; rw [h_ 1 q_ 0 (zzf1 (by decide)), h_ 2 _ 0 zzf2]
theorem zzftak {C_ C0_ : zIn} (h_ : ∀ q_, zsea C_ q_ = zsea C0_ q_) : ∀ (l : List Nat) (x_ : Int32), ztak C_ l x_ = ztak C0_ l x_
  | [], _ => rfl
  | q_ :: l, x_ => by
    unfold ztak
    rw [h_, zzftak h_ l]
theorem zzfchl {C_ C0_ : zIn} (h_ : ∀ q_, zchr C_ q_ = zchr C0_ q_) (l : List Nat) : zchl C_ l = zchl C0_ l := by
  unfold zchl
  exact List.filter_congr (fun q_ _ => h_ q_)
theorem zzcs_fr {C_ C0_ D_ : zIn} {v_ s_ : Nat} (h_ : ∀ c_ i_ f_, zfr v_ c_ i_ f_ → C_ c_ i_ f_ = C0_ c_ i_ f_) (hs : zzcs C0_ D_ s_) : zzcs C_ D_ s_ := by
  unfold zzcs at hs ⊢
  rw [h_ 4 s_ 2 (zzf4 (by decide)), h_ 1 _ 7 (zzf1 (by decide)), h_ 1 _ 4 (zzf1 (by decide)), h_ 1 _ 0 (zzf1 (by decide)), h_ 2 _ 4 zzf2, h_ 1 _ 11 (zzf1 (by decide)), zzfsea h_, zzfchr h_]
  exact hs
theorem zzcv_fr {C_ C0_ D_ : zIn} {v_ w_ : Nat} (h_ : ∀ c_ i_ f_, zfr v_ c_ i_ f_ → C_ c_ i_ f_ = C0_ c_ i_ f_) (hs : zzcv C0_ D_ w_) : zzcv C_ D_ w_ := by
  unfold zzcv at hs ⊢
  rw [h_ 5 w_ 1 zzf5, h_ 5 w_ 2 zzf5, h_ 5 w_ 3 zzf5, h_ 5 w_ 11 zzf5, h_ 5 w_ 12 zzf5, h_ 5 w_ 10 zzf5]
  exact hs
/-- what goTo does to a stop, its request, and the plan -/
theorem zzgt0 {C_ : zIn} {v_ s_ : Nat} : zgt C_ v_ s_ 0 4 s_ 3 = (if s_ % 2 = 0 then zmx (C_ 0 v_ 2) (C_ 1 (s_ / 2) 7 - 2 * zstp (C_ 0 v_ 1) (C_ 4 s_ 2)) else C_ 0 v_ 2) + 2 * zstp (C_ 0 v_ 1) (C_ 4 s_ 2) ∧ zgt C_ v_ s_ 0 4 s_ 4 = zgt C_ v_ s_ 0 4 s_ 3 + C_ 2 (C_ 1 (s_ / 2) 0).toNatClampNeg 4 ∧ zgt C_ v_ s_ 0 0 v_ 1 = C_ 4 s_ 2 ∧ zgt C_ v_ s_ 0 0 v_ 2 = zgt C_ v_ s_ 0 4 s_ 4 ∧ zgt C_ v_ s_ 0 0 v_ 3 = C_ 0 v_ 3 ∧ (s_ % 2 = 0 → zgt C_ v_ s_ 0 1 (s_ / 2) 9 = zgt C_ v_ s_ 0 4 s_ 4) ∧ ∀ q_, ¬ (s_ % 2 = 0 ∧ q_ = s_ / 2) → zgt C_ v_ s_ 0 1 q_ 9 = C_ 1 q_ 9 := by
  unfold zgt
  rw [if_pos rfl]
  unfold zgt4 zgt3 zgt2 zgt1
  by_cases hp : s_ % 2 = 0
  · simp only [if_pos hp]
    refine ⟨by simp [zset], by simp [zset], by simp [zset], by simp [zset], by simp [zset], fun _ => by simp [zset], fun q_ hq => ?_⟩
    have : ¬ q_ = s_ / 2 := fun e_ => hq ⟨hp, e_⟩
    simp [zset, this]
  · simp only [if_neg hp]
    refine ⟨by simp [zset], by simp [zset], by simp [zset], by simp [zset], by simp [zset], fun h_ => absurd h_ hp, fun q_ hq => by simp [zset]⟩
theorem zzgt1 {C_ : zIn} {v_ s_ : Nat} : zgt C_ v_ s_ 1 4 s_ 3 = C_ 4 s_ 3 ∧ zgt C_ v_ s_ 1 4 s_ 4 = C_ 4 s_ 4 ∧ zgt C_ v_ s_ 1 0 v_ 1 = C_ 4 s_ 2 ∧ zgt C_ v_ s_ 1 0 v_ 2 = C_ 4 s_ 4 ∧ zgt C_ v_ s_ 1 0 v_ 3 = C_ 0 v_ 3 ∧ (s_ % 2 = 0 → zgt C_ v_ s_ 1 1 (s_ / 2) 9 = C_ 4 s_ 4) ∧ ∀ q_, ¬ (s_ % 2 = 0 ∧ q_ = s_ / 2) → zgt C_ v_ s_ 1 1 q_ 9 = C_ 1 q_ 9 := by
  unfold zgt
  rw [if_neg (by decide)]
  unfold zgt4 zgt3
  by_cases hp : s_ % 2 = 0
  · simp only [if_pos hp]
    refine ⟨by simp [zset], by simp [zset], by simp [zset], by simp [zset], by simp [zset], fun _ => by simp [zset], fun q_ hq => ?_⟩
    have : ¬ q_ = s_ / 2 := fun e_ => hq ⟨hp, e_⟩
    simp [zset, this]
  · simp only [if_neg hp]
    refine ⟨by simp [zset], by simp [zset], by simp [zset], by simp [zset], by simp [zset], fun h_ => absurd h_ hp, fun q_ hq => by simp [zset]⟩
/-- a stop laid by the class is laid as by the model -/
theorem zzgtb {C_ D_ : zIn} {v_ k_ s_ : Nat} {lv p_ : Int32} (hcs : zzcs C_ D_ s_) (hcv : zzcv C_ D_ v_) (h1 : C_ 0 v_ 1 = p_) (h2 : C_ 0 v_ 2 = lv) (hp : zzpc p_) (hl : k_ = 0 → ¬ C_ 5 v_ 10 = 0 → C_ 4 s_ 3 = D_ 30 20 v_ ∧ C_ 4 s_ 4 = D_ 30 21 v_) : zgt C_ v_ s_ (zlft C_ v_ k_) 4 s_ 3 = (zzbe D_ v_ k_ s_ lv p_).1 ∧ zgt C_ v_ s_ (zlft C_ v_ k_) 4 s_ 4 = (zzbe D_ v_ k_ s_ lv p_).2 ∧ zgt C_ v_ s_ (zlft C_ v_ k_) 0 v_ 1 = zmpl D_ s_ ∧ zgt C_ v_ s_ (zlft C_ v_ k_) 0 v_ 2 = (zzbe D_ v_ k_ s_ lv p_).2 ∧ zgt C_ v_ s_ (zlft C_ v_ k_) 0 v_ 3 = C_ 0 v_ 3 ∧ (s_ % 2 = 0 → zgt C_ v_ s_ (zlft C_ v_ k_) 1 (s_ / 2) 9 = (zzbe D_ v_ k_ s_ lv p_).2) ∧ ∀ q_, ¬ (s_ % 2 = 0 ∧ q_ = s_ / 2) → zgt C_ v_ s_ (zlft C_ v_ k_) 1 q_ 9 = C_ 1 q_ 9 := by
  obtain ⟨s1_, s2_, s3_, s4_, s5, s6_, s7, s8⟩ := hcs
  have hz := hcv.2.2.2.2.2.1
  by_cases hk : k_ = 0 ∧ ¬ C_ 5 v_ 10 = 0
  · have e_ : zlft C_ v_ k_ = 1 := if_pos hk
    have hk2 : k_ = 0 ∧ ¬ D_ 31 19 v_ = 0 := ⟨hk.1, fun e_ => hk.2 (hz.mpr e_)⟩
    obtain ⟨g1, g2⟩ := hl hk.1 hk.2
    obtain ⟨a1_, a2, a3, a4, a5, a6, a7⟩ := zzgt1 (C_ := C_) (v_ := v_) (s_ := s_)
    unfold zzbe
    rw [e_, if_pos hk2, a1_, a2, a3, a4, a5, s1_, g1, g2]
    rw [g2] at a6
    exact ⟨rfl, rfl, rfl, rfl, rfl, a6, a7⟩
  · have e_ : zlft C_ v_ k_ = 0 := if_neg hk
    have hk2 : ¬ (k_ = 0 ∧ ¬ D_ 31 19 v_ = 0) := fun h_ => hk ⟨h_.1, fun e_ => h_.2 (hz.mp e_)⟩
    obtain ⟨a1_, a2, a3, a4, a5, a6, a7⟩ := zzgt0 (C_ := C_) (v_ := v_) (s_ := s_)
    have hb_ : zgt C_ v_ s_ 0 4 s_ 3 = zplv D_ s_ lv (2 * zspm p_ (zmpl D_ s_)) + 2 * zspm p_ (zmpl D_ s_) := by
      rw [a1_, h1, h2, s1_, s3_, zzstp hp s2_]
      unfold zplv zmx
      by_cases hs : s_ % 2 = 0
      · by_cases hc_ : lv < D_ 30 34 (s_ / 2) - 2 * zspm p_ (zmpl D_ s_)
        · rw [if_pos hs, if_pos hc_, if_pos ⟨hs, hc_⟩]
        · rw [if_pos hs, if_neg hc_, if_neg (fun h_ => hc_ h_.2)]
      · rw [if_neg hs, if_neg (fun h_ => hs h_.1)]
    unfold zzbe
    rw [e_, if_neg hk2]
    rw [hb_] at a2
    rw [s5] at a2
    rw [a3, a4, a5, hb_, a2, s1_]
    rw [a2] at a6
    exact ⟨rfl, rfl, rfl, rfl, rfl, a6, a7⟩

