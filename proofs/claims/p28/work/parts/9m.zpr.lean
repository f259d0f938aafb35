/-! MATHEMATICS: the promised minute, alike -/
theorem zzpmt : ∀ k_, k_ < 7 → 1 ≤ k_ → (Int32.ofNat (2 * k_ - 1) - Int32.ofNat (2 * k_ - 1) / 2 * 2 = 1) ∧ 10 * ((Int32.ofNat (2 * k_ - 1) + 1) / 2) = Int32.ofNat (10 * k_) ∧ ¬ (Int32.ofNat (2 * k_) - Int32.ofNat (2 * k_) / 2 * 2 = 1) ∧ 10 * ((Int32.ofNat (2 * k_) + 1) / 2) = Int32.ofNat (10 * k_) := by decide
theorem zzset2 {I_ : zIn} {c_ i_ f_ : Nat} {x_ y_ : Int32} : zset (zset I_ c_ i_ f_ x_) c_ i_ f_ y_ = zset I_ c_ i_ f_ y_ := by
  funext c' i' f'
  unfold zset
  split <;> rfl
theorem zzset_id {I_ : zIn} {c_ i_ f_ : Nat} : zset I_ c_ i_ f_ (I_ c_ i_ f_) = I_ := by
  funext c' i' f'
  unfold zset
  split
  · rename_i h_
    obtain ⟨rfl, rfl, rfl⟩ := h_
    rfl
  · rfl
theorem zzcf.set7 {C_ C0_ : zIn} {Z_ : List Nat} {r_ f_ : Nat} {y_ z_ : Int32} (h_ : zzcf C_ (zset C0_ 1 r_ f_ y_) Z_) : zzcf (zset C_ 1 r_ f_ z_) (zset C0_ 1 r_ f_ z_) Z_ := by
  refine ⟨fun c_ i_ g_ hc_ => ?_, fun s_ hs g_ => ?_⟩
  · by_cases e_ : c_ = 1 ∧ i_ = r_ ∧ g_ = f_
    · obtain ⟨rfl, rfl, rfl⟩ := e_
      rw [zset_is, zset_is]
    · rw [zset_ne e_, zset_ne e_, h_.1 c_ i_ g_ hc_, zset_ne e_]
  · rw [zset_ne (by simp), zset_ne (by simp), h_.2 s_ hs g_, zset_ne (by simp)]
theorem zfz.set34 {K_ D_ : zIn} {r_ : Nat} {y_ z_ : Int32} (h_ : zfz K_ (zset D_ 30 34 r_ y_)) : zfz (zset K_ 30 34 r_ z_) (zset D_ 30 34 r_ z_) := by
  intro c_ i_ g_ h1 h2
  by_cases e_ : c_ = 30 ∧ i_ = 34 ∧ g_ = r_
  · obtain ⟨rfl, rfl, rfl⟩ := e_
    rw [zset_is, zset_is]
  · rw [zset_ne e_, zset_ne e_, h_ c_ i_ g_ h1 h2, zset_ne e_]
theorem zzZ_set {C_ : zIn} {L_ : zLi} {N_ r_ f_ : Nat} {z_ : Int32} : zzZ (zset C_ 1 r_ f_ z_) L_ N_ = zzZ C_ L_ N_ := by
  unfold zzZ
  congr 1
/-- no minute is promised yet -/
def zzF (C_ : zIn) (L_ : zLi) (D_ : zIn) (N_ r_ : Nat) (C'_ : zIn) (L' : zLi) (K' : zIn) : Prop := ∃ y_ y', zzcf C'_ (zset C_ 1 r_ 7 y_) (zzZ C_ L_ N_) ∧ (∀ c_ u_, ¬ (c_ = 27 ∧ u_ < N_) → L' c_ u_ = L_ c_ u_) ∧ zfz K' (zset D_ 30 34 r_ y')
/-- a minute is promised -/
def zzS (C_ : zIn) (L_ : zLi) (D_ : zIn) (N_ r_ : Nat) (x_ : Int32) (C'_ : zIn) (L' : zLi) (K' : zIn) : Prop := ∃ z_ b_ p_ d_ J_, x_ < z_ ∧ z_ ≤ 600 ∧ b_ < N_ ∧ zlkF D_ b_ ≤ p_ ∧ p_ ≤ (L_ 24 b_).length ∧ p_ < d_ ∧ d_ ≤ (L_ 24 b_).length + 1 ∧ (L_ 24 b_).length ≤ 14 ∧ zzrt (zset D_ 30 34 r_ z_) b_ (zlkL (L_ 24 b_) r_ p_ d_) (zchl C_ (L_ 26 b_)) = true ∧ zzcf C'_ (zset (zset C_ 1 r_ 7 z_) 1 r_ 8 (Int32.ofNat b_)) (zzZ C_ L_ N_) ∧ L' 24 b_ = zlkL (L_ 24 b_) r_ p_ d_ ∧ (∀ c_ u_, ¬ (c_ = 27 ∧ u_ < N_) → ¬ (c_ = 24 ∧ u_ = b_) → L' c_ u_ = L_ c_ u_) ∧ zfz J_ (zset D_ 30 34 r_ z_) ∧ K' = zpuW J_ (fun v_ => L_ 24 v_) r_ b_ p_ d_
def zzT (C_ : zIn) (L_ : zLi) (D_ : zIn) (N_ r_ : Nat) (x_ : Int32) (A_ : Bool × (zIn × zLi)) (B_ : Bool × zIn) : Prop := (A_.1 = false ∧ B_.1 = false ∧ zzF C_ L_ D_ N_ r_ A_.2.1 A_.2.2 B_.2) ∨ (A_.1 = true ∧ B_.1 = true ∧ zzS C_ L_ D_ N_ r_ x_ A_.2.1 A_.2.2 B_.2)
/-- the base of it: whatever the minute is -/
def zzBs (C_ : zIn) (L_ : zLi) (D_ : zIn) (p_ N_ r_ : Nat) (x_ : Int32) : Prop := x_ = D_ 7 0 2 ∧ C_ 6 0 8 = x_ ∧ L_ 21 0 = List.range N_ ∧ ∀ z_, zzN0 (zset C_ 1 r_ 7 z_) L_ (zset D_ 30 34 r_ z_) p_ N_ r_ ∧ ∀ v_, v_ < N_ → zzQ (zset C_ 1 r_ 7 z_) L_ (zset D_ 30 34 r_ z_) v_
def zzcst (r_ : Nat) (z_ : Int32) (I_ : zIn) (L_ : zLi) : Bool × (zIn × zLi) := if I_ 6 0 8 < z_ ∧ z_ ≤ 600 then zpb (zset I_ 1 r_ 7 z_) L_ (2 * r_) (2 * r_ + 1) (I_ 6 0 8) else (false, zset I_ 1 r_ 7 z_, L_)
theorem zzprl {r_ n_ t_ : Nat} {w_ : Int32} {I_ : zIn} {L_ : zLi} : zprl r_ w_ (n_ + 1) t_ I_ L_ = if (zzcst r_ (zpmt w_ t_) I_ L_).1 = true then zzcst r_ (zpmt w_ t_) I_ L_ else zprl r_ w_ n_ (t_ + 1) (zzcst r_ (zpmt w_ t_) I_ L_).2.1 (zzcst r_ (zpmt w_ t_) I_ L_).2.2 := by
  conv => lhs; unfold zprl
  unfold zzcst
  by_cases h_ : I_ 6 0 8 < zpmt w_ t_ ∧ zpmt w_ t_ ≤ 600
  · simp only [if_pos h_]
  · simp only [if_neg h_]
    rw [if_neg (by decide)]
theorem zzstp1 {C_ D_ C'_ K' : zIn} {L_ L' : zLi} {p_ N_ r_ : Nat} {x_ z_ : Int32} (hB_ : zzBs C_ L_ D_ p_ N_ r_ x_) (hF : zzF C_ L_ D_ N_ r_ C'_ L' K') : zzT C_ L_ D_ N_ r_ x_ (zzcst r_ z_ C'_ L') (zprA K' N_ (fun v_ => L_ 24 v_) (fun v_ => (zchl C_ (L_ 26 v_)).length) r_ z_) := by
  obtain ⟨b1, b2, b3, b4⟩ := hB_
  obtain ⟨y_, y', f1_, f2_, f3_⟩ := hF
  obtain ⟨n0_, hQ⟩ := b4 z_
  have e6_ : C'_ 6 0 8 = x_ := by rw [f1_.a6, zset_ne (by simp)]; exact b2
  have e7_ : K' 7 0 2 = x_ := by rw [f3_ 7 0 2 (by simp) (by simp), zset_ne (by simp), b1]
  have g1 : zzcf (zset C'_ 1 r_ 7 z_) (zset C_ 1 r_ 7 z_) (zzZ C_ L_ N_) := f1_.set7
  have g3_ : zfz (zset K' 30 34 r_ z_) (zset D_ 30 34 r_ z_) := f3_.set34
  unfold zzcst zprA
  rw [e6_, e7_]
  by_cases hc_ : x_ < z_ ∧ z_ ≤ 600
  · rw [if_pos hc_, if_pos hc_]
    have hW := zzW_of n0_ hQ
    have ex_ : (zset D_ 30 34 r_ z_) 7 0 2 = x_ := by rw [zset_ne (by simp)]; exact b1.symm
    rw [ex_, zzZ_set] at hW
    have hM_ : (fun v_ => (zchl (zset C_ 1 r_ 7 z_) (L_ 26 v_)).length) = (fun v_ => (zchl C_ (L_ 26 v_)).length) := by
      funext v_
      rw [zzfchl (fun q_ => by unfold zchr; rw [zset_ne (by simp), zset_ne (by simp)]) (L_ 26 v_)]
    have hch : ∀ v_, zchl (zset C_ 1 r_ 7 z_) (L_ 26 v_) = zchl C_ (L_ 26 v_) := fun v_ => zzfchl (fun q_ => by unfold zchr; rw [zset_ne (by simp), zset_ne (by simp)]) (L_ 26 v_)
    have hFl : ∀ b_, zlkF (zset D_ 30 34 r_ z_) b_ = zlkF D_ b_ := fun b_ => by unfold zlkF; rw [zset_ne (by simp)]
    have hput := zzPut hW b3 g1 g3_ f2_
    rw [hM_] at hput
    rcases hput with ⟨p1_, p2_, p3_, p4_, p5_⟩ | ⟨b_, i_, d_, q1_, q2_, q3_, q4_, q5_, q6_, q7_, q8_, q9_, t1_, t2_, t3_, t4_, J_, t5_, t6⟩
    · exact Or.inl ⟨p1_, p2_, z_, z_, p3_, p4_, p5_⟩
    · rw [hch] at q8_
      rw [hFl] at q2_
      exact Or.inr ⟨q9_, t1_, z_, b_, i_, d_, J_, hc_.1, hc_.2, q1_, q2_, q3_, q4_, q5_, q6_, q8_, t2_, t3_, t4_, t5_, t6⟩
  · rw [if_neg hc_, if_neg hc_]
    exact Or.inl ⟨rfl, rfl, z_, z_, g1, f2_, g3_⟩
theorem zzPrL {C_ D_ : zIn} {L_ : zLi} {p_ N_ r_ : Nat} {x_ w_ : Int32} (hB_ : zzBs C_ L_ D_ p_ N_ r_ x_) : ∀ (n_ k_ : Nat) (A_ : Bool × (zIn × zLi)) (B_ : Bool × zIn), n_ + k_ = 7 → 1 ≤ k_ → zzT C_ L_ D_ N_ r_ x_ A_ B_ → zzT C_ L_ D_ N_ r_ x_ (if A_.1 = true then A_ else zprl r_ w_ (2 * n_) (2 * k_ - 1) A_.2.1 A_.2.2) (zpNL N_ (fun v_ => L_ 24 v_) (fun v_ => (zchl C_ (L_ 26 v_)).length) r_ w_ n_ k_ B_)
  | 0, k_, A_, B_, hk, h1, hT_ => by
    have e_ : (if A_.1 = true then A_ else zprl r_ w_ (2 * 0) (2 * k_ - 1) A_.2.1 A_.2.2) = A_ := by
      split
      · rfl
      · rename_i h_
        show (false, A_.2.1, A_.2.2) = A_
        have : A_.1 = false := by simpa using h_
        rw [← this]
    rw [e_]
    exact hT_
  | n_ + 1, k_, A_, B_, hk, h1, hT_ => by
    rcases hT_ with ⟨a1_, a2, a3⟩ | ⟨a1_, a2, a3⟩
    · rw [if_neg (by rw [a1_]; decide)]
      unfold zpNL
      rw [if_neg (by rw [a2]; decide)]
      obtain ⟨z1, z2, z3, z4⟩ := zzpmt k_ (by omega) h1
      have m1_ : zpmt w_ (2 * k_ - 1) = w_ + Int32.ofNat (10 * k_) := by unfold zpmt; rw [if_pos z1, z2]
      have m2_ : zpmt w_ (2 * k_) = w_ - Int32.ofNat (10 * k_) := by unfold zpmt; rw [if_neg z3, z4]
      rw [show 2 * (n_ + 1) = (2 * n_ + 1) + 1 by omega, zzprl, m1_]
      have s1_ := zzstp1 (z_ := w_ + Int32.ofNat (10 * k_)) hB_ a3
      have s2_ : zzT C_ L_ D_ N_ r_ x_ (if (zzcst r_ (w_ + Int32.ofNat (10 * k_)) A_.2.1 A_.2.2).1 = true then zzcst r_ (w_ + Int32.ofNat (10 * k_)) A_.2.1 A_.2.2 else zzcst r_ (w_ - Int32.ofNat (10 * k_)) (zzcst r_ (w_ + Int32.ofNat (10 * k_)) A_.2.1 A_.2.2).2.1 (zzcst r_ (w_ + Int32.ofNat (10 * k_)) A_.2.1 A_.2.2).2.2) (zpN1 N_ (fun v_ => L_ 24 v_) (fun v_ => (zchl C_ (L_ 26 v_)).length) r_ w_ (Int32.ofNat (10 * k_)) B_.2) := by
        unfold zpN1
        rcases s1_ with ⟨c1_, c2_, c3_⟩ | ⟨c1_, c2_, c3_⟩
        · rw [if_neg (by rw [c1_]; decide), if_neg (by rw [c2_]; decide)]
          exact zzstp1 hB_ c3_
        · rw [if_pos c1_, if_pos c2_]
          exact Or.inr ⟨c1_, c2_, c3_⟩
      have ih_ := zzPrL (w_ := w_) hB_ n_ (k_ + 1) _ _ (by omega) (by omega) s2_
      rw [show 2 * (k_ + 1) - 1 = 2 * k_ - 1 + 1 + 1 by omega] at ih_
      have e_ : (if (zzcst r_ (w_ + Int32.ofNat (10 * k_)) A_.2.1 A_.2.2).1 = true then zzcst r_ (w_ + Int32.ofNat (10 * k_)) A_.2.1 A_.2.2 else zprl r_ w_ (2 * n_ + 1) (2 * k_ - 1 + 1) (zzcst r_ (w_ + Int32.ofNat (10 * k_)) A_.2.1 A_.2.2).2.1 (zzcst r_ (w_ + Int32.ofNat (10 * k_)) A_.2.1 A_.2.2).2.2) = (if (if (zzcst r_ (w_ + Int32.ofNat (10 * k_)) A_.2.1 A_.2.2).1 = true then zzcst r_ (w_ + Int32.ofNat (10 * k_)) A_.2.1 A_.2.2 else zzcst r_ (w_ - Int32.ofNat (10 * k_)) (zzcst r_ (w_ + Int32.ofNat (10 * k_)) A_.2.1 A_.2.2).2.1 (zzcst r_ (w_ + Int32.ofNat (10 * k_)) A_.2.1 A_.2.2).2.2).1 = true then (if (zzcst r_ (w_ + Int32.ofNat (10 * k_)) A_.2.1 A_.2.2).1 = true then zzcst r_ (w_ + Int32.ofNat (10 * k_)) A_.2.1 A_.2.2 else zzcst r_ (w_ - Int32.ofNat (10 * k_)) (zzcst r_ (w_ + Int32.ofNat (10 * k_)) A_.2.1 A_.2.2).2.1 (zzcst r_ (w_ + Int32.ofNat (10 * k_)) A_.2.1 A_.2.2).2.2) else zprl r_ w_ (2 * n_) (2 * k_ - 1 + 1 + 1) (if (zzcst r_ (w_ + Int32.ofNat (10 * k_)) A_.2.1 A_.2.2).1 = true then zzcst r_ (w_ + Int32.ofNat (10 * k_)) A_.2.1 A_.2.2 else zzcst r_ (w_ - Int32.ofNat (10 * k_)) (zzcst r_ (w_ + Int32.ofNat (10 * k_)) A_.2.1 A_.2.2).2.1 (zzcst r_ (w_ + Int32.ofNat (10 * k_)) A_.2.1 A_.2.2).2.2).2.1 (if (zzcst r_ (w_ + Int32.ofNat (10 * k_)) A_.2.1 A_.2.2).1 = true then zzcst r_ (w_ + Int32.ofNat (10 * k_)) A_.2.1 A_.2.2 else zzcst r_ (w_ - Int32.ofNat (10 * k_)) (zzcst r_ (w_ + Int32.ofNat (10 * k_)) A_.2.1 A_.2.2).2.1 (zzcst r_ (w_ + Int32.ofNat (10 * k_)) A_.2.1 A_.2.2).2.2).2.2) := by
        by_cases hc_ : (zzcst r_ (w_ + Int32.ofNat (10 * k_)) A_.2.1 A_.2.2).1 = true
        · simp only [if_pos hc_]
        · simp only [if_neg hc_]
          rw [zzprl, show 2 * k_ - 1 + 1 = 2 * k_ by omega, m2_]
      rw [e_]
      exact ih_
    · rw [if_pos a1_]
      unfold zpNL
      rw [if_pos a2]
      exact Or.inr ⟨a1_, a2, a3⟩
/-- promise, alike in class and model -/
theorem zzPr {C_ D_ : zIn} {L_ : zLi} {p_ N_ r_ : Nat} {x_ w_ : Int32} (hB_ : zzBs C_ L_ D_ p_ N_ r_ x_) : zzT C_ L_ D_ N_ r_ x_ (zprl r_ w_ 13 0 C_ L_) (zpNA D_ N_ (fun v_ => L_ 24 v_) (fun v_ => (zchl C_ (L_ 26 v_)).length) r_ w_) := by
  have h0 : zzF C_ L_ D_ N_ r_ C_ L_ D_ := ⟨C_ 1 r_ 7, D_ 30 34 r_, by rw [zzset_id]; exact zzcf.rfl, fun _ _ _ => rfl, by rw [zzset_id]; exact zfz.rfl⟩
  have e0_ : zpmt w_ 0 = w_ := by
    unfold zpmt
    rw [if_neg (by decide), show (10 : Int32) * ((Int32.ofNat 0 + 1) / 2) = 0 by decide, Int32.sub_zero]
  rw [show (13 : Nat) = 12 + 1 from rfl, zzprl, e0_]
  exact zzPrL (w_ := w_) hB_ 6 1 _ _ (by omega) (by omega) (zzstp1 hB_ h0)

