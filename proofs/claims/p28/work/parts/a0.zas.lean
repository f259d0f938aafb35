/-! THE CALLS: ask, the states -/
theorem zzaq {C_ : zIn} {q_ u_ : Nat} {x_ y_ : Int32} {c_ j_ f_ : Nat} (h1 : ¬ (c_ = 1 ∧ j_ = q_)) (h2 : ¬ (c_ = 99 ∧ j_ = 1 ∧ f_ = q_)) : zaqI C_ q_ u_ x_ y_ c_ j_ f_ = C_ c_ j_ f_ := by
  unfold zaqI znwI
  by_cases h_ : c_ = 99
  · subst h_
    rw [if_pos rfl, if_neg (fun e_ => h2 ⟨rfl, e_⟩)]
  · rw [if_neg h_, if_neg h1]
theorem zzaq_is {C_ : zIn} {q_ u_ : Nat} {x_ y_ : Int32} {f_ : Nat} : zaqI C_ q_ u_ x_ y_ 1 q_ f_ = zrw [Int32.ofNat u_, x_, y_, C_ 6 0 7, 10 + 4 * zstp x_ y_, 0, 0, -1, -1, -1, -1, -1, -1, 0, 0] f_ := by
  unfold zaqI
  rw [znwI_is (by decide)]
theorem zzps {C_ : zIn} {q_ : Nat} {c_ j_ f_ : Nat} (h1 : ¬ (c_ = 4 ∧ j_ / 2 = q_)) (h2 : ¬ (c_ = 99 ∧ j_ = 4 ∧ f_ / 2 = q_)) : zps C_ q_ c_ j_ f_ = C_ c_ j_ f_ := by
  unfold zps zps1 znwI
  by_cases h_ : c_ = 99
  · subst h_
    rw [if_pos rfl, if_neg (by omega), if_pos rfl, if_neg (by omega)]
  · rw [if_neg h_, if_neg (by omega), if_neg h_, if_neg (by omega)]
theorem zzps_is {C_ : zIn} {q_ : Nat} : zps C_ q_ 4 (2 * q_) 2 = C_ 1 q_ 1 ∧ zps C_ q_ 4 (2 * q_ + 1) 2 = C_ 1 q_ 2 ∧ zps C_ q_ 4 (2 * q_) 5 = 0 ∧ zps C_ q_ 4 (2 * q_ + 1) 5 = 0 := by
  have h1 : zps C_ q_ 4 (2 * q_) = zps1 C_ q_ 4 (2 * q_) := by
    unfold zps
    rw [znwI_ne (by decide) (by omega)]
  have h2 : zps1 C_ q_ 4 (2 * q_) = zrw [0, 0, C_ 1 q_ 1, 0, 0, 0] := by
    unfold zps1
    exact znwI_is (by decide)
  have h3 : zps C_ q_ 4 (2 * q_ + 1) = zrw [0, 0, zps1 C_ q_ 1 q_ 2, 0, 0, 0] := by
    unfold zps
    exact znwI_is (by decide)
  have h4 : zps1 C_ q_ 1 q_ = C_ 1 q_ := by
    unfold zps1
    exact znwI_ne (by decide) (by omega)
  rw [h1, h2, h3, h4]
  exact ⟨rfl, rfl, rfl, rfl⟩
theorem zzdny {C_ : zIn} {q_ : Nat} {z_ : Int32} {c_ j_ f_ : Nat} (h_ : ¬ (c_ = 1 ∧ j_ = q_ ∧ (f_ = 5 ∨ f_ = 6 ∨ f_ = 7))) : zdny C_ q_ z_ c_ j_ f_ = C_ c_ j_ f_ := by
  unfold zdny
  rw [zset_ne (by omega), zset_ne (by omega), zset_ne (by omega)]
theorem zzdny_is {C_ : zIn} {q_ : Nat} {z_ : Int32} : zdny C_ q_ z_ 1 q_ 5 = 6 ∧ zdny C_ q_ z_ 1 q_ 6 = z_ ∧ zdny C_ q_ z_ 1 q_ 7 = -1 := by
  unfold zdny
  refine ⟨by simp [zset], by simp [zset], by simp [zset]⟩
theorem zzakZ {D_ : zIn} {n_ : Nat} {x_ y_ z_ : Int32} {c_ j_ f_ : Nat} (h_ : ¬ (c_ = 30 ∧ 29 ≤ j_ ∧ j_ ≤ 39 ∧ f_ = n_)) : zakZ D_ n_ x_ y_ z_ c_ j_ f_ = D_ c_ j_ f_ := by
  unfold zakZ zak4 zak3
  rw [zset_ne (by omega), zset_ne (by omega), zset_ne (by omega), zset_ne (by omega), zset_ne (by omega), zset_ne (by omega), zset_ne (by omega), zset_ne (by omega)]
theorem zzakZ_is {D_ : zIn} {n_ : Nat} {x_ y_ z_ : Int32} : zakZ D_ n_ x_ y_ z_ 30 29 n_ = x_ ∧ zakZ D_ n_ x_ y_ z_ 30 30 n_ = y_ ∧ zakZ D_ n_ x_ y_ z_ 30 31 n_ = z_ ∧ zakZ D_ n_ x_ y_ z_ 30 39 n_ = D_ 7 0 1 ∧ zakZ D_ n_ x_ y_ z_ 30 36 n_ = -1 ∧ zakZ D_ n_ x_ y_ z_ 30 37 n_ = -1 ∧ zakZ D_ n_ x_ y_ z_ 30 38 n_ = -1 ∧ zakZ D_ n_ x_ y_ z_ 30 32 n_ = 0 ∧ zakZ D_ n_ x_ y_ z_ 30 33 n_ = D_ 30 33 n_ := by
  unfold zakZ zak4 zak3
  refine ⟨by simp [zset], by simp [zset], by simp [zset], by simp [zset], by simp [zset], by simp [zset], by simp [zset], by simp [zset], by simp [zset]⟩
theorem zzakD {K_ : zIn} {n_ : Nat} {w_ : Int32} {c_ j_ f_ : Nat} (h_ : ¬ (c_ = 30 ∧ (j_ = 32 ∨ j_ = 33 ∨ j_ = 34 ∨ j_ = 35) ∧ f_ = n_)) : zakD K_ n_ w_ c_ j_ f_ = K_ c_ j_ f_ := by
  unfold zakD
  rw [zset_ne (by omega), zset_ne (by omega), zset_ne (by omega), zset_ne (by omega)]
theorem zzakD_is {K_ : zIn} {n_ : Nat} {w_ : Int32} : zakD K_ n_ w_ 30 32 n_ = 6 ∧ zakD K_ n_ w_ 30 33 n_ = w_ ∧ zakD K_ n_ w_ 30 34 n_ = -1 ∧ zakD K_ n_ w_ 30 35 n_ = -1 := by
  unfold zakD
  refine ⟨by simp [zset], by simp [zset], by simp [zset], by simp [zset]⟩
theorem zzkepr {I_ : zIn} {v_ n_ f_ : Nat} (hn : n_ ≤ 16) (hf : ¬ (16 * v_ ≤ f_ ∧ f_ < 16 * v_ + 16)) : zkep I_ v_ n_ 30 26 f_ = I_ 30 26 f_ := by
  unfold zkep
  rw [zkpI_at, if_neg (by omega), zset_ne (by simp)]
theorem zzpuW {K_ : zIn} {R_ : Nat → List Nat} {r_ b_ p_ d_ c_ j_ f_ : Nat} (hR : (R_ b_).length ≤ 14) (h1 : ¬ (c_ = 30 ∧ 43 ≤ j_ ∧ j_ ≤ 46)) (h2 : ¬ (c_ = 7 ∧ j_ = 0 ∧ 42 ≤ f_ ∧ f_ ≤ 50)) (h3 : ¬ (c_ = 30 ∧ j_ = 26 ∧ 16 * b_ ≤ f_ ∧ f_ < 16 * b_ + 16)) (h4 : ¬ (c_ = 30 ∧ j_ = 27 ∧ f_ = b_)) (h5 : ¬ (c_ = 30 ∧ j_ = 35 ∧ f_ = r_)) : zpuW K_ R_ r_ b_ p_ d_ c_ j_ f_ = K_ c_ j_ f_ := by
  unfold zpuW
  rw [zset_ne h5]
  by_cases h_ : c_ = 30 ∧ j_ = 26
  · obtain ⟨rfl, rfl⟩ := h_
    rw [zzkepr (by omega) (by omega)]
    exact zlkT_fz _ _ _ h1 h2
  · rw [zkep_ne h_ h4]
    exact zlkT_fz _ _ _ h1 h2
theorem zzpuW_ro {K_ : zIn} {R_ : Nat → List Nat} {r_ b_ p_ d_ : Nat} (hro : zRo K_ b_ (R_ b_)) (hr : r_ < 60) (hp : p_ ≤ (R_ b_).length) (hd_ : d_ ≤ (R_ b_).length + 1) (h14 : (R_ b_).length ≤ 14) : zRo (zpuW K_ R_ r_ b_ p_ d_) b_ (zlkL (R_ b_) r_ p_ d_) := by
  have t_ := zlkT_tr hro hr hp hd_
  have hl := zzlkL_len (l := R_ b_) (r_ := r_) hp hd_
  have k_ := zkep_ro (v_ := b_) t_ (by omega)
  rw [hl] at k_
  unfold zpuW
  exact k_.ix (zset_ne (by simp)) (fun j_ _ => zset_ne (by simp))
theorem zzQ.cg1 {C_ C'_ D_ D' : zIn} {L_ : zLi} {v_ r_ : Nat} (h_ : zzQ C_ L_ D_ v_) (hc_ : ∀ c_ j_ f_, ((c_ = 1 ∧ ¬ j_ = r_) ∨ c_ = 2 ∨ (c_ = 4 ∧ ¬ j_ / 2 = r_) ∨ c_ = 5) → C'_ c_ j_ f_ = C_ c_ j_ f_) (hd_ : ∀ j_ f_, ¬ (29 ≤ j_ ∧ j_ ≤ 39 ∧ f_ = r_) → ¬ (43 ≤ j_ ∧ j_ ≤ 46 ∨ j_ = 51) → D' 30 j_ f_ = D_ 30 j_ f_) (hd1 : ∀ j_ f_, ¬ j_ = 0 → D' 31 j_ f_ = D_ 31 j_ f_) (h24 : ∀ s_ ∈ L_ 24 v_, ¬ s_ / 2 = r_) (h26 : ∀ q_ ∈ L_ 26 v_, ¬ q_ = r_) : zzQ C'_ L_ D' v_ := by
  obtain ⟨q1_, q2_, q3_, q4_, q5_, q6_, q7_⟩ := h_
  have hs : ∀ q_, ¬ q_ = r_ → zsea C'_ q_ = zsea C_ q_ := fun q_ hq => by unfold zsea; rw [hc_ 1 q_ 0 (by simp [hq]), hc_ 2 _ 3 (by simp)]
  have hch : ∀ q_, ¬ q_ = r_ → zchr C'_ q_ = zchr C_ q_ := fun q_ hq => by unfold zchr; rw [hc_ 1 q_ 0 (by simp [hq]), hc_ 2 _ 0 (by simp)]
  have hkd : ∀ q_, ¬ q_ = r_ → zmkd D' q_ = zmkd D_ q_ := fun q_ hq => by unfold zmkd zmrd; rw [hd_ 29 q_ (by simp [hq]) (by simp), hd_ 7 _ (by simp) (by simp)]
  have hse : ∀ q_, ¬ q_ = r_ → zmse D' q_ = zmse D_ q_ := fun q_ hq => by unfold zmse; rw [hkd q_ hq]; unfold zmrd; rw [hd_ 29 q_ (by simp [hq]) (by simp), hd1 10 _ (by simp)]
  refine ⟨q1_.ix (fun f_ => hc_ 5 v_ f_ (by simp)) rfl rfl (fun q_ hq => hs q_ (h26 q_ hq)) (fun q_ hq => hch q_ (h26 q_ hq)) (fun i_ a_ b_ => hd_ i_ v_ (by omega) (by omega)) (hd_ 25 v_ (by omega) (by omega)) (hd1 16 v_ (by omega)) (hd1 19 v_ (by omega)) (fun hro => hro.ix (hd_ 27 v_ (by omega) (by omega)) (fun k_ _ => hd_ 26 _ (by omega) (by omega))) (fun j_ _ => hd_ 24 _ (by omega) (by omega)), fun hne => ?_, q3_, fun s_ hs' => ?_, fun s_ hs' ho => ?_, q6_, q7_⟩
  · rw [hc_ 5 v_ 10 (by simp)] at hne
    obtain ⟨s_, l, e1_, e2_, e3_⟩ := q2_ hne
    have hsr := h24 s_ (by rw [e1_]; exact List.mem_cons_self)
    refine ⟨s_, l, e1_, ?_, ?_⟩
    · rw [hc_ 4 s_ 3 (by simp [hsr]), hd_ 20 v_ (by omega) (by omega)]; exact e2_
    · rw [hc_ 4 s_ 4 (by simp [hsr]), hd_ 21 v_ (by omega) (by omega)]; exact e3_
  · have hsr := h24 s_ hs'
    obtain ⟨a1_, a2, a3, a4⟩ := q4_ s_ hs'
    refine ⟨a1_, ?_, by rw [hc_ 1 _ 8 (by simp [hsr])]; exact a3, ?_⟩
    · unfold zzcs zmpl at a2 ⊢
      rw [hs _ hsr, hch _ hsr, hkd _ hsr, hse _ hsr, hc_ 4 s_ 2 (by simp [hsr]), hc_ 1 _ 7 (by simp [hsr]), hc_ 1 _ 4 (by simp [hsr]), hc_ 1 _ 0 (by simp [hsr]), hc_ 1 _ 11 (by simp [hsr]), hc_ 2 _ 4 (by simp), hd_ 30 _ (by simp [hsr]) (by simp), hd_ 31 _ (by simp [hsr]) (by simp), hd_ 34 _ (by simp [hsr]) (by simp), hd_ 37 _ (by simp [hsr]) (by simp)]
      exact a2
    · unfold zMq at a4 ⊢
      rw [hd_ 29 _ (by simp [hsr]) (by simp)]
      exact a4
  · have hsr := h24 s_ hs'
    rw [hd_ 37 _ (by simp [hsr]) (by simp)]
    exact q5_ s_ hs' ho
theorem zzcntc {f_ g_ : Nat → Bool} : ∀ (l : List Nat) (x_ : Int32), (∀ q_ ∈ l, f_ q_ = g_ q_) → zcnt f_ l x_ = zcnt g_ l x_
  | [], _, _ => rfl
  | q_ :: l, x_, h_ => by
    unfold zcnt
    rw [h_ q_ List.mem_cons_self, zzcntc l _ (fun q_ hq => h_ q_ (List.mem_cons_of_mem _ hq))]
theorem zzsus_cg {C_ C'_ : zIn} {L_ : zLi} {u_ : Nat} (hc_ : ∀ q_ ∈ L_ 22 0, ∀ f_, ¬ f_ = 9 → C'_ 1 q_ f_ = C_ 1 q_ f_) (h6 : C'_ 6 0 7 = C_ 6 0 7) : zsus C'_ L_ u_ = zsus C_ L_ u_ := by
  have e_ : ∀ b_, zcnt (zlyc C'_ u_ b_) (L_ 22 0) 0 = zcnt (zlyc C_ u_ b_) (L_ 22 0) 0 := fun b_ => zzcntc _ _ (fun q_ hq => by
    unfold zlyc zol
    rw [zznos_ix (hc_ q_ hq), hc_ q_ hq 0 (by decide), hc_ q_ hq 5 (by decide), hc_ q_ hq 3 (by decide), h6])
  unfold zsus
  rw [e_, e_]
theorem zzowd_cg {C_ C'_ : zIn} {u_ : Nat} {x_ y_ : Int32} (h31 : ∀ f_, C'_ 31 0 f_ = C_ 31 0 f_) (h6 : C'_ 6 0 6 = C_ 6 0 6) (h2 : ∀ f_, C'_ 2 u_ f_ = C_ 2 u_ f_) : zowd C'_ u_ x_ y_ = zowd C_ u_ x_ y_ := by
  have e_ : ∀ (n_ k_ : Nat) (z_ w_ : Int32), znb C'_ z_ n_ k_ w_ = znb C_ z_ n_ k_ w_ := by
    intro n_
    induction n_ with
    | zero => intro k_ z_ w_; rfl
    | succ n_ ih_ =>
      intro k_ z_ w_
      unfold znb
      rw [h31, ih_]
  unfold zowd
  rw [zzcb_n h31, h6, h2, h2, e_, e_]

