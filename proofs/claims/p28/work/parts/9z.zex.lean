/-! MATHEMATICS: what isRight reads; a request is taken out; a request is added -/
def zzu (K_ D_ : zIn) : Prop := (∀ j_ f_, (j_ = 7 ∨ (12 ≤ j_ ∧ j_ ≤ 23) ∨ j_ = 29 ∨ j_ = 30 ∨ j_ = 31 ∨ j_ = 34 ∨ j_ = 37) → K_ 30 j_ f_ = D_ 30 j_ f_) ∧ (∀ f_, K_ 31 10 f_ = D_ 31 10 f_ ∧ K_ 31 19 f_ = D_ 31 19 f_) ∧ K_ 7 0 2 = D_ 7 0 2
theorem zzu.kd {K_ D_ : zIn} (h_ : zzu K_ D_) (q_ : Nat) : zmkd K_ q_ = zmkd D_ q_ := by unfold zmkd zmrd; rw [h_.1 29 q_ (by simp), h_.1 7 _ (by simp)]
theorem zzu.se {K_ D_ : zIn} (h_ : zzu K_ D_) (q_ : Nat) : zmse K_ q_ = zmse D_ q_ := by unfold zmse; rw [h_.kd]; unfold zmrd; rw [h_.1 29 q_ (by simp), (h_.2.1 _).1]
theorem zzu.ch {K_ D_ : zIn} (h_ : zzu K_ D_) (q_ : Nat) : zmch K_ q_ = zmch D_ q_ := by unfold zmch; rw [h_.kd]
theorem zzu.pl {K_ D_ : zIn} (h_ : zzu K_ D_) (q_ : Nat) : zmpl K_ q_ = zmpl D_ q_ := by unfold zmpl; rw [h_.1 30 _ (by simp), h_.1 31 _ (by simp)]
theorem zzu.be {K_ D_ : zIn} (h_ : zzu K_ D_) (v_ k_ s_ : Nat) (lv p_ : Int32) : zzbe K_ v_ k_ s_ lv p_ = zzbe D_ v_ k_ s_ lv p_ := by
  unfold zzbe zplv
  rw [(h_.2.1 v_).2, h_.1 20 v_ (by simp), h_.1 21 v_ (by simp), h_.pl, h_.kd, h_.1 34 _ (by simp)]
theorem zzu.pt {K_ D_ : zIn} (h_ : zzu K_ D_) (v_ : Nat) : ∀ (l : List Nat) (k_ : Nat) (lv p_ : Int32), zzpt K_ v_ l k_ lv p_ = zzpt D_ v_ l k_ lv p_
  | [], _, _, _ => rfl
  | s_ :: r_, k_, lv, p_ => by
    unfold zzpt
    rw [h_.be, h_.pl, h_.pt v_ r_]
theorem zzu.P {K_ D_ : zIn} (h_ : zzu K_ D_) (v_ : Nat) (l : List Nat) : zzP K_ v_ l = zzP D_ v_ l := by
  unfold zzP
  rw [h_.2.2, h_.1 18 v_ (by simp), h_.1 17 v_ (by simp), h_.pt]
theorem zzu.tl {K_ D_ : zIn} (h_ : zzu K_ D_) (l : List Nat) (P_ : List (Int32 × Int32)) (k_ s_ : Nat) : zztl K_ l P_ k_ s_ = zztl D_ l P_ k_ s_ := by
  have e_ : zzpe K_ l P_ (s_ / 2) = zzpe D_ l P_ (s_ / 2) := by
    unfold zzpe
    rw [h_.1 37 _ (by simp)]
  unfold zztl zmlt
  rw [e_, h_.1 34 _ (by simp), h_.1 30 _ (by simp), h_.1 31 _ (by simp)]
theorem zzu.ck {K_ D_ : zIn} (h_ : zzu K_ D_) (v_ : Nat) (l : List Nat) (P_ : List (Int32 × Int32)) : ∀ (r_ : List Nat) (k_ : Nat) (u_ : Int32) (st_ : List Nat), zzck K_ v_ l P_ r_ k_ u_ st_ = zzck D_ v_ l P_ r_ k_ u_ st_
  | [], _, _, _ => rfl
  | s_ :: r_, k_, u_, st_ => by
    have e1_ : zzst K_ s_ st_ = zzst D_ s_ st_ := by unfold zzst; rw [h_.kd]
    have e2_ : zzsd K_ s_ st_ = zzsd D_ s_ st_ := by unfold zzsd; rw [h_.kd]
    unfold zzck
    rw [h_.tl, h_.se, h_.ch, e1_, e2_, h_.1 13 v_ (by simp), h_.1 14 v_ (by simp), h_.ck v_ l P_ r_, h_.ck v_ l P_ r_]
theorem zzu.rt {K_ D_ : zIn} (h_ : zzu K_ D_) (v_ : Nat) (l st_ : List Nat) : zzrt K_ v_ l st_ = zzrt D_ v_ l st_ := by
  unfold zzrt zzen zzba
  rw [h_.P, h_.ck, h_.1 23 v_ (by simp), h_.pl, h_.1 12 v_ (by simp)]
theorem zzRem {C_ D_ D' : zIn} {L_ : zLi} {p_ N_ M_ r_ v_ : Nat} (h_ : zzR C_ L_ D_ p_ N_ M_) (hr : r_ < M_) (h0 : C_ 1 r_ 5 = 0) (hv : v_ < N_) (e8 : C_ 1 r_ 8 = Int32.ofNat v_) (hno : zlef C_ L_ v_ r_ = false)
    (hD : ∀ c_ j_ f_, (c_ = 7 ∨ c_ = 30 ∨ (c_ = 31 ∧ ¬ j_ = 0)) → ¬ (c_ = 30 ∧ (43 ≤ j_ ∧ j_ ≤ 46 ∨ j_ = 51)) → ¬ (c_ = 7 ∧ j_ = 0 ∧ (f_ = 0 ∨ 42 ≤ f_ ∧ f_ ≤ 50)) → ¬ (c_ = 30 ∧ j_ = 26 ∧ 16 * v_ ≤ f_ ∧ f_ < 16 * v_ + 16) → ¬ (c_ = 30 ∧ j_ = 27 ∧ f_ = v_) → ¬ (c_ = 30 ∧ j_ = 32 ∧ f_ = r_) → D' c_ j_ f_ = D_ c_ j_ f_) (hD32 : D' 30 32 r_ = 6) (hro' : zRo D' v_ (zzwo r_ (L_ 24 v_))) : zzR (zset C_ 1 r_ 5 6) (zlup L_ 24 v_ (zzwo r_ (L_ 24 v_))) D' p_ N_ M_ := by
  obtain ⟨v', hv', e8', e11_, m1_, m2_, h26, h25, h24, l1, l2, l3, hl⟩ := zzst0 h_ hr h0
  have hN4 := h_.1.2.2.2.2.1
  have hvv : v' = v_ := (zof_eq (by omega) (by omega)).mp (e8'.symm.trans e8)
  subst hvv
  obtain ⟨v1_, v2, v3⟩ := h_.2.2.2.1 v' hv'
  obtain ⟨t1_, t2_, t3_, t4_, t5_, t6, t7, t8, t9⟩ := v3
  obtain ⟨gb, gc_⟩ := h_.2.2.1 r_ hr
  have nc : ∀ c_ i_ f_, ¬ (c_ = 1 ∧ i_ = r_ ∧ f_ = 5) → zset C_ 1 r_ 5 6 c_ i_ f_ = C_ c_ i_ f_ := fun c_ i_ f_ hh => zset_ne hh
  have nl : ∀ c_ u_, ¬ (c_ = 24 ∧ u_ = v') → zlup L_ 24 v' (zzwo r_ (L_ 24 v')) c_ u_ = L_ c_ u_ := fun c_ u_ h_ => zlup_ne h_
  have d30_ : ∀ j_ f_, ¬ (43 ≤ j_ ∧ j_ ≤ 46 ∨ j_ = 51) → ¬ (j_ = 26 ∧ 16 * v' ≤ f_ ∧ f_ < 16 * v' + 16) → ¬ (j_ = 27 ∧ f_ = v') → ¬ (j_ = 32 ∧ f_ = r_) → D' 30 j_ f_ = D_ 30 j_ f_ := fun j_ f_ a1_ a2 a3 a4 => hD 30 j_ f_ (by simp) (by omega) (by omega) (by omega) (by omega) (by omega)
  have d31_ : ∀ j_ f_, ¬ j_ = 0 → D' 31 j_ f_ = D_ 31 j_ f_ := fun j_ f_ a_ => hD 31 j_ f_ (by simp [a_]) (by omega) (by omega) (by omega) (by omega) (by omega)
  have c5_ : zset C_ 1 r_ 5 6 1 r_ 5 = 6 := zset_is
  have hs : ∀ q_, zsea (zset C_ 1 r_ 5 6) q_ = zsea C_ q_ := fun q_ => by unfold zsea; rw [nc 1 q_ 0 (by simp), nc 2 _ 3 (by simp)]
  have hch : ∀ q_, zchr (zset C_ 1 r_ 5 6) q_ = zchr C_ q_ := fun q_ => by unfold zchr; rw [nc 1 q_ 0 (by simp), nc 2 _ 0 (by simp)]
  have hkd : ∀ q_, zmkd D' q_ = zmkd D_ q_ := fun q_ => by unfold zmkd zmrd; rw [d30_ 29 q_ (by omega) (by omega) (by omega) (by omega), d30_ 7 _ (by omega) (by omega) (by omega) (by omega)]
  have hse : ∀ q_, zmse D' q_ = zmse D_ q_ := fun q_ => by unfold zmse; rw [hkd]; unfold zmrd; rw [d30_ 29 q_ (by omega) (by omega) (by omega) (by omega), d31_ 10 _ (by omega)]
  have hsq : ∀ w_, zsqL D' w_ M_ 0 0 = zsqL D_ w_ M_ 0 0 := fun w_ => zzsqr (r_ := r_) (fun j_ _ hj => ⟨d30_ 32 j_ (by omega) (by omega) (by omega) (by omega), d30_ 35 j_ (by omega) (by omega) (by omega) (by omega)⟩) hse (fun e_ => by rw [← gc_.2.1, h0] at e_; exact absurd e_.1 (by decide)) (fun e_ => by rw [hD32] at e_; exact absurd e_.1 (by decide))
  have hnl : ∀ s_ ∈ zzwo r_ (L_ 24 v'), s_ ∈ L_ 24 v' ∧ ¬ s_ / 2 = r_ := fun s_ hs => zzwo_mem.mp hs
  refine zzRz h_ hv' hr (fun c_ i_ f_ hh _ => nc c_ i_ f_ (by omega)) (fun f_ hf => nc 1 r_ f_ (by omega)) (fun w_ _ _ s_ _ => ⟨nc _ _ _ (by simp), fun _ _ => ⟨nc _ _ _ (by simp), nc _ _ _ (by simp)⟩⟩) (fun f_ hf => hD 7 0 f_ (by simp) (by omega) (by omega) (by omega) (by omega) (by omega)) (fun f_ => ⟨d30_ 7 f_ (by omega) (by omega) (by omega) (by omega), d30_ 8 f_ (by omega) (by omega) (by omega) (by omega), d30_ 9 f_ (by omega) (by omega) (by omega) (by omega), d31_ 10 f_ (by omega), d31_ 4 f_ (by omega)⟩) (fun j_ q_ a_ b' hq => d30_ j_ q_ (by omega) (by omega) (by omega) (by omega)) (fun q_ _ => ⟨d31_ 40 q_ (by omega), d31_ 41 q_ (by omega)⟩) (fun j_ w_ a_ b' c' d' hw => d30_ j_ w_ (by omega) (by omega) (by omega) (by omega)) (fun w_ _ => ⟨d31_ 16 w_ (by omega), d31_ 19 w_ (by omega), d31_ 22 w_ (by omega)⟩) (d30_ 13 v' (by omega) (by omega) (by omega) (by omega)) (d30_ 14 v' (by omega) (by omega) (by omega) (by omega)) (fun w_ j_ _ hj => d30_ 24 _ (by omega) (by omega) (by omega) (by omega)) (fun w_ k_ hw hk => d30_ 26 _ (by omega) (by omega) (by omega) (by omega)) (fun c_ u_ h1 h2 h3 => nl c_ u_ (fun e_ => h3 ⟨e_.2, Or.inl e_.1⟩)) ⟨?_, ?_, ?_⟩ ⟨?_, ?_, ?_⟩ h24 (fun w_ hw _ q_ hq e_ => h26 w_ hw (e_ ▸ hq)) (fun w_ hw _ s_ hs => Or.inl (h25 w_ hw s_ hs)) (fun w_ _ _ => hsq w_) (fun s_ hs hm_ => by rw [zlup_self]; exact zzwo_mem.mpr ⟨hm_, hs⟩) (fun q_ _ hm_ => by rw [nl 26 v' (by simp)]; exact hm_)
  · obtain ⟨a1_, a2, a3, a4, a5, a6, a7, a8, a9, b1, b2, b3, b4⟩ := v1_
    unfold zzRv
    rw [zlup_self, nl 26 v' (by simp), zzftak hs, zzfchl hch, nc 5 v' 4 (by simp), nc 5 v' 9 (by simp), d30_ 15 v' (by omega) (by omega) (by omega) (by omega), d31_ 16 v' (by omega), d30_ 13 v' (by omega) (by omega) (by omega) (by omega), d30_ 14 v' (by omega) (by omega) (by omega) (by omega), d30_ 23 v' (by omega) (by omega) (by omega) (by omega), d30_ 25 v' (by omega) (by omega) (by omega) (by omega)]
    refine ⟨a1_.ix (fun f_ => nc 5 v' f_ (by simp)) (fun i_ x_ y_ => d30_ i_ v' (by omega) (by omega) (by omega) (by omega)) (d31_ 19 v' (by omega)), a2, a3, a4, a5, hro', a7, a8, a9, b1, b2, b3, fun j_ q_ hj => by rw [d30_ 24 _ (by omega) (by omega) (by omega) (by omega)]; exact b4 j_ q_ hj⟩
  · obtain ⟨a1_, a2, a3⟩ := v2
    have hhd : ¬ C_ 5 v' 10 = 0 → ∀ s_, (L_ 24 v')[0]? = some s_ → ¬ s_ / 2 = r_ := fun hne s_ hs e_ => by
      unfold zlef at hno
      rw [decide_eq_true hne, Bool.true_and] at hno
      cases hle : L_ 24 v' with
      | nil => rw [hle] at hs; simp at hs
      | cons a_ b_ =>
        rw [hle] at hs hno
        have e2_ : a_ = s_ := by simpa using hs
        exact absurd (show decide (a_ / 2 = r_) = true from decide_eq_true (by rw [e2_]; exact e_)) (by rw [show decide (a_ / 2 = r_) = false from hno]; decide)
    unfold zzRl
    rw [zlup_self, nc 5 v' 10 (by simp), d30_ 20 v' (by omega) (by omega) (by omega) (by omega), d30_ 21 v' (by omega) (by omega) (by omega) (by omega), d31_ 22 v' (by omega)]
    refine ⟨fun hne => ?_, a2, fun s_ hs hne => ?_⟩
    · obtain ⟨s_, l, e1_, e2_, e3_, e4_⟩ := a1_ hne
      have hs2 := hhd hne s_ (by rw [e1_]; rfl)
      refine ⟨s_, zzwo r_ l, by rw [e1_, zzwo_ni hs2], ?_⟩
      rw [nc 4 s_ 3 (by simp), nc 4 s_ 4 (by simp), nc 4 s_ 5 (by simp)]
      exact ⟨e2_, e3_, e4_⟩
    · rw [nc 4 s_ 5 (by simp)] at hne
      obtain ⟨x1_, x2_⟩ := a3 s_ (hnl s_ hs).1 hne
      exact ⟨x1_, zzwo_hd x2_ (hnl s_ hs).2⟩
  · unfold zzRt
    rw [zlup_self, nl 25 v' (by simp), nl 26 v' (by simp), zzfchl hch, d30_ 23 v' (by omega) (by omega) (by omega) (by omega), hsq v', zzsbd_n hs _ _ (fun s_ hs => nc 1 _ 5 (by simp [h25 v' hv' s_ hs]))]
    refine ⟨zzwo_nd t1_, t2_, t3_, fun s_ hs => ?_, fun q_ hq => ?_, zzvl_wo _ _ _ t6 (fun x_ hx _ => hx), ?_, fun s_ hs => ?_, t9⟩
    · obtain ⟨x1_, x2_⟩ := hnl s_ hs
      rw [nc 1 _ 8 (by simp), nc 1 _ 5 (by simp [x2_]), nc 1 _ 1 (by simp), nc 1 _ 2 (by simp), nc 4 s_ 2 (by simp)]
      exact t4_ s_ x1_
    · have hqr : ¬ q_ = r_ := fun e_ => h26 v' hv' (e_ ▸ hq)
      rw [nc 1 _ 8 (by simp), nc 1 _ 5 (by simp [hqr])]
      exact t5_ q_ hq
    · have hcut : zzwo r_ (L_ 24 v') = l1 ++ (l2 ++ l3) := by rw [hl]; exact zzcut_wo (hl ▸ t1_)
      rw [hcut]
      refine zzfe_m hkd hse (d30_ 13 v' (by omega) (by omega) (by omega) (by omega)) (d30_ 14 v' (by omega) (by omega) (by omega) (by omega)) _ _ _ (zzfe_cut l1 l2 l3 _ _ (zzcut (hl ▸ t1_)).2.1 ?_ (hl ▸ t7))
      have hx := v1_.2.2.2.2.2.1.2.1
      rw [hl] at hx
      simp only [List.length_append, List.length_cons] at hx
      have hy := v1_.2.2.2.2.2.2.2.2.2.2.2.1
      omega
    · have hne := h25 v' hv' s_ hs
      rw [nc 1 _ 5 (by simp [hne])]
      exact t8 s_ hs
  · exact gb.jx (fun f_ hf => nc 1 r_ f_ (by omega)) (fun i_ hi_ => d30_ i_ r_ (by omega) (by omega) (by omega) (by omega))
  · obtain ⟨x1_, x2_, x3, x4_, x5_, x6, x7, x8⟩ := gc_
    have hz : znos (zset C_ 1 r_ 5 6 1 r_) = znos (C_ 1 r_) := by
      unfold znos
      rw [c5_, h0, nc 1 r_ 14 (by simp)]
      rw [show decide ((0 : Int32) = 3) = false by decide, show decide ((0 : Int32) = 4) = false by decide, show decide ((6 : Int32) = 3) = false by decide, show decide ((6 : Int32) = 4) = false by decide]
    unfold zzRc
    rw [hz, c5_, nc 1 r_ 3 (by simp), nc 1 r_ 6 (by simp), nc 1 r_ 8 (by simp), nc 1 r_ 10 (by simp), nc 1 r_ 12 (by simp), nc 1 r_ 13 (by simp), hD32, d30_ 39 r_ (by omega) (by omega) (by omega) (by omega), d30_ 33 r_ (by omega) (by omega) (by omega) (by omega), d30_ 35 r_ (by omega) (by omega) (by omega) (by omega), d30_ 36 r_ (by omega) (by omega) (by omega) (by omega), d30_ 38 r_ (by omega) (by omega) (by omega) (by omega), d31_ 41 r_ (by omega), d31_ 40 r_ (by omega)]
    exact ⟨x1_, rfl, x3, x4_, x5_, x6, x7, x8⟩
  · refine ⟨fun e_ => ?_, fun e_ => ?_⟩
    · rw [c5_] at e_; exact absurd e_ (by decide)
    · rw [c5_] at e_; exact absurd e_ (by decide)
theorem zzsq_snoc {D_ : zIn} {v_ : Nat} : ∀ (n_ k_ : Nat) (x_ : Int32), ¬ (D_ 30 32 (k_ + n_) = 1 ∧ D_ 30 35 (k_ + n_) = Int32.ofNat v_) → zsqL D_ v_ (n_ + 1) k_ x_ = zsqL D_ v_ n_ k_ x_
  | 0, k_, x_, h_ => by
    show zsqL D_ v_ 0 (k_ + 1) (x_ + zsqN D_ v_ k_) = x_
    unfold zsqN
    rw [if_neg (show ¬ (D_ 30 32 k_ = 1 ∧ D_ 30 35 k_ = Int32.ofNat v_) from h_), Int32.add_zero]; rfl
  | n_ + 1, k_, x_, h_ => by
    show zsqL D_ v_ (n_ + 1) (k_ + 1) (x_ + zsqN D_ v_ k_) = zsqL D_ v_ n_ (k_ + 1) (x_ + zsqN D_ v_ k_)
    exact zzsq_snoc n_ (k_ + 1) _ (by rw [show k_ + 1 + n_ = k_ + (n_ + 1) by omega]; exact h_)
/-- a request that is in no route is added -/
theorem zzExt {C_ C'_ D_ D' : zIn} {L_ L' : zLi} {p_ N_ M_ : Nat} (h_ : zzR C_ L_ D_ p_ N_ M_) (hM_ : M_ < 60)
    (hC : ∀ c_ i_ f_, (c_ = 1 ∨ c_ = 2 ∨ c_ = 4 ∨ c_ = 5 ∨ c_ = 6 ∨ (c_ = 31 ∧ i_ = 0)) → ¬ (c_ = 1 ∧ (f_ = 9 ∨ i_ = M_)) → ¬ (c_ = 4 ∧ (f_ = 3 ∨ f_ = 4 ∨ i_ / 2 = M_)) → C'_ c_ i_ f_ = C_ c_ i_ f_) (hCZ : ∀ s_ ∈ zzZ C_ L_ N_, ∀ f_, C'_ 4 s_ f_ = C_ 4 s_ f_)
    (h99 : ∀ c_ i_, ¬ (c_ = 1 ∧ i_ = M_) → ¬ (c_ = 4 ∧ i_ / 2 = M_) → C'_ 99 c_ i_ = C_ 99 c_ i_)
    (hD : ∀ c_ j_ f_, (c_ = 7 ∨ c_ = 30 ∨ (c_ = 31 ∧ ¬ j_ = 0)) → ¬ (c_ = 30 ∧ (43 ≤ j_ ∧ j_ ≤ 46 ∨ j_ = 51)) → ¬ (c_ = 7 ∧ j_ = 0 ∧ (f_ = 0 ∨ f_ = 28 ∨ 42 ≤ f_ ∧ f_ ≤ 50)) → ¬ (c_ = 30 ∧ 29 ≤ j_ ∧ j_ ≤ 39 ∧ f_ = M_) → D' c_ j_ f_ = D_ c_ j_ f_) (hD28 : D' 7 0 28 = Int32.ofNat (M_ + 1))
    (hL22 : L' 22 0 = List.range (M_ + 1)) (hL : ∀ c_ u_, ¬ c_ = 23 → ¬ (c_ = 27 ∧ u_ < N_) → ¬ (c_ = 22 ∧ u_ = 0) → L' c_ u_ = L_ c_ u_)
    (hb_ : zzRb C'_ D' p_ M_) (hc_ : zzRc C'_ D' M_) (h5 : C'_ 1 M_ 5 = 6) : zzR C'_ L' D' p_ N_ (M_ + 1) := by
  obtain ⟨h1, h2, h3, h4, h5', h6⟩ := h_
  obtain ⟨a1_, a2, a3, a4, a5, a6, a7, a8, a9, b1, b2, b3, b4, b5, b6, b7⟩ := h1
  have d30_ : ∀ j_ f_, ¬ (43 ≤ j_ ∧ j_ ≤ 46 ∨ j_ = 51) → ¬ (29 ≤ j_ ∧ j_ ≤ 39 ∧ f_ = M_) → D' 30 j_ f_ = D_ 30 j_ f_ := fun j_ f_ x1_ x2_ => hD 30 j_ f_ (by simp) (by omega) (by omega) (by omega)
  have d31_ : ∀ j_ f_, ¬ j_ = 0 → D' 31 j_ f_ = D_ 31 j_ f_ := fun j_ f_ a_ => hD 31 j_ f_ (by simp [a_]) (by omega) (by omega) (by omega)
  have d7_ : ∀ f_, ¬ (f_ = 0 ∨ f_ = 28 ∨ 42 ≤ f_ ∧ f_ ≤ 50) → D' 7 0 f_ = D_ 7 0 f_ := fun f_ hf => hD 7 0 f_ (by simp) (by omega) (by omega) (by omega)
  have c1_ : ∀ q_ f_, ¬ q_ = M_ → ¬ f_ = 9 → C'_ 1 q_ f_ = C_ 1 q_ f_ := fun q_ f_ x1_ x2_ => hC 1 q_ f_ (by simp) (by omega) (by omega)
  have c2_ : ∀ q_ f_, C'_ 2 q_ f_ = C_ 2 q_ f_ := fun q_ f_ => hC 2 q_ f_ (by simp) (by omega) (by omega)
  have c5_ : ∀ q_ f_, C'_ 5 q_ f_ = C_ 5 q_ f_ := fun q_ f_ => hC 5 q_ f_ (by simp) (by omega) (by omega)
  have hs : ∀ q_, q_ < M_ → zsea C'_ q_ = zsea C_ q_ := fun q_ hq => by unfold zsea; rw [c1_ q_ 0 (by omega) (by decide), c2_]
  have hch : ∀ q_, q_ < M_ → zchr C'_ q_ = zchr C_ q_ := fun q_ hq => by unfold zchr; rw [c1_ q_ 0 (by omega) (by decide), c2_]
  have hkd : ∀ q_, q_ < M_ → zmkd D' q_ = zmkd D_ q_ := fun q_ hq => by unfold zmkd zmrd; rw [d30_ 29 q_ (by omega) (by omega), d30_ 7 _ (by omega) (by omega)]
  have hse : ∀ q_, q_ < M_ → zmse D' q_ = zmse D_ q_ := fun q_ hq => by unfold zmse; rw [hkd q_ hq]; unfold zmrd; rw [d30_ 29 q_ (by omega) (by omega), d31_ 10 _ (by omega)]
  have hsq : ∀ w_, zsqL D' w_ (M_ + 1) 0 0 = zsqL D_ w_ M_ 0 0 := fun w_ => by
    rw [zzsq_snoc M_ 0 0 (by rw [Nat.zero_add, ← hc_.2.1, h5]; exact fun e_ => absurd e_.1 (by decide))]
    exact zzsq_ix M_ 0 0 (fun j_ _ hj => by unfold zsqN; rw [d30_ 32 j_ (by omega) (by omega), d30_ 35 j_ (by omega) (by omega), hse j_ (by omega)])
  refine ⟨?_, fun i_ hi_ => (h2 i_ hi_).ix (fun f_ => c2_ i_ f_) (d30_ 7 i_ (by omega) (by omega)) (d30_ 8 i_ (by omega) (by omega)) (d30_ 9 i_ (by omega) (by omega)) (d31_ 10 i_ (by omega)), fun q_ hq => ?_, fun v_ hv => ?_, fun q_ hq => ?_, ?_⟩
  · unfold zzRg
    rw [hL 20 0 (by simp) (by simp) (by simp), hL 21 0 (by simp) (by simp) (by simp), hL22, hD28, d7_ 6 (by omega), d7_ 11 (by omega), d7_ 2 (by omega), d7_ 1 (by omega), d7_ 3 (by omega), d7_ 5 (by omega), hC 6 0 8 (by simp) (by omega) (by omega), hC 6 0 7 (by simp) (by omega) (by omega), hC 6 0 6 (by simp) (by omega) (by omega), zzcb_n (fun f_ => hC 31 0 f_ (by simp) (by omega) (by omega))]
    refine ⟨a1_, a2, a3, a4, a5, a6, rfl, by omega, rfl, b1, b2, b3, b4, b5, fun k_ hk => ?_, b7⟩
    rw [hC 31 0 k_ (by simp) (by omega) (by omega), d31_ 4 k_ (by omega)]
    exact b6 k_ hk
  · by_cases e_ : q_ = M_
    · subst e_; exact ⟨hb_, hc_⟩
    · have hq' : q_ < M_ := by omega
      exact ⟨(h3 q_ hq').1.ix (fun f_ hf => c1_ q_ f_ e_ hf) (fun i_ a_ b_ => d30_ i_ q_ (by omega) (by omega)), (h3 q_ hq').2.ix (fun f_ hf => c1_ q_ f_ e_ hf) (fun i_ a_ b_ => d30_ i_ q_ (by omega) (by omega)) (d31_ 40 q_ (by omega)) (d31_ 41 q_ (by omega))⟩
  · obtain ⟨v1_, v2, v3⟩ := h4 v_ hv
    have l24 := hL 24 v_ (by simp) (by simp) (by simp)
    have l25 := hL 25 v_ (by simp) (by simp) (by simp)
    have l26 := hL 26 v_ (by simp) (by simp) (by simp)
    have ht4 := v3.2.2.2.1
    have ht5 := v3.2.2.2.2.1
    have ht8 := v3.2.2.2.2.2.2.2.1
    have s4_ : ∀ s_ ∈ L_ 24 v_, ¬ s_ / 2 = M_ := fun s_ hs => by have := (ht4 s_ hs).1; omega
    refine ⟨v1_.ix (fun f_ => c5_ v_ f_) l24 l26 (fun q_ hq => hs q_ (ht5 q_ hq).1) (fun q_ hq => hch q_ (ht5 q_ hq).1) (fun i_ a_ b_ => d30_ i_ v_ (by omega) (by omega)) (d30_ 25 v_ (by omega) (by omega)) (d31_ 16 v_ (by omega)) (d31_ 19 v_ (by omega)) (fun hro => hro.ix (d30_ 27 v_ (by omega) (by omega)) (fun k_ _ => d30_ 26 _ (by omega) (by omega))) (fun j_ _ => d30_ 24 _ (by omega) (by omega)), v2.ix (c5_ v_ 10) l24 (fun s_ hs => ⟨hC 4 s_ 5 (by simp) (by omega) (by simp [s4_ s_ hs]), fun hne h0 => ?_⟩) (d30_ 20 v_ (by omega) (by omega)) (d30_ 21 v_ (by omega) (by omega)) (d31_ 22 v_ (by omega)), v3.ix (by omega) l24 l25 l26 (fun s_ hs => ⟨c1_ _ 1 (s4_ s_ hs) (by decide), c1_ _ 2 (s4_ s_ hs) (by decide), c1_ _ 5 (s4_ s_ hs) (by decide), c1_ _ 8 (s4_ s_ hs) (by decide), hC 4 s_ 2 (by simp) (by omega) (by simp [s4_ s_ hs])⟩) (fun q_ hq => ⟨c1_ q_ 5 (by have := (ht5 q_ hq).1; omega) (by decide), c1_ q_ 8 (by have := (ht5 q_ hq).1; omega) (by decide)⟩) (fun s_ hs => c1_ _ 5 (by have := (ht8 s_ hs).1; omega) (by decide)) hs hch (fun s_ hs => hkd _ (ht4 s_ hs).1) (fun s_ hs => hse _ (ht4 s_ hs).1) (d30_ 13 v_ (by omega) (by omega)) (d30_ 14 v_ (by omega) (by omega)) (d30_ 23 v_ (by omega) (by omega)) (hsq v_)⟩
    have hz := zzZ_mem.mpr ⟨v_, hv, hne, h0⟩
    exact ⟨hCZ s_ hz 3, hCZ s_ hz 4⟩
  · by_cases e_ : q_ = M_
    · subst e_
      refine ⟨fun e_ => ?_, fun e_ => ?_⟩
      · rw [h5] at e_; exact absurd e_ (by decide)
      · rw [h5] at e_; exact absurd e_ (by decide)
    · exact (h5' q_ (by omega)).ix (c1_ q_ 5 e_ (by decide)) (c1_ q_ 8 e_ (by decide)) (c1_ q_ 11 e_ (by decide)) (fun v_ _ hm_ => by rw [hL 24 v_ (by simp) (by simp) (by simp)]; exact hm_) (fun v_ _ hm_ => by rw [hL 24 v_ (by simp) (by simp) (by simp)]; exact hm_) (fun v_ _ hm_ => by rw [hL 26 v_ (by simp) (by simp) (by simp)]; exact hm_)
  · obtain ⟨x1_, x2_, x3, x4_, x5_⟩ := h6
    refine ⟨fun i_ hi_ => ?_, fun r_ hr => ?_, fun v_ hv => ?_, fun r_ h1 h2 => ?_, fun v_ h1 h2 => ?_⟩
    · rw [h99 2 i_ (by simp) (by simp)]; exact x1_ i_ hi_
    · rw [h99 1 r_ (by omega) (by omega), h99 4 (2 * r_) (by omega) (by omega), h99 4 (2 * r_ + 1) (by omega) (by omega)]; exact x2_ r_ (by omega)
    · rw [h99 5 v_ (by simp) (by simp), h99 0 v_ (by simp) (by simp), h99 24 v_ (by simp) (by simp), h99 25 v_ (by simp) (by simp), h99 26 v_ (by simp) (by simp), h99 27 v_ (by simp) (by simp), hL 24 v_ (by simp) (by simp) (by simp), hL 25 v_ (by simp) (by simp) (by simp), hL 26 v_ (by simp) (by simp) (by simp), hL 27 v_ (by simp) (by omega) (by simp)]
      exact x3 v_ hv
    · rw [d30_ 33 r_ (by omega) (by omega), d31_ 40 r_ (by omega), d31_ 41 r_ (by omega)]; exact x4_ r_ (by omega) h2
    · rw [d30_ 18 v_ (by omega) (by omega), d31_ 19 v_ (by omega), d31_ 22 v_ (by omega), d30_ 23 v_ (by omega) (by omega), d30_ 25 v_ (by omega) (by omega), d30_ 27 v_ (by omega) (by omega)]; exact x5_ v_ h1 h2

