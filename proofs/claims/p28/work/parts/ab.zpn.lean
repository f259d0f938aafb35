/-! THE MINUTE: a pick at which nobody boards -/
theorem zzhd0 {q_ s_ : Nat} {l l1 l2 l3 : List Nat} (hn : (s_ :: l).Nodup) (hs : s_ = 2 * q_) (hl : s_ :: l = l1 ++ 2 * q_ :: (l2 ++ (2 * q_ + 1) :: l3)) : l1 = [] ∧ l = l2 ++ (2 * q_ + 1) :: l3 := by
  cases l1 with
  | nil => exact ⟨rfl, (List.cons.inj hl).2⟩
  | cons a_ l1 =>
    have h2 := (List.cons.inj hl).2
    refine absurd ?_ (List.nodup_cons.mp hn).1
    rw [h2, hs]
    exact List.mem_append_right _ List.mem_cons_self
theorem zzPn {C_ D_ : zIn} {L_ : zLi} {p_ N_ M_ v_ s_ d' : Nat} {l : List Nat} (h_ : zzR C_ L_ D_ p_ N_ M_) (hv : v_ < N_) (hne : ¬ C_ 5 v_ 10 = 0) (hl : L_ 24 v_ = s_ :: l) (hev : s_ % 2 = 0) (hd' : d' < (ztoL l (s_ / 2)).length) (he : (ztoL l (s_ / 2)).eraseIdx d' = zzwo (s_ / 2) l) : zzR (zset (zpi1 (zfi1 C_ v_ s_ (D_ 7 0 2)) s_) 1 (s_ / 2) 5 (if D_ 31 41 (s_ / 2) = 0 then 5 else 3)) (zlup (zfiL L_ v_ s_) 24 v_ (ztko (s_ / 2) (zfiL L_ v_ s_ 24 v_).length (zfiL L_ v_ s_ 24 v_))) (ztoF (zpkN (zpk2 (zdn4 D_ v_ s_ l.length) v_ (s_ / 2)) (s_ / 2)) v_ l (s_ / 2) d') p_ N_ M_ ∧ zzfm C_ D_ (zset (zpi1 (zfi1 C_ v_ s_ (D_ 7 0 2)) s_) 1 (s_ / 2) 5 (if D_ 31 41 (s_ / 2) = 0 then 5 else 3)) (ztoF (zpkN (zpk2 (zdn4 D_ v_ s_ l.length) v_ (s_ / 2)) (s_ / 2)) v_ l (s_ / 2) d') := by
  obtain ⟨v1_, v2, v3⟩ := h_.2.2.2.1 v_ hv
  obtain ⟨s', l', e1_, e3_, e4_, e5_⟩ := v2.1 hne
  have hss : s' = s_ := by rw [hl] at e1_; exact (List.cons.inj e1_).1.symm
  subst hss
  have hQ := zzQ_of h_ hv
  obtain ⟨a1_, a2, a3, a4, a5, a6, a7, a8, a9, b1, b2, b3, b4⟩ := v1_
  obtain ⟨c1_, c2_, c3_, c4_, c5_, c6_, c7_, c8_⟩ := a1_
  obtain ⟨t1_, t2_, t3_, t4_, t5_, t6, t7, t8, t9⟩ := v3
  have hN4 := h_.1.2.2.2.2.1
  have hM60 := h_.1.2.2.2.2.2.2.2.1
  have hsm : s' ∈ L_ 24 v_ := by rw [hl]; exact List.mem_cons_self
  obtain ⟨hqM, hq8, hq0, _, _⟩ := t4_ s' hsm
  have h50 := hq0 hev
  obtain ⟨v', hv', e8', e11_, m1_, m2_, h26, h25, h24, l1, l2, l3, hll⟩ := zzst0 h_ hqM h50
  have hvv : v' = v_ := (zof_eq (by omega) (by omega)).mp (e8'.symm.trans hq8)
  subst hvv
  rw [hl] at t1_ t6 t7 hll
  obtain ⟨rfl, hl2⟩ := zzhd0 t1_ (by omega) hll
  have n1_ := (List.nodup_cons.mp t1_).1
  have n2_ := (List.nodup_cons.mp t1_).2
  have hvl := (zzvl_e hev).mp t6
  have hl16 : l.length ≤ 16 := by have := a6.2.1; rw [hl, List.length_cons] at this; omega
  obtain ⟨gb, gc_⟩ := h_.2.2.1 (s' / 2) hqM
  have hcs := (hQ.2.2.2.1 s' hsm).2.1
  obtain ⟨f1_, f2_, f3_, f4_⟩ := zzfiL hl
  obtain ⟨g1, g2, g3_, g4⟩ := zzfi1 (C_ := C_) (v_ := v') (s_ := s') (x_ := D_ 7 0 2)
  have hro4 := zzdn4_ro (hl ▸ a6)
  obtain ⟨i1_, i2_, i3_, i4_⟩ := zzdn4_is (D_ := D_) (v_ := v') (s_ := s') (n_ := l.length)
  have nDn : ∀ c_ i_ f_, ¬ (c_ = 31 ∧ (i_ = 19 ∨ i_ = 22) ∧ f_ = v') → ¬ (c_ = 30 ∧ (i_ = 17 ∨ i_ = 18 ∨ i_ = 27) ∧ f_ = v') → ¬ (c_ = 30 ∧ i_ = 26 ∧ 16 * v' ≤ f_ ∧ f_ < 16 * v' + 16) → ¬ (c_ = 30 ∧ i_ = 43) → ¬ (c_ = 7 ∧ i_ = 0 ∧ f_ = 42) → zdn4 D_ v' s' l.length c_ i_ f_ = D_ c_ i_ f_ := fun c_ i_ f_ => zzdn4 hl16
  generalize hDn : zdn4 D_ v' s' l.length = Dn at *
  have eJ : zpkN (zpk2 Dn v' (s' / 2)) (s' / 2) = zset (zset (zset (zset Dn 30 36 (s' / 2) (D_ 30 20 v')) 30 37 (s' / 2) (D_ 30 21 v')) 30 32 (s' / 2) (if D_ 31 41 (s' / 2) = 0 then 5 else 3)) 31 40 (s' / 2) (zbo (D_ 31 41 (s' / 2))) := by
    unfold zpkN zpk2
    rw [zset_ne (show ¬ (30 = 30 ∧ 21 = 36 ∧ v' = s' / 2) by simp), zset_ne (show ¬ (31 = 30 ∧ 41 = 37 ∧ s' / 2 = s' / 2) by simp), zset_ne (show ¬ (31 = 30 ∧ 41 = 36 ∧ s' / 2 = s' / 2) by simp), zset_ne (show ¬ (31 = 30 ∧ 41 = 32 ∧ s' / 2 = s' / 2) by simp), zset_ne (show ¬ (31 = 30 ∧ 41 = 37 ∧ s' / 2 = s' / 2) by simp), zset_ne (show ¬ (31 = 30 ∧ 41 = 36 ∧ s' / 2 = s' / 2) by simp), nDn 30 20 v' (by simp) (by simp) (by simp) (by simp) (by simp), nDn 30 21 v' (by simp) (by simp) (by simp) (by simp) (by simp), nDn 31 41 (s' / 2) (by simp) (by simp) (by simp) (by simp) (by simp)]
  have eC_ : zpi1 (zfi1 C_ v' s' (D_ 7 0 2)) s' = zset (zset (zfi1 C_ v' s' (D_ 7 0 2)) 1 (s' / 2) 10 (D_ 30 20 v')) 1 (s' / 2) 11 (D_ 30 21 v') := by
    unfold zpi1
    rw [zset_ne (show ¬ (4 = 1 ∧ s' = s' / 2 ∧ 4 = 10) by simp), g4 4 s' 3 (by simp), g4 4 s' 4 (by simp), e3_, e4_]
  rw [eJ, eC_, f1_, zzko_all]
  generalize hq : s' / 2 = q_ at *
  have ht : ∃ t_ : Int32, t_ = (if D_ 31 41 q_ = 0 then 5 else 3) ∧ (t_ = 5 ∨ t_ = 3) := ⟨_, rfl, by split; exact Or.inl rfl; exact Or.inr rfl⟩
  obtain ⟨t_, ht, ht2⟩ := ht
  rw [← ht]
  have ht0 : ¬ t_ = 0 ∧ ¬ t_ = 1 ∧ ¬ t_ = 2 ∧ ¬ t_ = 4 := by rcases ht2 with rfl | rfl <;> decide
  have nc : ∀ c_ i_ f_, ¬ (c_ = 5 ∧ i_ = v' ∧ (f_ = 10 ∨ f_ = 11 ∨ f_ = 12)) → ¬ (c_ = 1 ∧ i_ = q_ ∧ (f_ = 5 ∨ f_ = 10 ∨ f_ = 11)) → zset (zset (zset (zfi1 C_ v' s' (D_ 7 0 2)) 1 q_ 10 (D_ 30 20 v')) 1 q_ 11 (D_ 30 21 v')) 1 q_ 5 t_ c_ i_ f_ = C_ c_ i_ f_ := fun c_ i_ f_ x1_ x2_ => by
    rw [zset_ne (by omega), zset_ne (by omega), zset_ne (by omega), g4 c_ i_ f_ x1_]
  have p10 : zset (zset (zset (zfi1 C_ v' s' (D_ 7 0 2)) 1 q_ 10 (D_ 30 20 v')) 1 q_ 11 (D_ 30 21 v')) 1 q_ 5 t_ 5 v' 10 = 0 := by rw [zset_ne (by simp), zset_ne (by simp), zset_ne (by simp), g1]
  have p11 : zset (zset (zset (zfi1 C_ v' s' (D_ 7 0 2)) 1 q_ 10 (D_ 30 20 v')) 1 q_ 11 (D_ 30 21 v')) 1 q_ 5 t_ 5 v' 11 = zmpl D_ s' := by rw [zset_ne (by simp), zset_ne (by simp), zset_ne (by simp), g2, hcs.1]
  have p12 : zset (zset (zset (zfi1 C_ v' s' (D_ 7 0 2)) 1 q_ 10 (D_ 30 20 v')) 1 q_ 11 (D_ 30 21 v')) 1 q_ 5 t_ 5 v' 12 = D_ 7 0 2 := by rw [zset_ne (by simp), zset_ne (by simp), zset_ne (by simp), g3_]
  have p5_ : zset (zset (zset (zfi1 C_ v' s' (D_ 7 0 2)) 1 q_ 10 (D_ 30 20 v')) 1 q_ 11 (D_ 30 21 v')) 1 q_ 5 t_ 1 q_ 5 = t_ := zset_is
  have pa : zset (zset (zset (zfi1 C_ v' s' (D_ 7 0 2)) 1 q_ 10 (D_ 30 20 v')) 1 q_ 11 (D_ 30 21 v')) 1 q_ 5 t_ 1 q_ 10 = D_ 30 20 v' := by rw [zset_ne (by simp), zset_ne (by simp), zset_is]
  have pb : zset (zset (zset (zfi1 C_ v' s' (D_ 7 0 2)) 1 q_ 10 (D_ 30 20 v')) 1 q_ 11 (D_ 30 21 v')) 1 q_ 5 t_ 1 q_ 11 = D_ 30 21 v' := by rw [zset_ne (by simp), zset_is]
  generalize hC' : zset (zset (zset (zfi1 C_ v' s' (D_ 7 0 2)) 1 q_ 10 (D_ 30 20 v')) 1 q_ 11 (D_ 30 21 v')) 1 q_ 5 t_ = C'_ at *
  have nJ : ∀ c_ i_ f_, ¬ (c_ = 30 ∧ (i_ = 36 ∨ i_ = 37 ∨ i_ = 32) ∧ f_ = q_) → ¬ (c_ = 31 ∧ i_ = 40 ∧ f_ = q_) → zset (zset (zset (zset Dn 30 36 q_ (D_ 30 20 v')) 30 37 q_ (D_ 30 21 v')) 30 32 q_ t_) 31 40 q_ (zbo (D_ 31 41 q_)) c_ i_ f_ = Dn c_ i_ f_ := fun c_ i_ f_ x1_ x2_ => by
    rw [zset_ne (by omega), zset_ne (by omega), zset_ne (by omega), zset_ne (by omega)]
  have j36 : zset (zset (zset (zset Dn 30 36 q_ (D_ 30 20 v')) 30 37 q_ (D_ 30 21 v')) 30 32 q_ t_) 31 40 q_ (zbo (D_ 31 41 q_)) 30 36 q_ = D_ 30 20 v' := by rw [zset_ne (by simp), zset_ne (by simp), zset_ne (by simp), zset_is]
  have j37 : zset (zset (zset (zset Dn 30 36 q_ (D_ 30 20 v')) 30 37 q_ (D_ 30 21 v')) 30 32 q_ t_) 31 40 q_ (zbo (D_ 31 41 q_)) 30 37 q_ = D_ 30 21 v' := by rw [zset_ne (by simp), zset_ne (by simp), zset_is]
  have j32 : zset (zset (zset (zset Dn 30 36 q_ (D_ 30 20 v')) 30 37 q_ (D_ 30 21 v')) 30 32 q_ t_) 31 40 q_ (zbo (D_ 31 41 q_)) 30 32 q_ = t_ := by rw [zset_ne (by simp), zset_is]
  have j40 : zset (zset (zset (zset Dn 30 36 q_ (D_ 30 20 v')) 30 37 q_ (D_ 30 21 v')) 30 32 q_ t_) 31 40 q_ (zbo (D_ 31 41 q_)) 31 40 q_ = zbo (D_ 31 41 q_) := zset_is
  generalize hJ : zset (zset (zset (zset Dn 30 36 q_ (D_ 30 20 v')) 30 37 q_ (D_ 30 21 v')) 30 32 q_ t_) 31 40 q_ (zbo (D_ 31 41 q_)) = J_ at *
  have hroJ : zRo J_ v' l := hro4.ix (nJ _ _ _ (by simp) (by simp)) (fun k_ _ => nJ _ _ _ (by simp) (by simp))
  have hroF := zztoF_ro hroJ hd' he
  have nF : ∀ c_ i_ f_, ¬ (c_ = 30 ∧ i_ = 43) → ¬ (c_ = 7 ∧ i_ = 0 ∧ f_ = 42) → ¬ (c_ = 30 ∧ i_ = 27 ∧ f_ = v') → ¬ (c_ = 30 ∧ i_ = 26 ∧ 16 * v' ≤ f_ ∧ f_ < 16 * v' + 16) → ztoF J_ v' l q_ d' c_ i_ f_ = J_ c_ i_ f_ := fun c_ i_ f_ x1_ x2_ x3 x4_ => by
    by_cases e_ : c_ = 30 ∧ i_ = 26
    · obtain ⟨rfl, rfl⟩ := e_
      exact zzto26 (by omega)
    · exact zztoF_ne (by omega) x2_ x3
  generalize hD' : ztoF J_ v' l q_ d' = D' at *
  have nd_ : ∀ c_ i_ f_, ¬ (c_ = 31 ∧ (i_ = 19 ∨ i_ = 22) ∧ f_ = v') → ¬ (c_ = 30 ∧ (i_ = 17 ∨ i_ = 18 ∨ i_ = 27) ∧ f_ = v') → ¬ (c_ = 30 ∧ i_ = 26 ∧ 16 * v' ≤ f_ ∧ f_ < 16 * v' + 16) → ¬ (c_ = 30 ∧ i_ = 43) → ¬ (c_ = 7 ∧ i_ = 0 ∧ f_ = 42) → ¬ (c_ = 30 ∧ (i_ = 36 ∨ i_ = 37 ∨ i_ = 32) ∧ f_ = q_) → ¬ (c_ = 31 ∧ i_ = 40 ∧ f_ = q_) → D' c_ i_ f_ = D_ c_ i_ f_ := fun c_ i_ f_ x1_ x2_ x3 x4_ x5_ x6 x7 => by
    rw [nF c_ i_ f_ x4_ x5_ (by omega) x3, nJ c_ i_ f_ x6 x7, nDn c_ i_ f_ x1_ x2_ x3 x4_ x5_]
  have k36 : D' 30 36 q_ = D_ 30 20 v' := by rw [nF _ _ _ (by simp) (by simp) (by simp) (by simp), j36]
  have k37 : D' 30 37 q_ = D_ 30 21 v' := by rw [nF _ _ _ (by simp) (by simp) (by simp) (by simp), j37]
  have k32 : D' 30 32 q_ = t_ := by rw [nF _ _ _ (by simp) (by simp) (by simp) (by simp), j32]
  have k40 : D' 31 40 q_ = zbo (D_ 31 41 q_) := by rw [nF _ _ _ (by simp) (by simp) (by simp) (by simp), j40]
  have kk : ∀ c_ i_, ¬ c_ = 7 → ¬ (c_ = 30 ∧ (i_ = 36 ∨ i_ = 37 ∨ i_ = 32 ∨ i_ = 43 ∨ i_ = 27 ∨ i_ = 26)) → ¬ (c_ = 31 ∧ i_ = 40) → D' c_ i_ v' = Dn c_ i_ v' := fun c_ i_ x0_ x1_ x2_ => by
    rw [nF c_ i_ v' (by omega) (by omega) (by omega) (by omega), nJ c_ i_ v' (by omega) (by omega)]
  have l24 : zlup (zfiL L_ v' s') 24 v' (zzwo q_ l) 24 v' = zzwo q_ l := zlup_self
  have l25 : zlup (zfiL L_ v' s') 24 v' (zzwo q_ l) 25 v' = L_ 25 v' ++ [s'] := by rw [zlup_ne (by simp)]; exact f2_
  have l26 : zlup (zfiL L_ v' s') 24 v' (zzwo q_ l) 26 v' = L_ 26 v' := by rw [zlup_ne (by simp)]; exact f3_
  have nl : ∀ c_ u_, ¬ (u_ = v' ∧ (c_ = 24 ∨ c_ = 25 ∨ c_ = 26)) → zlup (zfiL L_ v' s') 24 v' (zzwo q_ l) c_ u_ = L_ c_ u_ := fun c_ u_ hh => by
    rw [zlup_ne (by omega)]; exact f4_ c_ u_ hh
  generalize hL' : zlup (zfiL L_ v' s') 24 v' (zzwo q_ l) = L' at *
  have hs : ∀ q_, zsea C'_ q_ = zsea C_ q_ := fun q_ => by unfold zsea; rw [nc 1 q_ 0 (by simp) (by simp), nc 2 _ 3 (by simp) (by simp)]
  have hch : ∀ q_, zchr C'_ q_ = zchr C_ q_ := fun q_ => by unfold zchr; rw [nc 1 q_ 0 (by simp) (by simp), nc 2 _ 0 (by simp) (by simp)]
  have hkd : ∀ q_, zmkd D' q_ = zmkd D_ q_ := fun q_ => by
    unfold zmkd zmrd
    rw [nd_ 30 29 q_ (by simp) (by simp) (by simp) (by simp) (by simp) (by simp) (by simp), nd_ 30 7 _ (by simp) (by simp) (by simp) (by simp) (by simp) (by simp) (by simp)]
  have hse : ∀ q_, zmse D' q_ = zmse D_ q_ := fun q_ => by
    unfold zmse
    rw [hkd]
    unfold zmrd
    rw [nd_ 30 29 q_ (by simp) (by simp) (by simp) (by simp) (by simp) (by simp) (by simp), nd_ 31 10 _ (by simp) (by simp) (by simp) (by simp) (by simp) (by simp) (by simp)]
  have hs25 : ¬ s' ∈ L_ 25 v' := fun hm_ => h25 v' hv s' hm_ hq
  have e35 : D_ 30 35 q_ = Int32.ofNat v' := by rw [← gc_.2.2.2.1]; exact hq8
  have e32 : D_ 30 32 q_ = 0 := by rw [← gc_.2.1]; exact h50
  have hwm : ∀ x_ ∈ zzwo q_ l, x_ ∈ L_ 24 v' ∧ ¬ x_ / 2 = q_ := fun x_ hx => by
    obtain ⟨y1, y2⟩ := zzwo_mem.mp hx
    exact ⟨by rw [hl]; exact List.mem_cons_of_mem _ y1, y2⟩
  have hsqA : ∀ w_, zsqL D' w_ M_ 0 0 = zsqL D_ w_ M_ 0 0 := fun w_ => zzsqr (r_ := q_) (fun j_ _ hj => ⟨nd_ 30 32 j_ (by simp) (by simp) (by simp) (by simp) (by simp) (by simp [hj]) (by simp), nd_ 30 35 j_ (by simp) (by simp) (by simp) (by simp) (by simp) (by simp) (by simp)⟩) hse (fun e_ => by rw [e32] at e_; exact absurd e_.1 (by decide)) (fun e_ => by rw [k32] at e_; exact ht0.2.1 e_.1)
  refine ⟨zzRz (r_ := q_) h_ hv hqM (fun c_ i_ f_ hh _ => nc c_ i_ f_ (by omega) (by omega)) (fun f_ hf => nc 1 q_ f_ (by simp) (by omega)) (fun w_ _ _ t_ _ => ⟨nc _ _ _ (by simp) (by simp), fun _ _ => ⟨nc _ _ _ (by simp) (by simp), nc _ _ _ (by simp) (by simp)⟩⟩) (fun f_ hf => nd_ 7 0 f_ (by simp) (by simp) (by simp) (by simp) (by omega) (by simp) (by simp)) (fun f_ => ⟨nd_ _ _ _ (by simp) (by simp) (by simp) (by simp) (by simp) (by simp) (by simp), nd_ _ _ _ (by simp) (by simp) (by simp) (by simp) (by simp) (by simp) (by simp), nd_ _ _ _ (by simp) (by simp) (by simp) (by simp) (by simp) (by simp) (by simp), nd_ _ _ _ (by simp) (by simp) (by simp) (by simp) (by simp) (by simp) (by simp), nd_ _ _ _ (by simp) (by simp) (by simp) (by simp) (by simp) (by simp) (by simp)⟩) (fun i_ x_ a_ b_ hx => nd_ 30 i_ x_ (by omega) (by omega) (by omega) (by omega) (by omega) (by omega) (by omega)) (fun x_ hx => ⟨nd_ 31 40 x_ (by simp) (by simp) (by simp) (by simp) (by simp) (by simp) (by simp [hx]), nd_ 31 41 x_ (by simp) (by simp) (by simp) (by simp) (by simp) (by simp) (by simp)⟩) (fun i_ w_ a_ b_ c_ c' hw => nd_ 30 i_ w_ (by omega) (by omega) (by omega) (by omega) (by omega) (by omega) (by omega)) (fun w_ hw => ⟨nd_ _ _ _ (by simp [hw]) (by simp) (by simp) (by simp) (by simp) (by simp) (by simp), nd_ _ _ _ (by simp [hw]) (by simp) (by simp) (by simp) (by simp) (by simp) (by simp), nd_ _ _ _ (by simp [hw]) (by simp) (by simp) (by simp) (by simp) (by simp) (by simp)⟩) (nd_ _ _ _ (by simp) (by simp) (by simp) (by simp) (by simp) (by simp) (by simp)) (nd_ _ _ _ (by simp) (by simp) (by simp) (by simp) (by simp) (by simp) (by simp)) (fun w_ j_ hw hj => nd_ _ _ _ (by simp) (by simp) (by simp) (by simp) (by simp) (by simp) (by simp)) (fun w_ k_ hw hk => nd_ 30 26 _ (by simp) (by simp) (by omega) (by simp) (by simp) (by simp) (by simp)) (fun c_ u_ h1 h2 h3 => nl c_ u_ h3) ⟨?_, ?_, ?_⟩ ⟨?_, ?_, ?_⟩ h24 (fun w_ hw _ x_ hx e_ => h26 w_ hw (e_ ▸ hx)) (fun w_ hw _ x_ hx => Or.inl (h25 w_ hw x_ hx)) (fun w_ hw hwv => hsqA w_) (fun x_ hx hm_ => ?_) (fun x_ _ hm_ => by rw [l26]; exact hm_), fun c_ i_ f_ hh => nc c_ i_ f_ (by omega) (by omega), fun c_ i_ f_ hh => nd_ c_ i_ f_ (by omega) (by omega) (by omega) (by omega) (by omega) (by omega) (by omega), nd_ 7 0 0 (by simp) (by simp) (by simp) (by simp) (by simp) (by simp) (by simp), nd_ 7 0 2 (by simp) (by simp) (by simp) (by simp) (by simp) (by simp) (by simp)⟩
  · unfold zzRv zzcv
    rw [l24, l26, zzftak hs, zzfchl hch, p10, p11, p12, nc 5 v' 1 (by simp) (by simp), nc 5 v' 2 (by simp) (by simp), nc 5 v' 3 (by simp) (by simp), nc 5 v' 4 (by simp) (by simp), nc 5 v' 9 (by simp) (by simp), kk 31 19 (by simp) (by simp) (by simp), i1_, kk 30 17 (by simp) (by simp) (by simp), i3_, kk 30 18 (by simp) (by simp) (by simp), i4_, nd_ 30 12 v' (by simp) (by simp) (by simp) (by simp) (by simp) (by simp) (by simp), nd_ 30 13 v' (by simp) (by simp) (by simp) (by simp) (by simp) (by simp) (by simp), nd_ 30 14 v' (by simp) (by simp) (by simp) (by simp) (by simp) (by simp) (by simp), nd_ 30 15 v' (by simp) (by simp) (by simp) (by simp) (by simp) (by simp) (by simp), nd_ 31 16 v' (by simp) (by simp) (by simp) (by simp) (by simp) (by simp) (by simp), nd_ 30 23 v' (by simp) (by simp) (by simp) (by simp) (by simp) (by simp) (by simp), nd_ 30 25 v' (by simp) (by simp) (by simp) (by simp) (by simp) (by simp) (by simp)]
    exact ⟨⟨c1_, c2_, c3_, rfl, rfl, ⟨fun _ => rfl, fun _ => rfl⟩, hcs.2.1, c8_⟩, a2, a3, a4, a5, hroF, a7, a8, a9, b1, b2, b3, fun j_ x_ hj => by rw [nd_ 30 24 _ (by simp) (by simp) (by simp) (by simp) (by simp) (by simp) (by simp)]; exact b4 j_ x_ hj⟩
  · unfold zzRl
    rw [l24, p10, kk 31 22 (by simp) (by simp) (by simp), i2_]
    refine ⟨fun e_ => absurd rfl e_, fun _ => rfl, fun x_ hx hx5 => ?_⟩
    rw [nc 4 x_ 5 (by simp) (by simp)] at hx5
    have h0 := (v2.2.2 x_ (hwm x_ hx).1 hx5).2
    rw [hl] at h0
    have : s' = x_ := by simpa using h0
    exact absurd (this ▸ hq) (hwm x_ hx).2
  · unfold zzRt
    rw [l24, l25, l26, zzfchl hch, nd_ 30 23 v' (by simp) (by simp) (by simp) (by simp) (by simp) (by simp) (by simp), hsqA]
    refine ⟨zzwo_nd n2_, t2_, List.nodup_append.mpr ⟨t3_, List.nodup_cons.mpr ⟨List.not_mem_nil, List.nodup_nil⟩, fun a_ ha_ b_ hb_ e_ => ?_⟩, fun x_ hx => ?_, fun x_ hx => ?_, zzvl_wo _ _ _ hvl (fun x_ hx hxq => (List.mem_cons.mp hx).resolve_left hxq), ?_, fun x_ hx => ?_, ?_⟩
    · rw [List.mem_singleton] at hb_
      exact hs25 (hb_ ▸ e_ ▸ ha_)
    · obtain ⟨y1, y2⟩ := hwm x_ hx
      rw [nc 1 _ 8 (by simp) (by simp), nc 1 _ 5 (by simp) (by simp [y2]), nc 1 _ 1 (by simp) (by simp), nc 1 _ 2 (by simp) (by simp), nc 4 x_ 2 (by simp) (by simp)]
      exact t4_ x_ y1
    · have hxq : ¬ x_ = q_ := fun e_ => h26 v' hv (e_ ▸ hx)
      rw [nc 1 _ 8 (by simp) (by simp), nc 1 _ 5 (by simp) (by simp [hxq])]
      exact t5_ x_ hx
    · have hwo : zzwo q_ l = l2 ++ l3 := by
        have := zzcut_wo (q_ := q_) (l1 := []) (l2 := l2) (l3 := l3) (by rw [← hll]; exact t1_)
        rw [← hll, zzwo_in hq] at this
        exact this
      rw [hwo]
      have hct := zzcut (q_ := q_) (l1 := []) (l2 := l2) (l3 := l3) (by rw [← hll]; exact t1_)
      have := zzfe_cut (D_ := D_) (v_ := v') [] l2 l3 _ _ hct.2.1 (by
        rw [hl2] at hl16
        simp only [List.length_append, List.length_cons] at hl16
        simp only [List.length_nil]
        omega) (hll ▸ t7)
      exact zzfe_m hkd hse (nd_ _ _ _ (by simp) (by simp) (by simp) (by simp) (by simp) (by simp) (by simp)) (nd_ _ _ _ (by simp) (by simp) (by simp) (by simp) (by simp) (by simp) (by simp)) _ _ _ this
    · rw [List.mem_append, List.mem_singleton] at hx
      rcases hx with hx | rfl
      · have hxq := h25 v' hv x_ hx
        rw [nc 1 _ 5 (by simp) (by simp [hxq])]
        exact t8 x_ hx
      · rw [hq, p5_]
        exact ⟨hqM, fun _ => ht0.1, fun ho => absurd hev ho⟩
    · rw [zzsbd_app, if_pos hev, hq, p5_, if_neg (fun e_ => e_.elim ht0.2.1 ht0.2.2.1), zzsbd_n hs _ _ (fun x_ hx => nc 1 _ 5 (by simp) (by simp [h25 v' hv x_ hx]))]
      exact t9
  · obtain ⟨z1, z2, z3, z4, z5, z6, z7, z8⟩ := gb
    unfold zzRb
    rw [nc 1 q_ 0 (by simp) (by simp), nc 1 q_ 1 (by simp) (by simp), nc 1 q_ 2 (by simp) (by simp), nc 1 q_ 4 (by simp) (by simp), nc 1 q_ 7 (by simp) (by simp), pb, k37, nd_ 30 29 q_ (by simp) (by simp) (by simp) (by simp) (by simp) (by simp) (by simp), nd_ 30 30 q_ (by simp) (by simp) (by simp) (by simp) (by simp) (by simp) (by simp), nd_ 30 31 q_ (by simp) (by simp) (by simp) (by simp) (by simp) (by simp) (by simp), nd_ 30 34 q_ (by simp) (by simp) (by simp) (by simp) (by simp) (by simp) (by simp)]
    exact ⟨z1, z2, z3, z4, z5, z6, z7, rfl⟩
  · obtain ⟨x1_, x2_, x3, x4_, x5_, x6, x7, x8⟩ := gc_
    unfold zzRc
    rw [nc 1 q_ 3 (by simp) (by simp), p5_, nc 1 q_ 6 (by simp) (by simp), nc 1 q_ 8 (by simp) (by simp), pa, nc 1 q_ 12 (by simp) (by simp), nc 1 q_ 13 (by simp) (by simp), k32, k36, k40, nd_ 30 39 q_ (by simp) (by simp) (by simp) (by simp) (by simp) (by simp) (by simp), nd_ 30 33 q_ (by simp) (by simp) (by simp) (by simp) (by simp) (by simp) (by simp), nd_ 30 35 q_ (by simp) (by simp) (by simp) (by simp) (by simp) (by simp) (by simp), nd_ 30 38 q_ (by simp) (by simp) (by simp) (by simp) (by simp) (by simp) (by simp), nd_ 31 41 q_ (by simp) (by simp) (by simp) (by simp) (by simp) (by simp) (by simp)]
    refine ⟨x1_, rfl, x3, x4_, rfl, x6, x7, ?_⟩
    unfold znos
    rw [p5_, ht]
    by_cases e_ : D_ 31 41 q_ = 0
    · rw [if_pos e_, zbo_0.mpr e_, show decide ((5 : Int32) = 3) = false by decide, show decide ((5 : Int32) = 4) = false by decide]
      exact ⟨fun e2_ => absurd e2_ (by simp), fun e2_ => absurd rfl e2_⟩
    · rw [if_neg e_, show decide ((3 : Int32) = 3) = true by decide]
      exact ⟨fun _ e2_ => e_ (zbo_0.mp e2_), fun _ => by simp⟩
  · refine ⟨fun e_ => ?_, fun e_ => ?_⟩
    · rw [p5_] at e_; exact absurd e_ ht0.1
    · rw [p5_] at e_; exact absurd e_ ht0.2.1
  · rw [hl] at hm_
    rw [l24]
    exact zzwo_mem.mpr ⟨(List.mem_cons.mp hm_).resolve_left (fun e_ => hx (e_ ▸ hq)), hx⟩

