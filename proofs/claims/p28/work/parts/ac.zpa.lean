/-! THE MINUTE: a pick at which somebody boards -/
theorem zzPa {C_ D_ : zIn} {L_ : zLi} {p_ N_ M_ v_ s_ : Nat} {l : List Nat} (h_ : zzR C_ L_ D_ p_ N_ M_) (hv : v_ < N_) (hne : ¬ C_ 5 v_ 10 = 0) (hl : L_ 24 v_ = s_ :: l) (hev : s_ % 2 = 0) (hnow : C_ 4 s_ 4 = D_ 7 0 2) : zzR (zset (zpi1 (zfi1 C_ v_ s_ (D_ 7 0 2)) s_) 1 (s_ / 2) 5 1) (zlup (zfiL L_ v_ s_) 26 v_ (zfiL L_ v_ s_ 26 v_ ++ [s_ / 2])) (zpkS (zpk2 (zdn4 D_ v_ s_ l.length) v_ (s_ / 2)) v_ (s_ / 2) (zchl C_ (L_ 26 v_)).length) p_ N_ M_ ∧ zzfm C_ D_ (zset (zpi1 (zfi1 C_ v_ s_ (D_ 7 0 2)) s_) 1 (s_ / 2) 5 1) (zpkS (zpk2 (zdn4 D_ v_ s_ l.length) v_ (s_ / 2)) v_ (s_ / 2) (zchl C_ (L_ 26 v_)).length) ∧ (zmkd D_ (s_ / 2) = 2 → (zchl C_ (L_ 26 v_)).length < 3) := by
  obtain ⟨v1_, v2, v3⟩ := h_.2.2.2.1 v_ hv
  obtain ⟨s', l', e1_, e3_, e4_, e5_⟩ := v2.1 hne
  have hss : s' = s_ := by rw [hl] at e1_; exact (List.cons.inj e1_).1.symm
  subst hss
  have hQ := zzQ_of h_ hv
  obtain ⟨a1_, a2, a3, a4, a5, a6, a7, a8, a9, b1, b2, b3, b4⟩ := v1_
  obtain ⟨c1_, c2_, c3_, c4_, c5_, c6_, c7_, c8_⟩ := a1_
  obtain ⟨t1_, t2_, t3_, t4_, t5_, t6, t7, t8, t9⟩ := v3
  have hN4 := h_.1.2.2.2.2.1
  have hM60 := h_.1.2.2.2.2.2.2.2.1
  have hsm : s' ∈ L_ 24 v_ := by rw [hl]; exact List.mem_cons_self
  obtain ⟨hqM, hq8, hq0, _, _⟩ := t4_ s' hsm
  have h50 := hq0 hev
  obtain ⟨v', hv', e8', e11_, m1_, m2_, h26, h25, h24, l1, l2, l3, hll⟩ := zzst0 h_ hqM h50
  have hvv : v' = v_ := (zof_eq (by omega) (by omega)).mp (e8'.symm.trans hq8)
  subst hvv
  rw [hl] at t1_ t6 t7 hll
  obtain ⟨rfl, hl2⟩ := zzhd0 t1_ (by omega) hll
  have n1_ := (List.nodup_cons.mp t1_).1
  have n2_ := (List.nodup_cons.mp t1_).2
  have hvl := (zzvl_e hev).mp t6
  have hl16 : l.length ≤ 16 := by have := a6.2.1; rw [hl, List.length_cons] at this; omega
  obtain ⟨gb, gc_⟩ := h_.2.2.1 (s' / 2) hqM
  have hcs := (hQ.2.2.2.1 s' hsm).2.1
  have hsea : zsea C_ (s' / 2) = zmse D_ (s' / 2) := hcs.2.2.2.2.2.1
  have hchq : zchr C_ (s' / 2) = decide (zmkd D_ (s' / 2) = 2) := hcs.2.2.2.2.2.2.1
  obtain ⟨f1_, f2_, f3_, f4_⟩ := zzfiL hl
  obtain ⟨g1, g2, g3_, g4⟩ := zzfi1 (C_ := C_) (v_ := v') (s_ := s') (x_ := D_ 7 0 2)
  have hro4 := zzdn4_ro (hl ▸ a6)
  obtain ⟨i1_, i2_, i3_, i4_⟩ := zzdn4_is (D_ := D_) (v_ := v') (s_ := s') (n_ := l.length)
  have nDn : ∀ c_ i_ f_, ¬ (c_ = 31 ∧ (i_ = 19 ∨ i_ = 22) ∧ f_ = v') → ¬ (c_ = 30 ∧ (i_ = 17 ∨ i_ = 18 ∨ i_ = 27) ∧ f_ = v') → ¬ (c_ = 30 ∧ i_ = 26 ∧ 16 * v' ≤ f_ ∧ f_ < 16 * v' + 16) → ¬ (c_ = 30 ∧ i_ = 43) → ¬ (c_ = 7 ∧ i_ = 0 ∧ f_ = 42) → zdn4 D_ v' s' l.length c_ i_ f_ = D_ c_ i_ f_ := fun c_ i_ f_ => zzdn4 hl16
  generalize hDn : zdn4 D_ v' s' l.length = Dn at *
  obtain ⟨hcap, hchs, hfe⟩ := (zzfe_e hev).mp t7
  have sDn : ∀ q_, zmse Dn q_ = zmse D_ q_ := fun q_ => by
    unfold zmse zmkd zmrd
    rw [nDn 30 29 q_ (by simp) (by simp) (by simp) (by simp) (by simp), nDn 30 7 _ (by simp) (by simp) (by simp) (by simp) (by simp), nDn 31 10 _ (by simp) (by simp) (by simp) (by simp) (by simp)]
  have kDn : ∀ q_, zmkd Dn q_ = zmkd D_ q_ := fun q_ => by
    unfold zmkd zmrd
    rw [nDn 30 29 q_ (by simp) (by simp) (by simp) (by simp) (by simp), nDn 30 7 _ (by simp) (by simp) (by simp) (by simp) (by simp)]
  have hst : zchl C_ (L_ 26 v' ++ [s' / 2]) = zzst D_ s' (zchl C_ (L_ 26 v')) := by
    unfold zchl zzst
    rw [List.filter_append]
    by_cases hk : zmkd D_ (s' / 2) = 2
    · rw [if_pos hk, List.filter_cons_of_pos (by rw [hchq]; exact decide_eq_true hk), List.filter_nil]
    · rw [if_neg hk, List.filter_cons_of_neg (by rw [hchq, decide_eq_false hk]; decide), List.filter_nil, List.append_nil]
  have hl3 : (zzst D_ s' (zchl C_ (L_ 26 v'))).length ≤ 3 := by
    obtain ⟨m_, hm_, em⟩ := a5
    rw [em] at hchs
    have hlen : (zzst D_ s' (zchl C_ (L_ 26 v'))).length ≤ (zchl C_ (L_ 26 v')).length + 1 := by
      unfold zzst
      split
      · rw [List.length_append]; simp
      · omega
    rw [zile (by omega) (by omega)] at hchs
    omega
  have hch3 : zmkd D_ (s' / 2) = 2 → (zchl C_ (L_ 26 v')).length < 3 := fun hk => by
    unfold zzst at hl3
    rw [if_pos hk, List.length_append, List.length_singleton] at hl3
    omega
  generalize hm_ : (zchl C_ (L_ 26 v')).length = m_ at *
  have eJ : zpkS (zpk2 Dn v' (s' / 2)) v' (s' / 2) m_ = if zmkd D_ (s' / 2) = 2 then zset (zset (zset (zset (zset (zset Dn 30 36 (s' / 2) (D_ 30 20 v')) 30 37 (s' / 2) (D_ 30 21 v')) 30 32 (s' / 2) 1) 30 23 v' (D_ 30 23 v' + zmse D_ (s' / 2))) 30 24 (3 * v' + m_) (Int32.ofNat (s' / 2))) 30 25 v' (D_ 30 25 v' + 1) else zset (zset (zset (zset Dn 30 36 (s' / 2) (D_ 30 20 v')) 30 37 (s' / 2) (D_ 30 21 v')) 30 32 (s' / 2) 1) 30 23 v' (D_ 30 23 v' + zmse D_ (s' / 2)) := by
    have e2_ : zpk2 Dn v' (s' / 2) = zset (zset Dn 30 36 (s' / 2) (D_ 30 20 v')) 30 37 (s' / 2) (D_ 30 21 v') := by
      unfold zpk2
      rw [zset_ne (show ¬ (30 = 30 ∧ 21 = 36 ∧ v' = s' / 2) by simp), nDn 30 20 v' (by simp) (by simp) (by simp) (by simp) (by simp), nDn 30 21 v' (by simp) (by simp) (by simp) (by simp) (by simp)]
    have e4_ : zpk4 (zset (zset Dn 30 36 (s' / 2) (D_ 30 20 v')) 30 37 (s' / 2) (D_ 30 21 v')) v' (s' / 2) = zset (zset (zset (zset Dn 30 36 (s' / 2) (D_ 30 20 v')) 30 37 (s' / 2) (D_ 30 21 v')) 30 32 (s' / 2) 1) 30 23 v' (D_ 30 23 v' + zmse D_ (s' / 2)) := by
      unfold zpk4
      have x2_ : zmse (zset (zset (zset Dn 30 36 (s' / 2) (D_ 30 20 v')) 30 37 (s' / 2) (D_ 30 21 v')) 30 32 (s' / 2) 1) (s' / 2) = zmse D_ (s' / 2) := by
        rw [← sDn]
        unfold zmse zmkd zmrd
        rw [zset_ne (by simp), zset_ne (by simp), zset_ne (by simp), zset_ne (by simp), zset_ne (by simp), zset_ne (by simp), zset_ne (by simp), zset_ne (by simp), zset_ne (by simp)]
      rw [x2_, zset_ne (show ¬ (30 = 30 ∧ 23 = 32 ∧ v' = s' / 2) by simp), zset_ne (show ¬ (30 = 30 ∧ 23 = 37 ∧ v' = s' / 2) by simp), zset_ne (show ¬ (30 = 30 ∧ 23 = 36 ∧ v' = s' / 2) by simp), nDn 30 23 v' (by simp) (by simp) (by simp) (by simp) (by simp)]
    have ek : zmkd (zset (zset Dn 30 36 (s' / 2) (D_ 30 20 v')) 30 37 (s' / 2) (D_ 30 21 v')) (s' / 2) = zmkd D_ (s' / 2) := by
      rw [← kDn]
      unfold zmkd zmrd
      rw [zset_ne (by simp), zset_ne (by simp), zset_ne (by simp), zset_ne (by simp)]
    unfold zpkS zpk5
    rw [e2_, ek, e4_]
    rw [zset_ne (show ¬ (30 = 30 ∧ 25 = 24 ∧ v' = 3 * v' + m_) by simp), zset_ne (show ¬ (30 = 30 ∧ 25 = 23 ∧ v' = v') by simp), zset_ne (show ¬ (30 = 30 ∧ 25 = 32 ∧ v' = s' / 2) by simp), zset_ne (show ¬ (30 = 30 ∧ 25 = 37 ∧ v' = s' / 2) by simp), zset_ne (show ¬ (30 = 30 ∧ 25 = 36 ∧ v' = s' / 2) by simp), nDn 30 25 v' (by simp) (by simp) (by simp) (by simp) (by simp)]
  have eC_ : zpi1 (zfi1 C_ v' s' (D_ 7 0 2)) s' = zset (zset (zfi1 C_ v' s' (D_ 7 0 2)) 1 (s' / 2) 10 (D_ 30 20 v')) 1 (s' / 2) 11 (D_ 30 21 v') := by
    unfold zpi1
    rw [zset_ne (show ¬ (4 = 1 ∧ s' = s' / 2 ∧ 4 = 10) by simp), g4 4 s' 3 (by simp), g4 4 s' 4 (by simp), e3_, e4_]
  rw [eJ, eC_, f3_]
  generalize hq : s' / 2 = q_ at *
  have nc : ∀ c_ i_ f_, ¬ (c_ = 5 ∧ i_ = v' ∧ (f_ = 10 ∨ f_ = 11 ∨ f_ = 12)) → ¬ (c_ = 1 ∧ i_ = q_ ∧ (f_ = 5 ∨ f_ = 10 ∨ f_ = 11)) → zset (zset (zset (zfi1 C_ v' s' (D_ 7 0 2)) 1 q_ 10 (D_ 30 20 v')) 1 q_ 11 (D_ 30 21 v')) 1 q_ 5 1 c_ i_ f_ = C_ c_ i_ f_ := fun c_ i_ f_ x1_ x2_ => by
    rw [zset_ne (by omega), zset_ne (by omega), zset_ne (by omega), g4 c_ i_ f_ x1_]
  have p10 : zset (zset (zset (zfi1 C_ v' s' (D_ 7 0 2)) 1 q_ 10 (D_ 30 20 v')) 1 q_ 11 (D_ 30 21 v')) 1 q_ 5 1 5 v' 10 = 0 := by rw [zset_ne (by simp), zset_ne (by simp), zset_ne (by simp), g1]
  have p11 : zset (zset (zset (zfi1 C_ v' s' (D_ 7 0 2)) 1 q_ 10 (D_ 30 20 v')) 1 q_ 11 (D_ 30 21 v')) 1 q_ 5 1 5 v' 11 = zmpl D_ s' := by rw [zset_ne (by simp), zset_ne (by simp), zset_ne (by simp), g2, hcs.1]
  have p12 : zset (zset (zset (zfi1 C_ v' s' (D_ 7 0 2)) 1 q_ 10 (D_ 30 20 v')) 1 q_ 11 (D_ 30 21 v')) 1 q_ 5 1 5 v' 12 = D_ 7 0 2 := by rw [zset_ne (by simp), zset_ne (by simp), zset_ne (by simp), g3_]
  have p5_ : zset (zset (zset (zfi1 C_ v' s' (D_ 7 0 2)) 1 q_ 10 (D_ 30 20 v')) 1 q_ 11 (D_ 30 21 v')) 1 q_ 5 1 1 q_ 5 = 1 := zset_is
  have pa : zset (zset (zset (zfi1 C_ v' s' (D_ 7 0 2)) 1 q_ 10 (D_ 30 20 v')) 1 q_ 11 (D_ 30 21 v')) 1 q_ 5 1 1 q_ 10 = D_ 30 20 v' := by rw [zset_ne (by simp), zset_ne (by simp), zset_is]
  have pb : zset (zset (zset (zfi1 C_ v' s' (D_ 7 0 2)) 1 q_ 10 (D_ 30 20 v')) 1 q_ 11 (D_ 30 21 v')) 1 q_ 5 1 1 q_ 11 = D_ 30 21 v' := by rw [zset_ne (by simp), zset_is]
  generalize hC' : zset (zset (zset (zfi1 C_ v' s' (D_ 7 0 2)) 1 q_ 10 (D_ 30 20 v')) 1 q_ 11 (D_ 30 21 v')) 1 q_ 5 1 = C'_ at *
  have hDD : ∃ D', D' = (if zmkd D_ q_ = 2 then zset (zset (zset (zset (zset (zset Dn 30 36 q_ (D_ 30 20 v')) 30 37 q_ (D_ 30 21 v')) 30 32 q_ 1) 30 23 v' (D_ 30 23 v' + zmse D_ q_)) 30 24 (3 * v' + m_) (Int32.ofNat q_)) 30 25 v' (D_ 30 25 v' + 1) else zset (zset (zset (zset Dn 30 36 q_ (D_ 30 20 v')) 30 37 q_ (D_ 30 21 v')) 30 32 q_ 1) 30 23 v' (D_ 30 23 v' + zmse D_ q_)) := ⟨_, rfl⟩
  obtain ⟨D', hD'⟩ := hDD
  rw [← hD']
  have nJ : ∀ c_ i_ f_, ¬ (c_ = 30 ∧ (i_ = 36 ∨ i_ = 37 ∨ i_ = 32) ∧ f_ = q_) → ¬ (c_ = 30 ∧ (i_ = 23 ∨ i_ = 25) ∧ f_ = v') → ¬ (zmkd D_ q_ = 2 ∧ c_ = 30 ∧ i_ = 24 ∧ f_ = 3 * v' + m_) → D' c_ i_ f_ = Dn c_ i_ f_ := fun c_ i_ f_ x1_ x2_ x3 => by
    rw [hD']
    by_cases hk : zmkd D_ q_ = 2
    · rw [if_pos hk, zset_ne (by omega), zset_ne (fun e_ => x3 ⟨hk, e_⟩), zset_ne (by omega), zset_ne (by omega), zset_ne (by omega), zset_ne (by omega)]
    · rw [if_neg hk, zset_ne (by omega), zset_ne (by omega), zset_ne (by omega), zset_ne (by omega)]
  have nd_ : ∀ c_ i_ f_, ¬ (c_ = 31 ∧ (i_ = 19 ∨ i_ = 22) ∧ f_ = v') → ¬ (c_ = 30 ∧ (i_ = 17 ∨ i_ = 18 ∨ i_ = 23 ∨ i_ = 25 ∨ i_ = 27) ∧ f_ = v') → ¬ (c_ = 30 ∧ i_ = 26 ∧ 16 * v' ≤ f_ ∧ f_ < 16 * v' + 16) → ¬ (c_ = 30 ∧ i_ = 43) → ¬ (c_ = 7 ∧ i_ = 0 ∧ f_ = 42) → ¬ (c_ = 30 ∧ (i_ = 36 ∨ i_ = 37 ∨ i_ = 32) ∧ f_ = q_) → ¬ (zmkd D_ q_ = 2 ∧ c_ = 30 ∧ i_ = 24 ∧ f_ = 3 * v' + m_) → D' c_ i_ f_ = D_ c_ i_ f_ := fun c_ i_ f_ x1_ x2_ x3 x4_ x5_ x6 x7 => by
    rw [nJ c_ i_ f_ x6 (by omega) x7, nDn c_ i_ f_ x1_ (by omega) x3 x4_ x5_]
  have kv : ∀ i_ f_, ¬ (i_ = 23 ∨ i_ = 24 ∨ i_ = 25) → D' 30 i_ f_ = (zset (zset (zset Dn 30 36 q_ (D_ 30 20 v')) 30 37 q_ (D_ 30 21 v')) 30 32 q_ 1) 30 i_ f_ := fun i_ f_ hi_ => by
    rw [hD']
    split
    · rw [zset_ne (by omega), zset_ne (by omega), zset_ne (by omega)]
    · rw [zset_ne (by omega)]
  have k36 : D' 30 36 q_ = D_ 30 20 v' := by rw [kv _ _ (by simp), zset_ne (by simp), zset_ne (by simp), zset_is]
  have k37 : D' 30 37 q_ = D_ 30 21 v' := by rw [kv _ _ (by simp), zset_ne (by simp), zset_is]
  have k32 : D' 30 32 q_ = 1 := by rw [kv _ _ (by simp), zset_is]
  have k23 : D' 30 23 v' = D_ 30 23 v' + zmse D_ q_ := by
    rw [hD']
    split
    · rw [zset_ne (by simp), zset_ne (by simp), zset_is]
    · rw [zset_is]
  have kk : ∀ c_ i_, ¬ c_ = 7 → ¬ (c_ = 30 ∧ (i_ = 36 ∨ i_ = 37 ∨ i_ = 32 ∨ i_ = 43 ∨ i_ = 27 ∨ i_ = 26 ∨ i_ = 23 ∨ i_ = 24 ∨ i_ = 25)) → D' c_ i_ v' = Dn c_ i_ v' := fun c_ i_ x0_ x1_ => nJ c_ i_ v' (by omega) (by omega) (by omega)
  have hroF : zRo D' v' l := hro4.ix (nJ _ _ _ (by simp) (by simp) (by simp)) (fun k_ _ => nJ _ _ _ (by simp) (by simp) (by simp))
  have k25 : D' 30 25 v' = Int32.ofNat (zzst D_ s' (zchl C_ (L_ 26 v'))).length := by
    rw [hD']
    unfold zzst
    rw [hq]
    by_cases hk : zmkd D_ q_ = 2
    · rw [if_pos hk, if_pos hk, zset_is, b1, List.length_append, hm_, zisucc]; rfl
    · rw [if_neg hk, if_neg hk, zset_ne (by simp), zset_ne (by simp), zset_ne (by simp), zset_ne (by simp), nDn 30 25 v' (by simp) (by simp) (by simp) (by simp) (by simp), b1, hm_]
  have k24 : ∀ j_ x_, (zzst D_ s' (zchl C_ (L_ 26 v')))[j_]? = some x_ → D' 30 24 (3 * v' + j_) = Int32.ofNat x_ := fun j_ x_ hj => by
    unfold zzst at hj
    rw [hq] at hj
    by_cases hk : zmkd D_ q_ = 2
    · rw [if_pos hk] at hj
      by_cases hjm : j_ = m_
      · subst hjm
        rw [hD', if_pos hk, zset_ne (by simp), zset_is]
        rw [List.getElem?_append_right (by omega), hm_, Nat.sub_self] at hj
        have : q_ = x_ := by simpa using hj
        rw [this]
      · have hlt : j_ < m_ := by
          have := (List.getElem?_eq_some_iff.mp hj).1
          rw [List.length_append, hm_, List.length_singleton] at this
          omega
        rw [List.getElem?_append_left (by omega)] at hj
        rw [nd_ 30 24 _ (by simp) (by simp) (by simp) (by simp) (by simp) (by simp) (by omega)]
        exact b4 j_ x_ hj
    · rw [if_neg hk] at hj
      rw [nd_ 30 24 _ (by simp) (by simp) (by simp) (by simp) (by simp) (by simp) (by simp [hk])]
      exact b4 j_ x_ hj
  have l24 : zlup (zfiL L_ v' s') 26 v' (L_ 26 v' ++ [q_]) 24 v' = l := by rw [zlup_ne (by simp)]; exact f1_
  have l25 : zlup (zfiL L_ v' s') 26 v' (L_ 26 v' ++ [q_]) 25 v' = L_ 25 v' ++ [s'] := by rw [zlup_ne (by simp)]; exact f2_
  have l26 : zlup (zfiL L_ v' s') 26 v' (L_ 26 v' ++ [q_]) 26 v' = L_ 26 v' ++ [q_] := zlup_self
  have nl : ∀ c_ u_, ¬ (u_ = v' ∧ (c_ = 24 ∨ c_ = 25 ∨ c_ = 26)) → zlup (zfiL L_ v' s') 26 v' (L_ 26 v' ++ [q_]) c_ u_ = L_ c_ u_ := fun c_ u_ hh => by
    rw [zlup_ne (by omega)]; exact f4_ c_ u_ hh
  generalize hL' : zlup (zfiL L_ v' s') 26 v' (L_ 26 v' ++ [q_]) = L' at *
  have hs : ∀ q_, zsea C'_ q_ = zsea C_ q_ := fun q_ => by unfold zsea; rw [nc 1 q_ 0 (by simp) (by simp), nc 2 _ 3 (by simp) (by simp)]
  have hch : ∀ q_, zchr C'_ q_ = zchr C_ q_ := fun q_ => by unfold zchr; rw [nc 1 q_ 0 (by simp) (by simp), nc 2 _ 0 (by simp) (by simp)]
  have hkd : ∀ q_, zmkd D' q_ = zmkd D_ q_ := fun q_ => by
    unfold zmkd zmrd
    rw [nd_ 30 29 q_ (by simp) (by simp) (by simp) (by simp) (by simp) (by simp) (by simp), nd_ 30 7 _ (by simp) (by simp) (by simp) (by simp) (by simp) (by simp) (by simp)]
  have hse : ∀ q_, zmse D' q_ = zmse D_ q_ := fun q_ => by
    unfold zmse
    rw [hkd]
    unfold zmrd
    rw [nd_ 30 29 q_ (by simp) (by simp) (by simp) (by simp) (by simp) (by simp) (by simp), nd_ 31 10 _ (by simp) (by simp) (by simp) (by simp) (by simp) (by simp) (by simp)]
  have hs25 : ¬ s' ∈ L_ 25 v' := fun hm_ => h25 v' hv s' hm_ hq
  have e35 : D_ 30 35 q_ = Int32.ofNat v' := by rw [← gc_.2.2.2.1]; exact hq8
  have e32 : D_ 30 32 q_ = 0 := by rw [← gc_.2.1]; exact h50
  have hlm : ∀ x_ ∈ l, x_ ∈ L_ 24 v' := fun x_ hx => by rw [hl]; exact List.mem_cons_of_mem _ hx
  have hs2 : s' = 2 * q_ := by omega
  have hsq3 := zzse (D_ := D_) q_
  have hD8 : (D_ 30 13 v').toInt ≤ 8 := by
    obtain ⟨m2_, hm2, em⟩ := a4
    rw [em, Int32.toInt_ofNat_of_lt (by omega)]; omega
  have i23 : (D_ 30 23 v' + zmse D_ q_).toInt = (D_ 30 23 v').toInt + (zmse D_ q_).toInt := by
    rw [Int32.le_iff_toInt_le] at a9
    exact zziadd (by omega) (by omega)
  have o24 : ∀ w_ j_, ¬ w_ = v' → j_ < 3 → D' 30 24 (3 * w_ + j_) = D_ 30 24 (3 * w_ + j_) := fun w_ j_ hw hj => nd_ 30 24 _ (by simp) (by simp) (by simp) (by simp) (by simp) (by simp) (fun e_ => by have := hch3 e_.1; omega)
  refine ⟨zzRz (r_ := q_) h_ hv hqM (fun c_ i_ f_ hh _ => nc c_ i_ f_ (by omega) (by omega)) (fun f_ hf => nc 1 q_ f_ (by simp) (by omega)) (fun w_ _ _ t_ _ => ⟨nc _ _ _ (by simp) (by simp), fun _ _ => ⟨nc _ _ _ (by simp) (by simp), nc _ _ _ (by simp) (by simp)⟩⟩) (fun f_ hf => nd_ 7 0 f_ (by simp) (by simp) (by simp) (by simp) (by omega) (by simp) (by simp)) (fun f_ => ⟨nd_ _ _ _ (by simp) (by simp) (by simp) (by simp) (by simp) (by simp) (by simp), nd_ _ _ _ (by simp) (by simp) (by simp) (by simp) (by simp) (by simp) (by simp), nd_ _ _ _ (by simp) (by simp) (by simp) (by simp) (by simp) (by simp) (by simp), nd_ _ _ _ (by simp) (by simp) (by simp) (by simp) (by simp) (by simp) (by simp), nd_ _ _ _ (by simp) (by simp) (by simp) (by simp) (by simp) (by simp) (by simp)⟩) (fun i_ x_ a_ b_ hx => nd_ 30 i_ x_ (by omega) (by omega) (by omega) (by omega) (by omega) (by omega) (by omega)) (fun x_ hx => ⟨nd_ 31 40 x_ (by simp) (by simp) (by simp) (by simp) (by simp) (by simp) (by simp), nd_ 31 41 x_ (by simp) (by simp) (by simp) (by simp) (by simp) (by simp) (by simp)⟩) (fun i_ w_ a_ b_ c_ c' hw => nd_ 30 i_ w_ (by omega) (by omega) (by omega) (by omega) (by omega) (by omega) (by omega)) (fun w_ hw => ⟨nd_ _ _ _ (by simp [hw]) (by simp) (by simp) (by simp) (by simp) (by simp) (by simp), nd_ _ _ _ (by simp [hw]) (by simp) (by simp) (by simp) (by simp) (by simp) (by simp), nd_ _ _ _ (by simp [hw]) (by simp) (by simp) (by simp) (by simp) (by simp) (by simp)⟩) (nd_ _ _ _ (by simp) (by simp) (by simp) (by simp) (by simp) (by simp) (by simp)) (nd_ _ _ _ (by simp) (by simp) (by simp) (by simp) (by simp) (by simp) (by simp)) o24 (fun w_ k_ hw hk => nd_ 30 26 _ (by simp) (by simp) (by omega) (by simp) (by simp) (by simp) (by simp)) (fun c_ u_ h1 h2 h3 => nl c_ u_ h3) ⟨?_, ?_, ?_⟩ ⟨?_, ?_, ?_⟩ h24 (fun w_ hw _ x_ hx e_ => h26 w_ hw (e_ ▸ hx)) (fun w_ hw _ x_ hx => Or.inl (h25 w_ hw x_ hx)) (fun w_ hw hwv => zzsqr (r_ := q_) (fun j_ _ hj => ⟨nd_ 30 32 j_ (by simp) (by simp) (by simp) (by simp) (by simp) (by simp [hj]) (by simp), nd_ 30 35 j_ (by simp) (by simp) (by simp) (by simp) (by simp) (by simp) (by simp)⟩) hse (fun e_ => by rw [e32] at e_; exact absurd e_.1 (by decide)) (fun e_ => ?_)) (fun x_ hx hm_ => ?_) (fun x_ _ hm_ => by rw [l26]; exact List.mem_append_left _ hm_), ⟨fun c_ i_ f_ hh => nc c_ i_ f_ (by omega) (by omega), fun c_ i_ f_ hh => nd_ c_ i_ f_ (by omega) (by omega) (by omega) (by omega) (by omega) (by omega) (by omega), nd_ 7 0 0 (by simp) (by simp) (by simp) (by simp) (by simp) (by simp) (by simp), nd_ 7 0 2 (by simp) (by simp) (by simp) (by simp) (by simp) (by simp) (by simp)⟩, hch3⟩
  · unfold zzRv zzcv
    rw [l24, l26, zzftak hs, zzfchl hch, hst, zztak_app, a7, hsea, k23, k25, p10, p11, p12, nc 5 v' 1 (by simp) (by simp), nc 5 v' 2 (by simp) (by simp), nc 5 v' 3 (by simp) (by simp), nc 5 v' 4 (by simp) (by simp), nc 5 v' 9 (by simp) (by simp), kk 31 19 (by simp) (by simp), i1_, kk 30 17 (by simp) (by simp), i3_, kk 30 18 (by simp) (by simp), i4_, nd_ 30 12 v' (by simp) (by simp) (by simp) (by simp) (by simp) (by simp) (by simp), nd_ 30 13 v' (by simp) (by simp) (by simp) (by simp) (by simp) (by simp) (by simp), nd_ 30 14 v' (by simp) (by simp) (by simp) (by simp) (by simp) (by simp) (by simp), nd_ 30 15 v' (by simp) (by simp) (by simp) (by simp) (by simp) (by simp) (by simp), nd_ 31 16 v' (by simp) (by simp) (by simp) (by simp) (by simp) (by simp) (by simp)]
    refine ⟨⟨c1_, c2_, c3_, rfl, rfl, ⟨fun _ => rfl, fun _ => rfl⟩, hcs.2.1, c8_⟩, a2, a3, a4, a5, hroF, rfl, by omega, ?_, rfl, hchs, hl3, k24⟩
    rw [Int32.le_iff_toInt_le, i23]
    exact hcap
  · unfold zzRl
    rw [l24, p10, kk 31 22 (by simp) (by simp), i2_]
    refine ⟨fun e_ => absurd rfl e_, fun _ => rfl, fun x_ hx hx5 => ?_⟩
    rw [nc 4 x_ 5 (by simp) (by simp)] at hx5
    have h0 := (v2.2.2 x_ (hlm x_ hx) hx5).2
    rw [hl] at h0
    have : s' = x_ := by simpa using h0
    exact absurd (this ▸ hx) n1_
  · unfold zzRt
    rw [l24, l25, l26, zzfchl hch, hst, k23, i23]
    refine ⟨n2_, List.nodup_append.mpr ⟨t2_, List.nodup_cons.mpr ⟨List.not_mem_nil, List.nodup_nil⟩, fun a_ ha_ b_ hb_ e_ => ?_⟩, List.nodup_append.mpr ⟨t3_, List.nodup_cons.mpr ⟨List.not_mem_nil, List.nodup_nil⟩, fun a_ ha_ b_ hb_ e_ => ?_⟩, fun x_ hx => ?_, fun x_ hx => ?_, zzvl_mono _ _ _ hvl (fun x_ hx => (List.mem_cons.mp hx).elim (fun e_ => List.mem_append_right _ (List.mem_singleton.mpr e_)) (fun e_ => List.mem_append_left _ e_)), ?_, fun x_ hx => ?_, ?_⟩
    · rw [List.mem_singleton] at hb_
      exact h26 v' hv (hb_ ▸ e_ ▸ ha_)
    · rw [List.mem_singleton] at hb_
      exact hs25 (hb_ ▸ e_ ▸ ha_)
    · have y1 := hlm x_ hx
      obtain ⟨z1, z2, z3, z4, z5⟩ := t4_ x_ y1
      rw [nc 1 _ 8 (by simp) (by simp), nc 1 _ 1 (by simp) (by simp), nc 1 _ 2 (by simp) (by simp), nc 4 x_ 2 (by simp) (by simp)]
      by_cases e_ : x_ / 2 = q_
      · have hxo : ¬ x_ % 2 = 0 := fun hx2 => n1_ ((show s' = x_ by omega) ▸ hx)
        refine ⟨z1, z2, fun hx2 => absurd hx2 hxo, fun _ => Or.inr (by rw [e_]; exact p5_), z5⟩
      · rw [nc 1 _ 5 (by simp) (by simp [e_])]
        exact ⟨z1, z2, z3, z4, z5⟩
    · rw [List.mem_append, List.mem_singleton] at hx
      rcases hx with hx | rfl
      · have hxq : ¬ x_ = q_ := fun e_ => h26 v' hv (e_ ▸ hx)
        rw [nc 1 _ 8 (by simp) (by simp), nc 1 _ 5 (by simp) (by simp [hxq])]
        exact t5_ x_ hx
      · exact ⟨hqM, p5_, by rw [nc 1 _ 8 (by simp) (by simp)]; exact hq8⟩
    · exact zzfe_m hkd hse (nd_ _ _ _ (by simp) (by simp) (by simp) (by simp) (by simp) (by simp) (by simp)) (nd_ _ _ _ (by simp) (by simp) (by simp) (by simp) (by simp) (by simp) (by simp)) _ _ _ hfe
    · rw [List.mem_append, List.mem_singleton] at hx
      rcases hx with hx | rfl
      · have hxq := h25 v' hv x_ hx
        rw [nc 1 _ 5 (by simp) (by simp [hxq])]
        exact t8 x_ hx
      · rw [hq, p5_]
        exact ⟨hqM, fun _ => by decide, fun ho => absurd hev ho⟩
    · have hx1 : zsqL D' v' M_ 0 0 = zsqL D_ v' M_ 0 0 + zmse D_ q_ := by
        rw [zzsq1 (D_ := D_) (r_ := q_) M_ 0 0 (Nat.zero_le _) (by omega) (fun j_ _ hj hne => by
          unfold zsqN
          rw [nd_ 30 32 j_ (by simp) (by simp) (by simp) (by simp) (by simp) (by simp [hne]) (by simp), nd_ 30 35 j_ (by simp) (by simp) (by simp) (by simp) (by simp) (by simp) (by simp), hse])]
        have y2 : zsqN D_ v' q_ = 0 := by
          unfold zsqN
          rw [e32, if_neg (fun e_ => absurd e_.1 (by decide))]
        have y1 : zsqN D' v' q_ = zmse D_ q_ := by
          unfold zsqN
          rw [if_pos ⟨k32, by rw [nd_ 30 35 q_ (by simp) (by simp) (by simp) (by simp) (by simp) (by simp) (by simp)]; exact e35⟩, hse]
        rw [y1, y2]
        grind
      rw [zzsbd_app, if_pos hev, hq, p5_, if_pos (Or.inl rfl), hs, hsea, hx1, zzsbd_n hs _ _ (fun x_ hx => nc 1 _ 5 (by simp) (by simp [h25 v' hv x_ hx])), t9]
  · obtain ⟨z1, z2, z3, z4, z5, z6, z7, z8⟩ := gb
    unfold zzRb
    rw [nc 1 q_ 0 (by simp) (by simp), nc 1 q_ 1 (by simp) (by simp), nc 1 q_ 2 (by simp) (by simp), nc 1 q_ 4 (by simp) (by simp), nc 1 q_ 7 (by simp) (by simp), pb, k37, nd_ 30 29 q_ (by simp) (by simp) (by simp) (by simp) (by simp) (by simp) (by simp), nd_ 30 30 q_ (by simp) (by simp) (by simp) (by simp) (by simp) (by simp) (by simp), nd_ 30 31 q_ (by simp) (by simp) (by simp) (by simp) (by simp) (by simp) (by simp), nd_ 30 34 q_ (by simp) (by simp) (by simp) (by simp) (by simp) (by simp) (by simp)]
    exact ⟨z1, z2, z3, z4, z5, z6, z7, rfl⟩
  · obtain ⟨x1_, x2_, x3, x4_, x5_, x6, x7, x8⟩ := gc_
    have z0 : D_ 31 40 q_ = 0 := Classical.byContradiction (fun e_ => by
      have := x8.mpr e_
      unfold znos at this
      rw [h50] at this
      exact absurd this (by rw [show decide ((0 : Int32) = 3) = false by decide, show decide ((0 : Int32) = 4) = false by decide]; simp))
    have z1 : znos (C'_ 1 q_) = false := by
      unfold znos
      rw [p5_, show decide ((1 : Int32) = 3) = false by decide, show decide ((1 : Int32) = 4) = false by decide]; rfl
    unfold zzRc
    rw [z1, nc 1 q_ 3 (by simp) (by simp), p5_, nc 1 q_ 6 (by simp) (by simp), nc 1 q_ 8 (by simp) (by simp), pa, nc 1 q_ 12 (by simp) (by simp), nc 1 q_ 13 (by simp) (by simp), k32, k36, nd_ 30 39 q_ (by simp) (by simp) (by simp) (by simp) (by simp) (by simp) (by simp), nd_ 30 33 q_ (by simp) (by simp) (by simp) (by simp) (by simp) (by simp) (by simp), nd_ 30 35 q_ (by simp) (by simp) (by simp) (by simp) (by simp) (by simp) (by simp), nd_ 30 38 q_ (by simp) (by simp) (by simp) (by simp) (by simp) (by simp) (by simp), nd_ 31 41 q_ (by simp) (by simp) (by simp) (by simp) (by simp) (by simp) (by simp), nd_ 31 40 q_ (by simp) (by simp) (by simp) (by simp) (by simp) (by simp) (by simp), z0]
    exact ⟨x1_, rfl, x3, x4_, rfl, x6, x7, ⟨fun e_ => absurd e_ (by decide), fun e_ => absurd rfl e_⟩⟩
  · refine ⟨fun e_ => ?_, fun _ => ⟨?_, v', hv, ?_, ?_, ?_⟩⟩
    · rw [p5_] at e_; exact absurd e_ (by decide)
    · rw [pb, ← e4_, hnow]
      obtain ⟨t_, ht, et⟩ := h_.1.2.2.2.2.2.2.2.2.2.2.2.1
      rw [et]
      exact zzm1 (by omega)
    · rw [nc 1 q_ 8 (by simp) (by simp)]; exact hq8
    · rw [l26]; exact List.mem_append_right _ (List.mem_singleton.mpr rfl)
    · rw [l24]
      rw [hl] at m2_
      exact (List.mem_cons.mp m2_).resolve_left (by omega)
  · rw [nd_ 30 35 q_ (by simp) (by simp) (by simp) (by simp) (by simp) (by simp) (by simp), e35] at e_
    exact hwv ((zof_eq (by omega) (by omega)).mp e_.2).symm
  · rw [hl] at hm_
    rw [l24]
    exact (List.mem_cons.mp hm_).resolve_left (fun e_ => hx (e_ ▸ hq))

