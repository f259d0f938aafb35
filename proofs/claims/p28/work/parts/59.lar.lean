/-! CONTRACTS: leastArranged -/
def zlaf (v_ : Nat) (x_ : Int32) (y_ : Int32) (I_ : zIn) (L_ : zLi) : Int32 × (zIn × zLi) :=
  if y_ = -1 ∨ zdrv I_ (L_ 24 v_) (I_ 5 v_ 11) (I_ 5 v_ 1) < y_ then (if (zirt I_ L_ v_ x_).1 = true then zdrv I_ (L_ 24 v_) (I_ 5 v_ 11) (I_ 5 v_ 1) else y_, (zirt I_ L_ v_ x_).2) else (y_, I_, L_)
/-- a drop stays behind its pick -/
def zmcn (l : List Nat) (f_ s_ : Nat) : Prop := s_ % 2 = 0 ∨ zfnd (2 * (s_ / 2)) l 0 < Int32.ofNat f_
def zswp (l : List Nat) (f_ i_ : Nat) : List Nat := match l[f_]?, l[i_]? with
  | some a_, some b_ => (l.set f_ b_).set i_ a_
  | _, _ => l
def zlal (v_ f_ : Nat) (F_ : Int32 → zIn → zLi → Int32 × (zIn × zLi)) : Nat → Nat → Int32 → zIn → zLi → Int32 × (zIn × zLi)
  | 0, _, y_, I_, L_ => (y_, I_, L_)
  | n_ + 1, i_, y_, I_, L_ => match (L_ 24 v_)[i_]? with
    | none => (y_, I_, L_)
    | some s_ => if s_ % 2 = 0 ∨ zfnd (2 * (s_ / 2)) (L_ 24 v_) 0 < Int32.ofNat f_ then
        zlal v_ f_ F_ n_ (i_ + 1) (F_ y_ I_ (zlup L_ 24 v_ (zswp (L_ 24 v_) f_ i_))).1 (F_ y_ I_ (zlup L_ 24 v_ (zswp (L_ 24 v_) f_ i_))).2.1 (zlup (F_ y_ I_ (zlup L_ 24 v_ (zswp (L_ 24 v_) f_ i_))).2.2 24 v_ (L_ 24 v_))
      else zlal v_ f_ F_ n_ (i_ + 1) y_ I_ L_
def zla (v_ : Nat) (x_ : Int32) : Nat → Nat → Int32 → zIn → zLi → Int32 × (zIn × zLi)
  | 0, _, y_, I_, L_ => zlaf v_ x_ y_ I_ L_
  | d_ + 1, f_, y_, I_, L_ => if (L_ 24 v_).length ≤ f_ ∨ 6 ≤ f_ then zlaf v_ x_ y_ I_ L_ else zlal v_ f_ (zla v_ x_ d_ (f_ + 1)) ((L_ 24 v_).length - f_) f_ y_ I_ L_
theorem zswp_bk {l : List Nat} {f_ i_ a_ b_ : Nat} (hf : l[f_]? = some a_) (hi_ : l[i_]? = some b_) : ∃ a' b', (zswp l f_ i_)[f_]? = some a' ∧ (zswp l f_ i_)[i_]? = some b' ∧ ((zswp l f_ i_).set f_ b').set i_ a' = l := by
  obtain ⟨h1, e1_⟩ := List.getElem?_eq_some_iff.mp hf
  obtain ⟨h2, e2_⟩ := List.getElem?_eq_some_iff.mp hi_
  have hz : zswp l f_ i_ = (l.set f_ b_).set i_ a_ := by unfold zswp; rw [hf, hi_]
  by_cases h_ : f_ = i_
  · subst h_
    rw [hf] at hi_; cases hi_
    have hs : (l.set f_ a_).set f_ a_ = l := by rw [List.set_set]; rw [← e1_]; exact List.set_getElem_self h1
    rw [hz, hs]
    exact ⟨a_, a_, hf, hf, hs⟩
  · refine ⟨b_, a_, ?_, ?_, ?_⟩
    · rw [hz, List.getElem?_set_ne (Ne.symm h_), List.getElem?_set_self h1]
    · rw [hz, List.getElem?_set_self (by simpa using h2)]
    · rw [hz, List.set_comm (l := l.set f_ b_) _ _ (Ne.symm h_), List.set_set, List.set_set]
      rw [← e1_, ← e2_, List.set_getElem_self h1, List.set_getElem_self h2]
theorem zlaf_ne {v_ c_ u_ : Nat} {x_ y_ : Int32} {I_ : zIn} {L_ : zLi} (h_ : ¬ (c_ = 27 ∧ u_ = v_)) : (zlaf v_ x_ y_ I_ L_).2.2 c_ u_ = L_ c_ u_ := by
  unfold zlaf
  split
  · exact zirt_ne h_
  · rfl
theorem zlal_ne {v_ f_ c_ u_ : Nat} {F_ : Int32 → zIn → zLi → Int32 × (zIn × zLi)} (h_ : ¬ (c_ = 27 ∧ u_ = v_)) (hF : ∀ y_ I_ L_ c_ u_, ¬ (c_ = 27 ∧ u_ = v_) → (F_ y_ I_ L_).2.2 c_ u_ = L_ c_ u_) : ∀ (n_ i_ : Nat) (y_ : Int32) (I_ : zIn) (L_ : zLi), (zlal v_ f_ F_ n_ i_ y_ I_ L_).2.2 c_ u_ = L_ c_ u_
  | 0, _, _, _, _ => rfl
  | n_ + 1, i_, y_, I_, L_ => by
    unfold zlal
    split
    · rfl
    · split
      · rw [zlal_ne h_ hF n_]
        by_cases h2 : c_ = 24 ∧ u_ = v_
        · obtain ⟨rfl, rfl⟩ := h2; exact zlup_self
        · rw [zlup_ne h2, hF _ _ _ _ _ h_, zlup_ne h2]
      · exact zlal_ne h_ hF n_ _ _ _ _
theorem zla_ne {v_ c_ u_ : Nat} {x_ : Int32} (h_ : ¬ (c_ = 27 ∧ u_ = v_)) : ∀ (d_ f_ : Nat) (y_ : Int32) (I_ : zIn) (L_ : zLi), (zla v_ x_ d_ f_ y_ I_ L_).2.2 c_ u_ = L_ c_ u_
  | 0, _, _, _, _ => zlaf_ne h_
  | d_ + 1, f_, y_, I_, L_ => by
    unfold zla
    split
    · exact zlaf_ne h_
    · exact zlal_ne h_ (fun y_ I_ L_ c_ u_ h2 => zla_ne h2 d_ (f_ + 1) y_ I_ L_) _ _ _ _ _
theorem zm70f {v_ f_ d_ : Nat} {x_ y_ : Int32} {I_ : zIn} {L_ : zLi} (hn : (L_ 26 v_).length + (L_ 24 v_).length < 500) : zY none (d_ + 10) 70 21 [some (zwR 5 v_), some (zwI (Int32.ofNat f_)), some (zwI x_), some (zwI y_), some (zwR 24 v_), none, none] [] I_ L_ 0 (zRet (some (zwI (zlaf v_ x_ y_ I_ L_).1)) (zlaf v_ x_ y_ I_ L_).2.1 (zlaf v_ x_ y_ I_ L_).2.2) := by
  have hB_ : (y_ = -1 ∨ zdrv I_ (L_ 24 v_) (I_ 5 v_ 11) (I_ 5 v_ 1) < y_) → zY none (d_ + 10) 70 47 [some (zwR 5 v_), some (zwI (Int32.ofNat f_)), some (zwI x_), some (zwI y_), some (zwR 24 v_), some (zwI (zdrv I_ (L_ 24 v_) (I_ 5 v_ 11) (I_ 5 v_ 1))), some (zwI 1)] [zwI 1] I_ L_ 0 (zRet (some (zwI (zlaf v_ x_ y_ I_ L_).1)) (zlaf v_ x_ y_ I_ L_).2.1 (zlaf v_ x_ y_ I_ L_).2.2) := by
    intro h_
    unfold zlaf; rw [if_pos h_]
    refine zY.bi rfl (fun hp => absurd hp (show ¬ ((1 : Int32) = 0) by decide)) (fun _ => ?_)
    refine zY.go 2 rfl ?_
    refine zY.cr (zm100 hn) rfl rfl rfl rfl (Nat.le_of_ble_eq_true rfl) rfl (by decide) rfl (by omega) (Nat.zero_le _) ?_
    refine zY.bi rfl (fun hp => ?_) (fun hp => ?_)
    · rw [if_neg (by rw [zb_eq0.mp hp]; decide)]
      refine zY.go 1 rfl ?_
      exact zY.ri rfl rfl ⟨rfl, rfl, rfl⟩
    · rw [if_pos (by cases h_ : (zirt I_ L_ v_ x_).1; exact absurd (zb_eq0.mpr h_) hp; rfl)]
      refine zY.go 2 rfl ?_
      exact zY.ri rfl rfl ⟨rfl, rfl, rfl⟩
  refine zY.go 1 rfl ?_
  refine zY.cr zm98 rfl rfl rfl rfl (Nat.le_of_ble_eq_true rfl) rfl (by decide) rfl (by omega) (Nat.zero_le _) ?_
  refine zY.go 3 rfl ?_
  refine zY.bc rfl (fun hp => ?_) (fun hp => ?_)
  · refine zY.go 4 rfl ?_
    exact hB_ (Or.inl hp)
  · refine zY.go 2 rfl ?_
    refine zY.bc rfl (fun hp2 => ?_) (fun hp2 => ?_)
    · refine zY.go 3 rfl ?_
      refine zY.bi rfl (fun _ => ?_) (fun h_ => absurd rfl h_)
      refine zY.go 1 rfl ?_
      refine zY.ri rfl rfl ?_
      unfold zlaf; rw [if_neg (fun h_ => h_.elim hp (Int32.not_lt.mpr hp2))]
      exact ⟨rfl, rfl, rfl⟩
    · refine zY.go 4 rfl ?_
      exact hB_ (Or.inr (Int32.not_le.mp hp2))
theorem zm70l {v_ f_ d_ : Nat} {x_ y0 : Int32} (l : List Nat) (F_ : Int32 → zIn → zLi → Int32 × (zIn × zLi)) (hf : f_ < l.length) (hl : l.length ≤ 300)
    (hF : ∀ y_ I_ L_ c_ u_, ¬ (c_ = 27 ∧ u_ = v_) → (F_ y_ I_ L_).2.2 c_ u_ = L_ c_ u_)
    (hR : ∀ y_ I_ L_, (L_ 24 v_).length = l.length → (L_ 26 v_).length ≤ 150 → zYm (d_ + 10) 70 [zwR 5 v_, zwI (Int32.ofNat (f_ + 1)), zwI x_, zwI y_] I_ L_ 0 (zRet (some (zwI (F_ y_ I_ L_).1)) (F_ y_ I_ L_).2.1 (F_ y_ I_ L_).2.2)) :
    ∀ (n_ i_ : Nat) (y_ : Int32) (I_ : zIn) (L_ : zLi), n_ + i_ = l.length → L_ 24 v_ = l → (L_ 26 v_).length ≤ 150 → zY none (d_ + 11) 70 71 [some (zwR 5 v_), some (zwI (Int32.ofNat f_)), some (zwI x_), some (zwI y0), some (zwR 24 v_), some (zwI y_), some (zwI (Int32.ofNat i_))] [] I_ L_ 0 (zRet (some (zwI (zlal v_ f_ F_ n_ i_ y_ I_ L_).1)) (zlal v_ f_ F_ n_ i_ y_ I_ L_).2.1 (zlal v_ f_ F_ n_ i_ y_ I_ L_).2.2)
  | 0, i_, y_, I_, L_, hi_, h24, h26 => by
    subst h24
    refine zY.go 3 rfl ?_
    refine zY.bn rfl (by omega) (by omega) (fun _ => ?_) (fun hF => absurd (show (L_ 24 v_).length ≤ i_ by omega) hF)
    refine zY.go 1 rfl ?_
    exact zY.ri rfl rfl ⟨rfl, rfl, rfl⟩
  | n_ + 1, i_, y_, I_, L_, hi_, h24, h26 => by
    subst h24
    obtain ⟨s_, hs⟩ : ∃ s_, (L_ 24 v_)[i_]? = some s_ := ⟨_, List.getElem?_eq_getElem (by omega)⟩
    obtain ⟨sf, hsf⟩ : ∃ s_, (L_ 24 v_)[f_]? = some s_ := ⟨_, List.getElem?_eq_getElem hf⟩
    have ih_ := fun (y_ : Int32) (I_ : zIn) (L2_ : zLi) h1 h2 => zm70l (y0 := y0) (L_ 24 v_) F_ hf hl hF hR n_ (i_ + 1) y_ I_ L2_ (by omega) h1 h2
    simp only [← zisucc] at ih_
    refine zY.go 3 rfl ?_
    refine zY.bn rfl (by omega) (by omega) (fun hT_ => absurd hT_ (show ¬ (L_ 24 v_).length ≤ i_ by omega)) (fun _ => ?_)
    refine zY.go 3 rfl ?_
    refine zY.cr (zm118 hs (by omega)) rfl rfl rfl rfl (Nat.le_of_ble_eq_true rfl) rfl (by decide) rfl (by omega) (Nat.zero_le _) ?_
    unfold zlal; rw [hs]
    show zY _ _ _ _ _ _ _ _ _ (zRet (some (zwI (if s_ % 2 = 0 ∨ zfnd (2 * (s_ / 2)) (L_ 24 v_) 0 < Int32.ofNat f_ then _ else _ : Int32 × (zIn × zLi)).1)) (if s_ % 2 = 0 ∨ zfnd (2 * (s_ / 2)) (L_ 24 v_) 0 < Int32.ofNat f_ then _ else _ : Int32 × (zIn × zLi)).2.1 (if s_ % 2 = 0 ∨ zfnd (2 * (s_ / 2)) (L_ 24 v_) 0 < Int32.ofNat f_ then _ else _ : Int32 × (zIn × zLi)).2.2)
    refine zY.bi rfl (fun hp => ?_) (fun hp => ?_)
    · rw [if_neg (zP_eq0.mp hp)]
      refine zY.go 2 rfl ?_
      exact ih_ y_ I_ L_ rfl h26
    · rw [if_pos (Decidable.byContradiction (fun h_ => hp (zP_eq0.mpr h_)))]
      refine zY.go 3 rfl ?_
      refine zY.cr (zm119 hsf hs) rfl rfl rfl rfl (Nat.le_of_ble_eq_true rfl) rfl (by decide) rfl (by omega) (Nat.zero_le _) ?_
      have hz : ((L_ 24 v_).set f_ s_).set i_ sf = zswp (L_ 24 v_) f_ i_ := by unfold zswp; rw [hsf, hs]
      rw [hz]
      have hzl : (zswp (L_ 24 v_) f_ i_).length = (L_ 24 v_).length := by rw [← hz]; simp
      have e26_ : zlup L_ 24 v_ (zswp (L_ 24 v_) f_ i_) 26 v_ = L_ 26 v_ := zlup_ne (by simp)
      refine zY.go 6 rfl ?_
      show zY _ _ _ _ _ [zwI y_, zwI x_, zwI (Int32.ofNat f_ + 1), zwR 5 v_] _ (zlup L_ 24 v_ (zswp (L_ 24 v_) f_ i_)) _ _
      rw [zisucc]
      refine zY.cr (hR y_ I_ (zlup L_ 24 v_ (zswp (L_ 24 v_) f_ i_)) (by rw [zlup_self, hzl]) (by rw [e26_]; exact h26)) rfl rfl rfl rfl (Nat.le_of_ble_eq_true rfl) rfl (by decide) rfl (by omega) (Nat.zero_le _) ?_
      refine zY.go 4 rfl ?_
      have e24_ : (F_ y_ I_ (zlup L_ 24 v_ (zswp (L_ 24 v_) f_ i_))).2.2 24 v_ = zswp (L_ 24 v_) f_ i_ := by rw [hF _ _ _ _ _ (by simp), zlup_self]
      obtain ⟨a', b', g1, g2, g3_⟩ := zswp_bk hsf hs
      refine zY.cr (zm119 (i_ := f_) (j_ := i_) (by rw [e24_]; exact g1) (by rw [e24_]; exact g2)) rfl rfl rfl rfl (Nat.le_of_ble_eq_true rfl) rfl (by decide) rfl (by omega) (Nat.zero_le _) ?_
      rw [e24_, g3_]
      refine zY.go 2 rfl ?_
      exact ih_ _ _ _ zlup_self (by rw [zlup_ne (by simp), hF _ _ _ _ _ (by simp), e26_]; exact h26)
theorem zm70 (v_ : Nat) (x_ : Int32) : ∀ (d_ f_ : Nat) (y_ : Int32) (I_ : zIn) (L_ : zLi), 6 ≤ f_ + d_ → f_ ≤ 1000 → (L_ 24 v_).length ≤ 300 → (L_ 26 v_).length ≤ 150 → zYm (d_ + 10) 70 [zwR 5 v_, zwI (Int32.ofNat f_), zwI x_, zwI y_] I_ L_ 0 (zRet (some (zwI (zla v_ x_ d_ f_ y_ I_ L_).1)) (zla v_ x_ d_ f_ y_ I_ L_).2.1 (zla v_ x_ d_ f_ y_ I_ L_).2.2)
  | 0, f_, y_, I_, L_, h6, hf, hl, h26 => by
    refine zYm.of (Nat.le_of_ble_eq_true rfl) rfl ?_
    refine zY.go 6 rfl ?_
    refine zY.bn rfl (by omega) (by omega) (fun _ => zm70f (d_ := 0) (by omega)) (fun hp => ?_)
    refine zY.go 2 rfl ?_
    refine zY.bn (y_ := 6) rfl (by omega) (by omega) (fun hp2 => absurd hp2 (show ¬ f_ < 6 by omega)) (fun _ => zm70f (d_ := 0) (by omega))
  | d_ + 1, f_, y_, I_, L_, h6, hf, hl, h26 => by
    refine zYm.of (Nat.le_of_ble_eq_true rfl) rfl ?_
    refine zY.go 6 rfl ?_
    unfold zla
    refine zY.bn rfl (by omega) (by omega) (fun hp => ?_) (fun hp => ?_)
    · rw [if_pos (Or.inl (show (L_ 24 v_).length ≤ f_ from hp))]
      exact zm70f (d_ := d_ + 1) (by omega)
    · refine zY.go 2 rfl ?_
      have hp' : f_ < (L_ 24 v_).length := Nat.lt_of_not_le hp
      refine zY.bn (y_ := 6) rfl (by omega) (by omega) (fun hp2 => ?_) (fun hp2 => ?_)
      · have hp2' : f_ < 6 := hp2
        rw [if_neg (by omega)]
        refine zY.go 4 rfl ?_
        exact zm70l (d_ := d_) (y0 := y_) (L_ 24 v_) (zla v_ x_ d_ (f_ + 1)) hp' hl (fun y_ I_ L_ c_ u_ h_ => zla_ne h_ d_ (f_ + 1) y_ I_ L_) (fun y_ I_ L_ h1 h2 => zm70 v_ x_ d_ (f_ + 1) y_ I_ L_ (by omega) (by omega) (by omega) h2) ((L_ 24 v_).length - f_) f_ y_ I_ L_ (by omega) rfl h26
      · have hp2' : ¬ f_ < 6 := hp2
        rw [if_pos (Or.inr (by omega))]
        exact zm70f (d_ := d_ + 1) (by omega)
