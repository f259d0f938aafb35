/-! what the search leaves alone; where its best place may be -/
def zfr (v_ c_ i_ f_ : Nat) : Prop := ¬ (c_ = 0 ∧ i_ = v_) ∧ ¬ (c_ = 1 ∧ f_ = 9) ∧ ¬ (c_ = 4 ∧ (f_ = 3 ∨ f_ = 4))
theorem zgt_fr {I_ : zIn} {v_ s_ c_ i_ f_ : Nat} {x_ : Int32} (h_ : zfr v_ c_ i_ f_) : zgt I_ v_ s_ x_ c_ i_ f_ = I_ c_ i_ f_ := by
  obtain ⟨h1, h2, h3⟩ := h_
  have e4_ : ∀ (J_ : zIn), zgt4 J_ v_ s_ c_ i_ f_ = J_ c_ i_ f_ := fun J_ => by
    unfold zgt4
    rw [zset_ne (fun e_ => h1 ⟨e_.1, e_.2.1⟩), zset_ne (fun e_ => h1 ⟨e_.1, e_.2.1⟩)]
  have e3_ : ∀ (J_ : zIn), zgt3 J_ s_ c_ i_ f_ = J_ c_ i_ f_ := fun J_ => by
    unfold zgt3
    split
    · rw [zset_ne (fun e_ => h2 ⟨e_.1, e_.2.2⟩)]
    · rfl
  have e2_ : zgt2 I_ v_ s_ c_ i_ f_ = I_ c_ i_ f_ := by
    unfold zgt2 zgt1
    rw [zset_ne (fun e_ => h3 ⟨e_.1, Or.inr e_.2.2⟩), zset_ne (fun e_ => h3 ⟨e_.1, Or.inl e_.2.2⟩)]
  unfold zgt
  rw [e4_, e3_]
  split
  · exact e2_
  · rfl
theorem zcl1_fr {I_ : zIn} {v_ s_ c_ i_ f_ : Nat} (h_ : zfr v_ c_ i_ f_) : zcl1 I_ v_ s_ c_ i_ f_ = I_ c_ i_ f_ := by
  unfold zcl1
  rw [zset_ne (fun e_ => h_.1 ⟨e_.1, e_.2.1⟩)]
theorem zirl_fr {v_ c_ i' f_ : Nat} (h_ : zfr v_ c_ i' f_) : ∀ (l : List Nat) (i_ : Nat) (I_ : zIn) (L_ : zLi), (zirl v_ l i_ I_ L_).2.1 c_ i' f_ = I_ c_ i' f_
  | [], _, _, _ => rfl
  | s_ :: r_, i_, I_, L_ => by
    unfold zirl
    split
    · split
      · rw [zirl_fr h_ r_, zcl1_fr h_, zgt_fr h_]
      · show zcl1 _ v_ s_ c_ i' f_ = _
        rw [zcl1_fr h_, zgt_fr h_]
    · exact zgt_fr h_
theorem zstr_fr {I_ : zIn} {L_ : zLi} {v_ c_ i_ f_ : Nat} {x_ : Int32} (h_ : zfr v_ c_ i_ f_) : zstr I_ L_ v_ x_ c_ i_ f_ = I_ c_ i_ f_ := by
  unfold zstr zst0
  rw [zset_ne (fun e_ => h_.1 ⟨e_.1, e_.2.1⟩), zset_ne (fun e_ => h_.1 ⟨e_.1, e_.2.1⟩), zset_ne (fun e_ => h_.1 ⟨e_.1, e_.2.1⟩)]
theorem zirt_fr {I_ : zIn} {L_ : zLi} {v_ c_ i_ f_ : Nat} {x_ : Int32} (h_ : zfr v_ c_ i_ f_) : (zirt I_ L_ v_ x_).2.1 c_ i_ f_ = I_ c_ i_ f_ := by
  unfold zirt
  rw [zirl_fr h_, zstr_fr h_]
theorem zlay_fr {v_ c_ i' f_ : Nat} (h_ : zfr v_ c_ i' f_) : ∀ (l : List Nat) (i_ : Nat) (I_ : zIn), zlay v_ l i_ I_ c_ i' f_ = I_ c_ i' f_
  | [], _, _ => rfl
  | s_ :: r_, i_, I_ => by
    unfold zlay
    rw [zlay_fr h_ r_, zgt_fr h_]
theorem zplS_fr {I_ : zIn} {L_ : zLi} {v_ c_ i_ f_ : Nat} {x_ : Int32} (h_ : zfr v_ c_ i_ f_) : zplS I_ L_ v_ x_ c_ i_ f_ = I_ c_ i_ f_ := by
  unfold zplS
  rw [zlay_fr h_, zstr_fr h_]
/-- the best place so far is one -/
def zbst (I_ : zIn) (L_ : zLi) : Prop := I_ 3 0 0 = 0 ∨ ∃ v_ i_ j_, I_ 3 0 0 = Int32.ofNat (v_ + 1) ∧ v_ ∈ L_ 21 0 ∧ v_ < 4 ∧ I_ 3 0 2 = Int32.ofNat i_ ∧ I_ 3 0 3 = Int32.ofNat j_ ∧ i_ < j_ ∧ j_ ≤ (L_ 24 v_).length + 1
theorem zbst_of {I_ I' : zIn} {L_ L' : zLi} (h_ : zbst I_ L_) (hI : ∀ f_, I' 3 0 f_ = I_ 3 0 f_) (h21 : L' 21 0 = L_ 21 0) (h24 : ∀ v_, v_ < 4 → (L' 24 v_).length = (L_ 24 v_).length) : zbst I' L' := by
  unfold zbst at h_ ⊢
  rw [hI, hI, hI, h21]
  rcases h_ with h_ | ⟨v_, i_, j_, h1, h2, h3, h4, h5, h6, h7⟩
  · exact Or.inl h_
  · exact Or.inr ⟨v_, i_, j_, h1, h2, h3, h4, h5, h6, by rw [h24 v_ h3]; exact h7⟩
theorem zfr3 {v_ f_ : Nat} : zfr v_ 3 0 f_ := ⟨fun h_ => by omega, fun h_ => by omega, fun h_ => by omega⟩
theorem zin1_bst {v_ t_ i_ : Nat} {x_ bf : Int32} {l1 : List Nat} {L0_ : zLi} (hv : v_ ∈ L0_ 21 0) (hv4 : v_ < 4) (hl1 : l1.length = (L0_ 24 v_).length + 1) : ∀ (n_ j_ : Nat) (I_ : zIn) (L_ : zLi), j_ + n_ ≤ (L0_ 24 v_).length + 2 → i_ < j_ → zbst I_ L0_ → zbst (zin1 v_ t_ x_ bf l1 i_ n_ j_ I_ L_).1 L0_
  | 0, _, _, _, _, _, h_ => h_
  | n_ + 1, j_, I_, L_, hj, hij, h_ => by
    unfold zin1
    split
    · refine zin1_bst hv hv4 hl1 n_ (j_ + 1) _ _ (by omega) (by omega) ?_
      split
      · refine Or.inr ⟨v_, i_, j_, ?_, hv, hv4, ?_, ?_, hij, by omega⟩ <;> simp [zkp, zset]
      · exact zbst_of h_ (fun f_ => zirt_fr zfr3) rfl (fun _ _ => rfl)
    · exact zin1_bst hv hv4 hl1 n_ (j_ + 1) I_ L_ (by omega) (by omega) h_
theorem zin2_bst {v_ p_ t_ : Nat} {x_ bf : Int32} {l : List Nat} {L0_ : zLi} (hv : v_ ∈ L0_ 21 0) (hv4 : v_ < 4) (hl : L0_ 24 v_ = l) : ∀ (n_ i_ : Nat) (I_ : zIn) (L_ : zLi), i_ + n_ = l.length + 1 → zbst I_ L0_ → zbst (zin2 v_ p_ t_ x_ bf l n_ i_ I_ L_).1 L0_
  | 0, _, _, _, _, h_ => h_
  | n_ + 1, i_, I_, L_, hi_, h_ => by
    unfold zin2
    refine zin2_bst hv hv4 hl n_ (i_ + 1) _ _ (by omega) ?_
    exact zin1_bst hv hv4 (by rw [zins_len (by omega), hl]) _ _ _ _ (by rw [hl]; omega) (by omega) h_
theorem ztr1_bst {I_ : zIn} {L_ : zLi} {v_ p_ t_ : Nat} {x_ : Int32} (hv : v_ ∈ L_ 21 0) (hv4 : v_ < 4) (h_ : zbst I_ L_) : zbst (ztr1 I_ L_ v_ p_ t_ x_).1 (ztr1 I_ L_ v_ p_ t_ x_).2 := by
  refine zbst_of (I_ := (ztr1 I_ L_ v_ p_ t_ x_).1) (L_ := L_) ?_ (fun _ => rfl) (ztr1_ne (by simp)) (fun u_ _ => by rw [ztr1_ne (by simp)])
  unfold ztr1
  split
  · exact zin2_bst hv hv4 rfl _ _ _ _ (by have : zfo I_ v_ ≤ 1 := by { unfold zfo; split <;> omega }; omega) h_
  · exact h_
theorem zptl_bst {p_ t_ : Nat} {x_ : Int32} : ∀ (r_ : List Nat) (I_ : zIn) (L_ : zLi), (∀ v_ ∈ r_, v_ ∈ L_ 21 0 ∧ v_ < 4) → zbst I_ L_ → zbst (zptl p_ t_ x_ r_ I_ L_).1 (zptl p_ t_ x_ r_ I_ L_).2
  | [], _, _, _, h_ => h_
  | v_ :: r_, I_, L_, hr, h_ => by
    unfold zptl
    refine zptl_bst r_ _ _ (fun u_ hu => ?_) (ztr1_bst (hr v_ List.mem_cons_self).1 (hr v_ List.mem_cons_self).2 h_)
    rw [ztr1_ne (by simp)]
    exact hr u_ (List.mem_cons_of_mem _ hu)
theorem zm89l {p_ t_ : Nat} {x_ : Int32} {Q_ : zPost} : ∀ (n_ i_ : Nat) (I_ : zIn) (L_ : zLi), n_ + i_ = (L_ 21 0).length → (L_ 21 0).length ≤ 1000 → (∀ v_ ∈ L_ 21 0, (L_ 24 v_).length ≤ 200 ∧ (L_ 26 v_).length ≤ 150) →
    zY none 11 89 40 [some (zwR 3 0), some (zwR 21 0), some (zwR 4 p_), some (zwR 4 t_), some (zwI x_), some (zwI (Int32.ofNat (L_ 21 0).length))] [] (zptl p_ t_ x_ ((L_ 21 0).drop i_) I_ L_).1 (zptl p_ t_ x_ ((L_ 21 0).drop i_) I_ L_).2 0 Q_ →
    zY none 11 89 8 [some (zwR 3 0), some (zwR 21 0), some (zwR 4 p_), some (zwR 4 t_), some (zwI x_), some (zwI (Int32.ofNat i_))] [] I_ L_ 0 Q_
  | 0, i_, I_, L_, hi_, hn, hb_, hX => by
    rw [List.drop_of_length_le (by omega)] at hX
    refine zY.go 3 rfl ?_
    refine zY.bn rfl (by omega) (by omega) (fun _ => ?_) (fun hF => absurd (show (L_ 21 0).length ≤ i_ by omega) hF)
    have : i_ = (L_ 21 0).length := by omega
    rw [← this] at hX
    exact hX
  | n_ + 1, i_, I_, L_, hi_, hn, hb_, hX => by
    obtain ⟨s_, hs⟩ : ∃ s_, (L_ 21 0)[i_]? = some s_ := ⟨_, List.getElem?_eq_getElem (by omega)⟩
    rw [zdrop_cons hs] at hX
    obtain ⟨b1, b2⟩ := hb_ s_ (List.mem_of_getElem? hs)
    have e21_ : (ztr1 I_ L_ s_ p_ t_ x_).2 21 0 = L_ 21 0 := ztr1_ne (by simp)
    have ih_ := zm89l (p_ := p_) (t_ := t_) (x_ := x_) (Q_ := Q_) n_ (i_ + 1) (ztr1 I_ L_ s_ p_ t_ x_).1 (ztr1 I_ L_ s_ p_ t_ x_).2
    rw [e21_, ← zisucc] at ih_
    refine zY.go 3 rfl ?_
    refine zY.bn rfl (by omega) (by omega) (fun hT_ => absurd hT_ (show ¬ (L_ 21 0).length ≤ i_ by omega)) (fun _ => ?_)
    refine zY.go 3 rfl ?_
    refine zY.cr (w_get rfl hs) rfl rfl rfl rfl (Nat.le_of_ble_eq_true rfl) rfl (by decide) rfl (by decide) (by decide) ?_
    refine zY.go 4 rfl ?_
    refine zY.cr (zm90 b1 b2) rfl rfl rfl rfl (Nat.le_of_ble_eq_true rfl) rfl (by decide) rfl (by decide) (by decide) ?_
    refine zY.go 2 rfl ?_
    refine ih_ (by omega) hn (fun v_ hv => ?_) hX
    rw [ztr1_ne (by simp), ztr1_ne (by simp)]
    exact hb_ v_ hv
theorem zm89 {I_ : zIn} {L_ : zLi} {p_ t_ : Nat} {x_ : Int32} (hb_ : ∀ v_ ∈ L_ 21 0, (L_ 24 v_).length ≤ 90 ∧ (L_ 26 v_).length ≤ 150 ∧ v_ < 4) : zYm 11 89 [zwR 3 0, zwR 21 0, zwR 4 p_, zwR 4 t_, zwI x_] I_ L_ 0 (zRb (zpb I_ L_ p_ t_ x_)) := by
  refine zYm.inv (fun hi_ hw => ?_)
  have hn := (hi_.1 21 0 (hw (zwR 21 0) (by simp)) (by decide)).1
  refine zYm.of (Nat.le_of_ble_eq_true rfl) rfl ?_
  refine zY.go 2 rfl ?_
  refine zY.pn rfl ?_
  refine zY.go 2 rfl ?_
  refine zm89l (L_ 21 0).length 0 (zset I_ 3 0 0 0) L_ (by omega) hn (fun v_ hv => ⟨by have := hb_ v_ hv; omega, by have := hb_ v_ hv; omega⟩) ?_
  show zY _ _ _ _ _ _ (zptl p_ t_ x_ (L_ 21 0) (zset I_ 3 0 0 0) L_).1 (zptl p_ t_ x_ (L_ 21 0) (zset I_ 3 0 0 0) L_).2 _ _
  have hbs := zptl_bst (p_ := p_) (t_ := t_) (x_ := x_) (L_ 21 0) (zset I_ 3 0 0 0) L_ (fun v_ hv => ⟨hv, (hb_ v_ hv).2.2⟩) (Or.inl zset_is)
  have e24_ : ∀ v_, (zptl p_ t_ x_ (L_ 21 0) (zset I_ 3 0 0 0) L_).2 24 v_ = L_ 24 v_ := fun v_ => zptl_ne (by decide) _ _ _
  have e21_ : (zptl p_ t_ x_ (L_ 21 0) (zset I_ 3 0 0 0) L_).2 21 0 = L_ 21 0 := zptl_ne (by decide) _ _ _
  unfold zpb
  generalize zptl p_ t_ x_ (L_ 21 0) (zset I_ 3 0 0 0) L_ = r_ at *
  obtain ⟨J_, M_⟩ := r_
  simp only at *
  refine zY.go 2 rfl ?_
  show zY _ _ _ _ _ [if J_ 3 0 0 = 0 then zwK 0 else zwR 5 ((J_ 3 0 0).toNatClampNeg - 1)] _ _ _ _
  rcases hbs with h0 | ⟨v_, i_, j_, h1, h2, h3, h4, h5, h6, h7⟩
  · rw [if_pos h0, if_pos h0]
    refine zY.bk (t_ := false) rfl rfl (fun _ => rfl) ?_
    refine zY.go 1 rfl ?_
    exact zY.rb rfl rfl (Or.inl rfl) ⟨rfl, rfl, rfl⟩
  · have hne : ¬ J_ 3 0 0 = 0 := by rw [h1]; exact zine (b := 0) (by omega) (by omega) (by omega)
    have hv1 : (J_ 3 0 0).toNatClampNeg - 1 = v_ := by rw [h1, zicl (by omega)]; rfl
    rw [e24_] at h7
    rw [e21_] at h2
    have hbv := hb_ v_ h2
    rw [if_neg hne, if_neg hne, hv1, h4, h5, zicl (by omega), zicl (by omega)]
    refine zY.bk (t_ := true) rfl rfl (fun _ => rfl) ?_
    refine zY.go 8 rfl ?_
    show zY _ _ _ _ _ [zwI (J_ 3 0 3), zwR 4 t_, zwI (J_ 3 0 2), zwR 4 p_, if J_ 3 0 0 = 0 then zwK 0 else zwR 5 ((J_ 3 0 0).toNatClampNeg - 1)] _ _ _ _
    rw [if_neg hne, hv1, h4, h5]
    refine zY.cr (zm102 (v_ := v_) (k_ := i_) (j_ := j_) (by rw [e24_]; omega) (by rw [e24_]; omega) (by rw [e24_]; omega)) rfl rfl rfl rfl (Nat.le_of_ble_eq_true rfl) rfl (by decide) rfl (by decide) (by decide) ?_
    rw [e24_]
    refine zY.go 1 rfl ?_
    exact zY.rb rfl rfl (Or.inr rfl) ⟨rfl, rfl, rfl⟩

