/-! THE LAW'S isSo: all that are aboard -/
def zTie (I_ : zIn) (M_ : Nat) : Prop := (∀ r_, r_ < M_ → I_ 30 63 r_ = I_ 1 r_ 0 ∧ I_ 30 64 r_ = I_ 1 r_ 1 ∧ I_ 30 65 r_ = I_ 1 r_ 2) ∧ (∀ i_, i_ < 6 → I_ 30 60 i_ = I_ 2 i_ 0 ∧ (if I_ 2 i_ 0 = 2 then 2 else 1) + I_ 30 61 i_ = I_ 2 i_ 3 ∧ I_ 30 62 i_ = I_ 2 i_ 2) ∧ (∀ v_, v_ < 2 → I_ 30 66 (4 * v_) = I_ 5 v_ 1 ∧ I_ 30 66 (4 * v_ + 1) = I_ 5 v_ 2 ∧ I_ 30 66 (4 * v_ + 2) = I_ 5 v_ 3)
def zEv (I0_ : zIn) (L0_ : zLi) (I_ : zIn) (L_ : zLi) : Prop := zSo I0_ L0_ I_ L_ ∧ (∀ i_ f_, i_ < 100 → I_ 30 i_ f_ = I0_ 30 i_ f_) ∧ ∀ i_, I_ 99 30 i_ = I0_ 99 30 i_
section
variable {I0_ I_ I' : zIn} {L0_ L_ L' : zLi} {D_ : zIn} {M_ v_ j_ : Nat} {a_ : Nat} {Q_ : zPost}
theorem zEv.so (h_ : zEv I0_ L0_ I_ L_) (hs : zSo I_ L_ I' L') (h30 : ∀ i_ f_, i_ < 100 → I' 30 i_ f_ = I_ 30 i_ f_) (h99 : ∀ i_, I' 99 30 i_ = I_ 99 30 i_) : zEv I0_ L0_ I' L' := ⟨h_.1.trans hs, fun i_ f_ hi_ => (h30 i_ f_ hi_).trans (h_.2.1 i_ f_ hi_), fun i_ => (h99 i_).trans (h_.2.2 i_)⟩
theorem zEv.rfl : zEv I_ L_ I_ L_ := ⟨zSo.rfl, fun _ _ _ => Eq.refl _, fun _ => Eq.refl _⟩
theorem zEv.sq (h_ : zEv I0_ L0_ I_ L_) (hs : zSq I_ L_ I' L') : zEv I0_ L0_ I' L' := h_.so hs.o (fun i_ f_ _ => (hs.a30 i_ f_).1) (fun i_ => (hs.a30 i_ 0).2)
theorem zEv.set {p_ k_ : Nat} {x_ : Int32} (h_ : zEv I0_ L0_ I_ L_) (hp : 100 ≤ p_) : zEv I0_ L0_ (zset I_ 30 p_ k_ x_) L_ := h_.so zSo.set (fun i_ f_ hi_ => zset_ne (by omega)) (fun i_ => zset_ne (by omega))
theorem zEv.tie (h_ : zEv I0_ L0_ I_ L_) (hT_ : zTie I0_ M_) : zTie I_ M_ := by
  refine ⟨fun r_ hr => ?_, fun i_ hi_ => ?_, fun w_ hw => ?_⟩
  · rw [h_.2.1 63 r_ (by omega), h_.2.1 64 r_ (by omega), h_.2.1 65 r_ (by omega), h_.1.a1 r_ (by omega), h_.1.a1 r_ (by omega), h_.1.a1 r_ (by omega)]
    exact hT_.1 r_ hr
  · rw [h_.2.1 60 i_ (by omega), h_.2.1 61 i_ (by omega), h_.2.1 62 i_ (by omega), h_.1.a2, h_.1.a2, h_.1.a2]
    exact hT_.2.1 i_ hi_
  · rw [h_.2.1 66 _ (by omega), h_.2.1 66 _ (by omega), h_.2.1 66 _ (by omega), h_.1.a5, h_.1.a5, h_.1.a5]
    exact hT_.2.2 w_ hw
theorem zrq {r_ : Nat} (h_ : zzR I_ L_ D_ 6 2 M_) (hr : r_ < M_) : ∃ u_, u_ < 6 ∧ I_ 1 r_ 0 = Int32.ofNat u_ := by
  obtain ⟨u_, h1, h2, _⟩ := (h_.2.2.1 r_ hr).1.1
  exact ⟨u_, h1, h2⟩
theorem zxs.ev (hx : zxs I0_ L0_ v_ (I0_ 6 0 8)) (h_ : zEv I0_ L0_ I_ L_) : zxs I_ L_ v_ (I_ 6 0 8) := by
  unfold zxs
  rw [h_.1.a26, h_.1.a6]
  refine ⟨hx.1.imp (fun {a_ b_} hab => ?_), fun q_ hq => ?_⟩
  · rw [h_.1.a1 a_ (by omega), h_.1.a1 b_ (by omega)]; exact hab
  · rw [h_.1.a1 q_ (by omega)]; exact hx.2 q_ hq
theorem zEv.sea (h_ : zEv I0_ L0_ I_ L_) (q_ : Nat) : zsea I_ q_ = zsea I0_ q_ := by
  unfold zsea; rw [h_.1.a1 q_ (by omega), h_.1.a2]
theorem zEv.chr (h_ : zEv I0_ L0_ I_ L_) (q_ : Nat) : zchr I_ q_ = zchr I0_ q_ := by
  unfold zchr; rw [h_.1.a1 q_ (by omega), h_.1.a2]
theorem zEv.chl (h_ : zEv I0_ L0_ I_ L_) (l : List Nat) : zchl I_ l = zchl I0_ l := List.filter_congr (fun q_ _ => h_.chr q_)
/-- when the last of the first i came aboard -/
def zlst (C_ : zIn) (A_ : List Nat) : Nat → Int32
  | 0 => -1
  | i_ + 1 => match A_[i_]? with
    | none => -1
    | some q_ => C_ 1 q_ 11
theorem zlst_ok {C_ : zIn} {A_ : List Nat} (hp : A_.Pairwise (fun a_ b_ => C_ 1 a_ 11 < C_ 1 b_ 11)) (h0 : ∀ q_ ∈ A_, 0 ≤ C_ 1 q_ 11) : ∀ i_, i_ ≤ A_.length → (∀ q_ ∈ A_.take i_, C_ 1 q_ 11 ≤ zlst C_ A_ i_) ∧ ∀ q_ ∈ A_.drop i_, zlst C_ A_ i_ < C_ 1 q_ 11
  | 0, _ => ⟨fun q_ hq => by simp at hq, fun q_ hq => Int32.lt_of_lt_of_le (show (-1 : Int32) < 0 by decide) (h0 q_ (List.mem_of_mem_drop hq))⟩
  | i_ + 1, hi_ => by
    obtain ⟨q_, hq⟩ : ∃ q_, A_[i_]? = some q_ := ⟨_, List.getElem?_eq_getElem (by omega)⟩
    have e_ : zlst C_ A_ (i_ + 1) = C_ 1 q_ 11 := by
      show (match A_[i_]? with | none => (-1 : Int32) | some q_ => C_ 1 q_ 11) = C_ 1 q_ 11
      rw [hq]
    rw [e_]
    have hd_ := zdrop_cons hq
    have hA : A_ = A_.take i_ ++ q_ :: A_.drop (i_ + 1) := by rw [← hd_, List.take_append_drop]
    have hp2 := hp
    rw [hA] at hp2
    obtain ⟨p1_, p2_, p3_⟩ := List.pairwise_append.mp hp2
    refine ⟨fun r_ hr => ?_, fun r_ hr => (List.pairwise_cons.mp p2_).1 r_ hr⟩
    rw [List.take_add_one, hq] at hr
    rcases List.mem_append.mp hr with hr | hr
    · exact Int32.le_of_lt (p3_ r_ hr q_ List.mem_cons_self)
    · have hr2 : r_ = q_ := by simpa using hr
      rw [hr2]; exact Int32.le_refl _
variable {x23 x24 x25 x26 x27 x28 x29 x30 x31 x32 : Option zW} {y11 y12 y13 y14 : Int32}
theorem zoW (hR0 : zzR I0_ L0_ D_ 6 2 M_) (hv : v_ < 2) (hxs : zxs I0_ L0_ v_ (I0_ 6 0 8)) (hT_ : zTie I0_ M_)
    (hX : ∀ I_ L_ x20 x22 x23, zEv I0_ L0_ I_ L_ → (∀ k_ q_, (zchl I0_ (L0_ 26 v_))[k_]? = some q_ → I_ 30 (101 + 2 * j_) k_ = Int32.ofNat q_) → zY none 18 126 247 (zlS6 v_ M_ j_ (some (zwI y11)) (some (zwI y12)) (some (zwI y13)) (some (zwI y14)) (some (zwI (D_ 30 23 v_))) (some (zwI (Int32.ofNat (zchl I0_ (L0_ 26 v_)).length))) (some (zwI 0)) (some (zwI 1)) (some (zwI 1)) (some (zwI x20)) (some (zwI (-1))) (some (zwI x22)) x23 x24 x25 x26 x27 x28 x29 x30 x31 x32) [] I_ L_ a_ Q_) :
    ∀ (n_ i_ : Nat) (I_ : zIn) (L_ : zLi) (y_ : Int32) (x22 x23 : Option zW), n_ + i_ = (L0_ 26 v_).length → zEv I0_ L0_ I_ L_ → (∀ k_ q_, (zchl I0_ ((L0_ 26 v_).take i_))[k_]? = some q_ → I_ 30 (101 + 2 * j_) k_ = Int32.ofNat q_) → 0 ≤ y_ → zY none 18 126 81 (zlS6 v_ M_ j_ (some (zwI y11)) (some (zwI y12)) (some (zwI y13)) (some (zwI y14)) (some (zwI (ztak I0_ ((L0_ 26 v_).take i_) 0))) (some (zwI (Int32.ofNat (zchl I0_ ((L0_ 26 v_).take i_)).length))) (some (zwI 0)) (some (zwI 1)) (some (zwI 1)) (some (zwI (zlst I0_ (L0_ 26 v_) i_))) (some (zwI y_)) x22 x23 x24 x25 x26 x27 x28 x29 x30 x31 x32) [] I_ L_ a_ Q_
  | n_, i_, I_, L_, y_, x22, x23, hi_, hE, hc_, hy => by
    have hR := hE.1.R hR0
    have hM_ := hR.1.2.2.2.2.2.2.2.1
    have hsel : zsel I_ v_ (zlst I0_ (L0_ 26 v_) i_) M_ 0 none = ((L0_ 26 v_).drop i_).head? := by
      obtain ⟨g1, g2⟩ := zlst_ok hxs.1 (fun q_ hq => (hxs.2 q_ hq).1) i_ (by omega)
      have := zsel_ok (j_ := i_) (x_ := zlst I0_ (L0_ 26 v_) i_) hR hv (hxs.ev hE) (fun q_ hq => by rw [hE.1.a1 q_ (by omega)]; rw [hE.1.a26] at hq; exact g1 q_ hq) (fun q_ hq => by rw [hE.1.a1 q_ (by omega)]; rw [hE.1.a26] at hq; exact g2 q_ hq)
      rw [hE.1.a26] at this
      exact this
    refine zY.go 1 rfl ?_
    refine zY.bi rfl (fun hp => absurd hp (Int32.not_lt.mpr hy)) (fun _ => ?_)
    refine zY.go 4 rfl ?_
    refine zoS hR hv M_ 0 none _ (by omega) (fun q_ e_ => by cases e_) (fun x23 => ?_)
    rw [hsel]
    refine zY.go 1 rfl ?_
    cases n_ with
    | zero =>
      have e_ : i_ = (L0_ 26 v_).length := by omega
      have ed : (L0_ 26 v_).drop i_ = [] := List.drop_of_length_le (by omega)
      have et : (L0_ 26 v_).take i_ = L0_ 26 v_ := List.take_of_length_le (by omega)
      rw [ed, et]
      rw [et] at hc_
      have e23_ : ztak I0_ (L0_ 26 v_) 0 = D_ 30 23 v_ := (hR0.2.2.2.1 v_ hv).1.2.2.2.2.2.2.1
      rw [e23_]
      refine zY.bi rfl (fun _ => ?_) (fun hp => absurd (show (-1 : Int32) < 0 by decide) hp)
      refine zY.go 1 rfl ?_
      refine zY.bi rfl (fun _ => ?_) (fun hp => absurd (show (-1 : Int32) < 0 by decide) hp)
      exact hX I_ L_ _ _ x23 hE hc_
    | succ n_ =>
      obtain ⟨q_, hq⟩ : ∃ q_, (L0_ 26 v_)[i_]? = some q_ := ⟨_, List.getElem?_eq_getElem (by omega)⟩
      have hqm := List.mem_of_getElem? hq
      have hqM : q_ < M_ := ((hR0.2.2.2.1 v_ hv).2.2.2.2.2.2.1 q_ hqm).1
      rw [zdrop_cons hq]
      obtain ⟨u_, hu, e0_⟩ := zrq hR hqM
      have e0' : I0_ 1 q_ 0 = Int32.ofNat u_ := by rw [← hE.1.a1 q_ (f_ := 0) (by omega)]; exact e0_
      have hTI := hE.tie hT_
      have t1_ := hTI.1 q_ hqM
      have t2_ := hTI.2.1 u_ hu
      have eq30 : I_ 30 63 q_ = Int32.ofNat u_ := t1_.1.trans e0_
      have esea : (if I_ 2 u_ 0 = 2 then 2 else 1) + I_ 30 61 u_ = zsea I0_ q_ := by
        rw [t2_.2.1, ← hE.sea q_]
        unfold zsea
        rw [e0_, zicl (by omega)]
      have echr : zchr I0_ q_ = decide (I_ 2 u_ 0 = 2) := by
        rw [← hE.chr q_]
        unfold zchr
        rw [e0_, zicl (by omega)]
      have hlen : (zchl I0_ ((L0_ 26 v_).take i_)).length ≤ 3 := by
        have h3 : (zchl I0_ (L0_ 26 v_)).length ≤ 3 := (hR0.2.2.2.1 v_ hv).1.2.2.2.2.2.2.2.2.2.2.2.1
        have h4 : (zchl I0_ ((L0_ 26 v_).take i_)).length ≤ (zchl I0_ (L0_ 26 v_)).length := ((List.take_sublist i_ (L0_ 26 v_)).filter _).length_le
        omega
      have etak : (L0_ 26 v_).take (i_ + 1) = (L0_ 26 v_).take i_ ++ [q_] := by rw [List.take_add_one, hq]; rfl
      refine zY.bi rfl (fun hp => absurd hp (Int32.not_lt.mpr (zige (by omega)))) (fun _ => ?_)
      refine zY.go 3 rfl ?_
      refine zY.ai (n_ := q_) rfl rfl (by show q_ < 60; omega) ?_
      refine zY.ai (n_ := u_) rfl eq30 (by show u_ < 6; omega) ?_
      refine zY.go 4 rfl ?_
      refine zY.cr (zq62 5 hR hqM (by decide)) rfl rfl rfl rfl (Nat.le_of_ble_eq_true rfl) rfl (by decide) rfl (by decide) (Nat.zero_le _) ?_
      refine zY.go 6 rfl ?_
      refine zY.ai (n_ := q_) rfl rfl (by show q_ < 60; omega) ?_
      refine zY.ai (n_ := u_) rfl eq30 (by show u_ < 6; omega) ?_
      refine zY.cr za125 rfl rfl rfl rfl (Nat.le_of_ble_eq_true rfl) rfl (by decide) rfl (by decide) (Nat.zero_le _) ?_
      refine zY.go 5 rfl ?_
      refine zY.si (n_ := (zchl I0_ ((L0_ 26 v_).take i_)).length) rfl rfl (by rw [(zas_t j_).2]; omega) ?_
      refine zY.go 3 rfl ?_
      have el : zlst I0_ (L0_ 26 v_) (i_ + 1) = zrtl (I_ 1 q_) 5 := by
        show (match (L0_ 26 v_)[i_]? with | none => (-1 : Int32) | some q_ => I0_ 1 q_ 11) = I_ 1 q_ 11
        rw [hq, hE.1.a1 q_ (by omega)]
      have eu : ztak I0_ ((L0_ 26 v_).take (i_ + 1)) 0 = ztak I0_ ((L0_ 26 v_).take i_) 0 + ((if I_ 30 60 u_ = 2 then 2 else 1) + I_ 30 61 u_) := by
        rw [etak, zztak_app, t2_.1, esea]
      have ih_ := zoW hR0 hv hxs hT_ hX n_ (i_ + 1) (zset I_ 30 (101 + 2 * j_) (zchl I0_ ((L0_ 26 v_).take i_)).length (Int32.ofNat q_)) L_ (Int32.ofNat q_) (some (zwI (I_ 30 60 u_))) x23 (by omega) (hE.set (by omega)) (fun k_ r_ hk => ?_) (zige (by omega))
      · rw [el, eu] at ih_
        refine zY.bc rfl (fun hp => ?_) (fun hp => ?_)
        · have hf : zchr I0_ q_ = false := by rw [echr, ← t2_.1]; exact decide_eq_false hp
          have ec : zchl I0_ ((L0_ 26 v_).take (i_ + 1)) = zchl I0_ ((L0_ 26 v_).take i_) := by
            rw [etak]; unfold zchl; rw [List.filter_append, List.filter_cons_of_neg (by rw [hf]; decide)]; simp
          rw [ec] at ih_
          refine zY.go 4 rfl ?_
          rw [Int32.add_zero]
          exact ih_
        · have e2_ : I_ 30 60 u_ = 2 := Classical.not_not.mp hp
          have hf : zchr I0_ q_ = true := by rw [echr, ← t2_.1]; exact decide_eq_true e2_
          have ec : zchl I0_ ((L0_ 26 v_).take (i_ + 1)) = zchl I0_ ((L0_ 26 v_).take i_) ++ [q_] := by
            rw [etak]; unfold zchl; rw [List.filter_append, List.filter_cons_of_pos hf]; rfl
          rw [ec, List.length_append, List.length_singleton, ← zisucc] at ih_
          refine zY.go 5 rfl ?_
          exact ih_
      · have ea : zchl I0_ ((L0_ 26 v_).take i_ ++ [q_]) = zchl I0_ ((L0_ 26 v_).take i_) ++ zchl I0_ [q_] := List.filter_append _ _
        rw [etak, ea] at hk
        rcases Nat.lt_or_ge k_ (zchl I0_ ((L0_ 26 v_).take i_)).length with h1 | h1
        · rw [List.getElem?_append_left h1] at hk
          rw [zset_ne (by omega)]
          exact hc_ k_ r_ hk
        · rw [List.getElem?_append_right h1] at hk
          by_cases hf : zchr I0_ q_ = true
          · have ez : zchl I0_ [q_] = [q_] := by unfold zchl; rw [List.filter_cons_of_pos hf]; rfl
            rw [ez] at hk
            have hk0 : k_ = (zchl I0_ ((L0_ 26 v_).take i_)).length := by
              have := (List.getElem?_eq_some_iff.mp hk).1
              simp at this
              omega
            subst hk0
            rw [Nat.sub_self] at hk
            have hk2 : q_ = r_ := by simpa using hk
            subst hk2
            exact zset_is
          · have ez : zchl I0_ [q_] = [] := by unfold zchl; rw [List.filter_cons_of_neg hf]; rfl
            rw [ez] at hk
            simp at hk
end
