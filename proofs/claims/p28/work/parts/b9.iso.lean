/-! THE LAW'S isSo: a pick, a drop -/
theorem zlx_app {t_ : Nat} : ∀ (l r_ : List Nat) (k_ : Nat) (o : Option Nat), zlx t_ (l ++ r_) k_ o = zlx t_ r_ (k_ + l.length) (zlx t_ l k_ o)
  | [], r_, k_, o => rfl
  | s_ :: l, r_, k_, o => by
    show zlx t_ (l ++ r_) (k_ + 1) (if s_ = t_ then some k_ else o) = zlx t_ r_ (k_ + (l.length + 1)) (zlx t_ l (k_ + 1) (if s_ = t_ then some k_ else o))
    rw [zlx_app l r_ (k_ + 1), show k_ + 1 + l.length = k_ + (l.length + 1) by omega]
def zpk (D_ : zIn) (S_ : List Nat) (P_ : List (Int32 × Int32)) (q_ jj : Nat) : Int32 := match zlx (2 * q_) (S_.take jj) 0 none with
  | none => D_ 30 37 q_
  | some i_ => zzE P_ i_
theorem zpk_go {D_ : zIn} {S_ : List Nat} {P_ : List (Int32 × Int32)} {q_ jj t_ : Nat} (ht : S_[jj]? = some t_) : zpk D_ S_ P_ q_ (jj + 1) = if t_ = 2 * q_ then zzE P_ jj else zpk D_ S_ P_ q_ jj := by
  have e_ : zlx (2 * q_) (S_.take (jj + 1)) 0 none = if t_ = 2 * q_ then some jj else zlx (2 * q_) (S_.take jj) 0 none := by
    have hl : (S_.take jj).length = jj := by
      rw [List.length_take]
      have := (List.getElem?_eq_some_iff.mp ht).1
      omega
    rw [List.take_add_one, ht, Option.toList_some, zlx_app, hl, Nat.zero_add]
    rfl
  unfold zpk
  rw [e_]
  by_cases h_ : t_ = 2 * q_
  · rw [if_pos h_, if_pos h_]
  · rw [if_neg h_, if_neg h_]
theorem zpk_end {D_ : zIn} {S_ A_ : List Nat} {P_ : List (Int32 × Int32)} {k_ s_ : Nat} (hn : S_.Nodup) (hHO : zzHO S_) (hs : S_[k_]? = some s_) (ho : ¬ s_ % 2 = 0) : zpk D_ S_ P_ (s_ / 2) k_ = zzpe D_ S_ P_ (s_ / 2) := by
  have hno : ¬ 2 * (s_ / 2) ∈ S_.drop k_ := by
    intro hm_
    obtain ⟨i_, hi_⟩ := List.getElem?_of_mem hm_
    rw [List.getElem?_drop] at hi_
    obtain ⟨j2_, h2, h3⟩ := hHO k_ s_ hs ho (List.mem_of_mem_drop hm_)
    have := (List.getElem?_inj (List.getElem?_eq_some_iff.mp hi_).1 hn).mp (hi_.trans h3.symm)
    omega
  have e_ : zlx (2 * (s_ / 2)) S_ 0 none = zlx (2 * (s_ / 2)) (S_.take k_) 0 none := by
    conv => lhs; rw [← List.take_append_drop k_ S_]
    rw [zlx_app, zzlx_no _ _ _ hno]
  unfold zpk zzpe
  rw [e_]
  rfl
section
variable {I0_ I_ I' : zIn} {L0_ L_ L' : zLi} {D_ : zIn} {M_ v_ j_ : Nat} {a_ : Nat} {Q_ : zPost}
variable {x23 x24 x25 x26 x27 x28 x29 x30 x31 x32 : Option zW} {y11 y13 y20 y29 p_ lv u_ w_ z14_ z31_ : Int32} {c_ k_ s_ : Nat} {rb lf_ : Bool}
set_option maxRecDepth 100000 in
/-- when the one who is dropped came aboard -/
theorem zoJ (hR0 : zzR I0_ L0_ D_ 6 2 M_) (hv : v_ < 2) (hs : (L0_ 24 v_)[k_]? = some s_) (ho : ¬ s_ % 2 = 0)
    (hX : ∀ I' L' z32, zEv I0_ L0_ I' L' → (∀ i_ f_, I' 30 i_ f_ = I_ 30 i_ f_) → (∀ i_, I' 99 30 i_ = I_ 99 30 i_) → zY none 18 126 583 (zlS6 v_ M_ j_ (some (zwI (Int32.ofNat (L0_ 24 v_).length))) (some (zwI p_)) (some (zwI y13)) (some (zwI z14_)) (some (zwI u_)) (some (zwI (Int32.ofNat c_))) (some (zwI w_)) (some (zwI 1)) (some (zwI (if rb = true then 1 else 0))) (some (zwI y20)) (some (zwI (-1))) (some (zwI (Int32.ofNat k_))) (some (zwI (Int32.ofNat (s_ / 2)))) (some (zwI (if (!decide (s_ % 2 = 0)) = true then 1 else 0))) (some (zwI (zmkd D_ (s_ / 2)))) (some (zwI (zmpl D_ s_))) (some (zwI (2 * zspm p_ (zmpl D_ s_)))) (some (zwI (if lf_ = true then 1 else 0))) (some (zwI y29)) (some (zwI (zzB (zzP D_ v_ (L0_ 24 v_)) k_))) (some (zwI (zpk D_ (L0_ 24 v_) (zzP D_ v_ (L0_ 24 v_)) (s_ / 2) k_))) (some (zwI z32))) [] I' L' a_ Q_) (he : ∀ f_, f_ < k_ → I_ 30 (100 + 2 * j_) f_ = zzE (zzP D_ v_ (L0_ 24 v_)) f_) : ∀ (n_ jj : Nat) (J_ : zIn) (K_ : zLi), n_ + jj = k_ → zEv I0_ L0_ J_ K_ → (∀ i_ f_, J_ 30 i_ f_ = I_ 30 i_ f_) → (∀ i_, J_ 99 30 i_ = I_ 99 30 i_) → zY none 18 126 545 (zlS6 v_ M_ j_ (some (zwI (Int32.ofNat (L0_ 24 v_).length))) (some (zwI p_)) (some (zwI y13)) (some (zwI z14_)) (some (zwI u_)) (some (zwI (Int32.ofNat c_))) (some (zwI w_)) (some (zwI 1)) (some (zwI (if rb = true then 1 else 0))) (some (zwI y20)) (some (zwI (-1))) (some (zwI (Int32.ofNat k_))) (some (zwI (Int32.ofNat (s_ / 2)))) (some (zwI (if (!decide (s_ % 2 = 0)) = true then 1 else 0))) (some (zwI (zmkd D_ (s_ / 2)))) (some (zwI (zmpl D_ s_))) (some (zwI (2 * zspm p_ (zmpl D_ s_)))) (some (zwI (if lf_ = true then 1 else 0))) (some (zwI y29)) (some (zwI (zzB (zzP D_ v_ (L0_ 24 v_)) k_))) (some (zwI (zpk D_ (L0_ 24 v_) (zzP D_ v_ (L0_ 24 v_)) (s_ / 2) jj))) (some (zwI (Int32.ofNat jj)))) [] J_ K_ a_ Q_
  | 0, jj, J_, K_, hj, hE, h30, h99 => by
    have hk : k_ < (L0_ 24 v_).length := (List.getElem?_eq_some_iff.mp hs).1
    have hl : (L0_ 24 v_).length ≤ 16 := (zzA26 hR0 hv).2
    have e_ : jj = k_ := by omega
    subst e_
    refine zY.go 2 rfl ?_
    refine zY.bn rfl (by omega) (by omega) (fun _ => hX J_ K_ _ hE h30 h99) (fun hF => absurd (Nat.le_refl jj) hF)
  | n_ + 1, jj, J_, K_, hj, hE, h30, h99 => by
    have hk : k_ < (L0_ 24 v_).length := (List.getElem?_eq_some_iff.mp hs).1
    have hl : (L0_ 24 v_).length ≤ 16 := (zzA26 hR0 hv).2
    have hnd := (zzQ_of hR0 hv).2.2.1
    obtain ⟨t_, ht⟩ : ∃ t_, (L0_ 24 v_)[jj]? = some t_ := ⟨_, List.getElem?_eq_getElem (by omega)⟩
    have htl : t_ < 120 := ((zzQ_of hR0 hv).2.2.2.1 t_ (List.mem_of_getElem? ht)).1
    have hsl : s_ < 120 := ((zzQ_of hR0 hv).2.2.2.1 s_ (List.mem_of_getElem? hs)).1
    refine zY.go 2 rfl ?_
    refine zY.bn rfl (by omega) (by omega) (fun hT_ => absurd hT_ (show ¬ k_ ≤ jj by omega)) (fun _ => ?_)
    refine zY.go 4 rfl ?_
    refine zY.c (zq64 (k_ := 0) (hE.1.R hR0) hv (by rw [hE.1.a24]; exact ht) (by decide)) rfl rfl rfl rfl (Nat.le_of_ble_eq_true rfl) rfl (by decide) rfl (by decide) (Nat.zero_le _) (fun r_ I1 L1 hq => ?_)
    obtain ⟨rfl, s1_⟩ := hq
    refine ⟨_, rfl, ?_⟩
    have ih_ := zoJ hR0 hv hs ho hX he n_ (jj + 1) I1 L1 (by omega) (hE.sq s1_) (fun i_ f_ => ((s1_.a30 i_ f_).1).trans (h30 i_ f_)) (fun i_ => ((s1_.a30 i_ 0).2).trans (h99 i_))
    rw [zpk_go ht, ← zisucc] at ih_
    refine zY.go 1 rfl ?_
    refine zY.bn (x_ := t_ / 2) (y_ := s_ / 2) rfl (by omega) (by omega) (fun hp => ?_) (fun hp => ?_)
    · have e9_ : ¬ t_ = 2 * (s_ / 2) := fun e_ => absurd (show t_ / 2 = s_ / 2 by omega) hp
      rw [if_neg e9_] at ih_
      refine zY.go 4 rfl ?_
      exact ih_
    · have e1_ : t_ / 2 = s_ / 2 := Classical.not_not.mp hp
      have e2_ : t_ = 2 * (s_ / 2) := by
        by_cases e3_ : t_ = s_
        · subst e3_
          have := (List.getElem?_inj (by omega) hnd).mp (ht.trans hs.symm)
          omega
        · omega
      rw [if_pos e2_] at ih_
      refine zY.go 2 rfl ?_
      refine zY.ai (n_ := jj) rfl rfl (by rw [(zas_t j_).1]; omega) ?_
      rw [(s1_.a30 _ _).1, h30, he jj (by omega)]
      refine zY.go 4 rfl ?_
      exact ih_
theorem zo799 {u' c' : Int32} (hX : zY none 18 126 289 (zlS6 v_ M_ j_ (some (zwI (Int32.ofNat (L0_ 24 v_).length))) (some (zwI (zmpl D_ s_))) (some (zwI y13)) (some (zwI z14_)) (some (zwI u')) (some (zwI c')) (some (zwI (w_ + 2 * zspm p_ (zmpl D_ s_)))) (some (zwI 1)) (some (zwI (if (rb && !zztl D_ (L0_ 24 v_) (zzP D_ v_ (L0_ 24 v_)) k_ s_) = true then 1 else 0))) (some (zwI y20)) (some (zwI (-1))) (some (zwI (Int32.ofNat (k_ + 1)))) (some (zwI (Int32.ofNat (s_ / 2)))) (some (zwI (if (!decide (s_ % 2 = 0)) = true then 1 else 0))) (some (zwI (zmkd D_ (s_ / 2)))) (some (zwI (zmpl D_ s_))) (some (zwI (2 * zspm p_ (zmpl D_ s_)))) (some (zwI (if lf_ = true then 1 else 0))) (some (zwI y29)) (some (zwI (zzB (zzP D_ v_ (L0_ 24 v_)) k_))) x31 x32) [] I_ L_ a_ Q_) : zY none 18 126 799 (zlS6 v_ M_ j_ (some (zwI (Int32.ofNat (L0_ 24 v_).length))) (some (zwI p_)) (some (zwI y13)) (some (zwI z14_)) (some (zwI u')) (some (zwI c')) (some (zwI w_)) (some (zwI 1)) (some (zwI (if (rb && !zztl D_ (L0_ 24 v_) (zzP D_ v_ (L0_ 24 v_)) k_ s_) = true then 1 else 0))) (some (zwI y20)) (some (zwI (-1))) (some (zwI (Int32.ofNat k_))) (some (zwI (Int32.ofNat (s_ / 2)))) (some (zwI (if (!decide (s_ % 2 = 0)) = true then 1 else 0))) (some (zwI (zmkd D_ (s_ / 2)))) (some (zwI (zmpl D_ s_))) (some (zwI (2 * zspm p_ (zmpl D_ s_)))) (some (zwI (if lf_ = true then 1 else 0))) (some (zwI y29)) (some (zwI (zzB (zzP D_ v_ (L0_ 24 v_)) k_))) x31 x32) [] I_ L_ a_ Q_ := by
  rw [← zisucc] at hX
  refine zY.go 8 rfl ?_
  exact hX
end
