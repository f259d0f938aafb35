/-! THE CALLS: mend, whether a request is taken out -/
theorem zwf_ex {I_ : zIn} {q_ : Nat} : ∀ (l : List Nat), zwf I_ q_ l = true ↔ ∃ s_ ∈ l, s_ / 2 = q_ ∧ zint I_ s_ = false
  | [] => by
    unfold zwf
    exact ⟨fun e_ => absurd e_ (by decide), fun ⟨s_, hs, _⟩ => absurd hs (List.not_mem_nil)⟩
  | s_ :: l => by
    unfold zwf
    by_cases hc_ : s_ / 2 = q_ ∧ zint I_ s_ = false
    · rw [if_pos hc_]
      exact ⟨fun _ => ⟨s_, List.mem_cons_self, hc_⟩, fun _ => rfl⟩
    · rw [if_neg hc_, zwf_ex l]
      constructor
      · rintro ⟨t_, ht, h2⟩
        exact ⟨t_, List.mem_cons_of_mem _ ht, h2⟩
      · rintro ⟨t_, ht, h2⟩
        rcases List.mem_cons.mp ht with rfl | ht
        · exact absurd h2 hc_
        · exact ⟨t_, ht, h2⟩
theorem zzmcd {C_ D_ : zIn} {L_ : zLi} {v_ q_ p_ d_ : Nat} (hq : zzQ C_ L_ D_ v_) (hp : (L_ 24 v_)[p_]? = some (2 * q_)) (hd_ : (L_ 24 v_)[d_]? = some (2 * q_ + 1)) : zwf (zplS C_ L_ v_ (D_ 7 0 2)) q_ (L_ 24 v_) = false ↔ (zmtl (zmdK D_ v_ (L_ 24 v_)) (L_ 24 v_) p_ (2 * q_) = false ∧ zmtl (zmdK D_ v_ (L_ 24 v_)) (L_ 24 v_) d_ (2 * q_ + 1) = false) := by
  obtain ⟨a1_, a2, a3, a4, a5, a6, a7⟩ := zzG_of hq
  obtain ⟨b1, b2, b3, b4⟩ := zzplS hq
  have hK_ : zzK (zmdK D_ v_ (L_ 24 v_)) D_ (L_ 24 v_) (zzP D_ v_ (L_ 24 v_)) := ⟨zmdK_fz.zg, zzpln (zfz.try zfz.rfl).zg⟩
  have key_ : ∀ k_ s_, (L_ 24 v_)[k_]? = some s_ → zint (zplS C_ L_ v_ (D_ 7 0 2)) s_ = !zmtl (zmdK D_ v_ (L_ 24 v_)) (L_ 24 v_) k_ s_ := fun k_ s_ hs => by
    have hm_ := List.mem_of_getElem? hs
    rw [zztl_eq hK_ (List.getElem?_eq_some_iff.mp hs).1]
    exact zzint (zzcs_fr (fun c_ i_ f_ h_ => b1 c_ i_ f_ h_) (a3 s_ hm_).2) (b3 k_ s_ hs).1 a1_ hs a4 (zzHO_of a5 a6) (fun j_ q_ _ hj => b2 j_ q_ hj)
  have hmp := List.mem_of_getElem? hp
  have hmd := List.mem_of_getElem? hd_
  rw [← Bool.not_eq_true, zwf_ex]
  constructor
  · intro hn
    refine ⟨?_, ?_⟩
    · cases e_ : zmtl (zmdK D_ v_ (L_ 24 v_)) (L_ 24 v_) p_ (2 * q_) with
      | false => rfl
      | true => exact absurd ⟨2 * q_, hmp, by omega, by rw [key_ p_ _ hp, e_]; rfl⟩ hn
    · cases e_ : zmtl (zmdK D_ v_ (L_ 24 v_)) (L_ 24 v_) d_ (2 * q_ + 1) with
      | false => rfl
      | true => exact absurd ⟨2 * q_ + 1, hmd, by omega, by rw [key_ d_ _ hd_, e_]; rfl⟩ hn
  · rintro ⟨e1_, e2_⟩ ⟨s_, hs, hsq, hz⟩
    rcases (show s_ = 2 * q_ ∨ s_ = 2 * q_ + 1 by omega) with rfl | rfl
    · rw [key_ p_ _ hp, e1_] at hz; exact absurd hz (by decide)
    · rw [key_ d_ _ hd_, e2_] at hz; exact absurd hz (by decide)
theorem zzkeph {I_ : zIn} {v_ n_ f_ : Nat} (hf : ¬ (16 * v_ ≤ f_ ∧ f_ < 16 * v_ + n_)) : zkep I_ v_ n_ 30 26 f_ = I_ 30 26 f_ := by
  unfold zkep
  rw [zkpI_at, if_neg (by omega), zset_ne (by simp)]
theorem zzto26 {I_ : zIn} {v_ r_ d_ f_ : Nat} {l : List Nat} (hf : ¬ (16 * v_ ≤ f_ ∧ f_ < 16 * v_ + l.length)) : ztoF I_ v_ l r_ d_ 30 26 f_ = I_ 30 26 f_ := by
  have hl16 : (ztoL l r_).length ≤ l.length := by
    unfold ztoL
    split
    · exact Nat.le_refl _
    · rename_i p_ _
      exact List.length_eraseIdx_le l p_
  unfold ztoF ztoI
  rw [zzkeph (by omega), ztst_ne (by simp) (by simp)]
  cases zlx (2 * r_) l 0 none with
  | none => exact ztry_ne (by simp) (by simp)
  | some p_ => exact (ztst_ne (by simp) (by simp)).trans (ztry_ne (by simp) (by simp))
/-- what mend leaves as it was -/
def zzmk (C_ : zIn) (L_ : zLi) (D_ : zIn) (N_ q_ : Nat) (C'_ : zIn) (L' : zLi) (D' : zIn) : Prop := zzco C'_ C_ ∧ zzmo D' D_ ∧ D' 7 0 0 = D_ 7 0 0 ∧ (∀ j_, D' 30 51 j_ = D_ 30 51 j_) ∧ (∀ j_, C'_ 1 j_ 5 = C_ 1 j_ 5) ∧ (∀ j_, ¬ j_ = q_ → C'_ 1 j_ 8 = C_ 1 j_ 8) ∧ (∀ w_ f_, C'_ 5 w_ f_ = C_ 5 w_ f_) ∧ (∀ w_, w_ < N_ → ¬ C_ 5 w_ 10 = 0 → (L' 24 w_)[0]? = (L_ 24 w_)[0]?)
theorem zzmvS {C_ D_ C1_ : zIn} {L_ L1 : zLi} {p_ N_ M_ q_ v_ d' : Nat} (h_ : zzR C_ L_ D_ p_ N_ M_) (hq : q_ < M_) (h0 : C_ 1 q_ 5 = 0) (hv : v_ < N_) (e8 : C_ 1 q_ 8 = Int32.ofNat v_) (hno : zlef C_ L_ v_ q_ = false) (he : (ztoL (L_ 24 v_) q_).eraseIdx d' = zzwo q_ (L_ 24 v_)) (hd' : d' < (ztoL (L_ 24 v_) q_).length) (hC1 : zzcf C1_ C_ (zzZ C_ L_ N_)) (hL1 : ∀ c_ u_, ¬ (c_ = 27 ∧ u_ < N_) → L1 c_ u_ = L_ c_ u_) :
    zPk (ztoF (zmdK D_ v_ (L_ 24 v_)) v_ (L_ 24 v_) q_ d') N_ (fun u_ => zlup L_ 24 v_ (zzwo q_ (L_ 24 v_)) 24 u_) (fun u_ => (zchl C_ (zlup L_ 24 v_ (zzwo q_ (L_ 24 v_)) 26 u_)).length) q_ ∧
    ∀ B_, B_ = (if (zmdA D_ v_ (L_ 24 v_) q_ d' N_ (fun u_ => zlup L_ 24 v_ (zzwo q_ (L_ 24 v_)) 24 u_) (fun u_ => (zchl C_ (zlup L_ 24 v_ (zzwo q_ (L_ 24 v_)) 26 u_)).length)).1 = true then zmdA D_ v_ (L_ 24 v_) q_ d' N_ (fun u_ => zlup L_ 24 v_ (zzwo q_ (L_ 24 v_)) 24 u_) (fun u_ => (zchl C_ (zlup L_ 24 v_ (zzwo q_ (L_ 24 v_)) 26 u_)).length) else (false, zmdR (zmdA D_ v_ (L_ 24 v_) q_ d' N_ (fun u_ => zlup L_ 24 v_ (zzwo q_ (L_ 24 v_)) 24 u_) (fun u_ => (zchl C_ (zlup L_ 24 v_ (zzwo q_ (L_ 24 v_)) 26 u_)).length)).2 v_ (zlup L_ 24 v_ (zzwo q_ (L_ 24 v_)) 24 v_) q_ (zpos (2 * q_) (L_ 24 v_)) (zpos (2 * q_ + 1) (L_ 24 v_)))) →
      (zmvF C1_ L1 v_ q_ (D_ 7 0 2)).1 = B_.1 ∧ zzR (zmvF C1_ L1 v_ q_ (D_ 7 0 2)).2.1 (zmvF C1_ L1 v_ q_ (D_ 7 0 2)).2.2 B_.2 p_ N_ M_ ∧ zzmk C_ L_ D_ N_ q_ (zmvF C1_ L1 v_ q_ (D_ 7 0 2)).2.1 (zmvF C1_ L1 v_ q_ (D_ 7 0 2)).2.2 B_.2 := by
  obtain ⟨v', hv', e8', e11_, m1_, m2_, h26, h25, h24, l1, l2, l3, hl⟩ := zzst0 h_ hq h0
  have hN4 := h_.1.2.2.2.2.1
  have hM60 := h_.1.2.2.2.2.2.2.2.1
  have hvv : v' = v_ := (zof_eq (by omega) (by omega)).mp (e8'.symm.trans e8)
  subst hvv
  obtain ⟨v1_, v2, v3⟩ := h_.2.2.2.1 v' hv'
  obtain ⟨t1_, t2_, t3_, t4_, t5_, t6, t7, t8, t9⟩ := v3
  obtain ⟨gb, gc_⟩ := h_.2.2.1 q_ hq
  have hro := v1_.2.2.2.2.2.1
  have hl16 := hro.2.1
  have hwo : zzwo q_ (L_ 24 v') = l1 ++ (l2 ++ l3) := by rw [hl]; exact zzcut_wo (hl ▸ t1_)
  have hp : zpos (2 * q_) (L_ 24 v') = l1.length := by rw [hl]; exact zzcut_p (hl ▸ t1_)
  have hd_ : zpos (2 * q_ + 1) (L_ 24 v') = l1.length + 1 + l2.length := by rw [hl]; exact zzcut_d (hl ▸ t1_)
  have hera : ((L_ 24 v').eraseIdx (zpos (2 * q_ + 1) (L_ 24 v'))).eraseIdx (zpos (2 * q_) (L_ 24 v')) = zzwo q_ (L_ 24 v') := by rw [hwo, hp, hd_, hl, zzcut_era]
  have hlen : (zzwo q_ (L_ 24 v')).length + 2 = (L_ 24 v').length := by rw [hwo, hl]; simp only [List.length_append, List.length_cons]; omega
  have hpl : zpos (2 * q_) (L_ 24 v') ≤ (zzwo q_ (L_ 24 v')).length := by rw [hp, hwo]; simp only [List.length_append]; omega
  have hdl : zpos (2 * q_ + 1) (L_ 24 v') ≤ (zzwo q_ (L_ 24 v')).length + 1 := by rw [hd_, hwo]; simp only [List.length_append]; omega
  have hins : zlkL (zzwo q_ (L_ 24 v')) q_ (zpos (2 * q_) (L_ 24 v')) (zpos (2 * q_ + 1) (L_ 24 v')) = L_ 24 v' := by
    unfold zlkL
    rw [hwo, hp, hd_, zzcut_ins, hl]
  have hin2 : zins (zpos (2 * q_ + 1) (L_ 24 v')) (2 * q_ + 1) (zins (zpos (2 * q_) (L_ 24 v')) (2 * q_) (zzwo q_ (L_ 24 v'))) = L_ 24 v' := by
    rw [zzins _ (zzwo q_ (L_ 24 v')) hpl, zzins _ _ (by rw [List.length_insertIdx_of_le_length hpl]; exact hdl)]
    exact hins
  have hhd : ¬ C_ 5 v' 10 = 0 → (zzwo q_ (L_ 24 v'))[0]? = (L_ 24 v')[0]? := fun hne => by
    obtain ⟨s_, l, e1_, _⟩ := v2.1 hne
    have hs : ¬ s_ / 2 = q_ := fun e_ => by
      unfold zlef at hno
      rw [decide_eq_true hne, Bool.true_and, e1_] at hno
      exact absurd (show decide (s_ / 2 = q_) = true from decide_eq_true e_) (by rw [show decide (s_ / 2 = q_) = false from hno]; decide)
    rw [e1_, zzwo_ni hs]; rfl
  have hwr : ∀ s_ ∈ zzwo q_ (L_ 24 v'), s_ ∈ L_ 24 v' ∧ ¬ s_ / 2 = q_ := fun s_ hs => zzwo_mem.mp hs
  generalize hDt : ztoF (zmdK D_ v' (L_ 24 v')) v' (L_ 24 v') q_ d' = Dt
  have nDt : ∀ c_ j_ f_, ¬ (c_ = 30 ∧ 43 ≤ j_ ∧ j_ ≤ 46) → ¬ (c_ = 7 ∧ j_ = 0 ∧ 42 ≤ f_ ∧ f_ ≤ 50) → ¬ (c_ = 30 ∧ j_ = 26 ∧ 16 * v' ≤ f_ ∧ f_ < 16 * v' + (L_ 24 v').length) → ¬ (c_ = 30 ∧ j_ = 27 ∧ f_ = v') → Dt c_ j_ f_ = D_ c_ j_ f_ := fun c_ j_ f_ a1_ a2 a3 a4 => by
    rw [← hDt]
    by_cases e_ : c_ = 30 ∧ j_ = 26
    · obtain ⟨rfl, rfl⟩ := e_
      rw [zzto26 (by omega)]
      exact zmdK_fz _ _ _ a1_ a2
    · rw [zztoF_ne (by omega) (by omega) a4]
      exact zmdK_fz _ _ _ a1_ a2
  have hroK : zRo (zmdK D_ v' (L_ 24 v')) v' (L_ 24 v') := zmdK_fz.ro hro
  have hroT : zRo Dt v' (zzwo q_ (L_ 24 v')) := by rw [← hDt]; exact zztoF_ro hroK hd' he
  have nl : ∀ c_ u_, ¬ (c_ = 24 ∧ u_ = v') → zlup L_ 24 v' (zzwo q_ (L_ 24 v')) c_ u_ = L_ c_ u_ := fun c_ u_ hh => zlup_ne hh
  have ls : zlup L_ 24 v' (zzwo q_ (L_ 24 v')) 24 v' = zzwo q_ (L_ 24 v') := zlup_self
  have hE : zzR (zset C_ 1 q_ 5 6) (zlup L_ 24 v' (zzwo q_ (L_ 24 v'))) (zset Dt 30 32 q_ 6) p_ N_ M_ := by
    refine zzRem h_ hq h0 hv' e8' hno (fun c_ j_ f_ a1_ a2 a3 a4 a5 a6 => ?_) zset_is ?_
    · rw [zset_ne a6]; exact nDt c_ j_ f_ (by omega) (by omega) (by omega) a5
    · exact hroT.ix (zset_ne (by simp)) (fun k_ _ => zset_ne (by simp))
  have r24 : ∀ w_, w_ < N_ → ∀ s_ ∈ zlup L_ 24 v' (zzwo q_ (L_ 24 v')) 24 w_, ¬ s_ / 2 = q_ := fun w_ hw s_ hs => by
    by_cases e_ : w_ = v'
    · subst e_; rw [ls] at hs; exact (hwr s_ hs).2
    · rw [nl 24 w_ (by simp [e_])] at hs; exact h24 w_ hw e_ s_ hs
  have r26 : ∀ w_, w_ < N_ → ¬ q_ ∈ zlup L_ 24 v' (zzwo q_ (L_ 24 v')) 26 w_ := fun w_ hw => by rw [nl 26 w_ (by simp)]; exact h26 w_ hw
  have hH : ∀ w_, ¬ C_ 5 w_ 10 = 0 → (zlup L_ 24 v' (zzwo q_ (L_ 24 v')) 24 w_)[0]? = (L_ 24 w_)[0]? := fun w_ hne => by
    by_cases e_ : w_ = v'
    · subst e_; rw [ls]; exact hhd hne
    · rw [nl 24 w_ (by simp [e_])]
  have hZ1 : ∀ s_ ∈ zzZ C_ (zlup L_ 24 v' (zzwo q_ (L_ 24 v'))) N_, s_ ∈ zzZ C_ L_ N_ := fun s_ hs => by
    obtain ⟨w_, hw, a_, b_⟩ := zzZ_mem.mp hs
    exact zzZ_mem.mpr ⟨w_, hw, a_, by rw [← hH w_ a_]; exact b_⟩
  have hZ2 : ∀ s_ ∈ zzZ C_ L_ N_, s_ ∈ zzZ C_ (zlup L_ 24 v' (zzwo q_ (L_ 24 v'))) N_ := fun s_ hs => by
    obtain ⟨w_, hw, a_, b_⟩ := zzZ_mem.mp hs
    exact zzZ_mem.mpr ⟨w_, hw, a_, by rw [hH w_ a_]; exact b_⟩
  have n0_ : zzN0 C_ (zlup L_ 24 v' (zzwo q_ (L_ 24 v'))) Dt p_ N_ q_ := by
    refine ⟨by omega, h_.1.2.1, hN4, fun i_ hi_ => (h_.2.1 i_ hi_).ix (fun _ => rfl) (nDt _ _ _ (by omega) (by omega) (by omega) (by omega)) (nDt _ _ _ (by omega) (by omega) (by omega) (by omega)) (nDt _ _ _ (by omega) (by omega) (by omega) (by omega)) (nDt _ _ _ (by omega) (by omega) (by omega) (by omega)), gb.ix (fun _ _ => rfl) (fun i_ a_ b_ => nDt 30 i_ q_ (by omega) (by omega) (by omega) (by omega)), ?_, ?_, e11_, fun w_ hw => ⟨r24 w_ hw, r26 w_ hw⟩⟩
    · have := (t4_ (2 * q_) m1_).2.2.2.2
      rw [if_pos (by omega), show 2 * q_ / 2 = q_ by omega] at this
      exact this
    · have := (t4_ (2 * q_ + 1) m2_).2.2.2.2
      rw [if_neg (show ¬ (2 * q_ + 1) % 2 = 0 by omega), show (2 * q_ + 1) / 2 = q_ by omega] at this
      exact this
  have hQ : ∀ w_, w_ < N_ → zzQ C_ (zlup L_ 24 v' (zzwo q_ (L_ 24 v'))) Dt w_ := fun w_ hw => by
    refine zzQ.cg1 (r_ := q_) (zzQ_of hE hw) (fun c_ j_ f_ hc_ => (zset_ne (by omega)).symm) (fun j_ f_ a1_ a2 => (zset_ne (by omega)).symm) (fun j_ f_ hj => (zset_ne (by simp)).symm) (r24 w_ hw) (fun x_ hx e_ => r26 w_ hw (e_ ▸ hx))
  have e2_ : Dt 7 0 2 = D_ 7 0 2 := nDt 7 0 2 (by simp) (by simp) (by simp) (by simp)
  have hW := zzW_of n0_ hQ
  rw [e2_] at hW
  have h11 : Dt 7 0 11 = Int32.ofNat N_ := by rw [nDt 7 0 11 (by simp) (by simp) (by simp) (by simp)]; exact h_.1.2.2.2.2.2.1
  refine ⟨zzPk_of n0_ hQ h11, fun B_ hB_ => ?_⟩
  have hc1 : zzcf C1_ C_ (zzZ C_ (zlup L_ 24 v' (zzwo q_ (L_ 24 v'))) N_) := ⟨hC1.1, fun s_ hs f_ => hC1.2 s_ (hZ1 s_ hs) f_⟩
  have hL1' : ∀ c_ u_, ¬ (c_ = 27 ∧ u_ < N_) → zlup L1 24 v' (zzwo q_ (L_ 24 v')) c_ u_ = zlup L_ 24 v' (zzwo q_ (L_ 24 v')) c_ u_ := fun c_ u_ hh => by
    by_cases e_ : c_ = 24 ∧ u_ = v'
    · obtain ⟨rfl, rfl⟩ := e_; rw [zlup_self, zlup_self]
    · rw [zlup_ne e_, zlup_ne e_]; exact hL1 c_ u_ hh
  have hput := zzPut hW (by rw [nl 21 0 (by simp)]; exact h_.1.2.2.2.1) hc1 (zfz.rfl (I_ := Dt)) hL1'
  have hF : zmvF C1_ L1 v' q_ (D_ 7 0 2) = (if (zpb C1_ (zlup L1 24 v' (zzwo q_ (L_ 24 v'))) (2 * q_) (2 * q_ + 1) (D_ 7 0 2)).1 = true then zpb C1_ (zlup L1 24 v' (zzwo q_ (L_ 24 v'))) (2 * q_) (2 * q_ + 1) (D_ 7 0 2) else (false, zset (zpb C1_ (zlup L1 24 v' (zzwo q_ (L_ 24 v'))) (2 * q_) (2 * q_ + 1) (D_ 7 0 2)).2.1 1 q_ 8 (Int32.ofNat v'), zlup (zpb C1_ (zlup L1 24 v' (zzwo q_ (L_ 24 v'))) (2 * q_) (2 * q_ + 1) (D_ 7 0 2)).2.2 24 v' (L_ 24 v'))) := by
    unfold zmvF
    rw [hL1 24 v' (by simp), hera, hin2, show 2 * q_ / 2 = q_ by omega]
  have hA : zmdA D_ v' (L_ 24 v') q_ d' N_ (fun u_ => zlup L_ 24 v' (zzwo q_ (L_ 24 v')) 24 u_) (fun u_ => (zchl C_ (zlup L_ 24 v' (zzwo q_ (L_ 24 v')) 26 u_)).length) = zputA Dt N_ (fun u_ => zlup L_ 24 v' (zzwo q_ (L_ 24 v')) 24 u_) (fun u_ => (zchl C_ (zlup L_ 24 v' (zzwo q_ (L_ 24 v')) 26 u_)).length) q_ := by
    unfold zmdA; rw [hDt]
  rw [hF]
  rw [hA] at hB_
  generalize hX : zpb C1_ (zlup L1 24 v' (zzwo q_ (L_ 24 v'))) (2 * q_) (2 * q_ + 1) (D_ 7 0 2) = X_ at *
  generalize hY : zputA Dt N_ (fun u_ => zlup L_ 24 v' (zzwo q_ (L_ 24 v')) 24 u_) (fun u_ => (zchl C_ (zlup L_ 24 v' (zzwo q_ (L_ 24 v')) 26 u_)).length) q_ = Y at *
  rcases hput with ⟨p1_, p2_, p3_, p4_, p5_⟩ | ⟨b_, i_, d_, q1_, q2_, q3_, q4_, q5_, q6_, q7_, q8_, q9_, y1, y2, y3, y4, J_, y5, y6⟩
  · rw [if_neg (show ¬ X_.1 = true by rw [p1_]; decide)]
    rw [if_neg (show ¬ Y.1 = true by rw [p2_]; decide)] at hB_
    subst hB_
    have hroA : zRo Y.2 v' (zlup L_ 24 v' (zzwo q_ (L_ 24 v')) 24 v') := by rw [ls]; exact p5_.ro hroT
    have tT := zlkT_tr (r_ := q_) (p_ := zpos (2 * q_) (L_ 24 v')) (d_ := zpos (2 * q_ + 1) (L_ 24 v')) hroA (by omega) (by rw [ls]; exact hpl) (by rw [ls]; exact hdl)
    have e24_ : zlup L_ 24 v' (zzwo q_ (L_ 24 v')) 24 v' = zzwo q_ (L_ 24 v') := ls
    rw [e24_, hins] at tT
    have hroB := zkep_ro (v_ := v') tT hl16
    have eB : zmdR Y.2 v' (zlup L_ 24 v' (zzwo q_ (L_ 24 v')) 24 v') q_ (zpos (2 * q_) (L_ 24 v')) (zpos (2 * q_ + 1) (L_ 24 v')) = zkep (zlkT Y.2 v' (zzwo q_ (L_ 24 v')) q_ (zpos (2 * q_) (L_ 24 v')) (zpos (2 * q_ + 1) (L_ 24 v'))) v' (L_ 24 v').length := by
      unfold zmdR
      rw [e24_, hlen]
    rw [eB]
    generalize hT_ : zlkT Y.2 v' (zzwo q_ (L_ 24 v')) q_ (zpos (2 * q_) (L_ 24 v')) (zpos (2 * q_ + 1) (L_ 24 v')) = T at *
    have fT_ : zfz T Y.2 := by rw [← hT_]; exact zlkT_fz
    have nB_ : ∀ c_ j_ f_, ¬ (c_ = 30 ∧ 43 ≤ j_ ∧ j_ ≤ 46) → ¬ (c_ = 7 ∧ j_ = 0 ∧ 42 ≤ f_ ∧ f_ ≤ 50) → zkep T v' (L_ 24 v').length c_ j_ f_ = D_ c_ j_ f_ := fun c_ j_ f_ a1_ a2 => by
      by_cases e_ : c_ = 30 ∧ j_ = 26 ∧ 16 * v' ≤ f_ ∧ f_ < 16 * v' + (L_ 24 v').length
      · obtain ⟨rfl, rfl, x1_, x2_⟩ := e_
        obtain ⟨k_, rfl⟩ : ∃ k_, f_ = 16 * v' + k_ := ⟨f_ - 16 * v', by omega⟩
        obtain ⟨s_, hs⟩ : ∃ s_, (L_ 24 v')[k_]? = some s_ := ⟨_, List.getElem?_eq_getElem (by omega)⟩
        rw [(hroB.2.2 k_ s_ hs).1, (hro.2.2 k_ s_ hs).1]
      · by_cases e3_ : c_ = 30 ∧ j_ = 27 ∧ f_ = v'
        · obtain ⟨rfl, rfl, rfl⟩ := e3_
          rw [hroB.1, hro.1]
        · have e4_ : zkep T v' (L_ 24 v').length c_ j_ f_ = T c_ j_ f_ := by
            by_cases e5_ : c_ = 30 ∧ j_ = 26
            · obtain ⟨rfl, rfl⟩ := e5_
              exact zzkeph (by omega)
            · exact zkep_ne e5_ e3_
          rw [e4_, fT_ c_ j_ f_ a1_ a2, p5_ c_ j_ f_ a1_ a2, nDt c_ j_ f_ a1_ a2 e_ e3_]
    have nC : ∀ c_ j_ f_, zzfr c_ f_ → zset X_.2.1 1 q_ 8 (Int32.ofNat v') c_ j_ f_ = C_ c_ j_ f_ := fun c_ j_ f_ hh => by
      by_cases e_ : c_ = 1 ∧ j_ = q_ ∧ f_ = 8
      · obtain ⟨rfl, rfl, rfl⟩ := e_
        rw [zset_is]; exact e8.symm
      · rw [zset_ne e_]; exact p3_.1 c_ j_ f_ hh
    have nL : ∀ c_ u_, ¬ (c_ = 27 ∧ u_ < N_) → zlup X_.2.2 24 v' (L_ 24 v') c_ u_ = L_ c_ u_ := fun c_ u_ hh => by
      by_cases e_ : c_ = 24 ∧ u_ = v'
      · obtain ⟨rfl, rfl⟩ := e_; exact zlup_self
      · rw [zlup_ne e_, p4_ c_ u_ hh]; exact nl c_ u_ e_
    refine ⟨rfl, ?_, fun c_ j_ f_ hh => nC c_ j_ f_ ⟨by omega, by omega, by omega, by omega⟩, fun c_ j_ f_ hh => nB_ c_ j_ f_ (by omega) (by omega), nB_ 7 0 0 (by simp) (by simp), fun j_ => nB_ 30 51 j_ (by simp) (by simp), fun j_ => nC 1 j_ 5 ⟨by omega, by omega, by omega, by omega⟩, fun j_ _ => nC 1 j_ 8 ⟨by omega, by omega, by omega, by omega⟩, fun w_ f_ => nC 5 w_ f_ ⟨by omega, by omega, by omega, by omega⟩, fun w_ _ _ => congrArg (fun l => l[0]?) (nL 24 w_ (by simp))⟩
    refine h_.cg ⟨fun c_ j_ f_ a1_ a2 a3 => nC c_ j_ f_ ⟨by omega, by omega, a2, a3⟩, fun s_ hs f_ => ?_⟩ (fun c_ j_ f_ a1_ a2 a3 => nB_ c_ j_ f_ (by omega) (by omega)) (fun c_ u_ a1_ a2 => nL c_ u_ a2)
    show zset X_.2.1 1 q_ 8 (Int32.ofNat v') 4 s_ f_ = _
    rw [zset_ne (by simp)]
    exact p3_.2 s_ (hZ2 s_ hs) f_
  · rw [if_pos q9_]
    rw [if_pos y1] at hB_
    rw [hB_]
    have nX : ∀ c_ j_ f_, zzfr c_ f_ → ¬ (c_ = 1 ∧ j_ = q_ ∧ f_ = 8) → X_.2.1 c_ j_ f_ = C_ c_ j_ f_ := fun c_ j_ f_ hh hn => by
      rw [y2.1 c_ j_ f_ hh, zset_ne hn]
    have c8_ : X_.2.1 1 q_ 8 = Int32.ofNat b_ := by rw [y2.1 1 q_ 8 ⟨by omega, by omega, by omega, by omega⟩, zset_is]
    have hroJ : zRo J_ b_ (zlup L_ 24 v' (zzwo q_ (L_ 24 v')) 24 b_) := y5.ro (hQ b_ q1_).1.2.2.2.2.2.1
    have hroB := zzpuW_ro (r_ := q_) (R_ := fun u_ => zlup L_ 24 v' (zzwo q_ (L_ 24 v')) 24 u_) hroJ (by omega) q3_ q5_ q6_
    have nW : ∀ c_ j_ f_, ¬ (c_ = 30 ∧ 43 ≤ j_ ∧ j_ ≤ 46) → ¬ (c_ = 7 ∧ j_ = 0 ∧ 42 ≤ f_ ∧ f_ ≤ 50) → ¬ (c_ = 30 ∧ j_ = 26 ∧ 16 * b_ ≤ f_ ∧ f_ < 16 * b_ + 16) → ¬ (c_ = 30 ∧ j_ = 27 ∧ f_ = b_) → ¬ (c_ = 30 ∧ j_ = 35 ∧ f_ = q_) → Y.2 c_ j_ f_ = Dt c_ j_ f_ := fun c_ j_ f_ a1_ a2 a3 a4 a5 => by
      rw [y6, zzpuW q6_ a1_ a2 a3 a4 a5]
      exact y5 c_ j_ f_ a1_ a2
    have hlk : ∀ w_, zlkF Dt w_ = zlkF D_ w_ := fun w_ => by unfold zlkF; rw [nDt 31 19 w_ (by simp) (by simp) (by simp) (by simp)]
    refine ⟨by rw [q9_, y1], ?_, fun c_ j_ f_ hh => nX c_ j_ f_ ⟨by omega, by omega, by omega, by omega⟩ (by omega), fun c_ j_ f_ hh => ?_, ?_, fun j_ => ?_, fun j_ => nX 1 j_ 5 ⟨by omega, by omega, by omega, by omega⟩ (by omega), fun j_ hj => nX 1 j_ 8 ⟨by omega, by omega, by omega, by omega⟩ (by omega), fun w_ f_ => nX 5 w_ f_ ⟨by omega, by omega, by omega, by omega⟩ (by omega), fun w_ hw hne => ?_⟩
    · have hC5 : zset (zset C_ 1 q_ 5 6) 1 q_ 5 0 = C_ := by
        rw [zzset2]
        have := zzset_id (I_ := C_) (c_ := 1) (i_ := q_) (f_ := 5)
        rw [h0] at this
        exact this
      have hzz : zzZ (zset C_ 1 q_ 5 6) (zlup L_ 24 v' (zzwo q_ (L_ 24 v'))) N_ = zzZ C_ (zlup L_ 24 v' (zzwo q_ (L_ 24 v'))) N_ := zzZ_set
      refine zzIns (b_ := b_) (i_ := i_) (d_ := d_) hE hq zset_is (by rw [zset_ne (by simp)]; exact e11_) (by rw [zset_ne (by simp), zset_ne (by simp)]; exact n0_.2.2.2.2.2.1) (by rw [zset_ne (by simp), zset_ne (by simp)]; exact n0_.2.2.2.2.2.2.1) ?_ ?_ (fun w_ hw => ⟨r24 w_ hw, r26 w_ hw, fun s_ hs => by rw [nl 25 w_ (by simp)] at hs; exact h25 w_ hw s_ hs⟩) q1_ ?_ q3_ q4_ q5_ q6_ ?_ ?_ y3 (fun c_ u_ a1_ a2 a3 => y4 c_ u_ a2 a3) (fun c_ j_ f_ a1_ a2 a3 a4 a5 a6 => ?_) ?_ ?_ ?_
      · rw [zset_ne (by simp)]
        exact Classical.byContradiction (fun hne => by
          have hx := (v2.2.2 (2 * q_) m1_ hne)
          have h3 := hhd hx.1
          rw [hx.2] at h3
          exact (hwr _ (List.mem_of_getElem? h3)).2 (by omega))
      · rw [zset_ne (by simp)]
        exact Classical.byContradiction (fun hne => by
          have hx := (v2.2.2 (2 * q_ + 1) m2_ hne)
          have h3 := hhd hx.1
          rw [hx.2] at h3
          exact (hwr _ (List.mem_of_getElem? h3)).2 (by omega))
      · unfold zlkF at q2_ ⊢
        rw [zset_ne (by simp)]
        exact q2_
      · have hu : zzu (zset Dt 30 32 q_ 6) Dt := ⟨fun j_ f_ hj => zset_ne (by omega), fun f_ => ⟨zset_ne (by simp), zset_ne (by simp)⟩, zset_ne (by simp)⟩
        have hch : ∀ l, zchl (zset C_ 1 q_ 5 6) l = zchl C_ l := fun l => zzfchl (fun x_ => by unfold zchr; rw [zset_ne (by simp), zset_ne (by simp)]) l
        rw [hu.rt, hch]
        exact q8_
      · rw [hC5, hzz]
        exact y2.n trivial
      · rw [nW c_ j_ f_ (by omega) (by omega) a4 a5 (by omega), zset_ne (by omega)]
      · rw [nW 30 32 q_ (by omega) (by omega) (by omega) (by omega) (by omega), nDt 30 32 q_ (by omega) (by omega) (by omega) (by omega), ← gc_.2.1]
        exact h0
      · rw [y6]; unfold zpuW; exact zset_is
      · rw [y6]; exact hroB
    · rw [nW c_ j_ f_ (by omega) (by omega) (by omega) (by omega) (by omega), nDt c_ j_ f_ (by omega) (by omega) (by omega) (by omega)]
    · rw [nW 7 0 0 (by simp) (by simp) (by simp) (by simp) (by simp), nDt 7 0 0 (by simp) (by simp) (by simp) (by simp)]
    · rw [nW 30 51 j_ (by simp) (by simp) (by simp) (by simp) (by simp), nDt 30 51 j_ (by simp) (by simp) (by simp) (by simp)]
    · by_cases e_ : w_ = b_
      · subst e_
        have h19 : ¬ D_ 31 19 w_ = 0 := fun e0_ => hne ((h_.2.2.2.1 w_ hw).1.1.2.2.2.2.2.1.mpr e0_)
        have h1 : 1 ≤ i_ := by
          rw [hlk] at q2_
          unfold zlkF at q2_
          rw [if_neg h19] at q2_
          exact q2_
        rw [y3, zzlkL0 h1 (by omega) (fun e0_ => ?_), hH w_ hne]
        have h3 := hH w_ hne
        obtain ⟨s_, l, e1_, _⟩ := (h_.2.2.2.1 w_ hw).2.1.1 hne
        rw [e0_, e1_] at h3
        simp at h3
      · rw [y4 24 w_ (by simp) (by simp [e_]), hH w_ hne]

