/-! THE QUESTIONS, by the numbers D that nothing on the heap holds -/
def zSq (I_ : zIn) (L_ : zLi) (I' : zIn) (L' : zLi) : Prop := zzcf I' I_ (zzZ I_ L_ 2) ∧ ∀ c_ i_, ¬ (c_ = 27 ∧ i_ < 2) → L' c_ i_ = L_ c_ i_
theorem zSq.rfl {I_ : zIn} {L_ : zLi} : zSq I_ L_ I_ L_ := ⟨zzcf.rfl, fun _ _ _ => Eq.refl _⟩
theorem zzZ_q {I_ I' : zIn} {L_ L' : zLi} (h_ : zSq I_ L_ I' L') : zzZ I' L' 2 = zzZ I_ L_ 2 := by
  unfold zzZ
  refine congrArg (fun f_ => (List.range 2).flatMap f_) (funext fun v_ => ?_)
  rw [h_.1.a5, h_.2 24 v_ (by omega)]
theorem zSq.trans {I_ I1 I2_ : zIn} {L_ L1 L2_ : zLi} (h1 : zSq I_ L_ I1 L1) (h2 : zSq I1 L1 I2_ L2_) : zSq I_ L_ I2_ L2_ := ⟨(zzZ_q h1 ▸ h2.1).trans h1.1, fun c_ i_ h_ => (h2.2 c_ i_ h_).trans (h1.2 c_ i_ h_)⟩
theorem zSq.R {I_ I' : zIn} {L_ L' : zLi} {D_ : zIn} {p_ M_ : Nat} (h_ : zSq I_ L_ I' L') (hR : zzR I_ L_ D_ p_ 2 M_) : zzR I' L' D_ p_ 2 M_ := hR.cg (h_.1.n trivial) zzm.rfl (fun c_ i_ _ h27 => h_.2 c_ i_ h27)
/-- what is told of a vehicle -/
def zvq (D_ : zIn) (v_ : Nat) (l st_ : List Nat) : Nat → Int32
  | 0 => D_ 30 17 v_
  | 1 => D_ 30 18 v_
  | 2 => Int32.ofNat l.length
  | 3 => D_ 30 23 v_
  | 4 => Int32.ofNat st_.length
  | 5 => if D_ 31 19 v_ = 0 then 0 else 1
  | 6 => if D_ 31 16 v_ = 0 then 0 else 1
  | 7 => if l = [] then -1 else zzba D_ v_ l (zzP D_ v_ l)
  | _ => if zzrt D_ v_ l st_ = true then 1 else 0
theorem zif_iff {P_ Q_ : Prop} [Decidable P_] [Decidable Q_] {x_ y_ : Int32} (h_ : P_ ↔ Q_) : (if P_ then x_ else y_) = if Q_ then x_ else y_ := by
  by_cases hp : P_
  · rw [if_pos hp, if_pos (h_.mp hp)]
  · rw [if_neg hp, if_neg (fun e_ => hp (h_.mpr e_))]
section
variable {I_ : zIn} {L_ : zLi} {D_ : zIn} {p_ M_ v_ : Nat}
theorem zq21 (h_ : zzR I_ L_ D_ p_ 2 M_) (hv : v_ < 2) : (L_ 21 0)[v_]? = some v_ := by rw [h_.1.2.2.2.1]; exact List.getElem?_range hv
theorem zq22 {r_ : Nat} (h_ : zzR I_ L_ D_ p_ 2 M_) (hr : r_ < M_) : (L_ 22 0)[r_]? = some r_ := by rw [h_.1.2.2.2.2.2.2.1]; exact List.getElem?_range hr
theorem zqnow (h_ : zzR I_ L_ D_ p_ 2 M_) : I_ 6 0 8 = D_ 7 0 2 := h_.1.2.2.2.2.2.2.2.2.2.1
theorem zq63 {k_ : Nat} (h_ : zzR I_ L_ D_ p_ 2 M_) (hv : v_ < 2) (hk : k_ ≤ 8) : zYm 11 63 [zwR 6 0, zwI (Int32.ofNat v_), zwI (Int32.ofNat k_)] I_ L_ 0 (fun r_ I' L' => r_ = .inl (some (zwI (zvq D_ v_ (L_ 24 v_) (zchl I_ (L_ 26 v_)) k_))) ∧ zSq I_ L_ I' L') := by
  obtain ⟨l1, l2⟩ := zzA26 h_ hv
  have hq := zzQ_of h_ hv
  have hnd := hq.2.2.1
  have e8 := zqnow h_
  have hpl := zzplZ (x_ := I_ 6 0 8) hnd (zzZv h_ hv)
  have hri := zzirt (x_ := I_ 6 0 8) hnd (zzZv h_ hv)
  refine (zm63t (zq21 h_ hv) hk (by omega)).mono (Nat.le_refl _) (Nat.le_refl _) (fun r_ I' L' hr => ?_)
  obtain ⟨rfl, rfl, rfl⟩ := hr
  suffices hh : (zvtl I_ L_ v_ (I_ 6 0 8) k_).1 = zvq D_ v_ (L_ 24 v_) (zchl I_ (L_ 26 v_)) k_ ∧ zSq I_ L_ (zvtl I_ L_ v_ (I_ 6 0 8) k_).2.1 (zvtl I_ L_ v_ (I_ 6 0 8) k_).2.2 by
    rw [hh.1]; exact ⟨rfl, hh.2⟩
  have hv1 := (h_.2.2.2.1 v_ hv).1
  obtain rfl | rfl | rfl | rfl | rfl | rfl | rfl | rfl | rfl : k_ = 0 ∨ k_ = 1 ∨ k_ = 2 ∨ k_ = 3 ∨ k_ = 4 ∨ k_ = 5 ∨ k_ = 6 ∨ k_ = 7 ∨ k_ = 8 := by omega
  · exact ⟨hv1.1.2.2.2.1, zSq.rfl⟩
  · exact ⟨hv1.1.2.2.2.2.1, zSq.rfl⟩
  · exact ⟨rfl, zSq.rfl⟩
  · exact ⟨hv1.2.2.2.2.2.2.1, zSq.rfl⟩
  · refine ⟨?_, zSq.rfl⟩
    show zchs I_ (L_ 26 v_) 0 = Int32.ofNat (zchl I_ (L_ 26 v_)).length
    have := zzchs (C_ := I_) (L_ 26 v_) 0
    rw [Nat.zero_add] at this
    exact this
  · exact ⟨zif_iff hv1.1.2.2.2.2.2.1, zSq.rfl⟩
  · exact ⟨zif_iff hv1.2.2.1, zSq.rfl⟩
  · by_cases hne : L_ 24 v_ = []
    · rw [show zvtl I_ L_ v_ (I_ 6 0 8) 7 = (-1, I_, L_) from if_pos hne]
      exact ⟨(if_pos hne).symm, zSq.rfl⟩
    · rw [show zvtl I_ L_ v_ (I_ 6 0 8) 7 = (zbck (zplS I_ L_ v_ (I_ 6 0 8)) v_, zplS I_ L_ v_ (I_ 6 0 8), zplL I_ L_ v_ (I_ 6 0 8)) from if_neg hne]
      refine ⟨?_, hpl, fun c_ i_ h_ => zlup_ne (fun e_ => h_ ⟨e_.1, by omega⟩)⟩
      show zbck (zplS I_ L_ v_ (I_ 6 0 8)) v_ = if L_ 24 v_ = [] then -1 else _
      rw [if_neg hne, e8]
      exact zzbck hq hne
  · refine ⟨?_, hri, fun c_ i_ h_ => zirt_ne (fun e_ => h_ ⟨e_.1, by omega⟩)⟩
    show (if (zirt I_ L_ v_ (I_ 6 0 8)).1 = true then (1 : Int32) else 0) = if zzrt D_ v_ (L_ 24 v_) (zchl I_ (L_ 26 v_)) = true then 1 else 0
    rw [zzcR rfl rfl (x_ := I_ 6 0 8) (by rw [e8]; exact zzH_of hq) (zzG_of hq)]
def zsq (D_ : zIn) (v_ : Nat) (l : List Nat) (s_ j_ : Nat) : Nat → Int32
  | 0 => Int32.ofNat (s_ / 2)
  | 1 => if s_ % 2 = 0 then 0 else 1
  | 2 => zzB (zzP D_ v_ l) j_
  | _ => zzE (zzP D_ v_ l) j_
theorem zq64 {k_ j_ s_ : Nat} (h_ : zzR I_ L_ D_ p_ 2 M_) (hv : v_ < 2) (hs : (L_ 24 v_)[j_]? = some s_) (hk : k_ ≤ 3) : zYm 10 64 [zwR 6 0, zwI (Int32.ofNat v_), zwI (Int32.ofNat j_), zwI (Int32.ofNat k_)] I_ L_ 0 (fun r_ I' L' => r_ = .inl (some (zwI (zsq D_ v_ (L_ 24 v_) s_ j_ k_))) ∧ zSq I_ L_ I' L') := by
  obtain ⟨l1, l2⟩ := zzA26 h_ hv
  have hq := zzQ_of h_ hv
  have hnd := hq.2.2.1
  have hpl := zzplZ (x_ := I_ 6 0 8) hnd (zzZv h_ hv)
  have hso := zzsof (K_ := D_) h_ hv hs zzg.rfl hk
  obtain ⟨p1_, p2_⟩ := zzpln (I_ := D_) (D_ := D_) (v_ := v_) (l := L_ 24 v_) zzg.rfl j_ (List.getElem?_eq_some_iff.mp hs).1
  refine (zm64t (zq21 h_ hv) hs hk (by omega)).mono (Nat.le_refl _) (Nat.le_refl _) (fun r_ I' L' hr => ?_)
  obtain ⟨rfl, rfl, rfl⟩ := hr
  rw [hso]
  obtain rfl | rfl | rfl | rfl : k_ = 0 ∨ k_ = 1 ∨ k_ = 2 ∨ k_ = 3 := by omega
  · exact ⟨rfl, zSq.rfl⟩
  · refine ⟨?_, zSq.rfl⟩
    show Sum.inl (some (zwI (Int32.ofNat (s_ % 2)))) = Sum.inl (some (zwI (if s_ % 2 = 0 then 0 else 1)))
    by_cases e_ : s_ % 2 = 0
    · rw [if_pos e_, e_]; rfl
    · rw [if_neg e_, show s_ % 2 = 1 by omega]; rfl
  · exact ⟨congrArg (fun x_ => Sum.inl (some (zwI x_))) p1_, hpl, fun c_ i_ h_ => zlup_ne (fun e_ => h_ ⟨e_.1, by omega⟩)⟩
  · exact ⟨congrArg (fun x_ => Sum.inl (some (zwI x_))) p2_, hpl, fun c_ i_ h_ => zlup_ne (fun e_ => h_ ⟨e_.1, by omega⟩)⟩
theorem zq68 (h_ : zzR I_ L_ D_ p_ 2 M_) (hv : v_ < 2) : zYm 4 68 [zwR 6 0, zwI (Int32.ofNat v_)] I_ L_ 0 (zRet (some (zwI (zdm D_ (L_ 24 v_) (D_ 30 17 v_) (D_ 30 12 v_)))) I_ L_) := by
  have hq := zzQ_of h_ hv
  have hH := zzH_of hq
  refine (zm68t (zq21 h_ hv)).mono (Nat.le_refl _) (Nat.le_refl _) (fun r_ I' L' hr => ?_)
  obtain ⟨rfl, rfl, rfl⟩ := hr
  refine ⟨?_, rfl, rfl⟩
  rw [← zzdr (fun s_ hs => (hq.2.2.2.1 s_ hs).2.1) hH.1.2.2.2.2.2.2.1 hH.1.2.2.2.2.2.2.2, hH.1.2.2.2.1, hH.1.1]
/-- the least drive: -1 for more than 6 stops, and not more than that of a route that is right -/
theorem zq69 (h_ : zzR I_ L_ D_ p_ 2 M_) (hv : v_ < 2) : zYm 17 69 [zwR 6 0, zwI (Int32.ofNat v_)] I_ L_ 0 (fun r_ I' L' => ∃ x_ : Int32, r_ = .inl (some (zwI x_)) ∧ ((6 < (L_ 24 v_).length → x_ = -1) ∧ ((L_ 24 v_).length ≤ 6 → zzrt D_ v_ (L_ 24 v_) (zchl I_ (L_ 26 v_)) = true → (∃ q_, q_.Perm (L_ 24 v_) ∧ x_ = zdm D_ q_ (D_ 30 17 v_) (D_ 30 12 v_)) ∧ x_ ≤ zdm D_ (L_ 24 v_) (D_ 30 17 v_) (D_ 30 12 v_))) ∧ zSq I_ L_ I' L') := by
  obtain ⟨l26, l24⟩ := zzA26 h_ hv
  have hq := zzQ_of h_ hv
  have hnd := hq.2.2.1
  have hZ : ∀ s_ ∈ zzZ I_ L_ 2, s_ ∈ L_ 24 v_ → ¬ I_ 5 v_ 10 = 0 ∧ (L_ 24 v_)[0]? = some s_ := fun s_ hs hm_ => by
    obtain ⟨w_, hw, a_, b_⟩ := zzZ_mem.mp hs
    have hwv := zzdsj h_ hw hv (List.mem_of_getElem? b_) hm_
    subst hwv
    exact ⟨a_, b_⟩
  have hZ2 : ¬ I_ 5 v_ 10 = 0 → ∀ s_, (L_ 24 v_)[0]? = some s_ → s_ ∈ zzZ I_ L_ 2 := fun hne s_ h0 => zzZ_mem.mpr ⟨v_, hv, hne, h0⟩
  have hfo : zlkF D_ v_ = zfo I_ v_ := by
    have hcv := (h_.2.2.2.1 v_ hv).1.1.2.2.2.2.2.1
    unfold zlkF zfo
    by_cases e_ : I_ 5 v_ 10 = 0
    · rw [if_pos e_, if_pos (hcv.mp e_)]
    · rw [if_neg e_, if_neg (fun e2_ => e_ (hcv.mpr e2_))]
  refine (zm69t (zq21 h_ hv) (by omega) (by omega)).mono (Nat.le_refl _) (Nat.le_refl _) (fun r_ I' L' hr => ?_)
  obtain ⟨rfl, rfl, rfl⟩ := hr
  refine ⟨_, rfl, ?_⟩
  unfold zldr
  by_cases h6 : (L_ 24 v_).length ≤ 6
  · rw [if_pos h6]
    have hla := zzla (v_ := v_) (C_ := I_) (Z_ := zzZ I_ L_ 2) (A_ := L_ 26 v_) (x_ := I_ 6 0 8) 6 (zlkF D_ v_) (-1) I_ L_ (by omega) (by unfold zlkF; split <;> omega) h6 hnd zzcf.rfl rfl (fun p_ hp => zzGdA (N_ := 2) hq (zqnow h_) hZ hZ2 hp)
    rw [hfo] at hla
    refine ⟨⟨fun e_ => by omega, fun _ hrt => ?_⟩, hla.2, fun c_ i_ hh => zla_ne (fun e_ => hh ⟨e_.1, by rw [e_.2]; exact hv⟩) _ _ _ _ _⟩
    have hS_ : zzS0 (zfo I_ v_) (L_ 24 v_) (L_ 24 v_) := by
      refine ⟨List.Perm.refl _, rfl, fun k_ s_ hk hs ho j_ hj => ?_⟩
      obtain ⟨j2_, hj2, e2_⟩ := zzHO_of (zzG_of hq).2.2.2.2.1 (zzG_of hq).2.2.2.2.2.1 k_ s_ hs ho (List.mem_of_getElem? hj)
      have e3_ : j_ = j2_ := (List.getElem?_inj (List.getElem?_eq_some_iff.mp hj).1 hnd).mp (hj.trans e2_.symm)
      omega
    obtain ⟨b1, b2⟩ := hla.1.2.1 (L_ 24 v_) hS_ hrt
    rcases hla.1.1 with e_ | ⟨q_, hq1, hq2, hq3⟩
    · exact absurd e_ b1
    · exact ⟨⟨q_, hq1.1, hq3⟩, b2⟩
  · rw [if_neg h6]
    exact ⟨⟨fun _ => rfl, fun e_ => absurd e_ h6⟩, zSq.rfl⟩
end
