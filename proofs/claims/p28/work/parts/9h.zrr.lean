/-! MATHEMATICS: isRight of the class is isRight of the model; drives; what a search changes -/
def zzfr (c_ f_ : Nat) : Prop := ¬ c_ = 0 ∧ ¬ c_ = 3 ∧ ¬ (c_ = 1 ∧ f_ = 9) ∧ ¬ (c_ = 4 ∧ (f_ = 3 ∨ f_ = 4))
/-- all but what laying plans and searching changes; the stops Z keep their minutes -/
def zzcf (C_ C0_ : zIn) (Z_ : List Nat) : Prop := (∀ c_ i_ f_, zzfr c_ f_ → C_ c_ i_ f_ = C0_ c_ i_ f_) ∧ ∀ s_ ∈ Z_, ∀ f_, C_ 4 s_ f_ = C0_ 4 s_ f_
theorem zzcf.rfl {C_ : zIn} {Z_ : List Nat} : zzcf C_ C_ Z_ := ⟨fun _ _ _ _ => Eq.refl _, fun _ _ _ => Eq.refl _⟩
theorem zzcf.trans {C2_ C1_ C0_ : zIn} {Z_ : List Nat} (h1 : zzcf C2_ C1_ Z_) (h2 : zzcf C1_ C0_ Z_) : zzcf C2_ C0_ Z_ := ⟨fun c_ i_ f_ h_ => (h1.1 c_ i_ f_ h_).trans (h2.1 c_ i_ f_ h_), fun s_ hs f_ => (h1.2 s_ hs f_).trans (h2.2 s_ hs f_)⟩
theorem zzcf.symm {C1_ C0_ : zIn} {Z_ : List Nat} (h1 : zzcf C1_ C0_ Z_) : zzcf C0_ C1_ Z_ := ⟨fun c_ i_ f_ h_ => (h1.1 c_ i_ f_ h_).symm, fun s_ hs f_ => (h1.2 s_ hs f_).symm⟩
theorem zzcf.a1 {C_ C0_ : zIn} {Z_ : List Nat} (h_ : zzcf C_ C0_ Z_) (q_ : Nat) {f_ : Nat} (hf : ¬ f_ = 9) : C_ 1 q_ f_ = C0_ 1 q_ f_ := h_.1 1 q_ f_ ⟨by decide, by decide, fun e_ => hf e_.2, fun e_ => absurd e_.1 (by decide)⟩
theorem zzcf.a2 {C_ C0_ : zIn} {Z_ : List Nat} (h_ : zzcf C_ C0_ Z_) (q_ f_ : Nat) : C_ 2 q_ f_ = C0_ 2 q_ f_ := h_.1 2 q_ f_ ⟨by decide, by decide, fun e_ => absurd e_.1 (by decide), fun e_ => absurd e_.1 (by decide)⟩
theorem zzcf.a5 {C_ C0_ : zIn} {Z_ : List Nat} (h_ : zzcf C_ C0_ Z_) (q_ f_ : Nat) : C_ 5 q_ f_ = C0_ 5 q_ f_ := h_.1 5 q_ f_ ⟨by decide, by decide, fun e_ => absurd e_.1 (by decide), fun e_ => absurd e_.1 (by decide)⟩
theorem zzcf.a6 {C_ C0_ : zIn} {Z_ : List Nat} (h_ : zzcf C_ C0_ Z_) (q_ f_ : Nat) : C_ 6 q_ f_ = C0_ 6 q_ f_ := h_.1 6 q_ f_ ⟨by decide, by decide, fun e_ => absurd e_.1 (by decide), fun e_ => absurd e_.1 (by decide)⟩
theorem zzcf.a4 {C_ C0_ : zIn} {Z_ : List Nat} (h_ : zzcf C_ C0_ Z_) (q_ : Nat) {f_ : Nat} (hf : ¬ (f_ = 3 ∨ f_ = 4)) : C_ 4 q_ f_ = C0_ 4 q_ f_ := h_.1 4 q_ f_ ⟨by decide, by decide, fun e_ => absurd e_.1 (by decide), fun e_ => hf e_.2⟩
theorem zzcf.sea {C_ C0_ : zIn} {Z_ : List Nat} (h_ : zzcf C_ C0_ Z_) (q_ : Nat) : zsea C_ q_ = zsea C0_ q_ := by
  unfold zsea; rw [h_.a1 q_ (by decide), h_.a2]
theorem zzcf.chr {C_ C0_ : zIn} {Z_ : List Nat} (h_ : zzcf C_ C0_ Z_) (q_ : Nat) : zchr C_ q_ = zchr C0_ q_ := by
  unfold zchr; rw [h_.a1 q_ (by decide), h_.a2]
theorem zzcf.cs {C_ C0_ D_ : zIn} {Z_ : List Nat} {s_ : Nat} (h_ : zzcf C_ C0_ Z_) (hs : zzcs C0_ D_ s_) : zzcs C_ D_ s_ := by
  unfold zzcs at hs ⊢
  rw [h_.a4 s_ (by decide), h_.a1 _ (f_ := 7) (by decide), h_.a1 _ (f_ := 4) (by decide), h_.a1 _ (f_ := 0) (by decide), h_.a2, h_.a1 _ (f_ := 11) (by decide), h_.sea, h_.chr]
  exact hs
theorem zzcf.cv {C_ C0_ D_ : zIn} {Z_ : List Nat} {w_ : Nat} (h_ : zzcf C_ C0_ Z_) (hs : zzcv C0_ D_ w_) : zzcv C_ D_ w_ := by
  unfold zzcv at hs ⊢
  rw [h_.a5, h_.a5, h_.a5, h_.a5, h_.a5, h_.a5]
  exact hs
theorem zzcf.set3 {C_ C0_ : zIn} {Z_ : List Nat} {i_ f_ : Nat} {x_ : Int32} (h_ : zzcf C_ C0_ Z_) : zzcf (zset C_ 3 i_ f_ x_) C0_ Z_ := ⟨fun c_ j_ g_ hc_ => (zset_ne (fun e_ => hc_.2.1 e_.1)).trans (h_.1 c_ j_ g_ hc_), fun s_ hs g_ => (zset_ne (fun e_ => absurd e_.1 (by decide))).trans (h_.2 s_ hs g_)⟩
/-- the state of a vehicle, in the class as in the model -/
def zzH (C_ D_ : zIn) (v_ : Nat) (A_ : List Nat) (x_ : Int32) : Prop := zzcv C_ D_ v_ ∧ x_ = D_ 7 0 2 ∧ (D_ 30 13 v_).toInt ≤ 8 ∧ 0 ≤ (D_ 30 23 v_).toInt ∧ (D_ 30 23 v_).toInt ≤ 8 ∧ D_ 30 23 v_ ≤ D_ 30 13 v_ ∧ ztak C_ A_ 0 = D_ 30 23 v_ ∧ Int32.ofNat (zchl C_ A_).length ≤ D_ 30 14 v_ ∧ (zchl C_ A_).length ≤ 3 ∧ D_ 30 25 v_ = Int32.ofNat (zchl C_ A_).length ∧ ∀ j_ q_, (zchl C_ A_)[j_]? = some q_ → D_ 30 24 (3 * v_ + j_) = Int32.ofNat q_ ∧ q_ < 60
/-- a route of a vehicle that may be tried -/
def zzG (C_ D_ : zIn) (v_ : Nat) (A_ l : List Nat) : Prop := l.Nodup ∧ l.length ≤ 20 ∧ (∀ s_ ∈ l, s_ < 120 ∧ zzcs C_ D_ s_) ∧ zzHP D_ l ∧ zzvl l A_ ∧ (∀ q_ ∈ A_, ¬ 2 * q_ ∈ l) ∧ (¬ C_ 5 v_ 10 = 0 → ∀ s_, l[0]? = some s_ → C_ 4 s_ 3 = D_ 30 20 v_ ∧ C_ 4 s_ 4 = D_ 30 21 v_)
theorem zzcf.H {C_ C0_ D_ : zIn} {Z_ A_ : List Nat} {v_ : Nat} {x_ : Int32} (h_ : zzcf C_ C0_ Z_) (hs : zzH C0_ D_ v_ A_ x_) : zzH C_ D_ v_ A_ x_ := by
  unfold zzH at hs ⊢
  rw [zzftak (fun q_ => h_.sea q_) A_ 0, zzfchl (fun q_ => h_.chr q_) A_]
  exact ⟨h_.cv hs.1, hs.2⟩
theorem zzcf.G {C_ C0_ D_ : zIn} {Z_ A_ l : List Nat} {v_ : Nat} (h_ : zzcf C_ C0_ Z_) (hs : zzG C0_ D_ v_ A_ l) (hZ : ¬ C0_ 5 v_ 10 = 0 → ∀ s_, l[0]? = some s_ → s_ ∈ Z_) : zzG C_ D_ v_ A_ l := by
  obtain ⟨a1_, a2, a3, a4, a5, a6, a7⟩ := hs
  refine ⟨a1_, a2, fun s_ h1 => ⟨(a3 s_ h1).1, h_.cs (a3 s_ h1).2⟩, a4, a5, a6, fun hne s_ h0 => ?_⟩
  rw [h_.a5] at hne
  rw [h_.2 s_ (hZ hne s_ h0), h_.2 s_ (hZ hne s_ h0)]
  exact a7 hne s_ h0
theorem zzG.O {C_ D_ : zIn} {v_ : Nat} {A_ l : List Nat} {x_ : Int32} (hH : zzH C_ D_ v_ A_ x_) (hG : zzG C_ D_ v_ A_ l) : zmrO D_ l (zchl C_ A_).length := by
  obtain ⟨a1_, a2, a3, a4, a5, a6, a7⟩ := hG
  have h3 := hH.2.2.2.2.2.2.2.2.1
  refine zzlo_O l _ (zzlo_of l A_ (zchl C_ A_) a1_ a5 (fun q_ hq h2 hl => ?_)) (by omega)
  have h8 := (a3 _ hl).2.2.2.2.2.2.2.1
  rw [show (2 * q_ + 1) / 2 = q_ by omega] at h8
  unfold zchl
  rw [List.mem_filter]
  exact ⟨hq, by rw [h8]; exact decide_eq_true h2⟩
theorem zzstr {C_ : zIn} {L_ : zLi} {v_ : Nat} {x_ : Int32} : zstr C_ L_ v_ x_ 0 v_ 1 = C_ 5 v_ 11 ∧ zstr C_ L_ v_ x_ 0 v_ 2 = zmx (C_ 5 v_ 12) (x_ + 1) ∧ zstr C_ L_ v_ x_ 0 v_ 3 = ztak C_ (L_ 26 v_) 0 ∧ ∀ s_ f_, zstr C_ L_ v_ x_ 4 s_ f_ = C_ 4 s_ f_ := by
  have e_ : ztak (zst0 C_ v_ x_) (L_ 26 v_) 0 = ztak C_ (L_ 26 v_) 0 := zzftak (fun q_ => by unfold zsea zst0; simp [zset]) _ _
  unfold zstr
  rw [e_]
  unfold zst0
  refine ⟨by simp [zset], by simp [zset], by simp [zset], fun s_ f_ => by simp [zset]⟩
/-- the class's isRight is zzrt -/
theorem zzcR {C_ D_ : zIn} {L_ : zLi} {v_ : Nat} {l A_ : List Nat} {x_ : Int32} (h24 : L_ 24 v_ = l) (h26 : L_ 26 v_ = A_) (hH : zzH C_ D_ v_ A_ x_) (hG : zzG C_ D_ v_ A_ l) : (zirt C_ L_ v_ x_).1 = zzrt D_ v_ l (zchl C_ A_) := by
  obtain ⟨a1_, a2, a3, a4, a5, a6, a7⟩ := hG
  obtain ⟨b1, b2, b3, b4, b5, b6, b7, b8, b9, b10, b11⟩ := hH
  obtain ⟨c1_, c2_, c3_, c4_⟩ := zzstr (C_ := C_) (L_ := L_) (v_ := v_) (x_ := x_)
  unfold zirt zzrt
  rw [h24]
  have hch : ∀ q_, zchr (zstr C_ L_ v_ x_) q_ = zchr C_ q_ := fun q_ => zzfchr (v_ := v_) (fun c_ i_ f_ h_ => zstr_fr h_) q_
  have e5_ : C_ 5 v_ 11 = D_ 30 17 v_ := b1.2.2.2.1
  have e6_ : C_ 5 v_ 12 = D_ 30 18 v_ := b1.2.2.2.2.1
  refine zzcL (C0_ := C_) (P_ := zzP D_ v_ l) a1_ (by omega) (zzpt_len l _ _ _) (fun s_ h_ => (a3 s_ h_).2) b1 a4 (zzHO_of a5 a6) b3 l 0 _ _ (D_ 30 23 v_) (zchl C_ A_) _ _ rfl rfl (fun c_ i_ f_ h_ => zstr_fr h_) ?_ ?_ ?_ ?_ ?_ b1.2.2.2.2.2.2.1 (fun _ hne s_ h0 => ?_) (fun j_ q_ hj => absurd hj (by omega)) (by omega) b5 b6 b8 (by omega) (fun h_ => absurd rfl h_)
  · rw [c1_, e5_]
  · rw [c2_, zzmx, e6_, b2]
  · rw [c3_, h26, b7]
  · unfold zplL
    rw [zlup_self, h26, zzfchl hch]
  · unfold zplL
    rw [zlup_ne (by simp)]
    exact h24
  · rw [c4_, c4_]
    exact a7 hne s_ h0
theorem zzRR {C_ D_ K_ : zIn} {L_ : zLi} {v_ m_ : Nat} {l A_ : List Nat} {x_ : Int32} (h24 : L_ 24 v_ = l) (h26 : L_ 26 v_ = A_) (hH : zzH C_ D_ v_ A_ x_) (hG : zzG C_ D_ v_ A_ l) (hK_ : zzg K_ D_) (hm_ : m_ = (zchl C_ A_).length) : (zirt C_ L_ v_ x_).1 = (zmrT K_ v_ l m_).1 := by
  rw [zzcR h24 h26 hH hG, zzmR hK_ hm_ hH.2.2.2.2.2.2.2.2.2.2 (fun s_ hs => (hG.2.2.1 s_ hs).1) (by rw [hm_]; exact hG.O hH)]
/-- drives -/
theorem zzwk {C_ D_ : zIn} : ∀ (l : List Nat) (p_ w_ : Int32), (∀ s_ ∈ l, zzcs C_ D_ s_) → zzpc p_ → (zkm D_ l p_ (2 * w_)).1 = (zwkl C_ l p_ w_).1 ∧ (zkm D_ l p_ (2 * w_)).2 = 2 * (zwkl C_ l p_ w_).2 ∧ zzpc (zwkl C_ l p_ w_).1
  | [], p_, w_, _, hp => ⟨rfl, rfl, hp⟩
  | s_ :: r_, p_, w_, hs, hp => by
    obtain ⟨s1_, s2_, _⟩ := hs s_ List.mem_cons_self
    unfold zkm zwkl
    rw [s1_, zzstp hp s2_, ← Int32.mul_add]
    exact zzwk r_ _ _ (fun s_ h_ => hs s_ (List.mem_cons_of_mem _ h_)) s2_
theorem zzdr {C_ D_ : zIn} {l : List Nat} {p_ b_ : Int32} (hs : ∀ s_ ∈ l, zzcs C_ D_ s_) (hp : zzpc p_) (hb_ : zzpc b_) : zdrv C_ l p_ b_ = zdm D_ l p_ b_ := by
  obtain ⟨h1, h2, h3⟩ := zzwk l p_ 0 hs hp
  unfold zdrv zdm
  rw [Int32.mul_add, zzstp h3 hb_, ← h1, ← h2, Int32.mul_zero]
/-- what isRight does to the stops -/
theorem zzgt4 {C_ : zIn} {v_ s_ s0_ f_ : Nat} {x_ : Int32} (h_ : ¬ s0_ = s_ ∨ ¬ x_ = 0) : zgt C_ v_ s_ x_ 4 s0_ f_ = C_ 4 s0_ f_ := by
  unfold zgt zgt4 zgt3 zgt2 zgt1
  by_cases hx : x_ = 0
  · have hs : ¬ s0_ = s_ := h_.resolve_right (fun e_ => e_ hx)
    rw [if_pos hx]
    by_cases hp : s_ % 2 = 0
    · simp [zset, hp, hs]
    · simp [zset, hp, hs]
  · rw [if_neg hx]
    by_cases hp : s_ % 2 = 0
    · simp [zset, hp]
    · simp [zset, hp]
theorem zzirl {v_ s0_ f_ : Nat} : ∀ (r_ : List Nat) (k_ : Nat) (C_ : zIn) (L_ : zLi), (∀ j_, r_[j_]? = some s0_ → k_ + j_ = 0 ∧ ¬ C_ 5 v_ 10 = 0) → (zirl v_ r_ k_ C_ L_).2.1 4 s0_ f_ = C_ 4 s0_ f_
  | [], k_, C_, L_, h_ => rfl
  | s_ :: r_, k_, C_, L_, h_ => by
    have h1 : zgt C_ v_ s_ (zlft C_ v_ k_) 4 s0_ f_ = C_ 4 s0_ f_ := by
      refine zzgt4 ?_
      by_cases e_ : s0_ = s_
      · obtain ⟨e1_, e2_⟩ := h_ 0 (by rw [e_]; rfl)
        refine Or.inr ?_
        unfold zlft
        rw [if_pos ⟨by omega, e2_⟩]
        decide
      · exact Or.inl e_
    have h2 : zcl1 (zgt C_ v_ s_ (zlft C_ v_ k_)) v_ s_ 4 s0_ f_ = C_ 4 s0_ f_ := (zzcl1 (by simp)).trans h1
    have h3 : zcl1 (zgt C_ v_ s_ (zlft C_ v_ k_)) v_ s_ 5 v_ 10 = C_ 5 v_ 10 := (zzcl1 (by simp)).trans (zgt_fr zzf5)
    unfold zirl
    split
    · split
      · rw [zzirl r_ (k_ + 1) _ _ (fun j_ hj => by
          have := h_ (j_ + 1) (by simpa using hj)
          omega)]
        exact h2
      · exact h2
    · exact h1
theorem zzirt {C_ : zIn} {L_ : zLi} {v_ : Nat} {x_ : Int32} {Z_ : List Nat} (hn : (L_ 24 v_).Nodup) (hZ : ∀ s_ ∈ Z_, s_ ∈ L_ 24 v_ → ¬ C_ 5 v_ 10 = 0 ∧ (L_ 24 v_)[0]? = some s_) : zzcf (zirt C_ L_ v_ x_).2.1 C_ Z_ := by
  refine ⟨fun c_ i_ f_ h_ => zirt_fr ⟨fun e_ => h_.1 e_.1, h_.2.2.1, h_.2.2.2⟩, fun s_ hs f_ => ?_⟩
  unfold zirt
  rw [zzirl (L_ 24 v_) 0 _ _ (fun j_ hj => ?_)]
  · exact (zzstr).2.2.2 s_ f_
  · obtain ⟨h1, h2⟩ := hZ s_ hs (List.mem_of_getElem? hj)
    refine ⟨?_, ?_⟩
    · have := (List.getElem?_inj (List.getElem?_eq_some_iff.mp hj).1 hn).mp (hj.trans h2.symm)
      omega
    · rw [zstr_fr zzf5]; exact h1

