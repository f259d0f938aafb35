/-! MATHEMATICS: the relation of the class's state and the model's -/
/-- the model's rows but its working rows and what was thrown -/
def zzm (K_ D_ : zIn) : Prop := ∀ c_ i_ f_, (c_ = 7 ∨ c_ = 30 ∨ (c_ = 31 ∧ ¬ i_ = 0)) → ¬ (c_ = 30 ∧ (43 ≤ i_ ∧ i_ ≤ 46 ∨ i_ = 51)) → ¬ (c_ = 7 ∧ i_ = 0 ∧ (f_ = 0 ∨ 42 ≤ f_ ∧ f_ ≤ 50)) → K_ c_ i_ f_ = D_ c_ i_ f_
/-- the class's fields but those of plans and searches; the stops Z keep their minutes -/
def zzn (C_ C0_ : zIn) (Z_ : List Nat) : Prop := (∀ c_ i_ f_, (c_ = 1 ∨ c_ = 2 ∨ c_ = 4 ∨ c_ = 5 ∨ c_ = 6 ∨ (c_ = 99 ∧ ¬ i_ = 30) ∨ (c_ = 31 ∧ i_ = 0)) → ¬ (c_ = 1 ∧ f_ = 9) → ¬ (c_ = 4 ∧ (f_ = 3 ∨ f_ = 4)) → C_ c_ i_ f_ = C0_ c_ i_ f_) ∧ ∀ s_ ∈ Z_, ∀ f_, C_ 4 s_ f_ = C0_ 4 s_ f_
theorem zzm.rfl {D_ : zIn} : zzm D_ D_ := fun _ _ _ _ _ _ => Eq.refl _
theorem zzm.trans {K_ J_ D_ : zIn} (h1 : zzm K_ J_) (h2 : zzm J_ D_) : zzm K_ D_ := fun c_ i_ f_ a_ b_ e_ => (h1 c_ i_ f_ a_ b_ e_).trans (h2 c_ i_ f_ a_ b_ e_)
theorem zzm.symm {K_ D_ : zIn} (h1 : zzm K_ D_) : zzm D_ K_ := fun c_ i_ f_ a_ b_ e_ => (h1 c_ i_ f_ a_ b_ e_).symm
theorem zzg.m {K_ D_ : zIn} (h_ : zzg K_ D_) : zzm K_ D_ := fun c_ i_ f_ _ b_ e_ => h_ c_ i_ f_ b_ (fun g_ => e_ ⟨g_.1, g_.2.1, Or.inr g_.2.2⟩)
theorem zzm.at {K_ D_ : zIn} (h_ : zzm K_ D_) {i_ : Nat} (f_ : Nat) (hi_ : ¬ (43 ≤ i_ ∧ i_ ≤ 46 ∨ i_ = 51)) : K_ 30 i_ f_ = D_ 30 i_ f_ := h_ 30 i_ f_ (Or.inr (Or.inl (Eq.refl _))) (fun e_ => hi_ e_.2) (fun e_ => absurd e_.1 (by decide))
theorem zzm.a1 {K_ D_ : zIn} (h_ : zzm K_ D_) {i_ : Nat} (f_ : Nat) (hi_ : ¬ i_ = 0) : K_ 31 i_ f_ = D_ 31 i_ f_ := h_ 31 i_ f_ (Or.inr (Or.inr ⟨Eq.refl _, hi_⟩)) (fun e_ => absurd e_.1 (by decide)) (fun e_ => absurd e_.1 (by decide))
theorem zzm.a7 {K_ D_ : zIn} (h_ : zzm K_ D_) {f_ : Nat} (hf : ¬ (f_ = 0 ∨ 42 ≤ f_ ∧ f_ ≤ 50)) : K_ 7 0 f_ = D_ 7 0 f_ := h_ 7 0 f_ (Or.inl (Eq.refl _)) (fun e_ => absurd e_.1 (by decide)) (fun e_ => hf e_.2.2)
theorem zzm.rd {K_ D_ : zIn} (h_ : zzm K_ D_) (q_ : Nat) : zmrd K_ q_ = zmrd D_ q_ := by unfold zmrd; rw [h_.at q_ (by decide)]
theorem zzm.kd {K_ D_ : zIn} (h_ : zzm K_ D_) (q_ : Nat) : zmkd K_ q_ = zmkd D_ q_ := by unfold zmkd; rw [h_.rd, h_.at _ (by decide)]
theorem zzm.se {K_ D_ : zIn} (h_ : zzm K_ D_) (q_ : Nat) : zmse K_ q_ = zmse D_ q_ := by unfold zmse; rw [h_.kd, h_.rd, h_.a1 _ (by decide)]
theorem zzm.ch {K_ D_ : zIn} (h_ : zzm K_ D_) (s_ : Nat) : zmch K_ s_ = zmch D_ s_ := by unfold zmch; rw [h_.kd]
theorem zzm.pl {K_ D_ : zIn} (h_ : zzm K_ D_) (s_ : Nat) : zmpl K_ s_ = zmpl D_ s_ := by unfold zmpl; rw [h_.at _ (by decide), h_.at _ (by decide)]
theorem zzm.ro {K_ D_ : zIn} {v_ : Nat} {l : List Nat} (h_ : zzm K_ D_) (hl : zRo D_ v_ l) : zRo K_ v_ l := ⟨(h_.at v_ (by decide)).trans hl.1, hl.2.1, fun k_ s_ hs => ⟨(h_.at _ (by decide)).trans (hl.2.2 k_ s_ hs).1, (hl.2.2 k_ s_ hs).2⟩⟩
theorem zzcf.n {C_ C0_ : zIn} {Z_ : List Nat} (h_ : zzcf C_ C0_ Z_) (h31 : True) : zzn C_ C0_ Z_ := ⟨fun c_ i_ f_ hc_ h1 h4 => h_.1 c_ i_ f_ ⟨by omega, by omega, h1, h4⟩, h_.2⟩
theorem zzn.rfl {C_ : zIn} {Z_ : List Nat} : zzn C_ C_ Z_ := ⟨fun _ _ _ _ _ _ => Eq.refl _, fun _ _ _ => Eq.refl _⟩
theorem zzn.trans {C2_ C1_ C0_ : zIn} {Z_ : List Nat} (h1 : zzn C2_ C1_ Z_) (h2 : zzn C1_ C0_ Z_) : zzn C2_ C0_ Z_ := ⟨fun c_ i_ f_ a_ b_ e_ => (h1.1 c_ i_ f_ a_ b_ e_).trans (h2.1 c_ i_ f_ a_ b_ e_), fun s_ hs f_ => (h1.2 s_ hs f_).trans (h2.2 s_ hs f_)⟩
theorem zzn.a1 {C_ C0_ : zIn} {Z_ : List Nat} (h_ : zzn C_ C0_ Z_) (q_ : Nat) {f_ : Nat} (hf : ¬ f_ = 9) : C_ 1 q_ f_ = C0_ 1 q_ f_ := h_.1 1 q_ f_ (by simp) (fun e_ => hf e_.2) (fun e_ => absurd e_.1 (by decide))
theorem zzn.a2 {C_ C0_ : zIn} {Z_ : List Nat} (h_ : zzn C_ C0_ Z_) (q_ f_ : Nat) : C_ 2 q_ f_ = C0_ 2 q_ f_ := h_.1 2 q_ f_ (by simp) (fun e_ => absurd e_.1 (by decide)) (fun e_ => absurd e_.1 (by decide))
theorem zzn.a4 {C_ C0_ : zIn} {Z_ : List Nat} (h_ : zzn C_ C0_ Z_) (q_ : Nat) {f_ : Nat} (hf : ¬ (f_ = 3 ∨ f_ = 4)) : C_ 4 q_ f_ = C0_ 4 q_ f_ := h_.1 4 q_ f_ (by simp) (fun e_ => absurd e_.1 (by decide)) (fun e_ => hf e_.2)
theorem zzn.a5 {C_ C0_ : zIn} {Z_ : List Nat} (h_ : zzn C_ C0_ Z_) (q_ f_ : Nat) : C_ 5 q_ f_ = C0_ 5 q_ f_ := h_.1 5 q_ f_ (by simp) (fun e_ => absurd e_.1 (by decide)) (fun e_ => absurd e_.1 (by decide))
theorem zzn.a6 {C_ C0_ : zIn} {Z_ : List Nat} (h_ : zzn C_ C0_ Z_) (q_ f_ : Nat) : C_ 6 q_ f_ = C0_ 6 q_ f_ := h_.1 6 q_ f_ (by simp) (fun e_ => absurd e_.1 (by decide)) (fun e_ => absurd e_.1 (by decide))
theorem zzn.a99 {C_ C0_ : zIn} {Z_ : List Nat} (h_ : zzn C_ C0_ Z_) (q_ f_ : Nat) (hq : ¬ q_ = 30 := by decide) : C_ 99 q_ f_ = C0_ 99 q_ f_ := h_.1 99 q_ f_ (by simp [hq]) (fun e_ => absurd e_.1 (by decide)) (fun e_ => absurd e_.1 (by decide))
theorem zzn.a31 {C_ C0_ : zIn} {Z_ : List Nat} (h_ : zzn C_ C0_ Z_) (f_ : Nat) : C_ 31 0 f_ = C0_ 31 0 f_ := h_.1 31 0 f_ (by decide) (fun e_ => absurd e_.1 (by decide)) (fun e_ => absurd e_.1 (by decide))
theorem zzn.sea {C_ C0_ : zIn} {Z_ : List Nat} (h_ : zzn C_ C0_ Z_) (q_ : Nat) : zsea C_ q_ = zsea C0_ q_ := by
  unfold zsea; rw [h_.a1 q_ (by decide), h_.a2]
theorem zzn.chr {C_ C0_ : zIn} {Z_ : List Nat} (h_ : zzn C_ C0_ Z_) (q_ : Nat) : zchr C_ q_ = zchr C0_ q_ := by
  unfold zchr; rw [h_.a1 q_ (by decide), h_.a2]
/-- a route that can be driven with its seats and ties; chairs leave as the latest -/
def zzfe (D_ : zIn) (v_ : Nat) : List Nat → Int → List Nat → Prop
  | [], _, _ => True
  | s_ :: r_, u_, st_ =>
    if s_ % 2 = 0 then u_ + (zmse D_ (s_ / 2)).toInt ≤ (D_ 30 13 v_).toInt ∧ Int32.ofNat (zzst D_ s_ st_).length ≤ D_ 30 14 v_ ∧ zzfe D_ v_ r_ (u_ + (zmse D_ (s_ / 2)).toInt) (zzst D_ s_ st_)
    else (zmch D_ s_ = 0 ∨ st_.getLast? = some (s_ / 2)) ∧ zzfe D_ v_ r_ (u_ - (zmse D_ (s_ / 2)).toInt) (zzsd D_ s_ st_)
theorem zzfe_e {D_ : zIn} {v_ s_ : Nat} {r_ st_ : List Nat} {u_ : Int} (h_ : s_ % 2 = 0) : zzfe D_ v_ (s_ :: r_) u_ st_ ↔ (u_ + (zmse D_ (s_ / 2)).toInt ≤ (D_ 30 13 v_).toInt ∧ Int32.ofNat (zzst D_ s_ st_).length ≤ D_ 30 14 v_ ∧ zzfe D_ v_ r_ (u_ + (zmse D_ (s_ / 2)).toInt) (zzst D_ s_ st_)) := by
  conv => lhs; unfold zzfe
  rw [if_pos h_]
theorem zzfe_o {D_ : zIn} {v_ s_ : Nat} {r_ st_ : List Nat} {u_ : Int} (h_ : ¬ s_ % 2 = 0) : zzfe D_ v_ (s_ :: r_) u_ st_ ↔ ((zmch D_ s_ = 0 ∨ st_.getLast? = some (s_ / 2)) ∧ zzfe D_ v_ r_ (u_ - (zmse D_ (s_ / 2)).toInt) (zzsd D_ s_ st_)) := by
  conv => lhs; unfold zzfe
  rw [if_neg h_]
theorem zzst_m {K_ D_ : zIn} (h_ : ∀ q_, zmkd K_ q_ = zmkd D_ q_) (s_ : Nat) (st_ : List Nat) : zzst K_ s_ st_ = zzst D_ s_ st_ := by unfold zzst; rw [h_]
theorem zzsd_m {K_ D_ : zIn} (h_ : ∀ q_, zmkd K_ q_ = zmkd D_ q_) (s_ : Nat) (st_ : List Nat) : zzsd K_ s_ st_ = zzsd D_ s_ st_ := by unfold zzsd; rw [h_]
theorem zzfe_m {K_ D_ : zIn} {v_ : Nat} (hk : ∀ q_, zmkd K_ q_ = zmkd D_ q_) (hs : ∀ q_, zmse K_ q_ = zmse D_ q_) (h13 : K_ 30 13 v_ = D_ 30 13 v_) (h14 : K_ 30 14 v_ = D_ 30 14 v_) : ∀ (l : List Nat) (u_ : Int) (st_ : List Nat), zzfe D_ v_ l u_ st_ → zzfe K_ v_ l u_ st_
  | [], _, _, _ => trivial
  | s_ :: r_, u_, st_, h_ => by
    have hc_ : zmch K_ s_ = zmch D_ s_ := by unfold zmch; rw [hk]
    by_cases hp : s_ % 2 = 0
    · obtain ⟨a_, b_, c_⟩ := (zzfe_e hp).mp h_
      refine (zzfe_e hp).mpr ?_
      rw [hs, h13, h14, zzst_m hk]
      exact ⟨a_, b_, zzfe_m hk hs h13 h14 r_ _ _ c_⟩
    · obtain ⟨a_, b_⟩ := (zzfe_o hp).mp h_
      refine (zzfe_o hp).mpr ?_
      rw [hs, zzsd_m hk, hc_]
      exact ⟨a_, zzfe_m hk hs h13 h14 r_ _ _ b_⟩
def zzRg (C_ : zIn) (L_ : zLi) (D_ : zIn) (p_ N_ M_ : Nat) : Prop := L_ 20 0 = List.range p_ ∧ p_ ≤ 16 ∧ D_ 7 0 6 = Int32.ofNat p_ ∧ L_ 21 0 = List.range N_ ∧ N_ ≤ 4 ∧ D_ 7 0 11 = Int32.ofNat N_ ∧ L_ 22 0 = List.range M_ ∧ M_ ≤ 60 ∧ D_ 7 0 28 = Int32.ofNat M_ ∧ C_ 6 0 8 = D_ 7 0 2 ∧ C_ 6 0 7 = D_ 7 0 1 ∧ (∃ t_, t_ ≤ 600 ∧ D_ 7 0 2 = Int32.ofNat t_) ∧ (∃ y_, y_ ≤ 400 ∧ D_ 7 0 1 = Int32.ofNat y_) ∧ (C_ 6 0 6 = 0 ↔ D_ 7 0 3 = 0) ∧ (∀ k_, k_ < 36 → (C_ 31 0 k_ = 0 ↔ D_ 31 4 k_ = 0)) ∧ D_ 7 0 5 = zcb C_ 36 0 0
def zzRp (C_ D_ : zIn) (i_ : Nat) : Prop := ∃ k_, k_ ≤ 2 ∧ C_ 2 i_ 0 = Int32.ofNat k_ ∧ D_ 30 7 i_ = Int32.ofNat k_ ∧ C_ 2 i_ 1 = D_ 30 8 i_ ∧ C_ 2 i_ 2 = D_ 30 9 i_ ∧ C_ 2 i_ 3 = (if k_ = 2 then 2 else 1) + (if D_ 31 10 i_ = 0 then 0 else 1) ∧ C_ 2 i_ 4 = Int32.ofNat (2 + 2 * k_)
/-- what a search reads of a request -/
def zzRb (C_ D_ : zIn) (p_ r_ : Nat) : Prop := (∃ u_, u_ < p_ ∧ C_ 1 r_ 0 = Int32.ofNat u_ ∧ D_ 30 29 r_ = Int32.ofNat u_) ∧ zzpc (D_ 30 30 r_) ∧ zzpc (D_ 30 31 r_) ∧ C_ 1 r_ 1 = D_ 30 30 r_ ∧ C_ 1 r_ 2 = D_ 30 31 r_ ∧ C_ 1 r_ 4 = 10 + 4 * zspm (D_ 30 30 r_) (D_ 30 31 r_) ∧ C_ 1 r_ 7 = D_ 30 34 r_ ∧ C_ 1 r_ 11 = D_ 30 37 r_
def zzRc (C_ D_ : zIn) (r_ : Nat) : Prop := C_ 1 r_ 3 = D_ 30 39 r_ ∧ C_ 1 r_ 5 = D_ 30 32 r_ ∧ C_ 1 r_ 6 = D_ 30 33 r_ ∧ C_ 1 r_ 8 = D_ 30 35 r_ ∧ C_ 1 r_ 10 = D_ 30 36 r_ ∧ C_ 1 r_ 12 = D_ 30 38 r_ ∧ (C_ 1 r_ 13 = 0 ↔ D_ 31 41 r_ = 0) ∧ (znos (C_ 1 r_) = true ↔ ¬ D_ 31 40 r_ = 0)
def zzRv (C_ : zIn) (L_ : zLi) (D_ : zIn) (v_ : Nat) : Prop := zzcv C_ D_ v_ ∧ C_ 5 v_ 4 = D_ 30 15 v_ ∧ (C_ 5 v_ 9 = 0 ↔ D_ 31 16 v_ = 0) ∧ (∃ a_, a_ ≤ 8 ∧ D_ 30 13 v_ = Int32.ofNat a_) ∧ (∃ a_, a_ ≤ 3 ∧ D_ 30 14 v_ = Int32.ofNat a_) ∧ zRo D_ v_ (L_ 24 v_) ∧ ztak C_ (L_ 26 v_) 0 = D_ 30 23 v_ ∧ 0 ≤ (D_ 30 23 v_).toInt ∧ D_ 30 23 v_ ≤ D_ 30 13 v_ ∧ D_ 30 25 v_ = Int32.ofNat (zchl C_ (L_ 26 v_)).length ∧ Int32.ofNat (zchl C_ (L_ 26 v_)).length ≤ D_ 30 14 v_ ∧ (zchl C_ (L_ 26 v_)).length ≤ 3 ∧ (∀ j_ q_, (zchl C_ (L_ 26 v_))[j_]? = some q_ → D_ 30 24 (3 * v_ + j_) = Int32.ofNat q_)
def zzRl (C_ : zIn) (L_ : zLi) (D_ : zIn) (v_ : Nat) : Prop := (¬ C_ 5 v_ 10 = 0 → ∃ s_ l, L_ 24 v_ = s_ :: l ∧ C_ 4 s_ 3 = D_ 30 20 v_ ∧ C_ 4 s_ 4 = D_ 30 21 v_ ∧ (C_ 4 s_ 5 = 0 ↔ D_ 31 22 v_ = 0)) ∧ (C_ 5 v_ 10 = 0 → D_ 31 22 v_ = 0) ∧ (∀ s_ ∈ L_ 24 v_, ¬ C_ 4 s_ 5 = 0 → ¬ C_ 5 v_ 10 = 0 ∧ (L_ 24 v_)[0]? = some s_)
def zzRt (C_ : zIn) (L_ : zLi) (D_ : zIn) (M_ v_ : Nat) : Prop := (L_ 24 v_).Nodup ∧ (L_ 26 v_).Nodup ∧ (L_ 25 v_).Nodup ∧ (∀ s_ ∈ L_ 24 v_, s_ / 2 < M_ ∧ C_ 1 (s_ / 2) 8 = Int32.ofNat v_ ∧ (s_ % 2 = 0 → C_ 1 (s_ / 2) 5 = 0) ∧ (¬ s_ % 2 = 0 → C_ 1 (s_ / 2) 5 = 0 ∨ C_ 1 (s_ / 2) 5 = 1) ∧ C_ 4 s_ 2 = (if s_ % 2 = 0 then C_ 1 (s_ / 2) 1 else C_ 1 (s_ / 2) 2)) ∧ (∀ q_ ∈ L_ 26 v_, q_ < M_ ∧ C_ 1 q_ 5 = 1 ∧ C_ 1 q_ 8 = Int32.ofNat v_) ∧ zzvl (L_ 24 v_) (L_ 26 v_) ∧ zzfe D_ v_ (L_ 24 v_) (D_ 30 23 v_).toInt (zchl C_ (L_ 26 v_)) ∧ (∀ s_ ∈ L_ 25 v_, s_ / 2 < M_ ∧ (s_ % 2 = 0 → ¬ C_ 1 (s_ / 2) 5 = 0) ∧ (¬ s_ % 2 = 0 → C_ 1 (s_ / 2) 5 = 2)) ∧ zsbd C_ (L_ 25 v_) 0 = zsqL D_ v_ M_ 0 0
def zzRr (C_ : zIn) (L_ : zLi) (N_ r_ : Nat) : Prop := (C_ 1 r_ 5 = 0 → C_ 1 r_ 11 = -1 ∧ ∃ v_, v_ < N_ ∧ C_ 1 r_ 8 = Int32.ofNat v_ ∧ 2 * r_ ∈ L_ 24 v_ ∧ 2 * r_ + 1 ∈ L_ 24 v_) ∧ (C_ 1 r_ 5 = 1 → ¬ C_ 1 r_ 11 = -1 ∧ ∃ v_, v_ < N_ ∧ C_ 1 r_ 8 = Int32.ofNat v_ ∧ r_ ∈ L_ 26 v_ ∧ 2 * r_ + 1 ∈ L_ 24 v_)
def zzRx (C_ : zIn) (L_ : zLi) (D_ : zIn) (p_ N_ M_ : Nat) : Prop := (∀ i_, p_ ≤ i_ → ¬ C_ 99 2 i_ = 1) ∧ (∀ r_, M_ ≤ r_ → ¬ C_ 99 1 r_ = 1 ∧ ¬ C_ 99 4 (2 * r_) = 1 ∧ ¬ C_ 99 4 (2 * r_ + 1) = 1) ∧ (∀ v_, N_ ≤ v_ → ¬ C_ 99 5 v_ = 1 ∧ ¬ C_ 99 0 v_ = 1 ∧ ¬ C_ 99 24 v_ = 1 ∧ ¬ C_ 99 25 v_ = 1 ∧ ¬ C_ 99 26 v_ = 1 ∧ ¬ C_ 99 27 v_ = 1 ∧ L_ 24 v_ = [] ∧ L_ 25 v_ = [] ∧ L_ 26 v_ = [] ∧ L_ 27 v_ = []) ∧ (∀ r_, M_ ≤ r_ → r_ < 60 → D_ 30 33 r_ = 0 ∧ D_ 31 40 r_ = 0 ∧ D_ 31 41 r_ = 0) ∧ (∀ v_, N_ ≤ v_ → v_ < 4 → D_ 30 18 v_ = 0 ∧ D_ 31 19 v_ = 0 ∧ D_ 31 22 v_ = 0 ∧ D_ 30 23 v_ = 0 ∧ D_ 30 25 v_ = 0 ∧ D_ 30 27 v_ = 0)
/-- the relation -/
def zzR (C_ : zIn) (L_ : zLi) (D_ : zIn) (p_ N_ M_ : Nat) : Prop := zzRg C_ L_ D_ p_ N_ M_ ∧ (∀ i_, i_ < p_ → zzRp C_ D_ i_) ∧ (∀ r_, r_ < M_ → zzRb C_ D_ p_ r_ ∧ zzRc C_ D_ r_) ∧ (∀ v_, v_ < N_ → zzRv C_ L_ D_ v_ ∧ zzRl C_ L_ D_ v_ ∧ zzRt C_ L_ D_ M_ v_) ∧ (∀ r_, r_ < M_ → zzRr C_ L_ N_ r_) ∧ zzRx C_ L_ D_ p_ N_ M_
theorem zzcb_n {C_ C0_ : zIn} (h_ : ∀ f_, C_ 31 0 f_ = C0_ 31 0 f_) : ∀ (n_ k_ : Nat) (x_ : Int32), zcb C_ n_ k_ x_ = zcb C0_ n_ k_ x_
  | 0, _, _ => rfl
  | n_ + 1, k_, x_ => by
    unfold zcb
    rw [h_, zzcb_n h_ n_]
theorem zzsbd_n {C_ C0_ : zIn} (hs : ∀ q_, zsea C_ q_ = zsea C0_ q_) : ∀ (l : List Nat) (x_ : Int32), (∀ s_ ∈ l, C_ 1 (s_ / 2) 5 = C0_ 1 (s_ / 2) 5) → zsbd C_ l x_ = zsbd C0_ l x_
  | [], _, _ => rfl
  | s_ :: l, x_, h_ => by
    unfold zsbd
    rw [h_ s_ List.mem_cons_self, hs, zzsbd_n hs l _ (fun s_ hs => h_ s_ (List.mem_cons_of_mem _ hs))]
theorem zzsq_m {K_ D_ : zIn} {v_ : Nat} (h_ : zzm K_ D_) : ∀ (n_ k_ : Nat) (x_ : Int32), zsqL K_ v_ n_ k_ x_ = zsqL D_ v_ n_ k_ x_
  | 0, _, _ => rfl
  | n_ + 1, k_, x_ => by
    unfold zsqL zsqN
    rw [h_.at _ (by decide), h_.at _ (by decide), h_.se, zzsq_m h_ n_]
theorem zzRp.cg {C_ C0_ K_ D_ : zIn} {Z_ : List Nat} {i_ : Nat} (h_ : zzRp C0_ D_ i_) (hn : zzn C_ C0_ Z_) (hm_ : zzm K_ D_) : zzRp C_ K_ i_ := by
  unfold zzRp at h_ ⊢
  rw [hn.a2, hn.a2, hn.a2, hn.a2, hn.a2, hm_.at _ (by decide), hm_.at _ (by decide), hm_.at _ (by decide), hm_.a1 _ (by decide)]
  exact h_
theorem zzRb.cg {C_ C0_ K_ D_ : zIn} {Z_ : List Nat} {p_ r_ : Nat} (h_ : zzRb C0_ D_ p_ r_) (hn : zzn C_ C0_ Z_) (hm_ : zzm K_ D_) : zzRb C_ K_ p_ r_ := by
  unfold zzRb at h_ ⊢
  rw [hn.a1 r_ (f_ := 0) (by decide), hn.a1 r_ (f_ := 1) (by decide), hn.a1 r_ (f_ := 2) (by decide), hn.a1 r_ (f_ := 4) (by decide), hn.a1 r_ (f_ := 7) (by decide), hn.a1 r_ (f_ := 11) (by decide), hm_.at r_ (i_ := 29) (by decide), hm_.at r_ (i_ := 30) (by decide), hm_.at r_ (i_ := 31) (by decide), hm_.at r_ (i_ := 34) (by decide), hm_.at r_ (i_ := 37) (by decide)]
  exact h_
theorem zznos {C_ C0_ : zIn} {Z_ : List Nat} {r_ : Nat} (hn : zzn C_ C0_ Z_) : znos (C_ 1 r_) = znos (C0_ 1 r_) := by
  unfold znos
  rw [hn.a1 r_ (f_ := 5) (by decide), hn.a1 r_ (f_ := 14) (by decide)]
theorem zzRc.cg {C_ C0_ K_ D_ : zIn} {Z_ : List Nat} {r_ : Nat} (h_ : zzRc C0_ D_ r_) (hn : zzn C_ C0_ Z_) (hm_ : zzm K_ D_) : zzRc C_ K_ r_ := by
  unfold zzRc at h_ ⊢
  rw [zznos hn, hn.a1 r_ (f_ := 3) (by decide), hn.a1 r_ (f_ := 5) (by decide), hn.a1 r_ (f_ := 6) (by decide), hn.a1 r_ (f_ := 8) (by decide), hn.a1 r_ (f_ := 10) (by decide), hn.a1 r_ (f_ := 12) (by decide), hn.a1 r_ (f_ := 13) (by decide), hm_.at r_ (i_ := 39) (by decide), hm_.at r_ (i_ := 32) (by decide), hm_.at r_ (i_ := 33) (by decide), hm_.at r_ (i_ := 35) (by decide), hm_.at r_ (i_ := 36) (by decide), hm_.at r_ (i_ := 38) (by decide), hm_.a1 r_ (i_ := 41) (by decide), hm_.a1 r_ (i_ := 40) (by decide)]
  exact h_
theorem zzcv.cg {C_ C0_ K_ D_ : zIn} {Z_ : List Nat} {v_ : Nat} (h_ : zzcv C0_ D_ v_) (hn : zzn C_ C0_ Z_) (hm_ : zzm K_ D_) : zzcv C_ K_ v_ := by
  unfold zzcv at h_ ⊢
  rw [hn.a5, hn.a5, hn.a5, hn.a5, hn.a5, hn.a5, hm_.at v_ (i_ := 12) (by decide), hm_.at v_ (i_ := 13) (by decide), hm_.at v_ (i_ := 14) (by decide), hm_.at v_ (i_ := 17) (by decide), hm_.at v_ (i_ := 18) (by decide), hm_.a1 v_ (i_ := 19) (by decide)]
  exact h_
theorem zzRv.cg {C_ C0_ K_ D_ : zIn} {L_ L0_ : zLi} {Z_ : List Nat} {v_ : Nat} (h_ : zzRv C0_ L0_ D_ v_) (hn : zzn C_ C0_ Z_) (hm_ : zzm K_ D_) (h24 : L_ 24 v_ = L0_ 24 v_) (h26 : L_ 26 v_ = L0_ 26 v_) : zzRv C_ L_ K_ v_ := by
  obtain ⟨a1_, a2, a3, a4, a5, a6, a7⟩ := h_
  unfold zzRv
  rw [h24, h26, zzftak (fun q_ => hn.sea q_), zzfchl (fun q_ => hn.chr q_), hn.a5, hn.a5, hm_.at v_ (i_ := 15) (by decide), hm_.at v_ (i_ := 13) (by decide), hm_.at v_ (i_ := 14) (by decide), hm_.at v_ (i_ := 23) (by decide), hm_.at v_ (i_ := 25) (by decide), hm_.a1 v_ (i_ := 16) (by decide)]
  refine ⟨a1_.cg hn hm_, a2, a3, a4, a5, hm_.ro a6, a7.1, a7.2.1, a7.2.2.1, a7.2.2.2.1, a7.2.2.2.2.1, a7.2.2.2.2.2.1, fun j_ q_ hj => ?_⟩
  rw [hm_.at _ (by decide)]
  exact a7.2.2.2.2.2.2 j_ q_ hj
theorem zzRl.cg {C_ C0_ K_ D_ : zIn} {L_ L0_ : zLi} {Z_ : List Nat} {v_ : Nat} (h_ : zzRl C0_ L0_ D_ v_) (hn : zzn C_ C0_ Z_) (hm_ : zzm K_ D_) (h24 : L_ 24 v_ = L0_ 24 v_) (hZ : ¬ C0_ 5 v_ 10 = 0 → ∀ s_, (L0_ 24 v_)[0]? = some s_ → s_ ∈ Z_) : zzRl C_ L_ K_ v_ := by
  obtain ⟨a1_, a2, a3⟩ := h_
  unfold zzRl
  rw [h24, hn.a5, hm_.at v_ (i_ := 20) (by decide), hm_.at v_ (i_ := 21) (by decide), hm_.a1 v_ (i_ := 22) (by decide)]
  refine ⟨fun hne => ?_, a2, fun s_ hs hne => ?_⟩
  · obtain ⟨s_, l, e1_, e2_, e3_, e4_⟩ := a1_ hne
    have hz : s_ ∈ Z_ := hZ hne s_ (by rw [e1_]; rfl)
    refine ⟨s_, l, e1_, ?_⟩
    rw [hn.2 s_ hz, hn.2 s_ hz, hn.2 s_ hz]
    exact ⟨e2_, e3_, e4_⟩
  · rw [hn.a4 s_ (by decide)] at hne
    exact a3 s_ hs hne
theorem zzRt.cg {C_ C0_ K_ D_ : zIn} {L_ L0_ : zLi} {Z_ : List Nat} {M_ v_ : Nat} (h_ : zzRt C0_ L0_ D_ M_ v_) (hn : zzn C_ C0_ Z_) (hm_ : zzm K_ D_) (h24 : L_ 24 v_ = L0_ 24 v_) (h25 : L_ 25 v_ = L0_ 25 v_) (h26 : L_ 26 v_ = L0_ 26 v_) : zzRt C_ L_ K_ M_ v_ := by
  obtain ⟨a1_, a2, a3, a4, a5, a6, a7, a8, a9⟩ := h_
  unfold zzRt
  rw [h24, h25, h26, zzfchl (fun q_ => hn.chr q_), hm_.at v_ (i_ := 23) (by decide), zzsq_m hm_, zzsbd_n (fun q_ => hn.sea q_) _ _ (fun s_ _ => hn.a1 _ (by decide))]
  refine ⟨a1_, a2, a3, fun s_ hs => ?_, fun q_ hq => ?_, a6, zzfe_m (fun q_ => hm_.kd q_) (fun q_ => hm_.se q_) (hm_.at v_ (by decide)) (hm_.at v_ (by decide)) _ _ _ a7, fun s_ hs => ?_, a9⟩
  · rw [hn.a1 _ (f_ := 8) (by decide), hn.a1 _ (f_ := 5) (by decide), hn.a1 _ (f_ := 1) (by decide), hn.a1 _ (f_ := 2) (by decide), hn.a4 s_ (by decide)]
    exact a4 s_ hs
  · rw [hn.a1 _ (f_ := 8) (by decide), hn.a1 _ (f_ := 5) (by decide)]
    exact a5 q_ hq
  · rw [hn.a1 _ (f_ := 5) (by decide)]
    exact a8 s_ hs
theorem zzRr.cg {C_ C0_ : zIn} {L_ L0_ : zLi} {Z_ : List Nat} {N_ r_ : Nat} (h_ : zzRr C0_ L0_ N_ r_) (hn : zzn C_ C0_ Z_) (h24 : ∀ v_, v_ < N_ → L_ 24 v_ = L0_ 24 v_) (h26 : ∀ v_, v_ < N_ → L_ 26 v_ = L0_ 26 v_) : zzRr C_ L_ N_ r_ := by
  unfold zzRr at h_ ⊢
  rw [hn.a1 _ (f_ := 8) (by decide), hn.a1 _ (f_ := 5) (by decide), hn.a1 _ (f_ := 11) (by decide)]
  refine ⟨fun e_ => ?_, fun e_ => ?_⟩
  · obtain ⟨b1, v_, b2, b3, b4, b5⟩ := h_.1 e_
    exact ⟨b1, v_, b2, b3, by rw [h24 v_ b2]; exact b4, by rw [h24 v_ b2]; exact b5⟩
  · obtain ⟨b1, v_, b2, b3, b4, b5⟩ := h_.2 e_
    exact ⟨b1, v_, b2, b3, by rw [h26 v_ b2]; exact b4, by rw [h24 v_ b2]; exact b5⟩
theorem zzRg.cg {C_ C0_ K_ D_ : zIn} {L_ L0_ : zLi} {Z_ : List Nat} {p_ N_ M_ : Nat} (h_ : zzRg C0_ L0_ D_ p_ N_ M_) (hn : zzn C_ C0_ Z_) (hm_ : zzm K_ D_) (hL : ∀ c_, 20 ≤ c_ → c_ < 23 → L_ c_ 0 = L0_ c_ 0) : zzRg C_ L_ K_ p_ N_ M_ := by
  unfold zzRg at h_ ⊢
  rw [hL 20 (by decide) (by decide), hL 21 (by decide) (by decide), hL 22 (by decide) (by decide), hm_.a7 (f_ := 6) (by decide), hm_.a7 (f_ := 11) (by decide), hm_.a7 (f_ := 28) (by decide), hm_.a7 (f_ := 2) (by decide), hm_.a7 (f_ := 1) (by decide), hm_.a7 (f_ := 3) (by decide), hm_.a7 (f_ := 5) (by decide), hn.a6, hn.a6, hn.a6, zzcb_n (fun f_ => hn.a31 f_)]
  obtain ⟨a1_, a2, a3, a4, a5, a6, a7, a8, a9, b1, b2, b3, b4, b5, b6, b7⟩ := h_
  refine ⟨a1_, a2, a3, a4, a5, a6, a7, a8, a9, b1, b2, b3, b4, b5, fun k_ hk => ?_, b7⟩
  rw [hn.a31, hm_.a1 k_ (by decide)]
  exact b6 k_ hk
theorem zzRx.cg {C_ C0_ K_ D_ : zIn} {L_ L0_ : zLi} {Z_ : List Nat} {p_ N_ M_ : Nat} (h_ : zzRx C0_ L0_ D_ p_ N_ M_) (hn : zzn C_ C0_ Z_) (hm_ : zzm K_ D_) (hL : ∀ v_, N_ ≤ v_ → L_ 24 v_ = L0_ 24 v_ ∧ L_ 25 v_ = L0_ 25 v_ ∧ L_ 26 v_ = L0_ 26 v_ ∧ L_ 27 v_ = L0_ 27 v_) : zzRx C_ L_ K_ p_ N_ M_ := by
  obtain ⟨a1_, a2, a3, a4, a5⟩ := h_
  refine ⟨fun i_ hi_ => ?_, fun r_ hr => ?_, fun v_ hv => ?_, fun r_ h1 h2 => ?_, fun v_ h1 h2 => ?_⟩
  · rw [hn.a99 2]; exact a1_ i_ hi_
  · rw [hn.a99 1, hn.a99 4, hn.a99 4]; exact a2 r_ hr
  · obtain ⟨l1, l2, l3, l4⟩ := hL v_ hv
    rw [hn.a99 5, hn.a99 0, hn.a99 24, hn.a99 25, hn.a99 26, hn.a99 27, l1, l2, l3, l4]; exact a3 v_ hv
  · rw [hm_.at r_ (i_ := 33) (by decide), hm_.a1 r_ (i_ := 40) (by decide), hm_.a1 r_ (i_ := 41) (by decide)]; exact a4 r_ h1 h2
  · rw [hm_.at v_ (i_ := 18) (by decide), hm_.a1 v_ (i_ := 19) (by decide), hm_.a1 v_ (i_ := 22) (by decide), hm_.at v_ (i_ := 23) (by decide), hm_.at v_ (i_ := 25) (by decide), hm_.at v_ (i_ := 27) (by decide)]; exact a5 v_ h1 h2
/-- the stops for which a vehicle has left -/
def zzZ (C_ : zIn) (L_ : zLi) (N_ : Nat) : List Nat := (List.range N_).flatMap (fun v_ => if C_ 5 v_ 10 = 0 then [] else (L_ 24 v_).take 1)
theorem zzZ_mem {C_ : zIn} {L_ : zLi} {N_ s_ : Nat} : s_ ∈ zzZ C_ L_ N_ ↔ ∃ v_, v_ < N_ ∧ ¬ C_ 5 v_ 10 = 0 ∧ (L_ 24 v_)[0]? = some s_ := by
  unfold zzZ
  rw [List.mem_flatMap]
  constructor
  · rintro ⟨v_, hv, hs⟩
    rw [List.mem_range] at hv
    by_cases hc_ : C_ 5 v_ 10 = 0
    · rw [if_pos hc_] at hs; cases hs
    · rw [if_neg hc_] at hs
      refine ⟨v_, hv, hc_, ?_⟩
      cases hl : L_ 24 v_ with
      | nil => rw [hl] at hs; cases hs
      | cons a_ b_ =>
        rw [hl] at hs
        have e_ : s_ = a_ := by simpa using hs
        rw [e_]; rfl
  · rintro ⟨v_, hv, hc_, hs⟩
    refine ⟨v_, List.mem_range.mpr hv, ?_⟩
    rw [if_neg hc_]
    cases hl : L_ 24 v_ with
    | nil => rw [hl] at hs; cases hs
    | cons a_ b_ =>
      rw [hl] at hs
      have e_ : a_ = s_ := by simpa using hs
      rw [e_]; simp
/-- what plans, searches and working rows change, the relation doesn't see -/
theorem zzR.cg {C_ C0_ K_ D_ : zIn} {L_ L0_ : zLi} {p_ N_ M_ : Nat} (h_ : zzR C0_ L0_ D_ p_ N_ M_) (hn : zzn C_ C0_ (zzZ C0_ L0_ N_)) (hm_ : zzm K_ D_) (hL : ∀ c_ i_, ¬ c_ = 23 → ¬ (c_ = 27 ∧ i_ < N_) → L_ c_ i_ = L0_ c_ i_) : zzR C_ L_ K_ p_ N_ M_ := by
  obtain ⟨h1, h2, h3, h4, h5, h6⟩ := h_
  refine ⟨h1.cg hn hm_ (fun c_ a_ b_ => hL c_ 0 (by omega) (by omega)), fun i_ hi_ => (h2 i_ hi_).cg hn hm_, fun r_ hr => ⟨(h3 r_ hr).1.cg hn hm_, (h3 r_ hr).2.cg hn hm_⟩, fun v_ hv => ⟨(h4 v_ hv).1.cg hn hm_ (hL 24 v_ (by decide) (by omega)) (hL 26 v_ (by decide) (by omega)), (h4 v_ hv).2.1.cg hn hm_ (hL 24 v_ (by decide) (by omega)) (fun hne s_ hs => zzZ_mem.mpr ⟨v_, hv, hne, hs⟩), (h4 v_ hv).2.2.cg hn hm_ (hL 24 v_ (by decide) (by omega)) (hL 25 v_ (by decide) (by omega)) (hL 26 v_ (by decide) (by omega))⟩, fun r_ hr => (h5 r_ hr).cg hn (fun v_ hv => hL 24 v_ (by decide) (by omega)) (fun v_ hv => hL 26 v_ (by decide) (by omega)), h6.cg hn hm_ (fun v_ hv => ⟨hL 24 v_ (by decide) (by omega), hL 25 v_ (by decide) (by omega), hL 26 v_ (by decide) (by omega), hL 27 v_ (by decide) (by omega)⟩)⟩

