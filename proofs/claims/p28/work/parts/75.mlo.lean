/-! CONTRACTS OF THE MODEL: look -/
def zfz (J_ I_ : zIn) : Prop := ∀ c_ i_ f_, ¬ (c_ = 30 ∧ 43 ≤ i_ ∧ i_ ≤ 46) → ¬ (c_ = 7 ∧ i_ = 0 ∧ 42 ≤ f_ ∧ f_ ≤ 50) → J_ c_ i_ f_ = I_ c_ i_ f_
theorem zfz.rfl {I_ : zIn} : zfz I_ I_ := fun _ _ _ _ _ => Eq.refl _
theorem zfz.trans {K_ J_ I_ : zIn} (h1 : zfz K_ J_) (h2 : zfz J_ I_) : zfz K_ I_ := fun c_ i_ f_ h_ h' => (h1 c_ i_ f_ h_ h').trans (h2 c_ i_ f_ h_ h')
theorem zfx.fz {J_ I_ : zIn} (h_ : zfx J_ I_) : zfz J_ I_ := fun c_ i_ f_ h1 _ => h_ c_ i_ f_ (fun e_ => h1 ⟨e_.1, by omega, e_.2.2⟩)
theorem zfz.set {J_ I_ : zIn} {f_ : Nat} {x_ : Int32} (h_ : zfz J_ I_) (h1 : 42 ≤ f_) (h2 : f_ ≤ 50) : zfz (zset J_ 7 0 f_ x_) I_ := fun c_ i_ f' h' hc_ => (zset_ne (fun e_ => hc_ ⟨e_.1, e_.2.1, by omega, by omega⟩)).trans (h_ c_ i_ f' h' hc_)
theorem zfz.try {J_ I_ : zIn} {v_ n_ : Nat} (h_ : zfz J_ I_) : zfz (ztry J_ v_ n_) I_ := fun c_ i_ f_ h1 h2 => (ztry_ne (fun e_ => h1 ⟨e_.1, by omega, by omega⟩) (fun e_ => h2 ⟨e_.1, e_.2.1, by omega, by omega⟩)).trans (h_ c_ i_ f_ h1 h2)
theorem zfz.pst {J_ I_ : zIn} {n_ a_ s_ : Nat} (h_ : zfz J_ I_) : zfz (zpst J_ n_ a_ s_) I_ := fun c_ i_ f_ h1 h2 => (zpst_ne (fun e_ => h1 ⟨e_.1, by omega, by omega⟩) (fun e_ => h2 ⟨e_.1, e_.2.1, by omega, by omega⟩)).trans (h_ c_ i_ f_ h1 h2)
theorem zfz.tst {J_ I_ : zIn} {n_ a_ : Nat} (h_ : zfz J_ I_) : zfz (ztst J_ n_ a_) I_ := fun c_ i_ f_ h1 h2 => (ztst_ne (fun e_ => h1 ⟨e_.1, by omega, by omega⟩) (fun e_ => h2 ⟨e_.1, e_.2.1, by omega, by omega⟩)).trans (h_ c_ i_ f_ h1 h2)
theorem zfz.ro {J_ I_ : zIn} {v_ : Nat} {l : List Nat} (h_ : zfz J_ I_) (hl : zRo I_ v_ l) : zRo J_ v_ l := ⟨(h_ 30 27 v_ (by simp) (by simp)).trans hl.1, hl.2.1, fun k_ s_ hs => ⟨(h_ 30 26 _ (by simp) (by simp)).trans (hl.2.2 k_ s_ hs).1, (hl.2.2 k_ s_ hs).2⟩⟩
theorem zfz.mq {J_ I_ : zIn} {q_ : Nat} (h_ : zfz J_ I_) (hq : zMq I_ q_) : zMq J_ q_ := by
  unfold zMq at *
  rw [h_ 30 29 q_ (by simp) (by simp)]
  exact hq
theorem zfz.kd {J_ I_ : zIn} (h_ : zfz J_ I_) (q_ : Nat) : zmkd J_ q_ = zmkd I_ q_ := by
  unfold zmkd zmrd
  rw [h_ 30 29 q_ (by simp) (by simp), h_ 30 7 _ (by simp) (by simp)]
theorem zfz.ch {J_ I_ : zIn} (h_ : zfz J_ I_) (s_ : Nat) : zmch J_ s_ = zmch I_ s_ := by
  unfold zmch
  rw [h_.kd]
theorem zfz.mO {J_ I_ : zIn} (h_ : zfz J_ I_) : ∀ (l : List Nat) (m_ : Nat), zmrO I_ l m_ → zmrO J_ l m_
  | [], _, _ => trivial
  | s_ :: r_, m_, hm_ => by
    unfold zmrO at *
    rw [h_.ch]
    split
    · rename_i hs
      rw [if_pos hs] at hm_
      exact ⟨hm_.1, zfz.mO h_ r_ _ hm_.2⟩
    · rename_i hs
      rw [if_neg hs] at hm_
      exact ⟨hm_.1, zfz.mO h_ r_ _ hm_.2⟩
theorem zmrF_fx {v_ : Nat} {l : List Nat} : ∀ (r_ : List Nat) (k_ : Nat) (u_ : Int32) (m_ : Nat) (b_ : Bool) (I_ : zIn), zfx (zmrF v_ l r_ k_ u_ m_ b_ I_).2 I_
  | [], _, _, _, _, _ => zfx.rfl
  | s_ :: r_, k_, u_, m_, b_, I_ => by
    unfold zmrF
    split
    · exact zfx.rfl
    · split
      · exact (zmrF_fx r_ _ _ _ _ _).trans zmsA_fx
      · exact zmrF_fx r_ _ _ _ _ _
theorem zmrT_fx {I_ : zIn} {v_ m_ : Nat} {l : List Nat} : zfx (zmrT I_ v_ l m_).2 I_ := ((zmrF_fx _ _ _ _ _ _).trans (zcpS_fx _ _ _)).trans zpln_fx
def zlkL (l : List Nat) (r_ p_ d_ : Nat) : List Nat := (l.insertIdx p_ (2 * r_)).insertIdx d_ (2 * r_ + 1)
def zlkT (I_ : zIn) (v_ : Nat) (l : List Nat) (r_ p_ d_ : Nat) : zIn := zpst (zpst (ztry I_ v_ l.length) l.length p_ (2 * r_)) (l.length + 1) d_ (2 * r_ + 1)
def zlkG (I_ : zIn) (v_ : Nat) (l : List Nat) : Int32 := zdm I_ l (I_ 30 17 v_) (I_ 30 12 v_)
def zlkB (I_ : zIn) (g_ : Int32) (v_ p_ d_ : Nat) : zIn := zset (zset (zset (zset I_ 7 0 47 g_) 7 0 48 (Int32.ofNat v_)) 7 0 49 (Int32.ofNat p_)) 7 0 50 (Int32.ofNat d_)
def zlk1 (v_ : Nat) (l : List Nat) (r_ m_ : Nat) (w_ : Int32) (p_ d_ : Nat) (I_ : zIn) : zIn :=
  if I_ 7 0 48 = -1 ∨ zlkG (zlkT I_ v_ l r_ p_ d_) v_ (zlkL l r_ p_ d_) - w_ < I_ 7 0 47 then
    (if (zmrT (zlkT I_ v_ l r_ p_ d_) v_ (zlkL l r_ p_ d_) m_).1 = true then zlkB (zmrT (zlkT I_ v_ l r_ p_ d_) v_ (zlkL l r_ p_ d_) m_).2 (zlkG (zlkT I_ v_ l r_ p_ d_) v_ (zlkL l r_ p_ d_) - w_) v_ p_ d_ else (zmrT (zlkT I_ v_ l r_ p_ d_) v_ (zlkL l r_ p_ d_) m_).2)
  else zlkT I_ v_ l r_ p_ d_
def zlkD (v_ : Nat) (l : List Nat) (r_ m_ : Nat) (w_ : Int32) (p_ : Nat) : Nat → Nat → zIn → zIn
  | 0, _, I_ => I_
  | n_ + 1, d_, I_ => zlkD v_ l r_ m_ w_ p_ n_ (d_ + 1) (zlk1 v_ l r_ m_ w_ p_ d_ I_)
def zlkP (v_ : Nat) (l : List Nat) (r_ m_ : Nat) (w_ : Int32) : Nat → Nat → zIn → zIn
  | 0, _, I_ => I_
  | n_ + 1, p_, I_ => zlkP v_ l r_ m_ w_ n_ (p_ + 1) (zlkD v_ l r_ m_ w_ p_ (l.length + 1 - p_) (p_ + 1) I_)
theorem zlkT_fz {I_ : zIn} {v_ r_ p_ d_ : Nat} {l : List Nat} : zfz (zlkT I_ v_ l r_ p_ d_) I_ := zfz.rfl.try.pst.pst
theorem zlk1_fz {I_ : zIn} {v_ r_ p_ d_ m_ : Nat} {w_ : Int32} {l : List Nat} : zfz (zlk1 v_ l r_ m_ w_ p_ d_ I_) I_ := by
  unfold zlk1
  split
  · split
    · exact ((((zmrT_fx.fz.trans zlkT_fz).set (by decide) (by decide)).set (by decide) (by decide)).set (by decide) (by decide)).set (by decide) (by decide)
    · exact zmrT_fx.fz.trans zlkT_fz
  · exact zlkT_fz
theorem zlkD_fz {v_ r_ p_ m_ : Nat} {w_ : Int32} {l : List Nat} : ∀ (n_ d_ : Nat) (I_ : zIn), zfz (zlkD v_ l r_ m_ w_ p_ n_ d_ I_) I_
  | 0, _, _ => zfz.rfl
  | n_ + 1, d_, I_ => (zlkD_fz n_ (d_ + 1) _).trans zlk1_fz
theorem zlkP_fz {v_ r_ m_ : Nat} {w_ : Int32} {l : List Nat} : ∀ (n_ p_ : Nat) (I_ : zIn), zfz (zlkP v_ l r_ m_ w_ n_ p_ I_) I_
  | 0, _, _ => zfz.rfl
  | n_ + 1, p_, I_ => (zlkP_fz n_ (p_ + 1) _).trans (zlkD_fz _ _ _)
theorem zlkL_mem {l : List Nat} {r_ p_ d_ s_ : Nat} (hp : p_ ≤ l.length) (hd_ : d_ ≤ l.length + 1) (h_ : s_ ∈ zlkL l r_ p_ d_) : s_ / 2 = r_ ∨ s_ ∈ l := by
  have eL : (l.insertIdx p_ (2 * r_)).length = l.length + 1 := by rw [List.length_insertIdx, if_pos hp]
  unfold zlkL at h_
  rw [List.mem_insertIdx (by omega), List.mem_insertIdx hp] at h_
  rcases h_ with h_ | h_ | h_
  · left; omega
  · left; omega
  · exact Or.inr h_
theorem zlkT_tr {I_ : zIn} {v_ r_ p_ d_ : Nat} {l : List Nat} (h_ : zRo I_ v_ l) (hr : r_ < 60) (hp : p_ ≤ l.length) (hd_ : d_ ≤ l.length + 1) : zTr (zlkT I_ v_ l r_ p_ d_) (zlkL l r_ p_ d_) := by
  have hn := h_.2.1
  have h1 := zpst_tr (ztry_tr h_) hp (by omega) (show 2 * r_ < 120 by omega)
  have eL : (l.insertIdx p_ (2 * r_)).length = l.length + 1 := by rw [List.length_insertIdx, if_pos hp]
  have h2 := zpst_tr (a_ := d_) (s_ := 2 * r_ + 1) h1 (by omega) (by omega) (by omega)
  rw [eL] at h2
  exact h2
/-- what look knows of its state -/
def zLok (I_ : zIn) (v_ : Nat) (l : List Nat) (r_ m_ : Nat) : Prop := v_ < 4 ∧ zMq I_ r_ ∧ zRo I_ v_ l ∧ (∀ s_ ∈ l, zMq I_ (s_ / 2)) ∧ I_ 30 25 v_ = Int32.ofNat m_ ∧ m_ ≤ 3 ∧ ∀ p_ d_, p_ ≤ l.length → p_ < d_ → d_ ≤ l.length + 1 → zmrO I_ (zlkL l r_ p_ d_) m_
theorem zfz.lk {J_ I_ : zIn} {v_ r_ m_ : Nat} {l : List Nat} (h_ : zfz J_ I_) (hl : zLok I_ v_ l r_ m_) : zLok J_ v_ l r_ m_ := ⟨hl.1, h_.mq hl.2.1, h_.ro hl.2.2.1, fun s_ hs => h_.mq (hl.2.2.2.1 s_ hs), (h_ 30 25 v_ (by simp) (by simp)).trans hl.2.2.2.2.1, hl.2.2.2.2.2.1, fun p_ d_ h1 h2 h3 => h_.mO _ _ (hl.2.2.2.2.2.2 p_ d_ h1 h2 h3)⟩
theorem z2q1 {q_ : Nat} : 2 * Int32.ofNat q_ + 1 = Int32.ofNat (2 * q_ + 1) := by rw [z2q]; exact zisucc _
