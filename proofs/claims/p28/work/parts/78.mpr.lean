/-! CONTRACTS OF THE MODEL: promise, promiseNear -/
def zfw (J_ I_ : zIn) : Prop := ∀ c_ i_ f_, ¬ (c_ = 30 ∧ 43 ≤ i_ ∧ i_ ≤ 46) → ¬ (c_ = 7 ∧ i_ = 0 ∧ 42 ≤ f_ ∧ f_ ≤ 50) → ¬ (c_ = 30 ∧ i_ = 34) → J_ c_ i_ f_ = I_ c_ i_ f_
theorem zfw.rfl {I_ : zIn} : zfw I_ I_ := fun _ _ _ _ _ _ => Eq.refl _
theorem zfw.trans {K_ J_ I_ : zIn} (h1 : zfw K_ J_) (h2 : zfw J_ I_) : zfw K_ I_ := fun c_ i_ f_ a_ b_ d_ => (h1 c_ i_ f_ a_ b_ d_).trans (h2 c_ i_ f_ a_ b_ d_)
theorem zfz.fw {J_ I_ : zIn} (h_ : zfz J_ I_) : zfw J_ I_ := fun c_ i_ f_ a_ b_ _ => h_ c_ i_ f_ a_ b_
theorem zfw.set {I_ : zIn} {r_ : Nat} {x_ : Int32} : zfw (zset I_ 30 34 r_ x_) I_ := fun c_ i_ f_ _ _ h_ => zset_ne (fun e_ => h_ ⟨e_.1, e_.2.1⟩)
theorem zfw.ro {J_ I_ : zIn} {v_ : Nat} {l : List Nat} (h_ : zfw J_ I_) (hl : zRo I_ v_ l) : zRo J_ v_ l := ⟨(h_ 30 27 v_ (by simp) (by simp) (by simp)).trans hl.1, hl.2.1, fun k_ s_ hs => ⟨(h_ 30 26 _ (by simp) (by simp) (by simp)).trans (hl.2.2 k_ s_ hs).1, (hl.2.2 k_ s_ hs).2⟩⟩
theorem zfw.mq {J_ I_ : zIn} {q_ : Nat} (h_ : zfw J_ I_) (hq : zMq I_ q_) : zMq J_ q_ := by
  unfold zMq at *
  rw [h_ 30 29 q_ (by simp) (by simp) (by simp)]
  exact hq
theorem zfw.kd {J_ I_ : zIn} (h_ : zfw J_ I_) (q_ : Nat) : zmkd J_ q_ = zmkd I_ q_ := by
  unfold zmkd zmrd
  rw [h_ 30 29 q_ (by simp) (by simp) (by simp), h_ 30 7 _ (by simp) (by simp) (by simp)]
theorem zfw.ch {J_ I_ : zIn} (h_ : zfw J_ I_) (s_ : Nat) : zmch J_ s_ = zmch I_ s_ := by
  unfold zmch
  rw [h_.kd]
theorem zfw.mO {J_ I_ : zIn} (h_ : zfw J_ I_) : ∀ (l : List Nat) (m_ : Nat), zmrO I_ l m_ → zmrO J_ l m_
  | [], _, _ => trivial
  | s_ :: r_, m_, hm_ => by
    unfold zmrO at *
    rw [h_.ch]
    split
    · rename_i hs
      rw [if_pos hs] at hm_
      exact ⟨hm_.1, zfw.mO h_ r_ _ hm_.2⟩
    · rename_i hs
      rw [if_neg hs] at hm_
      exact ⟨hm_.1, zfw.mO h_ r_ _ hm_.2⟩
theorem zfw.lk {J_ I_ : zIn} {v_ r_ m_ : Nat} {l : List Nat} (h_ : zfw J_ I_) (hl : zLok I_ v_ l r_ m_) : zLok J_ v_ l r_ m_ := ⟨hl.1, h_.mq hl.2.1, h_.ro hl.2.2.1, fun s_ hs => h_.mq (hl.2.2.2.1 s_ hs), (h_ 30 25 v_ (by simp) (by simp) (by simp)).trans hl.2.2.2.2.1, hl.2.2.2.2.2.1, fun p_ d_ h1 h2 h3 => h_.mO _ _ (hl.2.2.2.2.2.2 p_ d_ h1 h2 h3)⟩
/-- what put knows -/
def zPk (I_ : zIn) (N_ : Nat) (R_ : Nat → List Nat) (M_ : Nat → Nat) (r_ : Nat) : Prop := N_ ≤ 4 ∧ I_ 7 0 11 = Int32.ofNat N_ ∧ (∀ v_, v_ < N_ → zLok I_ v_ (R_ v_) r_ (M_ v_)) ∧ zMq I_ r_
theorem zfw.pk {J_ I_ : zIn} {N_ r_ : Nat} {R_ : Nat → List Nat} {M_ : Nat → Nat} (h_ : zfw J_ I_) (hk : zPk I_ N_ R_ M_ r_) : zPk J_ N_ R_ M_ r_ := ⟨hk.1, (h_ 7 0 11 (by simp) (by simp) (by simp)).trans hk.2.1, fun v_ hv => h_.lk (hk.2.2.1 v_ hv), h_.mq hk.2.2.2⟩
theorem zputA_no {I_ : zIn} {N_ r_ : Nat} {R_ : Nat → List Nat} {M_ : Nat → Nat} (h_ : (zputA I_ N_ R_ M_ r_).1 = false) : zfz (zputA I_ N_ R_ M_ r_).2 I_ := by
  have e_ : (zputA I_ N_ R_ M_ r_).2 = zpuV R_ M_ r_ N_ 0 (zset I_ 7 0 48 (-1)) := by
    unfold zputA zpuE at *
    split
    · rfl
    · rename_i hx
      rw [if_neg hx] at h_
      cases h_
  rw [e_]
  exact (zpuV_fz _ _ _).trans (zfz.rfl.set (by decide) (by decide))
def zprA (I_ : zIn) (N_ : Nat) (R_ : Nat → List Nat) (M_ : Nat → Nat) (r_ : Nat) (x_ : Int32) : Bool × zIn := if I_ 7 0 2 < x_ ∧ x_ ≤ 600 then zputA (zset I_ 30 34 r_ x_) N_ R_ M_ r_ else (false, zset I_ 30 34 r_ x_)
theorem zprA_no {I_ : zIn} {N_ r_ : Nat} {R_ : Nat → List Nat} {M_ : Nat → Nat} {x_ : Int32} (h_ : (zprA I_ N_ R_ M_ r_ x_).1 = false) : zfw (zprA I_ N_ R_ M_ r_ x_).2 I_ := by
  unfold zprA at *
  split
  · rename_i hx
    rw [if_pos hx] at h_
    exact (zputA_no h_).fw.trans zfw.set
  · exact zfw.set
