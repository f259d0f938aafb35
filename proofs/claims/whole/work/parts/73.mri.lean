/-! CONTRACTS OF THE MODEL: isRight -/
def zfx (J_ I_ : zIn) : Prop := ∀ c_ i_ f_, ¬ (c_ = 30 ∧ 44 ≤ i_ ∧ i_ ≤ 46) → J_ c_ i_ f_ = I_ c_ i_ f_
theorem zfx.rfl {I_ : zIn} : zfx I_ I_ := fun _ _ _ _ => Eq.refl _
theorem zfx.set {J_ I_ : zIn} {j_ k_ : Nat} {x_ : Int32} (h_ : zfx J_ I_) (h1 : 44 ≤ j_) (h2 : j_ ≤ 46) : zfx (zset J_ 30 j_ k_ x_) I_ := fun c_ i_ f_ hc_ => (zset_ne (fun e_ => hc_ ⟨e_.1, by omega, by omega⟩)).trans (h_ c_ i_ f_ hc_)
theorem zfx.trans {K_ J_ I_ : zIn} (h1 : zfx K_ J_) (h2 : zfx J_ I_) : zfx K_ I_ := fun c_ i_ f_ hc_ => (h1 c_ i_ f_ hc_).trans (h2 c_ i_ f_ hc_)
theorem zfx.tr {J_ I_ : zIn} {l : List Nat} (h_ : zfx J_ I_) (hl : zTr I_ l) : zTr J_ l := ⟨(h_ 7 0 42 (by simp)).trans hl.1, hl.2.1, fun k_ s_ hs => ⟨(h_ 30 43 k_ (by simp)).trans (hl.2.2 k_ s_ hs).1, (hl.2.2 k_ s_ hs).2⟩⟩
theorem zfx.mq {J_ I_ : zIn} {q_ : Nat} (h_ : zfx J_ I_) (hq : zMq I_ q_) : zMq J_ q_ := by
  unfold zMq at *
  rw [h_ 30 29 q_ (by simp)]
  exact hq
theorem zfx.kd {J_ I_ : zIn} (h_ : zfx J_ I_) (q_ : Nat) : zmkd J_ q_ = zmkd I_ q_ := by
  unfold zmkd zmrd
  rw [h_ 30 29 q_ (by simp), h_ 30 7 _ (by simp)]
theorem zplm_fx {v_ : Nat} : ∀ (l : List Nat) (k_ : Nat) (lv p_ : Int32) (I_ : zIn), zfx (zplm v_ l k_ lv p_ I_) I_
  | [], _, _, _, _ => zfx.rfl
  | s_ :: r_, k_, lv, p_, I_ => by
    unfold zplm
    refine (zplm_fx r_ (k_ + 1) _ _ _).trans ?_
    unfold zpl1
    split
    · exact (zfx.rfl.set (by decide) (by decide)).set (by decide) (by decide)
    · exact (zfx.rfl.set (by decide) (by decide)).set (by decide) (by decide)
theorem zpln_fx {I_ : zIn} {v_ : Nat} {l : List Nat} : zfx (zpln I_ v_ l) I_ := zplm_fx _ _ _ _ _
def zcpS (v_ : Nat) : Nat → Nat → zIn → zIn
  | 0, _, I_ => I_
  | n_ + 1, k_, I_ => zcpS v_ n_ (k_ + 1) (zset I_ 30 46 k_ (I_ 30 24 (3 * v_ + k_)))
theorem zcpS_fx {v_ : Nat} : ∀ (n_ k_ : Nat) (I_ : zIn), zfx (zcpS v_ n_ k_ I_) I_
  | 0, _, _ => zfx.rfl
  | n_ + 1, k_, I_ => (zcpS_fx n_ (k_ + 1) _).trans (zfx.rfl.set (by decide) (by decide))
def zmba (I_ : zIn) (v_ : Nat) (l : List Nat) : Int32 := I_ 30 45 (l.length - 1) + 2 * zspm (zmpl I_ (l.getLast?.getD 0)) (I_ 30 12 v_)
def zmrE (I_ : zIn) (v_ : Nat) (l : List Nat) : Bool := l.isEmpty || decide (zmba I_ v_ l ≤ 600)
def zmch (I_ : zIn) (s_ : Nat) : Nat := if zmkd I_ (s_ / 2) = 2 then 1 else 0
def zmsA (I_ : zIn) (m_ s_ : Nat) : zIn := if zmkd I_ (s_ / 2) = 2 then zset I_ 30 46 m_ (Int32.ofNat (s_ / 2)) else I_
def zmrP (I_ : zIn) (v_ : Nat) (l : List Nat) (k_ : Nat) (u_ : Int32) (m_ s_ : Nat) : Bool := !zmtl I_ l k_ s_ && (decide (u_ + zmse I_ (s_ / 2) ≤ zmsA I_ m_ s_ 30 13 v_) && decide (Int32.ofNat (m_ + zmch I_ s_) ≤ zmsA I_ m_ s_ 30 14 v_))
def zmrD (I_ : zIn) (l : List Nat) (k_ m_ s_ : Nat) : Bool := !zmtl I_ l k_ s_ && (decide (zmch I_ s_ = 0) || decide (I_ 30 46 (m_ - 1) = Int32.ofNat (s_ / 2)))
def zmrF (v_ : Nat) (l : List Nat) : List Nat → Nat → Int32 → Nat → Bool → zIn → Bool × zIn
  | [], _, _, _, b_, I_ => (b_ && zmrE I_ v_ l, I_)
  | s_ :: r_, k_, u_, m_, b_, I_ =>
    if b_ = false then (false, I_)
    else if s_ % 2 = 0 then zmrF v_ l r_ (k_ + 1) (u_ + zmse I_ (s_ / 2)) (m_ + zmch I_ s_) (zmrP I_ v_ l k_ u_ m_ s_) (zmsA I_ m_ s_)
    else zmrF v_ l r_ (k_ + 1) (u_ - zmse I_ (s_ / 2)) (m_ - zmch I_ s_) (zmrD I_ l k_ m_ s_) I_
def zmrO (I_ : zIn) : List Nat → Nat → Prop
  | [], _ => True
  | s_ :: r_, m_ => if s_ % 2 = 0 then m_ < 24 ∧ zmrO I_ r_ (m_ + zmch I_ s_) else (zmch I_ s_ = 0 ∨ 1 ≤ m_ ∧ m_ ≤ 24) ∧ zmrO I_ r_ (m_ - zmch I_ s_)
theorem zmch_fx {J_ I_ : zIn} (h_ : zfx J_ I_) (s_ : Nat) : zmch J_ s_ = zmch I_ s_ := by
  unfold zmch
  rw [h_.kd]
theorem zmrO_fx {J_ I_ : zIn} (h_ : zfx J_ I_) : ∀ (l : List Nat) (m_ : Nat), zmrO I_ l m_ → zmrO J_ l m_
  | [], _, _ => trivial
  | s_ :: r_, m_, hm_ => by
    unfold zmrO at *
    rw [zmch_fx h_]
    split
    · rename_i hs
      rw [if_pos hs] at hm_
      exact ⟨hm_.1, zmrO_fx h_ r_ _ hm_.2⟩
    · rename_i hs
      rw [if_neg hs] at hm_
      exact ⟨hm_.1, zmrO_fx h_ r_ _ hm_.2⟩
theorem zmsA_fx {I_ : zIn} {m_ s_ : Nat} : zfx (zmsA I_ m_ s_) I_ := by
  unfold zmsA
  split
  · exact zfx.rfl.set (by decide) (by decide)
  · exact zfx.rfl
def zbi (b_ : Bool) : Int32 := if b_ = true then 1 else 0
theorem zm148e {I_ : zIn} {L_ : zLi} {v_ : Nat} {l : List Nat} {b_ : Bool} {k2_ k3_ k5_ k6_ k7_ : Option zW} (hl : zTr I_ l) (hv : v_ < 4) : zY none 6 148 246 [some (zwR 7 0), some (zwI (Int32.ofNat v_)), k2_, k3_, some (zwI (zbi b_)), k5_, k6_, k7_] [] I_ L_ 0 (zRb (b_ && zmrE I_ v_ l, I_, L_)) := by
  have h20 := hl.2.1
  refine zY.go 1 rfl ?_
  cases b_ with
  | false =>
    refine zY.bi rfl (fun _ => ?_) (fun hp => absurd (show zbi false = 0 from rfl) hp)
    refine zY.go 1 rfl ?_
    exact zY.rb rfl rfl (Or.inl rfl) ⟨rfl, rfl, rfl⟩
  | true =>
    refine zY.bi rfl (fun hp => absurd (show (1 : Int32) = 0 from hp) (by decide)) (fun _ => ?_)
    refine zY.go 2 rfl ?_
    show zY _ _ _ _ _ [zwI (I_ 7 0 42)] _ _ _ _
    rw [hl.1]
    refine zY.bi rfl (fun hp => ?_) (fun hp => ?_)
    · have e_ : l.length = 0 := (zof_0 (by omega)).mp hp
      have e2_ : l = [] := List.eq_nil_of_length_eq_zero e_
      subst e2_
      refine zY.go 2 rfl ?_
      exact zY.rb rfl rfl (Or.inr rfl) ⟨rfl, rfl, rfl⟩
    · have hne : l.length ≠ 0 := fun e_ => hp ((zof_0 (by omega)).mpr e_)
      obtain ⟨s_, hs⟩ : ∃ s_, l.getLast? = some s_ := by
        cases hg : l.getLast? with
        | none => exact absurd (by rw [List.getLast?_eq_none_iff.mp hg]; rfl) hne
        | some s_ => exact ⟨s_, rfl⟩
      have eE : zmrE I_ v_ l = decide (zmba I_ v_ l ≤ 600) := by
        unfold zmrE
        cases l with
        | nil => exact absurd rfl hne
        | cons a_ b_ => rfl
      have eB : zmba I_ v_ l = I_ 30 45 (l.length - 1) + 2 * zspm (zmpl I_ s_) (I_ 30 12 v_) := by
        unfold zmba
        rw [hs]
        rfl
      rw [eE, eB]
      refine zY.go 2 rfl ?_
      refine zY.cr (zm156 hl hv hs) rfl rfl rfl rfl (Nat.le_of_ble_eq_true rfl) rfl (by decide) rfl (by decide) (by decide) ?_
      refine zY.go 1 rfl ?_
      refine zY.bc rfl (fun hp2 => ?_) (fun hp2 => ?_)
      · rw [decide_eq_false (Int32.not_le.mpr hp2)]
        refine zY.go 1 rfl ?_
        exact zY.rb rfl rfl (Or.inl rfl) ⟨rfl, rfl, rfl⟩
      · rw [decide_eq_true (Int32.not_lt.mp hp2)]
        refine zY.go 2 rfl ?_
        exact zY.rb rfl rfl (Or.inr rfl) ⟨rfl, rfl, rfl⟩
theorem zm148l (v_ : Nat) (L_ : zLi) (l : List Nat) (hv : v_ < 4) : ∀ (n_ k_ : Nat) (u_ : Int32) (m_ : Nat) (b_ : Bool) (I_ : zIn) (k6_ k7_ : Option zW), n_ + k_ = l.length → zTr I_ l → (∀ s_ ∈ l, zMq I_ (s_ / 2)) → zmrO I_ (l.drop k_) m_ → zY none 6 148 58 [some (zwR 7 0), some (zwI (Int32.ofNat v_)), some (zwI u_), some (zwI (Int32.ofNat m_)), some (zwI (zbi b_)), some (zwI (Int32.ofNat k_)), k6_, k7_] [] I_ L_ 0 (zRb ((zmrF v_ l (l.drop k_) k_ u_ m_ b_ I_).1, (zmrF v_ l (l.drop k_) k_ u_ m_ b_ I_).2, L_))
  | 0, k_, u_, m_, b_, I_, k6_, k7_, hk, hl, hm_, hO => by
    have hl0 := hl
    obtain ⟨h42, h20, _⟩ := hl
    rw [List.drop_of_length_le (by omega)]
    refine zY.go 3 rfl ?_
    show zY _ _ _ _ _ [zwI (I_ 7 0 42), zwI (Int32.ofNat k_)] _ _ _ _
    rw [h42]
    refine zY.bn rfl (by omega) (by omega) (fun _ => ?_) (fun hF => absurd (show l.length ≤ k_ by omega) hF)
    exact zm148e hl0 hv
  | n_ + 1, k_, u_, m_, false, I_, k6_, k7_, hk, hl, hm_, hO => by
    have hl0 := hl
    obtain ⟨h42, h20, hg⟩ := hl
    obtain ⟨s_, hs⟩ : ∃ s_, l[k_]? = some s_ := ⟨_, List.getElem?_eq_getElem (by omega)⟩
    rw [zdrop_cons hs]
    refine zY.go 3 rfl ?_
    show zY _ _ _ _ _ [zwI (I_ 7 0 42), zwI (Int32.ofNat k_)] _ _ _ _
    rw [h42]
    refine zY.bn rfl (by omega) (by omega) (fun hT_ => absurd hT_ (show ¬ l.length ≤ k_ by omega)) (fun _ => ?_)
    refine zY.go 1 rfl ?_
    refine zY.bi rfl (fun _ => ?_) (fun hp => absurd (show zbi false = 0 from rfl) hp)
    exact zm148e (b_ := false) hl0 hv
  | n_ + 1, k_, u_, m_, true, I_, k6_, k7_, hk, hl, hm_, hO => by
    have hl0 := hl
    obtain ⟨h42, h20, hg⟩ := hl
    obtain ⟨s_, hs⟩ : ∃ s_, l[k_]? = some s_ := ⟨_, List.getElem?_eq_getElem (by omega)⟩
    obtain ⟨g1, g2⟩ := hg k_ s_ hs
    obtain ⟨e1_, e2_⟩ := zs2d s_ (by omega)
    rw [zdrop_cons hs] at hO ⊢
    have hmq := hm_ s_ (List.mem_of_getElem? hs)
    have hk43 : k_ < zas30 43 := by show k_ < 20; omega
    have ih_ := fun u' m' b' J_ k6_ k7_ (hJ : zfx J_ I_) => zm148l v_ L_ l hv n_ (k_ + 1) u' m' b' J_ k6_ k7_ (by omega) (hJ.tr hl0) (fun t_ ht => hJ.mq (hm_ t_ ht))
    refine zY.go 3 rfl ?_
    show zY _ _ _ _ _ [zwI (I_ 7 0 42), zwI (Int32.ofNat k_)] _ _ _ _
    rw [h42]
    refine zY.bn rfl (by omega) (by omega) (fun hT_ => absurd hT_ (show ¬ l.length ≤ k_ by omega)) (fun _ => ?_)
    refine zY.go 1 rfl ?_
    refine zY.bi rfl (fun hp => absurd (show (1 : Int32) = 0 from hp) (by decide)) (fun _ => ?_)
    refine zY.go 3 rfl ?_
    refine zY.ai rfl rfl hk43 ?_
    rw [g1]
    refine zY.go 5 rfl ?_
    show zY _ _ _ _ [some (zwR 7 0), some (zwI (Int32.ofNat v_)), some (zwI u_), some (zwI (Int32.ofNat m_)), some (zwI (zbi true)), some (zwI (Int32.ofNat k_)), some (zwI (Int32.ofNat s_ / 2)), k7_] [zwI (Int32.ofNat s_ / 2), zwR 7 0] _ _ _ _
    rw [e1_]
    refine zY.cr (zm142 hmq) rfl rfl rfl rfl (Nat.le_of_ble_eq_true rfl) rfl (by decide) rfl (by decide) (by decide) ?_
    have eF : zmrF v_ l (s_ :: l.drop (k_ + 1)) k_ u_ m_ true I_ = if s_ % 2 = 0 then zmrF v_ l (l.drop (k_ + 1)) (k_ + 1) (u_ + zmse I_ (s_ / 2)) (m_ + zmch I_ s_) (zmrP I_ v_ l k_ u_ m_ s_) (zmsA I_ m_ s_) else zmrF v_ l (l.drop (k_ + 1)) (k_ + 1) (u_ - zmse I_ (s_ / 2)) (m_ - zmch I_ s_) (zmrD I_ l k_ m_ s_) I_ := rfl
    rw [eF]
    unfold zmrO at hO
    have T183 : ∀ (y_ : Int32) (b' : Bool), s_ % 2 = 0 → b' = zmrP I_ v_ l k_ u_ m_ s_ → ∀ k4_ k7_, zY none 6 148 183 [some (zwR 7 0), some (zwI (Int32.ofNat v_)), some (zwI (u_ + zmse I_ (s_ / 2))), some (zwI (Int32.ofNat (m_ + zmch I_ s_))), k4_, some (zwI (Int32.ofNat k_)), some (zwI (Int32.ofNat (s_ / 2))), k7_] [zwI (zbi b')] (zmsA I_ m_ s_) L_ 0 (zRb ((zmrF v_ l (l.drop (k_ + 1)) (k_ + 1) (u_ + zmse I_ (s_ / 2)) (m_ + zmch I_ s_) (zmrP I_ v_ l k_ u_ m_ s_) (zmsA I_ m_ s_)).1, (zmrF v_ l (l.drop (k_ + 1)) (k_ + 1) (u_ + zmse I_ (s_ / 2)) (m_ + zmch I_ s_) (zmrP I_ v_ l k_ u_ m_ s_) (zmsA I_ m_ s_)).2, L_)) := by
      intro y_ b' hs2 hb_ k4_ k7_
      rw [if_pos hs2] at hO
      rw [← hb_]
      have h_ := ih_ (u_ + zmse I_ (s_ / 2)) (m_ + zmch I_ s_) b' (zmsA I_ m_ s_) (some (zwI (Int32.ofNat (s_ / 2)))) k7_ zmsA_fx (zmrO_fx zmsA_fx _ _ hO.2)
      rw [← zisucc] at h_
      refine zY.go 4 rfl ?_
      exact h_
    have T153 : ∀ (t_ : Bool) k7_, s_ % 2 = 0 → t_ = zmtl I_ l k_ s_ → zY none 6 148 153 [some (zwR 7 0), some (zwI (Int32.ofNat v_)), some (zwI (u_ + zmse I_ (s_ / 2))), some (zwI (Int32.ofNat (m_ + zmch I_ s_))), some (zwI (zbi (!t_))), some (zwI (Int32.ofNat k_)), some (zwI (Int32.ofNat (s_ / 2))), k7_] [] (zmsA I_ m_ s_) L_ 0 (zRb ((zmrF v_ l (l.drop (k_ + 1)) (k_ + 1) (u_ + zmse I_ (s_ / 2)) (m_ + zmch I_ s_) (zmrP I_ v_ l k_ u_ m_ s_) (zmsA I_ m_ s_)).1, (zmrF v_ l (l.drop (k_ + 1)) (k_ + 1) (u_ + zmse I_ (s_ / 2)) (m_ + zmch I_ s_) (zmrP I_ v_ l k_ u_ m_ s_) (zmsA I_ m_ s_)).2, L_)) := by
      intro t_ k7_ hs2 ht
      refine zY.go 1 rfl ?_
      cases t_ with
      | true =>
        refine zY.bi rfl (fun _ => ?_) (fun hp => absurd (show zbi false = 0 from rfl) hp)
        refine zY.go 1 rfl ?_
        exact T183 0 false hs2 (by unfold zmrP; rw [← ht]; rfl) _ _
      | false =>
        refine zY.bi rfl (fun hp => absurd (show (1 : Int32) = 0 from hp) (by decide)) (fun _ => ?_)
        refine zY.go 4 rfl ?_
        refine zY.ai rfl rfl hv ?_
        refine zY.bc rfl (fun hp => ?_) (fun hp => ?_)
        · refine zY.go 1 rfl ?_
          exact T183 0 false hs2 (by unfold zmrP; rw [← ht, decide_eq_false (Int32.not_le.mpr hp)]; rfl) _ _
        · refine zY.go 4 rfl ?_
          refine zY.ai rfl rfl hv ?_
          refine zY.bc rfl (fun hp2 => ?_) (fun hp2 => ?_)
          · refine zY.go 1 rfl ?_
            exact T183 0 false hs2 (by unfold zmrP; rw [← ht, decide_eq_true (Int32.not_lt.mp hp), decide_eq_false (Int32.not_le.mpr hp2)]; rfl) _ _
          · refine zY.go 2 rfl ?_
            exact T183 1 true hs2 (by unfold zmrP; rw [← ht, decide_eq_true (Int32.not_lt.mp hp), decide_eq_true (Int32.not_lt.mp hp2)]; rfl) _ _
    have T240 : ∀ (b' : Bool) k7_, ¬ s_ % 2 = 0 → b' = zmrD I_ l k_ m_ s_ → zY none 6 148 240 [some (zwR 7 0), some (zwI (Int32.ofNat v_)), some (zwI (u_ - zmse I_ (s_ / 2))), some (zwI (Int32.ofNat (m_ - zmch I_ s_))), some (zwI (zbi b')), some (zwI (Int32.ofNat k_)), some (zwI (Int32.ofNat (s_ / 2))), k7_] [] I_ L_ 0 (zRb ((zmrF v_ l (l.drop (k_ + 1)) (k_ + 1) (u_ - zmse I_ (s_ / 2)) (m_ - zmch I_ s_) (zmrD I_ l k_ m_ s_) I_).1, (zmrF v_ l (l.drop (k_ + 1)) (k_ + 1) (u_ - zmse I_ (s_ / 2)) (m_ - zmch I_ s_) (zmrD I_ l k_ m_ s_) I_).2, L_)) := by
      intro b' k7_ hs2 hb_
      rw [if_neg hs2] at hO
      rw [← hb_]
      have h_ := ih_ (u_ - zmse I_ (s_ / 2)) (m_ - zmch I_ s_) b' I_ (some (zwI (Int32.ofNat (s_ / 2)))) k7_ zfx.rfl hO.2
      rw [← zisucc] at h_
      refine zY.go 2 rfl ?_
      exact h_
    have T225 : ∀ (b' : Bool) k4_, ¬ s_ % 2 = 0 → b' = zmrD I_ l k_ m_ s_ → zY none 6 148 225 [some (zwR 7 0), some (zwI (Int32.ofNat v_)), some (zwI (u_ - zmse I_ (s_ / 2))), some (zwI (Int32.ofNat m_)), k4_, some (zwI (Int32.ofNat k_)), some (zwI (Int32.ofNat (s_ / 2))), some (zwI (Int32.ofNat (zmch I_ s_)))] [zwI (zbi b')] I_ L_ 0 (zRb ((zmrF v_ l (l.drop (k_ + 1)) (k_ + 1) (u_ - zmse I_ (s_ / 2)) (m_ - zmch I_ s_) (zmrD I_ l k_ m_ s_) I_).1, (zmrF v_ l (l.drop (k_ + 1)) (k_ + 1) (u_ - zmse I_ (s_ / 2)) (m_ - zmch I_ s_) (zmrD I_ l k_ m_ s_) I_).2, L_)) := by
      intro b' k4_ hs2 hb_
      have hT_ := T240 b' (some (zwI (Int32.ofNat (zmch I_ s_)))) hs2 hb_
      rw [if_neg hs2] at hO
      refine zY.go 3 rfl ?_
      by_cases hc_ : zmkd I_ (s_ / 2) = 2
      · have ec : zmch I_ s_ = 1 := if_pos hc_
        have hm1 : 1 ≤ m_ := by
          rcases hO.1 with h_ | h_
          · omega
          · exact h_.1
        rw [ec] at hT_ ⊢
        rw [← zisubn hm1] at hT_
        refine zY.bi rfl (fun hp => absurd (show (1 : Int32) = 0 from hp) (by decide)) (fun _ => ?_)
        refine zY.go 4 rfl ?_
        exact hT_
      · have ec : zmch I_ s_ = 0 := if_neg hc_
        rw [ec] at hT_ ⊢
        rw [← zisubn (Nat.zero_le m_)] at hT_
        refine zY.bi rfl (fun _ => ?_) (fun hp => absurd (show (0 : Int32) = 0 from rfl) hp)
        refine zY.go 3 rfl ?_
        exact hT_
    have T114 : ∀ (t_ : Bool) k4_, t_ = zmtl I_ l k_ s_ → zY none 6 148 114 [some (zwR 7 0), some (zwI (Int32.ofNat v_)), some (zwI u_), some (zwI (Int32.ofNat m_)), k4_, some (zwI (Int32.ofNat k_)), some (zwI (Int32.ofNat (s_ / 2))), some (zwI (Int32.ofNat (zmch I_ s_)))] [zwI (zbi (!t_))] I_ L_ 0 (zRb ((if s_ % 2 = 0 then zmrF v_ l (l.drop (k_ + 1)) (k_ + 1) (u_ + zmse I_ (s_ / 2)) (m_ + zmch I_ s_) (zmrP I_ v_ l k_ u_ m_ s_) (zmsA I_ m_ s_) else zmrF v_ l (l.drop (k_ + 1)) (k_ + 1) (u_ - zmse I_ (s_ / 2)) (m_ - zmch I_ s_) (zmrD I_ l k_ m_ s_) I_).1, (if s_ % 2 = 0 then zmrF v_ l (l.drop (k_ + 1)) (k_ + 1) (u_ + zmse I_ (s_ / 2)) (m_ + zmch I_ s_) (zmrP I_ v_ l k_ u_ m_ s_) (zmsA I_ m_ s_) else zmrF v_ l (l.drop (k_ + 1)) (k_ + 1) (u_ - zmse I_ (s_ / 2)) (m_ - zmch I_ s_) (zmrD I_ l k_ m_ s_) I_).2, L_)) := by
      intro t_ k4_ ht
      refine zY.go 4 rfl ?_
      refine zY.ai rfl rfl hk43 ?_
      rw [g1]
      refine zY.go 2 rfl ?_
      show zY _ _ _ _ _ [zwI (Int32.ofNat s_ - Int32.ofNat s_ / 2 * 2)] _ _ _ _
      rw [e2_]
      refine zY.bi rfl (fun hp => ?_) (fun hp => ?_)
      · have hs2 : ¬ s_ % 2 = 0 := fun h_ => hp (zpar_0.mpr h_)
        have hO2 := hO
        rw [if_neg hs2] at hO2
        rw [if_neg hs2]
        refine zY.go 3 rfl ?_
        refine zY.cr (zm155 hmq) rfl rfl rfl rfl (Nat.le_of_ble_eq_true rfl) rfl (by decide) rfl (by decide) (by decide) ?_
        refine zY.go 3 rfl ?_
        cases t_ with
        | true =>
          refine zY.bi rfl (fun _ => ?_) (fun hp => absurd (show zbi false = 0 from rfl) hp)
          refine zY.go 1 rfl ?_
          exact T225 false _ hs2 (by unfold zmrD; rw [← ht]; rfl)
        | false =>
          refine zY.bi rfl (fun hp => absurd (show (1 : Int32) = 0 from hp) (by decide)) (fun _ => ?_)
          refine zY.go 1 rfl ?_
          by_cases hc_ : zmkd I_ (s_ / 2) = 2
          · have ec : zmch I_ s_ = 1 := if_pos hc_
            have hm1 : 1 ≤ m_ ∧ m_ ≤ 24 := by
              rcases hO2.1 with h_ | h_
              · omega
              · exact h_
            have hm46 : m_ - 1 < zas30 46 := by show m_ - 1 < 24; omega
            have T225' := T225
            rw [ec] at T225' ⊢
            refine zY.bi rfl (fun hp => absurd (show (1 : Int32) = 0 from hp) (by decide)) (fun _ => ?_)
            refine zY.go 5 rfl ?_
            show zY _ _ _ _ _ [zwI (Int32.ofNat m_ - Int32.ofNat 1), zwR 30 46] _ _ _ _
            rw [zisubn hm1.1]
            refine zY.ai rfl rfl hm46 ?_
            refine zY.go 1 rfl ?_
            refine zY.bc rfl (fun hp2 => ?_) (fun hp2 => ?_)
            · refine zY.go 1 rfl ?_
              exact T225' false _ hs2 (by unfold zmrD; rw [← ht, ec, decide_eq_false (show ¬ I_ 30 46 (m_ - 1) = Int32.ofNat (s_ / 2) from hp2)]; rfl)
            · refine zY.go 2 rfl ?_
              exact T225' true _ hs2 (by unfold zmrD; rw [← ht, ec, decide_eq_true (show I_ 30 46 (m_ - 1) = Int32.ofNat (s_ / 2) from Decidable.byContradiction hp2)]; rfl)
          · have ec : zmch I_ s_ = 0 := if_neg hc_
            have T225' := T225
            rw [ec] at T225' ⊢
            refine zY.bi rfl (fun _ => ?_) (fun hp => absurd (show (0 : Int32) = 0 from rfl) hp)
            refine zY.go 2 rfl ?_
            exact T225' true _ hs2 (by unfold zmrD; rw [← ht, ec]; rfl)
      · have hs2 : s_ % 2 = 0 := zpar_0.mp (Decidable.byContradiction hp)
        have hO2 := hO
        rw [if_pos hs2] at hO2
        rw [if_pos hs2]
        refine zY.go 3 rfl ?_
        refine zY.cr (zm155 hmq) rfl rfl rfl rfl (Nat.le_of_ble_eq_true rfl) rfl (by decide) rfl (by decide) (by decide) ?_
        refine zY.go 3 rfl ?_
        by_cases hc_ : zmkd I_ (s_ / 2) = 2
        · have ec : zmch I_ s_ = 1 := if_pos hc_
          have eA_ : zmsA I_ m_ s_ = zset I_ 30 46 m_ (Int32.ofNat (s_ / 2)) := if_pos hc_
          have hm46 : m_ < zas30 46 := hO2.1
          have hT_ := T153 t_ (some (zwI (Int32.ofNat (zmch I_ s_)))) hs2 ht
          rw [eA_, ec] at hT_
          rw [eA_, ec]
          rw [← zisucc] at hT_
          refine zY.bi rfl (fun hp => absurd (show (1 : Int32) = 0 from hp) (by decide)) (fun _ => ?_)
          refine zY.go 4 rfl ?_
          refine zY.si rfl rfl hm46 ?_
          refine zY.go 1 rfl ?_
          exact hT_
        · have ec : zmch I_ s_ = 0 := if_neg hc_
          have eA_ : zmsA I_ m_ s_ = I_ := if_neg hc_
          have hT_ := T153 t_ (some (zwI (Int32.ofNat (zmch I_ s_)))) hs2 ht
          rw [eA_, ec] at hT_
          rw [eA_, ec]
          refine zY.bi rfl (fun _ => ?_) (fun hp => absurd (show (0 : Int32) = 0 from rfl) hp)
          exact hT_
    have T98 : ∀ (c_ : Nat), c_ = zmch I_ s_ → zY none 6 148 98 [some (zwR 7 0), some (zwI (Int32.ofNat v_)), some (zwI u_), some (zwI (Int32.ofNat m_)), some (zwI (zbi true)), some (zwI (Int32.ofNat k_)), some (zwI (Int32.ofNat (s_ / 2))), k7_] [zwI (Int32.ofNat c_)] I_ L_ 0 (zRb ((if s_ % 2 = 0 then zmrF v_ l (l.drop (k_ + 1)) (k_ + 1) (u_ + zmse I_ (s_ / 2)) (m_ + zmch I_ s_) (zmrP I_ v_ l k_ u_ m_ s_) (zmsA I_ m_ s_) else zmrF v_ l (l.drop (k_ + 1)) (k_ + 1) (u_ - zmse I_ (s_ / 2)) (m_ - zmch I_ s_) (zmrD I_ l k_ m_ s_) I_).1, (if s_ % 2 = 0 then zmrF v_ l (l.drop (k_ + 1)) (k_ + 1) (u_ + zmse I_ (s_ / 2)) (m_ + zmch I_ s_) (zmrP I_ v_ l k_ u_ m_ s_) (zmsA I_ m_ s_) else zmrF v_ l (l.drop (k_ + 1)) (k_ + 1) (u_ - zmse I_ (s_ / 2)) (m_ - zmch I_ s_) (zmrD I_ l k_ m_ s_) I_).2, L_)) := by
      intro c_ hc_
      refine zY.go 3 rfl ?_
      refine zY.cr (zm151 hl0 hs) rfl rfl rfl rfl (Nat.le_of_ble_eq_true rfl) rfl (by decide) rfl (by decide) (by decide) ?_
      cases ht : zmtl I_ l k_ s_ with
      | true =>
        refine zY.bi rfl (fun _ => ?_) (fun hp => absurd (show (1 : Int32) = 0 from Decidable.byContradiction hp) (by decide))
        refine zY.go 1 rfl ?_
        rw [hc_]
        exact T114 true _ ht.symm
      | false =>
        refine zY.bi rfl (fun hp => absurd (show (0 : Int32) = 0 from rfl) hp) (fun _ => ?_)
        refine zY.go 2 rfl ?_
        rw [hc_]
        exact T114 false _ ht.symm
    refine zY.go 1 rfl ?_
    refine zY.bc rfl (fun hp => ?_) (fun hp => ?_)
    · refine zY.go 1 rfl ?_
      exact T98 0 (if_neg hp).symm
    · refine zY.go 2 rfl ?_
      exact T98 1 (if_pos (Decidable.byContradiction hp)).symm
theorem z3k {v_ k_ : Nat} : 3 * Int32.ofNat v_ + Int32.ofNat k_ = Int32.ofNat (3 * v_ + k_) := by rw [Int32.ofNat_add, Int32.ofNat_mul]; rfl
theorem zm148c (v_ : Nat) (L_ : zLi) (l : List Nat) (hv : v_ < 4) (u_ : Int32) (m_ : Nat) (hm3 : m_ ≤ 3) : ∀ (n_ k_ : Nat) (I_ : zIn) (k6_ k7_ : Option zW), n_ + k_ = m_ → zTr I_ l → (∀ s_ ∈ l, zMq I_ (s_ / 2)) → zmrO I_ l m_ → zY none 6 148 25 [some (zwR 7 0), some (zwI (Int32.ofNat v_)), some (zwI u_), some (zwI (Int32.ofNat m_)), some (zwI (zbi true)), some (zwI (Int32.ofNat k_)), k6_, k7_] [] I_ L_ 0 (zRb ((zmrF v_ l l 0 u_ m_ true (zcpS v_ n_ k_ I_)).1, (zmrF v_ l l 0 u_ m_ true (zcpS v_ n_ k_ I_)).2, L_))
  | 0, k_, I_, k6_, k7_, hk, hl, hm_, hO => by
    refine zY.go 2 rfl ?_
    refine zY.bn rfl (by omega) (by omega) (fun _ => ?_) (fun hF => absurd (show m_ ≤ k_ by omega) hF)
    refine zY.go 2 rfl ?_
    exact zm148l v_ L_ l hv l.length 0 u_ m_ true I_ _ _ (by omega) hl hm_ hO
  | n_ + 1, k_, I_, k6_, k7_, hk, hl, hm_, hO => by
    have h24 : 3 * v_ + k_ < zas30 24 := by show 3 * v_ + k_ < 12; omega
    have h46 : k_ < zas30 46 := by show k_ < 24; omega
    have hf : zfx (zset I_ 30 46 k_ (I_ 30 24 (3 * v_ + k_))) I_ := zfx.rfl.set (by decide) (by decide)
    have h_ := zm148c v_ L_ l hv u_ m_ hm3 n_ (k_ + 1) (zset I_ 30 46 k_ (I_ 30 24 (3 * v_ + k_))) k6_ k7_ (by omega) (hf.tr hl) (fun t_ ht => hf.mq (hm_ t_ ht)) (zmrO_fx hf _ _ hO)
    refine zY.go 2 rfl ?_
    refine zY.bn rfl (by omega) (by omega) (fun hT_ => absurd hT_ (show ¬ m_ ≤ k_ by omega)) (fun _ => ?_)
    refine zY.go 10 rfl ?_
    refine zY.ai rfl (z3k (v_ := v_) (k_ := k_)) h24 ?_
    refine zY.si rfl rfl h46 ?_
    rw [← zisucc] at h_
    refine zY.go 2 rfl ?_
    exact h_
def zmrT (I_ : zIn) (v_ : Nat) (l : List Nat) (m_ : Nat) : Bool × zIn := zmrF v_ l l 0 (zpln I_ v_ l 30 23 v_) m_ true (zcpS v_ m_ 0 (zpln I_ v_ l))
theorem zm148 {I_ : zIn} {L_ : zLi} {v_ m_ : Nat} {l : List Nat} (hl : zTr I_ l) (hv : v_ < 4) (hm_ : ∀ s_ ∈ l, zMq I_ (s_ / 2)) (hc_ : I_ 30 25 v_ = Int32.ofNat m_) (hm3 : m_ ≤ 3) (hO : zmrO I_ l m_) : zYm 6 148 [zwR 7 0, zwI (Int32.ofNat v_)] I_ L_ 0 (zRb ((zmrT I_ v_ l m_).1, (zmrT I_ v_ l m_).2, L_)) := by
  have hf : zfx (zpln I_ v_ l) I_ := zpln_fx
  refine zYm.of (Nat.le_of_ble_eq_true rfl) rfl ?_
  refine zY.go 2 rfl ?_
  refine zY.cr (zm149 hl hv hm_) rfl rfl rfl rfl (Nat.le_of_ble_eq_true rfl) rfl (by decide) rfl (by decide) (by decide) ?_
  refine zY.go 3 rfl ?_
  refine zY.ai rfl rfl hv ?_
  refine zY.go 4 rfl ?_
  refine zY.ai rfl rfl hv ?_
  rw [hf 30 25 v_ (by simp), hc_]
  refine zY.go 5 rfl ?_
  exact zm148c v_ L_ l hv _ m_ hm3 m_ 0 (zpln I_ v_ l) _ _ (by omega) (hf.tr hl) (fun t_ ht => hf.mq (hm_ t_ ht)) (zmrO_fx hf _ _ hO)
