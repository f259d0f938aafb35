/-! THE LAW'S isSo: who is aboard, one by one -/
abbrev zlS6 (v_ M_ j_ : Nat) (x11 x12 x13 x14 x15 x16 x17 x18 x19 x20 x21 x22 x23 x24 x25 x26 x27 x28 x29 x30 x31 x32 : Option zW) : zWs := [some (zwR 6 0), some (zwI (Int32.ofNat v_)), some (zwI (Int32.ofNat M_)), some (zwR 30 63), some (zwR 30 64), some (zwR 30 65), some (zwR 30 60), some (zwR 30 61), some (zwR 30 66), some (zwR 30 (100 + 2 * j_)), some (zwR 30 (101 + 2 * j_)), x11, x12, x13, x14, x15, x16, x17, x18, x19, x20, x21, x22, x23, x24, x25, x26, x27, x28, x29, x30, x31, x32]
def zenc : Option Nat → Int32
  | none => -1
  | some q_ => Int32.ofNat q_
theorem zenc_lt {o : Option Nat} (h_ : ∀ q_, o = some q_ → q_ < 1000) : zenc o < 0 ↔ o = none := by
  cases o with
  | none => exact ⟨fun _ => rfl, fun _ => by decide⟩
  | some q_ => exact ⟨fun e_ => absurd e_ (Int32.not_lt.mpr (zige (by have := h_ q_ rfl; omega))), fun e_ => by cases e_⟩
/-- the state of the class stays, but for what plans and searches work with, and the law's own rows -/
def zSo (I_ : zIn) (L_ : zLi) (I' : zIn) (L' : zLi) : Prop := (∀ c_ i_ f_, ¬ c_ = 0 → ¬ c_ = 3 → ¬ c_ = 30 → ¬ (c_ = 1 ∧ f_ = 9) → ¬ (c_ = 4 ∧ (f_ = 3 ∨ f_ = 4)) → ¬ (c_ = 99 ∧ i_ = 30) → I' c_ i_ f_ = I_ c_ i_ f_) ∧ (∀ s_ ∈ zzZ I_ L_ 2, ∀ f_, I' 4 s_ f_ = I_ 4 s_ f_) ∧ ∀ c_ i_, ¬ (c_ = 27 ∧ i_ < 2) → L' c_ i_ = L_ c_ i_
theorem zSo.rfl {I_ : zIn} {L_ : zLi} : zSo I_ L_ I_ L_ := ⟨fun _ _ _ _ _ _ _ _ _ => Eq.refl _, fun _ _ _ => Eq.refl _, fun _ _ _ => Eq.refl _⟩
section
variable {I_ I' I2_ : zIn} {L_ L' L2_ : zLi}
theorem zSo.a1 (h_ : zSo I_ L_ I' L') (q_ : Nat) {f_ : Nat} (hf : ¬ f_ = 9) : I' 1 q_ f_ = I_ 1 q_ f_ := h_.1 1 q_ f_ (by omega) (by omega) (by omega) (by omega) (by omega) (by omega)
theorem zSo.a2 (h_ : zSo I_ L_ I' L') (q_ f_ : Nat) : I' 2 q_ f_ = I_ 2 q_ f_ := h_.1 2 q_ f_ (by omega) (by omega) (by omega) (by omega) (by omega) (by omega)
theorem zSo.a5 (h_ : zSo I_ L_ I' L') (q_ f_ : Nat) : I' 5 q_ f_ = I_ 5 q_ f_ := h_.1 5 q_ f_ (by omega) (by omega) (by omega) (by omega) (by omega) (by omega)
theorem zSo.a6 (h_ : zSo I_ L_ I' L') (q_ f_ : Nat) : I' 6 q_ f_ = I_ 6 q_ f_ := h_.1 6 q_ f_ (by omega) (by omega) (by omega) (by omega) (by omega) (by omega)
theorem zSo.a31 (h_ : zSo I_ L_ I' L') (q_ f_ : Nat) : I' 31 q_ f_ = I_ 31 q_ f_ := h_.1 31 q_ f_ (by omega) (by omega) (by omega) (by omega) (by omega) (by omega)
theorem zSo.a24 (h_ : zSo I_ L_ I' L') (v_ : Nat) : L' 24 v_ = L_ 24 v_ := h_.2.2 24 v_ (by omega)
theorem zSo.a26 (h_ : zSo I_ L_ I' L') (v_ : Nat) : L' 26 v_ = L_ 26 v_ := h_.2.2 26 v_ (by omega)
theorem zSo.Z (h_ : zSo I_ L_ I' L') : zzZ I' L' 2 = zzZ I_ L_ 2 := by
  unfold zzZ
  refine congrArg (fun f_ => (List.range 2).flatMap f_) (funext fun v_ => ?_)
  rw [h_.a5, h_.a24]
theorem zSo.trans (h1 : zSo I_ L_ I' L') (h2 : zSo I' L' I2_ L2_) : zSo I_ L_ I2_ L2_ := ⟨fun c_ i_ f_ a_ b_ d_ e_ g_ k_ => (h2.1 c_ i_ f_ a_ b_ d_ e_ g_ k_).trans (h1.1 c_ i_ f_ a_ b_ d_ e_ g_ k_), fun s_ hs f_ => (h2.2.1 s_ (h1.Z ▸ hs) f_).trans (h1.2.1 s_ hs f_), fun c_ i_ h_ => (h2.2.2 c_ i_ h_).trans (h1.2.2 c_ i_ h_)⟩
theorem zSo.R {D_ : zIn} {p_ M_ : Nat} (h_ : zSo I_ L_ I' L') (hR : zzR I_ L_ D_ p_ 2 M_) : zzR I' L' D_ p_ 2 M_ := hR.cg ⟨fun c_ i_ f_ hc_ h1 h4 => h_.1 c_ i_ f_ (by omega) (by omega) (by omega) h1 h4 (by omega), h_.2.1⟩ zzm.rfl (fun c_ i_ _ h27 => h_.2.2 c_ i_ h27)
theorem zSq.o (h_ : zSq I_ L_ I' L') : zSo I_ L_ I' L' := ⟨fun c_ i_ f_ a_ b_ d_ e_ g_ k_ => h_.1.1 c_ i_ f_ ⟨a_, b_, e_, g_⟩, h_.1.2, h_.2⟩
theorem zSo.set {p_ k_ : Nat} {x_ : Int32} : zSo I_ L_ (zset I_ 30 p_ k_ x_) L_ := ⟨fun c_ i_ f_ a_ b_ d_ e_ g_ k_ => zset_ne (by omega), fun s_ _ f_ => zset_ne (by omega), fun _ _ _ => Eq.refl _⟩
theorem zSo.new {p_ : Nat} {r_ : Nat → Int32} : zSo I_ L_ (znwI I_ 30 p_ r_) L_ := by
  refine ⟨fun c_ i_ f_ a_ b_ d_ e_ g_ k_ => ?_, fun s_ _ f_ => ?_, fun _ _ _ => Eq.refl _⟩
  · unfold znwI
    by_cases h_ : c_ = 99
    · rw [if_pos h_, if_neg (by omega), h_]
    · rw [if_neg h_, if_neg (by omega)]
  · unfold znwI
    rw [if_neg (by omega), if_neg (by omega)]
theorem zSq.a30 (h_ : zSq I_ L_ I' L') (i_ f_ : Nat) : I' 30 i_ f_ = I_ 30 i_ f_ ∧ I' 99 30 i_ = I_ 99 30 i_ := ⟨h_.1.1 30 i_ f_ ⟨by omega, by omega, by omega, by omega⟩, h_.1.1 99 30 i_ ⟨by omega, by omega, by omega, by omega⟩⟩
end
section
variable {I_ : zIn} {L_ : zLi} {D_ : zIn} {p_ M_ v_ j_ : Nat} {a_ : Nat} {Q_ : zPost}
theorem zq62 {r_ : Nat} (k_ : Nat) (h_ : zzR I_ L_ D_ p_ 2 M_) (hr : r_ < M_) (hk : k_ ≤ 10) : zYm 4 62 [zwR 6 0, zwI (Int32.ofNat r_), zwI (Int32.ofNat k_)] I_ L_ 0 (zRet (some (zwI (zrtl (I_ 1 r_) k_))) I_ L_) := zm62t (zq22 h_ hr) hk
variable {x11 x12 x13 x14 x15 x16 x17 x18 x19 x20 x23 x24 x25 x26 x27 x28 x29 x30 x31 x32 : Option zW}
theorem zoB {x_ : Int32} {rid : Bool} {k_ : Nat} {o : Option Nat} (h_ : zzR I_ L_ D_ p_ 2 M_) (hk : k_ < M_) (ho : ∀ q_, o = some q_ → q_ < M_)
    (hX : zY none 18 126 92 (zlS6 v_ M_ j_ x11 x12 x13 x14 x15 x16 x17 x18 x19 (some (zwI x_)) (some (zwI (zenc (if (rid && zbef I_ k_ o) = true then some k_ else o)))) (some (zwI (Int32.ofNat (k_ + 1)))) (some (zwI (if rid = true then 1 else 0))) x24 x25 x26 x27 x28 x29 x30 x31 x32) [] I_ L_ a_ Q_) : zY none 18 126 137 (zlS6 v_ M_ j_ x11 x12 x13 x14 x15 x16 x17 x18 x19 (some (zwI x_)) (some (zwI (zenc o))) (some (zwI (Int32.ofNat k_))) x23 x24 x25 x26 x27 x28 x29 x30 x31 x32) [zwI (if rid = true then 1 else 0)] I_ L_ a_ Q_ := by
  have hM_ := h_.1.2.2.2.2.2.2.2.1
  rw [← zisucc] at hX
  refine zY.go 2 rfl ?_
  refine zY.we rfl (fun hb_ => ?_) (fun hb_ => ?_)
  · subst hb_
    refine zY.go 4 rfl ?_
    exact hX
  · subst hb_
    refine zY.go 1 rfl ?_
    cases o with
    | none =>
      refine zY.bi rfl (fun _ => ?_) (fun hp => absurd (show (-1 : Int32) < 0 by decide) hp)
      refine zY.go 5 rfl ?_
      exact hX
    | some q_ =>
      have hq := ho q_ rfl
      refine zY.bi rfl (fun hp => absurd hp (Int32.not_lt.mpr (zige (by omega)))) (fun _ => ?_)
      refine zY.go 3 rfl ?_
      refine zY.cr (zq62 5 h_ hk (by decide)) rfl rfl rfl rfl (Nat.le_of_ble_eq_true rfl) rfl (by decide) rfl (by decide) (Nat.zero_le _) ?_
      refine zY.go 3 rfl ?_
      refine zY.cr (zq62 5 h_ hq (by decide)) rfl rfl rfl rfl (Nat.le_of_ble_eq_true rfl) rfl (by decide) rfl (by decide) (Nat.zero_le _) ?_
      refine zY.bc rfl (fun hp => ?_) (fun hp => ?_)
      · have hb_ : zbef I_ k_ (some q_) = false := decide_eq_false (Int32.not_lt.mpr hp)
        rw [hb_] at hX
        refine zY.go 4 rfl ?_
        exact hX
      · have hb_ : zbef I_ k_ (some q_) = true := decide_eq_true (Int32.not_le.mp hp)
        rw [hb_] at hX
        refine zY.go 5 rfl ?_
        exact hX
theorem zoS {x_ : Int32} (h_ : zzR I_ L_ D_ p_ 2 M_) (hv : v_ < 2) : ∀ (n_ k_ : Nat) (o : Option Nat) (x23 : Option zW), n_ + k_ = M_ → (∀ q_, o = some q_ → q_ < k_) → (∀ x23, zY none 18 126 181 (zlS6 v_ M_ j_ x11 x12 x13 x14 x15 x16 x17 x18 x19 (some (zwI x_)) (some (zwI (zenc (zsel I_ v_ x_ n_ k_ o)))) (some (zwI (Int32.ofNat M_))) x23 x24 x25 x26 x27 x28 x29 x30 x31 x32) [] I_ L_ a_ Q_) → zY none 18 126 92 (zlS6 v_ M_ j_ x11 x12 x13 x14 x15 x16 x17 x18 x19 (some (zwI x_)) (some (zwI (zenc o))) (some (zwI (Int32.ofNat k_))) x23 x24 x25 x26 x27 x28 x29 x30 x31 x32) [] I_ L_ a_ Q_
  | 0, k_, o, x23, hk, ho, hX => by
    have hM_ := h_.1.2.2.2.2.2.2.2.1
    have e_ : k_ = M_ := by omega
    subst e_
    refine zY.go 2 rfl ?_
    refine zY.bn rfl (by omega) (by omega) (fun _ => hX x23) (fun hF => absurd (Nat.le_refl k_) hF)
  | n_ + 1, k_, o, x23, hk, ho, hX => by
    have hM_ := h_.1.2.2.2.2.2.2.2.1
    have hkM : k_ < M_ := by omega
    have fin_ : ∀ (rid : Bool) (x23 : Option zW), zrid I_ v_ x_ k_ = rid → zY none 18 126 137 (zlS6 v_ M_ j_ x11 x12 x13 x14 x15 x16 x17 x18 x19 (some (zwI x_)) (some (zwI (zenc o))) (some (zwI (Int32.ofNat k_))) x23 x24 x25 x26 x27 x28 x29 x30 x31 x32) [zwI (if rid = true then 1 else 0)] I_ L_ a_ Q_ := fun rid x23 e_ => by
      refine zoB h_ hkM (fun q_ e_ => by have := ho q_ e_; omega) ?_
      refine zoS h_ hv n_ (k_ + 1) _ _ (by omega) (fun q_ e2_ => ?_) (fun x23 => ?_)
      · split at e2_
        · cases e2_; omega
        · have := ho q_ e2_; omega
      · have := hX x23
        unfold zsel at this
        rw [e_] at this
        exact this
    refine zY.go 2 rfl ?_
    refine zY.bn rfl (by omega) (by omega) (fun hT_ => absurd hT_ (show ¬ M_ ≤ k_ by omega)) (fun _ => ?_)
    refine zY.go 3 rfl ?_
    refine zY.cr (zq62 0 h_ hkM (by decide)) rfl rfl rfl rfl (Nat.le_of_ble_eq_true rfl) rfl (by decide) rfl (by decide) (Nat.zero_le _) ?_
    refine zY.go 1 rfl ?_
    refine zY.bc rfl (fun hp => ?_) (fun hp => ?_)
    · refine zY.go 1 rfl ?_
      exact fin_ false _ (by unfold zrid; rw [decide_eq_false (show ¬ I_ 1 k_ 5 = 1 from hp)]; rfl)
    · have e1_ : I_ 1 k_ 5 = 1 := Classical.not_not.mp hp
      refine zY.go 3 rfl ?_
      refine zY.cr (zq62 3 h_ hkM (by decide)) rfl rfl rfl rfl (Nat.le_of_ble_eq_true rfl) rfl (by decide) rfl (by decide) (Nat.zero_le _) ?_
      refine zY.go 1 rfl ?_
      refine zY.bc rfl (fun hp => ?_) (fun hp => ?_)
      · refine zY.go 1 rfl ?_
        exact fin_ false _ (by unfold zrid; rw [decide_eq_false (show ¬ I_ 1 k_ 8 = Int32.ofNat v_ from hp), Bool.false_and, Bool.and_false])
      · have e2_ : I_ 1 k_ 8 = Int32.ofNat v_ := Classical.not_not.mp hp
        refine zY.go 3 rfl ?_
        refine zY.cr (zq62 5 h_ hkM (by decide)) rfl rfl rfl rfl (Nat.le_of_ble_eq_true rfl) rfl (by decide) rfl (by decide) (Nat.zero_le _) ?_
        refine zY.go 1 rfl ?_
        refine zY.bc rfl (fun hp => ?_) (fun hp => ?_)
        · refine zY.go 1 rfl ?_
          exact fin_ false _ (by unfold zrid; rw [decide_eq_false (show ¬ x_ < I_ 1 k_ 11 from Int32.not_lt.mpr hp), Bool.and_false, Bool.and_false])
        · refine zY.go 2 rfl ?_
          exact fin_ true _ (by unfold zrid; rw [decide_eq_true e1_, decide_eq_true e2_, decide_eq_true (show x_ < I_ 1 k_ 11 from Int32.not_le.mp hp)]; rfl)
end
