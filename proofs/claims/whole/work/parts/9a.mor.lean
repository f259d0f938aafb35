/-! CONTRACTS OF THE MODEL: order -/
theorem zidv {a_ b_ : Nat} (ha_ : a_ < 100000) (hb_ : b_ < 100000) : Int32.ofNat a_ / Int32.ofNat b_ = Int32.ofNat (a_ / b_) := by
  have hq : a_ / b_ ≤ a_ := Nat.div_le_self a_ b_
  apply Int32.toInt_inj.mp
  rw [Int32.toInt_div, Int32.toInt_ofNat_of_lt (by omega), Int32.toInt_ofNat_of_lt (by omega), Int32.toInt_ofNat_of_lt (by omega), ← Int.ofNat_tdiv]
  generalize a_ / b_ = q_ at hq ⊢
  exact Int.bmod_eq_of_le (by omega) (by omega)
theorem zirm {a_ b_ : Nat} (ha_ : a_ < 100000) (hb_ : b_ < 100000) : Int32.ofNat a_ - Int32.ofNat a_ / Int32.ofNat b_ * Int32.ofNat b_ = Int32.ofNat (a_ % b_) := by
  rw [zidv ha_ hb_, ← Int32.ofNat_mul, ← Int32.ofNat_sub _ _ (Nat.div_mul_le_self a_ b_), Nat.mod_eq_sub_div_mul]
section
variable {sc_ : zScr} {d_ m_ pc len_ a_ b0 : Nat} {ls : zWs} {rest_ : List zW} {I_ : zIn} {L_ : zLi} {Q_ : zPost} {imm_ : Int32} {q_ : Nat} {x_ y_ : Int32}
theorem zY.dv (hk : zcode m_ pc = some (.idiv, len_, imm_, q_, b0)) (hy : ¬ y_ = 0) (hY : zY sc_ (d_ + 1) m_ (pc + len_) ls (zwI (x_ / y_) :: rest_) I_ L_ a_ Q_) : zY sc_ (d_ + 1) m_ pc ls (zwI y_ :: zwI x_ :: rest_) I_ L_ a_ Q_ := by
  refine zY.go 1 ?_ hY
  have e_ : zpW .idiv imm_ ls (zwI y_ :: zwI x_ :: rest_) = some (ls, zwI (x_ / y_) :: rest_) := if_neg hy
  unfold zgo
  rw [hk]
  show (match zpW .idiv imm_ ls (zwI y_ :: zwI x_ :: rest_) with
        | none => none
        | some (ls', st') => zgo 0 m_ (pc + len_) ls' st' I_ L_) = _
  rw [e_]; rfl
theorem zY.rm (hk : zcode m_ pc = some (.irem, len_, imm_, q_, b0)) (hy : ¬ y_ = 0) (hY : zY sc_ (d_ + 1) m_ (pc + len_) ls (zwI (x_ - x_ / y_ * y_) :: rest_) I_ L_ a_ Q_) : zY sc_ (d_ + 1) m_ pc ls (zwI y_ :: zwI x_ :: rest_) I_ L_ a_ Q_ := by
  refine zY.go 1 ?_ hY
  have e_ : zpW .irem imm_ ls (zwI y_ :: zwI x_ :: rest_) = some (ls, zwI (x_ - x_ / y_ * y_) :: rest_) := if_neg hy
  unfold zgo
  rw [hk]
  show (match zpW .irem imm_ ls (zwI y_ :: zwI x_ :: rest_) with
        | none => none
        | some (ls', st') => zgo 0 m_ (pc + len_) ls' st' I_ L_) = _
  rw [e_]; rfl
end
/-- the order of a number -/
def zord : Nat → Nat → List Nat → List Nat
  | 0, _, _ => []
  | n_ + 1, c_, l => match l[c_ % (n_ + 1)]? with
    | none => []
    | some s_ => s_ :: zord n_ (c_ / (n_ + 1)) (l.eraseIdx (c_ % (n_ + 1)))
def zfd (J_ I_ : zIn) : Prop := ∀ c_ i_ f_, ¬ (c_ = 30 ∧ (i_ = 43 ∨ i_ = 51)) → ¬ (c_ = 7 ∧ i_ = 0 ∧ f_ = 42) → J_ c_ i_ f_ = I_ c_ i_ f_
theorem zfd.rfl {I_ : zIn} : zfd I_ I_ := fun _ _ _ _ _ => Eq.refl _
theorem zfd.trans {K_ J_ I_ : zIn} (h1 : zfd K_ J_) (h2 : zfd J_ I_) : zfd K_ I_ := fun c_ i_ f_ a_ b_ => (h1 c_ i_ f_ a_ b_).trans (h2 c_ i_ f_ a_ b_)
theorem zfd.set {J_ I_ : zIn} {j_ k_ : Nat} {x_ : Int32} (h_ : zfd J_ I_) (h1 : j_ = 43 ∨ j_ = 51) : zfd (zset J_ 30 j_ k_ x_) I_ := fun c_ i_ f_ a_ b_ => (zset_ne (fun e_ => a_ ⟨e_.1, by rw [e_.2.1]; exact h1⟩)).trans (h_ c_ i_ f_ a_ b_)
theorem zfd.set7 {J_ I_ : zIn} {x_ : Int32} (h_ : zfd J_ I_) : zfd (zset J_ 7 0 42 x_) I_ := fun c_ i_ f_ a_ b_ => (zset_ne b_).trans (h_ c_ i_ f_ a_ b_)
def zLkd (I_ : zIn) (l : List Nat) : Prop := ∀ k_ s_, l[k_]? = some s_ → I_ 30 51 k_ = Int32.ofNat s_ ∧ s_ < 120
def zshI : Nat → Nat → zIn → zIn
  | 0, _, I_ => I_
  | m_ + 1, k_, I_ => zshI m_ (k_ + 1) (zset I_ 30 51 k_ (I_ 30 51 (k_ + 1)))
theorem zshI_ne {c_ i_ f_ : Nat} (h_ : ¬ (c_ = 30 ∧ i_ = 51)) : ∀ (m_ k_ : Nat) (I_ : zIn), zshI m_ k_ I_ c_ i_ f_ = I_ c_ i_ f_
  | 0, _, _ => rfl
  | m_ + 1, k_, I_ => by
    unfold zshI
    rw [zshI_ne h_ m_ (k_ + 1) _]
    exact zset_ne (fun e_ => h_ ⟨e_.1, e_.2.1⟩)
theorem zshI_at : ∀ (m_ k_ : Nat) (I_ : zIn) (j_ : Nat), zshI m_ k_ I_ 30 51 j_ = if k_ ≤ j_ ∧ j_ < k_ + m_ then I_ 30 51 (j_ + 1) else I_ 30 51 j_
  | 0, k_, I_, j_ => by
    rw [if_neg (by omega)]; rfl
  | m_ + 1, k_, I_, j_ => by
    unfold zshI
    rw [zshI_at m_ (k_ + 1) _ j_]
    by_cases h1 : k_ + 1 ≤ j_ ∧ j_ < k_ + 1 + m_
    · rw [if_pos h1, if_pos (by omega), zset_ne (by omega)]
    · rw [if_neg h1]
      by_cases h2 : j_ = k_
      · subst h2
        rw [if_pos (by omega), zset_is]
      · rw [if_neg (by omega), zset_ne (by omega)]
theorem zshI_fd {m_ k_ : Nat} {I_ : zIn} : zfd (zshI m_ k_ I_) I_ := fun _ _ _ a_ _ => zshI_ne (fun e_ => a_ ⟨e_.1, Or.inr e_.2⟩) m_ k_ I_
theorem zm186h {n_ a_ : Nat} {x1_ x2_ x3 x4_ : Int32} {Q_ : zPost} {L_ : zLi} (hn : n_ ≤ 15) : ∀ (m_ k_ : Nat) (I_ : zIn), m_ + k_ = n_ → (∀ k7_, zY none 2 186 50 [some (zwR 7 0), some (zwI x1_), some (zwI x2_), some (zwI x3), some (zwI x4_), some (zwI (Int32.ofNat n_)), some (zwI (Int32.ofNat a_)), k7_] [] (zshI m_ k_ I_) L_ 0 Q_) → zY none 2 186 102 [some (zwR 7 0), some (zwI x1_), some (zwI x2_), some (zwI x3), some (zwI x4_), some (zwI (Int32.ofNat n_)), some (zwI (Int32.ofNat a_)), some (zwI (Int32.ofNat k_))] [] I_ L_ 0 Q_
  | 0, k_, I_, h_, hY => by
    refine zY.go 2 rfl ?_
    refine zY.bn rfl (by omega) (by omega) (fun _ => ?_) (fun hF => absurd (show n_ ≤ k_ by omega) hF)
    refine zY.go 1 rfl ?_
    exact hY _
  | m_ + 1, k_, I_, h_, hY => by
    refine zY.go 2 rfl ?_
    refine zY.bn rfl (by omega) (by omega) (fun hT_ => absurd hT_ (show ¬ n_ ≤ k_ by omega)) (fun _ => ?_)
    refine zY.go 8 rfl ?_
    refine zY.ai rfl (zisucc k_) (show k_ + 1 < 16 by omega) ?_
    refine zY.si rfl rfl (show k_ < 16 by omega) ?_
    refine zY.go 2 rfl ?_
    rw [zisucc]
    exact zm186h hn m_ (k_ + 1) _ (by omega) hY
theorem zm186o {x1_ x2_ x3 : Int32} {Q_ : zPost} {L_ : zLi} : ∀ (n_ c_ : Nat) (l dn : List Nat) (I_ : zIn) (k6_ k7_ : Option zW), l.length = n_ → dn.length + n_ ≤ 16 → c_ < 1000 → zTr I_ dn → zLkd I_ l → (∀ I' c' k6_ k7_, zTr I' (dn ++ zord n_ c_ l) → zfd I' I_ → zY none 2 186 134 [some (zwR 7 0), some (zwI x1_), some (zwI x2_), some (zwI x3), some (zwI c'), some (zwI 0), k6_, k7_] [] I' L_ 0 Q_) → zY none 2 186 50 [some (zwR 7 0), some (zwI x1_), some (zwI x2_), some (zwI x3), some (zwI (Int32.ofNat c_)), some (zwI (Int32.ofNat n_)), k6_, k7_] [] I_ L_ 0 Q_
  | 0, c_, l, dn, I_, k6_, k7_, hl, hd_, hc_, ht, hk, hY => by
    refine zY.go 1 rfl ?_
    refine zY.bi rfl (fun _ => ?_) (fun hp => absurd (show (0 : Int32) ≤ 0 by decide) hp)
    exact hY I_ _ k6_ k7_ (by unfold zord; rw [List.append_nil]; exact ht) zfd.rfl
  | n_ + 1, c_, l, dn, I_, k6_, k7_, hl, hd_, hc_, ht, hk, hY => by
    have ha_ : c_ % (n_ + 1) < n_ + 1 := Nat.mod_lt _ (by omega)
    obtain ⟨s_, hs⟩ : ∃ s_, l[c_ % (n_ + 1)]? = some s_ := ⟨_, List.getElem?_eq_getElem (by omega)⟩
    have ho : zord (n_ + 1) c_ l = s_ :: zord n_ (c_ / (n_ + 1)) (l.eraseIdx (c_ % (n_ + 1))) := by
      show (match l[c_ % (n_ + 1)]? with | none => [] | some s_ => s_ :: zord n_ (c_ / (n_ + 1)) (l.eraseIdx (c_ % (n_ + 1)))) = _
      rw [hs]
    rw [ho] at hY
    have hn0 : ¬ Int32.ofNat (n_ + 1) = 0 := fun e_ => absurd ((zof_0 (by omega)).mp e_) (by omega)
    have hdv : c_ / (n_ + 1) ≤ c_ := Nat.div_le_self _ _
    obtain ⟨g1, g2⟩ := hk _ _ hs
    refine zY.go 1 rfl ?_
    refine zY.bi rfl (fun hp => absurd hp (znp0 (by omega))) (fun _ => ?_)
    refine zY.go 2 rfl ?_
    refine zY.rm rfl hn0 ?_
    rw [zirm (by omega) (by omega)]
    refine zY.go 3 rfl ?_
    refine zY.dv rfl hn0 ?_
    rw [zidv (by omega) (by omega)]
    refine zY.go 8 rfl ?_
    refine zY.ai rfl rfl (show c_ % (n_ + 1) < 16 by omega) ?_
    rw [g1]
    refine zY.si rfl ht.1 (show dn.length < 20 by omega) ?_
    refine zY.go 9 rfl ?_
    show zY _ _ _ _ [_, _, _, _, _, some (zwI (Int32.ofNat (n_ + 1) + -1)), _, _] _ _ _ _ _
    rw [show Int32.ofNat (n_ + 1) + -1 = Int32.ofNat n_ by
      rw [← zisucc, Int32.add_assoc, show (1 : Int32) + -1 = 0 by decide, Int32.add_zero]]
    have hI1 : zset (zset I_ 30 43 dn.length (Int32.ofNat s_)) 7 0 42 (zset I_ 30 43 dn.length (Int32.ofNat s_) 7 0 42 + 1) = zset (zset I_ 30 43 dn.length (Int32.ofNat s_)) 7 0 42 (Int32.ofNat (dn.length + 1)) := by
      rw [zset_ne (by simp), ht.1, zisucc]
    change zY _ _ _ _ _ _ (zset (zset I_ 30 43 dn.length (Int32.ofNat s_)) 7 0 42 (zset I_ 30 43 dn.length (Int32.ofNat s_) 7 0 42 + 1)) _ _ _
    rw [hI1]
    refine zm186h (by omega) (n_ - c_ % (n_ + 1)) (c_ % (n_ + 1)) _ (by omega) (fun k7' => ?_)
    have fd1 : zfd (zset (zset I_ 30 43 dn.length (Int32.ofNat s_)) 7 0 42 (Int32.ofNat (dn.length + 1))) I_ := (zfd.rfl.set (Or.inl rfl)).set7
    refine zm186o n_ (c_ / (n_ + 1)) (l.eraseIdx (c_ % (n_ + 1))) (dn ++ [s_]) _ _ k7' (by rw [List.length_eraseIdx_of_lt (by omega)]; omega) (by rw [List.length_append]; show dn.length + 1 + n_ ≤ 16; omega) (by omega) ⟨?_, by rw [List.length_append]; show dn.length + 1 ≤ 20; omega, fun k_ t_ hkt => ?_⟩ (fun k_ t_ hkt => ?_) (fun I' c' k6' k7'' h1 h2 => hY I' c' k6' k7'' (by rw [List.append_assoc] at h1; exact h1) (h2.trans (zshI_fd.trans fd1)))
    · rw [zshI_ne (by simp), zset_is, List.length_append]; rfl
    · rw [zshI_ne (by simp), zset_ne (by simp)]
      by_cases hkd : k_ < dn.length
      · rw [List.getElem?_append_left hkd] at hkt
        rw [zset_ne (by omega)]
        exact ht.2.2 k_ t_ hkt
      · have hlt := (List.getElem?_eq_some_iff.mp hkt).1
        rw [List.length_append] at hlt
        have hlt2 : k_ < dn.length + 1 := hlt
        have hke : k_ = dn.length := by omega
        subst hke
        rw [List.getElem?_append_right (Nat.le_refl _), Nat.sub_self] at hkt
        cases hkt
        exact ⟨zset_is, g2⟩
    · have hlt := (List.getElem?_eq_some_iff.mp hkt).1
      rw [List.length_eraseIdx_of_lt (by omega)] at hlt
      rw [List.getElem?_eraseIdx] at hkt
      rw [zshI_at, zset_ne (by simp), zset_ne (by simp), zset_ne (by simp), zset_ne (by simp)]
      by_cases hka : k_ < c_ % (n_ + 1)
      · rw [if_pos hka] at hkt
        rw [if_neg (by omega)]
        exact hk k_ t_ hkt
      · rw [if_neg hka] at hkt
        rw [if_pos (by omega)]
        exact hk (k_ + 1) t_ hkt
def zorC (l : List Nat) (k_ s_ : Nat) : Bool := decide (s_ % 2 = 0) || decide (zox (zlx (s_ - 1) l 0 none) ≤ Int32.ofNat k_)
def zorA (l : List Nat) : List Nat → Nat → Bool → Bool
  | [], _, b_ => b_
  | s_ :: r_, k_, b_ => zorA l r_ (k_ + 1) (b_ && zorC l k_ s_)
theorem zm186k {x1_ x2_ x4_ x5_ : Int32} {I_ : zIn} {L_ : zLi} (l : List Nat) (ht : zTr I_ l) : ∀ (n_ k_ : Nat) (b_ : Bool), n_ + k_ = l.length → zY none 2 186 171 [some (zwR 7 0), some (zwI x1_), some (zwI x2_), some (zwI (Int32.ofNat l.length)), some (zwI x4_), some (zwI x5_), some (zwI (zbi b_)), some (zwI (Int32.ofNat k_))] [] I_ L_ 0 (zRb (zorA l (l.drop k_) k_ b_, I_, L_))
  | 0, k_, b_, h_ => by
    have hl := ht.2.1
    rw [List.drop_of_length_le (by omega)]
    refine zY.go 2 rfl ?_
    refine zY.bn rfl (by omega) (by omega) (fun _ => ?_) (fun hF => absurd (show l.length ≤ k_ by omega) hF)
    refine zY.go 1 rfl ?_
    exact zY.rb rfl rfl (by cases b_; exact Or.inl rfl; exact Or.inr rfl) ⟨rfl, rfl, rfl⟩
  | n_ + 1, k_, b_, h_ => by
    have hl := ht.2.1
    obtain ⟨s_, hs⟩ : ∃ s_, l[k_]? = some s_ := ⟨_, List.getElem?_eq_getElem (by omega)⟩
    rw [zdrop_cons hs]
    obtain ⟨g1, g2⟩ := ht.2.2 k_ s_ hs
    obtain ⟨f1_, f2_⟩ := zs2d s_ (by omega)
    have ih_ := fun (b_ : Bool) => zm186k (x1_ := x1_) (x2_ := x2_) (x4_ := x4_) (x5_ := x5_) (L_ := L_) l ht n_ (k_ + 1) b_ (by omega)
    simp only [← zisucc] at ih_
    have T217 : ∀ c_ : Bool, (b_ && zorC l k_ s_) = c_ → zY none 2 186 217 [some (zwR 7 0), some (zwI x1_), some (zwI x2_), some (zwI (Int32.ofNat l.length)), some (zwI x4_), some (zwI x5_), some (zwI (zbi b_)), some (zwI (Int32.ofNat k_))] [zwI (zbi c_)] I_ L_ 0 (zRb (zorA l (s_ :: l.drop (k_ + 1)) k_ b_, I_, L_)) := by
      intro c_ hc_
      unfold zorA
      rw [hc_]
      refine zY.go 3 rfl ?_
      exact ih_ c_
    have T216 : (b_ && zorC l k_ s_) = false → zY none 2 186 216 [some (zwR 7 0), some (zwI x1_), some (zwI x2_), some (zwI (Int32.ofNat l.length)), some (zwI x4_), some (zwI x5_), some (zwI (zbi b_)), some (zwI (Int32.ofNat k_))] [] I_ L_ 0 (zRb (zorA l (s_ :: l.drop (k_ + 1)) k_ b_, I_, L_)) := by
      intro hc_
      refine zY.go 1 rfl ?_
      exact T217 false hc_
    have T212 : (b_ && zorC l k_ s_) = true → zY none 2 186 212 [some (zwR 7 0), some (zwI x1_), some (zwI x2_), some (zwI (Int32.ofNat l.length)), some (zwI x4_), some (zwI x5_), some (zwI (zbi b_)), some (zwI (Int32.ofNat k_))] [] I_ L_ 0 (zRb (zorA l (s_ :: l.drop (k_ + 1)) k_ b_, I_, L_)) := by
      intro hc_
      refine zY.go 2 rfl ?_
      exact T217 true hc_
    refine zY.go 2 rfl ?_
    refine zY.bn rfl (by omega) (by omega) (fun hT_ => absurd hT_ (show ¬ l.length ≤ k_ by omega)) (fun _ => ?_)
    refine zY.go 1 rfl ?_
    show zY _ _ _ _ _ [zwI (if b_ = true then 1 else 0)] _ _ _ _
    refine zY.we rfl (fun hb_ => T216 (by rw [hb_]; rfl)) (fun hb_ => ?_)
    refine zY.go 3 rfl ?_
    refine zY.ai rfl rfl (show k_ < 20 by omega) ?_
    rw [g1]
    refine zY.go 2 rfl ?_
    show zY _ _ _ _ _ [zwI (Int32.ofNat s_ - Int32.ofNat s_ / 2 * 2)] _ _ _ _
    rw [f2_]
    refine zY.bi rfl (fun hp => T212 (by rw [hb_]; simp [zorC, zpar_0.mp hp])) (fun hp => ?_)
    have hs1 : ¬ s_ % 2 = 0 := fun e_ => hp (zpar_0.mpr e_)
    refine zY.go 4 rfl ?_
    refine zY.ai rfl rfl (show k_ < 20 by omega) ?_
    rw [g1]
    refine zY.go 2 rfl ?_
    show zY _ _ _ _ _ [zwI (Int32.ofNat s_ - 1), zwR 7 0] _ _ _ _
    rw [show Int32.ofNat s_ - 1 = Int32.ofNat (s_ - 1) from (Int32.ofNat_sub s_ 1 (by omega)).symm]
    refine zY.cr (zm153 ht (by omega)) rfl rfl rfl rfl (Nat.le_of_ble_eq_true rfl) rfl (by decide) rfl (by decide) (by decide) ?_
    refine zY.go 1 rfl ?_
    refine zY.bc rfl (fun hp2 => T216 ?_) (fun hp2 => T212 ?_)
    · have h1 : ¬ zox (zlx (s_ - 1) l 0 none) ≤ Int32.ofNat k_ := Int32.not_le.mpr hp2
      simp [zorC, hs1, h1]
    · have h1 : zox (zlx (s_ - 1) l 0 none) ≤ Int32.ofNat k_ := Int32.not_lt.mp hp2
      rw [hb_]; simp [zorC, h1]
def zorB (I_ : zIn) (v_ : Nat) (l : List Nat) (c_ : Nat) : Bool := zorA (zord l.length c_ l) (zord l.length c_ l) 0 (decide (I_ 31 19 v_ = 0) || decide ((zord l.length c_ l).head? = l.head?))
theorem zord_len : ∀ (n_ c_ : Nat) (l : List Nat), l.length = n_ → (zord n_ c_ l).length = n_
  | 0, _, _, _ => rfl
  | n_ + 1, c_, l, h_ => by
    have ha_ : c_ % (n_ + 1) < n_ + 1 := Nat.mod_lt _ (by omega)
    obtain ⟨s_, hs⟩ : ∃ s_, l[c_ % (n_ + 1)]? = some s_ := ⟨_, List.getElem?_eq_getElem (by omega)⟩
    have ho : zord (n_ + 1) c_ l = s_ :: zord n_ (c_ / (n_ + 1)) (l.eraseIdx (c_ % (n_ + 1))) := by
      show (match l[c_ % (n_ + 1)]? with | none => [] | some s_ => s_ :: zord n_ (c_ / (n_ + 1)) (l.eraseIdx (c_ % (n_ + 1)))) = _
      rw [hs]
    rw [ho, List.length_cons, zord_len n_ _ _ (by rw [List.length_eraseIdx_of_lt (by omega)]; omega)]
def zcyI : Nat → Nat → zIn → zIn
  | 0, _, I_ => I_
  | m_ + 1, k_, I_ => zcyI m_ (k_ + 1) (zset I_ 30 51 k_ (I_ 30 43 k_))
theorem zcyI_ne {c_ i_ f_ : Nat} (h_ : ¬ (c_ = 30 ∧ i_ = 51)) : ∀ (m_ k_ : Nat) (I_ : zIn), zcyI m_ k_ I_ c_ i_ f_ = I_ c_ i_ f_
  | 0, _, _ => rfl
  | m_ + 1, k_, I_ => by
    unfold zcyI
    rw [zcyI_ne h_ m_ (k_ + 1) _]
    exact zset_ne (fun e_ => h_ ⟨e_.1, e_.2.1⟩)
theorem zcyI_at : ∀ (m_ k_ : Nat) (I_ : zIn) (j_ : Nat), zcyI m_ k_ I_ 30 51 j_ = if k_ ≤ j_ ∧ j_ < k_ + m_ then I_ 30 43 j_ else I_ 30 51 j_
  | 0, k_, I_, j_ => by
    rw [if_neg (by omega)]; rfl
  | m_ + 1, k_, I_, j_ => by
    unfold zcyI
    rw [zcyI_at m_ (k_ + 1) _ j_]
    by_cases h1 : k_ + 1 ≤ j_ ∧ j_ < k_ + 1 + m_
    · rw [if_pos h1, if_pos (by omega), zset_ne (by omega)]
    · rw [if_neg h1]
      by_cases h2 : j_ = k_
      · subst h2
        rw [if_pos (by omega), zset_is]
      · rw [if_neg (by omega), zset_ne (by omega)]
theorem zm186c {n_ : Nat} {x1_ x2_ x4_ : Int32} {Q_ : zPost} {L_ : zLi} (hn : n_ ≤ 16) : ∀ (m_ k_ : Nat) (I_ : zIn), m_ + k_ = n_ → zY none 2 186 42 [some (zwR 7 0), some (zwI x1_), some (zwI x2_), some (zwI (Int32.ofNat n_)), some (zwI x4_), some (zwI (Int32.ofNat n_)), none, none] [] (zcyI m_ k_ I_) L_ 0 Q_ → zY none 2 186 16 [some (zwR 7 0), some (zwI x1_), some (zwI x2_), some (zwI (Int32.ofNat n_)), some (zwI x4_), some (zwI (Int32.ofNat k_)), none, none] [] I_ L_ 0 Q_
  | 0, k_, I_, h_, hY => by
    have hk : k_ = n_ := by omega
    subst hk
    refine zY.go 2 rfl ?_
    exact zY.bn rfl (by omega) (by omega) (fun _ => hY) (fun hF => absurd (Nat.le_refl _) hF)
  | m_ + 1, k_, I_, h_, hY => by
    refine zY.go 2 rfl ?_
    refine zY.bn rfl (by omega) (by omega) (fun hT_ => absurd hT_ (show ¬ n_ ≤ k_ by omega)) (fun _ => ?_)
    refine zY.go 6 rfl ?_
    refine zY.ai rfl rfl (show k_ < 20 by omega) ?_
    refine zY.si rfl rfl (show k_ < 16 by omega) ?_
    refine zY.go 2 rfl ?_
    rw [zisucc]
    exact zm186c hn m_ (k_ + 1) _ (by omega) hY
theorem zm186 {I_ : zIn} {L_ : zLi} {v_ c_ : Nat} {l : List Nat} (hv : v_ < 4) (hro : zRo I_ v_ l) (hc_ : c_ < 1000) (hlf : ¬ I_ 31 19 v_ = 0 → l ≠ []) : zYm 2 186 [zwR 7 0, zwI (Int32.ofNat v_), zwI (Int32.ofNat c_)] I_ L_ 0 (fun r_ I' L' => r_ = .inl (some (zwI (if zorB I_ v_ l c_ = true then 1 else 0))) ∧ zTr I' (zord l.length c_ l) ∧ zfd I' I_ ∧ L' = L_) := by
  have hl := hro.2.1
  have ht := ztry_tr hro
  have h64 : 16 * v_ < zas30 26 := by show 16 * v_ < 64; omega
  refine zYm.of (Nat.le_of_ble_eq_true rfl) rfl ?_
  refine zY.go 2 rfl ?_
  refine zY.cr (zm143 hv hl hro.1) rfl rfl rfl rfl (Nat.le_of_ble_eq_true rfl) rfl (by decide) rfl (by decide) (by decide) ?_
  refine zY.go 7 rfl ?_
  show zY _ _ _ _ [_, _, _, some (zwI (ztry I_ v_ l.length 7 0 42)), _, some (zwI (Int32.ofNat 0)), _, _] _ _ _ _ _
  rw [ht.1]
  refine zm186c hl l.length 0 _ (by omega) ?_
  refine zY.go 5 rfl ?_
  have fd0 : zfd (ztry I_ v_ l.length) I_ := fun c_ i_ f_ a_ b_ => ztry_ne (fun e_ => a_ ⟨e_.1, Or.inl e_.2⟩) b_
  have fd1 : zfd (zset (zcyI l.length 0 (ztry I_ v_ l.length)) 7 0 42 0) I_ := (zfd.trans (fun c_ i_ f_ a_ _ => zcyI_ne (fun e_ => a_ ⟨e_.1, Or.inr e_.2⟩) _ _ _) fd0).set7
  refine zm186o l.length c_ l [] _ none none rfl (by simpa using hl) hc_ ⟨zset_is, by simp, fun k_ s_ h_ => by simp at h_⟩ (fun k_ s_ h_ => ?_) (fun I' c' k6_ k7_ h1 h2 => ?_)
  · have hlt := (List.getElem?_eq_some_iff.mp h_).1
    rw [zset_ne (by simp), zcyI_at, if_pos (by omega)]
    exact ht.2.2 k_ s_ h_
  · rw [List.nil_append] at h1
    have fd_ : zfd I' I_ := h2.trans fd1
    have hlen := zord_len l.length c_ l rfl
    have e19_ : I' 31 19 v_ = I_ 31 19 v_ := fd_ 31 19 v_ (by simp) (by simp)
    have T166 : ∀ b_ : Bool, (decide (I_ 31 19 v_ = 0) || decide ((zord l.length c_ l).head? = l.head?)) = b_ → zY none 2 186 166 [some (zwR 7 0), some (zwI (Int32.ofNat v_)), some (zwI (Int32.ofNat c_)), some (zwI (Int32.ofNat l.length)), some (zwI c'), some (zwI 0), k6_, k7_] [zwI (zbi b_)] I' L_ 0 (fun r_ I' L' => r_ = .inl (some (zwI (if zorB I_ v_ l c_ = true then 1 else 0))) ∧ zTr I' (zord l.length c_ l) ∧ zfd I' I_ ∧ L' = L_) := by
      intro b_ hb_
      refine zY.go 3 rfl ?_
      have hk := zm186k (x1_ := Int32.ofNat v_) (x2_ := Int32.ofNat c_) (x4_ := c') (x5_ := 0) (L_ := L_) _ h1 (zord l.length c_ l).length 0 b_ (by omega)
      rw [hlen] at hk
      refine zY.mono hk (Nat.le_refl _) (fun r_ I2_ L2_ hq => ?_)
      obtain ⟨q1_, q2_, q3_⟩ := hq
      refine ⟨?_, q2_ ▸ h1, q2_ ▸ fd_, q3_⟩
      rw [q1_]; unfold zorB; rw [hb_]; rfl
    have T161 : (decide (I_ 31 19 v_ = 0) || decide ((zord l.length c_ l).head? = l.head?)) = true → zY none 2 186 161 [some (zwR 7 0), some (zwI (Int32.ofNat v_)), some (zwI (Int32.ofNat c_)), some (zwI (Int32.ofNat l.length)), some (zwI c'), some (zwI 0), k6_, k7_] [] I' L_ 0 (fun r_ I' L' => r_ = .inl (some (zwI (if zorB I_ v_ l c_ = true then 1 else 0))) ∧ zTr I' (zord l.length c_ l) ∧ zfd I' I_ ∧ L' = L_) := by
      intro hb_
      refine zY.go 2 rfl ?_
      exact T166 true hb_
    refine zY.go 3 rfl ?_
    refine zY.ab rfl rfl hv ?_
    rw [e19_]
    refine zY.bi rfl (fun hp => T161 (by rw [decide_eq_true (zbo_0.mp hp)]; rfl)) (fun hp => ?_)
    have hne : ¬ I_ 31 19 v_ = 0 := fun e_ => hp (zbo_0.mpr e_)
    obtain ⟨s0_, l0, hl0⟩ : ∃ s0_ l0, l = s0_ :: l0 := by
      cases hh : l with
      | nil => exact absurd hh (hlf hne)
      | cons a_ b_ => exact ⟨a_, b_, rfl⟩
    obtain ⟨t0_, r0, hr0⟩ : ∃ t0_ r0, zord l.length c_ l = t0_ :: r0 := by
      cases hh : zord l.length c_ l with
      | nil => rw [hh] at hlen; rw [hl0] at hlen; simp at hlen
      | cons a_ b_ => exact ⟨a_, b_, rfl⟩
    obtain ⟨g1, g2⟩ := h1.2.2 0 t0_ (by rw [hr0]; rfl)
    obtain ⟨g3_, g4⟩ := hro.2.2 0 s0_ (by rw [hl0]; rfl)
    have g5_ : I' 30 26 (16 * v_) = Int32.ofNat s0_ := (fd_ 30 26 (16 * v_) (by simp) (by simp)).trans g3_
    refine zY.go 3 rfl ?_
    refine zY.ai (n_ := 0) rfl rfl (by decide) ?_
    rw [g1]
    refine zY.go 5 rfl ?_
    refine zY.ai rfl z16v h64 ?_
    rw [g5_]
    have hh : ((zord l.length c_ l).head? = l.head?) ↔ t0_ = s0_ := by rw [hr0, hl0]; simp
    refine zY.bn rfl (by omega) (by omega) (fun hp2 => ?_) (fun hp2 => T161 ?_)
    · refine zY.go 1 rfl ?_
      exact T166 false (by rw [decide_eq_false hne, decide_eq_false (fun e_ => hp2 (hh.mp e_))]; rfl)
    · rw [decide_eq_true (hh.mpr (Decidable.byContradiction hp2)), Bool.or_true]
