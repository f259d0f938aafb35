/-! TYPED RUNS: the judgement and its rows -/
abbrev zQr : Type := (Option zW) ⊕ Nat
abbrev zPost : Type := zQr → zIn → zLi → Prop
def ztR (lc : zAd) : zQr → zRes
  | .inl v_ => .inl (v_.map (ztr lc))
  | .inr E_ => .inr E_
def zokR (I_ : zIn) : zQr → Prop
  | .inl (some w_) => zok I_ w_
  | _ => True
/-- what there was stays where it was -/
def zExt (lc : zAd) (I_ : zIn) (lc' : zAd) (I' : zIn) : Prop := ∀ c_ i_, I_ 99 c_ i_ = 1 → I' 99 c_ i_ = 1 ∧ lc' c_ i_ = lc c_ i_
def zOut (P_ : zRes × zHp → Prop) (lc : zAd) (I_ : zIn) (g_ : Nat) (Q_ : zPost) : Prop := ∃ r_ h' lc' I' L', P_ (ztR lc' r_, h') ∧ zExt lc I_ lc' I' ∧ zRep lc' I' L' h' g_ ∧ zokR I' r_ ∧ Q_ r_ I' L'
/-- from this place, with these numbers and lists, a run comes to an end of which Q holds; at most a new cells and slots -/
def zY (sc_ : zScr) (d_ m_ pc : Nat) (ls : zWs) (st_ : List zW) (I_ : zIn) (L_ : zLi) (a_ : Nat) (Q_ : zPost) : Prop := ∀ lc h_ g_, zRep lc I_ L_ h_ g_ → zWok I_ ls st_ → g_ + a_ ≤ 600000 → zOut (zX' sc_ d_ m_ pc (ztl lc ls) (zts lc st_) h_) lc I_ (g_ + a_) Q_
/-- a method's contract -/
def zYm (d_ m_ : Nat) (as_ : List zW) (I_ : zIn) (L_ : zLi) (a_ : Nat) (Q_ : zPost) : Prop := ∀ lc h_ g_, zRep lc I_ L_ h_ g_ → (∀ w_ ∈ as_, zok I_ w_) → g_ + a_ ≤ 600000 → zOut (zRn d_ m_ (zts lc as_) h_) lc I_ (g_ + a_) Q_
def zRet (v_ : Option zW) (I' : zIn) (L' : zLi) : zPost := fun r_ I_ L_ => r_ = .inl v_ ∧ I_ = I' ∧ L_ = L'
theorem zExt.rfl {lc : zAd} {I_ : zIn} : zExt lc I_ lc I_ := fun _ _ h_ => ⟨h_, Eq.refl _⟩
theorem zExt.trans {lc lc1 lc2 : zAd} {I_ I1 I2_ : zIn} (h1 : zExt lc I_ lc1 I1) (h2 : zExt lc1 I1 lc2 I2_) : zExt lc I_ lc2 I2_ := fun c_ i_ hx => ⟨(h2 c_ i_ (h1 c_ i_ hx).1).1, by rw [(h2 c_ i_ (h1 c_ i_ hx).1).2, (h1 c_ i_ hx).2]⟩
theorem zExt.of99 {lc : zAd} {I_ I' : zIn} (h_ : ∀ c_ i_, I' 99 c_ i_ = I_ 99 c_ i_) : zExt lc I_ lc I' := fun c_ i_ hx => ⟨by rw [h_]; exact hx, Eq.refl _⟩
theorem zExt.tr {lc lc1 : zAd} {I_ I1 : zIn} (hE : zExt lc I_ lc1 I1) {w_ : zW} (hw : zok I_ w_) : ztr lc1 w_ = ztr lc w_ := by
  rcases w_ with x_ | x_ | x_ | x_
  · exact Eq.refl _
  · exact Eq.refl _
  · exact congrArg Value.ref (hE x_.1 x_.2 hw).2
  · cases x_ <;> exact Eq.refl _
theorem zExt.ok {lc lc1 : zAd} {I_ I1 : zIn} (hE : zExt lc I_ lc1 I1) {w_ : zW} (hw : zok I_ w_) : zok I1 w_ := zok_le (fun c_ i_ hx => (hE c_ i_ hx).1) hw
theorem zExt.sts {lc lc1 : zAd} {I_ I1 : zIn} (hE : zExt lc I_ lc1 I1) {st_ : List zW} (hw : ∀ w_ ∈ st_, zok I_ w_) : zts lc1 st_ = zts lc st_ := List.map_congr_left (fun w_ h_ => hE.tr (hw w_ h_))
theorem zExt.stl {lc lc1 : zAd} {I_ I1 : zIn} (hE : zExt lc I_ lc1 I1) {ls : zWs} (hw : ∀ w_, some w_ ∈ ls → zok I_ w_) : ztl lc1 ls = ztl lc ls := by
  refine List.map_congr_left (fun o ho => ?_)
  cases o with
  | none => exact Eq.refl _
  | some w_ => exact congrArg some (hE.tr (hw w_ ho))
theorem zOut.mono {P_ P'_ : zRes × zHp → Prop} {lc : zAd} {I_ : zIn} {g_ : Nat} {Q_ : zPost} (h_ : zOut P_ lc I_ g_ Q_) (hp : ∀ x_, P_ x_ → P'_ x_) : zOut P'_ lc I_ g_ Q_ := by
  obtain ⟨r_, h', lc', I', L', a1_, a2⟩ := h_
  exact ⟨r_, h', lc', I', L', hp _ a1_, a2⟩
section
variable {sc_ : zScr} {d_ m_ pc len_ a_ b_ : Nat} {ls : zWs} {st_ rest_ : List zW} {I_ I' : zIn} {L_ L' : zLi} {Q_ : zPost} {i_ : Instr} {imm_ : Int32} {q_ : Nat}
theorem zY.mono {a1_ : Nat} {Q1_ : zPost} (hY : zY sc_ d_ m_ pc ls st_ I_ L_ a1_ Q1_) (ha_ : a1_ ≤ a_) (hQ : ∀ r_ I' L', Q1_ r_ I' L' → Q_ r_ I' L') : zY sc_ d_ m_ pc ls st_ I_ L_ a_ Q_ := by
  intro lc h_ g_ hr hw hg
  obtain ⟨r_, h', lc', I', L', c1_, c2_, c3_, c4_, c5_⟩ := hY lc h_ g_ hr hw (by omega)
  exact ⟨r_, h', lc', I', L', c1_, c2_, c3_.le (by omega), c4_, hQ _ _ _ c5_⟩
theorem zYm.mono {as_ : List zW} {a1_ d1_ : Nat} {Q1_ : zPost} (hY : zYm d1_ m_ as_ I_ L_ a1_ Q1_) (hd_ : d1_ ≤ d_) (ha_ : a1_ ≤ a_) (hQ : ∀ r_ I' L', Q1_ r_ I' L' → Q_ r_ I' L') : zYm d_ m_ as_ I_ L_ a_ Q_ := by
  intro lc h_ g_ hr hw hg
  obtain ⟨r_, h', lc', I', L', c1_, c2_, c3_, c4_, c5_⟩ := hY lc h_ g_ hr hw (by omega)
  exact ⟨r_, h', lc', I', L', c1_.up hd_, c2_, c3_.le (by omega), c4_, hQ _ _ _ c5_⟩
theorem zYm.of {as_ : List zW} (hml : as_.length ≤ (zinf m_).2.1) (hls : as_.map some ++ List.replicate ((zinf m_).2.1 - as_.length) none = ls) (hY : zY none d_ m_ 0 ls [] I_ L_ a_ Q_) : zYm d_ m_ as_ I_ L_ a_ Q_ := by
  intro lc h_ g_ hr hw hg
  refine (hY lc h_ g_ hr ⟨fun w_ hw1 => ?_, fun w_ hw1 => by cases hw1⟩ hg).mono (fun x_ hx => ?_)
  · rw [← hls] at hw1
    rcases List.mem_append.mp hw1 with h1 | h1
    · obtain ⟨v_, h2, h3⟩ := List.mem_map.mp h1
      cases h3; exact hw _ h2
    · exact absurd (List.eq_of_mem_replicate h1) (by simp)
  · unfold zRn
    have : zent (zts lc as_) (zinf m_).2.1 = ztl lc ls := by
      rw [← hls]
      unfold zent
      simp [ztl, zts]
    rw [this]; exact hx
theorem zY.go (k_ : Nat) {pc' : Nat} {ls' : zWs} {st' : List zW} (hz : zgo k_ m_ pc ls st_ I_ L_ = some (pc', ls', st', I')) (hY : zY sc_ (d_ + 1) m_ pc' ls' st' I' L_ a_ Q_) : zY sc_ (d_ + 1) m_ pc ls st_ I_ L_ a_ Q_ := by
  intro lc h_ g_ hr hw hg
  obtain ⟨h', a1_, a2, a3, a4⟩ := zgo_ok (sc_ := sc_) (d_ := d_) k_ hr hw hz
  obtain ⟨r_, h2, lc', I2_, L2_, c1_, c2_, c3_, c4_, c5_⟩ := hY lc h' g_ a1_ a2 hg
  exact ⟨r_, h2, lc', I2_, L2_, a4 _ c1_, (zExt.of99 a3).trans c2_, c3_, c4_, c5_⟩
def zcp (c_ : ClassFile.Cond) (x_ y_ : Int32) : Prop := match c_ with
  | .eq => x_ = y_
  | .ne => ¬ x_ = y_
  | .lt => x_ < y_
  | .ge => y_ ≤ x_
  | .gt => y_ < x_
  | .le => x_ ≤ y_
theorem zcp_cnd {c_ : ClassFile.Cond} {x_ y_ : Int32} : zcnd c_ x_ y_ = true ↔ zcp c_ x_ y_ := by
  cases c_ <;> simp [zcnd, zcp]
/-- a branch on an int -/
theorem zY.bi {c_ : ClassFile.Cond} {o : Int} {x_ : Int32} (hk : zcode m_ pc = some (.ifCond c_ o, len_, imm_, q_, b_)) (hT_ : zcp c_ x_ 0 → zY sc_ d_ m_ q_ ls rest_ I_ L_ a_ Q_) (hF : ¬ zcp c_ x_ 0 → zY sc_ d_ m_ (pc + len_) ls rest_ I_ L_ a_ Q_) : zY sc_ d_ m_ pc ls (zwI x_ :: rest_) I_ L_ a_ Q_ := by
  intro lc h_ g_ hr hw hg
  by_cases hc_ : zcp c_ x_ 0
  · exact (hT_ hc_ lc h_ g_ hr hw.tail hg).mono (fun _ hx => zX'.br (t := true) hk (Eq.refl _) (congrArg some (Prod.ext (zcp_cnd.mpr hc_) (Eq.refl _))) (fun _ => hx) (fun e_ => by cases e_))
  · exact (hF hc_ lc h_ g_ hr hw.tail hg).mono (fun _ hx => zX'.br (t := false) hk (Eq.refl _) (congrArg some (Prod.ext (by rw [← Bool.not_eq_true]; exact fun e_ => hc_ (zcp_cnd.mp e_)) (Eq.refl _))) (fun e_ => by cases e_) (fun _ => hx))
/-- a branch on two ints -/
theorem zY.bc {c_ : ClassFile.Cond} {o : Int} {x_ y_ : Int32} (hk : zcode m_ pc = some (.if_icmp c_ o, len_, imm_, q_, b_)) (hT_ : zcp c_ x_ y_ → zY sc_ d_ m_ q_ ls rest_ I_ L_ a_ Q_) (hF : ¬ zcp c_ x_ y_ → zY sc_ d_ m_ (pc + len_) ls rest_ I_ L_ a_ Q_) : zY sc_ d_ m_ pc ls (zwI y_ :: zwI x_ :: rest_) I_ L_ a_ Q_ := by
  intro lc h_ g_ hr hw hg
  by_cases hc_ : zcp c_ x_ y_
  · exact (hT_ hc_ lc h_ g_ hr hw.tail.tail hg).mono (fun _ hx => zX'.br (t := true) hk (Eq.refl _) (congrArg some (Prod.ext (zcp_cnd.mpr hc_) (Eq.refl _))) (fun _ => hx) (fun e_ => by cases e_))
  · exact (hF hc_ lc h_ g_ hr hw.tail.tail hg).mono (fun _ hx => zX'.br (t := false) hk (Eq.refl _) (congrArg some (Prod.ext (by rw [← Bool.not_eq_true]; exact fun e_ => hc_ (zcp_cnd.mp e_)) (Eq.refl _))) (fun e_ => by cases e_) (fun _ => hx))
/-- a branch on two references: .eq -/
theorem zY.ae {o : Int} {c1_ i1_ c2_ i2_ : Nat} (hk : zcode m_ pc = some (.if_acmp .eq o, len_, imm_, q_, b_)) (hT_ : c1_ = c2_ ∧ i1_ = i2_ → zY sc_ d_ m_ q_ ls rest_ I_ L_ a_ Q_) (hF : ¬ (c1_ = c2_ ∧ i1_ = i2_) → zY sc_ d_ m_ (pc + len_) ls rest_ I_ L_ a_ Q_) : zY sc_ d_ m_ pc ls (zwR c2_ i2_ :: zwR c1_ i1_ :: rest_) I_ L_ a_ Q_ := by
  intro lc h_ g_ hr hw hg
  have hx1 : I_ 99 c1_ i1_ = 1 := hw.tail.head
  have hx2 : I_ 99 c2_ i2_ = 1 := hw.head
  obtain ⟨cap_, er, hp, _⟩ := id hr
  have hbr : zbr (.if_acmp .eq o) (.ref (lc c2_ i2_) :: .ref (lc c1_ i1_) :: zts lc rest_) = some (decide (Value.ref (lc c1_ i1_) = Value.ref (lc c2_ i2_)), zts lc rest_) := by
    unfold zbr
    simp [zisr]
  by_cases hc_ : c1_ = c2_ ∧ i1_ = i2_
  · exact (hT_ hc_ lc h_ g_ hr hw.tail.tail hg).mono (fun _ hx => zX'.br (t := true) hk (Eq.refl _) (by obtain ⟨rfl, rfl⟩ := hc_; show zbr _ _ = _; rw [show (zts lc (zwR c1_ i1_ :: zwR c1_ i1_ :: rest_)) = _ from Eq.refl _]; exact hbr.trans (by simp)) (fun _ => hx) (fun e_ => by cases e_))
  · exact (hF hc_ lc h_ g_ hr hw.tail.tail hg).mono (fun _ hx => zX'.br (t := false) hk (Eq.refl _) (hbr.trans (by simp; exact fun e_ => hc_ (hp.2.1 _ _ _ _ hx1 hx2 e_))) (fun e_ => by cases e_) (fun _ => hx))
/-- a branch on two references: .ne -/
theorem zY.an {o : Int} {c1_ i1_ c2_ i2_ : Nat} (hk : zcode m_ pc = some (.if_acmp .ne o, len_, imm_, q_, b_)) (hT_ : ¬ (c1_ = c2_ ∧ i1_ = i2_) → zY sc_ d_ m_ q_ ls rest_ I_ L_ a_ Q_) (hF : c1_ = c2_ ∧ i1_ = i2_ → zY sc_ d_ m_ (pc + len_) ls rest_ I_ L_ a_ Q_) : zY sc_ d_ m_ pc ls (zwR c2_ i2_ :: zwR c1_ i1_ :: rest_) I_ L_ a_ Q_ := by
  intro lc h_ g_ hr hw hg
  have hx1 : I_ 99 c1_ i1_ = 1 := hw.tail.head
  have hx2 : I_ 99 c2_ i2_ = 1 := hw.head
  obtain ⟨cap_, er, hp, _⟩ := id hr
  have hbr : zbr (.if_acmp .ne o) (.ref (lc c2_ i2_) :: .ref (lc c1_ i1_) :: zts lc rest_) = some (!decide (Value.ref (lc c1_ i1_) = Value.ref (lc c2_ i2_)), zts lc rest_) := by
    unfold zbr
    simp [zisr]
  by_cases hc_ : c1_ = c2_ ∧ i1_ = i2_
  · exact (hF hc_ lc h_ g_ hr hw.tail.tail hg).mono (fun _ hx => zX'.br (t := false) hk (Eq.refl _) (by obtain ⟨rfl, rfl⟩ := hc_; exact hbr.trans (by simp)) (fun e_ => by cases e_) (fun _ => hx))
  · exact (hT_ hc_ lc h_ g_ hr hw.tail.tail hg).mono (fun _ hx => zX'.br (t := true) hk (Eq.refl _) (hbr.trans (by simp; exact fun e_ => hc_ (hp.2.1 _ _ _ _ hx1 hx2 e_))) (fun _ => hx) (fun e_ => by cases e_))
/-- a branch on what is known at once -/
theorem zY.bk {t_ : Bool} {w_ : zW} (hk : zcode m_ pc = some (i_, len_, imm_, q_, b_)) (hg : zgrp i_ q_ = 1) (hb_ : ∀ lc, zbr i_ (ztr lc w_ :: zts lc rest_) = some (t_, zts lc rest_)) (hY : zY sc_ d_ m_ (if t_ = true then q_ else pc + len_) ls rest_ I_ L_ a_ Q_) : zY sc_ d_ m_ pc ls (w_ :: rest_) I_ L_ a_ Q_ := by
  intro lc h_ g_ hr hw hg2
  refine (hY lc h_ g_ hr hw.tail hg2).mono (fun x_ hx => zX'.br (t := t_) hk hg (hb_ lc) (fun e_ => ?_) (fun e_ => ?_))
  · rw [e_] at hx; exact hx
  · rw [e_] at hx; exact hx
theorem zY.sw {t_ : Nat} {x_ : Int32} (hk : zcode m_ pc = some (i_, len_, imm_, q_, b_)) (hg : zgrp i_ q_ = 6) (hs : zsw i_ pc [.int x_] = some (t_, [])) (hY : zY sc_ d_ m_ t_ ls [] I_ L_ a_ Q_) : zY sc_ d_ m_ pc ls [zwI x_] I_ L_ a_ Q_ := by
  intro lc h_ g_ hr hw hg2
  exact (hY lc h_ g_ hr hw.tail hg2).mono (fun y_ hx => zX'.s hk hg hs hx)
end
