/-! TYPED RUNS: calls, returns, throws, arrays -/
def zrcv (kd cl_ : Nat) (as_ : List zW) : Bool := match kd with
  | 0 => true
  | 1 => (match as_ with | .inr (.inr (.inl p_)) :: _ => decide (zct p_.1 = cl_) | _ => false)
  | _ => false
section
variable {sc_ : zScr} {d_ m_ pc len_ a_ b_ : Nat} {ls : zWs} {st_ rest_ : List zW} {I_ I' : zIn} {L_ L' : zLi} {Q_ : zPost} {i_ : Instr} {imm_ : Int32} {q_ : Nat}
theorem zrcv_ok {lc : zAd} {h_ : zHp} {g_ kd cl_ : Nat} {as_ : List zW} (hr : zRep lc I_ L_ h_ g_) (hw : ∀ w_ ∈ as_, zok I_ w_) (hv : zrcv kd cl_ as_ = true) : zrecv h_ kd cl_ (zts lc as_) = true := by
  unfold zrcv at hv
  split at hv
  · exact Eq.refl _
  · split at hv
    · rename_i p_ r_
      exact zlrecv hr (hw _ List.mem_cons_self) (of_decide_eq_true hv) _
    · cases hv
  · cases hv
theorem zall_tr {lc : zAd} {as_ : List zW} (h_ : as_.all zc1w = true) : (zts lc as_).all zcat1 = true := by
  rw [List.all_eq_true] at h_ ⊢
  intro v_ hv
  obtain ⟨w_, h1, rfl⟩ := List.mem_map.mp hv
  rw [zc1w_tr]; exact h_ w_ h1
theorem zts_app {lc : zAd} {as_ rest_ : List zW} (h_ : st_ = as_.reverse ++ rest_) : zts lc st_ = (zts lc as_).reverse ++ zts lc rest_ := by
  rw [h_]; simp [zts]
/-- a call -/
theorem zY.cg {as_ : List zW} {d0_ a1_ : Nat} {Q1_ : zPost} (hk : zcode m_ pc = some (i_, len_, imm_, q_, b_)) (hg : zgrp i_ q_ = 3) (hn : as_.length = (zinf q_).1) (hst : st_ = as_.reverse ++ rest_) (hl : rest_.length ≤ 4) (hc_ : as_.all zc1w = true) (hml : (zinf q_).1 ≤ (zinf q_).2.1) (hv : zrcv (zinf q_).2.2.1 (zinf q_).2.2.2.1 as_ = true)
    (hM_ : zYm d0_ q_ as_ I_ L_ a1_ Q1_) (hd_ : d0_ ≤ d_) (ha_ : a1_ ≤ a_) (hN_ : ∀ v_ I' L', Q1_ (.inl v_) I' L' → zY sc_ (d_ + 1) m_ (pc + len_) ls (v_.toList ++ rest_) I' L' (a_ - a1_) Q_)
    (hE : ∀ E_ I' L', Q1_ (.inr E_) I' L' → b_ ≠ 7 ∧ ((zhand m_ pc E_ = none ∧ Q_ (.inr E_) I' L') ∨ (∃ t_ k_, zhand m_ pc E_ = some (t_, k_) ∧ k_ < ls.length ∧ zclw ls k_ = true ∧ zY sc_ (d_ + 1) m_ t_ (ls.set k_ none) [] I' L' (a_ - a1_) Q_))) : zY sc_ (d_ + 1) m_ pc ls st_ I_ L_ a_ Q_ := by
  intro lc h_ g_ hr hw hg2
  have hwa : ∀ w_ ∈ as_, zok I_ w_ := fun w_ hw1 => hw.2 w_ (by rw [hst]; exact List.mem_append_left _ (List.mem_reverse.mpr hw1))
  have hwr : ∀ w_ ∈ rest_, zok I_ w_ := fun w_ hw1 => hw.2 w_ (by rw [hst]; exact List.mem_append_right _ hw1)
  obtain ⟨r_, h1, lc1, I1, L1, c1_, c2_, c3_, c4_, c5_⟩ := hM_ lc h_ g_ hr hwa (by omega)
  have hwl1 : ∀ w_, some w_ ∈ ls → zok I1 w_ := fun w_ hw1 => c2_.ok (hw.1 w_ hw1)
  have hwr1 : ∀ w_ ∈ rest_, zok I1 w_ := fun w_ hw1 => c2_.ok (hwr w_ hw1)
  have hn' : (zts lc as_).length = (zinf q_).1 := by simpa using hn
  have hl' : (zts lc rest_).length ≤ 4 := by simpa using hl
  cases r_ with
  | inl v_ =>
    obtain ⟨r2, h2, lc2, I2_, L2_, e1_, e2_, e3_, e4_, e5_⟩ := hN_ v_ I1 L1 c5_ lc1 h1 (g_ + a1_) c3_ ⟨hwl1, fun w_ hw1 => by
      rcases List.mem_append.mp hw1 with h3 | h3
      · cases v_ with
        | none => cases h3
        | some v1_ =>
          rcases List.mem_singleton.mp h3 with rfl
          exact c4_
      · exact hwr1 w_ h3⟩ (by omega)
    refine ⟨r2, h2, lc2, I2_, L2_, ?_, c2_.trans e2_, ?_, e4_, e5_⟩
    · refine zX'.c (as := zts lc as_) (rest := zts lc rest_) (v := v_.map (ztr lc1)) hk hg hn' (zts_app hst) hl' (zall_tr hc_) hml (zrcv_ok hr hwa hv) c1_ hd_ ?_
      rw [c2_.stl hw.1] at e1_
      have : zts lc1 (v_.toList ++ rest_) = (v_.map (ztr lc1)).toList ++ zts lc rest_ := by
        rw [← c2_.sts hwr]
        cases v_ <;> simp [zts]
      rw [this] at e1_
      exact e1_
    · rw [show g_ + a_ = g_ + a1_ + (a_ - a1_) by omega]; exact e3_
  | inr E_ =>
    obtain ⟨hb_, ⟨hh, hQ⟩ | ⟨t_, k_, hh, hk1, hk2, hY⟩⟩ := hE E_ I1 L1 c5_
    · refine ⟨.inr E_, h1, lc1, I1, L1, ?_, c2_, c3_.le (by omega), trivial, hQ⟩
      exact zX'.cx (as := zts lc as_) (rest := zts lc rest_) hk hg hn' (zts_app hst) hl' (zall_tr hc_) hml (zrcv_ok hr hwa hv) hb_ c1_ hd_ hh (Eq.refl _)
    · have hok : ∀ w_, some w_ ∈ ls.set k_ none → zok I1 w_ := by
        intro w_ hw1
        rcases List.mem_or_eq_of_mem_set hw1 with h3 | h3
        · exact hwl1 w_ h3
        · cases h3
      obtain ⟨r2, h2, lc2, I2_, L2_, e1_, e2_, e3_, e4_, e5_⟩ := hY lc1 h1 (g_ + a1_) c3_ ⟨hok, fun w_ hw1 => by cases hw1⟩ (by omega)
      refine ⟨r2, h2, lc2, I2_, L2_, ?_, c2_.trans e2_, ?_, e4_, e5_⟩
      · refine zX'.ch (as := zts lc as_) (rest := zts lc rest_) hk hg hn' (zts_app hst) hl' (zall_tr hc_) hml (zrcv_ok hr hwa hv) hb_ c1_ hd_ hh ⟨by simpa using hk1, by rw [zclw_tr]; exact hk2⟩ ?_
        have : ztl lc1 (ls.set k_ none) = (ztl lc ls).set k_ none := by
          rw [← c2_.stl hw.1]; simp [ztl]
        rw [this] at e1_
        exact e1_
      · rw [show g_ + a_ = g_ + a1_ + (a_ - a1_) by omega]; exact e3_
/-- a call that doesn't throw -/
theorem zY.c {as_ : List zW} {d0_ a1_ : Nat} {Q1_ : zPost} (hM_ : zYm d0_ q_ as_ I_ L_ a1_ Q1_) (hk : zcode m_ pc = some (i_, len_, imm_, q_, b_)) (hg : zgrp i_ q_ = 3) (hn : as_.length = (zinf q_).1) (hst : st_ = as_.reverse ++ rest_) (hl : rest_.length ≤ 4) (hc_ : as_.all zc1w = true) (hml : (zinf q_).1 ≤ (zinf q_).2.1) (hv : zrcv (zinf q_).2.2.1 (zinf q_).2.2.2.1 as_ = true)
    (hd_ : d0_ ≤ d_) (ha_ : a1_ ≤ a_) (hN_ : ∀ r_ I' L', Q1_ r_ I' L' → ∃ v_, r_ = .inl v_ ∧ zY sc_ (d_ + 1) m_ (pc + len_) ls (v_.toList ++ rest_) I' L' (a_ - a1_) Q_) : zY sc_ (d_ + 1) m_ pc ls st_ I_ L_ a_ Q_ := by
  refine zY.cg hk hg hn hst hl hc_ hml hv hM_ hd_ ha_ (fun v_ I' L' hq => ?_) (fun E_ I' L' hq => ?_)
  · obtain ⟨v1_, h1, h2⟩ := hN_ _ _ _ hq
    cases h1; exact h2
  · obtain ⟨v1_, h1, h2⟩ := hN_ _ _ _ hq
    cases h1
/-- a call of which all is known -/
theorem zY.cr {as_ : List zW} {d0_ a1_ : Nat} {v_ : Option zW} (hM_ : zYm d0_ q_ as_ I_ L_ a1_ (zRet v_ I' L')) (hk : zcode m_ pc = some (i_, len_, imm_, q_, b_)) (hg : zgrp i_ q_ = 3) (hn : as_.length = (zinf q_).1) (hst : st_ = as_.reverse ++ rest_) (hl : rest_.length ≤ 4) (hc_ : as_.all zc1w = true) (hml : (zinf q_).1 ≤ (zinf q_).2.1) (hv : zrcv (zinf q_).2.2.1 (zinf q_).2.2.2.1 as_ = true)
    (hd_ : d0_ ≤ d_) (ha_ : a1_ ≤ a_) (hN_ : zY sc_ (d_ + 1) m_ (pc + len_) ls (v_.toList ++ rest_) I' L' (a_ - a1_) Q_) : zY sc_ (d_ + 1) m_ pc ls st_ I_ L_ a_ Q_ := by
  refine zY.c hM_ hk hg hn hst hl hc_ hml hv hd_ ha_ (fun r_ I2_ L2_ hq => ?_)
  obtain ⟨rfl, rfl, rfl⟩ := hq
  exact ⟨v_, Eq.refl _, hN_⟩
/-- ends -/
theorem zY.rx {v_ : Option zW} (hk : zcode m_ pc = some (i_, len_, imm_, q_, b_)) (hg : zgrp i_ q_ = 4) (hz : ∀ lc, zret i_ (zinf m_).2.2.2.2 (zts lc st_) = some (v_.map (ztr lc))) (ho : ∀ w_, v_ = some w_ → zok I_ w_ ∨ w_ ∈ st_) (hQ : Q_ (.inl v_) I_ L_) : zY sc_ d_ m_ pc ls st_ I_ L_ a_ Q_ := by
  intro lc h_ g_ hr hw hg2
  refine ⟨.inl v_, h_, lc, I_, L_, zX'.r hk hg (hz lc) (Eq.refl _), zExt.rfl, hr.le (by omega), ?_, hQ⟩
  cases v_ with
  | none => trivial
  | some w_ =>
    rcases ho w_ (Eq.refl _) with h1 | h1
    · exact h1
    · exact hw.2 w_ h1
theorem zY.ri {x_ : Int32} (hk : zcode m_ pc = some (.ireturn, len_, imm_, q_, b_)) (hz : (zinf m_).2.2.2.2 = 0) (hQ : Q_ (.inl (some (zwI x_))) I_ L_) : zY sc_ d_ m_ pc ls [zwI x_] I_ L_ a_ Q_ :=
  zY.rx hk (Eq.refl _) (fun lc => by rw [hz]; exact Eq.refl _) (fun w_ hw => Or.inl (by cases hw; trivial)) hQ
theorem zY.rb {x_ : Int32} (hk : zcode m_ pc = some (.ireturn, len_, imm_, q_, b_)) (hz : (zinf m_).2.2.2.2 = 1) (hx : x_ = 0 ∨ x_ = 1) (hQ : Q_ (.inl (some (zwI x_))) I_ L_) : zY sc_ d_ m_ pc ls [zwI x_] I_ L_ a_ Q_ :=
  zY.rx hk (Eq.refl _) (fun lc => by rw [hz]; simp [zret, zts, ztr, hx]) (fun w_ hw => Or.inl (by cases hw; trivial)) hQ
theorem zY.ra {c1_ i1_ : Nat} (hk : zcode m_ pc = some (.areturn, len_, imm_, q_, b_)) (hz : (zinf m_).2.2.2.2 = 2) (hQ : Q_ (.inl (some (zwR c1_ i1_))) I_ L_) : zY sc_ d_ m_ pc ls [zwR c1_ i1_] I_ L_ a_ Q_ :=
  zY.rx hk (Eq.refl _) (fun lc => by rw [hz]; exact Eq.refl _) (fun w_ hw => Or.inr (by cases hw; exact List.mem_cons_self)) hQ
theorem zY.rn (hk : zcode m_ pc = some (.areturn, len_, imm_, q_, b_)) (hz : (zinf m_).2.2.2.2 = 2) (hQ : Q_ (.inl (some (zwK 0))) I_ L_) : zY sc_ d_ m_ pc ls [zwK 0] I_ L_ a_ Q_ :=
  zY.rx hk (Eq.refl _) (fun lc => by rw [hz]; exact Eq.refl _) (fun w_ hw => Or.inl (by cases hw; trivial)) hQ
theorem zY.rl {x_ : Int64} (hk : zcode m_ pc = some (.lreturn, len_, imm_, q_, b_)) (hz : (zinf m_).2.2.2.2 = 3) (hQ : Q_ (.inl (some (zwL x_))) I_ L_) : zY sc_ d_ m_ pc ls [zwL x_] I_ L_ a_ Q_ :=
  zY.rx hk (Eq.refl _) (fun lc => by rw [hz]; exact Eq.refl _) (fun w_ hw => Or.inl (by cases hw; trivial)) hQ
theorem zY.rv (hk : zcode m_ pc = some (.return_, len_, imm_, q_, b_)) (hz : (zinf m_).2.2.2.2 = 4) (hQ : Q_ (.inl none) I_ L_) : zY sc_ d_ m_ pc ls [] I_ L_ a_ Q_ :=
  zY.rx hk (Eq.refl _) (fun lc => by rw [hz]; exact Eq.refl _) (fun w_ hw => by cases hw) hQ
/-- a throw -/
theorem zY.th (hk : zcode m_ pc = some (i_, len_, imm_, q_, b_)) (hg : zgrp i_ q_ = 5) (hE : 9 ≤ q_ ∧ q_ < 12) (ha_ : 7 ≤ a_) (hQ : Q_ (.inr q_) I_ L_) : zY sc_ d_ m_ pc ls [] I_ L_ a_ Q_ := by
  intro lc h_ g_ hr hw hg2
  have hlen := hr.len
  exact ⟨.inr q_, _, lc, I_, L_, zX'.t hk hg (by omega) (Eq.refl _) (Eq.refl _), zExt.rfl, (hr.push hE).le (by omega), trivial, hQ⟩
end
