/-! THE BODY'S STEP -/
theorem zKs_len : zKs.length = 211 := by decide +kernel
theorem zon_ok : ∀ m, m < 211 → (zOwn[zon m]?).getD "" = (zy m).cls := by decide +kernel
theorem zkind2 : ∀ a, a < 211 → (zinf a).2.2.1 = 2 → (zinf a).2.2.2.2 = 4 := by decide +kernel
theorem zcode_lt {m pc : Nat} {ri : zRI} (h : zcode m pc = some ri) : m < 211 ∧ (pc, ri) ∈ (zKs[m]?).getD [] := by
  unfold zcode at h
  have hm := zlook _ _ _ h
  refine ⟨?_, hm⟩
  rcases Nat.lt_or_ge m 211 with q | q
  · exact q
  · rw [List.getElem?_eq_none (by rw [zKs_len]; exact q)] at hm
    simp at hm
theorem z_ok {m pc : Nat} {i : Instr} {len : Nat} {imm : Int32} {a b : Nat} (h : zcode m pc = some (i, len, imm, a, b)) :
    decode (zby m) pc = .ok (i, len) ∧ (len = zlen i ∨ zisw i = true) ∧ zimm i imm = true ∧ ztgt i pc (if zisw i = true then 0 else a) = true ∧
    (zneed i = true → ((∃ idx, i = .new idx ∧ (m, pc, idx, a, b) ∈ zThL) ∨ zlnk (zy m).cls (zkd m i) i imm a b)) := by
  obtain ⟨hlt, hm⟩ := zcode_lt h
  have h1 := List.all_eq_true.mp (zdcA210 m hlt) _ hm
  obtain ⟨j, h2⟩ := zndA210 m hlt _ hm
  simp only [zdecB, Bool.and_eq_true, decide_eq_true_eq, Bool.or_eq_true] at h1
  refine ⟨h1.1.1.1, h1.1.1.2, h1.1.2, h1.2, fun hn => ?_⟩
  unfold zneedB at h2
  rw [hn] at h2
  simp only [Bool.not_true, Bool.false_or] at h2
  split at h2
  · cases i <;> first | (exact absurd h2 Bool.false_ne_true) | skip
    rename_i idx
    simp only [Bool.and_eq_true, decide_eq_true_eq, List.any_eq_true] at h2
    obtain ⟨-, y, hy, rfl⟩ := h2
    exact Or.inl ⟨idx, rfl, hy⟩
  · have h2 := of_decide_eq_true h2
    refine Or.inr ?_
    cases hl : zLkk[j / 40]? with
    | none => rw [hl] at h2; simp at h2
    | some l0 =>
      rw [hl] at h2
      have := zLkk_ok l0 (List.mem_of_getElem? hl) _ (List.mem_of_getElem? h2)
      dsimp only at this
      rw [zon_ok m hlt] at this
      exact this
theorem zpure_len {i : Instr} {imm : Int32} {ls ls' : zLs} {st st2 : List Value} (hp : zpure i imm ls st = some (ls', st2)) : ls'.length = ls.length := by
  have pl : ∀ {k : Nat} {v : Value} {l0 : zLs}, zput ls k v = some l0 → l0.length = ls.length := fun h => by obtain ⟨-, -, rfl⟩ := zput_spec h; simp
  unfold zpure at hp
  split at hp
  · cases hp; rfl
  · cases hp; rfl
  · cases hp; rfl
  · cases hp; rfl
  · cases hp; rfl
  · cases hp; rfl
  · obtain ⟨x, h1, rfl, rfl⟩ := zldI_spec hp; rfl
  · obtain ⟨x, h1, rfl, rfl⟩ := zldI_spec hp; rfl
  · obtain ⟨x, h1, rfl, rfl, -⟩ := zldA_spec hp; rfl
  · obtain ⟨x, h1, rfl, rfl, -⟩ := zldA_spec hp; rfl
  · obtain ⟨x, h1, rfl, rfl⟩ := zldL_spec hp; rfl
  · obtain ⟨x, h1, rfl, rfl⟩ := zldL_spec hp; rfl
  · obtain ⟨x, rfl, h1⟩ := zstI_spec hp; exact pl h1
  · obtain ⟨x, rfl, h1⟩ := zstI_spec hp; exact pl h1
  · obtain ⟨x, rfl, h1, -⟩ := zstA_spec hp; exact pl h1
  · obtain ⟨x, rfl, h1, -⟩ := zstA_spec hp; exact pl h1
  · obtain ⟨x, l0, rfl, -, h1, rfl⟩ := zstL_spec hp; rw [List.length_set]; exact pl h1
  · obtain ⟨x, l0, rfl, -, h1, rfl⟩ := zstL_spec hp; rw [List.length_set]; exact pl h1
  · obtain ⟨x, h1, h2, rfl⟩ := zinc_spec hp; exact pl h2
  · obtain ⟨x, y, r, rfl, rfl, rfl⟩ := zbin_spec hp; rfl
  · obtain ⟨x, y, r, rfl, rfl, rfl⟩ := zbin_spec hp; rfl
  · obtain ⟨x, y, r, rfl, rfl, rfl⟩ := zbin_spec hp; rfl
  · obtain ⟨x, y, r, rfl, rfl, rfl⟩ := zbin_spec hp; rfl
  · obtain ⟨x, y, r, rfl, rfl, rfl⟩ := zbin_spec hp; rfl
  · obtain ⟨x, y, r, rfl, rfl, rfl⟩ := zbin_spec hp; rfl
  · obtain ⟨x, y, r, rfl, hy, rfl, rfl⟩ := zbin0_spec hp; rfl
  · obtain ⟨x, y, r, rfl, hy, rfl, rfl⟩ := zbin0_spec hp; rfl
  · unfold zneg at hp; split at hp
    · cases hp; rfl
    · cases hp
  · obtain ⟨v, r, rfl, hc, rfl, rfl⟩ := zdup_spec hp; rfl
  · obtain ⟨v, rfl, hc, rfl⟩ := zpop_spec hp; rfl
  · obtain ⟨v, w, r, rfl, hc, hc2, rfl, rfl⟩ := zdup2_spec hp; rfl
  · obtain ⟨v, w, r, rfl, hc, hc2, rfl, rfl⟩ := zdupx_spec hp; rfl
  · unfold zi2l at hp; split at hp
    · cases hp; rfl
    · cases hp
  · unfold zladd at hp; split at hp
    · cases hp; rfl
    · cases hp
  · unfold zlcmp at hp; split at hp
    · cases hp; rfl
    · cases hp
  · cases hp
theorem zgT {k : Nat} (h : zhd k ∈ zT) : GoodIn zT (zhd k :: zT) := by
  intro w hw
  rcases List.mem_cons.mp hw with rfl | hw
  · exact ⟨h, good_of_word (List.mem_filter.mp h).2⟩
  · exact ⟨hw, good_of_word (List.mem_filter.mp hw).2⟩
theorem zhd_in {k : Nat} (h : zMd k) : zhd k ∈ zT := by
  unfold zhd
  split
  · rename_i q; exact h.2.1 q
  · rename_i q; exact h.2.2.1 q
section
variable {p : Program} {l : Launch} {e : Env} {R : Room} {s : State} {m : MethodId} {args : Array Value} {below : List Frame} {meth : Method} {c : Code} {H : Heap} {locs : List Loc} {cells slots : Nat} {Q : State → Prop}
variable {pc : Nat} {em : Nat → Nat} {scb : Nat} {A : Nat → Prop} {D : va_G} {ws : va_W} {tys : List (ClassId × FieldType)} {arr : Array Slot} {st st' : List Value} {h h1 : zHp} {mc ms : Nat}
set_option maxHeartbeats 8000000 in
/-- a call of the method a, by any link -/
theorem z_run {sc : zScr} {d k : Nat} {i : Instr} {a b : Nat} {imm : Int32} {r : zRes} (C0 : zCx p R s m args meth c em scb A sc (d + 1) k) (hK : va_K D classes tys s) (hP : va_P D classes ws H) (hD : va_D A ws) (hV : va_S A s.heap H locs)
    (hR : zR em scb ws tys h) (hS : zSt em scb ws st st') (har : arr.size = (zinf k).2.1) (hd : decode (zby k) pc = .ok (i, zlen i)) (hk : zlnk (zy k).cls (zkd k i) i imm a b) (hg : zgrp i a = 3) (hmd : a < 210 → zMd a)
    (hcond : (zinf a).1 ≤ st.length ∧ (st.drop (zinf a).1).length ≤ 4 ∧ ((st.take (zinf a).1).reverse.all zcat1) = true ∧ (zinf a).1 ≤ (zinf a).2.1 ∧ zrecv h (zinf a).2.2.1 (zinf a).2.2.2.1 (st.take (zinf a).1).reverse = true)
    (hM : a < 210 → vx_Met l (zy a) (zhd a :: zT) (zrm d mc ms) (zPc em A D ws tys (st'.take (zinf a).1).reverse) (zQc em scb A D ws r h1) (zXc em scb A D ws r h1) mc ms A) (hc1 : cells + mc ≤ R.cells) (hc2 : slots + ms ≤ R.slots) :
    ∃ av, vx_Run p l e R s m args below meth c H locs cells slots mc ms (F0 m pc arr st') (st'.drop (zinf a).1) (zQc em scb A D ws r h1 av) (zXc em scb A D ws r h1) A := by
  obtain ⟨hx, hb, hml, hown, hts, hlk, hini, hfr, hlo, hG, hA, hsc, htb⟩ := C0
  have hl2 := hS.len
  have hpc : ∀ U : State, U.heap = H → s.WarmedH U.vm → zPc em A D ws tys (st'.take (zinf a).1).reverse ((st'.take (zinf a).1).reverse.toArray) U := fun U hU hW =>
    ⟨rfl, va_K.moved hW.alike hK, by rw [hU]; exact hP, hD, zG.to hG hW (fun q q1 q2 => by rw [hU]; exact hV.2.1 q q1 q2), fun q hq => hA q (Nat.le_trans hV.1 (by rw [hU] at hq; exact hq))⟩
  have hst : st' = (st'.take (zinf a).1).reverse.reverse ++ st'.drop (zinf a).1 := by rw [List.reverse_reverse, List.take_append_drop]
  have hW8 : 2 * (F0 m pc arr st').monitorRoom + ((st'.drop (zinf a).1).map fun v => v.category).sum ≤ 8 := by
    refine lv_room ?_
    have := zcats (st'.drop (zinf a).1)
    have h4 := hcond.2.1
    simp only [List.length_drop] at this h4
    omega
  have S0 : CallFix p m c (zby k) (zinf k).2.1 s args zT (zy k).cls := ⟨hx, hb, hml, hown, hts⟩
  have hlen : ((st'.take (zinf a).1).reverse).length = (zinf a).1 := by
    rw [List.length_reverse, List.length_take]
    have := hcond.1
    omega
  have zS1 := (hS.take (zinf a).1).rev
  -- the receiver
  have recv : (zinf a).2.2.1 ≠ 0 → ∃ (q : Nat) (As : List Value) (bq : Nat) (As' : List Value) (eq : va_E), (st.take (zinf a).1).reverse = .ref q :: As ∧ (st'.take (zinf a).1).reverse = .ref bq :: As' ∧ ws[q]? = some (bq, eq) ∧ ((zinf a).2.2.1 = 1 → ∃ fs, h[q]? = some ((zinf a).2.2.2.1, fs)) ∧ As'.length = (zinf a).1 - 1 := by
    intro hk0
    have h5 := hcond.2.2.2.2
    cases hal : (st.take (zinf a).1).reverse with
    | nil =>
      rw [hal] at h5
      unfold zrecv at h5
      split at h5
      · exact absurd (by assumption) hk0
      · simp at h5
      · simp at h5
    | cons v As =>
      cases v with
      | ref q =>
        rw [hal] at zS1
        obtain ⟨v', r1, e1, ⟨bq, eq, e2, e3⟩, -⟩ := zS1.any
        subst e3
        refine ⟨q, As, bq, r1, eq, rfl, e1, e2, fun hk1 => ?_, ?_⟩
        · rw [hal, hk1] at h5
          simp only [zrecv] at h5
          split at h5
          · rename_i c0 s0 hq
            have : c0 = (zinf a).2.2.2.1 := by simpa using h5
            rw [← this]
            exact ⟨s0, hq⟩
          · cases h5
        · rw [e1] at hlen
          simp only [List.length_cons] at hlen
          omega
      | _ =>
        rw [hal] at h5
        unfold zrecv at h5
        split at h5
        · exact absurd (by assumption) hk0
        · simp at h5
        · simp at h5
  -- what every link says
  have main : ∀ idx : Nat, zclk (zy k).cls idx a b → (b = 0 ∧ decode (zby k) pc = .ok (.invokevirtual idx, 3)) ∨ ((b = 1 ∨ b = 4) ∧ decode (zby k) pc = .ok (.invokespecial idx, 3)) ∨ ((b = 2 ∨ b = 5 ∨ b = 7) ∧ decode (zby k) pc = .ok (.invokestatic idx, 3)) → ∃ av, vx_Run p l e R s m args below meth c H locs cells slots mc ms (F0 m pc arr st') (st'.drop (zinf a).1) (zQc em scb A D ws r h1 av) (zXc em scb A D ws r h1) A := by
    intro idx hcl hdec
    obtain ⟨⟨⟨n1, n2, n3⟩, n4, n5, n6⟩, hb6⟩ := hcl
    have M0 := hmd n6
    have hMet := hM n6
    have hin := zhd_in M0
    have hrooms : (zrm d mc ms).frames + 1 ≤ R.frames ∧ 8 + ((zinf a).2.1 + 11) + (zrm d mc ms).locals ≤ R.locals := by
      simp only [zrm]
      omega
    have cb : zhh a = [] → ∀ n, (parseMethodDescriptor (zy a).desc).map (fun d => d.parameters.length) = some n → (Cond.methodLink (zy k).cls idx (zy a)).before args s = true → CallB R s args (zy k).cls idx (zy a) (zby a) (zinf a).2.1 (zrt a) (zhd a :: zT) (zrm d mc ms) mc ms n := by
      intro hh n hn hl
      exact callB_of n hts (zgT hin) (by unfold zhd; rw [if_pos hh]) rfl rfl (hts _ n4) hl ⟨n1, n2, hn⟩ hrooms
    have cn : zhh a = [] → ∀ n host, (parseMethodDescriptor (zy a).desc).map (fun d => d.parameters.length) = some n → va_Nw (.methodLinkNest (zy k).cls idx (zy a) host) s → va_CN R s args (zy k).cls idx (zy a) host (zby a) (zinf a).2.1 (zrt a) (zhd a :: zT) (zrm d mc ms) mc ms n := by
      intro hh n host hn hl
      exact va_cnB n hts (zgT hin) (by unfold zhd; rw [if_pos hh]) rfl rfl hl (hts _ n4) ⟨n1, n2, hn⟩ hrooms
    have hrt : (zinf a).2.2.1 = 2 → (zy a).name = "<init>" → zrt a = none := by
      intro hk2 hnm
      have h4 := zkind2 a (by omega) hk2
      rcases M0.2.2.2.1 with ⟨z, -⟩ | ⟨z, -⟩ | ⟨z, -⟩ | ⟨z, -⟩ | ⟨-, z⟩ <;> first | exact z | omega
    rcases hb6 with ⟨rfl, q1, q2, q3, q4, q5, q6, T, N, q7⟩ | ⟨rfl, q1, q2, q3, q4, q5⟩ | ⟨rfl, q1, q2, q3, q4⟩ | ⟨rfl, q1, q2, ⟨host, q3⟩, q4, q5⟩ | ⟨rfl, q1, q2, ⟨host, q3⟩, q4⟩ | ⟨rfl, q1, q2, q3, q4⟩
    · obtain ⟨q, As, bq, As', eq, e1, e2, e3, e4, e5⟩ := recv (by rw [q1]; decide)
      obtain ⟨fs, e6⟩ := e4 q1
      rw [q1, if_neg (by decide)] at n3
      have hdv : decode (zby k) pc = .ok (.invokevirtual idx, 3) := by rcases hdec with ⟨-, z⟩ | ⟨z, -⟩ | ⟨z, -⟩ <;> first | exact z | omega
      obtain ⟨ad2, e7, e8, e9⟩ := hR.get e6
      rw [e3] at e8
      cases e8
      rcases e9 with ⟨-, fs', rfl, -⟩ | ⟨z, -⟩ | ⟨z, -⟩ | ⟨z, -⟩ | ⟨z, -⟩
      · refine ⟨_, vx_runV (C := (zy a).cls) (b := bq) (As := As') S0 hMet ⟨cb q2 _ n3 (hts _ q3), hts _ q4, hts _ q5⟩ ⟨zPc_blind, va_recv hK hP q7 e3, fun U hU hW => ?_⟩ rfl e5 har ?_ hW8 hdv ⟨hc1, hc2⟩⟩
        · have := hpc U hU hW
          rw [e2] at this ⊢
          exact this
        · show st' = _
          conv => lhs; rw [hst, e2]
          simp
      all_goals (have z : (zinf a).2.2.2.1 = _ := z; omega)
    · obtain ⟨q, As, bq, As', eq, e1, e2, e3, e4, e5⟩ := recv (by rw [q1]; decide)
      rw [q1, if_neg (by decide)] at n3
      have hdv : decode (zby k) pc = .ok (.invokespecial idx, 3) := by rcases hdec with ⟨z, -⟩ | ⟨-, z⟩ | ⟨z, -⟩ <;> first | exact z | omega
      have cb1 := cb q2 _ n3 (hts _ q3)
      rw [hrt q1 q5] at cb1
      refine ⟨_, vx_runI (b := bq) (As := As') S0 hMet ⟨cb1, q5, hts _ q4⟩ ⟨zPc_blind, fun U hU hW => ?_⟩ rfl e5 har ?_ hW8 hdv ⟨hc1, hc2⟩⟩
      · have := hpc U hU hW
        rw [e2] at this ⊢
        exact this
      · show st' = _
        conv => lhs; rw [hst, e2]
        simp
    · rw [q1, if_pos rfl, Nat.sub_zero] at n3
      have hdv : decode (zby k) pc = .ok (.invokestatic idx, 3) := by rcases hdec with ⟨z, -⟩ | ⟨z, -⟩ | ⟨-, z⟩ <;> first | exact z | omega
      exact ⟨_, vx_runS (As := (st'.take (zinf a).1).reverse) S0 hMet ⟨cb q2 _ n3 (hts _ q3), hts _ q4⟩ ⟨zPc_blind, hpc⟩ rfl hlen har hst hW8 hdv ⟨hc1, hc2⟩⟩
    · obtain ⟨q, As, bq, As', eq, e1, e2, e3, e4, e5⟩ := recv (by rw [q1]; decide)
      rw [q1, if_neg (by decide)] at n3
      have hdv : decode (zby k) pc = .ok (.invokespecial idx, 3) := by rcases hdec with ⟨z, -⟩ | ⟨-, z⟩ | ⟨z, -⟩ <;> first | exact z | omega
      have cn1 := cn q2 _ host n3 (hG.2.2.2.2.2.1 _ q3)
      rw [hrt q1 q5] at cn1
      refine ⟨_, vx_runIN (b := bq) (As := As') S0 hMet ⟨cn1, q5, hts _ q4⟩ ⟨zPc_blind, fun U hU hW => ?_⟩ rfl e5 har ?_ hW8 hdv ⟨hc1, hc2⟩⟩
      · have := hpc U hU hW
        rw [e2] at this ⊢
        exact this
      · show st' = _
        conv => lhs; rw [hst, e2]
        simp
    · rw [q1, if_pos rfl, Nat.sub_zero] at n3
      have hdv : decode (zby k) pc = .ok (.invokestatic idx, 3) := by rcases hdec with ⟨z, -⟩ | ⟨z, -⟩ | ⟨-, z⟩ <;> first | exact z | omega
      exact ⟨_, vx_runSN (As := (st'.take (zinf a).1).reverse) S0 hMet ⟨cn q2 _ host n3 (hG.2.2.2.2.2.1 _ q3), hts _ q4, trivial⟩ ⟨zPc_blind, hpc⟩ rfl hlen har hst hW8 hdv ⟨hc1, hc2⟩⟩
    · rw [q1, if_pos rfl, Nat.sub_zero] at n3
      have hdv : decode (zby k) pc = .ok (.invokestatic idx, 3) := by rcases hdec with ⟨z, -⟩ | ⟨z, -⟩ | ⟨-, z⟩ <;> first | exact z | omega
      have hhd : zhd a = .codeWith (zy a) (zby a) (zinf a).2.1 (zrt a) (zhh a) := by unfold zhd; rw [if_neg q2]
      have cw : vx_CSW R s args (zy k).cls idx (zy a) (zby a) (zinf a).2.1 (zrt a) (zhh a) (zhd a :: zT) (zrm d mc ms) mc ms (zinf a).1 := by
        refine ⟨⟨rfl, rfl, hrooms.1, hrooms.2, pay_in hts (zgT hin), by rw [← hhd]; exact List.mem_cons_self⟩, by rw [← hhd]; exact hts _ hin, hts _ n4, ⟨n1, n2⟩, fun sig hsg => ?_, hts _ q3, hts _ q4⟩
        rw [hsg] at n3
        exact (Option.some.inj n3).symm
      exact ⟨_, vx_runSX (As := (st'.take (zinf a).1).reverse) S0 hMet cw ⟨zPc_blind, hpc⟩ rfl hlen har hst hW8 hdv ⟨hc1, hc2⟩⟩
  cases i <;> simp only [zgrp] at hg <;> (try (cases hg; done)) <;> (try (split at hg <;> cases hg; done))
  case invokevirtual idx =>
    rcases hk with ⟨hk, -⟩ | ⟨-, hb0, hk⟩
    · rw [hk] at hg; simp at hg
    · exact main idx hk (Or.inl ⟨hb0, hd⟩)
  case invokespecial idx =>
    rcases hk with ⟨hk, -⟩ | ⟨-, hb0, hk⟩
    · rw [hk] at hg; simp at hg
    · exact main idx hk (Or.inr (Or.inl ⟨hb0, hd⟩))
  case invokestatic idx =>
    rcases hk with ⟨hk, -⟩ | ⟨-, hb0, hk⟩ | ⟨hk, -⟩
    · rw [if_pos (by omega)] at hg; cases hg
    · exact main idx hk (Or.inr (Or.inr ⟨hb0, hd⟩))
    · rw [if_pos (by omega)] at hg; cases hg
end
