/-! THE STEP OF ALL BODIES, AND ALL OF THEM -/
theorem zlook2 {β : Type} : ∀ (l : List ((Nat × Nat) × β)) (k : Nat × Nat) (v : β), l.lookup k = some v → (k, v) ∈ l
  | [], _, _, h => by simp at h
  | (a, b) :: r, k, v, h => by
    rw [List.lookup_cons] at h
    split at h
    · rename_i he
      have : k = a := by simpa using he
      cases h; subst this
      exact List.mem_cons_self
    · exact List.mem_cons_of_mem _ (zlook2 r k v h)
theorem zhand_ok {m pc E t k : Nat} (h : zhand m pc E = some (t, k)) : zhok m pc E t k := by
  unfold zhand at h
  cases hl : zHs.lookup (m, pc) with
  | none => rw [hl] at h; simp at h
  | some l0 =>
    rw [hl] at h
    exact zHs_ok _ (zlook2 _ _ _ hl) _ (zlook _ _ _ h)
theorem zret_len {i : Instr} {rc : Nat} {st : List Value} {v : Option Value} (h : zret i rc st = some v) : zlen i = 1 ∧ zisw i = false := by
  unfold zret at h
  split at h
  · exact ⟨rfl, rfl⟩
  · exact ⟨rfl, rfl⟩
  · exact ⟨rfl, rfl⟩
  · exact ⟨rfl, rfl⟩
  · cases h
theorem zneed_of {i : Instr} {a : Nat} (h : zgrp i a = 2 ∨ zgrp i a = 3 ∨ zgrp i a = 5) : zneed i = true ∨ (∃ sc b h0 st, zheap sc i a b h0 st = none) ∨ zneed i = false := by
  cases hz : zneed i
  · exact Or.inr (Or.inr rfl)
  · exact Or.inl rfl
set_option maxHeartbeats 8000000 in
theorem zbody_step {l : Launch} (hl : l.stackTraces = false) {n : Nat} (ih : zBody l n) (ct : ∀ d k, k < 210 → zCt l n d k) : zBody l (n + 1) := by
  intro sc d k pc ls st h r h' hz hrr p e R s m args below meth c em scb A D Q C0 H locs cells slots ws tys arr st' hK hP hD hV hR hL har hS hc1 hc2 finR finX
  have C1 := C0
  obtain ⟨hx, hb, hml, hown, hts, hlk, hini, hfr, hlo, hG, hA, hsc, htb⟩ := C0
  have hmono := zev_mono _ hz
  obtain ⟨i, len, imm, a, b, hcode, hz⟩ := zev_step hz
  obtain ⟨hd, hlen, himm, htgt, hlnk⟩ := z_ok hcode
  have len3 : zgrp i a ≠ 6 → len = zlen i ∧ zisw i = false := fun hg => by
    have h6 : zisw i = false := by
      cases hw : zisw i
      · rfl
      · exfalso
        apply hg
        cases i <;> first | rfl | (simp [zisw] at hw)
    rcases hlen with q | q
    · exact ⟨q, h6⟩
    · rw [h6] at q; cases q
  have hlslen : arr.size = ls.length := hL.1
  rcases hz with ⟨hg, ls', st2, hp, hz⟩ | ⟨hg, t, st2, hp, hz⟩ | ⟨hg, h2, st2, hp, hz⟩ | ⟨hg, d', rfl, hcond, hz⟩ | ⟨hg, v, hret, hxx⟩ | ⟨hg, ⟨-, hst0⟩, hxx⟩ | ⟨hg, t, st2, hp, hz⟩
  · -- pure
    obtain ⟨rfl, -⟩ := len3 (by rw [hg]; decide)
    refine z_pure hx hb hown hp hd himm (fun kk hi => ?_) hL hS (fun arr' st2' hL' hS' => ?_)
    · subst hi
      rcases hlnk rfl with ⟨idx, hi, -⟩ | hk
      · cases hi
      · rcases hk with ⟨ha, -⟩ | ⟨-, hk⟩
        · simp [zgrp, ha] at hg
        · exact hts _ hk
    · exact ih sc d k _ ls' st2 h r h' hz hrr p e R s m args below meth c em scb A D Q C1 H locs cells slots ws tys arr' st2' hK hP hD hV hR hL' (by rw [hL'.1, zpure_len hp, ← hlslen, har]) hS' hc1 hc2 finR finX
  · -- branch
    obtain ⟨rfl, hsw⟩ := len3 (by rw [hg]; decide)
    rw [hsw] at htgt
    refine z_br hx hb hD hG.1 hp hd htgt hS (fun st2' hS' => ?_)
    exact ih sc d k _ ls st2 h r h' hz hrr p e R s m args below meth c em scb A D Q C1 H locs cells slots ws tys arr st2' hK hP hD hV hR hL har hS' hc1 hc2 finR finX
  · -- heap
    obtain ⟨rfl, -⟩ := len3 (by rw [hg]; decide)
    have g1 := zheap_mono hp
    have g2 := zev_mono _ hz
    have hk : zlnk (zy k).cls (zkd k i) i imm a b := by
      cases hn : zneed i
      · exact zlnk_triv hn
      · rcases hlnk hn with ⟨idx, rfl, hth⟩ | hk
        · exfalso
          obtain ⟨ks, ic, tx, -, -, -, -, -, h9, -⟩ := zThL_ok _ hth
          simp only [zgrp, if_pos h9] at hg
          cases hg
        · exact hk
    refine z_heap C1 hK hP hD hV hR hS har hp hd hk hg (by omega) (by omega) (fun st2' ws' tys' H1 locs1 jK jle jP jD jV jR jS _ _ => ?_)
    have e1 : cells + (h2.length - h.length) + (h'.length - h2.length) = cells + (h'.length - h.length) := by omega
    have e2 : slots + (zsz h2 - zsz h) + (zsz h' - zsz h2) = slots + (zsz h' - zsz h) := by omega
    exact ih sc d k _ ls st2 h2 r h' hz hrr p e R s m args below meth c em scb A D Q C1 H1 locs1 _ _ ws' tys' arr st2' jK jP jD jV jR (hL.le jle) har jS (by omega) (by omega)
      (fun i vo pc1 H2 locs2 ws2 tys2 arr2 st1 st1' q1 q2 q3 q4 q5 q6 q7 q8 q9 q10 => by rw [e1, e2]; exact finR i vo pc1 H2 locs2 ws2 tys2 arr2 st1 st1' q1 q2 q3 q4 (jle.tr q5) q6 q7 q8 q9 q10)
      (fun j E q ce pc1 H2 locs2 ws2 tys2 arr2 st1' q1 q2 q3 q4 q5 q6 q7 q8 q9 q10 q11 q12 => by rw [e1, e2]; exact finX j E q ce pc1 H2 locs2 ws2 tys2 arr2 st1' q1 q2 q3 q4 q5 q6 (jle.tr q7) q8 q9 q10 q11 q12)
  · -- call
    obtain ⟨rfl, -⟩ := len3 (by rw [hg]; decide)
    have hl3 : zlen i = 3 := by
      cases i <;> first | rfl | (simp only [zgrp] at hg; first | (cases hg; done) | (split at hg <;> cases hg; done))
    have hn : zneed i = true := by
      cases i <;> first | rfl | (simp only [zgrp] at hg; first | (cases hg; done) | (split at hg <;> cases hg; done))
    have hk : zlnk (zy k).cls (zkd k i) i imm a b := by
      rcases hlnk hn with ⟨idx, rfl, hth⟩ | hk
      · simp only [zgrp] at hg
        split at hg <;> cases hg
      · exact hk
    have zS1 := (hS.take (zinf a).1).rev
    have hna : ((st.take (zinf a).1).reverse).length = (zinf a).1 := by
      rw [List.length_reverse, List.length_take]
      have := hcond.1
      omega
    -- what is behind the call
    have back : ∀ (x : zRes) (h1 : zHp), zev n none d' a 0 (zent (st.take (zinf a).1).reverse (zinf a).2.1) [] h = some (x, h1) → (zhh a ≠ [] → a < 210 → ∃ vo, x = .inl vo) → h1.length ≤ h'.length → zsz h1 ≤ zsz h' →
        (∀ (v v' : Option Value) (ws' : va_W) (tys' : List (ClassId × FieldType)) (H1 : Heap) (locs1 : List Loc), x = .inl v → zVo em scb ws' v v' → zLe ws ws' → va_K D classes tys' s → va_P D classes ws' H1 → va_D A ws' → va_S A s.heap H1 locs1 → zR em scb ws' tys' h1 → W p l e R s m args below meth c H1 locs1 (cells + (h1.length - h.length)) (slots + (zsz h1 - zsz h)) Q (F0 m (pc + 3) arr (v'.toList ++ st'.drop (zinf a).1))) →
        (∀ (j : Nat) (E : String) (q : Nat) (ce : Cell) (ws' : va_W) (tys' : List (ClassId × FieldType)) (H1 : Heap) (locs1 : List Loc), x = .inr j → 9 ≤ j → zexn[j - 9]? = some E → H1[q]? = some ce → ce.vm = .none → s.vm.findClass E = some ce.cls → zLe ws ws' → va_K D classes tys' s → va_P D classes ws' H1 → va_D A ws' → va_S A s.heap H1 locs1 → zR em scb ws' tys' h1 → vx_W p l e R s m args below meth c H1 locs1 (cells + (h1.length - h.length)) (slots + (zsz h1 - zsz h)) Q (F0 m pc arr (st'.drop (zinf a).1)) q) →
        W p l e R s m args below meth c H locs cells slots Q (F0 m pc arr st') := by
      intro x h1 hzc hx7 g1 g2 kk kx
      have g3 := zev_mono _ hzc
      obtain ⟨av, hrun⟩ := z_run (r := x) (h1 := h1) (mc := h1.length - h.length) (ms := zsz h1 - zsz h) (cells := cells) (slots := slots) C1 hK hP hD hV hR hS har hd hk hg (zMd_all a) hcond
        (fun ha => ct d' a ha em scb A D ws tys _ _ h x h1 hzc hna hcond.2.2.2.1 hcond.2.2.1 (fun q => hx7 q ha) hR zS1) (by omega) (by omega)
      exact z_after hrun hV kk kx
    rcases hz with ⟨v, h1, hzc, hz⟩ | ⟨E, h1, hzc, hb7, hz⟩
    · have g2 := zev_mono _ hz
      have g3 := zev_mono _ hzc
      refine back _ h1 hzc (fun _ _ => ⟨v, rfl⟩) g2.1 g2.2 (fun v0 v' ws' tys' H1 locs1 q0 q1 jle jK jP jD jV jR => ?_) (fun j E q ce ws' tys' H1 locs1 q0 => by cases q0)
      cases q0
      have e1 : cells + (h1.length - h.length) + (h'.length - h1.length) = cells + (h'.length - h.length) := by omega
      have e2 : slots + (zsz h1 - zsz h) + (zsz h' - zsz h1) = slots + (zsz h' - zsz h) := by omega
      rw [hl3] at hz
      refine ih sc (d' + 1) k _ ls _ h1 r h' hz hrr p e R s m args below meth c em scb A D Q C1 H1 locs1 _ _ ws' tys' arr _ jK jP jD jV jR (hL.le jle) har ?_ (by omega) (by omega)
        (fun i vo pc1 H2 locs2 ws2 tys2 arr2 st1 st1' q1 q2 q3 q4 q5 q6 q7 q8 q9 q10 => by rw [e1, e2]; exact finR i vo pc1 H2 locs2 ws2 tys2 arr2 st1 st1' q1 q2 q3 q4 (jle.tr q5) q6 q7 q8 q9 q10)
        (fun j E q ce pc1 H2 locs2 ws2 tys2 arr2 st1' q1 q2 q3 q4 q5 q6 q7 q8 q9 q10 q11 q12 => by rw [e1, e2]; exact finX j E q ce pc1 H2 locs2 ws2 tys2 arr2 st1' q1 q2 q3 q4 q5 q6 (jle.tr q7) q8 q9 q10 q11 q12)
      have hdr := (hS.drop (zinf a).1).le jle
      cases v with
      | none => cases v' with
        | none => exact hdr
        | some _ => exact q1.elim
      | some w => cases v' with
        | none => exact q1.elim
        | some w' => exact ⟨q1, hdr⟩
    · have g3 := zev_mono _ hzc
      have hx7 : zhh a ≠ [] → a < 210 → ∃ vo, (Sum.inr E : zRes) = .inl vo := by
        intro hne ha
        exfalso
        have hcl : ∃ idx, zclk (zy k).cls idx a b := by
          cases i <;> simp only [zgrp] at hg <;> (try (cases hg; done)) <;> (try (split at hg <;> cases hg; done))
          case invokevirtual idx =>
            rcases hk with ⟨q, -⟩ | ⟨-, -, q⟩
            · omega
            · exact ⟨_, q⟩
          case invokespecial idx =>
            rcases hk with ⟨q, -⟩ | ⟨-, -, q⟩
            · omega
            · exact ⟨_, q⟩
          case invokestatic idx =>
            rcases hk with ⟨q, q2, -⟩ | ⟨-, -, q⟩ | ⟨q, -⟩
            · omega
            · exact ⟨_, q⟩
            · omega
        obtain ⟨idx, -, hcl⟩ := hcl
        rcases hcl with ⟨-, -, q, -⟩ | ⟨-, -, q, -⟩ | ⟨-, -, q, -⟩ | ⟨-, -, q, -⟩ | ⟨-, -, q, -⟩ | ⟨q, -⟩ <;> first | exact hne q | exact hb7 q
      rcases hz with ⟨t, k5, hh, hk5, hclr, hz⟩ | ⟨hh, hxx⟩
      · have g2 := zev_mono _ hz
        have e1 : cells + (h1.length - h.length) + (h'.length - h1.length) = cells + (h'.length - h.length) := by omega
        have e2 : slots + (zsz h1 - zsz h) + (zsz h' - zsz h1) = slots + (zsz h' - zsz h) := by omega
        have b1 : cells + (h1.length - h.length) + (h'.length - h1.length) ≤ R.cells := by omega
        have b2 : slots + (zsz h1 - zsz h) + (zsz h' - zsz h1) ≤ R.slots := by omega
        refine back _ h1 hzc hx7 g2.1 g2.2 (fun v0 v' ws' tys' H1 locs1 q0 => by cases q0) (fun j nm q ce ws' tys' H1 locs1 q0 hj9 hE hce hcv hcl jle jK jP jD jV jR => ?_)
        cases q0
        obtain ⟨pre, x, suf, nm2, -, hE2, hsp, hpre, hcov, hct0, hlk1, hcs, hdec⟩ := zhand_ok hh
        rw [hE] at hE2
        cases hE2
        refine vx_catch hown pre x suf (htb.trans hsp) (fun z hz' => ?_) hcov hct0 (hts _ hlk1) (va_Nw.use (zisB_on (List.mem_filter.mp hcs).2) (hG.2.2.2.2.2.1 _ hcs)) hce hcv hcl ?_
        · obtain ⟨z1, n2, z2, z3⟩ := hpre z hz'
          exact Or.inr ⟨z1, n2, hts _ z2, hG.2.2.2.2.2.2.2.2.2.2 _ z3⟩
        · have hL1 := hL.le jle
          have hall := zall_has hL1.2.1
          have go : ∀ arr' : Array Slot, lv_has arr' arr.size ((k5, Value.ref q) :: (zall arr).filter (fun y => !(y.1 == k5) && !(y.1 + 1 == k5 && y.2.category == 2))) → W p l e R s m args below meth c H1 locs1 (cells + (h1.length - h.length)) (slots + (zsz h1 - zsz h)) Q (F0 m t arr' []) := by
            intro arr' ha'
            have hL2 := hL1.clr hk5 hclr ha'
            exact ih sc (d' + 1) k _ _ [] h1 r h' hz hrr p e R s m args below meth c em scb A D Q C1 H1 locs1 _ _ ws' tys' arr' [] jK jP jD jV jR hL2 (by rw [ha'.1]; exact har) trivial b1 b2
              (fun i vo pc1 H2 locs2 ws2 tys2 arr2 st1 st1' q1 q2 q3 q4 q5 q6 q7 q8 q9 q10 => by rw [e1, e2]; exact finR i vo pc1 H2 locs2 ws2 tys2 arr2 st1 st1' q1 q2 q3 q4 (jle.tr q5) q6 q7 q8 q9 q10)
              (fun j E q ce pc1 H2 locs2 ws2 tys2 arr2 st1' q1 q2 q3 q4 q5 q6 q7 q8 q9 q10 q11 q12 => by rw [e1, e2]; exact finX j E q ce pc1 H2 locs2 ws2 tys2 arr2 st1' q1 q2 q3 q4 q5 q6 (jle.tr q7) q8 q9 q10 q11 q12)
          have hkl : k5 < arr.size := by rw [hlslen]; exact hk5
          rcases hdec with ⟨hd5, rfl⟩ | ⟨k4, hd5, hk4, rfl⟩
          · exact lv_astore hx hb hd5 hall hkl rfl go
          · exact lv_astore_n hx hb hd5 hk4 hall hkl rfl go
      · cases hxx
        refine back _ _ hzc hx7 (Nat.le_refl _) (Nat.le_refl _) (fun v0 v' ws' tys' H1 locs1 q0 => by cases q0) (fun j nm q ce ws' tys' H1 locs1 q0 hj9 hE hce hcv hcl jle jK jP jD jV jR => ?_)
        exact finX j nm q ce pc H1 locs1 ws' tys' arr _ q0 hj9 hE hce hcv hcl jle jK jP jD jV jR
  · -- return
    cases hxx
    obtain ⟨l1, l2⟩ := zret_len hret
    obtain ⟨rfl, -⟩ := len3 (by rw [hg]; decide)
    rw [l1] at hd
    have := finR i v pc H locs ws tys arr st st' rfl hd hret hS zLe.rf hK hP hD hV hR
    rwa [Nat.sub_self, Nat.sub_self] at this
  · -- throw new
    cases hxx
    have hn : zneed i = true := by
      cases i <;> first | rfl | (simp only [zgrp] at hg; first | (cases hg; done) | (split at hg <;> cases hg; done))
    have hnew : ∃ idx, i = .new idx ∧ 9 ≤ a := by
      cases i <;> simp only [zgrp] at hg <;> (try (cases hg; done)) <;> (try (split at hg <;> cases hg; done))
      rename_i idx
      split at hg
      · exact ⟨idx, rfl, by assumption⟩
      · cases hg
    obtain ⟨idx, rfl, ha9⟩ := hnew
    have hth : (k, pc, idx, a, b) ∈ zThL := by
      rcases hlnk hn with ⟨idx2, hi, hth⟩ | hk
      · cases hi; exact hth
      · obtain ⟨C, T, N, ty, h0, -⟩ := hk
        omega
    have hthr := zThL_ok _ hth
    have hown9 : (zy k).cls = "DoorstepRides" := zThL_own _ hth
    cases st with
    | cons _ _ => simp at hst0
    | nil =>
      cases st' with
      | cons _ _ => exact hS.elim
      | nil =>
        have e1 : zsz (h ++ [(a, [])]) - zsz h = 6 := by
          have : 9 ≤ a ∧ a < 12 := by
            obtain ⟨ks, ic, tx, -, -, -, -, -, h9, h12, -⟩ := hthr
            exact ⟨h9, h12⟩
          rw [zsz_push]
          simp only [zosz, if_pos this]
          omega
        have e2 : (h ++ [(a, ([] : List Value))]).length - h.length = 1 := by simp
        rw [e1] at hc2 finX
        rw [e2] at hc1 finX
        exact z_throw hl C1 hK hP hD hV hR har hown9 hthr hc1 hc2 (fun E q ce pc1 H1 ws1 q1 q2 q3 q4 q5 q6 q7 q8 q9 => finX a E q ce pc1 H1 locs ws1 tys arr [] rfl ha9 q1 q2 q3 q4 q5 hK q6 q7 q8 q9)
  · -- switch
    have hsw : zisw i = true := by
      cases i <;> first | rfl | (simp only [zgrp] at hg; first | (cases hg; done) | (split at hg <;> cases hg; done))
    rw [hsw] at htgt
    refine z_sw hx hb hp hd htgt hS (fun st2' hS' => ?_)
    exact ih sc d k _ ls st2 h r h' hz hrr p e R s m args below meth c em scb A D Q C1 H locs cells slots ws tys arr st2' hK hP hD hV hR hL har hS' hc1 hc2 finR finX
theorem zbody_all {l : Launch} (hl : l.stackTraces = false) : ∀ n, zBody l n
  | 0 => fun sc d k pc ls st h r h' hz => by simp [zev] at hz
  | n + 1 => zbody_step hl (zbody_all hl n) (fun d k hk => zbody_ct (zbody_all hl n) d k hk (zMd_all k hk))
