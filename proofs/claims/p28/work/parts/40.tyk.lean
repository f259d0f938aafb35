/-! TYPED RUNS of many steps are runs of the logical machine -/
theorem zok_99 {I_ I' : zIn} (h_ : ∀ c_ i_, I' 99 c_ i_ = I_ 99 c_ i_) {w_ : zW} (hw : zok I_ w_) : zok I' w_ := by
  unfold zok at hw ⊢
  split
  · rw [h_]; exact hw
  · trivial
theorem zok_le {I_ I' : zIn} (h_ : ∀ c_ i_, I_ 99 c_ i_ = 1 → I' 99 c_ i_ = 1) {w_ : zW} (hw : zok I_ w_) : zok I' w_ := by
  unfold zok at hw ⊢
  split
  · exact h_ _ _ hw
  · trivial
theorem zWok_99 {I_ I' : zIn} (h_ : ∀ c_ i_, I' 99 c_ i_ = I_ 99 c_ i_) {ls : zWs} {st_ : List zW} (hw : zWok I_ ls st_) : zWok I' ls st_ := ⟨fun w_ h1 => zok_99 h_ (hw.1 w_ h1), fun w_ h1 => zok_99 h_ (hw.2 w_ h1)⟩
theorem zset_99 {I_ : zIn} {c_ i_ f_ : Nat} {x_ : Int32} (hc_ : c_ ≠ 99) : ∀ c' i', zset I_ c_ i_ f_ x_ 99 c' i' = I_ 99 c' i' := by
  intro c' i'
  unfold zset
  rw [if_neg (fun e_ => hc_ e_.1.symm)]
section
variable {sc_ : zScr} {lc : zAd} {I_ I' : zIn} {L_ : zLi} {h_ : zHp} {g_ : Nat} {ls : zWs} {st_ st' : List zW} {i_ : Instr} {a_ b_ : Nat}
theorem zhW_ok (hr : zRep lc I_ L_ h_ g_) (hw : zWok I_ ls st_) (hp : zhW i_ a_ b_ st_ I_ = some (st', I')) : ∃ h', zRep lc I' L_ h' g_ ∧ zWok I' ls st' ∧ (∀ c_ i_, I' 99 c_ i_ = I_ 99 c_ i_) ∧ zheap sc_ i_ a_ b_ h_ (zts lc st_) = some (h', zts lc st') := by
  unfold zhW at hp
  split at hp
  · split at hp
    · rename_i u_ w_ r_
      split at hp
      · rename_i ha_
        split at hp
        · rename_i ha8
          split at hp
          · rename_i v_ hv
            cases hp
            have hx : I_ 99 u_ w_ = 1 := hw.head
            obtain ⟨h1, h2⟩ := hr.get hx (by omega)
            refine ⟨h_, hr, hw.tail.cons (h2 v_ (List.mem_of_getElem? hv)), fun _ _ => rfl, ?_⟩
            show zgetf a_ b_ h_ (.ref (lc u_ w_) :: zts lc r_) = _
            unfold zgetf
            simp only [h1]
            rw [if_pos ha_, List.getElem?_map, hv]; rfl
          · cases hp
        · cases hp
      · cases hp
    · cases hp
  · split at hp
    · rename_i v_ u_ w_ r_
      split at hp
      · rename_i ha_
        split at hp
        · rename_i ha8
          split at hp
          · rename_i I2_ hI
            cases hp
            have hx : I_ 99 u_ w_ = 1 := hw.tail.head
            obtain ⟨h1, h2⟩ := hr.get hx (by omega)
            obtain ⟨x_, rfl, rfl, hne, hty⟩ := zpf_ok hI
            obtain ⟨hc1, hc2⟩ := zct_8 (c := u_) (by omega)
            obtain ⟨hs1, hs2⟩ := zfs_set (i := w_) (r := I_ u_ w_) hc2 hne hty
            have hs3 : zfs u_ w_ (zset I_ u_ w_ b_ x_ u_ w_) = (zfs u_ w_ (I_ u_ w_)).set b_ (.inl x_) := by rw [zset_self]; exact hs1
            have hup := hr.upd (I' := zset I_ u_ w_ b_ x_) hx (by omega) zset_other (by omega) (by rw [hs3]; exact zfs_ok h2) (by rw [hs3]; simp)
            refine ⟨_, hup, zWok_99 (zset_99 (by omega)) hw.tail.tail, zset_99 (by omega), ?_⟩
            show zputf a_ b_ h_ (.int x_ :: .ref (lc u_ w_) :: zts lc st') = _
            unfold zputf
            have ha' : u_ = a_ := by omega
            simp only [h1]
            have hfit : zfits (((zfty[a_]?).getD [])[b_]?.getD 9) (.int x_) = true := by
              rw [← ha']
              rcases hty with h0 | ⟨h0, h01⟩
              · rw [h0]; rfl
              · rw [h0]; rcases h01 with rfl | rfl <;> rfl
            rw [if_pos ha_, if_pos (by simpa using hs2), if_pos hfit, hs3, List.map_set]; rfl
          · cases hp
        · cases hp
      · cases hp
    · cases hp
  · split at hp
    · rename_i u_ w_ r_
      split at hp
      · rename_i h31
        cases hp
        have hx : I_ 99 u_ w_ = 1 := hw.head
        have h31' : u_ = 31 := h31
        subst h31'
        obtain ⟨h1, h2⟩ := hr.get hx (by show zct 31 ≠ 8; decide)
        refine ⟨h_, hr, hw.tail.cons trivial, fun _ _ => rfl, ?_⟩
        show zalen sc_ h_ (.ref (lc 31 w_) :: zts lc r_) = _
        unfold zalen
        simp only [h1]
        rw [if_pos (by show 100 ≤ zct 31; decide)]
        simp [zfs, ztr]
      · cases hp
    · cases hp
  · split at hp
    · rename_i u_ w_ r_
      split at hp
      · rename_i ha_
        cases hp
        have hx : I_ 99 u_ w_ = 1 := hw.head
        have ⟨fs, h1⟩ : ∃ fs, h_[lc u_ w_]? = some (zct u_, fs) := by
          obtain ⟨cap_, er, h2, _⟩ := hr
          exact h2.tag hx
        refine ⟨h_, hr, hw, fun _ _ => rfl, ?_⟩
        show zcast a_ h_ (.ref (lc u_ w_) :: zts lc r_) = _
        unfold zcast
        simp only [h1]
        rw [if_pos ha_]; rfl
      · cases hp
    · cases hp
  · split at hp
    · rename_i hlen
      have hlen' : (zts lc st_).length ≤ 12 := by simpa using hlen
      split at hp
      · rename_i ha_
        split at hp
        · rename_i y_ x_ r_
          cases hp
          refine ⟨h_, hr, hw.tail.tail.cons trivial, fun _ _ => rfl, ?_⟩
          unfold zheap
          rw [if_pos hlen', ha_]; rfl
        · cases hp
      · split at hp
        · rename_i ha_
          split at hp
          · rename_i y_ x_ r_
            cases hp
            refine ⟨h_, hr, hw.tail.tail.cons trivial, fun _ _ => rfl, ?_⟩
            unfold zheap
            rw [if_pos hlen', ha_]; rfl
          · cases hp
        · split at hp
          · rename_i ha_
            split at hp
            · rename_i x_ r_
              cases hp
              refine ⟨h_, hr, hw.tail.cons trivial, fun _ _ => rfl, ?_⟩
              unfold zheap
              rw [if_pos hlen', ha_]; rfl
            · cases hp
          · cases hp
    · cases hp
  · cases hp
theorem zlrecv {p_ : Nat × Nat} {cl_ : Nat} (hr : zRep lc I_ L_ h_ g_) (hx : I_ 99 p_.1 p_.2 = 1) (hc_ : zct p_.1 = cl_) (r_ : List Value) : zrecv h_ 1 cl_ (.ref (lc p_.1 p_.2) :: r_) = true := by
  obtain ⟨cap_, er, h2, _⟩ := hr
  obtain ⟨fs, h1⟩ := h2.tag hx
  show (match h_[lc p_.1 p_.2]? with | some (c_, _) => decide (c_ = cl_) | none => false) = true
  rw [h1]
  exact decide_eq_true hc_
theorem zcW_ok {d_ m_ pc len_ : Nat} {imm_ : Int32} {x_ : zRes × zHp} (hk : zcode m_ pc = some (i_, len_, imm_, a_, b_)) (hg : zgrp i_ a_ = 3) (hr : zRep lc I_ L_ h_ g_) (hw : zWok I_ ls st_) (hp : zcW a_ st_ L_ = some st') : zWok I_ ls st' ∧ (zX' sc_ (d_ + 1) m_ (pc + len_) (ztl lc ls) (zts lc st') h_ x_ → zX' sc_ (d_ + 1) m_ pc (ztl lc ls) (zts lc st_) h_ x_) := by
  unfold zcW at hp
  split at hp
  · rename_i u_ w_ r_
    split at hp
    · rename_i h8
      split at hp
      · rename_i hl4
        have hx : I_ 99 u_ w_ = 1 := hw.head
        obtain ⟨cap_, hls⟩ := hr.list hx h8
        have hnl := hr.nlen hx h8
        split at hp
        · rename_i h3
          cases hp
          subst h3
          refine ⟨hw.tail.cons trivial, fun hX => ?_⟩
          have hc_ := zj3 hls
          rw [List.length_map] at hc_
          exact zX'.c (as := [.ref (lc u_ w_)]) (rest := zts lc r_) hk hg rfl rfl (by simpa using hl4) rfl (by decide) (zlrecv (p_ := (u_, w_)) hr hx h8 []) hc_ (Nat.zero_le _) hX
        · split at hp
          · rename_i h3
            cases hp
            subst h3
            refine ⟨hw.tail.cons trivial, fun hX => ?_⟩
            have hc_ := zj15 hls (by rw [List.length_map]; omega)
            rw [List.length_map] at hc_
            exact zX'.c (as := [.ref (lc u_ w_)]) (rest := zts lc r_) hk hg rfl rfl (by simpa using hl4) rfl (by decide) (zlrecv (p_ := (u_, w_)) hr hx h8 []) hc_ (Nat.zero_le _) hX
          · cases hp
      · cases hp
    · cases hp
  · cases hp
end
theorem zgo_ok {sc_ : zScr} {lc : zAd} {L_ : zLi} {g_ d_ m_ : Nat} : ∀ (k_ : Nat) {pc pc' : Nat} {ls ls' : zWs} {st_ st' : List zW} {I_ I' : zIn} {h_ : zHp}, zRep lc I_ L_ h_ g_ → zWok I_ ls st_ → zgo k_ m_ pc ls st_ I_ L_ = some (pc', ls', st', I') → ∃ h', zRep lc I' L_ h' g_ ∧ zWok I' ls' st' ∧ (∀ c_ i_, I' 99 c_ i_ = I_ 99 c_ i_) ∧ ∀ x_, zX' sc_ (d_ + 1) m_ pc' (ztl lc ls') (zts lc st') h' x_ → zX' sc_ (d_ + 1) m_ pc (ztl lc ls) (zts lc st_) h_ x_
  | 0, _, _, _, _, _, _, _, _, _, hr, hw, hz => by
    simp only [zgo, Option.some.injEq, Prod.mk.injEq] at hz
    obtain ⟨rfl, rfl, rfl, rfl⟩ := hz
    exact ⟨_, hr, hw, fun _ _ => rfl, fun _ hx => hx⟩
  | k_ + 1, pc, pc', ls, ls', st_, st', I_, I', h_, hr, hw, hz => by
    unfold zgo at hz
    split at hz
    · cases hz
    rename_i i_ len_ imm_ a_ b_ hk
    split at hz
    · rename_i hg
      split at hz
      · cases hz
      rename_i ls2 st2_ hp
      obtain ⟨h1, h2⟩ := zpW_tr (lc := lc) (I := I_) hp
      obtain ⟨h', a1_, a2, a3, a4⟩ := zgo_ok k_ hr (h2 hw) hz
      exact ⟨h', a1_, a2, a3, fun x_ hx => zX'.p hk hg h1 (a4 x_ hx)⟩
    · rename_i hg
      split at hz
      · obtain ⟨h', a1_, a2, a3, a4⟩ := zgo_ok k_ hr hw hz
        exact ⟨h', a1_, a2, a3, fun x_ hx => zX'.br hk hg rfl (fun _ => a4 x_ hx) (fun q_ => by cases q_)⟩
      · cases hz
    · rename_i hg
      split at hz
      · cases hz
      rename_i st2_ I2_ hp
      obtain ⟨h1, b1, b2, b3, b4⟩ := zhW_ok (sc_ := sc_) hr hw hp
      obtain ⟨h', a1_, a2, a3, a4⟩ := zgo_ok k_ b1 b2 hz
      exact ⟨h', a1_, a2, fun c_ i_ => (a3 c_ i_).trans (b3 c_ i_), fun x_ hx => zX'.hp hk hg b4 (a4 x_ hx)⟩
    · rename_i hg
      split at hz
      · cases hz
      rename_i st2_ hp
      obtain ⟨h', a1_, a2, a3, a4⟩ := zgo_ok k_ hr (zcW_ok (sc_ := sc_) (d_ := d_) (x_ := (.inl none, h_)) hk hg hr hw hp).1 hz
      exact ⟨h', a1_, a2, a3, fun x_ hx => (zcW_ok hk hg hr hw hp).2 (a4 x_ hx)⟩
    · cases hz
