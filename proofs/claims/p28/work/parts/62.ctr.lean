/-! NEW OBJECTS: the row of new, constructors of riders, requests, stops -/
/-- what pushes a constructor's arguments -/
def zga : Nat → Nat → Nat → zWs → List zW → zIn → zLi → Option (Nat × List zW)
  | 0, _, pc, _, st_, _, _ => some (pc, st_)
  | k_ + 1, m_, pc, ls, st_, I_, L_ => match zcode m_ pc with
    | none => none
    | some (i_, len_, imm_, a_, b_) => match i_ with
      | .iconst _ => zga k_ m_ (pc + len_) ls (.inl imm_ :: st_) I_ L_
      | .iload_n j_ => (match ls[(j_ : Nat)]? with | some (some (.inl x_)) => zga k_ m_ (pc + len_) ls (.inl x_ :: st_) I_ L_ | _ => none)
      | .iload j_ => (match ls[j_]? with | some (some (.inl x_)) => zga k_ m_ (pc + len_) ls (.inl x_ :: st_) I_ L_ | _ => none)
      | .aload_n j_ => (match ls[(j_ : Nat)]? with | some (some (.inr (.inr (.inl p_)))) => zga k_ m_ (pc + len_) ls (.inr (.inr (.inl p_)) :: st_) I_ L_ | _ => none)
      | .aload j_ => (match ls[j_]? with | some (some (.inr (.inr (.inl p_)))) => zga k_ m_ (pc + len_) ls (.inr (.inr (.inl p_)) :: st_) I_ L_ | _ => none)
      | .getfield _ => (match st_ with
        | .inr (.inr (.inl (u_, w_))) :: r_ => if zct u_ = a_ then (if a_ < 8 then (match (zfs u_ w_ (I_ u_ w_))[b_]? with | some v_ => zga k_ m_ (pc + len_) ls (v_ :: r_) I_ L_ | none => none) else none) else none
        | _ => none)
      | .invokevirtual _ => if a_ = 3 then (match st_ with
        | [.inr (.inr (.inl (u_, w_)))] => if zct u_ = 8 then zga k_ m_ (pc + len_) ls [.inl (Int32.ofNat (L_ u_ w_).length)] I_ L_ else none
        | _ => none) else none
      | _ => none
theorem zga_ok {sc_ : zScr} {lc : zAd} {I_ : zIn} {L_ : zLi} {h_ : zHp} {g_ d_ m_ : Nat} {ls : zWs} (hr : zRep lc I_ L_ h_ g_) : ∀ (k_ pc pc' : Nat) (st_ st' : List zW), zWok I_ ls st_ → zga k_ m_ pc ls st_ I_ L_ = some (pc', st') → zWok I_ ls st' ∧ ∀ (B_ : List Value) (x_ : zRes × zHp), B_.length ≤ 4 → zX' sc_ (d_ + 1) m_ pc' (ztl lc ls) (zts lc st' ++ B_) h_ x_ → zX' sc_ (d_ + 1) m_ pc (ztl lc ls) (zts lc st_ ++ B_) h_ x_
  | 0, pc, pc', st_, st', hw, hz => by
    simp only [zga, Option.some.injEq, Prod.mk.injEq] at hz
    obtain ⟨rfl, rfl⟩ := hz
    exact ⟨hw, fun _ _ _ hx => hx⟩
  | k_ + 1, pc, pc', st_, st', hw, hz => by
    unfold zga at hz
    split at hz
    · cases hz
    rename_i i_ len_ imm_ a_ b_ hk
    have hI : ∀ x_, zldI (ztl lc ls) x_ = zldI (ztl lc ls) x_ := fun _ => rfl
    split at hz
    · obtain ⟨a1_, a2⟩ := zga_ok hr k_ _ _ _ _ (hw.cons (show zok I_ (.inl imm_) from trivial)) hz
      exact ⟨a1_, fun B_ x_ hB_ hx => zX'.p hk rfl rfl (a2 B_ x_ hB_ hx)⟩
    · split at hz
      · rename_i j_ y_ hy
        obtain ⟨a1_, a2⟩ := zga_ok hr k_ _ _ _ _ (hw.cons (show zok I_ (.inl y_) from trivial)) hz
        refine ⟨a1_, fun B_ x_ hB_ hx => zX'.p hk rfl ?_ (a2 B_ x_ hB_ hx)⟩
        show zldI (ztl lc ls) _ _ = _
        unfold zldI; rw [ztl_at, hy]; rfl
      · cases hz
    · split at hz
      · rename_i j_ y_ hy
        obtain ⟨a1_, a2⟩ := zga_ok hr k_ _ _ _ _ (hw.cons (show zok I_ (.inl y_) from trivial)) hz
        refine ⟨a1_, fun B_ x_ hB_ hx => zX'.p hk rfl ?_ (a2 B_ x_ hB_ hx)⟩
        show zldI (ztl lc ls) _ _ = _
        unfold zldI; rw [ztl_at, hy]; rfl
      · cases hz
    · split at hz
      · rename_i j_ y_ hy
        obtain ⟨a1_, a2⟩ := zga_ok hr k_ _ _ _ _ (hw.cons (hw.1 _ (List.mem_of_getElem? hy))) hz
        refine ⟨a1_, fun B_ x_ hB_ hx => zX'.p hk rfl ?_ (a2 B_ x_ hB_ hx)⟩
        show zldA (ztl lc ls) _ _ = _
        unfold zldA; rw [ztl_at, hy]; rfl
      · cases hz
    · split at hz
      · rename_i j_ y_ hy
        obtain ⟨a1_, a2⟩ := zga_ok hr k_ _ _ _ _ (hw.cons (hw.1 _ (List.mem_of_getElem? hy))) hz
        refine ⟨a1_, fun B_ x_ hB_ hx => zX'.p hk rfl ?_ (a2 B_ x_ hB_ hx)⟩
        show zldA (ztl lc ls) _ _ = _
        unfold zldA; rw [ztl_at, hy]; rfl
      · cases hz
    · split at hz
      · rename_i u_ w_ r_
        split at hz
        · rename_i ha_
          split at hz
          · rename_i ha8
            split at hz
            · rename_i v_ hv
              have hx : I_ 99 u_ w_ = 1 := hw.head
              obtain ⟨h1, h2⟩ := hr.get hx (by omega)
              obtain ⟨a1_, a2⟩ := zga_ok hr k_ _ _ _ _ (hw.tail.cons (h2 v_ (List.mem_of_getElem? hv))) hz
              refine ⟨a1_, fun B_ x_ hB_ hx => ?_⟩
              rw [ha_] at h1
              exact zX'.gf (r := zts lc r_ ++ B_) hk h1 (by rw [List.getElem?_map, hv]; rfl) (a2 B_ x_ hB_ hx)
            · cases hz
          · cases hz
        · cases hz
      · cases hz
    · split at hz
      · rename_i ha_
        split at hz
        · rename_i u_ w_
          split at hz
          · rename_i h8
            have hx : I_ 99 u_ w_ = 1 := hw.head
            obtain ⟨cap_, hls⟩ := hr.list hx h8
            obtain ⟨a1_, a2⟩ := zga_ok hr k_ _ _ _ _ (hw.tail.cons (show zok I_ (.inl (Int32.ofNat (L_ u_ w_).length)) from trivial)) hz
            refine ⟨a1_, fun B_ x_ hB_ hX => ?_⟩
            subst ha_
            have hc_ := zj3 hls
            rw [List.length_map] at hc_
            exact zX'.c (as := [.ref (lc u_ w_)]) (rest := B_) hk rfl rfl rfl hB_ rfl (by decide) (zlrecv (p_ := (u_, w_)) hr hx h8 []) hc_ (Nat.zero_le _) (a2 B_ x_ hB_ hX)
          · cases hz
        · cases hz
      · cases hz
    · cases hz
/-- what a constructor does -/
def zNw (d_ q_ a0_ : Nat) (as_ : List zW) (I_ : zIn) (L_ : zLi) (c_ i_ : Nat) (I' : zIn) (L' : zLi) (g0 : Nat) : Prop := ∀ lc h_ g_, zRep lc I_ L_ h_ g_ → (∀ w_ ∈ as_, zok I_ w_) → g_ + g0 ≤ 600000 → ∃ h' lc', zRn d_ q_ (.ref h_.length :: zts lc as_) (h_ ++ [(a0_, (zdfs[a0_]?).getD [])]) (.inl none, h') ∧ zExt lc I_ lc' I' ∧ zRep lc' I' L' h' (g_ + g0) ∧ lc' c_ i_ = h_.length ∧ I' 99 c_ i_ = 1
theorem zRep.pushn {lc : zAd} {I_ : zIn} {L_ : zLi} {h_ : zHp} {g_ : Nat} (hr : zRep lc I_ L_ h_ g_) (o : zOb) : zRep lc I_ L_ (h_ ++ [o]) (g_ + 1 + zosz o) := by
  obtain ⟨cap_, er, h1, h2⟩ := hr
  refine ⟨cap_, er, h1.push _, ?_⟩
  rw [zsz_push, List.length_append]
  simp only [List.length_cons, List.length_nil]
  omega
theorem zY.nw {sc_ : zScr} {d_ m_ pc pc2 a0_ b0 q_ b3 len3 g0 a_ c_ i_ cp_ : Nat} {imm0 imm2 imm3 : Int32} {a2 b2 : Nat} {i3_ : Instr} {ls : zWs} {st_ as_ : List zW} {I_ I' : zIn} {L_ L' : zLi} {Q_ : zPost} {d0_ : Nat} (k_ : Nat) (hC : zNw d0_ q_ a0_ as_ I_ L_ c_ i_ I' L' g0) (hk : zcode m_ pc = some (.new cp_, 3, imm0, a0_, b0)) (ha_ : a0_ < 9) (hk2 : zcode m_ (pc + 3) = some (.dup, 1, imm2, a2, b2)) (hz : zga k_ m_ (pc + 4) ls [] I_ L_ = some (pc2, as_.reverse)) (hk3 : zcode m_ pc2 = some (i3_, len3, imm3, q_, b3)) (hg3 : zgrp i3_ q_ = 3) (hn : as_.length + 1 = (zinf q_).1) (hkd : (zinf q_).2.2.1 = 2) (hml : (zinf q_).1 ≤ (zinf q_).2.1) (hc_ : as_.all zc1w = true) (hl : st_.length ≤ 2) (hd_ : d0_ ≤ d_) (hga : g0 ≤ a_)
    (hY : zY sc_ (d_ + 1) m_ (pc2 + len3) ls (zwR c_ i_ :: st_) I' L' (a_ - g0) Q_) : zY sc_ (d_ + 1) m_ pc ls st_ I_ L_ a_ Q_ := by
  intro lc h_ g_ hr hw hg
  have hlen := hr.len
  have hr1 := hr.pushn (a0_, (zdfs[a0_]?).getD [])
  obtain ⟨w1_, run1⟩ := zga_ok (sc_ := sc_) (d_ := d_) hr1 k_ _ _ _ _ ⟨hw.1, fun w_ hw => by cases hw⟩ hz
  have hwa : ∀ w_ ∈ as_, zok I_ w_ := fun w_ hw1 => w1_.2 w_ (List.mem_reverse.mpr hw1)
  obtain ⟨h', lc1, c1_, c2_, c3_, c4_, c5_⟩ := hC lc h_ g_ hr hwa (by omega)
  obtain ⟨r2, h2, lc2, I2_, L2_, e1_, e2_, e3_, e4_, e5_⟩ := hY lc1 h' (g_ + g0) c3_ ⟨fun w_ hw1 => c2_.ok (hw.1 w_ hw1), fun w_ hw1 => by
    rcases List.mem_cons.mp hw1 with e_ | e_
    · rw [e_]; exact c5_
    · exact c2_.ok (hw.2 w_ e_)⟩ (by omega)
  refine ⟨r2, h2, lc2, I2_, L2_, ?_, c2_.trans e2_, ?_, e4_, e5_⟩
  · refine zX'.nw hk ha_ (by omega) rfl ?_
    refine zX'.p hk2 rfl rfl ?_
    have hB_ : (Value.ref h_.length :: Value.ref h_.length :: zts lc st_).length ≤ 4 := by simp; omega
    refine run1 _ _ hB_ ?_
    refine zX'.c (as := .ref h_.length :: zts lc as_) (rest := .ref h_.length :: zts lc st_) hk3 hg3 (by simpa using hn) (by simp [zts]) (by simp; omega) ?_ hml ?_ c1_ hd_ ?_
    · rw [List.all_cons, zall_tr hc_]; rfl
    · rw [hkd]
      show decide (h_.length < _) = true
      simp
    · rw [c2_.stl hw.1] at e1_
      have : zts lc1 (zwR c_ i_ :: st_) = .ref h_.length :: zts lc st_ := by
        rw [← c2_.sts hw.2, ← c4_]; rfl
      rw [this] at e1_
      exact e1_
  · rw [show g_ + a_ = g_ + g0 + (a_ - g0) by omega]; exact e3_
section
variable {d_ m_ pc : Nat} {sc_ : zScr} {ls : zLs} {r_ : List Value} {h_ : zHp} {x_ : zRes × zHp} {cp_ len_ a_ b_ : Nat} {imm_ : Int32} {fs : List Value} {v_ : Value}
theorem zX'.pfn (hk : zcode m_ pc = some (.putfield cp_, len_, imm_, a_, b_)) (hb_ : b_ < fs.length) (hv : zfits (((zfty[a_]?).getD [])[b_]?.getD 9) v_ = true) (hX : zX' sc_ d_ m_ (pc + len_) ls r_ (h_ ++ [(a_, fs.set b_ v_)]) x_) : zX' sc_ d_ m_ pc ls (v_ :: .ref h_.length :: r_) (h_ ++ [(a_, fs)]) x_ := by
  refine zX'.pf hk zget_last hb_ hv ?_
  rw [List.set_append_right _ _ (Nat.le_refl _), Nat.sub_self]
  exact hX
end
