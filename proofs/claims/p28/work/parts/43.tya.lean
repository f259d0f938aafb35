/-! TYPED RUNS: arrays, fields, lists -/
theorem zas30_le {j_ : Nat} : zas30 j_ ≤ 64 := by
  unfold zas30
  split <;> first | decide | (repeat' split) <;> decide
theorem zas31_le {j_ : Nat} : zas31 j_ ≤ 64 := by
  unfold zas31
  split <;> decide
theorem zrng_set {α : Type} {N_ n_ : Nat} {f_ : Nat → α} {v_ : α} : ((List.range N_).map f_).set n_ v_ = (List.range N_).map (fun k_ => if k_ = n_ then v_ else f_ k_) := by
  refine List.ext_getElem (by simp) (fun k_ h1 h2 => ?_)
  rw [List.getElem_set]
  simp only [List.getElem_map, List.getElem_range]
  by_cases hk : n_ = k_
  · rw [if_pos hk, if_pos hk.symm]
  · rw [if_neg hk, if_neg (fun e_ => hk e_.symm)]
theorem zera_map {α β : Type} {f_ : α → β} {l : List α} {k_ : Nat} : (l.eraseIdx k_).map f_ = (l.map f_).eraseIdx k_ := by
  rw [List.eraseIdx_eq_take_drop_succ, List.eraseIdx_eq_take_drop_succ, List.map_append, List.map_take, List.map_drop]
theorem zfs30_set {j_ n_ : Nat} {r_ : Nat → Int32} {x_ : Int32} : zfs 30 j_ (fun f_ => if f_ = n_ then x_ else r_ f_) = (zfs 30 j_ r_).set n_ (.inl x_) := by
  show (List.range (zas30 j_)).map _ = ((List.range (zas30 j_)).map _).set n_ _
  rw [zrng_set]
  refine List.map_congr_left (fun k_ _ => ?_)
  by_cases hk : k_ = n_
  · simp [hk]
  · simp [hk]
theorem zfs31_set {j_ n_ : Nat} {r_ : Nat → Int32} {x_ : Int32} (hx : x_ = 0 ∨ x_ = 1) : zfs 31 j_ (fun f_ => if f_ = n_ then x_ else r_ f_) = (zfs 31 j_ r_).set n_ (.inl x_) := by
  show (List.range (zas31 j_)).map _ = ((List.range (zas31 j_)).map _).set n_ _
  rw [zrng_set]
  refine List.map_congr_left (fun k_ _ => ?_)
  by_cases hk : k_ = n_
  · simp [hk, zbo_id hx]
  · simp [hk]
section
variable {sc_ : zScr} {d_ m_ pc len_ a_ b_ : Nat} {ls : zWs} {st_ rest_ : List zW} {I_ I' : zIn} {L_ L' : zLi} {Q_ : zPost} {i_ : Instr} {imm_ : Int32} {q_ j_ n_ : Nat} {k_ x_ : Int32}
theorem zY.ai (hk : zcode m_ pc = some (.iaload, len_, imm_, q_, b_)) (hn : k_ = Int32.ofNat n_) (hlt : n_ < zas30 j_) (hY : zY sc_ d_ m_ (pc + len_) ls (zwI (I_ 30 j_ n_) :: rest_) I_ L_ a_ Q_) : zY sc_ d_ m_ pc ls (zwI k_ :: zwR 30 j_ :: rest_) I_ L_ a_ Q_ := by
  intro lc h_ g_ hr hw hg
  have hx : I_ 99 30 j_ = 1 := hw.tail.head
  have hle := zas30_le (j_ := j_)
  obtain ⟨h1, h2⟩ := hr.get hx (by decide)
  refine (hY lc h_ g_ hr (hw.tail.tail.cons trivial) hg).mono (fun y_ hy => ?_)
  subst hn
  refine zX'.ia hk h1 (zige (by omega)) (v := .int (I_ 30 j_ n_)) ?_ hy
  rw [zicl (by omega)]
  simp [zfs, hlt, ztr]
theorem zY.ab (hk : zcode m_ pc = some (.baload, len_, imm_, q_, b_)) (hn : k_ = Int32.ofNat n_) (hlt : n_ < zas31 j_) (hY : zY sc_ d_ m_ (pc + len_) ls (zwI (zbo (I_ 31 j_ n_)) :: rest_) I_ L_ a_ Q_) : zY sc_ d_ m_ pc ls (zwI k_ :: zwR 31 j_ :: rest_) I_ L_ a_ Q_ := by
  intro lc h_ g_ hr hw hg
  have hx : I_ 99 31 j_ = 1 := hw.tail.head
  have hle := zas31_le (j_ := j_)
  obtain ⟨h1, h2⟩ := hr.get hx (by decide)
  refine (hY lc h_ g_ hr (hw.tail.tail.cons trivial) hg).mono (fun y_ hy => ?_)
  subst hn
  refine zX'.ba hk h1 (zige (by omega)) (v := .int (zbo (I_ 31 j_ n_))) ?_ hy
  rw [zicl (by omega)]
  simp [zfs, hlt, ztr]
theorem zY.si (hk : zcode m_ pc = some (.iastore, len_, imm_, q_, b_)) (hn : k_ = Int32.ofNat n_) (hlt : n_ < zas30 j_) (hY : zY sc_ d_ m_ (pc + len_) ls rest_ (zset I_ 30 j_ n_ x_) L_ a_ Q_) : zY sc_ d_ m_ pc ls (zwI x_ :: zwI k_ :: zwR 30 j_ :: rest_) I_ L_ a_ Q_ := by
  intro lc h_ g_ hr hw hg
  have hx : I_ 99 30 j_ = 1 := hw.tail.tail.head
  have hle := zas30_le (j_ := j_)
  obtain ⟨h1, h2⟩ := hr.get hx (by decide)
  have hs : zfs 30 j_ (zset I_ 30 j_ n_ x_ 30 j_) = (zfs 30 j_ (I_ 30 j_)).set n_ (.inl x_) := by rw [zset_self]; exact zfs30_set
  have hup := hr.upd (I' := zset I_ 30 j_ n_ x_) hx (by decide) zset_other (by decide) (by rw [hs]; exact zfs_ok h2) (by rw [hs]; simp)
  have h99 : ∀ c_ i_, zset I_ 30 j_ n_ x_ 99 c_ i_ = I_ 99 c_ i_ := zset_99 (by decide)
  obtain ⟨r_, h3, lc2, I2_, L2_, e1_, e2_, e3_⟩ := hY lc _ g_ hup (zWok_99 h99 hw.tail.tail.tail) hg
  refine ⟨r_, h3, lc2, I2_, L2_, ?_, (zExt.of99 h99).trans e2_, e3_⟩
  subst hn
  refine zX'.is hk h1 (zige (by omega)) (by rw [zicl (by omega)]; simpa [zfs] using hlt) ?_
  rw [zicl (by omega)]
  rw [hs, List.map_set] at e1_
  exact e1_
theorem zY.sb (hk : zcode m_ pc = some (.bastore, len_, imm_, q_, b_)) (hn : k_ = Int32.ofNat n_) (hlt : n_ < zas31 j_) (h01 : x_ = 0 ∨ x_ = 1) (hY : zY sc_ d_ m_ (pc + len_) ls rest_ (zset I_ 31 j_ n_ x_) L_ a_ Q_) : zY sc_ d_ m_ pc ls (zwI x_ :: zwI k_ :: zwR 31 j_ :: rest_) I_ L_ a_ Q_ := by
  intro lc h_ g_ hr hw hg
  have hx : I_ 99 31 j_ = 1 := hw.tail.tail.head
  have hle := zas31_le (j_ := j_)
  obtain ⟨h1, h2⟩ := hr.get hx (by decide)
  have hs : zfs 31 j_ (zset I_ 31 j_ n_ x_ 31 j_) = (zfs 31 j_ (I_ 31 j_)).set n_ (.inl x_) := by rw [zset_self]; exact zfs31_set h01
  have hup := hr.upd (I' := zset I_ 31 j_ n_ x_) hx (by decide) zset_other (by decide) (by rw [hs]; exact zfs_ok h2) (by rw [hs]; simp)
  have h99 : ∀ c_ i_, zset I_ 31 j_ n_ x_ 99 c_ i_ = I_ 99 c_ i_ := zset_99 (by decide)
  obtain ⟨r_, h3, lc2, I2_, L2_, e1_, e2_, e3_⟩ := hY lc _ g_ hup (zWok_99 h99 hw.tail.tail.tail) hg
  refine ⟨r_, h3, lc2, I2_, L2_, ?_, (zExt.of99 h99).trans e2_, e3_⟩
  subst hn
  refine zX'.bs hk h1 (zige (by omega)) (by rw [zicl (by omega)]; simpa [zfs] using hlt) h01 ?_
  rw [zicl (by omega)]
  rw [hs, List.map_set] at e1_
  exact e1_
/-- the law's long -/
theorem zY.sl {y_ : Int64} (hk : zcode m_ pc = some (.lastore, len_, imm_, q_, b_)) (hy : y_ = x_.toInt64) (hY : zY sc_ d_ m_ (pc + len_) ls rest_ (zset I_ 32 0 0 x_) L_ a_ Q_) : zY sc_ d_ m_ pc ls (zwL y_ :: zwI 0 :: zwR 32 0 :: rest_) I_ L_ a_ Q_ := by
  intro lc h_ g_ hr hw hg
  have hx : I_ 99 32 0 = 1 := hw.tail.tail.head
  obtain ⟨h1, h2⟩ := hr.get hx (by decide)
  have hup := hr.upd (I' := zset I_ 32 0 0 x_) hx (by decide) zset_other (by decide) (by intro w_ h3; simp [zfs] at h3; subst h3; trivial) (by simp [zfs])
  have h99 : ∀ c_ i_, zset I_ 32 0 0 x_ 99 c_ i_ = I_ 99 c_ i_ := zset_99 (by decide)
  obtain ⟨r_, h3, lc2, I2_, L2_, e1_, e2_, e3_⟩ := hY lc _ g_ hup (zWok_99 h99 hw.tail.tail.tail) hg
  refine ⟨r_, h3, lc2, I2_, L2_, ?_, (zExt.of99 h99).trans e2_, e3_⟩
  refine zX'.lls hk h1 (by decide) (by show (0 : Int32).toNatClampNeg < 1; decide) ?_
  subst hy
  simp only [zset_self] at e1_
  exact e1_
theorem zY.al (hk : zcode m_ pc = some (.laload, len_, imm_, q_, b_)) (hY : zY sc_ d_ m_ (pc + len_) ls (zwL (I_ 32 0 0).toInt64 :: rest_) I_ L_ a_ Q_) : zY sc_ d_ m_ pc ls (zwI 0 :: zwR 32 0 :: rest_) I_ L_ a_ Q_ := by
  intro lc h_ g_ hr hw hg
  have hx : I_ 99 32 0 = 1 := hw.tail.head
  obtain ⟨h1, h2⟩ := hr.get hx (by decide)
  exact (hY lc h_ g_ hr (hw.tail.tail.cons trivial) hg).mono (fun y_ hy => zX'.la hk h1 (by decide) (v := .long (I_ 32 0 0).toInt64) (Eq.refl _) hy)
/-- a field of ints or booleans is set -/
theorem zY.pf {c_ p_ cp_ : Nat} (hk : zcode m_ pc = some (.putfield cp_, len_, imm_, c_, b_)) (hc_ : c_ < 8) (hne : ¬ ((c_ = 4 ∧ b_ = 1) ∨ (c_ = 5 ∧ b_ = 0))) (hty : ((zfty[c_]?).getD [])[b_]?.getD 9 = 0 ∨ (((zfty[c_]?).getD [])[b_]?.getD 9 = 1 ∧ (x_ = 0 ∨ x_ = 1))) (hY : zY sc_ d_ m_ (pc + len_) ls rest_ (zset I_ c_ p_ b_ x_) L_ a_ Q_) : zY sc_ d_ m_ pc ls (zwI x_ :: zwR c_ p_ :: rest_) I_ L_ a_ Q_ := by
  intro lc h_ g_ hr hw hg
  have hx : I_ 99 c_ p_ = 1 := hw.tail.head
  have hz : zct c_ = c_ := by unfold zct; rw [if_pos hc_]
  obtain ⟨h1, h2⟩ := hr.get hx (by omega)
  obtain ⟨hs1, hs2⟩ := zfs_set (i := p_) (r := I_ c_ p_) hc_ hne hty
  have hs : zfs c_ p_ (zset I_ c_ p_ b_ x_ c_ p_) = (zfs c_ p_ (I_ c_ p_)).set b_ (.inl x_) := by rw [zset_self]; exact hs1
  have hup := hr.upd (I' := zset I_ c_ p_ b_ x_) hx (by omega) zset_other (by omega) (by rw [hs]; exact zfs_ok h2) (by rw [hs]; simp)
  have h99 : ∀ c1_ i1_, zset I_ c_ p_ b_ x_ 99 c1_ i1_ = I_ 99 c1_ i1_ := zset_99 (by omega)
  obtain ⟨r_, h3, lc2, I2_, L2_, e1_, e2_, e3_⟩ := hY lc _ g_ hup (zWok_99 h99 hw.tail.tail) hg
  refine ⟨r_, h3, lc2, I2_, L2_, ?_, (zExt.of99 h99).trans e2_, e3_⟩
  rw [hz] at h1
  have hfit : zfits (((zfty[c_]?).getD [])[b_]?.getD 9) (.int x_) = true := by
    rcases hty with h0 | ⟨h0, h01⟩
    · rw [h0]; exact Eq.refl _
    · rw [h0]; rcases h01 with e_ | e_ <;> rw [e_] <;> exact Eq.refl _
  refine zX'.pf hk h1 (by simpa using hs2) hfit ?_
  rw [hs, List.map_set, hz] at e1_
  exact e1_
/-- Search.best -/
theorem zY.pn {cp_ p_ : Nat} (hk : zcode m_ pc = some (.putfield cp_, len_, imm_, 3, 0)) (hY : zY sc_ d_ m_ (pc + len_) ls rest_ (zset I_ 3 p_ 0 0) L_ a_ Q_) : zY sc_ d_ m_ pc ls (zwK 0 :: zwR 3 p_ :: rest_) I_ L_ a_ Q_ := by
  intro lc h_ g_ hr hw hg
  have hx : I_ 99 3 p_ = 1 := hw.tail.head
  obtain ⟨h1, h2⟩ := hr.get hx (by decide)
  have hup := hr.upd (I' := zset I_ 3 p_ 0 0) hx (by decide) zset_other (by decide) (by intro w_ h3; simp [zfs, zset_self] at h3; rcases h3 with e_ | e_ | e_ | e_ <;> subst e_ <;> trivial) (by simp [zfs])
  have h99 : ∀ c1_ i1_, zset I_ 3 p_ 0 0 99 c1_ i1_ = I_ 99 c1_ i1_ := zset_99 (by decide)
  obtain ⟨r_, h3, lc2, I2_, L2_, e1_, e2_, e3_⟩ := hY lc _ g_ hup (zWok_99 h99 hw.tail.tail) hg
  refine ⟨r_, h3, lc2, I2_, L2_, ?_, (zExt.of99 h99).trans e2_, e3_⟩
  refine zX'.pf hk h1 (by simp [zfs]) (Eq.refl _) ?_
  simp only [zset_self] at e1_
  exact e1_
theorem zY.pv {cp_ p_ v_ : Nat} (hk : zcode m_ pc = some (.putfield cp_, len_, imm_, 3, 0)) (hv : v_ < 1000) (hY : zY sc_ d_ m_ (pc + len_) ls rest_ (zset I_ 3 p_ 0 (Int32.ofNat (v_ + 1))) L_ a_ Q_) : zY sc_ d_ m_ pc ls (zwR 5 v_ :: zwR 3 p_ :: rest_) I_ L_ a_ Q_ := by
  intro lc h_ g_ hr hw hg
  have hx : I_ 99 3 p_ = 1 := hw.tail.head
  have hx5 : I_ 99 5 v_ = 1 := hw.head
  obtain ⟨h1, h2⟩ := hr.get hx (by decide)
  have hne : ¬ Int32.ofNat (v_ + 1) = 0 := zine (b := 0) (by omega) (by omega) (by omega)
  have hb_ : (if Int32.ofNat (v_ + 1) = 0 then zwK 0 else zwR 5 ((Int32.ofNat (v_ + 1)).toNatClampNeg - 1)) = zwR 5 v_ := by
    rw [if_neg hne, zicl (by omega)]; exact Eq.refl _
  have hs : zfs 3 p_ (zset I_ 3 p_ 0 (Int32.ofNat (v_ + 1)) 3 p_) = (zfs 3 p_ (I_ 3 p_)).set 0 (zwR 5 v_) := by
    simp only [zset_self, zfs, if_true]
    rw [hb_]; simp
  have hup := hr.upd (I' := zset I_ 3 p_ 0 (Int32.ofNat (v_ + 1))) hx (by decide) zset_other (by decide) (by
    rw [hs]; intro w_ h3
    rcases List.mem_or_eq_of_mem_set h3 with e_ | e_
    · exact h2 w_ e_
    · rw [e_]; exact hx5) (by rw [hs]; simp)
  have h99 : ∀ c1_ i1_, zset I_ 3 p_ 0 (Int32.ofNat (v_ + 1)) 99 c1_ i1_ = I_ 99 c1_ i1_ := zset_99 (by decide)
  obtain ⟨r_, h3, lc2, I2_, L2_, e1_, e2_, e3_⟩ := hY lc _ g_ hup (zWok_99 h99 hw.tail.tail) hg
  refine ⟨r_, h3, lc2, I2_, L2_, ?_, (zExt.of99 h99).trans e2_, e3_⟩
  refine zX'.pf hk h1 (by simp [zfs]) (Eq.refl _) ?_
  rw [hs, List.map_set] at e1_
  exact e1_
/-! lists -/
theorem zRep.lstep {lc : zAd} {h_ : zHp} {g_ c_ p_ : Nat} {l' : List Nat} {P_ : zHp → Prop} (hr : zRep lc I_ L_ h_ g_) (hx : I_ 99 c_ p_ = 1) (h8 : zct c_ = 8) (hel : ∀ t_ ∈ l', I_ 99 (zek c_) t_ = 1) (F_ : ∀ e_ cap_, zLr h_ (lc c_ p_) e_ cap_ ((L_ c_ p_).map fun t_ => Value.ref (lc (zek c_) t_)) → cap_ ≤ 1000 → ∃ h', P_ h' ∧ zLstep h_ h' (lc c_ p_) e_ cap_ (l'.map fun t_ => Value.ref (lc (zek c_) t_))) : ∃ h', P_ h' ∧ zRep lc I_ (zlup L_ c_ p_ l') h' g_ := by
  obtain ⟨cap_, er, h1, h2⟩ := hr
  obtain ⟨_, k2_, _⟩ := h1.1 c_ p_ hx
  obtain ⟨_, hcap, hls, _⟩ := k2_ h8
  obtain ⟨h', hp, hst⟩ := F_ _ _ hls hcap
  obtain ⟨cap', er', a1_, a2⟩ := h1.lst hx h8 hst hel
  exact ⟨h', hp, cap', er', a1_, by omega⟩
theorem zRep.els {lc : zAd} {h_ : zHp} {g_ c_ p_ : Nat} (hr : zRep lc I_ L_ h_ g_) (hx : I_ 99 c_ p_ = 1) (h8 : zct c_ = 8) : ∀ t_ ∈ L_ c_ p_, I_ 99 (zek c_) t_ = 1 := by
  obtain ⟨cap_, er, h1, h2⟩ := hr
  exact ((h1.1 c_ p_ hx).2.1 h8).2.2.2
theorem zRep.el {lc : zAd} {h_ : zHp} {g_ c_ t_ : Nat} (hr : zRep lc I_ L_ h_ g_) (hx : I_ 99 (zek c_) t_ = 1) : zEl h_ (.ref (lc (zek c_) t_)) := by
  obtain ⟨cap_, er, h1, h2⟩ := hr
  obtain ⟨fs, h3⟩ := h1.tag hx
  exact ⟨_, _, _, Eq.refl _, h3, by have := zct_ek (c := c_); omega⟩
theorem w_get {c_ p_ k_ t_ : Nat} (h8 : zct c_ = 8) (ht : (L_ c_ p_)[k_]? = some t_) : zYm 2 4 [zwR c_ p_, zwI (Int32.ofNat k_)] I_ L_ 0 (zRet (some (zwR (zek c_) t_)) I_ L_) := by
  intro lc h_ g_ hr hw hg
  have hx : I_ 99 c_ p_ = 1 := hw _ List.mem_cons_self
  obtain ⟨cap_, hls⟩ := hr.list hx h8
  have hnl := hr.nlen hx h8
  refine ⟨.inl (some (zwR (zek c_) t_)), h_, lc, I_, L_, ?_, zExt.rfl, hr, hr.els hx h8 t_ (List.mem_of_getElem? ht), Eq.refl _, Eq.refl _, Eq.refl _⟩
  exact zj4 hls (by rw [List.getElem?_map, ht]; exact Eq.refl _) (by rw [List.length_map]; omega)
theorem w_set {c_ p_ k_ t_ t1_ : Nat} (h8 : zct c_ = 8) (ht : (L_ c_ p_)[k_]? = some t_) : zYm 2 16 [zwR c_ p_, zwI (Int32.ofNat k_), zwR (zek c_) t1_] I_ L_ 0 (zRet (some (zwR (zek c_) t_)) I_ (zlup L_ c_ p_ ((L_ c_ p_).set k_ t1_))) := by
  intro lc h_ g_ hr hw hg
  have hx : I_ 99 c_ p_ = 1 := hw _ List.mem_cons_self
  have ht1 : I_ 99 (zek c_) t1_ = 1 := hw _ (List.mem_cons_of_mem _ (List.mem_cons_of_mem _ List.mem_cons_self))
  have hnl := hr.nlen hx h8
  obtain ⟨cap_, er, hp, _⟩ := id hr
  obtain ⟨fs, h3⟩ := hp.tag ht1
  obtain ⟨h', hp, hr'⟩ := hr.lstep (l' := (L_ c_ p_).set k_ t1_) (P_ := fun h' => zRn 2 16 (zts lc [zwR c_ p_, zwI (Int32.ofNat k_), zwR (zek c_) t1_]) h_ (.inl (some (.ref (lc (zek c_) t_))), h')) hx h8 (fun t2_ h2 => by
    rcases List.mem_or_eq_of_mem_set h2 with e_ | e_
    · exact hr.els hx h8 t2_ e_
    · rw [e_]; exact ht1) (fun e_ cap_ hl hcap => by
    have := zj16s hl (i := k_) (by rw [List.getElem?_map, ht]; exact Eq.refl _) (by rw [List.length_map]; omega) (w := lc (zek c_) t1_) ⟨_, _, h3, by have := zct_ek (c := c_); omega⟩
    rw [List.map_set]
    exact this)
  exact ⟨.inl (some (zwR (zek c_) t_)), h', lc, I_, _, hp, zExt.rfl, hr', hr.els hx h8 t_ (List.mem_of_getElem? ht), Eq.refl _, Eq.refl _, Eq.refl _⟩
theorem w_add {c_ p_ t_ : Nat} (h8 : zct c_ = 8) (hn : (L_ c_ p_).length < 600) : zYm 5 6 [zwR c_ p_, zwR (zek c_) t_] I_ L_ 0 (zRet (some (zwI 1)) I_ (zlup L_ c_ p_ (L_ c_ p_ ++ [t_]))) := by
  intro lc h_ g_ hr hw hg
  have hx : I_ 99 c_ p_ = 1 := hw _ List.mem_cons_self
  have ht1 : I_ 99 (zek c_) t_ = 1 := hw _ (List.mem_cons_of_mem _ List.mem_cons_self)
  have hlen := hr.len
  obtain ⟨h', hp, hr'⟩ := hr.lstep (l' := L_ c_ p_ ++ [t_]) (P_ := fun h' => zRn 5 6 (zts lc [zwR c_ p_, zwR (zek c_) t_]) h_ (.inl (some (.int 1)), h')) hx h8 (fun t2_ h2 => by
    rcases List.mem_append.mp h2 with e_ | e_
    · exact hr.els hx h8 t2_ e_
    · rw [List.mem_singleton.mp e_]; exact ht1) (fun e_ cap_ hl hcap => by
    have := zj6 hl (by rw [List.length_map]; exact hn) hcap (by omega) (hr.el ht1)
    rw [List.map_append]
    exact this)
  exact ⟨.inl (some (zwI 1)), h', lc, I_, _, hp, zExt.rfl, hr', trivial, Eq.refl _, Eq.refl _, Eq.refl _⟩
theorem w_addi {c_ p_ k_ t_ : Nat} (h8 : zct c_ = 8) (hn : (L_ c_ p_).length < 600) (hk : k_ ≤ (L_ c_ p_).length) : zYm 4 10 [zwR c_ p_, zwI (Int32.ofNat k_), zwR (zek c_) t_] I_ L_ 0 (zRet none I_ (zlup L_ c_ p_ ((L_ c_ p_).take k_ ++ t_ :: (L_ c_ p_).drop k_))) := by
  intro lc h_ g_ hr hw hg
  have hx : I_ 99 c_ p_ = 1 := hw _ List.mem_cons_self
  have ht1 : I_ 99 (zek c_) t_ = 1 := hw _ (List.mem_cons_of_mem _ (List.mem_cons_of_mem _ List.mem_cons_self))
  have hlen := hr.len
  obtain ⟨h', hp, hr'⟩ := hr.lstep (l' := (L_ c_ p_).take k_ ++ t_ :: (L_ c_ p_).drop k_) (P_ := fun h' => zRn 4 10 (zts lc [zwR c_ p_, zwI (Int32.ofNat k_), zwR (zek c_) t_]) h_ (.inl none, h')) hx h8 (fun t2_ h2 => by
    rcases List.mem_append.mp h2 with e_ | e_
    · exact hr.els hx h8 t2_ (List.mem_of_mem_take e_)
    · rcases List.mem_cons.mp e_ with e_ | e_
      · rw [e_]; exact ht1
      · exact hr.els hx h8 t2_ (List.mem_of_mem_drop e_)) (fun e_ cap_ hl hcap => by
    have := zj10 (i := k_) hl (by rw [List.length_map]; exact hk) (by rw [List.length_map]; exact hn) hcap (by omega) (hr.el ht1)
    rw [List.map_append, List.map_cons, List.map_take, List.map_drop]
    exact this)
  exact ⟨.inl none, h', lc, I_, _, hp, zExt.rfl, hr', trivial, Eq.refl _, Eq.refl _, Eq.refl _⟩
theorem w_rem {c_ p_ k_ t_ : Nat} (h8 : zct c_ = 8) (ht : (L_ c_ p_)[k_]? = some t_) : zYm 2 13 [zwR c_ p_, zwI (Int32.ofNat k_)] I_ L_ 0 (zRet (some (zwR (zek c_) t_)) I_ (zlup L_ c_ p_ ((L_ c_ p_).eraseIdx k_))) := by
  intro lc h_ g_ hr hw hg
  have hx : I_ 99 c_ p_ = 1 := hw _ List.mem_cons_self
  have hn := hr.nlen hx h8
  obtain ⟨h', hp, hr'⟩ := hr.lstep (l' := (L_ c_ p_).eraseIdx k_) (P_ := fun h' => zRn 2 13 (zts lc [zwR c_ p_, zwI (Int32.ofNat k_)]) h_ (.inl (some (.ref (lc (zek c_) t_))), h')) hx h8 (fun t2_ h2 => hr.els hx h8 t2_ (List.mem_of_mem_eraseIdx h2)) (fun e_ cap_ hl hcap => by
    have := zj13 (i := k_) hl (by rw [List.getElem?_map, ht]; exact Eq.refl _) (by rw [List.length_map]; exact hn) hcap
    rw [zera_map]
    exact this)
  exact ⟨.inl (some (zwR (zek c_) t_)), h', lc, I_, _, hp, zExt.rfl, hr', hr.els hx h8 t_ (List.mem_of_getElem? ht), Eq.refl _, Eq.refl _, Eq.refl _⟩
theorem w_clear {c_ p_ : Nat} (h8 : zct c_ = 8) : zYm 0 12 [zwR c_ p_] I_ L_ 0 (zRet none I_ (zlup L_ c_ p_ [])) := by
  intro lc h_ g_ hr hw hg
  have hx : I_ 99 c_ p_ = 1 := hw _ List.mem_cons_self
  have hn := hr.nlen hx h8
  obtain ⟨h', hp, hr'⟩ := hr.lstep (l' := []) (P_ := fun h' => zRn 0 12 (zts lc [zwR c_ p_]) h_ (.inl none, h')) hx h8 (fun t2_ h2 => by cases h2) (fun e_ cap_ hl hcap => zj12 hl (by rw [List.length_map]; exact hn) hcap)
  exact ⟨.inl none, h', lc, I_, _, hp, zExt.rfl, hr', trivial, Eq.refl _, Eq.refl _, Eq.refl _⟩
end
