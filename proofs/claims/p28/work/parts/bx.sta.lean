/-! THE LAW: its start -/
def zlcs : zAd := fun c_ i_ => if c_ = 6 ∧ i_ = 0 then 0 else if c_ = 20 ∧ i_ = 0 then 1 else if c_ = 21 ∧ i_ = 0 then 2 else if c_ = 22 ∧ i_ = 0 then 3 else if c_ = 23 ∧ i_ = 0 then 4 else if c_ = 31 ∧ i_ = 0 then 5 else if c_ = 3 ∧ i_ = 0 then 6 else 7
def zhpc : zHp := [(6, (zfs 6 0 (fun _ => 0)).map (ztr zlcs)), (8, [.int 0, .retAddr 1, .int 0]), (8, [.int 0, .retAddr 1, .int 0]), (8, [.int 0, .retAddr 1, .int 0]), (8, [.int 0, .retAddr 1, .int 0]), (101, (zfs 31 0 (fun _ => 0)).map (ztr zlcs)), (3, (zfs 3 0 (fun _ => 0)).map (ztr zlcs))]
set_option maxRecDepth 100000 in
theorem zts22 : zev 300 none 4 22 0 (zent [.ref 0] (zinf 22).2.1) [] [(6, (zdfs[6]?).getD [])] = some (.inl none, zhpc) := by rfl
def zexs : List (Nat × Nat) := [(6, 0), (20, 0), (21, 0), (22, 0), (23, 0), (31, 0), (3, 0)]
def zIs : zIn := fun c_ i_ f_ => if c_ = 99 ∧ (i_, f_) ∈ zexs then 1 else 0
def zLs0 : zLi := fun _ _ => []
theorem zIs_ne {c_ i_ : Nat} (h_ : ¬ c_ = 99) : zIs c_ i_ = fun _ => 0 := by
  funext f_
  exact if_neg (fun e_ => h_ e_.1)
theorem zIs_99 {c_ i_ : Nat} : zIs 99 c_ i_ = 1 ↔ (c_, i_) ∈ zexs := by
  constructor
  · intro h_
    by_cases hm_ : (c_, i_) ∈ zexs
    · exact hm_
    · have e_ : zIs 99 c_ i_ = 0 := if_neg (fun e_ => hm_ e_.2)
      rw [e_] at h_
      exact absurd h_ (by decide)
  · intro h_
    exact if_pos ⟨rfl, h_⟩
def zokb (w_ : zW) : Bool := match w_ with
  | .inr (.inr (.inl p_)) => zexs.contains p_
  | _ => true
theorem zokb_ok {w_ : zW} (h_ : zokb w_ = true) : zok zIs w_ := by
  rcases w_ with x_ | x_ | x_ | x_
  · trivial
  · trivial
  · have h2 : zexs.contains x_ = true := h_
    exact zIs_99.mpr (by simpa using h2)
  · trivial
set_option maxRecDepth 100000 in
theorem zhs_ok : ∀ x_ ∈ zexs, (zfs x_.1 x_.2 (fun _ => 0)).all zokb = true := by decide +kernel
set_option maxRecDepth 100000 in
theorem zhs_inj : ∀ x_ ∈ zexs, ∀ y_ ∈ zexs, zlcs x_.1 x_.2 = zlcs y_.1 y_.2 → x_ = y_ := by decide +kernel
set_option maxRecDepth 100000 in
theorem zhs_cell : ∀ x_ ∈ zexs, zct x_.1 ≠ 999 ∧ (zct x_.1 = 8 → x_.2 < 4 ∧ zhpc[zlcs x_.1 x_.2]? = some (8, [.int 0, .retAddr 1, .int 0])) ∧ (zct x_.1 ≠ 8 → zhpc[zlcs x_.1 x_.2]? = some (zct x_.1, (zfs x_.1 x_.2 (fun _ => 0)).map (ztr zlcs))) :=
  List.forall_mem_cons.mpr ⟨⟨by decide, fun h_ => absurd h_ (by decide), fun _ => rfl⟩,
  List.forall_mem_cons.mpr ⟨⟨by decide, fun _ => ⟨by decide, rfl⟩, fun h_ => (h_ rfl).elim⟩,
  List.forall_mem_cons.mpr ⟨⟨by decide, fun _ => ⟨by decide, rfl⟩, fun h_ => (h_ rfl).elim⟩,
  List.forall_mem_cons.mpr ⟨⟨by decide, fun _ => ⟨by decide, rfl⟩, fun h_ => (h_ rfl).elim⟩,
  List.forall_mem_cons.mpr ⟨⟨by decide, fun _ => ⟨by decide, rfl⟩, fun h_ => (h_ rfl).elim⟩,
  List.forall_mem_cons.mpr ⟨⟨by decide, fun h_ => absurd h_ (by decide), fun _ => rfl⟩,
  List.forall_mem_cons.mpr ⟨⟨by decide, fun h_ => absurd h_ (by decide), fun _ => rfl⟩,
  fun _ h_ => absurd h_ List.not_mem_nil⟩⟩⟩⟩⟩⟩⟩
set_option maxRecDepth 100000 in
theorem zhs_room : zhpc.length + zsz zhpc + 5 * zpot (fun _ _ => 0) ≤ 170000 := by decide +kernel
theorem zRs0 : zRep zlcs zIs zLs0 zhpc 170000 := by
  refine ⟨fun _ _ => 0, fun _ _ => 0, ⟨fun c_ i_ hx => ?_, fun c_ i_ c' i' hx hx' e_ => ?_, fun c_ i_ c' i' _ _ _ _ e_ => absurd rfl e_, fun _ _ _ => rfl⟩, zhs_room⟩
  · have hm_ := zIs_99.mp hx
    obtain ⟨k1_, k2_, k3_⟩ := zhs_cell (c_, i_) hm_
    have h99 : ¬ c_ = 99 := fun e_ => k1_ (by show zct c_ = 999; rw [e_]; rfl)
    refine ⟨k1_, fun e8 => ⟨(k2_ e8).1, Nat.zero_le _, ⟨0, Or.inl ⟨(k2_ e8).2, rfl, rfl⟩⟩, fun t_ ht => absurd ht List.not_mem_nil⟩, fun e8 => ?_⟩
    rw [zIs_ne h99]
    exact ⟨k3_ e8, fun w_ hw => zokb_ok (List.all_eq_true.mp (zhs_ok (c_, i_) hm_) w_ hw)⟩
  · have := zhs_inj (c_, i_) (zIs_99.mp hx) (c', i') (zIs_99.mp hx') e_
    simpa using this
theorem zIs_no {c_ i_ : Nat} (h_ : zexs.all (fun x_ => !(x_.1 == c_)) = true) : ¬ zIs 99 c_ i_ = 1 := fun e_ => by
  have := List.all_eq_true.mp h_ _ (zIs_99.mp e_)
  simp at this
theorem zRR_s : zzR zIs zLs0 zIs 0 0 0 := by
  have i0_ : ∀ c_ i_ f_, ¬ c_ = 99 → zIs c_ i_ f_ = 0 := fun c_ i_ f_ h_ => congrFun (zIs_ne h_) f_
  have hcb : ∀ n_ k_ : Nat, zcb zIs n_ k_ 0 = 0 := by
    intro n_
    induction n_ with
    | zero => exact fun _ => rfl
    | succ n_ ih_ =>
      intro k_
      show zcb zIs n_ (k_ + 1) (if zIs 31 0 k_ = 0 then 0 else 0 + 1) = 0
      rw [if_pos (i0_ 31 0 k_ (by decide))]
      exact ih_ (k_ + 1)
  refine ⟨⟨rfl, Nat.zero_le _, i0_ _ _ _ (by decide), rfl, Nat.zero_le _, i0_ _ _ _ (by decide), rfl, Nat.zero_le _, i0_ _ _ _ (by decide), ?_, ?_, ⟨0, Nat.zero_le _, i0_ _ _ _ (by decide)⟩, ⟨0, Nat.zero_le _, i0_ _ _ _ (by decide)⟩, ?_, ?_, ?_⟩, fun i_ h_ => absurd h_ (Nat.not_lt_zero _), fun i_ h_ => absurd h_ (Nat.not_lt_zero _), fun i_ h_ => absurd h_ (Nat.not_lt_zero _), fun i_ h_ => absurd h_ (Nat.not_lt_zero _), ?_⟩
  · rw [i0_ _ _ _ (by decide), i0_ _ _ _ (by decide)]
  · rw [i0_ _ _ _ (by decide), i0_ _ _ _ (by decide)]
  · rw [i0_ _ _ _ (by decide), i0_ _ _ _ (by decide)]
  · intro k_ _
    rw [i0_ _ _ _ (by decide), i0_ _ _ _ (by decide)]
  · rw [i0_ _ _ _ (by decide), hcb]
  · refine ⟨fun i_ _ => zIs_no (by decide), fun r_ _ => ⟨zIs_no (by decide), zIs_no (by decide), zIs_no (by decide)⟩, fun v_ _ => ⟨zIs_no (by decide), zIs_no (by decide), zIs_no (by decide), zIs_no (by decide), zIs_no (by decide), zIs_no (by decide), rfl, rfl, rfl, rfl⟩, fun r_ _ _ => ⟨i0_ _ _ _ (by decide), i0_ _ _ _ (by decide), i0_ _ _ _ (by decide)⟩, fun v_ _ _ => ⟨i0_ _ _ _ (by decide), i0_ _ _ _ (by decide), i0_ _ _ _ (by decide), i0_ _ _ _ (by decide), i0_ _ _ _ (by decide), i0_ _ _ _ (by decide)⟩⟩
set_option maxRecDepth 100000 in
theorem zos0 {T a_ : Nat} {xs : Nat → Int32} {Q_ : zPost} (hT_ : T ≤ 1000) (ha_ : 12000 ≤ a_) (hQ : ∀ I' L', Q_ (.inl (some (zwI 1))) I' L') : zY (some (T, xs)) 20 210 8 [some (zwK 1), some (zwR 6 0), none, none, none, none, none, none, none, none, none, none, none, none, none, none, none, none, none, none, none, none, none, none, none, none, none] [] zIs zLs0 a_ Q_ := by
  have nn : ∀ (I_ : zIn) (i_ k_ : Nat), ¬ k_ = i_ → I_ 99 30 k_ ≠ 1 → znwI I_ 30 i_ (fun _ => 0) 99 30 k_ ≠ 1 := fun I_ i_ k_ hk h_ e_ => by
    rcases znwI_99.mp e_ with h2 | h2
    · exact hk h2.2
    · exact h_ h2
  have n0_ : ∀ k_, zIs 99 30 k_ ≠ 1 := fun k_ => zIs_no (by decide)
  refine zY.go 1 rfl ?_
  refine zY.na (j_ := 60) (n_ := 6) rfl rfl rfl (n0_ 60) (by omega) ?_
  refine zY.go 2 rfl ?_
  refine zY.na (j_ := 61) (n_ := 6) rfl rfl rfl (nn _ _ _ (by omega) (n0_ 61)) (by omega) ?_
  refine zY.go 2 rfl ?_
  refine zY.na (j_ := 62) (n_ := 6) rfl rfl rfl (nn _ _ _ (by omega) (nn _ _ _ (by omega) (n0_ 62))) (by omega) ?_
  refine zY.go 2 rfl ?_
  refine zY.na (j_ := 63) (n_ := 60) rfl rfl rfl (nn _ _ _ (by omega) (nn _ _ _ (by omega) (nn _ _ _ (by omega) (n0_ 63)))) (by omega) ?_
  refine zY.go 2 rfl ?_
  refine zY.na (j_ := 64) (n_ := 60) rfl rfl rfl (nn _ _ _ (by omega) (nn _ _ _ (by omega) (nn _ _ _ (by omega) (nn _ _ _ (by omega) (n0_ 64))))) (by omega) ?_
  refine zY.go 2 rfl ?_
  refine zY.na (j_ := 65) (n_ := 60) rfl rfl rfl (nn _ _ _ (by omega) (nn _ _ _ (by omega) (nn _ _ _ (by omega) (nn _ _ _ (by omega) (nn _ _ _ (by omega) (n0_ 65)))))) (by omega) ?_
  refine zY.go 2 rfl ?_
  refine zY.na (j_ := 66) (n_ := 8) rfl rfl rfl (nn _ _ _ (by omega) (nn _ _ _ (by omega) (nn _ _ _ (by omega) (nn _ _ _ (by omega) (nn _ _ _ (by omega) (nn _ _ _ (by omega) (n0_ 66))))))) (by omega) ?_
  refine zY.go 5 rfl ?_
  have h0 : zwSt (znwI (znwI (znwI (znwI (znwI (znwI (znwI zIs 30 60 fun _ => 0) 30 61 fun _ => 0) 30 62 fun _ => 0) 30 63 fun _ => 0) 30 64 fun _ => 0) 30 65 fun _ => 0) 30 66 fun _ => 0) zLs0 0 0 := by
    have nz : ∀ c_ i_ f_, ¬ c_ = 99 → ¬ c_ = 30 → znwI (znwI (znwI (znwI (znwI (znwI (znwI zIs 30 60 fun _ => 0) 30 61 fun _ => 0) 30 62 fun _ => 0) 30 63 fun _ => 0) 30 64 fun _ => 0) 30 65 fun _ => 0) 30 66 (fun _ => 0) c_ i_ f_ = 0 := fun c_ i_ f_ h9 h3 => by
      rw [znwI_ne h9 (by omega), znwI_ne h9 (by omega), znwI_ne h9 (by omega), znwI_ne h9 (by omega), znwI_ne h9 (by omega), znwI_ne h9 (by omega), znwI_ne h9 (by omega), zIs_ne h9]
    refine ⟨⟨_, zRR_s.n30.n30.n30.n30.n30.n30.n30⟩, ⟨nz _ _ _ (by omega) (by omega), nz _ _ _ (by omega) (by omega), nz _ _ _ (by omega) (by omega)⟩, fun k_ _ => nz _ _ _ (by omega) (by omega), fun i_ hi_ => ?_, fun _ => rfl, fun i_ hi_ => absurd hi_ (Nat.not_lt_zero i_), fun i_ hi_ => absurd hi_ (Nat.not_lt_zero i_)⟩
    exact nn _ _ _ (by omega) (nn _ _ _ (by omega) (nn _ _ _ (by omega) (nn _ _ _ (by omega) (nn _ _ _ (by omega) (nn _ _ _ (by omega) (nn _ _ _ (by omega) (n0_ i_)))))))
  exact zos1 (a_ := 11200) hT_ (fun I_ L_ x11 a' ha' h_ => by
    refine zY.go 2 rfl ?_
    exact zos2 (a_ := 10900) hT_ (fun I_ L_ x11 a' ha' h_ => zos3 hT_ ha' h_ hQ) 2 0 I_ L_ a' x11 rfl (by omega) h_) 6 0 _ _ _ none rfl (by omega) h0
set_option maxRecDepth 100000 in
/-- THE LAW, the logical machine's run of it: it answers 1, within the room -/
theorem zlaw_run {T : Nat} {xs : Nat → Int32} (hT_ : T ≤ 1000) : ∃ h', zX' (some (T, xs)) 20 210 0 [some (.retAddr 0), none, none, none, none, none, none, none, none, none, none, none, none, none, none, none, none, none, none, none, none, none, none, none, none, none, none] [] [] (.inl (some (.int 1)), h') ∧ h'.length + zsz h' ≤ 600000 := by
  have hY := zos0 (T := T) (xs := xs) (a_ := 12000) (Q_ := fun r_ _ _ => r_ = .inl (some (zwI 1))) hT_ (by omega) (fun _ _ => rfl)
  have hw : zWok zIs [some (zwK 1), some (zwR 6 0), none, none, none, none, none, none, none, none, none, none, none, none, none, none, none, none, none, none, none, none, none, none, none, none, none] [] := by
    refine ⟨fun w_ h_ => ?_, fun w_ h_ => nomatch h_⟩
    have hb_ : ([some (zwK 1), some (zwR 6 0), none, none, none, none, none, none, none, none, none, none, none, none, none, none, none, none, none, none, none, none, none, none, none, none, none] : zWs).all (fun o => match o with | some w_ => zokb w_ | none => true) = true := by decide +kernel
    exact zokb_ok (List.all_eq_true.mp hb_ _ h_)
  obtain ⟨r_, h', lc', I', L', hX, hE, ⟨cap_, er, hp, hsz⟩, hok, hQ⟩ := hY zlcs zhpc 170000 zRs0 hw (by omega)
  subst hQ
  refine ⟨h', ?_, by omega⟩
  have hX : zX' (some (T, xs)) 20 210 8 [some (.retAddr 0), some (.ref 0), none, none, none, none, none, none, none, none, none, none, none, none, none, none, none, none, none, none, none, none, none, none, none, none, none] [] zhpc (.inl (some (.int 1)), h') := hX
  refine zX'.nw (fs := (zdfs[6]?).getD []) rfl (by decide) (by decide) rfl ?_
  refine zX'.run 1 rfl ?_
  refine zX'.c (as := [.ref 0]) (rest := [.ref 0]) (v := none) (d0 := 4) (h' := zhpc) rfl rfl rfl rfl (by decide) rfl (by decide) rfl ⟨300, zts22⟩ (by decide) ?_
  refine zX'.run 1 rfl ?_
  exact hX
