/-! NEW OBJECTS: a vehicle with its lists and its plan -/
section
variable {d_ m_ pc : Nat} {sc_ : zScr} {ls : zLs} {r_ : List Value} {h_ l : zHp} {x_ : zRes × zHp} {cp_ len_ a_ b_ j_ : Nat} {imm_ : Int32} {fs : List Value} {v_ : Value}
theorem zap_get : (h_ ++ l)[h_.length + j_]? = l[j_]? := by rw [List.getElem?_append_right (by omega), Nat.add_sub_cancel_left]
theorem zap_set {o : zOb} : (h_ ++ l).set (h_.length + j_) o = h_ ++ l.set j_ o := by rw [List.set_append_right _ _ (by omega), Nat.add_sub_cancel_left]
/-- a field of a cell that is still made -/
theorem zX'.pfa (hk : zcode m_ pc = some (.putfield cp_, len_, imm_, a_, b_)) (hl : l[j_]? = some (a_, fs)) (hb_ : b_ < fs.length) (hv : zfits (((zfty[a_]?).getD [])[b_]?.getD 9) v_ = true) (hX : zX' sc_ d_ m_ (pc + len_) ls r_ (h_ ++ l.set j_ (a_, fs.set b_ v_)) x_) : zX' sc_ d_ m_ pc ls (v_ :: .ref (h_.length + j_) :: r_) (h_ ++ l) x_ := by
  refine zX'.pf hk (zap_get.trans hl) hb_ hv ?_
  rw [zap_set]; exact hX
theorem zX'.nwa (hk : zcode m_ pc = some (.new cp_, len_, imm_, a_, b_)) (ha_ : a_ < 9) (hl : (h_ ++ l).length < 1000000) (hf : (zdfs[a_]?).getD [] = fs) (hX : zX' sc_ d_ m_ (pc + len_) ls (.ref (h_.length + l.length) :: r_) (h_ ++ (l ++ [(a_, fs)])) x_) : zX' sc_ d_ m_ pc ls r_ (h_ ++ l) x_ := by
  refine zX'.nw hk ha_ hl hf ?_
  rw [List.length_append, List.append_assoc]; exact hX
theorem zX'.ala {len2 len3 a2 b2 b3 cp3 : Nat} {imm2 imm3 : Int32} (hk : zcode m_ pc = some (.new cp_, len_, imm_, 8, b_)) (hk2 : zcode m_ (pc + len_) = some (.dup, len2, imm2, a2, b2)) (hk3 : zcode m_ (pc + len_ + len2) = some (.invokespecial cp3, len3, imm3, 2, b3)) (hl : (h_ ++ l).length < 1000000) (hr : r_.length ≤ 3) (hd_ : 2 ≤ d_) (hX : zX' sc_ (d_ + 1) m_ (pc + len_ + len2 + len3) ls (.ref (h_.length + l.length) :: r_) (h_ ++ (l ++ [(8, [.int 0, .retAddr 1, .int 0])])) x_) : zX' sc_ (d_ + 1) m_ pc ls r_ (h_ ++ l) x_ := by
  refine zX'.nwa hk (by decide) hl rfl ?_
  refine zX'.p hk2 rfl rfl ?_
  have hg : (h_ ++ (l ++ [(8, [Value.int 0, .null, .int 0])]))[h_.length + l.length]? = some (8, [.int 0, .null, .int 0]) := by rw [zap_get]; simp
  have hc_ := zj2 hg
  have hs : (h_ ++ (l ++ [(8, [Value.int 0, .null, .int 0])])).set (h_.length + l.length) (8, [.int 0, .retAddr 1, .int 0]) = h_ ++ (l ++ [(8, [.int 0, .retAddr 1, .int 0])]) := by
    rw [zap_set, List.set_append_right _ _ (Nat.le_refl _), Nat.sub_self]; rfl
  rw [hs] at hc_
  exact zX'.c (as := [.ref (h_.length + l.length)]) (rest := .ref (h_.length + l.length) :: r_) hk3 rfl rfl rfl (by simp; omega) rfl (by decide) (by show decide (_ < _) = true; simp) hc_ hd_ hX
end
theorem zc73 {h_ l : zHp} {j_ : Nat} (hj : l[j_]? = some (0, [.null, .int 0, .int 0, .int 0])) (hl : (h_ ++ l).length < 999990) : zRn 3 73 [.ref (h_.length + j_)] (h_ ++ l) (.inl none, h_ ++ (l ++ [(8, [Value.int 0, Value.retAddr 1, Value.int 0])]).set j_ (0, [Value.ref (h_.length + l.length), Value.int 0, Value.int 0, Value.int 0])) := by
  show zX' none 3 73 0 [some (.ref (h_.length + j_))] [] (h_ ++ l) _
  refine zX'.run 1 rfl ?_
  refine zX'.ob rfl (by decide) ?_
  refine zX'.run 1 rfl ?_
  refine zX'.ala rfl rfl rfl (by omega) (Nat.le_of_ble_eq_true rfl) (by decide) ?_
  refine zX'.pfa rfl (by rw [List.getElem?_append_left (List.getElem?_eq_some_iff.mp hj).1]; exact hj) (Nat.le_of_ble_eq_true rfl) rfl ?_
  exact zX'.r rfl rfl rfl rfl
theorem zc96 {h_ : zHp} {n_ y1 y2 y3 y4 : Int32} (hl : h_.length < 900000) : zRn 4 96 [.ref h_.length, .int n_, .int y1, .int y2, .int y3, .int y4] (h_ ++ [(5, (zdfs[5]?).getD [])]) (.inl none, h_ ++ [(5, [.int n_, .int y1, .int y2, .int y3, .int y4, .ref (h_.length + 1), .ref (h_.length + 2), .ref (h_.length + 3), .ref (h_.length + 4), .int 1, .int 0, .int y1, .int 0]), (8, [.int 0, .retAddr 1, .int 0]), (8, [.int 0, .retAddr 1, .int 0]), (8, [.int 0, .retAddr 1, .int 0]), (0, [.ref (h_.length + 5), .int 0, .int 0, .int 0]), (8, [.int 0, .retAddr 1, .int 0])]) := by
  show zX' none 4 96 0 [some (.ref (h_.length + 0)), some (.int n_), some (.int y1), some (.int y2), some (.int y3), some (.int y4)] [] (h_ ++ [(5, [.int 0, .int 0, .int 0, .int 0, .int 0, .null, .null, .null, .null, .int 0, .int 0, .int 0, .int 0])]) _
  refine zX'.run 1 rfl ?_
  refine zX'.ob rfl (by decide) ?_
  refine zX'.run 1 rfl ?_
  refine zX'.ala rfl rfl rfl (by simp; omega) (Nat.le_of_ble_eq_true rfl) (by decide) ?_
  refine zX'.pfa rfl rfl (Nat.le_of_ble_eq_true rfl) rfl ?_
  refine zX'.run 1 rfl ?_
  refine zX'.ala rfl rfl rfl (by simp; omega) (Nat.le_of_ble_eq_true rfl) (by decide) ?_
  refine zX'.pfa rfl rfl (Nat.le_of_ble_eq_true rfl) rfl ?_
  refine zX'.run 1 rfl ?_
  refine zX'.ala rfl rfl rfl (by simp; omega) (Nat.le_of_ble_eq_true rfl) (by decide) ?_
  refine zX'.pfa rfl rfl (Nat.le_of_ble_eq_true rfl) rfl ?_
  refine zX'.run 1 rfl ?_
  refine zX'.nwa rfl (by decide) (by simp; omega) rfl ?_
  refine zX'.run 1 rfl ?_
  refine zX'.c (as := [.ref (h_.length + 4)]) (rest := [.ref (h_.length + 4), .ref (h_.length + 0)]) rfl rfl rfl rfl (by simp) rfl (by decide) (by show decide (_ < _) = true; simp) (zc73 (j_ := 4) rfl (by simp; omega)) (by decide) ?_
  refine zX'.pfa rfl rfl (Nat.le_of_ble_eq_true rfl) rfl ?_
  refine zX'.run 2 rfl ?_
  refine zX'.pfa rfl rfl (Nat.le_of_ble_eq_true rfl) rfl ?_
  refine zX'.run 2 rfl ?_
  refine zX'.pfa rfl rfl (Nat.le_of_ble_eq_true rfl) rfl ?_
  refine zX'.run 2 rfl ?_
  refine zX'.pfa rfl rfl (Nat.le_of_ble_eq_true rfl) rfl ?_
  refine zX'.run 2 rfl ?_
  refine zX'.pfa rfl rfl (Nat.le_of_ble_eq_true rfl) rfl ?_
  refine zX'.run 2 rfl ?_
  refine zX'.pfa rfl rfl (Nat.le_of_ble_eq_true rfl) rfl ?_
  refine zX'.run 2 rfl ?_
  refine zX'.pfa rfl rfl (Nat.le_of_ble_eq_true rfl) rfl ?_
  refine zX'.run 2 rfl ?_
  refine zX'.pfa rfl rfl (Nat.le_of_ble_eq_true rfl) rfl ?_
  exact zX'.r rfl rfl rfl rfl
theorem zfre.step {lc : zAd} {I_ : zIn} {h_ : zHp} {A_ A' c_ i_ : Nat} {r_ : Nat → Int32} (hf : zfre lc I_ h_ A_) (hA : A' ≠ A_) : zfre (znwA lc c_ i_ A') (znwI I_ c_ i_ r_) h_ A_ := by
  refine ⟨fun c' i' hx => ?_, hf.2⟩
  unfold znwA
  split
  · exact hA
  · rename_i hs
    exact hf.1 c' i' ((znwI_99.mp hx).elim (fun e_ => absurd e_ hs) id)
def zvl (I_ : zIn) (c_ v_ : Nat) : zIn := znwI I_ c_ v_ (I_ c_ v_)
def zveL (I_ : zIn) (v_ : Nat) : zIn := zvl (zvl (zvl (zvl I_ 24 v_) 25 v_) 26 v_) 27 v_
def zveI (I_ : zIn) (v_ : Nat) (y1 y2 y3 y4 : Int32) : zIn := znwI (znwI (zveL I_ v_) 0 v_ (zrw [0, 0, 0, 0])) 5 v_ (zrw [0, y1, y2, y3, y4, 0, 0, 0, 0, 1, 0, y1, 0])
theorem zn99 {I_ : zIn} {c_ i_ c' i' : Nat} {r_ : Nat → Int32} (h_ : ¬ (c' = c_ ∧ i' = i_)) (h2 : I_ 99 c' i' ≠ 1) : znwI I_ c_ i_ r_ 99 c' i' ≠ 1 := fun e_ => (znwI_99.mp e_).elim h_ h2
theorem zveL_99 {I_ : zIn} {v_ c_ i_ : Nat} : zveL I_ v_ 99 c_ i_ = 1 ↔ (c_ = 27 ∧ i_ = v_) ∨ (c_ = 26 ∧ i_ = v_) ∨ (c_ = 25 ∧ i_ = v_) ∨ (c_ = 24 ∧ i_ = v_) ∨ I_ 99 c_ i_ = 1 := by
  unfold zveL zvl
  rw [znwI_99, znwI_99, znwI_99, znwI_99]
theorem zveL_n {I_ : zIn} {v_ c_ i_ : Nat} (h_ : ¬ (24 ≤ c_ ∧ c_ ≤ 27)) (hn : I_ 99 c_ i_ ≠ 1) : zveL I_ v_ 99 c_ i_ ≠ 1 := by
  intro e_
  rcases zveL_99.mp e_ with e_ | e_ | e_ | e_ | e_
  · omega
  · omega
  · omega
  · omega
  · exact hn e_
theorem zc96n {I_ : zIn} {L_ : zLi} {v_ : Nat} {y1 y2 y3 y4 : Int32} (hv : v_ < 4) (n5_ : I_ 99 5 v_ ≠ 1) (n0_ : I_ 99 0 v_ ≠ 1) (n24_ : I_ 99 24 v_ ≠ 1) (n25_ : I_ 99 25 v_ ≠ 1) (n26_ : I_ 99 26 v_ ≠ 1) (n27 : I_ 99 27 v_ ≠ 1) (l24 : L_ 24 v_ = []) (l25 : L_ 25 v_ = []) (l26 : L_ 26 v_ = []) (l27 : L_ 27 v_ = []) : zNw 4 96 5 [zwI (Int32.ofNat v_), zwI y1, zwI y2, zwI y3, zwI y4] I_ L_ 5 v_ (zveI I_ v_ y1 y2 y3 y4) L_ 40 := by
  intro lc h_ g_ hr hw hg
  have hlen := hr.len
  obtain ⟨cap_, er, hp, hbud⟩ := hr
  generalize hE : [((5 : Nat), [Value.int (Int32.ofNat v_), .int y1, .int y2, .int y3, .int y4, .ref (h_.length + 1), .ref (h_.length + 2), .ref (h_.length + 3), .ref (h_.length + 4), .int 1, .int 0, .int y1, .int 0]), (8, [.int 0, .retAddr 1, .int 0]), (8, [.int 0, .retAddr 1, .int 0]), (8, [.int 0, .retAddr 1, .int 0]), (0, [.ref (h_.length + 5), .int 0, .int 0, .int 0]), (8, [.int 0, .retAddr 1, .int 0])] = E_
  have hpush : ∀ (E_ : zHp) (H_ : zHp), zRp lc I_ L_ H_ cap_ er → zRp lc I_ L_ (H_ ++ E_) cap_ er := by
    intro E_
    induction E_ with
    | nil => intro H_ h_; rw [List.append_nil]; exact h_
    | cons o E_ ih_ => intro H_ h_; rw [show H_ ++ o :: E_ = (H_ ++ [o]) ++ E_ by simp]; exact ih_ _ (h_.push o)
  have hp0 := hpush E_ h_ hp
  have hget_ : ∀ j_ o, E_[j_]? = some o → (h_ ++ E_)[h_.length + j_]? = some o := fun j_ o ho => zap_get.trans ho
  have hf : ∀ j_ a_ fs, E_[j_]? = some (a_, fs) → a_ ≠ 103 → zfre lc I_ (h_ ++ E_) (h_.length + j_) := fun j_ a_ fs ho ha_ => ⟨fun c_ i_ hx => by have := hp.lt hx; omega, a_, fs, hget_ j_ _ ho, ha_⟩
  have f0_ := hf 0 _ _ (by rw [← hE]; rfl) (by decide)
  have f1_ := hf 1 _ _ (by rw [← hE]; rfl) (by decide)
  have f2_ := hf 2 _ _ (by rw [← hE]; rfl) (by decide)
  have f3_ := hf 3 _ _ (by rw [← hE]; rfl) (by decide)
  have f4_ := hf 4 _ _ (by rw [← hE]; rfl) (by decide)
  have f5_ := hf 5 _ _ (by rw [← hE]; rfl) (by decide)
  have p1_ := hp0.regl (A_ := h_.length + 1) (c_ := 24) (i_ := v_) f1_ n24_ rfl hv (hget_ 1 _ (by rw [← hE]; rfl)) l24
  have p2_ := p1_.regl (A_ := h_.length + 2) (c_ := 25) (i_ := v_) (f2_.step (by omega)) (zn99 (by simp) n25_) rfl hv (hget_ 2 _ (by rw [← hE]; rfl)) l25
  have p3_ := p2_.regl (A_ := h_.length + 3) (c_ := 26) (i_ := v_) ((f3_.step (by omega)).step (by omega)) (zn99 (by simp) (zn99 (by simp) n26_)) rfl hv (hget_ 3 _ (by rw [← hE]; rfl)) l26
  have p4_ : zRp _ (zveL I_ v_) L_ (h_ ++ E_) cap_ er := p3_.regl (A_ := h_.length + 5) (c_ := 27) (i_ := v_) (((f5_.step (by omega)).step (by omega)).step (by omega)) (zn99 (by simp) (zn99 (by simp) (zn99 (by simp) n27))) rfl hv (hget_ 5 _ (by rw [← hE]; rfl)) l27
  have x27 : zveL I_ v_ 99 27 v_ = 1 := zveL_99.mpr (Or.inl ⟨rfl, rfl⟩)
  have p5_ := p4_.reg (A_ := h_.length + 4) (c_ := 0) (i_ := v_) (r_ := zrw [0, 0, 0, 0]) ((((f4_.step (by omega)).step (by omega)).step (by omega)).step (by omega)) (zveL_n (by omega) n0_) (by decide) (by decide) (by
    rw [hget_ 4 _ (by rw [← hE]; rfl)]
    simp [zfs, zrw, ztr, znwA, zct]) (by
    intro w_ hw
    rcases List.mem_cons.mp hw with e_ | e_
    · rw [e_]; exact x27
    · simp at e_; rcases e_ with e_ | e_ | e_ <;> subst e_ <;> trivial)
  have x0_ : znwI (zveL I_ v_) 0 v_ (zrw [0, 0, 0, 0]) 99 0 v_ = 1 := znwI_99.mpr (Or.inl ⟨rfl, rfl⟩)
  have x24 : znwI (zveL I_ v_) 0 v_ (zrw [0, 0, 0, 0]) 99 24 v_ = 1 := znwI_99.mpr (Or.inr (zveL_99.mpr (Or.inr (Or.inr (Or.inr (Or.inl ⟨rfl, rfl⟩))))))
  have x25 : znwI (zveL I_ v_) 0 v_ (zrw [0, 0, 0, 0]) 99 25 v_ = 1 := znwI_99.mpr (Or.inr (zveL_99.mpr (Or.inr (Or.inr (Or.inl ⟨rfl, rfl⟩)))))
  have x26 : znwI (zveL I_ v_) 0 v_ (zrw [0, 0, 0, 0]) 99 26 v_ = 1 := znwI_99.mpr (Or.inr (zveL_99.mpr (Or.inr (Or.inl ⟨rfl, rfl⟩))))
  have p6_ := p5_.reg (A_ := h_.length + 0) (c_ := 5) (i_ := v_) (r_ := zrw [0, y1, y2, y3, y4, 0, 0, 0, 0, 1, 0, y1, 0]) (((((f0_.step (by omega)).step (by omega)).step (by omega)).step (by omega)).step (by omega)) (zn99 (by simp) (zveL_n (by omega) n5_)) (by decide) (by decide) (by
    rw [hget_ 0 _ (by rw [← hE]; rfl)]
    simp [zfs, zrw, ztr, znwA, zct, zbo]) (by
    intro w_ hw
    simp only [zfs, List.mem_cons, List.not_mem_nil, or_false] at hw
    rcases hw with e_ | e_ | e_ | e_ | e_ | e_ | e_ | e_ | e_ | e_ | e_ | e_ | e_
    all_goals first | (subst e_; trivial) | (subst e_; first | exact x24 | exact x25 | exact x26 | exact x0_))
  refine ⟨h_ ++ E_, _, ?_, ?_, ⟨cap_, er, p6_, ?_⟩, ?_, znwI_99.mpr (Or.inl ⟨rfl, rfl⟩)⟩
  · rw [← hE]; exact zc96 (by omega)
  · exact (znwA_ext n24_).trans ((znwA_ext (zn99 (by simp) n25_)).trans ((znwA_ext (zn99 (by simp) (zn99 (by simp) n26_))).trans ((znwA_ext (zn99 (by simp) (zn99 (by simp) (zn99 (by simp) n27)))).trans ((znwA_ext (I_ := zveL I_ v_) (zveL_n (by omega) n0_)).trans (znwA_ext (I_ := znwI (zveL I_ v_) 0 v_ (zrw [0, 0, 0, 0])) (zn99 (by simp) (zveL_n (by omega) n5_)))))))
  · have hz : zsz (h_ ++ E_) = zsz h_ + 29 := by
      rw [← hE]; simp [zsz, zosz]
    have hl2 : (h_ ++ E_).length = h_.length + 6 := by rw [← hE]; simp
    omega
  · simp [znwA]
