/-! NEW OBJECTS: riders, requests, stops -/
def zrw (l : List Int32) : Nat → Int32 := fun f_ => (l[f_]?).getD 0
theorem zRep.newo {lc : zAd} {I_ : zIn} {L_ : zLi} {h_ : zHp} {g_ c_ i_ : Nat} {r_ : Nat → Int32} (hr : zRep lc I_ L_ h_ g_) (hn : I_ 99 c_ i_ ≠ 1) (hc_ : zct c_ ≠ 8) (hc9 : zct c_ ≠ 999) (hz : ¬ (9 ≤ zct c_ ∧ zct c_ < 12)) (hok : ∀ w_ ∈ zfs c_ i_ r_, zok I_ w_) : zRep (znwA lc c_ i_ h_.length) (znwI I_ c_ i_ r_) L_ (h_ ++ [(zct c_, (zfs c_ i_ r_).map (ztr lc))]) (g_ + (1 + (zfs c_ i_ r_).length)) := by
  obtain ⟨cap_, er, h1, h2⟩ := hr
  refine ⟨cap_, er, (h1.push _).reg ⟨fun c' i' hx => Nat.ne_of_lt (h1.lt hx), _, _, zget_last, zct_ne103⟩ hn hc_ hc9 zget_last hok, ?_⟩
  rw [zsz_push, List.length_append]
  simp only [List.length_cons, List.length_nil, zosz, if_neg hz, List.length_map]
  omega
theorem zs31 {h_ : zHp} {x_ y_ : Int32} : zRn 0 31 [.int x_, .int y_] h_ (.inl (some (.int (zstp x_ y_))), h_) := by
  show zX' none 0 31 0 [some (.int x_), some (.int y_)] [] h_ _
  refine zX'.run 7 rfl ?_
  refine zX'.abs rfl (by simp) ?_
  refine zX'.run 7 rfl ?_
  refine zX'.abs rfl (by simp) ?_
  refine zX'.run 1 rfl ?_
  exact zX'.r rfl rfl rfl rfl
theorem zc87 {I_ : zIn} {L_ : zLi} {i_ : Nat} {k_ w_ l y_ : Int32} (hn : I_ 99 2 i_ ≠ 1) : zNw 0 87 2 [zwI k_, zwI w_, zwI l, zwI y_] I_ L_ 2 i_ (znwI I_ 2 i_ (zrw [k_, w_, l, (if k_ = 2 then 2 else 1) + (if y_ = 0 then 0 else 1), if k_ = 2 then 6 else if k_ = 1 then 4 else 2])) L_ 6 := by
  intro lc h_ g_ hr hw hg
  have hrep := hr.newo (r_ := zrw [k_, w_, l, (if k_ = 2 then 2 else 1) + (if y_ = 0 then 0 else 1), if k_ = 2 then 6 else if k_ = 1 then 4 else 2]) hn (by decide) (by decide) (by decide) (by intro v_ hv; simp [zfs] at hv; rcases hv with rfl | rfl | rfl | rfl | rfl <;> trivial)
  refine ⟨_, znwA lc 2 i_ h_.length, ?_, znwA_ext hn, hrep, by simp [znwA], znwI_99.mpr (Or.inl ⟨rfl, rfl⟩)⟩
  show zX' none 0 87 0 [some (.ref h_.length), some (.int k_), some (.int w_), some (.int l), some (.int y_)] [] (h_ ++ [(2, [.int 0, .int 0, .int 0, .int 0, .int 0])]) (.inl none, h_ ++ [(2, [.int k_, .int w_, .int l, .int ((if k_ = 2 then 2 else 1) + (if y_ = 0 then 0 else 1)), .int (if k_ = 2 then 6 else if k_ = 1 then 4 else 2)])])
  refine zX'.run 1 rfl ?_
  refine zX'.ob rfl (by decide) ?_
  refine zX'.run 2 rfl ?_
  refine zX'.pfn rfl (Nat.le_of_ble_eq_true rfl) rfl ?_
  refine zX'.run 2 rfl ?_
  refine zX'.pfn rfl (Nat.le_of_ble_eq_true rfl) rfl ?_
  refine zX'.run 2 rfl ?_
  refine zX'.pfn rfl (Nat.le_of_ble_eq_true rfl) rfl ?_
  have T3 : ∀ S_, zX' none 0 87 44 [some (.ref h_.length), some (.int k_), some (.int w_), some (.int l), some (.int y_)] [] (h_ ++ [(2, [.int k_, .int w_, .int l, .int S_, .int 0])]) (.inl none, h_ ++ [(2, [.int k_, .int w_, .int l, .int S_, .int (if k_ = 2 then 6 else if k_ = 1 then 4 else 2)])]) := by
    intro S_
    refine zX'.run 3 rfl ?_
    by_cases h2 : k_ = 2
    · rw [if_pos h2]
      refine zX'.br (t := false) rfl rfl (congrArg some (Prod.ext (by show (!decide (k_ = 2)) = false; simp [h2]) rfl)) (fun q_ => by cases q_) (fun _ => ?_)
      refine zX'.run 2 rfl ?_
      refine zX'.pfn rfl (Nat.le_of_ble_eq_true rfl) rfl ?_
      exact zX'.r rfl rfl rfl rfl
    · rw [if_neg h2]
      refine zX'.br (t := true) rfl rfl (congrArg some (Prod.ext (by show (!decide (k_ = 2)) = true; simp [h2]) rfl)) (fun _ => ?_) (fun q_ => by cases q_)
      refine zX'.run 2 rfl ?_
      by_cases h1 : k_ = 1
      · rw [if_pos h1]
        refine zX'.br (t := false) rfl rfl (congrArg some (Prod.ext (by show (!decide (k_ = 1)) = false; simp [h1]) rfl)) (fun q_ => by cases q_) (fun _ => ?_)
        refine zX'.run 2 rfl ?_
        refine zX'.pfn rfl (Nat.le_of_ble_eq_true rfl) rfl ?_
        exact zX'.r rfl rfl rfl rfl
      · rw [if_neg h1]
        refine zX'.br (t := true) rfl rfl (congrArg some (Prod.ext (by show (!decide (k_ = 1)) = true; simp [h1]) rfl)) (fun _ => ?_) (fun q_ => by cases q_)
        refine zX'.run 1 rfl ?_
        refine zX'.pfn rfl (Nat.le_of_ble_eq_true rfl) rfl ?_
        exact zX'.r rfl rfl rfl rfl
  have T2 : ∀ S_ : Int32, zX' none 0 87 30 [some (.ref h_.length), some (.int k_), some (.int w_), some (.int l), some (.int y_)] [.int S_, .ref h_.length] (h_ ++ [(2, [.int k_, .int w_, .int l, .int 0, .int 0])]) (.inl none, h_ ++ [(2, [.int k_, .int w_, .int l, .int (S_ + (if y_ = 0 then 0 else 1)), .int (if k_ = 2 then 6 else if k_ = 1 then 4 else 2)])]) := by
    intro S_
    refine zX'.run 1 rfl ?_
    by_cases h0 : y_ = 0
    · rw [if_pos h0]
      refine zX'.br (t := true) rfl rfl (congrArg some (Prod.ext (decide_eq_true h0) rfl)) (fun _ => ?_) (fun q_ => by cases q_)
      refine zX'.run 2 rfl ?_
      refine zX'.pfn rfl (Nat.le_of_ble_eq_true rfl) rfl ?_
      exact T3 _
    · rw [if_neg h0]
      refine zX'.br (t := false) rfl rfl (congrArg some (Prod.ext (decide_eq_false h0) rfl)) (fun q_ => by cases q_) (fun _ => ?_)
      refine zX'.run 3 rfl ?_
      refine zX'.pfn rfl (Nat.le_of_ble_eq_true rfl) rfl ?_
      exact T3 _
  refine zX'.run 3 rfl ?_
  by_cases h2 : k_ = 2
  · have := T2 2
    rw [if_pos h2] at this ⊢
    refine zX'.br (t := false) rfl rfl (congrArg some (Prod.ext (by show (!decide (k_ = 2)) = false; simp [h2]) rfl)) (fun q_ => by cases q_) (fun _ => ?_)
    refine zX'.run 2 rfl ?_
    rw [if_pos h2]
    exact this
  · refine zX'.br (t := true) rfl rfl (congrArg some (Prod.ext (by show (!decide (k_ = 2)) = true; simp [h2]) rfl)) (fun _ => ?_) (fun q_ => by cases q_)
    refine zX'.run 1 rfl ?_
    have := T2 1
    rw [show (if k_ = 2 then (2 : Int32) else 1) = 1 from if_neg h2]
    exact this
theorem zc82 {I_ : zIn} {L_ : zLi} {i_ p_ : Nat} {x_ y_ z_ : Int32} (hp : p_ < 1000) (hn : I_ 99 1 i_ ≠ 1) : zNw 1 82 1 [zwR 2 p_, zwI x_, zwI y_, zwI z_] I_ L_ 1 i_ (znwI I_ 1 i_ (zrw [Int32.ofNat p_, x_, y_, z_, 10 + 4 * zstp x_ y_, 0, 0, -1, -1, -1, -1, -1, -1, 0, 0])) L_ 16 := by
  intro lc h_ g_ hr hw hg
  have hf0 : zfs 1 i_ (zrw [Int32.ofNat p_, x_, y_, z_, 10 + 4 * zstp x_ y_, 0, 0, -1, -1, -1, -1, -1, -1, 0, 0]) = [zwR 2 p_, zwI x_, zwI y_, zwI z_, zwI (10 + 4 * zstp x_ y_), zwI 0, zwI 0, zwI (-1), zwI (-1), zwI (-1), zwI (-1), zwI (-1), zwI (-1), zwI 0, zwI 0] := by
    have : (Int32.ofNat p_).toNatClampNeg = p_ := zicl (by omega)
    simp [zfs, zrw, this, zbo]
  have hrep := hr.newo (r_ := zrw [Int32.ofNat p_, x_, y_, z_, 10 + 4 * zstp x_ y_, 0, 0, -1, -1, -1, -1, -1, -1, 0, 0]) hn (by decide) (by decide) (by decide) (by
    rw [hf0]; intro v_ hv
    rcases List.mem_cons.mp hv with e_ | e_
    · rw [e_]; exact hw _ List.mem_cons_self
    · simp at e_; rcases e_ with e_ | e_ | e_ | e_ | e_ | e_ | e_ <;> subst e_ <;> trivial)
  rw [hf0] at hrep
  refine ⟨_, znwA lc 1 i_ h_.length, ?_, znwA_ext hn, hrep, by simp [znwA], znwI_99.mpr (Or.inl ⟨rfl, rfl⟩)⟩
  show zX' none 1 82 0 [some (.ref h_.length), some (.ref (lc 2 p_)), some (.int x_), some (.int y_), some (.int z_)] [] (h_ ++ [(1, [.null, .int 0, .int 0, .int 0, .int 0, .int 0, .int 0, .int 0, .int 0, .int 0, .int 0, .int 0, .int 0, .int 0, .int 0])]) _
  refine zX'.run 1 rfl ?_
  refine zX'.ob rfl (by decide) ?_
  refine zX'.run 2 rfl ?_
  refine zX'.pfn rfl (Nat.le_of_ble_eq_true rfl) rfl ?_
  refine zX'.run 2 rfl ?_
  refine zX'.pfn rfl (Nat.le_of_ble_eq_true rfl) rfl ?_
  refine zX'.run 2 rfl ?_
  refine zX'.pfn rfl (Nat.le_of_ble_eq_true rfl) rfl ?_
  refine zX'.run 2 rfl ?_
  refine zX'.pfn rfl (Nat.le_of_ble_eq_true rfl) rfl ?_
  refine zX'.run 2 rfl ?_
  refine zX'.pfn rfl (Nat.le_of_ble_eq_true rfl) rfl ?_
  refine zX'.run 2 rfl ?_
  refine zX'.pfn rfl (Nat.le_of_ble_eq_true rfl) rfl ?_
  refine zX'.run 2 rfl ?_
  refine zX'.pfn rfl (Nat.le_of_ble_eq_true rfl) rfl ?_
  refine zX'.run 2 rfl ?_
  refine zX'.pfn rfl (Nat.le_of_ble_eq_true rfl) rfl ?_
  refine zX'.run 2 rfl ?_
  refine zX'.pfn rfl (Nat.le_of_ble_eq_true rfl) rfl ?_
  refine zX'.run 2 rfl ?_
  refine zX'.pfn rfl (Nat.le_of_ble_eq_true rfl) rfl ?_
  refine zX'.run 2 rfl ?_
  refine zX'.pfn rfl (Nat.le_of_ble_eq_true rfl) rfl ?_
  refine zX'.run 5 rfl ?_
  refine zX'.c (as := [.int x_, .int y_]) rfl rfl rfl rfl (Nat.le_of_ble_eq_true rfl) rfl (by decide) rfl zs31 (by decide) ?_
  refine zX'.run 2 rfl ?_
  refine zX'.pfn rfl (Nat.le_of_ble_eq_true rfl) rfl ?_
  exact zX'.r rfl rfl rfl rfl
theorem zc92 {I_ : zIn} {L_ : zLi} {q_ e_ : Nat} (he : e_ < 2) (hn : I_ 99 4 (2 * q_ + e_) ≠ 1) : zNw 0 92 4 [zwR 1 q_, zwI (Int32.ofNat e_)] I_ L_ 4 (2 * q_ + e_) (znwI I_ 4 (2 * q_ + e_) (zrw [0, 0, if e_ = 0 then I_ 1 q_ 1 else I_ 1 q_ 2, 0, 0, 0])) L_ 7 := by
  intro lc h_ g_ hr hw hg
  have hx : I_ 99 1 q_ = 1 := hw _ List.mem_cons_self
  obtain ⟨g1, g2⟩ := hr.get hx (by decide)
  have g3_ : (h_ ++ [(4, [Value.null, .int 0, .int 0, .int 0, .int 0, .int 0])])[lc 1 q_]? = some (1, (zfs 1 q_ (I_ 1 q_)).map (ztr lc)) := zget_push g1
  have hf0 : zfs 4 (2 * q_ + e_) (zrw [0, 0, if e_ = 0 then I_ 1 q_ 1 else I_ 1 q_ 2, 0, 0, 0]) = [zwR 1 q_, zwI (Int32.ofNat e_), zwI (if e_ = 0 then I_ 1 q_ 1 else I_ 1 q_ 2), zwI 0, zwI 0, zwI 0] := by
    have h1 : (2 * q_ + e_) / 2 = q_ := by omega
    have h2 : (2 * q_ + e_) % 2 = e_ := by omega
    simp [zfs, zrw, zbo, h1, h2]
  have hrep := hr.newo (r_ := zrw [0, 0, if e_ = 0 then I_ 1 q_ 1 else I_ 1 q_ 2, 0, 0, 0]) hn (by decide) (by decide) (by decide) (by
    rw [hf0]; intro v_ hv
    rcases List.mem_cons.mp hv with h_ | h_
    · rw [h_]; exact hx
    · simp at h_; rcases h_ with h_ | h_ | h_ <;> subst h_ <;> trivial)
  rw [hf0] at hrep
  refine ⟨_, znwA lc 4 (2 * q_ + e_) h_.length, ?_, znwA_ext hn, hrep, by simp [znwA], znwI_99.mpr (Or.inl ⟨rfl, rfl⟩)⟩
  show zX' none 0 92 0 [some (.ref h_.length), some (.ref (lc 1 q_)), some (.int (Int32.ofNat e_))] [] (h_ ++ [(4, [.null, .int 0, .int 0, .int 0, .int 0, .int 0])]) _
  have hz : zfits (((zfty[4]?).getD [])[1]?.getD 9) (.int (Int32.ofNat e_)) = true := by
    obtain rfl | rfl : e_ = 0 ∨ e_ = 1 := by omega
    · rfl
    · rfl
  refine zX'.run 1 rfl ?_
  refine zX'.ob rfl (by decide) ?_
  refine zX'.run 2 rfl ?_
  refine zX'.pfn rfl (Nat.le_of_ble_eq_true rfl) rfl ?_
  refine zX'.run 2 rfl ?_
  refine zX'.pfn rfl (Nat.le_of_ble_eq_true rfl) hz ?_
  refine zX'.run 2 rfl ?_
  obtain rfl | rfl : e_ = 0 ∨ e_ = 1 := by omega
  · refine zX'.br (t := true) rfl rfl rfl (fun _ => ?_) (fun q_ => by cases q_)
    refine zX'.run 1 rfl ?_
    refine zX'.gf rfl (zget_push g1) rfl ?_
    refine zX'.pfn rfl (Nat.le_of_ble_eq_true rfl) rfl ?_
    exact zX'.r rfl rfl rfl rfl
  · refine zX'.br (t := false) rfl rfl rfl (fun q_ => by cases q_) (fun _ => ?_)
    refine zX'.run 1 rfl ?_
    refine zX'.gf rfl (zget_push g1) rfl ?_
    refine zX'.run 1 rfl ?_
    refine zX'.pfn rfl (Nat.le_of_ble_eq_true rfl) rfl ?_
    exact zX'.r rfl rfl rfl rfl
