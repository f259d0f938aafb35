/-! ROWS: a new row of ints, the script's cell -/
theorem zas_t (j_ : Nat) : zas30 (100 + 2 * j_) = 16 ∧ zas30 (101 + 2 * j_) = 20 := by
  constructor
  · unfold zas30
    split <;> first | omega | (rw [if_pos (by omega), if_pos (by omega)])
  · unfold zas30
    split <;> first | omega | (rw [if_pos (by omega), if_neg (by omega)])
section
variable {sc_ : zScr} {d_ m_ pc len_ a_ b_ : Nat} {ls : zWs} {st_ rest_ : List zW} {I_ I' : zIn} {L_ L' : zLi} {Q_ : zPost} {i_ : Instr} {imm_ : Int32} {q_ j_ n_ : Nat} {k_ x_ : Int32}
theorem zY.na {ak : _} (hk : zcode m_ pc = some (.newarray ak, len_, imm_, 100, b_)) (hn : k_ = Int32.ofNat n_) (hz : zas30 j_ = n_) (hf : I_ 99 30 j_ ≠ 1) (ha_ : n_ + 1 ≤ a_) (hY : zY sc_ d_ m_ (pc + len_) ls (zwR 30 j_ :: rest_) (znwI I_ 30 j_ (fun _ => 0)) L_ (a_ - (n_ + 1)) Q_) : zY sc_ d_ m_ pc ls (zwI k_ :: rest_) I_ L_ a_ Q_ := by
  intro lc h_ g_ hr hw hg
  have hlen := hr.len
  have hle := zas30_le (j_ := j_)
  have hz2 : (zfs 30 j_ (fun _ => 0)).map (ztr lc) = List.replicate n_ (.int 0) := by
    show ((List.range (zas30 j_)).map fun k_ => zwI 0).map _ = _
    rw [hz, List.map_map, List.eq_replicate_iff]
    exact ⟨by simp, fun b_ hb_ => by obtain ⟨k_, _, rfl⟩ := List.mem_map.mp hb_; rfl⟩
  have hr1 := hr.newo (c_ := 30) (i_ := j_) (r_ := fun _ => 0) hf (by decide) (by decide) (by decide) (fun w_ hw => by
    obtain ⟨k_, _, rfl⟩ := List.mem_map.mp (show w_ ∈ (List.range (zas30 j_)).map fun k_ => zwI 0 from hw)
    trivial)
  have hE : zExt lc I_ (znwA lc 30 j_ h_.length) (znwI I_ 30 j_ (fun _ => 0)) := znwA_ext hf
  obtain ⟨r2, h2, lc2, I2_, L2_, e1_, e2_, e3_, e4_, e5_⟩ := hY _ _ _ hr1 ⟨fun w_ hw1 => hE.ok (hw.1 w_ hw1), fun w_ hw1 => by
    rcases List.mem_cons.mp hw1 with e_ | e_
    · rw [e_]; exact znwI_99.mpr (Or.inl ⟨rfl, rfl⟩)
    · exact hE.ok (hw.tail.2 w_ e_)⟩ (by simp [zfs, hz]; omega)
  refine ⟨r2, h2, lc2, I2_, L2_, ?_, hE.trans e2_, e3_.le (by simp [zfs, hz]; omega), e4_, e5_⟩
  subst hn
  refine zX'.nai hk (by omega) (by omega) (by decide) ?_
  rw [hE.stl hw.1] at e1_
  have ht : zts (znwA lc 30 j_ h_.length) (zwR 30 j_ :: rest_) = .ref h_.length :: zts lc rest_ := by
    rw [← hE.sts hw.tail.2]
    show Value.ref (znwA lc 30 j_ h_.length 30 j_) :: _ = _
    unfold znwA
    rw [if_pos ⟨rfl, rfl⟩]
  rw [ht] at e1_
  show zX' sc_ d_ m_ (pc + len_) (ztl lc ls) (.ref h_.length :: zts lc rest_) (h_ ++ [(100, List.replicate n_ (.int 0))]) _
  rw [← hz2]
  exact e1_
theorem zmodT {n_ T : Nat} (hn : n_ < 1000) (hT_ : T ≤ 1000) : Int32.ofNat n_ - Int32.ofNat n_ / Int32.ofNat T * Int32.ofNat T = Int32.ofNat (n_ % T) := by
  have h_ := Nat.div_add_mod n_ T
  rw [Nat.mul_comm] at h_
  rw [← Int32.ofNat_div (by omega) (by omega), ← Int32.ofNat_mul, ← Int32.ofNat_sub _ _ (by omega)]
  congr 1
  omega
/-- what the law's cell answers -/
def zcel (T : Nat) (xs : Nat → Int32) (k_ : Nat) : Int32 := if T = 0 then 0 else xs (k_ % T) + 31 * Int32.ofNat k_
theorem zY.cl {T : Nat} {xs : Nat → Int32} (hk : zcode m_ pc = some (.invokestatic q_, len_, imm_, 2006, b_)) (hn : k_ = Int32.ofNat n_) (hN_ : n_ < 1000) (hT_ : T ≤ 1000) (hl : rest_.length ≤ 3) (hY : zY (some (T, xs)) d_ m_ (pc + len_) ls (zwI (zcel T xs n_) :: rest_) I_ L_ a_ Q_) : zY (some (T, xs)) d_ m_ pc ls (zwI k_ :: zwK 1 :: rest_) I_ L_ a_ Q_ := by
  intro lc h_ g_ hr hw hg
  refine (hY lc h_ g_ hr (hw.tail.tail.cons trivial) hg).mono (fun y_ hy => ?_)
  subst hn
  refine zX'.hp hk rfl ?_ hy
  change (if 2006 = 2006 then (if (Value.int (Int32.ofNat n_) :: .retAddr 0 :: zts lc rest_).length ≤ 5 then zcell (some (T, xs)) h_ (.int (Int32.ofNat n_) :: .retAddr 0 :: zts lc rest_) else none) else none) = some (h_, .int (zcel T xs n_) :: zts lc rest_)
  rw [if_pos rfl, if_pos (by simp; omega)]
  unfold zcel
  change (if Int32.ofNat T = 0 then some (h_, Value.int 0 :: zts lc rest_) else if zin (Int32.ofNat n_ - Int32.ofNat n_ / Int32.ofNat T * Int32.ofNat T) T = true then some (h_, Value.int (xs (Int32.ofNat n_ - Int32.ofNat n_ / Int32.ofNat T * Int32.ofNat T).toNatClampNeg + 31 * Int32.ofNat n_) :: zts lc rest_) else none) = _
  by_cases h0 : T = 0
  · subst h0
    rw [if_pos (show Int32.ofNat 0 = 0 from rfl)]
    rfl
  · have hne : ¬ Int32.ofNat T = 0 := zine (b := 0) (by omega) (by omega) h0
    have hm_ : Int32.ofNat n_ - Int32.ofNat n_ / Int32.ofNat T * Int32.ofNat T = Int32.ofNat (n_ % T) := zmodT hN_ hT_
    rw [if_neg hne, if_neg h0, hm_, zicl (by have := Nat.mod_lt n_ (Nat.pos_of_ne_zero h0); omega), if_pos]
    unfold zin
    rw [zicl (by have := Nat.mod_lt n_ (Nat.pos_of_ne_zero h0); omega), decide_eq_true (zige (by have := Nat.mod_lt n_ (Nat.pos_of_ne_zero h0); omega)), decide_eq_true (Nat.mod_lt n_ (Nat.pos_of_ne_zero h0))]
    rfl
end
