/-! THE LAW: its script -/
section
variable {T d_ m_ pc len_ a_ b_ : Nat} {xs : Nat → Int32} {ls : zWs} {rest_ : List zW} {I_ : zIn} {L_ : zLi} {Q_ : zPost} {q_ n_ : Nat} {imm_ k_ : Int32}
theorem zY.li (hk : zcode m_ pc = some (.iaload, len_, imm_, q_, b_)) (hn : k_ = Int32.ofNat n_) (hlt : n_ < T) (hT_ : T ≤ 100000) (hY : zY (some (T, xs)) d_ m_ (pc + len_) ls (zwI (xs n_) :: rest_) I_ L_ a_ Q_) : zY (some (T, xs)) d_ m_ pc ls (zwI k_ :: zwK 1 :: rest_) I_ L_ a_ Q_ := by
  intro lc h_ g_ hr hw hg
  refine (hY lc h_ g_ hr (hw.tail.tail.cons trivial) hg).mono (fun y_ hy => ?_)
  subst hn
  refine zX'.hp hk rfl ?_ hy
  show zald 100 (some (T, xs)) h_ (.int (Int32.ofNat n_) :: .retAddr 0 :: zts lc rest_) = some (h_, .int (xs n_) :: zts lc rest_)
  unfold zald zin
  simp only [if_true]
  rw [zicl (by omega), decide_eq_true (zige (by omega)), decide_eq_true hlt]
  rfl
theorem zY.ln (hk : zcode m_ pc = some (.arraylength, len_, imm_, q_, b_)) (hY : zY (some (T, xs)) d_ m_ (pc + len_) ls (zwI (Int32.ofNat T) :: rest_) I_ L_ a_ Q_) : zY (some (T, xs)) d_ m_ pc ls (zwK 1 :: rest_) I_ L_ a_ Q_ := by
  intro lc h_ g_ hr hw hg
  refine (hY lc h_ g_ hr (hw.tail.cons trivial) hg).mono (fun y_ hy => ?_)
  exact zX'.hp hk rfl rfl hy
end
