/-! CONTRACTS OF THE MODEL: vehicle; branches on what is or isn't -/
section
variable {sc_ : zScr} {d_ m_ pc len_ a_ b0 : Nat} {ls : zWs} {rest_ : List zW} {I_ : zIn} {L_ : zLi} {Q_ : zPost} {imm_ : Int32} {q_ : Nat} {o : Int} {b_ : Bool}
theorem zY.wn (hk : zcode m_ pc = some (.ifCond .ne o, len_, imm_, q_, b0)) (hT_ : b_ = true → zY sc_ d_ m_ q_ ls rest_ I_ L_ a_ Q_) (hF : b_ = false → zY sc_ d_ m_ (pc + len_) ls rest_ I_ L_ a_ Q_) : zY sc_ d_ m_ pc ls (zwI (if b_ = true then 1 else 0) :: rest_) I_ L_ a_ Q_ :=
  zY.bi hk (fun h_ => hT_ (zb_ne0.mp h_)) (fun h_ => hF (by cases b_ with | false => rfl | true => exact absurd (zb_ne0.mpr rfl) h_))
theorem zY.we (hk : zcode m_ pc = some (.ifCond .eq o, len_, imm_, q_, b0)) (hT_ : b_ = false → zY sc_ d_ m_ q_ ls rest_ I_ L_ a_ Q_) (hF : b_ = true → zY sc_ d_ m_ (pc + len_) ls rest_ I_ L_ a_ Q_) : zY sc_ d_ m_ pc ls (zwI (if b_ = true then 1 else 0) :: rest_) I_ L_ a_ Q_ :=
  zY.bi hk (fun h_ => hT_ (zb_eq0.mp h_)) (fun h_ => hF (by cases b_ with | true => rfl | false => exact absurd (zb_eq0.mpr rfl) h_))
end
def zveF (y1 y2 y3 y4 : Int32) : Bool := zbt y1 0 35 && (zbt y2 1 8 && (zbt y3 0 3 && zbt y4 50 400))
theorem zle3 : ¬ (3 : Int32) ≤ 0 := by decide
def zvhZ (J_ : zIn) (n_ : Nat) (y1 y2 y3 y4 : Int32) : zIn := zset (zset (zset (zset (zset (zset J_ 30 12 n_ y1) 30 13 n_ y2) 30 14 n_ y3) 30 15 n_ y4) 31 16 n_ 1) 30 17 n_ y1
def zvhM (J_ : zIn) (n_ : Nat) (y1 y2 y3 y4 : Int32) : zIn := zset (zvhZ J_ n_ y1 y2 y3 y4) 7 0 11 (zvhZ J_ n_ y1 y2 y3 y4 7 0 11 + 1)
