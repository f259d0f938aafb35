/-! CONTRACTS OF THE MODEL: vehicle; branches on what is or isn't -/
section
variable {sc_ : zScr} {d_ m_ pc len_ a_ b0 : Nat} {ls : zWs} {rest_ : List zW} {I_ : zIn} {L_ : zLi} {Q_ : zPost} {imm_ : Int32} {q_ : Nat} {o : Int} {b_ : Bool}
theorem zY.wn (hk : zcode m_ pc = some (.ifCond .ne o, len_, imm_, q_, b0)) (hT_ : b_ = true → zY sc_ d_ m_ q_ ls rest_ I_ L_ a_ Q_) (hF : b_ = false → zY sc_ d_ m_ (pc + len_) ls rest_ I_ L_ a_ Q_) : zY sc_ d_ m_ pc ls (zwI (if b_ = true then 1 else 0) :: rest_) I_ L_ a_ Q_ :=
  zY.bi hk (fun h_ => hT_ (zb_ne0.mp h_)) (fun h_ => hF (by cases b_ with | false => rfl | true => exact absurd (zb_ne0.mpr rfl) h_))
theorem zY.we (hk : zcode m_ pc = some (.ifCond .eq o, len_, imm_, q_, b0)) (hT_ : b_ = false → zY sc_ d_ m_ q_ ls rest_ I_ L_ a_ Q_) (hF : b_ = true → zY sc_ d_ m_ (pc + len_) ls rest_ I_ L_ a_ Q_) : zY sc_ d_ m_ pc ls (zwI (if b_ = true then 1 else 0) :: rest_) I_ L_ a_ Q_ :=
  zY.bi hk (fun h_ => hT_ (zb_eq0.mp h_)) (fun h_ => hF (by cases b_ with | true => rfl | false => exact absurd (zb_eq0.mpr rfl) h_))
end
def zveF (y1 y2 y3 y4 : Int32) : Bool := zbt y1 0 35 && (zbt y2 1 8 && (zbt y3 0 3 && zbt y4 50 400))
theorem zle3 : ¬ (3 : Int32) ≤ 0 := by decide
theorem zm127r {I_ : zIn} {L_ : zLi} {y1 y2 y3 y4 t_ : Int32} {k5_ : Option zW} (ht : t_ = 1 ∨ t_ = 2) : zY none 3 127 73 [some (zwR 7 0), some (zwI y1), some (zwI y2), some (zwI y3), some (zwI y4), k5_] [zwI t_, zwR 7 0] I_ L_ 0 (zRet (some (zwI 0)) (zset I_ 7 0 0 t_) L_) := by
  refine zY.go 3 rfl ?_
  show zY _ _ _ _ _ [zwI (zset I_ 7 0 0 t_ 7 0 0)] _ _ _ _
  rw [zset_is]
  refine zY.bi rfl (fun hp => ?_) (fun _ => ?_)
  · rcases ht with rfl | rfl
    · exact absurd hp zle1
    · exact absurd hp zle2
  · refine zY.go 1 rfl ?_
    exact zY.ri rfl rfl ⟨rfl, rfl, rfl⟩
theorem zm127p {I_ : zIn} {L_ : zLi} {y1 y2 y3 y4 : Int32} {Q_ : zPost} (hT_ : zY none 3 127 48 [some (zwR 7 0), some (zwI y1), some (zwI y2), some (zwI y3), some (zwI y4), none] [zwI (if zveF y1 y2 y3 y4 = true then 1 else 0)] I_ L_ 0 Q_) : zYm 3 127 [zwR 7 0, zwI y1, zwI y2, zwI y3, zwI y4] I_ L_ 0 Q_ := by
  have T47 : zveF y1 y2 y3 y4 = false → zY none 3 127 47 [some (zwR 7 0), some (zwI y1), some (zwI y2), some (zwI y3), some (zwI y4), none] [] I_ L_ 0 Q_ := by
    intro hf
    rw [hf] at hT_
    refine zY.go 1 rfl ?_
    exact hT_
  refine zYm.of (Nat.le_of_ble_eq_true rfl) rfl ?_
  refine zY.go 2 rfl ?_
  refine zY.cr zm126 rfl rfl rfl rfl (Nat.le_of_ble_eq_true rfl) rfl (by decide) rfl (by decide) (by decide) ?_
  refine zY.we rfl (fun h1 => T47 (by simp [zveF, h1])) (fun h1 => ?_)
  refine zY.go 4 rfl ?_
  refine zY.cr zm123 rfl rfl rfl rfl (Nat.le_of_ble_eq_true rfl) rfl (by decide) rfl (by decide) (by decide) ?_
  refine zY.we rfl (fun h2 => T47 (by simp [zveF, h2])) (fun h2 => ?_)
  refine zY.go 4 rfl ?_
  refine zY.cr zm123 rfl rfl rfl rfl (Nat.le_of_ble_eq_true rfl) rfl (by decide) rfl (by decide) (by decide) ?_
  refine zY.we rfl (fun h3 => T47 (by simp [zveF, h3])) (fun h3 => ?_)
  refine zY.go 4 rfl ?_
  refine zY.cr zm123 rfl rfl rfl rfl (Nat.le_of_ble_eq_true rfl) rfl (by decide) rfl (by decide) (by decide) ?_
  refine zY.we rfl (fun h4 => T47 (by simp [zveF, h4])) (fun h4 => ?_)
  rw [show zveF y1 y2 y3 y4 = true by simp [zveF, h1, h2, h3, h4]] at hT_
  refine zY.go 2 rfl ?_
  exact hT_
theorem zm127a {I_ : zIn} {L_ : zLi} {y1 y2 y3 y4 : Int32} (hf : zveF y1 y2 y3 y4 = false) : zYm 3 127 [zwR 7 0, zwI y1, zwI y2, zwI y3, zwI y4] I_ L_ 0 (zRet (some (zwI 0)) (zset I_ 7 0 0 1) L_) := by
  refine zm127p ?_
  rw [hf]
  refine zY.go 3 rfl ?_
  refine zY.bi rfl (fun hp => absurd (show (0 : Int32) = 0 from rfl) hp) (fun _ => ?_)
  refine zY.go 2 rfl ?_
  exact zm127r (Or.inl rfl)
theorem zm127b {I_ : zIn} {L_ : zLi} {y1 y2 y3 y4 : Int32} (hf : zveF y1 y2 y3 y4 = true) (h11 : I_ 7 0 11 = Int32.ofNat 4) : zYm 3 127 [zwR 7 0, zwI y1, zwI y2, zwI y3, zwI y4] I_ L_ 0 (zRet (some (zwI 0)) (zset I_ 7 0 0 2) L_) := by
  refine zm127p ?_
  rw [hf]
  refine zY.go 3 rfl ?_
  refine zY.bi rfl (fun _ => ?_) (fun hp => absurd (show ¬ (1 : Int32) = 0 by decide) hp)
  refine zY.go 3 rfl ?_
  show zY _ _ _ _ _ [zwI (Int32.ofNat 4), zwI (I_ 7 0 11), zwR 7 0] _ _ _ _
  rw [h11]
  refine zY.bn rfl (by omega) (by omega) (fun hp => absurd (show 4 = 4 from rfl) hp) (fun _ => ?_)
  refine zY.go 2 rfl ?_
  exact zm127r (Or.inr rfl)
def zvhZ (J_ : zIn) (n_ : Nat) (y1 y2 y3 y4 : Int32) : zIn := zset (zset (zset (zset (zset (zset J_ 30 12 n_ y1) 30 13 n_ y2) 30 14 n_ y3) 30 15 n_ y4) 31 16 n_ 1) 30 17 n_ y1
def zvhM (J_ : zIn) (n_ : Nat) (y1 y2 y3 y4 : Int32) : zIn := zset (zvhZ J_ n_ y1 y2 y3 y4) 7 0 11 (zvhZ J_ n_ y1 y2 y3 y4 7 0 11 + 1)
theorem zm127c {I_ J_ : zIn} {L_ : zLi} {n_ : Nat} {y1 y2 y3 y4 : Int32} (hf : zveF y1 y2 y3 y4 = true) (h11 : I_ 7 0 11 = Int32.ofNat n_) (hn : n_ < 4) (hJ : zset I_ 7 0 0 0 = J_) : zYm 3 127 [zwR 7 0, zwI y1, zwI y2, zwI y3, zwI y4] I_ L_ 0 (zRet (some (zwI (zvhM J_ n_ y1 y2 y3 y4 7 0 11 - 1))) (zvhM J_ n_ y1 y2 y3 y4) L_) := by
  have h' : J_ 7 0 11 = Int32.ofNat n_ := by rw [← hJ]; exact (zset_ne (by simp)).trans h11
  refine zm127p ?_
  rw [hf]
  refine zY.go 3 rfl ?_
  refine zY.bi rfl (fun _ => ?_) (fun hp => absurd (show ¬ (1 : Int32) = 0 by decide) hp)
  refine zY.go 3 rfl ?_
  show zY _ _ _ _ _ [zwI (Int32.ofNat 4), zwI (I_ 7 0 11), zwR 7 0] _ _ _ _
  rw [h11]
  refine zY.bn rfl (by omega) (by omega) (fun _ => ?_) (fun hp => absurd (show ¬ n_ = 4 by omega) hp)
  refine zY.go 4 rfl ?_
  show zY _ _ _ _ _ [zwI (zset I_ 7 0 0 0 7 0 0)] _ _ _ _
  rw [zset_is]
  refine zY.bi rfl (fun _ => ?_) (fun hp => absurd (show (0 : Int32) ≤ 0 by decide) hp)
  rw [hJ]
  refine zY.go 5 rfl ?_
  refine zY.si rfl h' hn ?_
  refine zY.go 5 rfl ?_
  refine zY.si rfl ((zset_ne (by simp)).trans h') hn ?_
  refine zY.go 5 rfl ?_
  refine zY.si rfl ((zset_ne (by simp)).trans ((zset_ne (by simp)).trans h')) hn ?_
  refine zY.go 5 rfl ?_
  refine zY.si rfl ((zset_ne (by simp)).trans ((zset_ne (by simp)).trans ((zset_ne (by simp)).trans h'))) hn ?_
  refine zY.go 5 rfl ?_
  refine zY.sb rfl ((zset_ne (by simp)).trans ((zset_ne (by simp)).trans ((zset_ne (by simp)).trans ((zset_ne (by simp)).trans h')))) hn (Or.inr rfl) ?_
  refine zY.go 5 rfl ?_
  refine zY.si rfl ((zset_ne (by simp)).trans ((zset_ne (by simp)).trans ((zset_ne (by simp)).trans ((zset_ne (by simp)).trans ((zset_ne (by simp)).trans h'))))) hn ?_
  change zY _ _ _ _ _ _ (zvhZ J_ n_ y1 y2 y3 y4) _ _ _
  refine zY.go 10 rfl ?_
  exact zY.ri rfl rfl ⟨rfl, rfl, rfl⟩
