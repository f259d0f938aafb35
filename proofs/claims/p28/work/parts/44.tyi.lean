/-! TYPED RUNS: what holds of every heap; comparisons of counts -/
def zInv (I_ : zIn) (L_ : zLi) : Prop := (∀ c_ i_, I_ 99 c_ i_ = 1 → zct c_ = 8 → (L_ c_ i_).length ≤ 1000 ∧ i_ < 4 ∧ ∀ t_ ∈ L_ c_ i_, I_ 99 (zek c_) t_ = 1) ∧ (∀ c_ i_, I_ 99 c_ i_ = 1 → zct c_ ≠ 8 → ∀ w_ ∈ zfs c_ i_ (I_ c_ i_), zok I_ w_)
theorem zRep.inv {lc : zAd} {I_ : zIn} {L_ : zLi} {h_ : zHp} {g_ : Nat} (hr : zRep lc I_ L_ h_ g_) : zInv I_ L_ := by
  refine ⟨fun c_ i_ hx h8 => ⟨hr.nlen hx h8, ?_, hr.els hx h8⟩, fun c_ i_ hx h8 => (hr.get hx h8).2⟩
  obtain ⟨cap_, er, hp, _⟩ := hr
  exact ((hp.1 c_ i_ hx).2.1 h8).1
theorem zY.inv {sc_ : zScr} {d_ m_ pc a_ : Nat} {ls : zWs} {st_ : List zW} {I_ : zIn} {L_ : zLi} {Q_ : zPost} (hY : zInv I_ L_ → zWok I_ ls st_ → zY sc_ d_ m_ pc ls st_ I_ L_ a_ Q_) : zY sc_ d_ m_ pc ls st_ I_ L_ a_ Q_ :=
  fun lc h_ g_ hr hw hg => hY hr.inv hw lc h_ g_ hr hw hg
theorem zYm.inv {d_ m_ a_ : Nat} {as_ : List zW} {I_ : zIn} {L_ : zLi} {Q_ : zPost} (hY : zInv I_ L_ → (∀ w_ ∈ as_, zok I_ w_) → zYm d_ m_ as_ I_ L_ a_ Q_) : zYm d_ m_ as_ I_ L_ a_ Q_ :=
  fun lc h_ g_ hr hw hg => hY hr.inv hw lc h_ g_ hr hw hg
/-- a list that a vehicle has -/
theorem zInv.veh {I_ : zIn} {L_ : zLi} {v_ : Nat} (hi_ : zInv I_ L_) (hx : I_ 99 5 v_ = 1) : I_ 99 24 v_ = 1 ∧ I_ 99 25 v_ = 1 ∧ I_ 99 26 v_ = 1 ∧ I_ 99 0 v_ = 1 ∧ I_ 99 27 v_ = 1 ∧ v_ < 4 := by
  have h1 := hi_.2 5 v_ hx (by decide)
  have h24 : I_ 99 24 v_ = 1 := h1 (zwR 24 v_) (by simp [zfs])
  have h0 : I_ 99 0 v_ = 1 := h1 (zwR 0 v_) (by simp [zfs])
  exact ⟨h24, h1 (zwR 25 v_) (by simp [zfs]), h1 (zwR 26 v_) (by simp [zfs]), h0, hi_.2 0 v_ h0 (by decide) (zwR 27 v_) (by simp [zfs]), (hi_.1 24 v_ h24 (by decide)).2.1⟩
def zcn (c_ : ClassFile.Cond) (x_ y_ : Nat) : Prop := match c_ with
  | .eq => x_ = y_
  | .ne => ¬ x_ = y_
  | .lt => x_ < y_
  | .ge => y_ ≤ x_
  | .gt => y_ < x_
  | .le => x_ ≤ y_
theorem zcp_nat {c_ : ClassFile.Cond} {x_ y_ : Nat} (hx : x_ < 100000) (hy : y_ < 100000) : zcp c_ (Int32.ofNat x_) (Int32.ofNat y_) ↔ zcn c_ x_ y_ := by
  have he : Int32.ofNat x_ = Int32.ofNat y_ ↔ x_ = y_ := ⟨fun e_ => by have := zicl hx; rw [e_, zicl hy] at this; exact this.symm, fun e_ => by rw [e_]⟩
  cases c_ <;> simp only [zcp, zcn, he, zile hx hy, zile hy hx, zilt hx hy, zilt hy hx]
section
variable {sc_ : zScr} {d_ m_ pc len_ a_ b_ : Nat} {ls : zWs} {rest_ : List zW} {I_ : zIn} {L_ : zLi} {Q_ : zPost} {imm_ : Int32} {q_ : Nat}
theorem zY.bn {c_ : ClassFile.Cond} {o : Int} {x_ y_ : Nat} (hk : zcode m_ pc = some (.if_icmp c_ o, len_, imm_, q_, b_)) (hx : x_ < 100000) (hy : y_ < 100000) (hT_ : zcn c_ x_ y_ → zY sc_ d_ m_ q_ ls rest_ I_ L_ a_ Q_) (hF : ¬ zcn c_ x_ y_ → zY sc_ d_ m_ (pc + len_) ls rest_ I_ L_ a_ Q_) : zY sc_ d_ m_ pc ls (zwI (Int32.ofNat y_) :: zwI (Int32.ofNat x_) :: rest_) I_ L_ a_ Q_ :=
  zY.bc hk (fun h_ => hT_ ((zcp_nat hx hy).mp h_)) (fun h_ => hF (fun h2 => h_ ((zcp_nat hx hy).mpr h2)))
end
theorem zdrop_cons {α : Type} {l : List α} {i_ : Nat} {s_ : α} (h_ : l[i_]? = some s_) : l.drop i_ = s_ :: l.drop (i_ + 1) := by
  obtain ⟨hlt, rfl⟩ := List.getElem?_eq_some_iff.mp h_
  exact List.drop_eq_getElem_cons hlt
/-! steps, driveMinutes -/
def zstp (x_ y_ : Int32) : Int32 := (if 0 ≤ x_ / 6 - y_ / 6 then x_ / 6 - y_ / 6 else 0 - (x_ / 6 - y_ / 6)) + (if 0 ≤ (x_ - x_ / 6 * 6) - (y_ - y_ / 6 * 6) then (x_ - x_ / 6 * 6) - (y_ - y_ / 6 * 6) else 0 - ((x_ - x_ / 6 * 6) - (y_ - y_ / 6 * 6)))
theorem zm31 {I_ : zIn} {L_ : zLi} {x_ y_ : Int32} : zYm 1 31 [zwI x_, zwI y_] I_ L_ 0 (zRet (some (zwI (zstp x_ y_))) I_ L_) := by
  refine zYm.of (Nat.le_of_ble_eq_true rfl) rfl ?_
  refine zY.go 17 rfl ?_
  exact zY.ri rfl rfl ⟨rfl, rfl, rfl⟩
def zwkl (I_ : zIn) : List Nat → Int32 → Int32 → Int32 × Int32
  | [], p_, w_ => (p_, w_)
  | s_ :: r_, p_, w_ => zwkl I_ r_ (I_ 4 s_ 2) (w_ + zstp p_ (I_ 4 s_ 2))
def zdrv (I_ : zIn) (l : List Nat) (p_ base_ : Int32) : Int32 := 2 * ((zwkl I_ l p_ 0).2 + zstp (zwkl I_ l p_ 0).1 base_)
theorem zm98l (I_ : zIn) (L_ : zLi) (v_ : Nat) (hn : (L_ 24 v_).length ≤ 1000) : ∀ (n_ i_ : Nat) (p_ w_ : Int32), n_ + i_ = (L_ 24 v_).length → zY none 3 98 9 [some (zwR 5 v_), some (zwI p_), some (zwI w_), some (zwI (Int32.ofNat i_))] [] I_ L_ 0 (zRet (some (zwI (2 * ((zwkl I_ ((L_ 24 v_).drop i_) p_ w_).2 + zstp (zwkl I_ ((L_ 24 v_).drop i_) p_ w_).1 (I_ 5 v_ 1))))) I_ L_)
  | 0, i_, p_, w_, hi_ => by
    rw [List.drop_of_length_le (by omega)]
    refine zY.go 4 rfl ?_
    refine zY.bn rfl (by omega) (by omega) (fun hT_ => ?_) (fun hF => absurd (show (L_ 24 v_).length ≤ i_ by omega) hF)
    refine zY.go 5 rfl ?_
    refine zY.cr zm31 rfl rfl rfl rfl (Nat.le_of_ble_eq_true rfl) rfl (by decide) rfl (by decide) (by decide) ?_
    refine zY.go 2 rfl ?_
    exact zY.ri rfl rfl ⟨rfl, rfl, rfl⟩
  | n_ + 1, i_, p_, w_, hi_ => by
    obtain ⟨s_, hs⟩ : ∃ s_, (L_ 24 v_)[i_]? = some s_ := ⟨_, List.getElem?_eq_getElem (by omega)⟩
    rw [zdrop_cons hs]
    have ih_ := zm98l I_ L_ v_ hn n_ (i_ + 1) (I_ 4 s_ 2) (w_ + zstp p_ (I_ 4 s_ 2)) (by omega)
    refine zY.go 4 rfl ?_
    refine zY.bn rfl (by omega) (by omega) (fun hT_ => absurd (show ¬ (L_ 24 v_).length ≤ i_ by omega) (fun h_ => h_ hT_)) (fun hF => ?_)
    refine zY.go 5 rfl ?_
    refine zY.cr (w_get rfl hs) rfl rfl rfl rfl (Nat.le_of_ble_eq_true rfl) rfl (by decide) rfl (by decide) (by decide) ?_
    refine zY.go 2 rfl ?_
    refine zY.cr zm31 rfl rfl rfl rfl (Nat.le_of_ble_eq_true rfl) rfl (by decide) rfl (by decide) (by decide) ?_
    refine zY.go 5 rfl ?_
    refine zY.cr (w_get rfl hs) rfl rfl rfl rfl (Nat.le_of_ble_eq_true rfl) rfl (by decide) rfl (by decide) (by decide) ?_
    refine zY.go 5 rfl ?_
    rw [← zisucc] at ih_
    exact ih_
theorem zm98 {I_ : zIn} {L_ : zLi} {v_ : Nat} : zYm 3 98 [zwR 5 v_] I_ L_ 0 (zRet (some (zwI (zdrv I_ (L_ 24 v_) (I_ 5 v_ 11) (I_ 5 v_ 1)))) I_ L_) := by
  refine zYm.inv (fun hi_ hw => ?_)
  have hx := hi_.veh (v_ := v_) (hw _ List.mem_cons_self)
  have hn := (hi_.1 24 v_ hx.1 (by decide)).1
  refine zYm.of (Nat.le_of_ble_eq_true rfl) rfl ?_
  refine zY.go 7 rfl ?_
  exact zm98l I_ L_ v_ hn (L_ 24 v_).length 0 (I_ 5 v_ 11) 0 (by omega)
