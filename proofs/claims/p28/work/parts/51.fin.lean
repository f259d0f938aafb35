/-! CONTRACTS: finishStop, wouldFail, listOpenPicks, tell -/
def zfi1 (I_ : zIn) (v_ s_ : Nat) (x_ : Int32) : zIn := zset (zset (zset I_ 5 v_ 10 0) 5 v_ 11 (zset I_ 5 v_ 10 0 4 s_ 2)) 5 v_ 12 x_
def zfiL (L_ : zLi) (v_ s_ : Nat) : zLi := zlup (zlup L_ 24 v_ ((L_ 24 v_).eraseIdx 0)) 25 v_ (zlup L_ 24 v_ ((L_ 24 v_).eraseIdx 0) 25 v_ ++ [s_])
def zfi2 (I_ : zIn) (L_ : zLi) (v_ s_ : Nat) (x_ : Int32) : zIn × zLi :=
  if s_ % 2 = 0 then zpid (zfi1 I_ v_ s_ x_) (zfiL L_ v_ s_) v_ s_
  else (zset (zset (zfi1 I_ v_ s_ x_) 1 (s_ / 2) 12 (zfi1 I_ v_ s_ x_ 4 s_ 3)) 1 (s_ / 2) 5 2, zlup (zfiL L_ v_ s_) 26 v_ (ztka (s_ / 2) (zfiL L_ v_ s_ 26 v_).length (zfiL L_ v_ s_ 26 v_)))
theorem zm105t {I_ : zIn} {L_ : zLi} {v_ s_ : Nat} {l : List Nat} {x_ : Int32} (hl : L_ 24 v_ = s_ :: l) (h25 : (L_ 25 v_).length < 600) (h26 : (L_ 26 v_).length < 600) : zY none 7 105 93 [some (zwR 5 v_), some (zwI x_), some (zwR 4 s_)] [] I_ L_ 0 (zRet none (zfi2 I_ L_ v_ s_ x_).1 (zfi2 I_ L_ v_ s_ x_).2) := by
  have e25_ : zlup L_ 24 v_ ((L_ 24 v_).eraseIdx 0) 25 v_ = L_ 25 v_ := zlup_ne (by simp)
  have e26_ : zfiL L_ v_ s_ 26 v_ = L_ 26 v_ := by unfold zfiL; rw [zlup_ne (by simp), zlup_ne (by simp)]
  refine zY.go 3 rfl ?_
  refine zY.cr (w_rem (k_ := 0) rfl (show (L_ 24 v_)[0]? = some s_ by rw [hl]; rfl)) rfl rfl rfl rfl (Nat.le_of_ble_eq_true rfl) rfl (by decide) rfl (by decide) (by decide) ?_
  refine zY.go 4 rfl ?_
  refine zY.cr (w_add (c_ := 25) rfl (by rw [e25_]; exact h25)) rfl rfl rfl rfl (Nat.le_of_ble_eq_true rfl) rfl (by decide) rfl (by decide) (by decide) ?_
  refine zY.go 13 rfl ?_
  refine zY.bi rfl (fun hp133 => ?_) (fun hp133 => ?_)
  · refine zY.go 2 rfl ?_
    refine zY.cr (zm107 (L_ := zfiL L_ v_ s_) (by rw [e26_]; exact h26)) rfl rfl rfl rfl (Nat.le_of_ble_eq_true rfl) rfl (by decide) rfl (by decide) (by decide) ?_
    refine zY.rv rfl rfl ?_
    unfold zfi2; rw [if_pos (zpar_0.mp hp133)]
    exact ⟨rfl, rfl, rfl⟩
  · refine zY.go 2 rfl ?_
    refine zY.cr zm106 rfl rfl rfl rfl (Nat.le_of_ble_eq_true rfl) rfl (by decide) rfl (by decide) (by decide) ?_
    refine zY.go 1 rfl ?_
    refine zY.rv rfl rfl ?_
    unfold zfi2; rw [if_neg (fun h_ => hp133 (zpar_0.mpr h_))]
    exact ⟨rfl, rfl, rfl⟩
def zfnn (I_ : zIn) (L_ : zLi) (v_ : Nat) (x_ : Int32) : zIn × zLi := if I_ 5 v_ 10 = 0 then (I_, L_) else match L_ 24 v_ with
  | [] => (I_, L_)
  | s_ :: _ => if I_ 4 s_ 4 = x_ then (if ¬ s_ % 2 = 0 ∧ zchr I_ (s_ / 2) = true ∧ I_ 5 v_ 9 = 0 ∧ I_ 4 s_ 5 = 0 then (zset (zset I_ 4 s_ 5 1) 4 s_ 4 (zset I_ 4 s_ 5 1 4 s_ 4 + 30), L_) else zfi2 I_ L_ v_ s_ x_) else (I_, L_)
theorem zm105 {I_ : zIn} {L_ : zLi} {v_ : Nat} {x_ : Int32} (h25 : (L_ 25 v_).length < 600) (h26 : (L_ 26 v_).length < 600) : zYm 7 105 [zwR 5 v_, zwI x_] I_ L_ 0 (zRet none (zfnn I_ L_ v_ x_).1 (zfnn I_ L_ v_ x_).2) := by
  refine zYm.of (Nat.le_of_ble_eq_true rfl) rfl ?_
  refine zY.go 2 rfl ?_
  refine zY.bi rfl (fun hp4 => ?_) (fun hp4 => ?_)
  · refine zY.rv rfl rfl ?_
    unfold zfnn; rw [if_pos (zbo_0.mp hp4)]
    exact ⟨rfl, rfl, rfl⟩
  · have hc_ : ¬ I_ 5 v_ 10 = 0 := fun h_ => hp4 (zbo_0.mpr h_)
    refine zY.go 3 rfl ?_
    unfold zfnn; rw [if_neg hc_]
    rcases hl : L_ 24 v_ with _ | ⟨s_, l⟩
    · refine zY.bi rfl (fun hp14 => ?_) (fun hp14 => ?_)
      · exact zY.rv rfl rfl ⟨rfl, rfl, rfl⟩
      · simp [zcp] at hp14
    · have h0 : (L_ 24 v_)[0]? = some s_ := by rw [hl]; rfl
      refine zY.bi rfl (fun hp14 => ?_) (fun hp14 => ?_)
      · simp [zcp] at hp14
      · refine zY.go 3 rfl ?_
        refine zY.cr (w_get (k_ := 0) rfl h0) rfl rfl rfl rfl (Nat.le_of_ble_eq_true rfl) rfl (by decide) rfl (by decide) (by decide) ?_
        refine zY.go 3 rfl ?_
        show zY _ _ _ _ _ _ _ _ _ (zRet none (if I_ 4 s_ 4 = x_ then _ else _ : zIn × zLi).1 (if I_ 4 s_ 4 = x_ then _ else _ : zIn × zLi).2)
        refine zY.bc rfl (fun hp32 => ?_) (fun hp32 => ?_)
        · have he : I_ 4 s_ 4 = x_ := hp32
          rw [if_pos he]
          refine zY.go 3 rfl ?_
          refine zY.cr (w_get (k_ := 0) rfl h0) rfl rfl rfl rfl (Nat.le_of_ble_eq_true rfl) rfl (by decide) rfl (by decide) (by decide) ?_
          refine zY.go 4 rfl ?_
          refine zY.bi rfl (fun hp52 => ?_) (fun hp52 => ?_)
          · rw [if_neg (fun h_ => h_.1 (zpar_0.mp hp52))]
            exact zm105t hl h25 h26
          · have h1 : ¬ s_ % 2 = 0 := fun h_ => hp52 (zpar_0.mpr h_)
            refine zY.go 1 rfl ?_
            refine zY.cr zm94 rfl rfl rfl rfl (Nat.le_of_ble_eq_true rfl) rfl (by decide) rfl (by decide) (by decide) ?_
            refine zY.bi rfl (fun hp59 => ?_) (fun hp59 => ?_)
            · rw [if_neg (fun h_ => by rw [h_.2.1] at hp59; exact absurd hp59 (show ¬ ((1 : Int32) = 0) by decide))]
              exact zm105t hl h25 h26
            · have h2 : zchr I_ (s_ / 2) = true := by
                cases hz : zchr I_ (s_ / 2)
                · rw [hz] at hp59; exact absurd rfl hp59
                · rfl
              refine zY.go 2 rfl ?_
              refine zY.bi rfl (fun hp66 => ?_) (fun hp66 => ?_)
              · rw [if_neg (fun h_ => hp66 (zbo_0.mpr h_.2.2.1))]
                exact zm105t hl h25 h26
              · refine zY.go 2 rfl ?_
                refine zY.bi rfl (fun hp73 => ?_) (fun hp73 => ?_)
                · rw [if_neg (fun h_ => hp73 (zbo_0.mpr h_.2.2.2))]
                  exact zm105t hl h25 h26
                · rw [if_pos ⟨h1, h2, zbo_0.mp (Decidable.byContradiction hp66), zbo_0.mp (Decidable.byContradiction hp73)⟩]
                  refine zY.go 9 rfl ?_
                  exact zY.rv rfl rfl ⟨rfl, rfl, rfl⟩
        · have he : ¬ I_ 4 s_ 4 = x_ := hp32
          rw [if_neg he]
          exact zY.rv rfl rfl ⟨rfl, rfl, rfl⟩
/-- wouldFail -/
def zwf (I_ : zIn) (q_ : Nat) : List Nat → Bool
  | [] => false
  | s_ :: l => if s_ / 2 = q_ ∧ zint I_ s_ = false then true else zwf I_ q_ l
theorem zb_eq0 {b_ : Bool} : zcp .eq (if b_ = true then 1 else 0) 0 ↔ b_ = false := by
  cases b_
  · exact ⟨fun _ => rfl, fun _ => rfl⟩
  · exact ⟨fun h_ => absurd h_ (show ¬ ((1 : Int32) = 0) by decide), fun h_ => by cases h_⟩
theorem zb_ne0 {b_ : Bool} : zcp .ne (if b_ = true then 1 else 0) 0 ↔ b_ = true := by
  cases b_
  · exact ⟨fun h_ => absurd rfl h_, fun h_ => by cases h_⟩
  · exact ⟨fun _ => rfl, fun _ => (show ¬ ((1 : Int32) = 0) by decide)⟩
theorem zm112l (I_ : zIn) (L_ : zLi) (v_ q_ : Nat) (x_ : Int32) (hn : (L_ 24 v_).length ≤ 1000) : ∀ (n_ i_ : Nat) , n_ + i_ = (L_ 24 v_).length → zY none 9 112 8 [some (zwR 5 v_), some (zwR 1 q_), some (zwI x_), some (zwI (Int32.ofNat i_))] [] I_ L_ 0 (zRet (some (zwI (if zwf I_ q_ ((L_ 24 v_).drop i_) = true then 1 else 0))) I_ L_)
  | 0, i_, hi_ => by
    rw [List.drop_of_length_le (by omega)]
    refine zY.go 4 rfl ?_
    refine zY.bn rfl (by omega) (by omega) (fun _ => ?_) (fun hF => absurd (show (L_ 24 v_).length ≤ i_ by omega) hF)
    refine zY.go 1 rfl ?_
    exact zY.rb rfl rfl (by first | exact Or.inl rfl | exact Or.inr rfl) ⟨rfl, rfl, rfl⟩
  | n_ + 1, i_, hi_ => by
    obtain ⟨s_, hs⟩ : ∃ s_, (L_ 24 v_)[i_]? = some s_ := ⟨_, List.getElem?_eq_getElem (by omega)⟩
    rw [zdrop_cons hs]
    have ih_ := fun (_ : Nat) => zm112l I_ L_ v_ q_ x_ hn n_ (i_ + 1)  (by omega)
    simp only [← zisucc] at ih_
    refine zY.go 4 rfl ?_
    refine zY.bn rfl (by omega) (by omega) (fun hT_ => absurd hT_ (show ¬ (L_ 24 v_).length ≤ i_ by omega)) (fun _ => ?_)
    refine zY.go 3 rfl ?_
    refine zY.cr (w_get rfl hs) rfl rfl rfl rfl (Nat.le_of_ble_eq_true rfl) rfl (by decide) rfl (by decide) (by decide) ?_
    refine zY.go 3 rfl ?_
    refine zY.an rfl (fun hp34 => ?_) (fun hp34 => ?_)
    · refine zY.go 2 rfl ?_
      (have hne : ¬ (s_ / 2 = q_ ∧ zint I_ s_ = false) := by first | exact fun e1_ => hp34 ⟨rfl, e1_.1⟩ | exact fun e1_ => by { have := zb_ne0.mp hp51; rw [e1_.2] at this; cases this }); rw [zwf, if_neg hne]; exact ih_ 0
    · refine zY.go 3 rfl ?_
      refine zY.cr (w_get rfl hs) rfl rfl rfl rfl (Nat.le_of_ble_eq_true rfl) rfl (by decide) rfl (by decide) (by decide) ?_
      refine zY.go 1 rfl ?_
      refine zY.cr (zm93) rfl rfl rfl rfl (Nat.le_of_ble_eq_true rfl) rfl (by decide) rfl (by decide) (by decide) ?_
      refine zY.bi rfl (fun hp51 => ?_) (fun hp51 => ?_)
      · refine zY.go 2 rfl ?_
        (have hne : ¬ (s_ / 2 = q_ ∧ zint I_ s_ = false) := by first | exact fun e1_ => hp34 ⟨rfl, e1_.1⟩ | exact fun e1_ => by { have := zb_ne0.mp hp51; rw [e1_.2] at this; cases this }); rw [zwf, if_neg hne]; exact ih_ 0
      · refine zY.go 1 rfl ?_
        exact zY.rb rfl rfl (by first | exact Or.inl rfl | exact Or.inr rfl) (by { have hh : zint I_ s_ = false := (by cases hz : zint I_ s_ with | false => rfl | true => exact absurd (zb_ne0.mpr hz) hp51); rw [zwf, if_pos (show s_ / 2 = q_ ∧ zint I_ s_ = false from ⟨hp34.2, hh⟩)]; exact ⟨rfl, rfl, rfl⟩ })
theorem zm112 {I_ : zIn} {L_ : zLi} {v_ q_ : Nat} {x_ : Int32} (hn : (L_ 26 v_).length ≤ 500) : zYm 9 112 [zwR 5 v_, zwR 1 q_, zwI x_] I_ L_ 0 (zRet (some (zwI (if zwf (zplS I_ L_ v_ x_) q_ (L_ 24 v_) = true then 1 else 0))) (zplS I_ L_ v_ x_) (zplL I_ L_ v_ x_)) := by
  refine zYm.inv (fun hi_ hw => ?_)
  have hx := hi_.veh (v_ := v_) (hw _ List.mem_cons_self)
  have hn24 := (hi_.1 24 v_ hx.1 (by decide)).1
  have h24 : zplL I_ L_ v_ x_ 24 v_ = L_ 24 v_ := zlup_ne (by simp)
  refine zYm.of (Nat.le_of_ble_eq_true rfl) rfl ?_
  refine zY.go 2 rfl ?_
  refine zY.cr (zm113 hn) rfl rfl rfl rfl (Nat.le_of_ble_eq_true rfl) rfl (by decide) rfl (by decide) (by decide) ?_
  refine zY.go 3 rfl ?_
  have := zm112l (zplS I_ L_ v_ x_) (zplL I_ L_ v_ x_) v_ q_ x_ (by rw [h24]; exact hn24) (L_ 24 v_).length 0 (by rw [h24]; omega)
  rw [h24] at this
  exact zY.mono this (Nat.le_refl _) (fun r_ I2_ L2_ hq => hq)
/-- listOpenPicks -/
def zpks : List Nat → List Nat
  | [] => []
  | s_ :: l => if s_ % 2 = 0 then s_ / 2 :: zpks l else zpks l
theorem zpks_len : ∀ (l : List Nat), (zpks l).length ≤ l.length
  | [] => Nat.le_refl _
  | s_ :: l => by
    have := zpks_len l
    unfold zpks
    split <;> simp <;> omega
theorem zm111l (v_ : Nat) (I_ : zIn) (L_ : zLi) (hn : (L_ 24 v_).length ≤ 500) : ∀ (n_ i_ : Nat) (l : List Nat), n_ + i_ = (L_ 24 v_).length → l.length ≤ i_ → zY none 6 111 9 [some (zwR 5 v_), some (zwR 23 0), some (zwI (Int32.ofNat i_))] [] I_ (zlup L_ 23 0 l) 0 (zRet none I_ (zlup L_ 23 0 (l ++ zpks ((L_ 24 v_).drop i_))))
  | 0, i_, l, hi_, hl => by
    rw [List.drop_of_length_le (by omega)]
    have h24 : zlup L_ 23 0 l 24 v_ = L_ 24 v_ := zlup_ne (by simp)
    refine zY.go 4 rfl ?_
    show zY _ _ _ _ _ [zwI (Int32.ofNat (zlup L_ 23 0 l 24 v_).length), zwI (Int32.ofNat i_)] _ _ _ _
    rw [h24]
    refine zY.bn rfl (by omega) (by omega) (fun _ => ?_) (fun hF => absurd (show (L_ 24 v_).length ≤ i_ by omega) hF)
    exact zY.rv rfl rfl ⟨rfl, rfl, by simp [zpks]⟩
  | n_ + 1, i_, l, hi_, hl => by
    obtain ⟨s_, hs⟩ : ∃ s_, (L_ 24 v_)[i_]? = some s_ := ⟨_, List.getElem?_eq_getElem (by omega)⟩
    rw [zdrop_cons hs]
    have ih_ := fun (l : List Nat) h_ => zm111l v_ I_ L_ hn n_ (i_ + 1) l (by omega) h_
    simp only [← zisucc] at ih_
    have h24 : zlup L_ 23 0 l 24 v_ = L_ 24 v_ := zlup_ne (by simp)
    have hs2 : (zlup L_ 23 0 l 24 v_)[i_]? = some s_ := by rw [h24]; exact hs
    refine zY.go 4 rfl ?_
    show zY _ _ _ _ _ [zwI (Int32.ofNat (zlup L_ 23 0 l 24 v_).length), zwI (Int32.ofNat i_)] _ _ _ _
    rw [h24]
    refine zY.bn rfl (by omega) (by omega) (fun hT_ => absurd hT_ (show ¬ (L_ 24 v_).length ≤ i_ by omega)) (fun _ => ?_)
    refine zY.go 3 rfl ?_
    refine zY.cr (w_get rfl hs2) rfl rfl rfl rfl (Nat.le_of_ble_eq_true rfl) rfl (by decide) rfl (by decide) (by decide) ?_
    refine zY.go 2 rfl ?_
    unfold zpks
    refine zY.bi rfl (fun hp34 => ?_) (fun hp34 => ?_)
    · refine zY.go 2 rfl ?_
      rw [if_neg (fun h_ => hp34 (zpar_0.mpr h_))]
      exact ih_ l (by omega)
    · rw [if_pos (zpar_0.mp (Decidable.byContradiction hp34))]
      refine zY.go 4 rfl ?_
      refine zY.cr (w_get rfl hs2) rfl rfl rfl rfl (Nat.le_of_ble_eq_true rfl) rfl (by decide) rfl (by decide) (by decide) ?_
      refine zY.go 2 rfl ?_
      refine zY.cr (w_add (c_ := 23) rfl (by rw [zlup_self]; omega)) rfl rfl rfl rfl (Nat.le_of_ble_eq_true rfl) rfl (by decide) rfl (by decide) (by decide) ?_
      refine zY.go 3 rfl ?_
      rw [zlup_self, zlup_same]
      have := ih_ (l ++ [s_ / 2]) (by rw [List.length_append]; show l.length + 1 ≤ i_ + 1; omega)
      rw [List.append_assoc] at this
      exact this
theorem zm111 {I_ : zIn} {L_ : zLi} {v_ : Nat} (hn : (L_ 24 v_).length ≤ 500) (h1 : I_ 5 v_ 10 = 0 ∨ ¬ L_ 24 v_ = []) : zYm 6 111 [zwR 5 v_, zwR 23 0] I_ L_ 0 (zRet none I_ (zlup L_ 23 0 (zpks ((L_ 24 v_).drop (if I_ 5 v_ 10 = 0 then 0 else 1))))) := by
  refine zYm.of (Nat.le_of_ble_eq_true rfl) rfl ?_
  refine zY.go 1 rfl ?_
  refine zY.cr (w_clear rfl) rfl rfl rfl rfl (Nat.le_of_ble_eq_true rfl) rfl (by decide) rfl (by decide) (by decide) ?_
  refine zY.go 1 rfl ?_
  refine zY.cr zm99 rfl rfl rfl rfl (Nat.le_of_ble_eq_true rfl) rfl (by decide) rfl (by decide) (by decide) ?_
  refine zY.go 1 rfl ?_
  by_cases h0 : I_ 5 v_ 10 = 0
  · rw [if_pos h0, if_pos h0]
    exact zm111l v_ I_ L_ hn (L_ 24 v_).length 0 [] (by omega) (by simp)
  · rw [if_neg h0, if_neg h0]
    have : 0 < (L_ 24 v_).length := by
      rcases hl : L_ 24 v_ with _ | ⟨y_, l⟩
      · exact absurd hl (h1.elim (fun e_ => absurd e_ h0) id)
      · simp
    exact zm111l v_ I_ L_ hn ((L_ 24 v_).length - 1) 1 [] (by omega) (by simp)

