/-! CONTRACTS: move, mend, leastDrive -/
def zpos (t_ : Nat) : List Nat → Nat
  | [] => 0
  | s_ :: l => if s_ = t_ then 0 else zpos t_ l + 1
theorem zfnd_pos {t_ : Nat} : ∀ (l : List Nat) (i_ : Nat), t_ ∈ l → zfnd t_ l i_ = Int32.ofNat (i_ + zpos t_ l) ∧ l[zpos t_ l]? = some t_
  | [], _, h_ => by cases h_
  | s_ :: l, i_, h_ => by
    unfold zfnd zpos
    by_cases e_ : s_ = t_
    · rw [if_pos e_, if_pos e_]; exact ⟨rfl, by rw [e_]; rfl⟩
    · rw [if_neg e_, if_neg e_]
      obtain ⟨h1, h2⟩ := zfnd_pos l (i_ + 1) (by rcases List.mem_cons.mp h_ with h_ | h_; exact absurd h_.symm e_; exact h_)
      refine ⟨by rw [h1]; congr 1; omega, by simpa using h2⟩
def zmvF (I_ : zIn) (L_ : zLi) (v_ q_ : Nat) (x_ : Int32) : Bool × (zIn × zLi) :=
  if (zpb I_ (zlup L_ 24 v_ (((L_ 24 v_).eraseIdx (zpos (2 * q_ + 1) (L_ 24 v_))).eraseIdx (zpos (2 * q_) (L_ 24 v_)))) (2 * q_) (2 * q_ + 1) x_).1 = true then zpb I_ (zlup L_ 24 v_ (((L_ 24 v_).eraseIdx (zpos (2 * q_ + 1) (L_ 24 v_))).eraseIdx (zpos (2 * q_) (L_ 24 v_)))) (2 * q_) (2 * q_ + 1) x_
  else (false, zset (zpb I_ (zlup L_ 24 v_ (((L_ 24 v_).eraseIdx (zpos (2 * q_ + 1) (L_ 24 v_))).eraseIdx (zpos (2 * q_) (L_ 24 v_)))) (2 * q_) (2 * q_ + 1) x_).2.1 1 (2 * q_ / 2) 8 (Int32.ofNat v_),
    zlup (zpb I_ (zlup L_ 24 v_ (((L_ 24 v_).eraseIdx (zpos (2 * q_ + 1) (L_ 24 v_))).eraseIdx (zpos (2 * q_) (L_ 24 v_)))) (2 * q_) (2 * q_ + 1) x_).2.2 24 v_ (zins (zpos (2 * q_ + 1) (L_ 24 v_)) (2 * q_ + 1) (zins (zpos (2 * q_) (L_ 24 v_)) (2 * q_) (((L_ 24 v_).eraseIdx (zpos (2 * q_ + 1) (L_ 24 v_))).eraseIdx (zpos (2 * q_) (L_ 24 v_))))))
theorem zpb_f24 {I_ : zIn} {L_ : zLi} {p_ t_ c_ u_ : Nat} {x_ : Int32} (h_ : ¬ (zpb I_ L_ p_ t_ x_).1 = true) (hc_ : ¬ c_ = 27) : (zpb I_ L_ p_ t_ x_).2.2 c_ u_ = L_ c_ u_ := by
  unfold zpb at h_ ⊢
  split at h_
  · rename_i h2
    rw [if_pos h2]
    exact zptl_ne hc_ _ _ _
  · exact absurd rfl h_
theorem zm59 {I_ : zIn} {L_ : zLi} {v_ q_ : Nat} (hp : 2 * q_ ∈ L_ 24 v_) (ht : 2 * q_ + 1 ∈ L_ 24 v_) (hpt : zpos (2 * q_) (L_ 24 v_) < zpos (2 * q_ + 1) (L_ 24 v_)) (hl : (L_ 24 v_).length ≤ 90) (hb_ : ∀ v_ ∈ L_ 21 0, (L_ 24 v_).length ≤ 90 ∧ (L_ 26 v_).length ≤ 150 ∧ v_ < 4) : zYm 12 59 [zwR 6 0, zwR 5 v_, zwR 1 q_] I_ L_ 0 (zRb (zmvF I_ L_ v_ q_ (I_ 6 0 8))) := by
  obtain ⟨f1_, g1⟩ := zfnd_pos (L_ 24 v_) 0 hp
  obtain ⟨f2_, g2⟩ := zfnd_pos (L_ 24 v_) 0 ht
  rw [Nat.zero_add] at f1_ f2_
  obtain ⟨l1, _⟩ := List.getElem?_eq_some_iff.mp g1
  obtain ⟨l2, _⟩ := List.getElem?_eq_some_iff.mp g2
  have hle : ((L_ 24 v_).eraseIdx (zpos (2 * q_ + 1) (L_ 24 v_))).length = (L_ 24 v_).length - 1 := by rw [List.length_eraseIdx, if_pos l2]
  have hle2 : (((L_ 24 v_).eraseIdx (zpos (2 * q_ + 1) (L_ 24 v_))).eraseIdx (zpos (2 * q_) (L_ 24 v_))).length = (L_ 24 v_).length - 2 := by rw [List.length_eraseIdx, if_pos (by omega)]; omega
  have g3_ : ((L_ 24 v_).eraseIdx (zpos (2 * q_ + 1) (L_ 24 v_)))[zpos (2 * q_) (L_ 24 v_)]? = some (2 * q_) := by rw [List.getElem?_eraseIdx_of_lt hpt]; exact g1
  refine zYm.of (Nat.le_of_ble_eq_true rfl) rfl ?_
  refine zY.go 3 rfl ?_
  refine zY.cr (zm114 (e_ := 0) (by decide)) rfl rfl rfl rfl (Nat.le_of_ble_eq_true rfl) rfl (by decide) rfl (by decide) (by decide) ?_
  refine zY.go 4 rfl ?_
  refine zY.cr (zm114 (e_ := 1) (by decide)) rfl rfl rfl rfl (Nat.le_of_ble_eq_true rfl) rfl (by decide) rfl (by decide) (by decide) ?_
  refine zY.go 2 rfl ?_
  show zY _ _ _ _ [some (zwR 6 0), some (zwR 5 v_), some (zwR 1 q_), some (zwI (zfnd (2 * q_) (L_ 24 v_) 0)), some (zwI (zfnd (2 * q_ + 1) (L_ 24 v_) 0)), none, none] [zwI (zfnd (2 * q_) (L_ 24 v_) 0)] _ _ _ _
  rw [f1_, f2_]
  refine zY.bi rfl (fun hp1 => absurd hp1 (Int32.not_lt.mpr (zige (by omega)))) (fun _ => ?_)
  refine zY.go 2 rfl ?_
  refine zY.bn rfl (by omega) (by omega) (fun hp22 => absurd hp22 (show ¬ zpos (2 * q_ + 1) (L_ 24 v_) ≤ zpos (2 * q_) (L_ 24 v_) by omega)) (fun _ => ?_)
  refine zY.go 4 rfl ?_
  refine zY.bn rfl (by omega) (by omega) (fun _ => ?_) (fun h_ => absurd l2 h_)
  refine zY.go 3 rfl ?_
  refine zY.cr (w_rem rfl g2) rfl rfl rfl rfl (Nat.le_of_ble_eq_true rfl) rfl (by decide) rfl (by decide) (by decide) ?_
  refine zY.go 5 rfl ?_
  refine zY.cr (w_rem (c_ := 24) rfl (by rw [zlup_self]; exact g3_)) rfl rfl rfl rfl (Nat.le_of_ble_eq_true rfl) rfl (by decide) rfl (by decide) (by decide) ?_
  rw [zlup_self, zlup_same]
  refine zY.go 10 rfl ?_
  have hb2 : ∀ u_ ∈ zlup L_ 24 v_ (((L_ 24 v_).eraseIdx (zpos (2 * q_ + 1) (L_ 24 v_))).eraseIdx (zpos (2 * q_) (L_ 24 v_))) 21 0, (zlup L_ 24 v_ (((L_ 24 v_).eraseIdx (zpos (2 * q_ + 1) (L_ 24 v_))).eraseIdx (zpos (2 * q_) (L_ 24 v_))) 24 u_).length ≤ 90 ∧ (zlup L_ 24 v_ (((L_ 24 v_).eraseIdx (zpos (2 * q_ + 1) (L_ 24 v_))).eraseIdx (zpos (2 * q_) (L_ 24 v_))) 26 u_).length ≤ 150 ∧ u_ < 4 := by
    intro u_ hu
    rw [zlup_ne (by simp)] at hu
    have := hb_ u_ hu
    rw [zlup_ne (c_ := 24) (c' := 26) (by simp)]
    by_cases h_ : u_ = v_
    · subst h_; rw [zlup_self, hle2]; omega
    · rw [zlup_ne (fun e_ => h_ e_.2)]; exact this
  refine zY.cr (zm89 hb2) rfl rfl rfl rfl (Nat.le_of_ble_eq_true rfl) rfl (by decide) rfl (by decide) (by decide) ?_
  unfold zmvF
  refine zY.bi rfl (fun hp85 => ?_) (fun hp85 => ?_)
  · have hn : ¬ (zpb I_ (zlup L_ 24 v_ (((L_ 24 v_).eraseIdx (zpos (2 * q_ + 1) (L_ 24 v_))).eraseIdx (zpos (2 * q_) (L_ 24 v_)))) (2 * q_) (2 * q_ + 1) (I_ 6 0 8)).1 = true := by rw [zb_eq0.mp hp85]; decide
    have e24_ := zpb_f24 (c_ := 24) (u_ := v_) hn (by decide)
    rw [zlup_self] at e24_
    rw [if_neg hn]
    refine zY.go 5 rfl ?_
    refine zY.cr (zm102 (v_ := v_) (k_ := zpos (2 * q_) (L_ 24 v_)) (j_ := zpos (2 * q_ + 1) (L_ 24 v_)) (by rw [e24_, hle2]; omega) (by rw [e24_, hle2]; omega) (by rw [e24_, hle2]; omega)) rfl rfl rfl rfl (Nat.le_of_ble_eq_true rfl) rfl (by decide) rfl (by decide) (by decide) ?_
    rw [e24_]
    refine zY.go 1 rfl ?_
    exact zY.rb rfl rfl (Or.inl rfl) ⟨rfl, rfl, rfl⟩
  · have hn : (zpb I_ (zlup L_ 24 v_ (((L_ 24 v_).eraseIdx (zpos (2 * q_ + 1) (L_ 24 v_))).eraseIdx (zpos (2 * q_) (L_ 24 v_)))) (2 * q_) (2 * q_ + 1) (I_ 6 0 8)).1 = true := by
      cases h_ : (zpb I_ (zlup L_ 24 v_ (((L_ 24 v_).eraseIdx (zpos (2 * q_ + 1) (L_ 24 v_))).eraseIdx (zpos (2 * q_) (L_ 24 v_)))) (2 * q_) (2 * q_ + 1) (I_ 6 0 8)).1
      · exact absurd (zb_eq0.mpr h_) hp85
      · rfl
    rw [if_pos hn]
    refine zY.go 1 rfl ?_
    refine zY.rb rfl rfl (Or.inr rfl) ?_
    unfold zRb; rw [if_pos hn]
    exact ⟨rfl, rfl, rfl⟩
/-- one request of mend -/
def zmq (v_ q_ : Nat) (I_ : zIn) (L_ : zLi) : Bool × (zIn × zLi) :=
  if zwf (zplS I_ L_ v_ (I_ 6 0 8)) q_ (L_ 24 v_) = true then zmvF (zplS I_ L_ v_ (I_ 6 0 8)) (zplL I_ L_ v_ (I_ 6 0 8)) v_ q_ (I_ 6 0 8) else (false, zplS I_ L_ v_ (I_ 6 0 8), zplL I_ L_ v_ (I_ 6 0 8))
def zmql (v_ : Nat) : List Nat → Int32 → zIn → zLi → Int32 × (zIn × zLi)
  | [], y_, I_, L_ => (y_, I_, L_)
  | q_ :: r_, y_, I_, L_ => zmql v_ r_ (if (zmq v_ q_ I_ L_).1 = true then y_ + 1 else y_) (zmq v_ q_ I_ L_).2.1 (zmq v_ q_ I_ L_).2.2
/-- what mend wants of a request -/
def zmok (v_ q_ : Nat) (L_ : zLi) : Prop := 2 * q_ ∈ L_ 24 v_ ∧ 2 * q_ + 1 ∈ L_ 24 v_ ∧ zpos (2 * q_) (L_ 24 v_) < zpos (2 * q_ + 1) (L_ 24 v_) ∧ (L_ 24 v_).length ≤ 90 ∧ (L_ 26 v_).length ≤ 150 ∧ ∀ v_ ∈ L_ 21 0, (L_ 24 v_).length ≤ 90 ∧ (L_ 26 v_).length ≤ 150 ∧ v_ < 4
theorem zpb_ne {I_ : zIn} {L_ : zLi} {p_ t_ c_ u_ : Nat} {x_ : Int32} (h_ : ¬ c_ = 27) (h2 : ¬ c_ = 24) : (zpb I_ L_ p_ t_ x_).2.2 c_ u_ = L_ c_ u_ := by
  unfold zpb
  split
  · exact zptl_ne h_ _ _ _
  · dsimp only
    rw [zlup_ne (fun e_ => h2 e_.1)]; exact zptl_ne h_ _ _ _
theorem zmq_ne {v_ q_ c_ u_ : Nat} {I_ : zIn} {L_ : zLi} (h_ : ¬ c_ = 27) (h2 : ¬ c_ = 24) : (zmq v_ q_ I_ L_).2.2 c_ u_ = L_ c_ u_ := by
  have e_ : zplL I_ L_ v_ (I_ 6 0 8) c_ u_ = L_ c_ u_ := zlup_ne (fun e_ => h_ e_.1)
  unfold zmq
  split
  · unfold zmvF
    split
    · rw [zpb_ne h_ h2, zlup_ne (fun e_ => h2 e_.1), e_]
    · dsimp only
      rw [zlup_ne (fun e_ => h2 e_.1), zpb_ne h_ h2, zlup_ne (fun e_ => h2 e_.1), e_]
  · exact e_
theorem zm58l (v_ : Nat) (w_ : Int32) {P_ : List Nat → zIn → zLi → Prop} (hP : ∀ q_ r_ I_ L_, P_ (q_ :: r_) I_ L_ → zmok v_ q_ L_) (hS_ : ∀ q_ r_ I_ L_, P_ (q_ :: r_) I_ L_ → P_ r_ (zmq v_ q_ I_ L_).2.1 (zmq v_ q_ I_ L_).2.2) (l : List Nat) (hl : l.length ≤ 1000) : ∀ (n_ i_ : Nat) (y_ : Int32) (I_ : zIn) (L_ : zLi) (k_ : Option zW), n_ + i_ = l.length → L_ 23 0 = l → P_ (l.drop i_) I_ L_ → zY none 13 58 19 [some (zwR 6 0), some (zwI w_), some (zwR 5 v_), some (zwI y_), some (zwI (Int32.ofNat i_)), k_] [] I_ L_ 0 (zRet (some (zwI (zmql v_ (l.drop i_) y_ I_ L_).1)) (zmql v_ (l.drop i_) y_ I_ L_).2.1 (zmql v_ (l.drop i_) y_ I_ L_).2.2)
  | 0, i_, y_, I_, L_, k_, hi_, h23, hp => by
    subst h23
    rw [List.drop_of_length_le (by omega)]
    refine zY.go 4 rfl ?_
    refine zY.bn rfl (by omega) (by omega) (fun _ => ?_) (fun hF => absurd (show (L_ 23 0).length ≤ i_ by omega) hF)
    refine zY.go 1 rfl ?_
    exact zY.ri rfl rfl ⟨rfl, rfl, rfl⟩
  | n_ + 1, i_, y_, I_, L_, k_, hi_, h23, hp => by
    subst h23
    obtain ⟨s_, hs⟩ : ∃ s_, (L_ 23 0)[i_]? = some s_ := ⟨_, List.getElem?_eq_getElem (by omega)⟩
    rw [zdrop_cons hs] at hp ⊢
    obtain ⟨c1_, c2_, c3_, c4_, c5_, c6_⟩ := hP _ _ _ _ hp
    have e23_ : (zmq v_ s_ I_ L_).2.2 23 0 = L_ 23 0 := zmq_ne (by decide) (by decide)
    have ih_ := fun y_ k_ => zm58l v_ w_ hP hS_ (L_ 23 0) hl n_ (i_ + 1) y_ (zmq v_ s_ I_ L_).2.1 (zmq v_ s_ I_ L_).2.2 k_ (by omega) e23_ (hS_ _ _ _ _ hp)
    simp only [← zisucc] at ih_
    have hJ : zplS I_ L_ v_ (I_ 6 0 8) 6 0 8 = I_ 6 0 8 := zplS_fr ⟨fun h_ => by omega, fun h_ => by omega, fun h_ => by omega⟩
    have e24_ : ∀ u_, zplL I_ L_ v_ (I_ 6 0 8) 24 u_ = L_ 24 u_ := fun u_ => zlup_ne (by simp)
    have e26_ : ∀ u_, zplL I_ L_ v_ (I_ 6 0 8) 26 u_ = L_ 26 u_ := fun u_ => zlup_ne (by simp)
    have e21_ : zplL I_ L_ v_ (I_ 6 0 8) 21 0 = L_ 21 0 := zlup_ne (by simp)
    refine zY.go 4 rfl ?_
    refine zY.bn rfl (by omega) (by omega) (fun hT_ => absurd hT_ (show ¬ (L_ 23 0).length ≤ i_ by omega)) (fun _ => ?_)
    refine zY.go 3 rfl ?_
    refine zY.cr (w_get rfl hs) rfl rfl rfl rfl (Nat.le_of_ble_eq_true rfl) rfl (by decide) rfl (by decide) (by decide) ?_
    refine zY.go 6 rfl ?_
    refine zY.cr (zm112 (by omega)) rfl rfl rfl rfl (Nat.le_of_ble_eq_true rfl) rfl (by decide) rfl (by decide) (by decide) ?_
    unfold zmql
    by_cases hw : zwf (zplS I_ L_ v_ (I_ 6 0 8)) s_ (L_ 24 v_) = true
    · have hz : zmq v_ s_ I_ L_ = zmvF (zplS I_ L_ v_ (I_ 6 0 8)) (zplL I_ L_ v_ (I_ 6 0 8)) v_ s_ (I_ 6 0 8) := by unfold zmq; rw [if_pos hw]
      rw [if_pos hw]
      refine zY.bi rfl (fun h_ => absurd h_ (show ¬ ((1 : Int32) = 0) by decide)) (fun _ => ?_)
      refine zY.go 3 rfl ?_
      have h59 := zm59 (I_ := zplS I_ L_ v_ (I_ 6 0 8)) (L_ := zplL I_ L_ v_ (I_ 6 0 8)) (v_ := v_) (q_ := s_) (by rw [e24_]; exact c1_) (by rw [e24_]; exact c2_) (by rw [e24_]; exact c3_) (by rw [e24_]; exact c4_) (fun u_ hu => by rw [e24_, e26_]; rw [e21_] at hu; exact c6_ u_ hu)
      rw [hJ, ← hz] at h59
      refine zY.cr h59 rfl rfl rfl rfl (Nat.le_of_ble_eq_true rfl) rfl (by decide) rfl (by decide) (by decide) ?_
      refine zY.bi rfl (fun h_ => ?_) (fun h_ => ?_)
      · refine zY.go 2 rfl ?_
        rw [if_neg (by rw [zb_eq0.mp h_]; decide)]
        exact ih_ _ _
      · refine zY.go 3 rfl ?_
        rw [if_pos (by cases h2 : (zmq v_ s_ I_ L_).1; exact absurd (zb_eq0.mpr h2) h_; rfl)]
        exact ih_ _ _
    · have hz : zmq v_ s_ I_ L_ = (false, zplS I_ L_ v_ (I_ 6 0 8), zplL I_ L_ v_ (I_ 6 0 8)) := by unfold zmq; rw [if_neg hw]
      rw [if_neg hw]
      refine zY.bi rfl (fun _ => ?_) (fun h_ => absurd rfl h_)
      refine zY.go 2 rfl ?_
      rw [hz] at ih_ ⊢
      simp only [Bool.false_eq_true, if_false]
      exact ih_ _ _
def zmnd (v_ : Nat) (I_ : zIn) (L_ : zLi) : Int32 × (zIn × zLi) := zmql v_ (zpks ((L_ 24 v_).drop (zfo I_ v_))) 0 I_ (zlup L_ 23 0 (zpks ((L_ 24 v_).drop (zfo I_ v_))))
theorem zm58t {I_ : zIn} {L_ : zLi} {i_ v_ : Nat} {P_ : List Nat → zIn → zLi → Prop} (hs : (L_ 21 0)[i_]? = some v_) (hn : (L_ 24 v_).length ≤ 500) (h1 : I_ 5 v_ 10 = 0 ∨ ¬ L_ 24 v_ = []) (hP : ∀ q_ r_ I_ L_, P_ (q_ :: r_) I_ L_ → zmok v_ q_ L_) (hS_ : ∀ q_ r_ I_ L_, P_ (q_ :: r_) I_ L_ → P_ r_ (zmq v_ q_ I_ L_).2.1 (zmq v_ q_ I_ L_).2.2)
    (hp : P_ (zpks ((L_ 24 v_).drop (zfo I_ v_))) I_ (zlup L_ 23 0 (zpks ((L_ 24 v_).drop (zfo I_ v_))))) : zYm 13 58 [zwR 6 0, zwI (Int32.ofNat i_)] I_ L_ 0 (zRet (some (zwI (zmnd v_ I_ L_).1)) (zmnd v_ I_ L_).2.1 (zmnd v_ I_ L_).2.2) := by
  refine zYm.of (Nat.le_of_ble_eq_true rfl) rfl ?_
  refine zY.go 2 rfl ?_
  refine zY.cr (zm41t hs) rfl rfl rfl rfl (Nat.le_of_ble_eq_true rfl) rfl (by decide) rfl (by decide) (by decide) ?_
  refine zY.go 4 rfl ?_
  refine zY.cr (zm111 hn h1) rfl rfl rfl rfl (Nat.le_of_ble_eq_true rfl) rfl (by decide) rfl (by decide) (by decide) ?_
  refine zY.go 4 rfl ?_
  have hlen : (zpks ((L_ 24 v_).drop (zfo I_ v_))).length ≤ 1000 := by
    have h2 := zpks_len ((L_ 24 v_).drop (zfo I_ v_))
    rw [List.length_drop] at h2
    omega
  exact zm58l v_ (Int32.ofNat i_) hP hS_ (zpks ((L_ 24 v_).drop (zfo I_ v_))) hlen (zpks ((L_ 24 v_).drop (zfo I_ v_))).length 0 0 I_ _ none (by omega) zlup_self hp
theorem zm58x {I_ : zIn} {L_ : zLi} {x_ : Int32} (h_ : x_ < 0 ∨ Int32.ofNat (L_ 21 0).length ≤ x_) : zYm 13 58 [zwR 6 0, zwI x_] I_ L_ 14 (zThw 11 I_ L_) := by
  refine zYm.of (Nat.le_of_ble_eq_true rfl) rfl ?_
  refine zY.go 2 rfl ?_
  exact zY.cx (zm41x h_) rfl rfl rfl rfl (Nat.le_of_ble_eq_true rfl) rfl (by decide) rfl (by decide) (by decide) (by decide) rfl ⟨rfl, rfl, rfl⟩
def zldr (v_ : Nat) (I_ : zIn) (L_ : zLi) : Int32 × (zIn × zLi) := if (L_ 24 v_).length ≤ 6 then zla v_ (I_ 6 0 8) 6 (zfo I_ v_) (-1) I_ L_ else (-1, I_, L_)
theorem zm69t {I_ : zIn} {L_ : zLi} {i_ v_ : Nat} (hs : (L_ 21 0)[i_]? = some v_) (hn : (L_ 24 v_).length ≤ 300) (h26 : (L_ 26 v_).length ≤ 150) : zYm 17 69 [zwR 6 0, zwI (Int32.ofNat i_)] I_ L_ 0 (zRet (some (zwI (zldr v_ I_ L_).1)) (zldr v_ I_ L_).2.1 (zldr v_ I_ L_).2.2) := by
  refine zYm.of (Nat.le_of_ble_eq_true rfl) rfl ?_
  refine zY.go 2 rfl ?_
  refine zY.cr (zm41t hs) rfl rfl rfl rfl (Nat.le_of_ble_eq_true rfl) rfl (by decide) rfl (by decide) (by decide) ?_
  refine zY.go 5 rfl ?_
  unfold zldr
  refine zY.bn (y_ := 6) rfl (by omega) (by omega) (fun hp => ?_) (fun hp => ?_)
  · rw [if_pos (show (L_ 24 v_).length ≤ 6 from hp)]
    refine zY.go 2 rfl ?_
    refine zY.cr zm99 rfl rfl rfl rfl (Nat.le_of_ble_eq_true rfl) rfl (by decide) rfl (by decide) (by decide) ?_
    refine zY.go 3 rfl ?_
    have hf : (if I_ 5 v_ 10 = 0 then (0 : Int32) else 1) = Int32.ofNat (zfo I_ v_) := by
      unfold zfo; split <;> rfl
    have hf1 : zfo I_ v_ ≤ 1 := by unfold zfo; split <;> omega
    have h70 := zm70 v_ (I_ 6 0 8) 6 (zfo I_ v_) (-1) I_ L_ (by omega) (by omega) hn h26
    rw [← hf] at h70
    refine zY.cr h70 rfl rfl rfl rfl (Nat.le_of_ble_eq_true rfl) rfl (by decide) rfl (by decide) (by decide) ?_
    exact zY.ri rfl rfl ⟨rfl, rfl, rfl⟩
  · rw [if_neg (show ¬ (L_ 24 v_).length ≤ 6 from hp)]
    refine zY.go 1 rfl ?_
    exact zY.ri rfl rfl ⟨rfl, rfl, rfl⟩
theorem zm69x {I_ : zIn} {L_ : zLi} {x_ : Int32} (h_ : x_ < 0 ∨ Int32.ofNat (L_ 21 0).length ≤ x_) : zYm 17 69 [zwR 6 0, zwI x_] I_ L_ 14 (zThw 11 I_ L_) := by
  refine zYm.of (Nat.le_of_ble_eq_true rfl) rfl ?_
  refine zY.go 2 rfl ?_
  exact zY.cx (zm41x h_) rfl rfl rfl rfl (Nat.le_of_ble_eq_true rfl) rfl (by decide) rfl (by decide) (by decide) (by decide) rfl ⟨rfl, rfl, rfl⟩
