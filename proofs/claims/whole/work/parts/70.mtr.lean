/-! CONTRACTS OF THE MODEL: the route that is tried -/
theorem zof_eq {a_ b_ : Nat} (ha_ : a_ < 100000) (hb_ : b_ < 100000) : Int32.ofNat a_ = Int32.ofNat b_ ↔ a_ = b_ := ⟨fun e_ => by have := zicl ha_; rw [e_, zicl hb_] at this; exact this.symm, fun e_ => by rw [e_]⟩
theorem z16k {v_ k_ : Nat} : 16 * Int32.ofNat v_ + Int32.ofNat k_ = Int32.ofNat (16 * v_ + k_) := by rw [Int32.ofNat_add, Int32.ofNat_mul]; rfl
/-- tries holds l -/
def zTr (I_ : zIn) (l : List Nat) : Prop := I_ 7 0 42 = Int32.ofNat l.length ∧ l.length ≤ 20 ∧ ∀ k_ s_, l[k_]? = some s_ → I_ 30 43 k_ = Int32.ofNat s_ ∧ s_ < 120
def ztrI (v_ : Nat) : Nat → Nat → zIn → zIn
  | 0, _, I_ => I_
  | m_ + 1, k_, I_ => ztrI v_ m_ (k_ + 1) (zset I_ 30 43 k_ (I_ 30 26 (16 * v_ + k_)))
theorem zm143l (v_ n_ : Nat) (L_ : zLi) (hv : v_ < 4) (hn : n_ ≤ 16) : ∀ (m_ k_ : Nat) (I_ : zIn), m_ + k_ = n_ → I_ 7 0 42 = Int32.ofNat n_ → zY none 1 143 12 [some (zwR 7 0), some (zwI (Int32.ofNat v_)), some (zwI (Int32.ofNat k_))] [] I_ L_ 0 (zRet none (ztrI v_ m_ k_ I_) L_)
  | 0, k_, I_, hm_, h42 => by
    refine zY.go 3 rfl ?_
    show zY _ _ _ _ _ [zwI (I_ 7 0 42), zwI (Int32.ofNat k_)] _ _ _ _
    rw [h42]
    refine zY.bn rfl (by omega) (by omega) (fun _ => ?_) (fun hF => absurd (show n_ ≤ k_ by omega) hF)
    exact zY.rv rfl rfl ⟨rfl, rfl, rfl⟩
  | m_ + 1, k_, I_, hm_, h42 => by
    have h20 : k_ < zas30 43 := by show k_ < 20; omega
    have h64 : 16 * v_ + k_ < zas30 26 := by show 16 * v_ + k_ < 64; omega
    have ih_ := zm143l v_ n_ L_ hv hn m_ (k_ + 1) (zset I_ 30 43 k_ (I_ 30 26 (16 * v_ + k_))) (by omega) ((zset_ne (by simp)).trans h42)
    rw [← zisucc] at ih_
    refine zY.go 3 rfl ?_
    show zY _ _ _ _ _ [zwI (I_ 7 0 42), zwI (Int32.ofNat k_)] _ _ _ _
    rw [h42]
    refine zY.bn rfl (by omega) (by omega) (fun hT_ => absurd hT_ (show ¬ n_ ≤ k_ by omega)) (fun _ => ?_)
    refine zY.go 10 rfl ?_
    refine zY.ai rfl z16k h64 ?_
    refine zY.si rfl rfl h20 ?_
    refine zY.go 2 rfl ?_
    exact ih_
def ztry (I_ : zIn) (v_ n_ : Nat) : zIn := ztrI v_ n_ 0 (zset I_ 7 0 42 (Int32.ofNat n_))
theorem zm143 {I_ : zIn} {L_ : zLi} {v_ n_ : Nat} (hv : v_ < 4) (hn : n_ ≤ 16) (h_ : I_ 30 27 v_ = Int32.ofNat n_) : zYm 1 143 [zwR 7 0, zwI (Int32.ofNat v_)] I_ L_ 0 (zRet none (ztry I_ v_ n_) L_) := by
  refine zYm.of (Nat.le_of_ble_eq_true rfl) rfl ?_
  refine zY.go 4 rfl ?_
  refine zY.ai rfl rfl hv ?_
  rw [h_]
  refine zY.go 3 rfl ?_
  exact zm143l v_ n_ L_ hv hn n_ 0 _ (by omega) zset_is
/-- keepTry -/
def zkpI (v_ : Nat) : Nat → Nat → zIn → zIn
  | 0, _, I_ => I_
  | m_ + 1, k_, I_ => zkpI v_ m_ (k_ + 1) (zset I_ 30 26 (16 * v_ + k_) (I_ 30 43 k_))
theorem zm157l (v_ n_ : Nat) (L_ : zLi) (hv : v_ < 4) (hn : n_ ≤ 16) : ∀ (m_ k_ : Nat) (I_ : zIn), m_ + k_ = n_ → I_ 7 0 42 = Int32.ofNat n_ → zY none 1 157 12 [some (zwR 7 0), some (zwI (Int32.ofNat v_)), some (zwI (Int32.ofNat k_))] [] I_ L_ 0 (zRet none (zkpI v_ m_ k_ I_) L_)
  | 0, k_, I_, hm_, h42 => by
    refine zY.go 3 rfl ?_
    show zY _ _ _ _ _ [zwI (I_ 7 0 42), zwI (Int32.ofNat k_)] _ _ _ _
    rw [h42]
    refine zY.bn rfl (by omega) (by omega) (fun _ => ?_) (fun hF => absurd (show n_ ≤ k_ by omega) hF)
    exact zY.rv rfl rfl ⟨rfl, rfl, rfl⟩
  | m_ + 1, k_, I_, hm_, h42 => by
    have h20 : k_ < zas30 43 := by show k_ < 20; omega
    have h64 : 16 * v_ + k_ < zas30 26 := by show 16 * v_ + k_ < 64; omega
    have ih_ := zm157l v_ n_ L_ hv hn m_ (k_ + 1) (zset I_ 30 26 (16 * v_ + k_) (I_ 30 43 k_)) (by omega) ((zset_ne (by simp)).trans h42)
    rw [← zisucc] at ih_
    refine zY.go 3 rfl ?_
    show zY _ _ _ _ _ [zwI (I_ 7 0 42), zwI (Int32.ofNat k_)] _ _ _ _
    rw [h42]
    refine zY.bn rfl (by omega) (by omega) (fun hT_ => absurd hT_ (show ¬ n_ ≤ k_ by omega)) (fun _ => ?_)
    refine zY.go 10 rfl ?_
    refine zY.ai rfl rfl h20 ?_
    refine zY.si rfl z16k h64 ?_
    refine zY.go 2 rfl ?_
    exact ih_
def zkep (I_ : zIn) (v_ n_ : Nat) : zIn := zkpI v_ n_ 0 (zset I_ 30 27 v_ (Int32.ofNat n_))
theorem zm157 {I_ : zIn} {L_ : zLi} {v_ n_ : Nat} (hv : v_ < 4) (hn : n_ ≤ 16) (h_ : I_ 7 0 42 = Int32.ofNat n_) : zYm 1 157 [zwR 7 0, zwI (Int32.ofNat v_)] I_ L_ 0 (zRet none (zkep I_ v_ n_) L_) := by
  refine zYm.of (Nat.le_of_ble_eq_true rfl) rfl ?_
  refine zY.go 5 rfl ?_
  show zY _ _ _ _ _ [zwI (I_ 7 0 42), zwI (Int32.ofNat v_), zwR 30 27] _ _ _ _
  rw [h_]
  refine zY.si rfl rfl hv ?_
  refine zY.go 2 rfl ?_
  exact zm157l v_ n_ L_ hv hn n_ 0 _ (by omega) ((zset_ne (by simp)).trans h_)
/-- putStop: n stops are moved up, from the last one down -/
def zpsI : Nat → Nat → zIn → zIn
  | 0, _, I_ => I_
  | m_ + 1, k_, I_ => zpsI m_ (k_ - 1) (zset I_ 30 43 k_ (I_ 30 43 (k_ - 1)))
theorem zpsI_ne {c_ i_ f_ : Nat} (h_ : ¬ (c_ = 30 ∧ i_ = 43)) : ∀ (m_ k_ : Nat) (I_ : zIn), zpsI m_ k_ I_ c_ i_ f_ = I_ c_ i_ f_
  | 0, _, _ => rfl
  | m_ + 1, k_, I_ => by
    unfold zpsI
    rw [zpsI_ne h_ m_, zset_ne (fun e_ => h_ ⟨e_.1, e_.2.1⟩)]
def zpst (I_ : zIn) (n_ a_ s_ : Nat) : zIn := zset (zset (zpsI (n_ - a_) n_ I_) 30 43 a_ (Int32.ofNat s_)) 7 0 42 (Int32.ofNat (n_ + 1))
theorem zm147l (n_ a_ s_ : Nat) (L_ : zLi) (hn : n_ ≤ 19) (ha_ : a_ ≤ n_) : ∀ (m_ k_ : Nat) (I_ : zIn), m_ + a_ = k_ → k_ ≤ n_ → I_ 7 0 42 = Int32.ofNat n_ → zY none 1 147 5 [some (zwR 7 0), some (zwI (Int32.ofNat a_)), some (zwI (Int32.ofNat s_)), some (zwI (Int32.ofNat k_))] [] I_ L_ 0 (zRet none (zset (zset (zpsI m_ k_ I_) 30 43 a_ (Int32.ofNat s_)) 7 0 42 (Int32.ofNat (n_ + 1))) L_)
  | 0, k_, I_, hm_, hk, h42 => by
    have h20 : a_ < zas30 43 := by show a_ < 20; omega
    refine zY.go 2 rfl ?_
    refine zY.bn rfl (by omega) (by omega) (fun _ => ?_) (fun hF => absurd (show k_ ≤ a_ by omega) hF)
    refine zY.go 4 rfl ?_
    refine zY.si rfl rfl h20 ?_
    refine zY.go 6 rfl ?_
    refine zY.rv rfl rfl ⟨rfl, ?_, rfl⟩
    show zset (zset I_ 30 43 a_ (Int32.ofNat s_)) 7 0 42 (zset I_ 30 43 a_ (Int32.ofNat s_) 7 0 42 + 1) = _
    rw [zset_ne (by simp), h42, zisucc]; rfl
  | m_ + 1, k_, I_, hm_, hk, h42 => by
    have h20 : k_ < zas30 43 := by show k_ < 20; omega
    have h19 : k_ - 1 < zas30 43 := by show k_ - 1 < 20; omega
    have e1_ : Int32.ofNat k_ - 1 = Int32.ofNat (k_ - 1) := zisubn (b := 1) (by omega)
    have ih_ := zm147l n_ a_ s_ L_ hn ha_ m_ (k_ - 1) (zset I_ 30 43 k_ (I_ 30 43 (k_ - 1))) (by omega) (by omega) ((zset_ne (by simp)).trans h42)
    rw [← e1_, Int32.sub_eq_add_neg] at ih_
    refine zY.go 2 rfl ?_
    refine zY.bn rfl (by omega) (by omega) (fun hT_ => absurd hT_ (show ¬ k_ ≤ a_ by omega)) (fun _ => ?_)
    refine zY.go 8 rfl ?_
    refine zY.ai rfl e1_ h19 ?_
    refine zY.si rfl rfl h20 ?_
    refine zY.go 2 rfl ?_
    exact ih_
theorem zm147 {I_ : zIn} {L_ : zLi} {n_ a_ s_ : Nat} (hn : n_ ≤ 19) (ha_ : a_ ≤ n_) (h_ : I_ 7 0 42 = Int32.ofNat n_) : zYm 1 147 [zwR 7 0, zwI (Int32.ofNat a_), zwI (Int32.ofNat s_)] I_ L_ 0 (zRet none (zpst I_ n_ a_ s_) L_) := by
  refine zYm.of (Nat.le_of_ble_eq_true rfl) rfl ?_
  refine zY.go 3 rfl ?_
  show zY _ _ _ _ [some (zwR 7 0), some (zwI (Int32.ofNat a_)), some (zwI (Int32.ofNat s_)), some (zwI (I_ 7 0 42))] _ _ _ _ _
  rw [h_]
  exact zm147l n_ a_ s_ L_ hn ha_ (n_ - a_) n_ I_ (by omega) (by omega) h_
/-- takeStop -/
def ztsI : Nat → Nat → zIn → zIn
  | 0, _, I_ => I_
  | m_ + 1, k_, I_ => ztsI m_ (k_ + 1) (zset I_ 30 43 k_ (I_ 30 43 (k_ + 1)))
theorem zm162l (n_ : Nat) (L_ : zLi) (hn : n_ ≤ 19) : ∀ (m_ k_ : Nat) (I_ : zIn), m_ + k_ = n_ → I_ 7 0 42 = Int32.ofNat n_ → ∀ w_, zY none 1 162 12 [some (zwR 7 0), some (zwI w_), some (zwI (Int32.ofNat k_))] [] I_ L_ 0 (zRet none (ztsI m_ k_ I_) L_)
  | 0, k_, I_, hm_, h42, w_ => by
    refine zY.go 3 rfl ?_
    show zY _ _ _ _ _ [zwI (I_ 7 0 42), zwI (Int32.ofNat k_)] _ _ _ _
    rw [h42]
    refine zY.bn rfl (by omega) (by omega) (fun _ => ?_) (fun hF => absurd (show n_ ≤ k_ by omega) hF)
    exact zY.rv rfl rfl ⟨rfl, rfl, rfl⟩
  | m_ + 1, k_, I_, hm_, h42, w_ => by
    have h20 : k_ < zas30 43 := by show k_ < 20; omega
    have h21 : k_ + 1 < zas30 43 := by show k_ + 1 < 20; omega
    have ih_ := zm162l n_ L_ hn m_ (k_ + 1) (zset I_ 30 43 k_ (I_ 30 43 (k_ + 1))) (by omega) ((zset_ne (by simp)).trans h42) w_
    rw [← zisucc] at ih_
    refine zY.go 3 rfl ?_
    show zY _ _ _ _ _ [zwI (I_ 7 0 42), zwI (Int32.ofNat k_)] _ _ _ _
    rw [h42]
    refine zY.bn rfl (by omega) (by omega) (fun hT_ => absurd hT_ (show ¬ n_ ≤ k_ by omega)) (fun _ => ?_)
    refine zY.go 8 rfl ?_
    refine zY.ai rfl (zisucc k_) h21 ?_
    refine zY.si rfl rfl h20 ?_
    refine zY.go 2 rfl ?_
    exact ih_
def ztst (I_ : zIn) (n_ a_ : Nat) : zIn := ztsI (n_ - 1 - a_) a_ (zset I_ 7 0 42 (Int32.ofNat (n_ - 1)))
theorem zm162 {I_ : zIn} {L_ : zLi} {n_ a_ : Nat} (hn : n_ ≤ 20) (ha_ : a_ < n_) (h_ : I_ 7 0 42 = Int32.ofNat n_) : zYm 1 162 [zwR 7 0, zwI (Int32.ofNat a_)] I_ L_ 0 (zRet none (ztst I_ n_ a_) L_) := by
  have e1_ : Int32.ofNat n_ - 1 = Int32.ofNat (n_ - 1) := zisubn (b := 1) (by omega)
  refine zYm.of (Nat.le_of_ble_eq_true rfl) rfl ?_
  refine zY.go 8 rfl ?_
  show zY _ _ _ _ _ _ (zset I_ 7 0 42 (I_ 7 0 42 - 1)) _ _ _
  rw [h_, e1_]
  exact zm162l (n_ - 1) L_ (by omega) (n_ - 1 - a_) a_ _ (by omega) zset_is (Int32.ofNat a_)
