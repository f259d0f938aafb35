/-! WHO IS ABOARD: their seats in any order; the law's choice of the next one -/
theorem ztak_perm {C_ : zIn} {l l2 : List Nat} (h_ : l.Perm l2) : ∀ x_ : Int32, ztak C_ l x_ = ztak C_ l2 x_ := by
  induction h_ with
  | nil => intro x_; rfl
  | cons a_ _ ih_ => intro x_; exact ih_ (x_ + zsea C_ a_)
  | swap a_ b_ l =>
    intro x_
    show ztak C_ l (x_ + zsea C_ b_ + zsea C_ a_) = ztak C_ l (x_ + zsea C_ a_ + zsea C_ b_)
    rw [Int32.add_assoc, Int32.add_comm (zsea C_ b_), ← Int32.add_assoc]
  | trans _ _ ih1 ih2 => intro x_; exact (ih1 x_).trans (ih2 x_)
theorem zsq_tak {C_ D_ : zIn} {v_ : Nat} {P_ : Nat → Bool} : ∀ (n_ k_ : Nat) (x_ : Int32), (∀ j_, k_ ≤ j_ → j_ < k_ + n_ → zsqN D_ v_ j_ = if P_ j_ = true then zsea C_ j_ else 0) → zsqL D_ v_ n_ k_ x_ = ztak C_ ((List.range' k_ n_).filter P_) x_
  | 0, k_, x_, _ => rfl
  | n_ + 1, k_, x_, h_ => by
    have h1 := h_ k_ (Nat.le_refl _) (by omega)
    unfold zsqL
    rw [zsq_tak (C_ := C_) (P_ := P_) n_ (k_ + 1) _ (fun j_ a_ b_ => h_ j_ (by omega) (by omega)), h1]
    show _ = ztak C_ ((k_ :: List.range' (k_ + 1) n_).filter P_) x_
    by_cases hp : P_ k_ = true
    · rw [List.filter_cons_of_pos hp, if_pos hp]; rfl
    · rw [List.filter_cons_of_neg hp, if_neg hp, Int32.add_zero]
section
variable {C_ : zIn} {L_ : zLi} {D_ : zIn} {p_ N_ M_ v_ : Nat}
theorem zin26 (h_ : zzR C_ L_ D_ p_ N_ M_) (hv : v_ < N_) {r_ : Nat} (hr : r_ < M_) : r_ ∈ L_ 26 v_ ↔ C_ 1 r_ 5 = 1 ∧ C_ 1 r_ 8 = Int32.ofNat v_ := by
  have hN_ := h_.1.2.2.2.2.1
  constructor
  · intro hm_
    exact ((h_.2.2.2.1 v_ hv).2.2.2.2.2.2.1 r_ hm_).2
  · rintro ⟨h1, h2⟩
    obtain ⟨_, w_, hw, h3, h4, _⟩ := (h_.2.2.2.2.1 r_ hr).2 h1
    have e_ : v_ = w_ := (zof_eq (by omega) (by omega)).mp (h2.symm.trans h3)
    rw [e_]; exact h4
theorem zseats (h_ : zzR C_ L_ D_ p_ N_ M_) (hv : v_ < N_) : zsbd C_ (L_ 25 v_) 0 = D_ 30 23 v_ := by
  have hp16 := h_.1.2.1
  have ht := (h_.2.2.2.1 v_ hv).2.2
  rw [ht.2.2.2.2.2.2.2.2, ← (h_.2.2.2.1 v_ hv).1.2.2.2.2.2.2.1]
  rw [zsq_tak (C_ := C_) (P_ := fun j_ => decide (C_ 1 j_ 5 = 1 ∧ C_ 1 j_ 8 = Int32.ofNat v_)) M_ 0 0 (fun j_ _ hj => ?_)]
  · refine ztak_perm ((List.perm_ext_iff_of_nodup (List.Pairwise.filter _ List.nodup_range') ht.2.1).mpr (fun q_ => ?_)) 0
    rw [List.mem_filter, List.mem_range'_1]
    constructor
    · rintro ⟨⟨_, a_⟩, b_⟩
      exact (zin26 h_ hv (by omega)).mpr (of_decide_eq_true b_)
    · intro hm_
      have hq := ht.2.2.2.2.1 q_ hm_
      exact ⟨⟨Nat.zero_le _, by omega⟩, decide_eq_true hq.2⟩
  · obtain ⟨b1, b2⟩ := h_.2.2.1 j_ (by omega)
    unfold zsqN
    rw [← b2.2.1, ← b2.2.2.2.1, (zzsm b1 hp16 h_.2.1).1]
    by_cases e_ : C_ 1 j_ 5 = 1 ∧ C_ 1 j_ 8 = Int32.ofNat v_
    · rw [if_pos e_, if_pos (decide_eq_true e_)]
    · rw [if_neg e_, if_neg (fun e2_ => e_ (of_decide_eq_true e2_))]
theorem zq67 (h_ : zzR C_ L_ D_ p_ 2 M_) (hv : v_ < 2) : zYm 4 67 [zwR 6 0, zwI (Int32.ofNat v_)] C_ L_ 0 (zRet (some (zwI (D_ 30 23 v_))) C_ L_) := by
  refine (zm67t (zq21 h_ hv)).mono (Nat.le_refl _) (Nat.le_refl _) (fun r_ I' L' hr => ?_)
  obtain ⟨rfl, rfl, rfl⟩ := hr
  exact ⟨by rw [zseats h_ hv], rfl, rfl⟩
/-- those aboard stand in the order in which their picks ended -/
def zxs (C_ : zIn) (L_ : zLi) (v_ : Nat) (t_ : Int32) : Prop := (L_ 26 v_).Pairwise (fun a_ b_ => C_ 1 a_ 11 < C_ 1 b_ 11) ∧ ∀ q_ ∈ L_ 26 v_, 0 ≤ C_ 1 q_ 11 ∧ C_ 1 q_ 11 ≤ t_
def zrid (C_ : zIn) (v_ : Nat) (x_ : Int32) (r_ : Nat) : Bool := decide (C_ 1 r_ 5 = 1) && (decide (C_ 1 r_ 8 = Int32.ofNat v_) && decide (x_ < C_ 1 r_ 11))
def zbef (C_ : zIn) (k_ : Nat) (o : Option Nat) : Bool := match o with
  | none => true
  | some q_ => decide (C_ 1 k_ 11 < C_ 1 q_ 11)
def zsel (C_ : zIn) (v_ : Nat) (x_ : Int32) : Nat → Nat → Option Nat → Option Nat
  | 0, _, o => o
  | n_ + 1, k_, o => zsel C_ v_ x_ n_ (k_ + 1) (if (zrid C_ v_ x_ k_ && zbef C_ k_ o) = true then some k_ else o)
theorem zsel_inv {x_ : Int32} : ∀ (n_ k_ : Nat) (o : Option Nat), ((o = none → ∀ i_, i_ < k_ → zrid C_ v_ x_ i_ = false) ∧ ∀ q_, o = some q_ → zrid C_ v_ x_ q_ = true ∧ ∀ i_, i_ < k_ → zrid C_ v_ x_ i_ = true → C_ 1 q_ 11 ≤ C_ 1 i_ 11) → (zsel C_ v_ x_ n_ k_ o = none → ∀ i_, i_ < k_ + n_ → zrid C_ v_ x_ i_ = false) ∧ ∀ q_, zsel C_ v_ x_ n_ k_ o = some q_ → zrid C_ v_ x_ q_ = true ∧ ∀ i_, i_ < k_ + n_ → zrid C_ v_ x_ i_ = true → C_ 1 q_ 11 ≤ C_ 1 i_ 11
  | 0, k_, o, h_ => h_
  | n_ + 1, k_, o, h_ => by
    unfold zsel
    rw [show k_ + (n_ + 1) = (k_ + 1) + n_ by omega]
    refine zsel_inv n_ (k_ + 1) _ ⟨fun e_ i_ hi_ => ?_, fun q_ e_ => ?_⟩
    · split at e_
      · cases e_
      · rename_i hc_
        rcases Nat.lt_or_ge i_ k_ with hik | hik
        · exact h_.1 e_ i_ hik
        · have : i_ = k_ := by omega
          subst this
          rw [e_] at hc_
          unfold zbef at hc_
          simpa using hc_
    · split at e_
      · rename_i hc_
        cases e_
        rw [Bool.and_eq_true] at hc_
        refine ⟨hc_.1, fun i_ hi_ hr => ?_⟩
        rcases Nat.lt_or_ge i_ k_ with hik | hik
        · cases ho : o with
          | none => rw [h_.1 ho i_ hik] at hr; cases hr
          | some q2_ =>
            have h2 := hc_.2
            rw [ho] at h2
            unfold zbef at h2
            exact Int32.le_trans (Int32.le_of_lt (of_decide_eq_true h2)) ((h_.2 q2_ ho).2 i_ hik hr)
        · have : i_ = k_ := by omega
          subst this
          exact Int32.le_refl _
      · rename_i hc_
        obtain ⟨a_, b_⟩ := h_.2 q_ e_
        refine ⟨a_, fun i_ hi_ hr => ?_⟩
        rcases Nat.lt_or_ge i_ k_ with hik | hik
        · exact b_ i_ hik hr
        · have : i_ = k_ := by omega
          subst this
          rw [e_, hr] at hc_
          unfold zbef at hc_
          simpa using hc_
theorem zsel_lt {x_ : Int32} : ∀ (n_ k_ : Nat) (o : Option Nat), (∀ q_, o = some q_ → q_ < k_) → ∀ q_, zsel C_ v_ x_ n_ k_ o = some q_ → q_ < k_ + n_
  | 0, k_, o, h_, q_, e_ => h_ q_ e_
  | n_ + 1, k_, o, h_, q_, e_ => by
    unfold zsel at e_
    rw [show k_ + (n_ + 1) = (k_ + 1) + n_ by omega]
    refine zsel_lt n_ (k_ + 1) _ (fun q_ e_ => ?_) q_ e_
    split at e_
    · cases e_; omega
    · have := h_ q_ e_; omega
theorem zsel_ok {x_ t_ : Int32} {j_ : Nat} (h_ : zzR C_ L_ D_ p_ N_ M_) (hv : v_ < N_) (hs : zxs C_ L_ v_ t_) (h1 : ∀ q_ ∈ (L_ 26 v_).take j_, C_ 1 q_ 11 ≤ x_) (h2 : ∀ q_ ∈ (L_ 26 v_).drop j_, x_ < C_ 1 q_ 11) : zsel C_ v_ x_ M_ 0 none = ((L_ 26 v_).drop j_).head? := by
  have hr : ∀ r_, r_ < M_ → (zrid C_ v_ x_ r_ = true ↔ r_ ∈ (L_ 26 v_).drop j_) := by
    intro r_ hrM
    unfold zrid
    rw [Bool.and_eq_true, Bool.and_eq_true, decide_eq_true_iff, decide_eq_true_iff, decide_eq_true_iff, ← and_assoc, ← zin26 h_ hv hrM]
    constructor
    · rintro ⟨a_, b_⟩
      rw [← List.take_append_drop j_ (L_ 26 v_), List.mem_append] at a_
      rcases a_ with a_ | a_
      · exact absurd b_ (Int32.not_lt.mpr (h1 r_ a_))
      · exact a_
    · intro a_
      exact ⟨List.mem_of_mem_drop a_, h2 r_ a_⟩
  have hM_ : ∀ r_ ∈ (L_ 26 v_).drop j_, r_ < M_ := fun r_ hm_ => ((h_.2.2.2.1 v_ hv).2.2.2.2.2.2.1 r_ (List.mem_of_mem_drop hm_)).1
  obtain ⟨i1_, i2_⟩ := zsel_inv (C_ := C_) (v_ := v_) (x_ := x_) M_ 0 none ⟨fun _ i_ hi_ => by omega, fun q_ e_ => by cases e_⟩
  rw [Nat.zero_add] at i1_ i2_
  have hp : ((L_ 26 v_).drop j_).Pairwise (fun a_ b_ => C_ 1 a_ 11 < C_ 1 b_ 11) := hs.1.sublist (List.drop_sublist _ _)
  cases hT_ : (L_ 26 v_).drop j_ with
  | nil =>
    cases ho : zsel C_ v_ x_ M_ 0 none with
    | none => rfl
    | some q_ =>
      exfalso
      have hq := (i2_ q_ ho).1
      have hqM := zsel_lt (C_ := C_) (v_ := v_) (x_ := x_) M_ 0 none (fun q_ e_ => by cases e_) q_ ho
      rw [Nat.zero_add] at hqM
      have := (hr q_ hqM).mp hq
      rw [hT_] at this
      cases this
  | cons a_ l =>
    rw [hT_] at hp hr hM_
    have ha_ := hM_ a_ List.mem_cons_self
    have hra := (hr a_ ha_).mpr List.mem_cons_self
    cases ho : zsel C_ v_ x_ M_ 0 none with
    | none => rw [i1_ ho a_ ha_] at hra; cases hra
    | some q_ =>
      obtain ⟨q1_, q2_⟩ := i2_ q_ ho
      have hqM := zsel_lt (C_ := C_) (v_ := v_) (x_ := x_) M_ 0 none (fun q_ e_ => by cases e_) q_ ho
      have hm_ := (hr q_ (by omega)).mp q1_
      rcases List.mem_cons.mp hm_ with e_ | e_
      · rw [e_]; rfl
      · have := (List.pairwise_cons.mp hp).1 q_ e_
        exact absurd this (Int32.not_lt.mpr (q2_ a_ ha_ hra))
end
