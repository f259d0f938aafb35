/-! THE CALLS: mend -/
theorem zzmqS {C_ D_ : zIn} {L_ : zLi} {p_ N_ M_ q_ v_ d' : Nat} (h_ : zzR C_ L_ D_ p_ N_ M_) (hq : q_ < M_) (h0 : C_ 1 q_ 5 = 0) (hv : v_ < N_) (e8 : C_ 1 q_ 8 = Int32.ofNat v_) (hno : zlef C_ L_ v_ q_ = false) (he : (ztoL (L_ 24 v_) q_).eraseIdx d' = zzwo q_ (L_ 24 v_)) (hd' : d' < (ztoL (L_ 24 v_) q_).length) :
    zPk (ztoF (zmdK D_ v_ (L_ 24 v_)) v_ (L_ 24 v_) q_ d') N_ (fun u_ => zlup L_ 24 v_ (zzwo q_ (L_ 24 v_)) 24 u_) (fun u_ => (zchl C_ (zlup L_ 24 v_ (zzwo q_ (L_ 24 v_)) 26 u_)).length) q_ ∧
    ∀ B_, B_ = zmdM D_ v_ (L_ 24 v_) q_ (zpos (2 * q_) (L_ 24 v_)) (zpos (2 * q_ + 1) (L_ 24 v_)) d' N_ (fun u_ => zlup L_ 24 v_ (zzwo q_ (L_ 24 v_)) 24 u_) (fun u_ => (zchl C_ (zlup L_ 24 v_ (zzwo q_ (L_ 24 v_)) 26 u_)).length) →
      (zmq v_ q_ C_ L_).1 = B_.1 ∧ zzR (zmq v_ q_ C_ L_).2.1 (zmq v_ q_ C_ L_).2.2 B_.2 p_ N_ M_ ∧ zzmk C_ L_ D_ N_ q_ (zmq v_ q_ C_ L_).2.1 (zmq v_ q_ C_ L_).2.2 B_.2 := by
  have hQv := zzQ_of h_ hv
  have t1_ := (h_.2.2.2.1 v_ hv).2.2.1
  have hN4 := h_.1.2.2.2.2.1
  have m12_ : 2 * q_ ∈ L_ 24 v_ ∧ 2 * q_ + 1 ∈ L_ 24 v_ := by
    obtain ⟨v', hv', e8', _, m1_, m2_, _⟩ := zzst0 h_ hq h0
    have hvv : v' = v_ := (zof_eq (by omega) (by omega)).mp (e8'.symm.trans e8)
    exact hvv ▸ ⟨m1_, m2_⟩
  have e6_ : C_ 6 0 8 = D_ 7 0 2 := h_.1.2.2.2.2.2.2.2.2.2.1
  have hZ : ∀ s_ ∈ zzZ C_ L_ N_, s_ ∈ L_ 24 v_ → ¬ C_ 5 v_ 10 = 0 ∧ (L_ 24 v_)[0]? = some s_ := fun s_ hs hm_ => by
    obtain ⟨w_, hw, a_, b_⟩ := zzZ_mem.mp hs
    have hwv := zzdsj h_ hw hv (List.mem_of_getElem? b_) hm_
    subst hwv
    exact ⟨a_, b_⟩
  have hC1 : zzcf (zplS C_ L_ v_ (D_ 7 0 2)) C_ (zzZ C_ L_ N_) := zzplZ t1_ hZ
  have hL1 : ∀ c_ u_, ¬ (c_ = 27 ∧ u_ < N_) → zplL C_ L_ v_ (D_ 7 0 2) c_ u_ = L_ c_ u_ := fun c_ u_ hh => zlup_ne (fun e_ => hh ⟨e_.1, by omega⟩)
  obtain ⟨k1_, k2_⟩ := zzmvS h_ hq h0 hv e8 hno he hd' hC1 hL1
  refine ⟨k1_, fun B_ hB_ => ?_⟩
  have hcd := zzmcd hQv (zzpos_at m12_.1) (zzpos_at m12_.2)
  unfold zmq
  rw [e6_]
  by_cases hw : zwf (zplS C_ L_ v_ (D_ 7 0 2)) q_ (L_ 24 v_) = true
  · rw [if_pos hw]
    refine k2_ B_ ?_
    rw [hB_]
    unfold zmdM
    rw [if_neg (fun e_ => by rw [hcd.mpr e_] at hw; exact absurd hw (by decide))]
  · rw [if_neg hw]
    have hw' : zwf (zplS C_ L_ v_ (D_ 7 0 2)) q_ (L_ 24 v_) = false := by rw [← Bool.not_eq_true]; exact hw
    have hB2 : B_ = (false, zmdK D_ v_ (L_ 24 v_)) := by
      rw [hB_]
      unfold zmdM
      rw [if_pos (hcd.mp hw')]
    rw [hB2]
    have nB_ : ∀ c_ j_ f_, ¬ (c_ = 30 ∧ 43 ≤ j_ ∧ j_ ≤ 46) → ¬ (c_ = 7 ∧ j_ = 0 ∧ 42 ≤ f_ ∧ f_ ≤ 50) → zmdK D_ v_ (L_ 24 v_) c_ j_ f_ = D_ c_ j_ f_ := fun c_ j_ f_ a_ b_ => zmdK_fz c_ j_ f_ a_ b_
    refine ⟨rfl, h_.cg (hC1.n trivial) (fun c_ j_ f_ a1_ a2 a3 => nB_ c_ j_ f_ (by omega) (by omega)) (fun c_ u_ a1_ a2 => hL1 c_ u_ a2), fun c_ j_ f_ hh => hC1.1 c_ j_ f_ ⟨by omega, by omega, by omega, by omega⟩, fun c_ j_ f_ hh => nB_ c_ j_ f_ (by omega) (by omega), nB_ 7 0 0 (by simp) (by simp), fun j_ => nB_ 30 51 j_ (by simp) (by simp), fun j_ => hC1.1 1 j_ 5 ⟨by omega, by omega, by omega, by omega⟩, fun j_ _ => hC1.1 1 j_ 8 ⟨by omega, by omega, by omega, by omega⟩, fun w_ f_ => hC1.1 5 w_ f_ ⟨by omega, by omega, by omega, by omega⟩, fun w_ _ _ => congrArg (fun l => l[0]?) (hL1 24 w_ (by simp))⟩
/-- the requests that mend still looks at -/
def zzml (C_ : zIn) (L_ : zLi) (v_ M_ : Nat) (l : List Nat) : Prop := l.Nodup ∧ ∀ j_ ∈ l, j_ < M_ ∧ C_ 1 j_ 5 = 0 ∧ C_ 1 j_ 8 = Int32.ofNat v_ ∧ zlef C_ L_ v_ j_ = false
theorem zzlefe {C_ C'_ : zIn} {L_ L' : zLi} {v_ q_ : Nat} (h5 : C'_ 5 v_ 10 = C_ 5 v_ 10) (hh : ¬ C_ 5 v_ 10 = 0 → (L' 24 v_)[0]? = (L_ 24 v_)[0]?) : zlef C'_ L' v_ q_ = zlef C_ L_ v_ q_ := by
  unfold zlef
  rw [h5]
  by_cases e_ : C_ 5 v_ 10 = 0
  · rw [decide_eq_false (not_not_intro e_), Bool.false_and, Bool.false_and]
  · have h2 := hh e_
    cases h1 : L_ 24 v_ with
    | nil =>
      rw [h1] at h2
      cases h3 : L' 24 v_ with
      | nil => rfl
      | cons a_ b_ => rw [h3] at h2; simp at h2
    | cons a_ b_ =>
      rw [h1] at h2
      cases h3 : L' 24 v_ with
      | nil => rw [h3] at h2; simp at h2
      | cons c_ d_ => rw [h3] at h2; simp at h2; rw [h2]
theorem zzml_go {C_ C'_ D_ D' : zIn} {L_ L' : zLi} {v_ M_ N_ q_ : Nat} {l : List Nat} (h_ : zzml C_ L_ v_ M_ (q_ :: l)) (hv : v_ < N_) (hk : zzmk C_ L_ D_ N_ q_ C'_ L' D') : zzml C'_ L' v_ M_ l := by
  obtain ⟨k1_, k2_, k3_, k4_, k5_, k6_, k7_, k8_⟩ := hk
  obtain ⟨h1, h2⟩ := h_
  refine ⟨(List.nodup_cons.mp h1).2, fun j_ hj => ?_⟩
  obtain ⟨a_, b_, c_, d_⟩ := h2 j_ (List.mem_cons_of_mem _ hj)
  have hne : ¬ j_ = q_ := fun e_ => (List.nodup_cons.mp h1).1 (e_ ▸ hj)
  exact ⟨a_, by rw [k5_]; exact b_, by rw [k6_ j_ hne]; exact c_, by rw [zzlefe (k7_ v_ 10) (k8_ v_ hv)]; exact d_⟩
theorem zpks_mem {j_ : Nat} : ∀ {l : List Nat}, j_ ∈ zpks l ↔ 2 * j_ ∈ l
  | [] => by unfold zpks; simp
  | s_ :: l => by
    unfold zpks
    by_cases hs : s_ % 2 = 0
    · rw [if_pos hs, List.mem_cons, List.mem_cons, zpks_mem (l := l)]
      constructor
      · rintro (e_ | e_)
        · exact Or.inl (by omega)
        · exact Or.inr e_
      · rintro (e_ | e_)
        · exact Or.inl (by omega)
        · exact Or.inr e_
    · rw [if_neg hs, List.mem_cons, zpks_mem (l := l)]
      exact ⟨Or.inr, fun e_ => e_.resolve_left (by omega)⟩
theorem zpks_nd : ∀ {l : List Nat}, l.Nodup → (zpks l).Nodup
  | [], _ => by unfold zpks; exact List.nodup_nil
  | s_ :: l, h_ => by
    obtain ⟨h1, h2⟩ := List.nodup_cons.mp h_
    unfold zpks
    by_cases hs : s_ % 2 = 0
    · rw [if_pos hs]
      exact List.nodup_cons.mpr ⟨fun hm_ => h1 (by have := zpks_mem.mp hm_; rwa [show 2 * (s_ / 2) = s_ by omega] at this), zpks_nd h2⟩
    · rw [if_neg hs]; exact zpks_nd h2
theorem zzmqco {v_ p_ N_ M_ : Nat} (hv : v_ < N_) : ∀ (l : List Nat) (y_ : Int32) (C_ : zIn) (L_ : zLi), (∃ D_, zzR C_ L_ D_ p_ N_ M_) → zzml C_ L_ v_ M_ l → zzco (zmql v_ l y_ C_ L_).2.1 C_
  | [], _, _, _, _, _ => zzco.rfl
  | q_ :: l, y_, C_, L_, ⟨D_, h_⟩, hm_ => by
    obtain ⟨a_, b_, c_, d_⟩ := hm_.2 q_ List.mem_cons_self
    obtain ⟨d', _, x2_, x3⟩ := zztoX (r_ := q_) (h_.2.2.2.1 v_ hv).2.2.1 (by
      obtain ⟨v', hv', e8', _, m1_, m2_, _⟩ := zzst0 h_ a_ b_
      have hN4 := h_.1.2.2.2.2.1
      have hvv : v' = v_ := (zof_eq (by omega) (by omega)).mp (e8'.symm.trans c_)
      exact hvv ▸ m2_)
    obtain ⟨_, k_⟩ := zzmqS h_ a_ b_ hv c_ d_ x2_ x3
    obtain ⟨k1_, k2_, k3_⟩ := k_ _ rfl
    unfold zmql
    exact (zzmqco hv l _ _ _ ⟨_, k2_⟩ (zzml_go hm_ hv k3_)).trans k3_.1

