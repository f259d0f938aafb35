/-! MATHEMATICS: the search of the class and of the model, step by step alike -/
/-- all that a search for a request r rests on: C0 the class's numbers, D the model's, L0 the lists, Z the stops for which a vehicle has left -/
def zzW (C0_ D_ : zIn) (L0_ : zLi) (N_ r_ : Nat) (x_ : Int32) (Z_ : List Nat) : Prop :=
  N_ ≤ 4 ∧ (∀ v_, v_ < N_ → zzH C0_ D_ v_ (L0_ 26 v_) x_) ∧ (∀ v_, v_ < N_ → ∀ s_ ∈ L0_ 24 v_, zzcs C0_ D_ s_) ∧
  (∀ v_, v_ < N_ → (L0_ 24 v_).length ≤ 14 → ∀ i_ d_, zlkF D_ v_ ≤ i_ → i_ ≤ (L0_ 24 v_).length → i_ < d_ → d_ ≤ (L0_ 24 v_).length + 1 → zzG C0_ D_ v_ (L0_ 26 v_) (zlkL (L0_ 24 v_) r_ i_ d_)) ∧
  (∀ v_, v_ < N_ → (C0_ 5 v_ 9 = 0 ↔ D_ 31 16 v_ = 0) ∧ C0_ 5 v_ 4 = D_ 30 15 v_) ∧
  (C0_ 2 (C0_ 1 r_ 0).toNatClampNeg 0 = zmkd D_ r_ ∧ C0_ 2 (C0_ 1 r_ 0).toNatClampNeg 1 = D_ 30 8 (zmrd D_ r_)) ∧
  (∀ v_, v_ < N_ → ¬ C0_ 5 v_ 10 = 0 → ¬ L0_ 24 v_ = [] ∧ ∀ s_, (L0_ 24 v_)[0]? = some s_ → s_ ∈ Z_) ∧
  (∀ s_ ∈ Z_, ¬ s_ / 2 = r_ ∧ ∀ v_, v_ < N_ → s_ ∈ L0_ 24 v_ → ¬ C0_ 5 v_ 10 = 0 ∧ (L0_ 24 v_)[0]? = some s_)
/-- the best so far, in both -/
def zzbs (C_ K_ C0_ D_ : zIn) (L0_ : zLi) (N_ r_ : Nat) : Prop := (C_ 3 0 0 = 0 ∧ K_ 7 0 48 = -1) ∨ ∃ b_ p_ d_, b_ < N_ ∧ C_ 3 0 0 = Int32.ofNat (b_ + 1) ∧ K_ 7 0 48 = Int32.ofNat b_ ∧ C_ 3 0 1 = K_ 7 0 47 ∧ C_ 3 0 2 = Int32.ofNat p_ ∧ K_ 7 0 49 = Int32.ofNat p_ ∧ C_ 3 0 3 = Int32.ofNat d_ ∧ K_ 7 0 50 = Int32.ofNat d_ ∧ zlkF D_ b_ ≤ p_ ∧ p_ ≤ (L0_ 24 b_).length ∧ p_ < d_ ∧ d_ ≤ (L0_ 24 b_).length + 1 ∧ (L0_ 24 b_).length ≤ 14 ∧ zlkC D_ b_ r_ = true ∧ zzrt D_ b_ (zlkL (L0_ 24 b_) r_ p_ d_) (zchl C0_ (L0_ 26 b_)) = true
theorem zzbs.of {C_ K_ C'_ K' C0_ D_ : zIn} {L0_ : zLi} {N_ r_ : Nat} (h_ : zzbs C_ K_ C0_ D_ L0_ N_ r_) (h3 : ∀ f_, C'_ 3 0 f_ = C_ 3 0 f_) (h7 : ∀ f_, ¬ f_ = 42 → K' 7 0 f_ = K_ 7 0 f_) : zzbs C'_ K' C0_ D_ L0_ N_ r_ := by
  unfold zzbs at h_ ⊢
  rw [h3, h3, h3, h3, h7 48 (by decide), h7 47 (by decide), h7 49 (by decide), h7 50 (by decide)]
  exact h_
theorem zlkT_7 {I_ : zIn} {v_ r_ p_ d_ f_ : Nat} {l : List Nat} (h_ : ¬ f_ = 42) : zlkT I_ v_ l r_ p_ d_ 7 0 f_ = I_ 7 0 f_ := by
  unfold zlkT
  rw [zpst_ne (by simp) (by simp [h_]), zpst_ne (by simp) (by simp [h_]), ztry_ne (by simp) (by simp [h_])]
theorem zfx.a7 {J_ I_ : zIn} (h_ : zfx J_ I_) (f_ : Nat) : J_ 7 0 f_ = I_ 7 0 f_ := h_ 7 0 f_ (fun e_ => absurd e_.1 (by decide))
theorem zzlkL0 {l : List Nat} {r_ p_ d_ : Nat} (hp : 1 ≤ p_) (hd_ : 1 ≤ d_) (hl : ¬ l = []) : (zlkL l r_ p_ d_)[0]? = l[0]? := by
  obtain ⟨p_, rfl⟩ : ∃ q_, p_ = q_ + 1 := ⟨p_ - 1, by omega⟩
  obtain ⟨d_, rfl⟩ : ∃ q_, d_ = q_ + 1 := ⟨d_ - 1, by omega⟩
  cases l with
  | nil => exact absurd rfl hl
  | cons a_ b_ => rfl
theorem zzlkL_in {l : List Nat} {r_ p_ d_ s_ : Nat} (hp : p_ ≤ l.length) (hd_ : d_ ≤ l.length + 1) (hs : s_ ∈ l) : s_ ∈ zlkL l r_ p_ d_ := by
  unfold zlkL
  have h1 : (l.insertIdx p_ (2 * r_)).length = l.length + 1 := List.length_insertIdx_of_le_length hp _
  exact (List.mem_insertIdx (by omega)).mpr (Or.inr ((List.mem_insertIdx hp).mpr (Or.inr hs)))
theorem zzkp {C_ : zIn} {v_ i_ j_ : Nat} {g_ : Int32} : zkp C_ v_ g_ i_ j_ 3 0 0 = Int32.ofNat (v_ + 1) ∧ zkp C_ v_ g_ i_ j_ 3 0 1 = g_ ∧ zkp C_ v_ g_ i_ j_ 3 0 2 = Int32.ofNat i_ ∧ zkp C_ v_ g_ i_ j_ 3 0 3 = Int32.ofNat j_ := by
  unfold zkp
  refine ⟨by simp [zset], by simp [zset], by simp [zset], by simp [zset]⟩
theorem zzkB {C_ : zIn} {v_ i_ j_ : Nat} {g_ : Int32} : zlkB C_ g_ v_ i_ j_ 7 0 48 = Int32.ofNat v_ ∧ zlkB C_ g_ v_ i_ j_ 7 0 47 = g_ ∧ zlkB C_ g_ v_ i_ j_ 7 0 49 = Int32.ofNat i_ ∧ zlkB C_ g_ v_ i_ j_ 7 0 50 = Int32.ofNat j_ := by
  unfold zlkB
  refine ⟨by simp [zset], by simp [zset], by simp [zset], by simp [zset]⟩
theorem zzm1 {b_ : Nat} (hb_ : b_ < 1000) : ¬ Int32.ofNat b_ = -1 := by
  intro e_
  have h_ := zige (a := b_) (by omega)
  rw [e_] at h_
  exact absurd h_ (by decide)
theorem zzbs.eq {C_ K_ C0_ D_ : zIn} {L0_ : zLi} {N_ r_ : Nat} (h_ : zzbs C_ K_ C0_ D_ L0_ N_ r_) (hN_ : N_ ≤ 4) {g_ : Int32} : (C_ 3 0 0 = 0 ∨ g_ < C_ 3 0 1) ↔ (K_ 7 0 48 = -1 ∨ g_ < K_ 7 0 47) := by
  rcases h_ with ⟨h1, h2⟩ | ⟨b_, p_, d_, hb_, h1, h2, h3, _⟩
  · exact ⟨fun _ => Or.inl h2, fun _ => Or.inl h1⟩
  · have n1_ : ¬ C_ 3 0 0 = 0 := by
      rw [h1]; exact fun e_ => absurd ((zof_0 (by omega)).mp e_) (by omega)
    have n2_ : ¬ K_ 7 0 48 = -1 := by rw [h2]; exact zzm1 (by omega)
    rw [h3]
    exact ⟨fun e_ => Or.inr (e_.resolve_left n1_), fun e_ => Or.inr (e_.resolve_left n2_)⟩
theorem zzN1 {C0_ D_ : zIn} {L0_ : zLi} {N_ r_ v_ i_ : Nat} {x_ w_ : Int32} {Z_ : List Nat} (hW : zzW C0_ D_ L0_ N_ r_ x_ Z_) (hv : v_ < N_) (h14 : (L0_ 24 v_).length ≤ 14) (hC : zlkC D_ v_ r_ = true) (hf : zlkF D_ v_ ≤ i_) (hi_ : i_ ≤ (L0_ 24 v_).length) : ∀ (n_ d_ : Nat) (C_ : zIn) (L_ : zLi) (K_ : zIn), n_ + d_ = (L0_ 24 v_).length + 2 → i_ < d_ → zzcf C_ C0_ Z_ → zzg K_ D_ → zzbs C_ K_ C0_ D_ L0_ N_ r_ → L_ 24 v_ = zins i_ (2 * r_) (L0_ 24 v_) → L_ 26 v_ = L0_ 26 v_ → zzcf (zin1 v_ (2 * r_ + 1) x_ w_ (zins i_ (2 * r_) (L0_ 24 v_)) i_ n_ d_ C_ L_).1 C0_ Z_ ∧ zzg (zlkD v_ (L0_ 24 v_) r_ (zchl C0_ (L0_ 26 v_)).length w_ i_ n_ d_ K_) D_ ∧ zzbs (zin1 v_ (2 * r_ + 1) x_ w_ (zins i_ (2 * r_) (L0_ 24 v_)) i_ n_ d_ C_ L_).1 (zlkD v_ (L0_ 24 v_) r_ (zchl C0_ (L0_ 26 v_)).length w_ i_ n_ d_ K_) C0_ D_ L0_ N_ r_
  | 0, d_, C_, L_, K_, hd_, hid_, hc_, hk, hb_, h24, h26 => ⟨hc_, hk, hb_⟩
  | n_ + 1, d_, C_, L_, K_, hd_, hid_, hc_, hk, hb_, h24, h26 => by
    obtain ⟨w1_, w2_, w3_, w4_, w5, w6_, w7_, w8⟩ := hW
    have hd1 : d_ ≤ (L0_ 24 v_).length + 1 := by omega
    have hG0 := w4_ v_ hv h14 i_ d_ hf hi_ hid_ hd1
    have hH0 := w2_ v_ hv
    have hz : zins d_ (2 * r_ + 1) (zins i_ (2 * r_) (L0_ 24 v_)) = zlkL (L0_ 24 v_) r_ i_ d_ := by
      unfold zlkL
      rw [zzins i_ _ hi_, zzins d_ _ (by rw [List.length_insertIdx_of_le_length hi_]; exact hd1)]
    have hZ0 : ¬ C0_ 5 v_ 10 = 0 → ∀ s_, (zlkL (L0_ 24 v_) r_ i_ d_)[0]? = some s_ → s_ ∈ Z_ := by
      intro hne s_ hs
      have hf1 : zlkF D_ v_ = 1 := if_neg (fun e_ => hne (hH0.1.2.2.2.2.2.1.mpr e_))
      rw [zzlkL0 (by omega) (by omega) (w7_ v_ hv hne).1] at hs
      exact (w7_ v_ hv hne).2 s_ hs
    have hZ1 : ∀ s_ ∈ Z_, s_ ∈ zlkL (L0_ 24 v_) r_ i_ d_ → ¬ C0_ 5 v_ 10 = 0 ∧ (zlkL (L0_ 24 v_) r_ i_ d_)[0]? = some s_ := by
      intro s_ hs hsl
      have hsl2 : s_ ∈ L0_ 24 v_ := by
        rcases zlkL_mem hi_ hd1 hsl with e_ | e_
        · exact absurd e_ (w8 s_ hs).1
        · exact e_
      obtain ⟨e1_, e2_⟩ := (w8 s_ hs).2 v_ hv hsl2
      have hf1 : zlkF D_ v_ = 1 := if_neg (fun e_ => e1_ (hH0.1.2.2.2.2.2.1.mpr e_))
      refine ⟨e1_, ?_⟩
      rw [zzlkL0 (by omega) (by omega) (w7_ v_ hv e1_).1]
      exact e2_
    have hG := hc_.G hG0 hZ0
    have hH := hc_.H hH0
    have hTz : zzg (zlkT K_ v_ (L0_ 24 v_) r_ i_ d_) D_ := (zlkT_fz.zg).trans hk
    have hgr : zgw C_ v_ (2 * r_ + 1) d_ w_ (zins i_ (2 * r_) (L0_ 24 v_)) = zlkG (zlkT K_ v_ (L0_ 24 v_) r_ i_ d_) v_ (zlkL (L0_ 24 v_) r_ i_ d_) - w_ := by
      unfold zgw zlkG
      rw [hz]
      have e1_ : zdm (zlkT K_ v_ (L0_ 24 v_) r_ i_ d_) (zlkL (L0_ 24 v_) r_ i_ d_) (zlkT K_ v_ (L0_ 24 v_) r_ i_ d_ 30 17 v_) (zlkT K_ v_ (L0_ 24 v_) r_ i_ d_ 30 12 v_) = zdm D_ (zlkL (L0_ 24 v_) r_ i_ d_) (D_ 30 17 v_) (D_ 30 12 v_) := by
        rw [hTz.at v_ (i_ := 17) (by decide), hTz.at v_ (i_ := 12) (by decide)]
        unfold zdm
        have : ∀ (l : List Nat) (p_ w_ : Int32), zkm (zlkT K_ v_ (L0_ 24 v_) r_ i_ d_) l p_ w_ = zkm D_ l p_ w_ := by
          intro l
          induction l with
          | nil => intro p_ w_; rfl
          | cons s_ l ih_ =>
            intro p_ w_
            unfold zkm
            rw [hTz.pl, ih_]
        rw [this]
      rw [e1_, hH.1.2.2.2.1, hH.1.1, zzdr (fun s_ hs => (hG.2.2.1 s_ hs).2) hH0.1.2.2.2.2.2.2.1 hH0.1.2.2.2.2.2.2.2]
    have hz24 : zlup L_ 24 v_ (zins d_ (2 * r_ + 1) (zins i_ (2 * r_) (L0_ 24 v_))) 24 v_ = zlkL (L0_ 24 v_) r_ i_ d_ := by rw [zlup_self, hz]
    have hz26 : zlup L_ 24 v_ (zins d_ (2 * r_ + 1) (zins i_ (2 * r_) (L0_ 24 v_))) 26 v_ = L0_ 26 v_ := by rw [zlup_ne (by simp)]; exact h26
    have hchl : zchl C_ (L0_ 26 v_) = zchl C0_ (L0_ 26 v_) := zzfchl (fun q_ => hc_.chr q_) _
    have hRR := zzRR hz24 hz26 hH hG hTz (m_ := (zchl C0_ (L0_ 26 v_)).length) (by rw [hchl])
    unfold zin1 zlkD
    by_cases hcd : C_ 3 0 0 = 0 ∨ zgw C_ v_ (2 * r_ + 1) d_ w_ (zins i_ (2 * r_) (L0_ 24 v_)) < C_ 3 0 1
    · have hcd2 : K_ 7 0 48 = -1 ∨ zlkG (zlkT K_ v_ (L0_ 24 v_) r_ i_ d_) v_ (zlkL (L0_ 24 v_) r_ i_ d_) - w_ < K_ 7 0 47 := by
        rw [← hgr]; exact (hb_.eq w1_).mp hcd
      have hcf1 : zzcf (zirt C_ (zlup L_ 24 v_ (zins d_ (2 * r_ + 1) (zins i_ (2 * r_) (L0_ 24 v_)))) v_ x_).2.1 C_ Z_ := zzirt (by rw [hz24]; exact hG0.1) (fun s_ hs hsl => by
        rw [hz24] at hsl ⊢
        rw [hc_.a5]
        exact hZ1 s_ hs hsl)
      have hfx := zmrT_fx (I_ := zlkT K_ v_ (L0_ 24 v_) r_ i_ d_) (v_ := v_) (m_ := (zchl C0_ (L0_ 26 v_)).length) (l := zlkL (L0_ 24 v_) r_ i_ d_)
      have hL24 : zlup (zirt C_ (zlup L_ 24 v_ (zins d_ (2 * r_ + 1) (zins i_ (2 * r_) (L0_ 24 v_)))) v_ x_).2.2 24 v_ (zins i_ (2 * r_) (L0_ 24 v_)) 24 v_ = zins i_ (2 * r_) (L0_ 24 v_) := zlup_self
      have hL26 : zlup (zirt C_ (zlup L_ 24 v_ (zins d_ (2 * r_ + 1) (zins i_ (2 * r_) (L0_ 24 v_)))) v_ x_).2.2 24 v_ (zins i_ (2 * r_) (L0_ 24 v_)) 26 v_ = L0_ 26 v_ := by
        rw [zlup_ne (by simp), zirt_ne (by simp)]; exact hz26
      rw [if_pos hcd]
      unfold zlk1
      rw [if_pos hcd2, ← hRR]
      cases hbv : (zirt C_ (zlup L_ 24 v_ (zins d_ (2 * r_ + 1) (zins i_ (2 * r_) (L0_ 24 v_)))) v_ x_).1 with
      | true =>
        rw [if_pos rfl, if_pos rfl]
        have hrt := zzcR hz24 hz26 hH hG
        rw [hbv, hchl] at hrt
        refine zzN1 ⟨w1_, w2_, w3_, w4_, w5, w6_, w7_, w8⟩ hv h14 hC hf hi_ n_ (d_ + 1) _ _ _ (by omega) (by omega) ?_ ?_ ?_ hL24 hL26
        · unfold zkp
          exact ((((hcf1.set3).set3).set3).set3).trans hc_
        · refine zzg.trans ?_ ((hfx.zg).trans hTz)
          unfold zlkB
          exact (((((zfz.rfl).set (by decide) (by decide)).set (by decide) (by decide)).set (by decide) (by decide)).set (by decide) (by decide)).zg
        · obtain ⟨k0_, k1_, k2_, k3_⟩ := zzkp (C_ := (zirt C_ (zlup L_ 24 v_ (zins d_ (2 * r_ + 1) (zins i_ (2 * r_) (L0_ 24 v_)))) v_ x_).2.1) (v_ := v_) (i_ := i_) (j_ := d_) (g_ := zgw C_ v_ (2 * r_ + 1) d_ w_ (zins i_ (2 * r_) (L0_ 24 v_)))
          obtain ⟨b0, b1, b2, b3⟩ := zzkB (C_ := (zmrT (zlkT K_ v_ (L0_ 24 v_) r_ i_ d_) v_ (zlkL (L0_ 24 v_) r_ i_ d_) (zchl C0_ (L0_ 26 v_)).length).2) (v_ := v_) (i_ := i_) (j_ := d_) (g_ := zlkG (zlkT K_ v_ (L0_ 24 v_) r_ i_ d_) v_ (zlkL (L0_ 24 v_) r_ i_ d_) - w_)
          exact Or.inr ⟨v_, i_, d_, hv, k0_, b0, by rw [k1_, b1, hgr], k2_, b2, k3_, b3, hf, hi_, hid_, hd1, h14, hC, hrt.symm⟩
      | false =>
        rw [if_neg (by simp), if_neg (by simp)]
        refine zzN1 ⟨w1_, w2_, w3_, w4_, w5, w6_, w7_, w8⟩ hv h14 hC hf hi_ n_ (d_ + 1) _ _ _ (by omega) (by omega) (hcf1.trans hc_) ((hfx.zg).trans hTz) ?_ hL24 hL26
        refine hb_.of (fun f_ => zirt_fr zfr3) (fun f_ hf => ?_)
        rw [hfx.a7, zlkT_7 hf]
    · have hcd2 : ¬ (K_ 7 0 48 = -1 ∨ zlkG (zlkT K_ v_ (L0_ 24 v_) r_ i_ d_) v_ (zlkL (L0_ 24 v_) r_ i_ d_) - w_ < K_ 7 0 47) := by
        rw [← hgr]; exact fun e_ => hcd ((hb_.eq w1_).mpr e_)
      rw [if_neg hcd]
      unfold zlk1
      rw [if_neg hcd2]
      exact zzN1 ⟨w1_, w2_, w3_, w4_, w5, w6_, w7_, w8⟩ hv h14 hC hf hi_ n_ (d_ + 1) _ _ _ (by omega) (by omega) hc_ hTz (hb_.of (fun _ => rfl) (fun f_ hf => zlkT_7 hf)) h24 h26

