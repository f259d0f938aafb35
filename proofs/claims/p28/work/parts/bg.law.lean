/-! THE LAW'S STATE between two calls -/
def zFx (I_ I' : zIn) (M_ : Nat) : Prop := (∀ c_ i_ f_, (c_ = 2 ∨ c_ = 30 ∨ c_ = 31 ∨ (c_ = 5 ∧ f_ ≤ 4) ∨ (c_ = 6 ∧ f_ = 6) ∨ (c_ = 99 ∧ i_ = 30)) → I' c_ i_ f_ = I_ c_ i_ f_) ∧ ∀ r_ f_, r_ < M_ → f_ ≤ 3 → I' 1 r_ f_ = I_ 1 r_ f_
def zBt (I_ : zIn) (bus : Nat) : Prop := ∀ k_, k_ < 36 → (I_ 31 0 k_ = 0 ↔ ¬ k_ = bus)
def zJ (I_ : zIn) (L_ : zLi) (M_ t_ : Nat) : Prop := (∃ D_, zzR I_ L_ D_ 6 2 M_ ∧ D_ 7 0 2 = Int32.ofNat t_) ∧ (∀ v_, v_ < 2 → zxs I_ L_ v_ (Int32.ofNat t_)) ∧ zrB I_ M_ ∧ t_ ≤ 600
def zLw (I_ : zIn) (L_ : zLi) (M_ t_ y_ bus j_ : Nat) : Prop := zJ I_ L_ M_ t_ ∧ zTie I_ M_ ∧ zBt I_ bus ∧ I_ 6 0 6 = 0 ∧ I_ 6 0 7 = Int32.ofNat y_ ∧ ∀ i_, 100 + 2 * j_ ≤ i_ → ¬ I_ 99 30 i_ = 1
theorem zFx.rfl {I_ : zIn} {M_ : Nat} : zFx I_ I_ M_ := ⟨fun _ _ _ _ => Eq.refl _, fun _ _ _ _ => Eq.refl _⟩
theorem zFx.trans {I_ I1 I2_ : zIn} {M_ : Nat} (h1 : zFx I_ I1 M_) (h2 : zFx I1 I2_ M_) : zFx I_ I2_ M_ := ⟨fun c_ i_ f_ h_ => (h2.1 c_ i_ f_ h_).trans (h1.1 c_ i_ f_ h_), fun r_ f_ h_ g_ => (h2.2 r_ f_ h_ g_).trans (h1.2 r_ f_ h_ g_)⟩
theorem zFx.k {I_ I' : zIn} {M_ : Nat} (h_ : ∀ c_ i_ f_, zxk c_ i_ f_ → ¬ (c_ = 6 ∧ f_ = 7) → ¬ (c_ = 1 ∧ f_ = 14) → ¬ (c_ = 5 ∧ f_ = 9) → I' c_ i_ f_ = I_ c_ i_ f_) : zFx I_ I' M_ := ⟨fun c_ i_ f_ hc_ => h_ c_ i_ f_ ⟨by omega, by omega, by omega, by omega, by omega, by omega⟩ (by omega) (by omega) (by omega), fun r_ f_ _ hf => h_ 1 r_ f_ ⟨by omega, by omega, by omega, by omega, by omega, by omega⟩ (by omega) (by omega) (by omega)⟩
section
variable {I_ I' : zIn} {L_ L' : zLi} {M_ t_ t' y_ y' bus j_ v_ : Nat} {s_ : Int32}
theorem zTie.fx (hT_ : zTie I_ M_) (h_ : zFx I_ I' M_) : zTie I' M_ := by
  refine ⟨fun r_ hr => ?_, fun i_ hi_ => ?_, fun w_ hw => ?_⟩
  · rw [h_.1 30 63 r_ (by omega), h_.1 30 64 r_ (by omega), h_.1 30 65 r_ (by omega), h_.2 r_ 0 hr (by omega), h_.2 r_ 1 hr (by omega), h_.2 r_ 2 hr (by omega)]
    exact hT_.1 r_ hr
  · rw [h_.1 30 60 i_ (by omega), h_.1 30 61 i_ (by omega), h_.1 30 62 i_ (by omega), h_.1 2 i_ 0 (by omega), h_.1 2 i_ 3 (by omega), h_.1 2 i_ 2 (by omega)]
    exact hT_.2.1 i_ hi_
  · rw [h_.1 30 66 _ (by omega), h_.1 30 66 _ (by omega), h_.1 30 66 _ (by omega), h_.1 5 w_ 1 (by omega), h_.1 5 w_ 2 (by omega), h_.1 5 w_ 3 (by omega)]
    exact hT_.2.2 w_ hw
theorem zLw.fx (h_ : zLw I_ L_ M_ t_ y_ bus j_) (hF : zFx I_ I' M_) (hy : I' 6 0 7 = Int32.ofNat y') (hJ : zJ I' L' M_ t') : zLw I' L' M_ t' y' bus j_ :=
  ⟨hJ, h_.2.1.fx hF, fun k_ hk => by rw [hF.1 31 0 k_ (by omega)]; exact h_.2.2.1 k_ hk, (hF.1 6 0 6 (by omega)).trans h_.2.2.2.1, hy, fun i_ hi_ => by rw [hF.1 99 30 i_ (by omega)]; exact h_.2.2.2.2.2 i_ hi_⟩
theorem zxs.cg (h_ : zxs I_ L_ v_ s_) (h26 : L' 26 v_ = L_ 26 v_) (h1 : ∀ q_ ∈ L_ 26 v_, I' 1 q_ 11 = I_ 1 q_ 11) : zxs I' L' v_ s_ := by
  refine ⟨?_, fun q_ hq => ?_⟩
  · rw [h26]
    exact h_.1.imp_of_mem (fun {a_ b_} ha_ hb_ hab => by rw [h1 a_ ha_, h1 b_ hb_]; exact hab)
  · rw [h26] at hq
    rw [h1 q_ hq]
    exact h_.2 q_ hq
theorem zJ.now (h_ : zJ I_ L_ M_ t_) : I_ 6 0 8 = Int32.ofNat t_ ∧ t_ ≤ 600 := by
  obtain ⟨⟨D_, hR, et⟩, _, _, h6⟩ := h_
  exact ⟨(zqnow hR).trans et, h6⟩
theorem zJ.min (h_ : zJ I_ L_ M_ t_) (ht : t_ < 600) : zJ (zpm I_ L_).1 (zpm I_ L_).2 M_ (t_ + 1) := by
  obtain ⟨⟨D_, hR, et⟩, hx, hr, h6⟩ := h_
  obtain ⟨D', h1, h2, h3⟩ := zzMinP hR ht et
  refine ⟨⟨D', h1, h3⟩, ?_⟩
  have e21_ : L_ 21 0 = List.range 2 := hR.1.2.2.2.1
  have en : I_ 6 0 8 = Int32.ofNat t_ := (zqnow hR).trans et
  have eq_ : zpm I_ L_ = zpmv 1 (zpmv 0 (zset I_ 6 0 8 (I_ 6 0 8 + 1)) L_).1 (zpmv 0 (zset I_ 6 0 8 (I_ 6 0 8 + 1)) L_).2 := by unfold zpm; rw [e21_]; rfl
  have eqi : (zpm I_ L_).1 = (zpmv 1 (zpmv 0 (zset I_ 6 0 8 (I_ 6 0 8 + 1)) L_).1 (zpmv 0 (zset I_ 6 0 8 (I_ 6 0 8 + 1)) L_).2).1 := by rw [eq_]
  have R1 := zzTk hR ht et
  have hx1 : ∀ v_, v_ < 2 → zxs (zset I_ 6 0 8 (I_ 6 0 8 + 1)) L_ v_ (Int32.ofNat t_) := fun v_ hv => (hx v_ hv).cg rfl (fun q_ _ => zset_ne (by omega))
  have hr1 : zrB (zset I_ 6 0 8 (I_ 6 0 8 + 1)) M_ := fun r_ h_ => by rw [zset_ne (by omega), zset_ne (by omega)]; exact hr r_ h_
  have e1_ : zset I_ 6 0 8 (I_ 6 0 8 + 1) 6 0 8 = Int32.ofNat (t_ + 1) := by rw [zset_is, en, zisucc]
  generalize zset I_ 6 0 8 (I_ 6 0 8 + 1) = I1 at *
  generalize zset D_ 7 0 2 (D_ 7 0 2 + 1) = D1 at *
  obtain ⟨D2, R2, _⟩ := zzmiE (zzVh R1 (show 0 < 2 by omega))
  have hlt : Int32.ofNat t_ < Int32.ofNat (t_ + 1) := (zilt (by omega) (by omega)).mpr (by omega)
  have h0 : 0 ≤ Int32.ofNat (t_ + 1) := zige (by omega)
  have it : (Int32.ofNat (t_ + 1)).toInt = ((t_ + 1 : Nat) : Int) := Int32.toInt_ofNat_of_lt (by omega)
  have x0_ := zpmv_x R1 (show 0 < 2 by omega) _ (hx1 0 (by omega)) (by rw [e1_]; exact hlt) (by rw [e1_]; exact h0)
  have x1_ := zpmv_o R1 (show 0 < 2 by omega) (show 1 < 2 by omega) (by omega) _ (hx1 1 (by omega))
  have r2 := zpmv_b (v_ := 0) (L_ := L_) (by rw [e1_, it]; omega) (by rw [e1_, it]; omega) hr1
  have e2_ : (zpmv 0 I1 L_).1 6 0 8 = I1 6 0 8 := by
    show zlvd _ _ _ _ 6 0 8 = _
    rw [zlvd_k (by omega), zfnn_k (by omega)]
  generalize hp2 : zpmv 0 I1 L_ = P2_ at *
  obtain ⟨D3, R3, _⟩ := zzmiE (zzVh R2 (show 1 < 2 by omega))
  have y0 := zpmv_o R2 (show 1 < 2 by omega) (show 0 < 2 by omega) (by omega) _ x0_
  have y1 := zpmv_x R2 (show 1 < 2 by omega) _ x1_ (by rw [e2_, e1_]; exact hlt) (by rw [e2_, e1_]; exact h0)
  have r3 := zpmv_b (v_ := 1) (L_ := P2_.2) (by rw [e2_, e1_, it]; omega) (by rw [e2_, e1_, it]; omega) r2
  rw [eq_]
  rw [e1_] at y0
  rw [e2_, e1_] at y1
  refine ⟨fun v_ hv => ?_, r3, by omega⟩
  rcases (show v_ = 0 ∨ v_ = 1 by omega) with rfl | rfl
  · exact y0
  · exact y1
theorem zJ.mins : ∀ (n_ t_ : Nat) (I_ : zIn) (L_ : zLi), t_ + n_ ≤ 600 → zJ I_ L_ M_ t_ → zJ (zpms n_ I_ L_).1 (zpms n_ I_ L_).2 M_ (t_ + n_)
  | 0, _, _, _, _, h_ => h_
  | n_ + 1, t_, I_, L_, ht, h_ => by
    have := zJ.mins n_ (t_ + 1) _ _ (by omega) (h_.min (by omega))
    unfold zpms
    rw [show t_ + (n_ + 1) = t_ + 1 + n_ by omega]
    exact this
theorem zJ.bnd (h_ : zJ I_ L_ M_ t_) : (L_ 21 0).length ≤ 90 ∧ zbnd L_ 500 := by
  obtain ⟨⟨D_, hR, _⟩, _⟩ := h_
  exact zzBnd hR
theorem zFx.pms {n_ : Nat} : zFx I_ (zpms n_ I_ L_).1 M_ := zFx.k (fun c_ i_ f_ hk _ _ _ => zpms_k hk n_ I_ L_)
/-- pass -/
theorem zc53 (h_ : zLw I_ L_ M_ t_ y_ bus j_) {n_ : Nat} (hn : 1 ≤ n_ ∧ n_ ≤ 120) {B_ C_ D_ : Int32} : zYm 15 122 [zwR 6 0, zwI 3, zwI (Int32.ofNat n_), zwI B_, zwI C_, zwI D_] I_ L_ 60 (zOkI (fun x_ I' L' => x_ = (if 600 < Int32.ofNat t_ + Int32.ofNat n_ then -1003 else Int32.ofNat t_ + Int32.ofNat n_) ∧ ∃ t', zLw I' L' M_ t' y_ bus j_)) := by
  have en := h_.1.now
  have ea : Int32.ofNat t_ + Int32.ofNat n_ = Int32.ofNat (t_ + n_) := (Int32.ofNat_add t_ n_).symm
  rcases Nat.lt_or_ge 600 (t_ + n_) with hlt | hge
  · have h6 : (600 : Int32) < Int32.ofNat t_ + Int32.ofNat n_ := by rw [ea]; exact (zilt (a := 600) (by omega) (by omega)).mpr hlt
    have h1 : (1 : Int32) ≤ Int32.ofNat n_ ∧ Int32.ofNat n_ ≤ 120 := ⟨(zile (a := 1) (by omega) (by omega)).mpr hn.1, (zile (b := 120) (by omega) (by omega)).mpr hn.2⟩
    refine ((za122x (za121dx ((zm53b h1 (by rw [en.1]; exact Int32.not_le.mpr h6)).mono (Nat.le_refl _) (Nat.le_refl _) (fun _ _ _ hq => hq)))).mono (Nat.le_refl _) (show 14 ≤ 60 by omega) (fun r_ I2_ L2_ hq => ?_))
    obtain ⟨rfl, rfl, rfl⟩ := hq
    exact ⟨_, rfl, by rw [if_pos h6], t_, h_⟩
  · have h6 : ¬ (600 : Int32) < Int32.ofNat t_ + Int32.ofNat n_ := by rw [ea]; exact Int32.not_lt.mpr ((zile (b := 600) (by omega) (by omega)).mpr hge)
    have hm_ := h_.1.mins n_ t_ I_ L_ hge
    refine ((za122 (za121d (zYm.ok (zn53t (N_ := n_) (P_ := fun k_ J_ K_ => zJ J_ K_ M_ (t_ + k_)) (fun k_ J_ K_ hJ => hJ.bnd) (fun k_ J_ K_ hk hJ => hJ.min (by omega)) h_.1 hn (by rw [en.1]; exact Int32.not_lt.mp h6)) (P_ := fun x_ I' L' => x_ = (if 600 < Int32.ofNat t_ + Int32.ofNat n_ then -1003 else Int32.ofNat t_ + Int32.ofNat n_) ∧ ∃ t', zLw I' L' M_ t' y_ bus j_) ⟨?_, t_ + n_, ?_⟩))).mono (Nat.le_refl _) (show 14 ≤ 60 by omega) (fun r_ I2_ L2_ hq => hq))
    · rw [if_neg h6, hm_.now.1, ea]
    · exact h_.fx zFx.pms ((zpms6 (by omega) n_ I_ L_).trans h_.2.2.2.2.1) hm_
end
