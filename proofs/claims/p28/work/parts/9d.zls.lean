/-! MATHEMATICS: orders of stops -/
/-- each drop is of one on board (A), or its pick stands ahead of it -/
def zzvl : List Nat → List Nat → Prop
  | [], _ => True
  | s_ :: r_, A_ => if s_ % 2 = 0 then zzvl r_ (s_ / 2 :: A_) else s_ / 2 ∈ A_ ∧ zzvl r_ A_
theorem zzvl_e {s_ : Nat} {r_ A_ : List Nat} (h_ : s_ % 2 = 0) : zzvl (s_ :: r_) A_ ↔ zzvl r_ (s_ / 2 :: A_) := by
  show (if s_ % 2 = 0 then zzvl r_ (s_ / 2 :: A_) else s_ / 2 ∈ A_ ∧ zzvl r_ A_) ↔ _
  rw [if_pos h_]
theorem zzvl_o {s_ : Nat} {r_ A_ : List Nat} (h_ : ¬ s_ % 2 = 0) : zzvl (s_ :: r_) A_ ↔ (s_ / 2 ∈ A_ ∧ zzvl r_ A_) := by
  show (if s_ % 2 = 0 then zzvl r_ (s_ / 2 :: A_) else s_ / 2 ∈ A_ ∧ zzvl r_ A_) ↔ _
  rw [if_neg h_]
theorem zzcons_sub {q_ : Nat} {A_ B_ : List Nat} (h_ : ∀ x_ ∈ A_, x_ ∈ B_) : ∀ x_ ∈ q_ :: A_, x_ ∈ q_ :: B_ := fun x_ hx => by
  rcases List.mem_cons.mp hx with e_ | e_
  · rw [e_]; exact List.mem_cons_self
  · exact List.mem_cons_of_mem _ (h_ x_ e_)
theorem zzvl_mono : ∀ (l A_ B_ : List Nat), zzvl l A_ → (∀ q_ ∈ A_, q_ ∈ B_) → zzvl l B_
  | [], _, _, _, _ => trivial
  | s_ :: r_, A_, B_, h_, hs => by
    by_cases hp : s_ % 2 = 0
    · exact (zzvl_e hp).mpr (zzvl_mono r_ _ _ ((zzvl_e hp).mp h_) (zzcons_sub hs))
    · obtain ⟨h1, h2⟩ := (zzvl_o hp).mp h_
      exact (zzvl_o hp).mpr ⟨hs _ h1, zzvl_mono r_ _ _ h2 hs⟩
theorem zzvl_ins1 {q_ : Nat} : ∀ (l A_ : List Nat) (d_ : Nat), zzvl l A_ → q_ ∈ A_ → zzvl (l.insertIdx d_ (2 * q_ + 1)) A_
  | l, A_, 0, h_, hq => by
    rw [List.insertIdx_zero]
    exact (zzvl_o (by omega)).mpr ⟨by rw [show (2 * q_ + 1) / 2 = q_ by omega]; exact hq, h_⟩
  | [], A_, d_ + 1, h_, hq => by
    rw [List.insertIdx_succ_nil]; trivial
  | s_ :: r_, A_, d_ + 1, h_, hq => by
    rw [List.insertIdx_succ_cons]
    by_cases hp : s_ % 2 = 0
    · exact (zzvl_e hp).mpr (zzvl_ins1 r_ _ d_ ((zzvl_e hp).mp h_) (List.mem_cons_of_mem _ hq))
    · obtain ⟨h1, h2⟩ := (zzvl_o hp).mp h_
      exact (zzvl_o hp).mpr ⟨h1, zzvl_ins1 r_ _ d_ h2 hq⟩
theorem zzvl_ins {q_ : Nat} : ∀ (p_ : Nat) (l A_ : List Nat) (d_ : Nat), p_ < d_ → zzvl l A_ → zzvl ((l.insertIdx p_ (2 * q_)).insertIdx d_ (2 * q_ + 1)) A_
  | 0, l, A_, d_, hd_, h_ => by
    obtain ⟨e_, rfl⟩ : ∃ e_, d_ = e_ + 1 := ⟨d_ - 1, by omega⟩
    rw [List.insertIdx_zero, List.insertIdx_succ_cons]
    refine (zzvl_e (by omega)).mpr ?_
    rw [show 2 * q_ / 2 = q_ by omega]
    exact zzvl_ins1 l _ e_ (zzvl_mono l A_ _ h_ (fun x_ hx => List.mem_cons_of_mem _ hx)) List.mem_cons_self
  | p_ + 1, [], A_, d_, hd_, h_ => by
    obtain ⟨e_, rfl⟩ : ∃ e_, d_ = e_ + 1 := ⟨d_ - 1, by omega⟩
    rw [List.insertIdx_succ_nil, List.insertIdx_succ_nil]; trivial
  | p_ + 1, s_ :: r_, A_, d_, hd_, h_ => by
    obtain ⟨e_, rfl⟩ : ∃ e_, d_ = e_ + 1 := ⟨d_ - 1, by omega⟩
    rw [List.insertIdx_succ_cons, List.insertIdx_succ_cons]
    by_cases hp : s_ % 2 = 0
    · exact (zzvl_e hp).mpr (zzvl_ins p_ r_ _ e_ (by omega) ((zzvl_e hp).mp h_))
    · obtain ⟨h1, h2⟩ := (zzvl_o hp).mp h_
      exact (zzvl_o hp).mpr ⟨h1, zzvl_ins p_ r_ _ e_ (by omega) h2⟩
/-- without a request -/
def zzwo (q_ : Nat) (l : List Nat) : List Nat := l.filter (fun s_ => decide (¬ s_ / 2 = q_))
theorem zzwo_in {q_ s_ : Nat} {r_ : List Nat} (h_ : s_ / 2 = q_) : zzwo q_ (s_ :: r_) = zzwo q_ r_ := by
  unfold zzwo; rw [List.filter_cons_of_neg (by simp [h_])]
theorem zzwo_ni {q_ s_ : Nat} {r_ : List Nat} (h_ : ¬ s_ / 2 = q_) : zzwo q_ (s_ :: r_) = s_ :: zzwo q_ r_ := by
  unfold zzwo; rw [List.filter_cons_of_pos (by simp [h_])]
theorem zzwo_mem {q_ s_ : Nat} {l : List Nat} : s_ ∈ zzwo q_ l ↔ s_ ∈ l ∧ ¬ s_ / 2 = q_ := by
  unfold zzwo; rw [List.mem_filter]; simp
theorem zzwo_id {q_ : Nat} : ∀ {l : List Nat}, (∀ s_ ∈ l, ¬ s_ / 2 = q_) → zzwo q_ l = l := fun {l} h_ => List.filter_eq_self.mpr (fun s_ hs => by simp [h_ s_ hs])
theorem zzwo_app {q_ : Nat} {l r_ : List Nat} : zzwo q_ (l ++ r_) = zzwo q_ l ++ zzwo q_ r_ := List.filter_append _ _
theorem zzwo_nd {q_ : Nat} {l : List Nat} (h_ : l.Nodup) : (zzwo q_ l).Nodup := h_.sublist List.filter_sublist
theorem zzwo_len {q_ : Nat} {l : List Nat} : (zzwo q_ l).length ≤ l.length := List.filter_sublist.length_le
theorem zzvl_wo {q_ : Nat} : ∀ (l A_ B_ : List Nat), zzvl l A_ → (∀ x_ ∈ A_, ¬ x_ = q_ → x_ ∈ B_) → zzvl (zzwo q_ l) B_
  | [], _, _, _, _ => trivial
  | s_ :: r_, A_, B_, h_, hs => by
    by_cases hq : s_ / 2 = q_
    · rw [zzwo_in hq]
      by_cases hp : s_ % 2 = 0
      · refine zzvl_wo r_ _ _ ((zzvl_e hp).mp h_) (fun x_ hx hn => ?_)
        rcases List.mem_cons.mp hx with e_ | e_
        · exact absurd (e_.trans hq) hn
        · exact hs x_ e_ hn
      · exact zzvl_wo r_ _ _ ((zzvl_o hp).mp h_).2 hs
    · rw [zzwo_ni hq]
      by_cases hp : s_ % 2 = 0
      · refine (zzvl_e hp).mpr (zzvl_wo r_ _ _ ((zzvl_e hp).mp h_) (fun x_ hx hn => ?_))
        rcases List.mem_cons.mp hx with e_ | e_
        · rw [e_]; exact List.mem_cons_self
        · exact List.mem_cons_of_mem _ (hs x_ e_ hn)
      · obtain ⟨h1, h2⟩ := (zzvl_o hp).mp h_
        exact (zzvl_o hp).mpr ⟨hs _ h1 hq, zzvl_wo r_ _ _ h2 hs⟩
theorem zzvl_era {q_ : Nat} : ∀ (l A_ B_ : List Nat), zzvl l A_ → ¬ 2 * q_ + 1 ∈ l → (∀ x_ ∈ A_, ¬ x_ = q_ → x_ ∈ B_) → zzvl l B_
  | [], _, _, _, _, _ => trivial
  | s_ :: r_, A_, B_, h_, hn, hs => by
    have hn2 : ¬ 2 * q_ + 1 ∈ r_ := fun e_ => hn (List.mem_cons_of_mem _ e_)
    by_cases hp : s_ % 2 = 0
    · refine (zzvl_e hp).mpr (zzvl_era r_ _ _ ((zzvl_e hp).mp h_) hn2 (fun x_ hx hne => ?_))
      rcases List.mem_cons.mp hx with e_ | e_
      · rw [e_]; exact List.mem_cons_self
      · exact List.mem_cons_of_mem _ (hs x_ e_ hne)
    · obtain ⟨h1, h2⟩ := (zzvl_o hp).mp h_
      refine (zzvl_o hp).mpr ⟨hs _ h1 (fun e_ => hn ?_), zzvl_era r_ _ _ h2 hn2 hs⟩
      rw [show 2 * q_ + 1 = s_ by omega]; exact List.mem_cons_self
theorem zzvl_dec {q_ : Nat} : ∀ (l A_ : List Nat), zzvl l A_ → 2 * q_ + 1 ∈ l → ¬ q_ ∈ A_ → ∃ l1 l2 l3, l = l1 ++ 2 * q_ :: (l2 ++ (2 * q_ + 1) :: l3)
  | [], _, _, h_, _ => by cases h_
  | s_ :: r_, A_, h_, hm_, hn => by
    by_cases hp : s_ % 2 = 0
    · have hr : 2 * q_ + 1 ∈ r_ := by
        rcases List.mem_cons.mp hm_ with e_ | e_
        · omega
        · exact e_
      by_cases hq : s_ = 2 * q_
      · obtain ⟨l2, l3, e_⟩ := List.append_of_mem hr
        exact ⟨[], l2, l3, by rw [hq, e_]; rfl⟩
      · obtain ⟨l1, l2, l3, e_⟩ := zzvl_dec r_ _ ((zzvl_e hp).mp h_) hr (fun e_ => by
          rcases List.mem_cons.mp e_ with e_ | e_
          · omega
          · exact hn e_)
        exact ⟨s_ :: l1, l2, l3, by rw [e_]; rfl⟩
    · obtain ⟨h1, h2⟩ := (zzvl_o hp).mp h_
      have hr : 2 * q_ + 1 ∈ r_ := by
        rcases List.mem_cons.mp hm_ with e_ | e_
        · exact absurd (by rw [show q_ = s_ / 2 by omega]; exact h1) hn
        · exact e_
      obtain ⟨l1, l2, l3, e_⟩ := zzvl_dec r_ _ h2 hr hn
      exact ⟨s_ :: l1, l2, l3, by rw [e_]; rfl⟩
theorem zzpos_app {t_ : Nat} : ∀ (l r_ : List Nat), ¬ t_ ∈ l → zpos t_ (l ++ t_ :: r_) = l.length
  | [], r_, _ => by
    show zpos t_ (t_ :: r_) = 0
    unfold zpos
    rw [if_pos rfl]
  | s_ :: l, r_, h_ => by
    have hs : ¬ s_ = t_ := fun e_ => h_ (by rw [e_]; exact List.mem_cons_self)
    show zpos t_ (s_ :: (l ++ t_ :: r_)) = l.length + 1
    unfold zpos
    rw [if_neg hs, zzpos_app l r_ (fun e_ => h_ (List.mem_cons_of_mem _ e_))]
theorem zzlx_no {t_ : Nat} : ∀ (l : List Nat) (k_ : Nat) (o : Option Nat), ¬ t_ ∈ l → zlx t_ l k_ o = o
  | [], _, _, _ => rfl
  | s_ :: r_, k_, o, h_ => by
    have hs : ¬ s_ = t_ := fun e_ => h_ (by rw [e_]; exact List.mem_cons_self)
    unfold zlx
    rw [if_neg hs]
    exact zzlx_no r_ (k_ + 1) o (fun e_ => h_ (List.mem_cons_of_mem _ e_))
theorem zzlx_app {t_ : Nat} : ∀ (l r_ : List Nat) (k_ : Nat) (o : Option Nat), ¬ t_ ∈ r_ → zlx t_ (l ++ t_ :: r_) k_ o = some (k_ + l.length)
  | [], r_, k_, o, h_ => by
    show zlx t_ (t_ :: r_) k_ o = _
    unfold zlx
    rw [if_pos rfl, zzlx_no r_ _ _ h_]; rfl
  | s_ :: l, r_, k_, o, h_ => by
    show zlx t_ (s_ :: (l ++ t_ :: r_)) k_ o = _
    unfold zlx
    rw [zzlx_app l r_ (k_ + 1) _ h_, List.length_cons]
    congr 1; omega
theorem zzlx_of {t_ : Nat} {l : List Nat} (hn : l.Nodup) (h_ : t_ ∈ l) : zlx t_ l 0 none = some (zpos t_ l) := by
  obtain ⟨l1, l2, e_⟩ := List.append_of_mem h_
  rw [e_] at hn
  have h1 := (List.nodup_append.mp hn)
  have hn2 : ¬ t_ ∈ l2 := (List.nodup_cons.mp h1.2.1).1
  have hn1 : ¬ t_ ∈ l1 := fun hx => h1.2.2 t_ hx t_ List.mem_cons_self rfl
  rw [e_, zzlx_app l1 l2 0 none hn2, zzpos_app l1 l2 hn1, Nat.zero_add]
theorem zzpos_at {t_ : Nat} {l : List Nat} (h_ : t_ ∈ l) : l[zpos t_ l]? = some t_ := (zfnd_pos l 0 h_).2
theorem zzins {t_ : Nat} : ∀ (k_ : Nat) (l : List Nat), k_ ≤ l.length → zins k_ t_ l = l.insertIdx k_ t_
  | 0, l, _ => by rw [List.insertIdx_zero]; rfl
  | k_ + 1, [], h_ => by simp at h_
  | k_ + 1, s_ :: r_, h_ => by
    rw [List.insertIdx_succ_cons, ← zzins k_ r_ (by simpa using h_)]; rfl
theorem zzins_app {t_ : Nat} : ∀ (l r_ : List Nat), (l ++ r_).insertIdx l.length t_ = l ++ t_ :: r_
  | [], r_ => by
    show r_.insertIdx 0 t_ = _
    rw [List.insertIdx_zero]; rfl
  | s_ :: l, r_ => by
    show (s_ :: (l ++ r_)).insertIdx (l.length + 1) t_ = _
    rw [List.insertIdx_succ_cons, zzins_app l r_]; rfl
theorem zzera_app {t_ : Nat} : ∀ (l r_ : List Nat), (l ++ t_ :: r_).eraseIdx l.length = l ++ r_
  | [], r_ => rfl
  | s_ :: l, r_ => by
    show s_ :: (l ++ t_ :: r_).eraseIdx l.length = _
    rw [zzera_app l r_]; rfl
/-- a route with a request that isn't on board, cut at its stops -/
theorem zzcut {q_ : Nat} {l1 l2 l3 : List Nat} (hn : (l1 ++ 2 * q_ :: (l2 ++ (2 * q_ + 1) :: l3)).Nodup) : (∀ s_ ∈ l1, ¬ s_ / 2 = q_) ∧ (∀ s_ ∈ l2, ¬ s_ / 2 = q_) ∧ ∀ s_ ∈ l3, ¬ s_ / 2 = q_ := by
  obtain ⟨a1_, a2, a3⟩ := List.nodup_append.mp hn
  obtain ⟨b1, b2⟩ := List.nodup_cons.mp a2
  obtain ⟨c1_, c2_, c3_⟩ := List.nodup_append.mp b2
  obtain ⟨d1_, d2_⟩ := List.nodup_cons.mp c2_
  have cs : ∀ s_, s_ / 2 = q_ → s_ = 2 * q_ ∨ s_ = 2 * q_ + 1 := fun s_ h_ => by omega
  refine ⟨fun s_ hs e_ => ?_, fun s_ hs e_ => ?_, fun s_ hs e_ => ?_⟩
  · rcases cs s_ e_ with h_ | h_
    · exact a3 s_ hs (2 * q_) List.mem_cons_self h_
    · exact a3 s_ hs (2 * q_ + 1) (List.mem_cons_of_mem _ (List.mem_append_right _ List.mem_cons_self)) h_
  · rcases cs s_ e_ with h_ | h_
    · exact b1 (h_ ▸ List.mem_append_left _ hs)
    · exact c3_ s_ hs (2 * q_ + 1) List.mem_cons_self h_
  · rcases cs s_ e_ with h_ | h_
    · exact b1 (h_ ▸ List.mem_append_right _ (List.mem_cons_of_mem _ hs))
    · exact d1_ (h_ ▸ hs)
theorem zzcut_wo {q_ : Nat} {l1 l2 l3 : List Nat} (hn : (l1 ++ 2 * q_ :: (l2 ++ (2 * q_ + 1) :: l3)).Nodup) : zzwo q_ (l1 ++ 2 * q_ :: (l2 ++ (2 * q_ + 1) :: l3)) = l1 ++ (l2 ++ l3) := by
  obtain ⟨h1, h2, h3⟩ := zzcut hn
  rw [zzwo_app, zzwo_in (by omega), zzwo_app, zzwo_in (by omega), zzwo_id h1, zzwo_id h2, zzwo_id h3]
theorem zzcut_p {q_ : Nat} {l1 l2 l3 : List Nat} (hn : (l1 ++ 2 * q_ :: (l2 ++ (2 * q_ + 1) :: l3)).Nodup) : zpos (2 * q_) (l1 ++ 2 * q_ :: (l2 ++ (2 * q_ + 1) :: l3)) = l1.length := by
  obtain ⟨h1, h2, h3⟩ := zzcut hn
  exact zzpos_app l1 _ (fun e_ => h1 _ e_ (by omega))
theorem zzcut_d {q_ : Nat} {l1 l2 l3 : List Nat} (hn : (l1 ++ 2 * q_ :: (l2 ++ (2 * q_ + 1) :: l3)).Nodup) : zpos (2 * q_ + 1) (l1 ++ 2 * q_ :: (l2 ++ (2 * q_ + 1) :: l3)) = l1.length + 1 + l2.length := by
  obtain ⟨h1, h2, h3⟩ := zzcut hn
  have e_ : l1 ++ 2 * q_ :: (l2 ++ (2 * q_ + 1) :: l3) = (l1 ++ 2 * q_ :: l2) ++ (2 * q_ + 1) :: l3 := by simp
  rw [e_, zzpos_app (l1 ++ 2 * q_ :: l2) l3 (fun e_ => by
    rcases List.mem_append.mp e_ with e_ | e_
    · exact h1 _ e_ (by omega)
    · rcases List.mem_cons.mp e_ with e_ | e_
      · omega
      · exact h2 _ e_ (by omega)), List.length_append, List.length_cons]
  omega
/-- taken out, and put back -/
theorem zzcut_ins {q_ : Nat} {l1 l2 l3 : List Nat} : ((l1 ++ (l2 ++ l3)).insertIdx l1.length (2 * q_)).insertIdx (l1.length + 1 + l2.length) (2 * q_ + 1) = l1 ++ 2 * q_ :: (l2 ++ (2 * q_ + 1) :: l3) := by
  rw [zzins_app]
  have e_ : l1 ++ 2 * q_ :: (l2 ++ l3) = (l1 ++ 2 * q_ :: l2) ++ l3 := by simp
  have e2_ : l1.length + 1 + l2.length = (l1 ++ 2 * q_ :: l2).length := by rw [List.length_append, List.length_cons]; omega
  rw [e_, e2_, zzins_app]
  simp
theorem zzcut_era {q_ : Nat} {l1 l2 l3 : List Nat} : ((l1 ++ 2 * q_ :: (l2 ++ (2 * q_ + 1) :: l3)).eraseIdx (l1.length + 1 + l2.length)).eraseIdx l1.length = l1 ++ (l2 ++ l3) := by
  have e_ : l1 ++ 2 * q_ :: (l2 ++ (2 * q_ + 1) :: l3) = (l1 ++ 2 * q_ :: l2) ++ (2 * q_ + 1) :: l3 := by simp
  have e2_ : l1.length + 1 + l2.length = (l1 ++ 2 * q_ :: l2).length := by rw [List.length_append, List.length_cons]; omega
  rw [e_, e2_, zzera_app]
  have e3_ : (l1 ++ 2 * q_ :: l2) ++ l3 = l1 ++ 2 * q_ :: (l2 ++ l3) := by simp
  rw [e3_, zzera_app]
/-- what takeOutStopsOf leaves -/
theorem zzko {q_ : Nat} : ∀ (n_ : Nat) (l : List Nat), n_ ≤ l.length → ztko q_ n_ l = zzwo q_ (l.take n_) ++ l.drop n_
  | 0, l, _ => by simp [ztko, zzwo]
  | n_ + 1, l, h_ => by
    obtain ⟨s_, hs⟩ : ∃ s_, l[n_]? = some s_ := ⟨_, List.getElem?_eq_getElem (by omega)⟩
    have ht : l.take (n_ + 1) = l.take n_ ++ [s_] := by
      rw [List.take_add_one, hs]; rfl
    have hd_ := zdrop_cons hs
    unfold ztko
    rw [hs, ht, zzwo_app]
    show ztko q_ n_ (if s_ / 2 = q_ then l.eraseIdx n_ else l) = _
    by_cases hq : s_ / 2 = q_
    · rw [if_pos hq, zzwo_in hq]
      have hl : l = l.take n_ ++ s_ :: l.drop (n_ + 1) := by rw [← hd_, List.take_append_drop]
      have hlen : (l.take n_).length = n_ := by rw [List.length_take]; omega
      have he : l.eraseIdx n_ = l.take n_ ++ l.drop (n_ + 1) := List.eraseIdx_eq_take_drop_succ l n_
      rw [he, zzko n_ _ (by rw [List.length_append, hlen]; omega)]
      rw [List.take_append_of_le_length (by omega), List.drop_append_of_le_length (by omega), List.take_take, Nat.min_self, List.drop_of_length_le (by omega)]
      simp [zzwo]
    · rw [if_neg hq, zzwo_ni hq, zzko n_ l (by omega), hd_]
      simp [zzwo]
theorem zzko_all {q_ : Nat} {l : List Nat} : ztko q_ l.length l = zzwo q_ l := by
  rw [zzko _ _ (Nat.le_refl _), List.take_length, List.drop_length, List.append_nil]
/-- how many chairs are on board at least -/
def zzlo (D_ : zIn) : List Nat → Nat → Prop
  | [], _ => True
  | s_ :: r_, m_ => if s_ % 2 = 0 then zzlo D_ r_ (m_ + zmch D_ s_) else (zmch D_ s_ = 0 ∨ 1 ≤ m_) ∧ zzlo D_ r_ (m_ - zmch D_ s_)
theorem zzch_le {D_ : zIn} {s_ : Nat} : zmch D_ s_ ≤ 1 := by
  unfold zmch; split <;> omega
theorem zzlo_O {D_ : zIn} : ∀ (l : List Nat) (m_ : Nat), zzlo D_ l m_ → m_ + l.length ≤ 23 → zmrO D_ l m_
  | [], _, _, _ => trivial
  | s_ :: r_, m_, h_, hm_ => by
    have hc_ := zzch_le (D_ := D_) (s_ := s_)
    rw [List.length_cons] at hm_
    unfold zzlo at h_
    unfold zmrO
    by_cases hp : s_ % 2 = 0
    · rw [if_pos hp] at h_ ⊢
      exact ⟨by omega, zzlo_O r_ _ h_ (by omega)⟩
    · rw [if_neg hp] at h_ ⊢
      refine ⟨?_, zzlo_O r_ _ h_.2 (by omega)⟩
      rcases h_.1 with h_ | h_
      · exact Or.inl h_
      · exact Or.inr ⟨h_, by omega⟩
theorem zzlo_of {D_ : zIn} : ∀ (l A_ S_ : List Nat), l.Nodup → zzvl l A_ → (∀ q_ ∈ A_, zmkd D_ q_ = 2 → 2 * q_ + 1 ∈ l → q_ ∈ S_) → zzlo D_ l S_.length
  | [], _, _, _, _, _ => trivial
  | s_ :: r_, A_, S_, hn, hv, hS_ => by
    obtain ⟨n1_, n2_⟩ := List.nodup_cons.mp hn
    unfold zzlo
    by_cases hp : s_ % 2 = 0
    · rw [if_pos hp]
      have hv2 := (zzvl_e hp).mp hv
      by_cases hk : zmkd D_ (s_ / 2) = 2
      · have hc_ : zmch D_ s_ = 1 := if_pos hk
        rw [hc_]
        refine zzlo_of r_ _ (s_ / 2 :: S_) n2_ hv2 (fun q_ hq h2 h3 => ?_)
        rcases List.mem_cons.mp hq with e_ | e_
        · rw [e_]; exact List.mem_cons_self
        · exact List.mem_cons_of_mem _ (hS_ q_ e_ h2 (List.mem_cons_of_mem _ h3))
      · have hc_ : zmch D_ s_ = 0 := if_neg hk
        rw [hc_]
        refine zzlo_of r_ _ S_ n2_ hv2 (fun q_ hq h2 h3 => ?_)
        rcases List.mem_cons.mp hq with e_ | e_
        · exact absurd (e_ ▸ h2) hk
        · exact hS_ q_ e_ h2 (List.mem_cons_of_mem _ h3)
    · rw [if_neg hp]
      obtain ⟨v1_, v2⟩ := (zzvl_o hp).mp hv
      have hs : 2 * (s_ / 2) + 1 = s_ := by omega
      by_cases hk : zmkd D_ (s_ / 2) = 2
      · have hc_ : zmch D_ s_ = 1 := if_pos hk
        have hin : s_ / 2 ∈ S_ := hS_ _ v1_ hk (by rw [hs]; exact List.mem_cons_self)
        rw [hc_]
        refine ⟨Or.inr ?_, ?_⟩
        · exact List.length_pos_of_mem hin
        · rw [← List.length_erase_of_mem hin]
          refine zzlo_of r_ _ (S_.erase (s_ / 2)) n2_ v2 (fun q_ hq h2 h3 => ?_)
          have hne : ¬ q_ = s_ / 2 := fun e_ => n1_ (by rw [← hs, ← e_]; exact h3)
          exact (List.mem_erase_of_ne hne).mpr (hS_ q_ hq h2 (List.mem_cons_of_mem _ h3))
      · have hc_ : zmch D_ s_ = 0 := if_neg hk
        rw [hc_]
        exact ⟨Or.inl rfl, zzlo_of r_ _ S_ n2_ v2 (fun q_ hq h2 h3 => hS_ q_ hq h2 (List.mem_cons_of_mem _ h3))⟩

