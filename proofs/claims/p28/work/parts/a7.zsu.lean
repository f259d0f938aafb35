/-! THE MINUTE: sums and lists -/
theorem zzfil_all {q_ : Nat} : ∀ (n_ : Nat) (l : List Nat), n_ ≤ l.length → ztka q_ n_ l = (l.take n_).filter (fun s_ => decide (¬ s_ = q_)) ++ l.drop n_
  | 0, l, _ => by simp [ztka]
  | n_ + 1, l, h_ => by
    obtain ⟨s_, hs⟩ : ∃ s_, l[n_]? = some s_ := ⟨_, List.getElem?_eq_getElem (by omega)⟩
    have ht : l.take (n_ + 1) = l.take n_ ++ [s_] := by
      rw [List.take_add_one, hs]; rfl
    have hd_ := zdrop_cons hs
    unfold ztka
    rw [hs, ht, List.filter_append]
    show ztka q_ n_ (if s_ = q_ then l.eraseIdx n_ else l) = _
    by_cases hq : s_ = q_
    · rw [if_pos hq]
      have hlen : (l.take n_).length = n_ := by rw [List.length_take]; omega
      have he : l.eraseIdx n_ = l.take n_ ++ l.drop (n_ + 1) := List.eraseIdx_eq_take_drop_succ l n_
      rw [he, zzfil_all n_ _ (by rw [List.length_append, hlen]; omega)]
      rw [List.take_append_of_le_length (by omega), List.drop_append_of_le_length (by omega), List.take_take, Nat.min_self, List.drop_of_length_le (by omega)]
      simp [hq]
    · rw [if_neg hq, zzfil_all n_ l (by omega), hd_]
      simp [hq]
theorem zztka {q_ : Nat} {l : List Nat} : ztka q_ l.length l = l.filter (fun s_ => decide (¬ s_ = q_)) := by
  rw [zzfil_all _ _ (Nat.le_refl _), List.take_length, List.drop_length, List.append_nil]
theorem zztak_add {C_ : zIn} {y_ : Int32} : ∀ (l : List Nat) (x_ : Int32), ztak C_ l (x_ + y_) = ztak C_ l x_ + y_
  | [], x_ => rfl
  | t_ :: l, x_ => by
    unfold ztak
    rw [show x_ + y_ + zsea C_ t_ = x_ + zsea C_ t_ + y_ by grind]
    exact zztak_add l _
theorem zztak_app {C_ : zIn} {q_ : Nat} : ∀ (l : List Nat) (x_ : Int32), ztak C_ (l ++ [q_]) x_ = ztak C_ l x_ + zsea C_ q_
  | [], x_ => rfl
  | t_ :: l, x_ => zztak_app l _
theorem zztak_fil {C_ : zIn} {q_ : Nat} : ∀ (l : List Nat) (x_ : Int32), l.Nodup → q_ ∈ l → ztak C_ l x_ = ztak C_ (l.filter (fun s_ => decide (¬ s_ = q_))) x_ + zsea C_ q_
  | [], _, _, h_ => absurd h_ (List.not_mem_nil)
  | t_ :: l, x_, hn, h_ => by
    obtain ⟨n1_, n2_⟩ := List.nodup_cons.mp hn
    by_cases e_ : t_ = q_
    · subst e_
      rw [List.filter_cons_of_neg (by simp), zzfil n1_, ← zztak_add]
      rfl
    · rw [List.filter_cons_of_pos (by simp [e_])]
      exact zztak_fil l _ n2_ ((List.mem_cons.mp h_).resolve_left (fun e2_ => e_ e2_.symm))
theorem zziadd {a_ b_ : Int32} (h_ : -2000 ≤ a_.toInt + b_.toInt) (h2 : a_.toInt + b_.toInt ≤ 2000) : (a_ + b_).toInt = a_.toInt + b_.toInt := by
  rw [Int32.toInt_add]
  rw [Int.bmod_eq_of_le (by omega) (by omega)]
theorem zziadd2 {a_ b_ : Int32} (ha_ : -900 ≤ a_.toInt ∧ a_.toInt ≤ 900) (hb_ : -900 ≤ b_.toInt ∧ b_.toInt ≤ 900) : (a_ + b_).toInt = a_.toInt + b_.toInt := zziadd (by omega) (by omega)
theorem zztakB {C_ : zIn} : ∀ (l : List Nat) (x_ : Int32), (∀ q_ ∈ l, 1 ≤ (zsea C_ q_).toInt ∧ (zsea C_ q_).toInt ≤ 3) → 0 ≤ x_.toInt → x_.toInt + 3 * l.length ≤ 500 → x_.toInt ≤ (ztak C_ l x_).toInt ∧ (ztak C_ l x_).toInt ≤ x_.toInt + 3 * l.length
  | [], x_, _, _, _ => ⟨Int.le_refl _, by simp [ztak]⟩
  | t_ :: l, x_, h_, h0, h1 => by
    obtain ⟨a_, b_⟩ := h_ t_ List.mem_cons_self
    rw [List.length_cons] at h1 ⊢
    have e_ : (x_ + zsea C_ t_).toInt = x_.toInt + (zsea C_ t_).toInt := zziadd (by omega) (by omega)
    have := zztakB l (x_ + zsea C_ t_) (fun q_ hq => h_ q_ (List.mem_cons_of_mem _ hq)) (by omega) (by omega)
    unfold ztak
    omega
theorem zzsbd_add {C_ : zIn} {y_ : Int32} : ∀ (l : List Nat) (x_ : Int32), zsbd C_ l (x_ + y_) = zsbd C_ l x_ + y_
  | [], x_ => rfl
  | t_ :: l, x_ => by
    unfold zsbd
    rw [← zzsbd_add l]
    congr 1
    split
    · split
      · grind
      · rfl
    · grind
theorem zzsbd_app {C_ : zIn} {s_ : Nat} : ∀ (l : List Nat) (x_ : Int32), zsbd C_ (l ++ [s_]) x_ = (if s_ % 2 = 0 then (if C_ 1 (s_ / 2) 5 = 1 ∨ C_ 1 (s_ / 2) 5 = 2 then zsbd C_ l x_ + zsea C_ (s_ / 2) else zsbd C_ l x_) else zsbd C_ l x_ - zsea C_ (s_ / 2))
  | [], x_ => rfl
  | t_ :: l, x_ => zzsbd_app l _
theorem zzsqL_add {D_ : zIn} {v_ : Nat} {y_ : Int32} : ∀ (n_ k_ : Nat) (x_ : Int32), zsqL D_ v_ n_ k_ (x_ + y_) = zsqL D_ v_ n_ k_ x_ + y_
  | 0, k_, x_ => rfl
  | n_ + 1, k_, x_ => by
    unfold zsqL
    rw [show x_ + y_ + zsqN D_ v_ k_ = x_ + zsqN D_ v_ k_ + y_ by grind]
    exact zzsqL_add n_ (k_ + 1) _
theorem zzsq1 {D_ D' : zIn} {v_ r_ : Nat} : ∀ (n_ k_ : Nat) (x_ : Int32), k_ ≤ r_ → r_ < k_ + n_ → (∀ j_, k_ ≤ j_ → j_ < k_ + n_ → ¬ j_ = r_ → zsqN D' v_ j_ = zsqN D_ v_ j_) → zsqL D' v_ n_ k_ x_ = zsqL D_ v_ n_ k_ x_ + (zsqN D' v_ r_ - zsqN D_ v_ r_)
  | 0, k_, x_, h1, h2, _ => absurd h2 (by omega)
  | n_ + 1, k_, x_, h1, h2, h3 => by
    unfold zsqL
    by_cases e_ : k_ = r_
    · subst e_
      have e2_ : zsqL D' v_ n_ (k_ + 1) (x_ + zsqN D' v_ k_) = zsqL D_ v_ n_ (k_ + 1) (x_ + zsqN D' v_ k_) := zzsq_ix n_ (k_ + 1) _ (fun j_ a_ b_ => h3 j_ (by omega) (by omega) (by omega))
      rw [e2_, ← zzsqL_add]
      congr 1
      grind
    · rw [h3 k_ (Nat.le_refl _) (by omega) e_]
      exact zzsq1 n_ (k_ + 1) _ (by omega) (by omega) (fun j_ a_ b_ c_ => h3 j_ (by omega) (by omega) c_)
theorem zzdl {q_ : Nat} {l : List Nat} (hn : l.Nodup) (h_ : l.getLast? = some q_) : l.filter (fun s_ => decide (¬ s_ = q_)) = l.dropLast := by
  obtain ⟨a_, rfl⟩ := List.getLast?_eq_some_iff.mp h_
  rw [List.filter_append, List.dropLast_concat]
  have hq : ¬ q_ ∈ a_ := fun hm_ => by
    have := (List.nodup_append.mp hn).2.2 q_ hm_ q_ (List.mem_singleton.mpr rfl)
    exact this rfl
  rw [zzfil hq]
  simp
theorem zzchl_fil {C_ : zIn} {q_ : Nat} {l : List Nat} : zchl C_ (l.filter (fun s_ => decide (¬ s_ = q_))) = (zchl C_ l).filter (fun s_ => decide (¬ s_ = q_)) := by
  unfold zchl
  rw [List.filter_filter, List.filter_filter]
  exact List.filter_congr (fun s_ _ => Bool.and_comm _ _)

