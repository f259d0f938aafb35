/-! THE METHODS: their words, their code -/
def zMd (k : Nat) : Prop := plainName (zy k).cls = true ∧ (zhh k = [] → Cond.code (zy k) (zby k) (zinf k).2.1 (zrt k) ∈ zT) ∧ (zhh k ≠ [] → Cond.codeWith (zy k) (zby k) (zinf k).2.1 (zrt k) (zhh k) ∈ zT) ∧
  (((zinf k).2.2.2.2 = 0 ∧ zrt k = some .int) ∨ ((zinf k).2.2.2.2 = 1 ∧ zrt k = some .boolean) ∨ ((zinf k).2.2.2.2 = 2 ∧ ∃ t, zrt k = some t ∧ ((∃ n, t = .object n) ∨ ∃ u, t = .array u)) ∨ ((zinf k).2.2.2.2 = 3 ∧ zrt k = some .long) ∨ ((zinf k).2.2.2.2 = 4 ∧ zrt k = none)) ∧ ((zinf k).2.2.1 = 2 → (zy k).name = "<init>") ∧ (zOwn[zon k]?).getD "" = (zy k).cls
def zThL : List (Nat × (Nat × (Nat × (Nat × Nat)))) := [(34, 4, 238, 9, 1), (35, 4, 245, 10, 1), (41, 15, 250, 11, 1), (43, 15, 250, 11, 1), (50, 15, 250, 11, 2), (65, 15, 250, 11, 2)]
def zneedB (m : Nat) (x : Nat × zRI) (j : Nat) : Bool := !zneed x.2.1 || (if j = 999 then (match x.2.1 with | .new idx => decide (9 ≤ x.2.2.2.2.1) && zThL.any (fun y => decide (y = (m, x.1, idx, x.2.2.2.2.1, x.2.2.2.2.2))) | _ => false) else decide (((zLkk[j / 40]?).getD [])[j % 40]? = some (zon m, (match x.2.1 with | .putfield _ => (zinf m).2.2.1 | _ => 0), x.2.1, x.2.2.2.1, x.2.2.2.2.1, x.2.2.2.2.2)))
def zchk (m : Nat) : List (Nat × zRI) → List Nat → Bool
  | [], [] => true
  | x :: r, j :: s => zneedB m x j && zchk m r s
  | _, _ => false
theorem zchk_mem {m : Nat} : ∀ {l : List (Nat × zRI)} {js : List Nat}, zchk m l js = true → ∀ x ∈ l, ∃ j, zneedB m x j = true
  | [], [], _, _, h => nomatch h
  | y :: r, j :: s, h, x, hx => by
    simp only [zchk, Bool.and_eq_true] at h
    rcases List.mem_cons.mp hx with rfl | hx
    · exact ⟨j, h.1⟩
    · exact zchk_mem h.2 x hx
  | [], _ :: _, h, _, _ => by simp [zchk] at h
  | _ :: _, [], h, _, _ => by simp [zchk] at h
def zNdd (m : Nat) (l : List (Nat × zRI)) : Prop := ∀ x ∈ l, ∃ j, zneedB m x j = true
theorem zndd_app {m : Nat} {a b : List (Nat × zRI)} (ha : zNdd m a) (hb : zNdd m b) : zNdd m (a ++ b) := List.forall_mem_append.mpr ⟨ha, hb⟩
def zhok (m pc E t k : Nat) : Prop := ∃ (pre : List ExceptionTableEntry) (x : ExceptionTableEntry) (suf : List ExceptionTableEntry) (nm : String), 9 ≤ E ∧ zexn[E - 9]? = some nm ∧ tableOf (zhh m) = pre ++ x :: suf ∧ (∀ z ∈ pre, z.catchType ≠ 0 ∧ ∃ n2, Cond.classLink (zy m).cls z.catchType n2 ∈ zT ∧ (nm, n2) ∈ zNcs) ∧ covers x pc = true ∧ x.catchType ≠ 0 ∧ Cond.classLink (zy m).cls x.catchType nm ∈ zT ∧ Cond.castable nm nm ∈ zB ∧ ((decode (zby m) x.handlerPc = .ok (.astore k, 2) ∧ t = x.handlerPc + 2) ∨ (∃ k4 : Fin 4, decode (zby m) x.handlerPc = .ok (.astore_n k4, 1) ∧ (k4 : Nat) = k ∧ t = x.handlerPc + 1))
theorem zce9 : Cond.castable "java/lang/IllegalArgumentException" "java/lang/IllegalArgumentException" ∈ zB := zmB (zt1 (List.mem_of_getElem? (i := 117) rfl)) rfl
theorem zce10 : Cond.castable "java/lang/IllegalStateException" "java/lang/IllegalStateException" ∈ zB := zmB (zt1 (List.mem_of_getElem? (i := 192) rfl)) rfl
theorem zce11 : Cond.castable "java/lang/IndexOutOfBoundsException" "java/lang/IndexOutOfBoundsException" ∈ zB := zmB (zt2 (List.mem_of_getElem? (i := 156) rfl)) rfl
theorem zat9_242 : ∀ x ∈ vx_atS "DoorstepRides" 242 zC9 ["java/lang/RuntimeException", "java/lang/Exception"], x ∈ zT ∨ x ∈ zB := by decide +kernel
theorem zat10_249 : ∀ x ∈ vx_atS "DoorstepRides" 249 zC10 ["java/lang/RuntimeException", "java/lang/Exception"], x ∈ zT ∨ x ∈ zB := by decide +kernel
theorem zat11_254 : ∀ x ∈ vx_atS "DoorstepRides" 254 zC11 ["java/lang/RuntimeException", "java/lang/Exception"], x ∈ zT ∨ x ∈ zB := by decide +kernel
theorem zMd0 : zMd 0 := ⟨by decide +kernel, fun _ => zw41, fun h => absurd rfl h, Or.inr (Or.inr (Or.inr (Or.inr ⟨rfl, rfl⟩))), fun _ => rfl, rfl⟩
theorem zMd1 : zMd 1 := ⟨by decide +kernel, fun _ => zw38, fun h => absurd rfl h, Or.inr (Or.inr (Or.inr (Or.inr ⟨rfl, rfl⟩))), fun _ => rfl, rfl⟩
theorem zMd2 : zMd 2 := ⟨by decide +kernel, fun _ => zw35, fun h => absurd rfl h, Or.inr (Or.inr (Or.inr (Or.inr ⟨rfl, rfl⟩))), fun _ => rfl, rfl⟩
theorem zMd3 : zMd 3 := ⟨by decide +kernel, fun _ => zw186, fun h => absurd rfl h, Or.inl ⟨rfl, rfl⟩, fun h => absurd h (by decide +kernel), rfl⟩
theorem zMd4 : zMd 4 := ⟨by decide +kernel, fun _ => zw413, fun h => absurd rfl h, Or.inr (Or.inr (Or.inl ⟨rfl, _, rfl, Or.inl ⟨_, rfl⟩⟩)), fun h => absurd h (by decide +kernel), rfl⟩
theorem zMd5 : zMd 5 := ⟨by decide +kernel, fun _ => zw423, fun h => absurd rfl h, Or.inr (Or.inr (Or.inl ⟨rfl, _, rfl, Or.inl ⟨_, rfl⟩⟩)), fun h => absurd h (by decide +kernel), rfl⟩
theorem zMd6 : zMd 6 := ⟨by decide +kernel, fun _ => zw241, fun h => absurd rfl h, Or.inr (Or.inl ⟨rfl, rfl⟩), fun h => absurd h (by decide +kernel), rfl⟩
theorem zMd7 : zMd 7 := ⟨by decide +kernel, fun _ => zw245, fun h => absurd rfl h, Or.inr (Or.inr (Or.inr (Or.inr ⟨rfl, rfl⟩))), fun h => absurd h (by decide +kernel), rfl⟩
theorem zMd8 : zMd 8 := ⟨by decide +kernel, fun _ => zw249, fun h => absurd rfl h, Or.inr (Or.inr (Or.inl ⟨rfl, _, rfl, Or.inr ⟨_, rfl⟩⟩)), fun h => absurd h (by decide +kernel), rfl⟩
theorem zMd9 : zMd 9 := ⟨by decide +kernel, fun _ => zw253, fun h => absurd rfl h, Or.inr (Or.inr (Or.inl ⟨rfl, _, rfl, Or.inr ⟨_, rfl⟩⟩)), fun h => absurd h (by decide +kernel), rfl⟩
theorem zMd10 : zMd 10 := ⟨by decide +kernel, fun _ => zw590, fun h => absurd rfl h, Or.inr (Or.inr (Or.inr (Or.inr ⟨rfl, rfl⟩))), fun h => absurd h (by decide +kernel), rfl⟩
theorem zMd11 : zMd 11 := ⟨by decide +kernel, fun _ => zw594, fun h => absurd rfl h, Or.inr (Or.inr (Or.inr (Or.inr ⟨rfl, rfl⟩))), fun h => absurd h (by decide +kernel), rfl⟩
theorem zMd12 : zMd 12 := ⟨by decide +kernel, fun _ => zw491, fun h => absurd rfl h, Or.inr (Or.inr (Or.inr (Or.inr ⟨rfl, rfl⟩))), fun h => absurd h (by decide +kernel), rfl⟩
theorem zMd13 : zMd 13 := ⟨by decide +kernel, fun _ => zw449, fun h => absurd rfl h, Or.inr (Or.inr (Or.inl ⟨rfl, _, rfl, Or.inl ⟨_, rfl⟩⟩)), fun h => absurd h (by decide +kernel), rfl⟩
theorem zMd14 : zMd 14 := ⟨by decide +kernel, fun _ => zw453, fun h => absurd rfl h, Or.inr (Or.inr (Or.inr (Or.inr ⟨rfl, rfl⟩))), fun h => absurd h (by decide +kernel), rfl⟩
theorem zMd15 : zMd 15 := ⟨by decide +kernel, fun _ => zw439, fun h => absurd rfl h, Or.inr (Or.inl ⟨rfl, rfl⟩), fun h => absurd h (by decide +kernel), rfl⟩
theorem zMd16 : zMd 16 := ⟨by decide +kernel, fun _ => zw939, fun h => absurd rfl h, Or.inr (Or.inr (Or.inl ⟨rfl, _, rfl, Or.inl ⟨_, rfl⟩⟩)), fun h => absurd h (by decide +kernel), rfl⟩
theorem zMd17 : zMd 17 := ⟨by decide +kernel, fun _ => zw266, fun h => absurd rfl h, Or.inr (Or.inr (Or.inl ⟨rfl, _, rfl, Or.inr ⟨_, rfl⟩⟩)), fun h => absurd h (by decide +kernel), rfl⟩
theorem zMd18 : zMd 18 := ⟨by decide +kernel, fun _ => zw284, fun h => absurd rfl h, Or.inr (Or.inr (Or.inl ⟨rfl, _, rfl, Or.inr ⟨_, rfl⟩⟩)), fun h => absurd h (by decide +kernel), rfl⟩
theorem zMd19 : zMd 19 := ⟨by decide +kernel, fun _ => zw416, fun h => absurd rfl h, Or.inl ⟨rfl, rfl⟩, fun h => absurd h (by decide +kernel), rfl⟩
theorem zMd20 : zMd 20 := ⟨by decide +kernel, fun _ => zw256, fun h => absurd rfl h, Or.inl ⟨rfl, rfl⟩, fun h => absurd h (by decide +kernel), rfl⟩
theorem zMd21 : zMd 21 := ⟨by decide +kernel, fun _ => zw419, fun h => absurd rfl h, Or.inl ⟨rfl, rfl⟩, fun h => absurd h (by decide +kernel), rfl⟩
theorem zMd22 : zMd 22 := ⟨by decide +kernel, fun _ => zw27, fun h => absurd rfl h, Or.inr (Or.inr (Or.inr (Or.inr ⟨rfl, rfl⟩))), fun _ => rfl, rfl⟩
theorem zMd23 : zMd 23 := ⟨by decide +kernel, fun _ => zw41, fun h => absurd rfl h, Or.inr (Or.inr (Or.inr (Or.inr ⟨rfl, rfl⟩))), fun _ => rfl, rfl⟩
theorem zMd24 : zMd 24 := ⟨by decide +kernel, fun _ => zw623, fun h => absurd rfl h, Or.inl ⟨rfl, rfl⟩, fun h => absurd h (by decide +kernel), rfl⟩
theorem zMd25 : zMd 25 := ⟨by decide +kernel, fun _ => zw627, fun h => absurd rfl h, Or.inl ⟨rfl, rfl⟩, fun h => absurd h (by decide +kernel), rfl⟩
theorem zMd26 : zMd 26 := ⟨by decide +kernel, fun _ => zw41, fun h => absurd rfl h, Or.inr (Or.inr (Or.inr (Or.inr ⟨rfl, rfl⟩))), fun _ => rfl, rfl⟩
theorem zMd27 : zMd 27 := ⟨by decide +kernel, fun _ => zw41, fun h => absurd rfl h, Or.inr (Or.inr (Or.inr (Or.inr ⟨rfl, rfl⟩))), fun _ => rfl, rfl⟩
theorem zMd28 : zMd 28 := ⟨by decide +kernel, fun _ => zw658, fun h => absurd rfl h, Or.inr (Or.inl ⟨rfl, rfl⟩), fun h => absurd h (by decide +kernel), rfl⟩
theorem zMd29 : zMd 29 := ⟨by decide +kernel, fun _ => zw41, fun h => absurd rfl h, Or.inr (Or.inr (Or.inr (Or.inr ⟨rfl, rfl⟩))), fun _ => rfl, rfl⟩
theorem zMd30 : zMd 30 := ⟨by decide +kernel, fun _ => zw728, fun h => absurd rfl h, Or.inr (Or.inr (Or.inr (Or.inl ⟨rfl, rfl⟩))), fun h => absurd h (by decide +kernel), rfl⟩
theorem zMd31 : zMd 31 := ⟨by decide +kernel, fun _ => zw475, fun h => absurd rfl h, Or.inl ⟨rfl, rfl⟩, fun h => absurd h (by decide +kernel), rfl⟩
theorem zMd32 : zMd 32 := ⟨by decide +kernel, fun _ => zw108, fun h => absurd rfl h, Or.inl ⟨rfl, rfl⟩, fun h => absurd h (by decide +kernel), rfl⟩
theorem zMd33 : zMd 33 := ⟨by decide +kernel, fun _ => zw111, fun h => absurd rfl h, Or.inr (Or.inr (Or.inr (Or.inr ⟨rfl, rfl⟩))), fun h => absurd h (by decide +kernel), rfl⟩
theorem zMd34 : zMd 34 := ⟨by decide +kernel, fun _ => zw114, fun h => absurd rfl h, Or.inr (Or.inr (Or.inr (Or.inr ⟨rfl, rfl⟩))), fun h => absurd h (by decide +kernel), rfl⟩
theorem zMd35 : zMd 35 := ⟨by decide +kernel, fun _ => zw189, fun h => absurd rfl h, Or.inr (Or.inr (Or.inr (Or.inr ⟨rfl, rfl⟩))), fun h => absurd h (by decide +kernel), rfl⟩
theorem zMd36 : zMd 36 := ⟨by decide +kernel, fun _ => zw299, fun h => absurd rfl h, Or.inl ⟨rfl, rfl⟩, fun h => absurd h (by decide +kernel), rfl⟩
theorem zMd37 : zMd 37 := ⟨by decide +kernel, fun _ => zw302, fun h => absurd rfl h, Or.inr (Or.inr (Or.inr (Or.inr ⟨rfl, rfl⟩))), fun h => absurd h (by decide +kernel), rfl⟩
theorem zMd38 : zMd 38 := ⟨by decide +kernel, fun _ => zw306, fun h => absurd rfl h, Or.inl ⟨rfl, rfl⟩, fun h => absurd h (by decide +kernel), rfl⟩
theorem zMd39 : zMd 39 := ⟨by decide +kernel, fun _ => zw310, fun h => absurd rfl h, Or.inl ⟨rfl, rfl⟩, fun h => absurd h (by decide +kernel), rfl⟩
theorem zMd40 : zMd 40 := ⟨by decide +kernel, fun _ => zw389, fun h => absurd rfl h, Or.inr (Or.inl ⟨rfl, rfl⟩), fun h => absurd h (by decide +kernel), rfl⟩
theorem zMd41 : zMd 41 := ⟨by decide +kernel, fun _ => zw393, fun h => absurd rfl h, Or.inr (Or.inr (Or.inl ⟨rfl, _, rfl, Or.inl ⟨_, rfl⟩⟩)), fun h => absurd h (by decide +kernel), rfl⟩
theorem zMd42 : zMd 42 := ⟨by decide +kernel, fun _ => zw751, fun h => absurd rfl h, Or.inl ⟨rfl, rfl⟩, fun h => absurd h (by decide +kernel), rfl⟩
theorem zMd43 : zMd 43 := ⟨by decide +kernel, fun _ => zw635, fun h => absurd rfl h, Or.inr (Or.inr (Or.inl ⟨rfl, _, rfl, Or.inl ⟨_, rfl⟩⟩)), fun h => absurd h (by decide +kernel), rfl⟩
theorem zMd44 : zMd 44 := ⟨by decide +kernel, fun _ => zw640, fun h => absurd rfl h, Or.inr (Or.inl ⟨rfl, rfl⟩), fun h => absurd h (by decide +kernel), rfl⟩
theorem zMd45 : zMd 45 := ⟨by decide +kernel, fun _ => zw644, fun h => absurd rfl h, Or.inl ⟨rfl, rfl⟩, fun h => absurd h (by decide +kernel), rfl⟩
theorem zMd46 : zMd 46 := ⟨by decide +kernel, fun _ => zw666, fun h => absurd rfl h, Or.inr (Or.inl ⟨rfl, rfl⟩), fun h => absurd h (by decide +kernel), rfl⟩
theorem zMd47 : zMd 47 := ⟨by decide +kernel, fun _ => zw654, fun h => absurd rfl h, Or.inl ⟨rfl, rfl⟩, fun h => absurd h (by decide +kernel), rfl⟩
theorem zMd48 : zMd 48 := ⟨by decide +kernel, fun _ => zw832, fun h => absurd rfl h, Or.inr (Or.inl ⟨rfl, rfl⟩), fun h => absurd h (by decide +kernel), rfl⟩
theorem zMd49 : zMd 49 := ⟨by decide +kernel, fun _ => zw875, fun h => absurd rfl h, Or.inr (Or.inl ⟨rfl, rfl⟩), fun h => absurd h (by decide +kernel), rfl⟩
theorem zMd50 : zMd 50 := ⟨by decide +kernel, fun _ => zw674, fun h => absurd rfl h, Or.inr (Or.inr (Or.inl ⟨rfl, _, rfl, Or.inl ⟨_, rfl⟩⟩)), fun h => absurd h (by decide +kernel), rfl⟩
theorem zMd51 : zMd 51 := ⟨by decide +kernel, fun _ => zw879, fun h => absurd rfl h, Or.inr (Or.inr (Or.inl ⟨rfl, _, rfl, Or.inl ⟨_, rfl⟩⟩)), fun h => absurd h (by decide +kernel), rfl⟩
theorem zMd52 : zMd 52 := ⟨by decide +kernel, fun _ => zw888, fun h => absurd rfl h, Or.inr (Or.inr (Or.inr (Or.inr ⟨rfl, rfl⟩))), fun h => absurd h (by decide +kernel), rfl⟩
theorem zMd53 : zMd 53 := ⟨by decide +kernel, fun _ => zw892, fun h => absurd rfl h, Or.inl ⟨rfl, rfl⟩, fun h => absurd h (by decide +kernel), rfl⟩
theorem zMd54 : zMd 54 := ⟨by decide +kernel, fun _ => zw431, fun h => absurd rfl h, Or.inr (Or.inr (Or.inr (Or.inr ⟨rfl, rfl⟩))), fun h => absurd h (by decide +kernel), rfl⟩
theorem zMd55 : zMd 55 := ⟨by decide +kernel, fun _ => zw427, fun h => absurd rfl h, Or.inl ⟨rfl, rfl⟩, fun h => absurd h (by decide +kernel), rfl⟩
theorem zMd56 : zMd 56 := ⟨by decide +kernel, fun _ => zw482, fun h => absurd rfl h, Or.inl ⟨rfl, rfl⟩, fun h => absurd h (by decide +kernel), rfl⟩
theorem zMd57 : zMd 57 := ⟨by decide +kernel, fun _ => zw495, fun h => absurd rfl h, Or.inl ⟨rfl, rfl⟩, fun h => absurd h (by decide +kernel), rfl⟩
theorem zMd58 : zMd 58 := ⟨by decide +kernel, fun _ => zw508, fun h => absurd rfl h, Or.inl ⟨rfl, rfl⟩, fun h => absurd h (by decide +kernel), rfl⟩
theorem zMd59 : zMd 59 := ⟨by decide +kernel, fun _ => zw560, fun h => absurd rfl h, Or.inr (Or.inl ⟨rfl, rfl⟩), fun h => absurd h (by decide +kernel), rfl⟩
theorem zMd60 : zMd 60 := ⟨by decide +kernel, fun _ => zw631, fun h => absurd rfl h, Or.inr (Or.inl ⟨rfl, rfl⟩), fun h => absurd h (by decide +kernel), rfl⟩
theorem zMd61 : zMd 61 := ⟨by decide +kernel, fun _ => zw650, fun h => absurd rfl h, Or.inl ⟨rfl, rfl⟩, fun h => absurd h (by decide +kernel), rfl⟩
theorem zMd62 : zMd 62 := ⟨by decide +kernel, fun _ => zw670, fun h => absurd rfl h, Or.inl ⟨rfl, rfl⟩, fun h => absurd h (by decide +kernel), rfl⟩
theorem zMd63 : zMd 63 := ⟨by decide +kernel, fun _ => zw692, fun h => absurd rfl h, Or.inl ⟨rfl, rfl⟩, fun h => absurd h (by decide +kernel), rfl⟩
theorem zMd64 : zMd 64 := ⟨by decide +kernel, fun _ => zw706, fun h => absurd rfl h, Or.inl ⟨rfl, rfl⟩, fun h => absurd h (by decide +kernel), rfl⟩
theorem zMd65 : zMd 65 := ⟨by decide +kernel, fun _ => zw709, fun h => absurd rfl h, Or.inr (Or.inr (Or.inl ⟨rfl, _, rfl, Or.inl ⟨_, rfl⟩⟩)), fun h => absurd h (by decide +kernel), rfl⟩
theorem zMd66 : zMd 66 := ⟨by decide +kernel, fun _ => zw714, fun h => absurd rfl h, Or.inl ⟨rfl, rfl⟩, fun h => absurd h (by decide +kernel), rfl⟩
theorem zMd67 : zMd 67 := ⟨by decide +kernel, fun _ => zw908, fun h => absurd rfl h, Or.inl ⟨rfl, rfl⟩, fun h => absurd h (by decide +kernel), rfl⟩
theorem zMd68 : zMd 68 := ⟨by decide +kernel, fun _ => zw916, fun h => absurd rfl h, Or.inl ⟨rfl, rfl⟩, fun h => absurd h (by decide +kernel), rfl⟩
theorem zMd69 : zMd 69 := ⟨by decide +kernel, fun _ => zw921, fun h => absurd rfl h, Or.inl ⟨rfl, rfl⟩, fun h => absurd h (by decide +kernel), rfl⟩
theorem zMd70 : zMd 70 := ⟨by decide +kernel, fun _ => zw925, fun h => absurd rfl h, Or.inl ⟨rfl, rfl⟩, fun h => absurd h (by decide +kernel), rfl⟩
theorem zMd71 : zMd 71 := ⟨by decide +kernel, fun _ => zw719, fun h => absurd rfl h, Or.inl ⟨rfl, rfl⟩, fun h => absurd h (by decide +kernel), rfl⟩
theorem zMd72 : zMd 72 := ⟨by decide +kernel, fun _ => zw722, fun h => absurd rfl h, Or.inr (Or.inl ⟨rfl, rfl⟩), fun h => absurd h (by decide +kernel), rfl⟩
theorem zMd73 : zMd 73 := ⟨by decide +kernel, fun _ => zw323, fun h => absurd rfl h, Or.inr (Or.inr (Or.inr (Or.inr ⟨rfl, rfl⟩))), fun _ => rfl, rfl⟩
theorem zMd74 : zMd 74 := ⟨by decide +kernel, fun _ => zw528, fun h => absurd rfl h, Or.inr (Or.inr (Or.inr (Or.inr ⟨rfl, rfl⟩))), fun h => absurd h (by decide +kernel), rfl⟩
theorem zMd75 : zMd 75 := ⟨by decide +kernel, fun _ => zw543, fun h => absurd rfl h, Or.inr (Or.inr (Or.inr (Or.inr ⟨rfl, rfl⟩))), fun h => absurd h (by decide +kernel), rfl⟩
theorem zMd76 : zMd 76 := ⟨by decide +kernel, fun _ => zw602, fun h => absurd rfl h, Or.inr (Or.inl ⟨rfl, rfl⟩), fun h => absurd h (by decide +kernel), rfl⟩
theorem zMd77 : zMd 77 := ⟨by decide +kernel, fun _ => zw607, fun h => absurd rfl h, Or.inr (Or.inl ⟨rfl, rfl⟩), fun h => absurd h (by decide +kernel), rfl⟩
theorem zMd78 : zMd 78 := ⟨by decide +kernel, fun _ => zw548, fun h => absurd rfl h, Or.inl ⟨rfl, rfl⟩, fun h => absurd h (by decide +kernel), rfl⟩
theorem zMd79 : zMd 79 := ⟨by decide +kernel, fun _ => zw683, fun h => absurd rfl h, Or.inr (Or.inl ⟨rfl, rfl⟩), fun h => absurd h (by decide +kernel), rfl⟩
theorem zMd80 : zMd 80 := ⟨by decide +kernel, fun _ => zw687, fun h => absurd rfl h, Or.inr (Or.inl ⟨rfl, rfl⟩), fun h => absurd h (by decide +kernel), rfl⟩
theorem zMd81 : zMd 81 := ⟨by decide +kernel, fun _ => zw732, fun h => absurd rfl h, Or.inl ⟨rfl, rfl⟩, fun h => absurd h (by decide +kernel), rfl⟩
theorem zMd82 : zMd 82 := ⟨by decide +kernel, fun _ => zw755, fun h => absurd rfl h, Or.inr (Or.inr (Or.inr (Or.inr ⟨rfl, rfl⟩))), fun _ => rfl, rfl⟩
theorem zMd83 : zMd 83 := ⟨by decide +kernel, fun _ => zw828, fun h => absurd rfl h, Or.inr (Or.inr (Or.inr (Or.inr ⟨rfl, rfl⟩))), fun h => absurd h (by decide +kernel), rfl⟩
theorem zMd84 : zMd 84 := ⟨by decide +kernel, fun _ => zw662, fun h => absurd rfl h, Or.inr (Or.inl ⟨rfl, rfl⟩), fun h => absurd h (by decide +kernel), rfl⟩
theorem zMd85 : zMd 85 := ⟨by decide +kernel, fun _ => zw556, fun h => absurd rfl h, Or.inl ⟨rfl, rfl⟩, fun h => absurd h (by decide +kernel), rfl⟩
theorem zMd86 : zMd 86 := ⟨by decide +kernel, fun _ => zw679, fun h => absurd rfl h, Or.inl ⟨rfl, rfl⟩, fun h => absurd h (by decide +kernel), rfl⟩
theorem zMd87 : zMd 87 := ⟨by decide +kernel, fun _ => zw210, fun h => absurd rfl h, Or.inr (Or.inr (Or.inr (Or.inr ⟨rfl, rfl⟩))), fun _ => rfl, rfl⟩
theorem zMd88 : zMd 88 := ⟨by decide +kernel, fun _ => zw61, fun h => absurd rfl h, Or.inr (Or.inr (Or.inr (Or.inr ⟨rfl, rfl⟩))), fun _ => rfl, rfl⟩
theorem zMd89 : zMd 89 := ⟨by decide +kernel, fun _ => zw570, fun h => absurd rfl h, Or.inr (Or.inl ⟨rfl, rfl⟩), fun h => absurd h (by decide +kernel), rfl⟩
theorem zMd90 : zMd 90 := ⟨by decide +kernel, fun _ => zw577, fun h => absurd rfl h, Or.inr (Or.inr (Or.inr (Or.inr ⟨rfl, rfl⟩))), fun h => absurd h (by decide +kernel), rfl⟩
theorem zMd91 : zMd 91 := ⟨by decide +kernel, fun _ => zw612, fun h => absurd rfl h, Or.inr (Or.inr (Or.inr (Or.inr ⟨rfl, rfl⟩))), fun h => absurd h (by decide +kernel), rfl⟩
theorem zMd92 : zMd 92 := ⟨by decide +kernel, fun _ => zw836, fun h => absurd rfl h, Or.inr (Or.inr (Or.inr (Or.inr ⟨rfl, rfl⟩))), fun _ => rfl, rfl⟩
theorem zMd93 : zMd 93 := ⟨by decide +kernel, fun _ => zw552, fun h => absurd rfl h, Or.inr (Or.inl ⟨rfl, rfl⟩), fun h => absurd h (by decide +kernel), rfl⟩
theorem zMd94 : zMd 94 := ⟨by decide +kernel, fun _ => zw445, fun h => absurd rfl h, Or.inr (Or.inl ⟨rfl, rfl⟩), fun h => absurd h (by decide +kernel), rfl⟩
theorem zMd95 : zMd 95 := ⟨by decide +kernel, fun _ => zw503, fun h => absurd rfl h, Or.inr (Or.inr (Or.inr (Or.inr ⟨rfl, rfl⟩))), fun h => absurd h (by decide +kernel), rfl⟩
theorem zMd96 : zMd 96 := ⟨by decide +kernel, fun _ => zw315, fun h => absurd rfl h, Or.inr (Or.inr (Or.inr (Or.inr ⟨rfl, rfl⟩))), fun _ => rfl, rfl⟩
theorem zMd97 : zMd 97 := ⟨by decide +kernel, fun _ => zw581, fun h => absurd rfl h, Or.inr (Or.inl ⟨rfl, rfl⟩), fun h => absurd h (by decide +kernel), rfl⟩
theorem zMd98 : zMd 98 := ⟨by decide +kernel, fun _ => zw585, fun h => absurd rfl h, Or.inl ⟨rfl, rfl⟩, fun h => absurd h (by decide +kernel), rfl⟩
theorem zMd99 : zMd 99 := ⟨by decide +kernel, fun _ => zw516, fun h => absurd rfl h, Or.inl ⟨rfl, rfl⟩, fun h => absurd h (by decide +kernel), rfl⟩
theorem zMd100 : zMd 100 := ⟨by decide +kernel, fun _ => zw598, fun h => absurd rfl h, Or.inr (Or.inl ⟨rfl, rfl⟩), fun h => absurd h (by decide +kernel), rfl⟩
theorem zMd101 : zMd 101 := ⟨by decide +kernel, fun _ => zw533, fun h => absurd rfl h, Or.inl ⟨rfl, rfl⟩, fun h => absurd h (by decide +kernel), rfl⟩
theorem zMd102 : zMd 102 := ⟨by decide +kernel, fun _ => zw617, fun h => absurd rfl h, Or.inr (Or.inr (Or.inr (Or.inr ⟨rfl, rfl⟩))), fun h => absurd h (by decide +kernel), rfl⟩
theorem zMd103 : zMd 103 := ⟨by decide +kernel, fun _ => zw883, fun h => absurd rfl h, Or.inr (Or.inl ⟨rfl, rfl⟩), fun h => absurd h (by decide +kernel), rfl⟩
theorem zMd104 : zMd 104 := ⟨by decide +kernel, fun _ => zw468, fun h => absurd rfl h, Or.inr (Or.inr (Or.inr (Or.inr ⟨rfl, rfl⟩))), fun h => absurd h (by decide +kernel), rfl⟩
theorem zMd105 : zMd 105 := ⟨by decide +kernel, fun _ => zw435, fun h => absurd rfl h, Or.inr (Or.inr (Or.inr (Or.inr ⟨rfl, rfl⟩))), fun h => absurd h (by decide +kernel), rfl⟩
theorem zMd106 : zMd 106 := ⟨by decide +kernel, fun _ => zw459, fun h => absurd rfl h, Or.inr (Or.inr (Or.inr (Or.inr ⟨rfl, rfl⟩))), fun h => absurd h (by decide +kernel), rfl⟩
theorem zMd107 : zMd 107 := ⟨by decide +kernel, fun _ => zw464, fun h => absurd rfl h, Or.inr (Or.inr (Or.inr (Or.inr ⟨rfl, rfl⟩))), fun h => absurd h (by decide +kernel), rfl⟩
theorem zMd108 : zMd 108 := ⟨by decide +kernel, fun _ => zw472, fun h => absurd rfl h, Or.inr (Or.inr (Or.inr (Or.inr ⟨rfl, rfl⟩))), fun h => absurd h (by decide +kernel), rfl⟩
theorem zMd109 : zMd 109 := ⟨by decide +kernel, fun _ => zw487, fun h => absurd rfl h, Or.inr (Or.inr (Or.inr (Or.inr ⟨rfl, rfl⟩))), fun h => absurd h (by decide +kernel), rfl⟩
theorem zMd110 : zMd 110 := ⟨by decide +kernel, fun _ => zw499, fun h => absurd rfl h, Or.inl ⟨rfl, rfl⟩, fun h => absurd h (by decide +kernel), rfl⟩
theorem zMd111 : zMd 111 := ⟨by decide +kernel, fun _ => zw512, fun h => absurd rfl h, Or.inr (Or.inr (Or.inr (Or.inr ⟨rfl, rfl⟩))), fun h => absurd h (by decide +kernel), rfl⟩
theorem zMd112 : zMd 112 := ⟨by decide +kernel, fun _ => zw520, fun h => absurd rfl h, Or.inr (Or.inl ⟨rfl, rfl⟩), fun h => absurd h (by decide +kernel), rfl⟩
theorem zMd113 : zMd 113 := ⟨by decide +kernel, fun _ => zw524, fun h => absurd rfl h, Or.inl ⟨rfl, rfl⟩, fun h => absurd h (by decide +kernel), rfl⟩
theorem zMd114 : zMd 114 := ⟨by decide +kernel, fun _ => zw564, fun h => absurd rfl h, Or.inl ⟨rfl, rfl⟩, fun h => absurd h (by decide +kernel), rfl⟩
theorem zMd115 : zMd 115 := ⟨by decide +kernel, fun _ => zw696, fun h => absurd rfl h, Or.inl ⟨rfl, rfl⟩, fun h => absurd h (by decide +kernel), rfl⟩
theorem zMd116 : zMd 116 := ⟨by decide +kernel, fun _ => zw701, fun h => absurd rfl h, Or.inl ⟨rfl, rfl⟩, fun h => absurd h (by decide +kernel), rfl⟩
theorem zMd117 : zMd 117 := ⟨by decide +kernel, fun _ => zw912, fun h => absurd rfl h, Or.inl ⟨rfl, rfl⟩, fun h => absurd h (by decide +kernel), rfl⟩
theorem zMd118 : zMd 118 := ⟨by decide +kernel, fun _ => zw930, fun h => absurd rfl h, Or.inr (Or.inl ⟨rfl, rfl⟩), fun h => absurd h (by decide +kernel), rfl⟩
theorem zMd119 : zMd 119 := ⟨by decide +kernel, fun _ => zw935, fun h => absurd rfl h, Or.inr (Or.inr (Or.inr (Or.inr ⟨rfl, rfl⟩))), fun h => absurd h (by decide +kernel), rfl⟩
theorem zMd120 : zMd 120 := ⟨by decide +kernel, fun _ => zw736, fun h => absurd rfl h, Or.inl ⟨rfl, rfl⟩, fun h => absurd h (by decide +kernel), rfl⟩
theorem zMd121 : zMd 121 := ⟨by decide +kernel, fun _ => zw747, fun h => absurd rfl h, Or.inl ⟨rfl, rfl⟩, fun h => absurd h (by decide +kernel), rfl⟩
theorem zMd122 : zMd 122 := ⟨by decide +kernel, fun h => absurd h (by decide +kernel), fun _ => zw742, Or.inl ⟨rfl, rfl⟩, fun h => absurd h (by decide +kernel), rfl⟩
theorem zMd123 : zMd 123 := ⟨by decide +kernel, fun _ => zw895, fun h => absurd rfl h, Or.inl ⟨rfl, rfl⟩, fun h => absurd h (by decide +kernel), rfl⟩
theorem zMd124 : zMd 124 := ⟨by decide +kernel, fun _ => zw898, fun h => absurd rfl h, Or.inl ⟨rfl, rfl⟩, fun h => absurd h (by decide +kernel), rfl⟩
theorem zMd125 : zMd 125 := ⟨by decide +kernel, fun _ => zw904, fun h => absurd rfl h, Or.inl ⟨rfl, rfl⟩, fun h => absurd h (by decide +kernel), rfl⟩
theorem zMd126 : zMd 126 := ⟨by decide +kernel, fun _ => zw901, fun h => absurd rfl h, Or.inr (Or.inl ⟨rfl, rfl⟩), fun h => absurd h (by decide +kernel), rfl⟩
theorem zMd127 : zMd 127 := ⟨by decide +kernel, fun _ => zw41, fun h => absurd rfl h, Or.inr (Or.inr (Or.inr (Or.inr ⟨rfl, rfl⟩))), fun _ => rfl, rfl⟩
theorem zMd128 : zMd 128 := ⟨by decide +kernel, fun _ => zw41, fun h => absurd rfl h, Or.inr (Or.inr (Or.inr (Or.inr ⟨rfl, rfl⟩))), fun _ => rfl, rfl⟩
theorem zMd129 : zMd 129 := ⟨by decide +kernel, fun _ => zw41, fun h => absurd rfl h, Or.inr (Or.inr (Or.inr (Or.inr ⟨rfl, rfl⟩))), fun _ => rfl, rfl⟩
theorem zMd130 : zMd 130 := ⟨by decide +kernel, fun _ => zw41, fun h => absurd rfl h, Or.inr (Or.inr (Or.inr (Or.inr ⟨rfl, rfl⟩))), fun _ => rfl, rfl⟩
theorem zMd131 : zMd 131 := ⟨by decide +kernel, fun _ => zw41, fun h => absurd rfl h, Or.inr (Or.inr (Or.inr (Or.inr ⟨rfl, rfl⟩))), fun _ => rfl, rfl⟩
theorem zMd132 : zMd 132 := ⟨by decide +kernel, fun _ => zw41, fun h => absurd rfl h, Or.inr (Or.inr (Or.inr (Or.inr ⟨rfl, rfl⟩))), fun _ => rfl, rfl⟩
theorem zMd133 : zMd 133 := ⟨by decide +kernel, fun _ => zw41, fun h => absurd rfl h, Or.inr (Or.inr (Or.inr (Or.inr ⟨rfl, rfl⟩))), fun _ => rfl, rfl⟩
theorem zMd134 : zMd 134 := ⟨by decide +kernel, fun _ => zw41, fun h => absurd rfl h, Or.inr (Or.inr (Or.inr (Or.inr ⟨rfl, rfl⟩))), fun _ => rfl, rfl⟩
theorem zMd135 : zMd 135 := ⟨by decide +kernel, fun _ => zw41, fun h => absurd rfl h, Or.inr (Or.inr (Or.inr (Or.inr ⟨rfl, rfl⟩))), fun _ => rfl, rfl⟩
theorem zMd136 : zMd 136 := ⟨by decide +kernel, fun _ => zw41, fun h => absurd rfl h, Or.inr (Or.inr (Or.inr (Or.inr ⟨rfl, rfl⟩))), fun _ => rfl, rfl⟩
theorem zMd137 : zMd 137 := ⟨by decide +kernel, fun _ => zw41, fun h => absurd rfl h, Or.inr (Or.inr (Or.inr (Or.inr ⟨rfl, rfl⟩))), fun _ => rfl, rfl⟩
theorem zMd138 : zMd 138 := ⟨by decide +kernel, fun _ => zw41, fun h => absurd rfl h, Or.inr (Or.inr (Or.inr (Or.inr ⟨rfl, rfl⟩))), fun _ => rfl, rfl⟩
theorem zMd139 : zMd 139 := ⟨by decide +kernel, fun _ => zw41, fun h => absurd rfl h, Or.inr (Or.inr (Or.inr (Or.inr ⟨rfl, rfl⟩))), fun _ => rfl, rfl⟩
theorem zMd140 : zMd 140 := ⟨by decide +kernel, fun _ => zw41, fun h => absurd rfl h, Or.inr (Or.inr (Or.inr (Or.inr ⟨rfl, rfl⟩))), fun _ => rfl, rfl⟩
theorem zMd141 : zMd 141 := ⟨by decide +kernel, fun _ => zw41, fun h => absurd rfl h, Or.inr (Or.inr (Or.inr (Or.inr ⟨rfl, rfl⟩))), fun _ => rfl, rfl⟩
theorem zMd142 : zMd 142 := ⟨by decide +kernel, fun _ => zw41, fun h => absurd rfl h, Or.inr (Or.inr (Or.inr (Or.inr ⟨rfl, rfl⟩))), fun _ => rfl, rfl⟩
theorem zMd143 : zMd 143 := ⟨by decide +kernel, fun _ => zw41, fun h => absurd rfl h, Or.inr (Or.inr (Or.inr (Or.inr ⟨rfl, rfl⟩))), fun _ => rfl, rfl⟩
theorem zMd144 : zMd 144 := ⟨by decide +kernel, fun _ => zw41, fun h => absurd rfl h, Or.inr (Or.inr (Or.inr (Or.inr ⟨rfl, rfl⟩))), fun _ => rfl, rfl⟩
theorem zMd145 : zMd 145 := ⟨by decide +kernel, fun _ => zw41, fun h => absurd rfl h, Or.inr (Or.inr (Or.inr (Or.inr ⟨rfl, rfl⟩))), fun _ => rfl, rfl⟩
theorem zMd146 : zMd 146 := ⟨by decide +kernel, fun _ => zw41, fun h => absurd rfl h, Or.inr (Or.inr (Or.inr (Or.inr ⟨rfl, rfl⟩))), fun _ => rfl, rfl⟩
theorem zMd147 : zMd 147 := ⟨by decide +kernel, fun _ => zw41, fun h => absurd rfl h, Or.inr (Or.inr (Or.inr (Or.inr ⟨rfl, rfl⟩))), fun _ => rfl, rfl⟩
theorem zMd148 : zMd 148 := ⟨by decide +kernel, fun _ => zw41, fun h => absurd rfl h, Or.inr (Or.inr (Or.inr (Or.inr ⟨rfl, rfl⟩))), fun _ => rfl, rfl⟩
theorem zMd149 : zMd 149 := ⟨by decide +kernel, fun _ => zw41, fun h => absurd rfl h, Or.inr (Or.inr (Or.inr (Or.inr ⟨rfl, rfl⟩))), fun _ => rfl, rfl⟩
theorem zMd150 : zMd 150 := ⟨by decide +kernel, fun _ => zw41, fun h => absurd rfl h, Or.inr (Or.inr (Or.inr (Or.inr ⟨rfl, rfl⟩))), fun _ => rfl, rfl⟩
theorem zMd151 : zMd 151 := ⟨by decide +kernel, fun _ => zw41, fun h => absurd rfl h, Or.inr (Or.inr (Or.inr (Or.inr ⟨rfl, rfl⟩))), fun _ => rfl, rfl⟩
theorem zMd152 : zMd 152 := ⟨by decide +kernel, fun _ => zw41, fun h => absurd rfl h, Or.inr (Or.inr (Or.inr (Or.inr ⟨rfl, rfl⟩))), fun _ => rfl, rfl⟩
theorem zMd153 : zMd 153 := ⟨by decide +kernel, fun _ => zw41, fun h => absurd rfl h, Or.inr (Or.inr (Or.inr (Or.inr ⟨rfl, rfl⟩))), fun _ => rfl, rfl⟩
theorem zMd154 : zMd 154 := ⟨by decide +kernel, fun _ => zw41, fun h => absurd rfl h, Or.inr (Or.inr (Or.inr (Or.inr ⟨rfl, rfl⟩))), fun _ => rfl, rfl⟩
theorem zMd155 : zMd 155 := ⟨by decide +kernel, fun _ => zw41, fun h => absurd rfl h, Or.inr (Or.inr (Or.inr (Or.inr ⟨rfl, rfl⟩))), fun _ => rfl, rfl⟩
theorem zMd156 : zMd 156 := ⟨by decide +kernel, fun _ => zw41, fun h => absurd rfl h, Or.inr (Or.inr (Or.inr (Or.inr ⟨rfl, rfl⟩))), fun _ => rfl, rfl⟩
theorem zMd157 : zMd 157 := ⟨by decide +kernel, fun _ => zw41, fun h => absurd rfl h, Or.inr (Or.inr (Or.inr (Or.inr ⟨rfl, rfl⟩))), fun _ => rfl, rfl⟩
theorem zMd158 : zMd 158 := ⟨by decide +kernel, fun _ => zw41, fun h => absurd rfl h, Or.inr (Or.inr (Or.inr (Or.inr ⟨rfl, rfl⟩))), fun _ => rfl, rfl⟩
theorem zMd159 : zMd 159 := ⟨by decide +kernel, fun _ => zw41, fun h => absurd rfl h, Or.inr (Or.inr (Or.inr (Or.inr ⟨rfl, rfl⟩))), fun _ => rfl, rfl⟩
theorem zMd160 : zMd 160 := ⟨by decide +kernel, fun _ => zw41, fun h => absurd rfl h, Or.inr (Or.inr (Or.inr (Or.inr ⟨rfl, rfl⟩))), fun _ => rfl, rfl⟩
theorem zMd161 : zMd 161 := ⟨by decide +kernel, fun _ => zw41, fun h => absurd rfl h, Or.inr (Or.inr (Or.inr (Or.inr ⟨rfl, rfl⟩))), fun _ => rfl, rfl⟩
theorem zMd162 : zMd 162 := ⟨by decide +kernel, fun _ => zw41, fun h => absurd rfl h, Or.inr (Or.inr (Or.inr (Or.inr ⟨rfl, rfl⟩))), fun _ => rfl, rfl⟩
theorem zMd163 : zMd 163 := ⟨by decide +kernel, fun _ => zw41, fun h => absurd rfl h, Or.inr (Or.inr (Or.inr (Or.inr ⟨rfl, rfl⟩))), fun _ => rfl, rfl⟩
theorem zMd164 : zMd 164 := ⟨by decide +kernel, fun _ => zw41, fun h => absurd rfl h, Or.inr (Or.inr (Or.inr (Or.inr ⟨rfl, rfl⟩))), fun _ => rfl, rfl⟩
theorem zMd165 : zMd 165 := ⟨by decide +kernel, fun _ => zw41, fun h => absurd rfl h, Or.inr (Or.inr (Or.inr (Or.inr ⟨rfl, rfl⟩))), fun _ => rfl, rfl⟩
theorem zMd166 : zMd 166 := ⟨by decide +kernel, fun _ => zw41, fun h => absurd rfl h, Or.inr (Or.inr (Or.inr (Or.inr ⟨rfl, rfl⟩))), fun _ => rfl, rfl⟩
theorem zMd167 : zMd 167 := ⟨by decide +kernel, fun _ => zw41, fun h => absurd rfl h, Or.inr (Or.inr (Or.inr (Or.inr ⟨rfl, rfl⟩))), fun _ => rfl, rfl⟩
theorem zMd168 : zMd 168 := ⟨by decide +kernel, fun _ => zw41, fun h => absurd rfl h, Or.inr (Or.inr (Or.inr (Or.inr ⟨rfl, rfl⟩))), fun _ => rfl, rfl⟩
theorem zMd169 : zMd 169 := ⟨by decide +kernel, fun _ => zw41, fun h => absurd rfl h, Or.inr (Or.inr (Or.inr (Or.inr ⟨rfl, rfl⟩))), fun _ => rfl, rfl⟩
theorem zMd170 : zMd 170 := ⟨by decide +kernel, fun _ => zw41, fun h => absurd rfl h, Or.inr (Or.inr (Or.inr (Or.inr ⟨rfl, rfl⟩))), fun _ => rfl, rfl⟩
theorem zMd171 : zMd 171 := ⟨by decide +kernel, fun _ => zw41, fun h => absurd rfl h, Or.inr (Or.inr (Or.inr (Or.inr ⟨rfl, rfl⟩))), fun _ => rfl, rfl⟩
theorem zMd172 : zMd 172 := ⟨by decide +kernel, fun _ => zw41, fun h => absurd rfl h, Or.inr (Or.inr (Or.inr (Or.inr ⟨rfl, rfl⟩))), fun _ => rfl, rfl⟩
theorem zMd173 : zMd 173 := ⟨by decide +kernel, fun _ => zw41, fun h => absurd rfl h, Or.inr (Or.inr (Or.inr (Or.inr ⟨rfl, rfl⟩))), fun _ => rfl, rfl⟩
theorem zMd174 : zMd 174 := ⟨by decide +kernel, fun _ => zw41, fun h => absurd rfl h, Or.inr (Or.inr (Or.inr (Or.inr ⟨rfl, rfl⟩))), fun _ => rfl, rfl⟩
theorem zMd175 : zMd 175 := ⟨by decide +kernel, fun _ => zw41, fun h => absurd rfl h, Or.inr (Or.inr (Or.inr (Or.inr ⟨rfl, rfl⟩))), fun _ => rfl, rfl⟩
theorem zMd176 : zMd 176 := ⟨by decide +kernel, fun _ => zw41, fun h => absurd rfl h, Or.inr (Or.inr (Or.inr (Or.inr ⟨rfl, rfl⟩))), fun _ => rfl, rfl⟩
theorem zMd177 : zMd 177 := ⟨by decide +kernel, fun _ => zw41, fun h => absurd rfl h, Or.inr (Or.inr (Or.inr (Or.inr ⟨rfl, rfl⟩))), fun _ => rfl, rfl⟩
theorem zMd178 : zMd 178 := ⟨by decide +kernel, fun _ => zw41, fun h => absurd rfl h, Or.inr (Or.inr (Or.inr (Or.inr ⟨rfl, rfl⟩))), fun _ => rfl, rfl⟩
theorem zMd179 : zMd 179 := ⟨by decide +kernel, fun _ => zw41, fun h => absurd rfl h, Or.inr (Or.inr (Or.inr (Or.inr ⟨rfl, rfl⟩))), fun _ => rfl, rfl⟩
theorem zMd180 : zMd 180 := ⟨by decide +kernel, fun _ => zw41, fun h => absurd rfl h, Or.inr (Or.inr (Or.inr (Or.inr ⟨rfl, rfl⟩))), fun _ => rfl, rfl⟩
theorem zMd181 : zMd 181 := ⟨by decide +kernel, fun _ => zw41, fun h => absurd rfl h, Or.inr (Or.inr (Or.inr (Or.inr ⟨rfl, rfl⟩))), fun _ => rfl, rfl⟩
theorem zMd182 : zMd 182 := ⟨by decide +kernel, fun _ => zw41, fun h => absurd rfl h, Or.inr (Or.inr (Or.inr (Or.inr ⟨rfl, rfl⟩))), fun _ => rfl, rfl⟩
theorem zMd183 : zMd 183 := ⟨by decide +kernel, fun _ => zw41, fun h => absurd rfl h, Or.inr (Or.inr (Or.inr (Or.inr ⟨rfl, rfl⟩))), fun _ => rfl, rfl⟩
theorem zMd184 : zMd 184 := ⟨by decide +kernel, fun _ => zw41, fun h => absurd rfl h, Or.inr (Or.inr (Or.inr (Or.inr ⟨rfl, rfl⟩))), fun _ => rfl, rfl⟩
theorem zMd185 : zMd 185 := ⟨by decide +kernel, fun _ => zw41, fun h => absurd rfl h, Or.inr (Or.inr (Or.inr (Or.inr ⟨rfl, rfl⟩))), fun _ => rfl, rfl⟩
theorem zMd186 : zMd 186 := ⟨by decide +kernel, fun _ => zw41, fun h => absurd rfl h, Or.inr (Or.inr (Or.inr (Or.inr ⟨rfl, rfl⟩))), fun _ => rfl, rfl⟩
theorem zMd187 : zMd 187 := ⟨by decide +kernel, fun _ => zw41, fun h => absurd rfl h, Or.inr (Or.inr (Or.inr (Or.inr ⟨rfl, rfl⟩))), fun _ => rfl, rfl⟩
theorem zMd188 : zMd 188 := ⟨by decide +kernel, fun _ => zw41, fun h => absurd rfl h, Or.inr (Or.inr (Or.inr (Or.inr ⟨rfl, rfl⟩))), fun _ => rfl, rfl⟩
theorem zMd189 : zMd 189 := ⟨by decide +kernel, fun _ => zw41, fun h => absurd rfl h, Or.inr (Or.inr (Or.inr (Or.inr ⟨rfl, rfl⟩))), fun _ => rfl, rfl⟩
theorem zMd190 : zMd 190 := ⟨by decide +kernel, fun _ => zw41, fun h => absurd rfl h, Or.inr (Or.inr (Or.inr (Or.inr ⟨rfl, rfl⟩))), fun _ => rfl, rfl⟩
theorem zMd191 : zMd 191 := ⟨by decide +kernel, fun _ => zw41, fun h => absurd rfl h, Or.inr (Or.inr (Or.inr (Or.inr ⟨rfl, rfl⟩))), fun _ => rfl, rfl⟩
theorem zMd192 : zMd 192 := ⟨by decide +kernel, fun _ => zw41, fun h => absurd rfl h, Or.inr (Or.inr (Or.inr (Or.inr ⟨rfl, rfl⟩))), fun _ => rfl, rfl⟩
theorem zMd193 : zMd 193 := ⟨by decide +kernel, fun _ => zw41, fun h => absurd rfl h, Or.inr (Or.inr (Or.inr (Or.inr ⟨rfl, rfl⟩))), fun _ => rfl, rfl⟩
theorem zMd194 : zMd 194 := ⟨by decide +kernel, fun _ => zw41, fun h => absurd rfl h, Or.inr (Or.inr (Or.inr (Or.inr ⟨rfl, rfl⟩))), fun _ => rfl, rfl⟩
theorem zMd195 : zMd 195 := ⟨by decide +kernel, fun _ => zw41, fun h => absurd rfl h, Or.inr (Or.inr (Or.inr (Or.inr ⟨rfl, rfl⟩))), fun _ => rfl, rfl⟩
theorem zMd196 : zMd 196 := ⟨by decide +kernel, fun _ => zw41, fun h => absurd rfl h, Or.inr (Or.inr (Or.inr (Or.inr ⟨rfl, rfl⟩))), fun _ => rfl, rfl⟩
theorem zMd197 : zMd 197 := ⟨by decide +kernel, fun _ => zw41, fun h => absurd rfl h, Or.inr (Or.inr (Or.inr (Or.inr ⟨rfl, rfl⟩))), fun _ => rfl, rfl⟩
theorem zMd198 : zMd 198 := ⟨by decide +kernel, fun _ => zw41, fun h => absurd rfl h, Or.inr (Or.inr (Or.inr (Or.inr ⟨rfl, rfl⟩))), fun _ => rfl, rfl⟩
theorem zMd199 : zMd 199 := ⟨by decide +kernel, fun _ => zw41, fun h => absurd rfl h, Or.inr (Or.inr (Or.inr (Or.inr ⟨rfl, rfl⟩))), fun _ => rfl, rfl⟩
theorem zMd200 : zMd 200 := ⟨by decide +kernel, fun _ => zw41, fun h => absurd rfl h, Or.inr (Or.inr (Or.inr (Or.inr ⟨rfl, rfl⟩))), fun _ => rfl, rfl⟩
theorem zMd201 : zMd 201 := ⟨by decide +kernel, fun _ => zw41, fun h => absurd rfl h, Or.inr (Or.inr (Or.inr (Or.inr ⟨rfl, rfl⟩))), fun _ => rfl, rfl⟩
theorem zMd202 : zMd 202 := ⟨by decide +kernel, fun _ => zw41, fun h => absurd rfl h, Or.inr (Or.inr (Or.inr (Or.inr ⟨rfl, rfl⟩))), fun _ => rfl, rfl⟩
theorem zMd203 : zMd 203 := ⟨by decide +kernel, fun _ => zw41, fun h => absurd rfl h, Or.inr (Or.inr (Or.inr (Or.inr ⟨rfl, rfl⟩))), fun _ => rfl, rfl⟩
theorem zMd204 : zMd 204 := ⟨by decide +kernel, fun _ => zw41, fun h => absurd rfl h, Or.inr (Or.inr (Or.inr (Or.inr ⟨rfl, rfl⟩))), fun _ => rfl, rfl⟩
theorem zMd205 : zMd 205 := ⟨by decide +kernel, fun _ => zw41, fun h => absurd rfl h, Or.inr (Or.inr (Or.inr (Or.inr ⟨rfl, rfl⟩))), fun _ => rfl, rfl⟩
theorem zMd206 : zMd 206 := ⟨by decide +kernel, fun _ => zw41, fun h => absurd rfl h, Or.inr (Or.inr (Or.inr (Or.inr ⟨rfl, rfl⟩))), fun _ => rfl, rfl⟩
theorem zMd207 : zMd 207 := ⟨by decide +kernel, fun _ => zw41, fun h => absurd rfl h, Or.inr (Or.inr (Or.inr (Or.inr ⟨rfl, rfl⟩))), fun _ => rfl, rfl⟩
theorem zMd208 : zMd 208 := ⟨by decide +kernel, fun _ => zw41, fun h => absurd rfl h, Or.inr (Or.inr (Or.inr (Or.inr ⟨rfl, rfl⟩))), fun _ => rfl, rfl⟩
theorem zMd209 : zMd 209 := ⟨by decide +kernel, fun _ => zw41, fun h => absurd rfl h, Or.inr (Or.inr (Or.inr (Or.inr ⟨rfl, rfl⟩))), fun _ => rfl, rfl⟩
theorem znd0 : zNdd 0 zK0 := zchk_mem (js := [0, 0, 0]) (by decide +kernel)
theorem znd1 : zNdd 1 zK1 := zchk_mem (js := [0, 1, 0, 0, 2, 0]) (by decide +kernel)
theorem znd2 : zNdd 2 zK2 := zchk_mem (js := [0, 3, 0, 4, 5, 0]) (by decide +kernel)
theorem znd3 : zNdd 3 zK3 := zchk_mem (js := [0, 6, 0]) (by decide +kernel)
theorem znd4 : zNdd 4 zK4 := zchk_mem (js := [0, 0, 6, 7, 0, 0, 0, 8, 0]) (by decide +kernel)
theorem znd5 : zNdd 5 zK5 := zchk_mem (js := [0, 9, 0, 0, 0]) (by decide +kernel)
theorem znd6 : zNdd 6 zK6 := zchk_mem (js := [0, 0, 10, 0, 0, 11, 0, 0, 0, 9, 0, 6, 12, 0, 0]) (by decide +kernel)
theorem znd7 : zNdd 7 zK7 := zchk_mem (js := [0, 0, 0, 0, 0, 13, 0, 0, 0, 0, 0, 0, 0, 0, 0, 14, 0]) (by decide +kernel)
theorem znd8 : zNdd 8 zK8 := zchk_mem (js := [0, 0, 6, 0, 0, 15, 0]) (by decide +kernel)
theorem znd9 : zNdd 9 zK9 := zchk_mem (js := [0, 9, 0, 0, 0, 0, 0, 9, 4, 0, 0, 0, 0, 0, 0, 0, 0, 16, 0, 0, 0, 9, 0, 17, 0, 18, 0, 0, 0, 0, 19, 20, 0, 18, 0]) (by decide +kernel)
theorem znd10 : zNdd 10 zK10 := zchk_mem (js := [0, 0, 21, 0, 0, 10, 0, 0, 11, 0, 6, 0, 0, 0, 9, 0, 0, 0, 0, 0, 13, 0, 0, 0, 0, 0, 0, 0, 0, 0, 0, 22, 0, 0, 0, 0, 0, 0, 0, 0, 14, 0]) (by decide +kernel)
theorem znd11 : zNdd 11 zK11 := zchk_mem (js := [0, 0, 6, 0, 0, 0, 0, 0, 0, 0]) (by decide +kernel)
theorem znd12 : zNdd 12 zK12 := zchk_mem (js := [0, 0, 10, 0, 0, 11, 0, 9, 0, 0, 6, 0, 0, 0, 0, 14, 0, 0, 0, 0, 0, 0, 0, 0, 0, 0, 0]) (by decide +kernel)
theorem znd13 : zNdd 13 zK13 := zchk_mem (js := [0, 0, 6, 7, 0, 0, 9, 0, 0, 0, 0, 0, 0, 0, 0, 23, 0, 0]) (by decide +kernel)
theorem znd14 : zNdd 14 zK14 := zchk_mem (js := [0, 0, 10, 0, 0, 11, 0, 6, 0, 0, 0, 0, 0, 0, 0, 0, 0, 0, 0, 0, 0, 0, 0, 22, 0, 0, 0, 0, 14, 0, 0, 0]) (by decide +kernel)
theorem znd15 : zNdd 15 zK15 := zchk_mem (js := [0, 6, 0, 0, 0, 0, 0]) (by decide +kernel)
theorem znd16 : zNdd 16 zK16 := zchk_mem (js := [0, 0, 6, 7, 0, 0, 0, 8, 0, 0, 9, 0, 0, 0, 0, 0]) (by decide +kernel)
theorem znd17 : zNdd 17 zK17 := zchk_mem (js := [0, 0, 0, 24, 25, 0]) (by decide +kernel)
theorem znd18 : zNdd 18 zK18 := zchk_mem (js := [0, 26, 0, 0, 27, 0, 0, 0, 0, 0, 0, 0, 0, 0, 0, 0, 28, 29, 0, 0]) (by decide +kernel)
theorem znd19 : zNdd 19 zK19 := zchk_mem (js := [0, 0, 0, 30, 0]) (by decide +kernel)
theorem znd20 : zNdd 20 zK20 := zchk_mem (js := [0, 0, 0, 31, 0, 0, 0, 0, 0, 0, 32, 0, 0, 0, 0, 0, 0]) (by decide +kernel)
theorem znd21 : zNdd 21 zK21 := zchk_mem (js := [0, 0, 0, 0, 0, 0, 0, 0, 0, 0]) (by decide +kernel)
theorem znd22 : zNdd 22 zK22 := zchk_mem (js := [0, 33, 0, 34, 0, 35, 36, 0, 34, 0, 35, 37, 0, 34, 0, 35, 38, 0, 34, 0, 35, 39, 0, 0, 40, 41, 0, 42, 0, 43, 44, 0, 0, 45, 0, 0, 46, 0, 0, 47, 0]) (by decide +kernel)
theorem znd23 : zNdd 23 zK23 := zchk_mem (js := [0, 0, 0]) (by decide +kernel)
theorem znd24 : zNdd 24 zK24 := zchk_mem (js := [0, 48, 0]) (by decide +kernel)
theorem znd25 : zNdd 25 zK25 := zchk_mem (js := [0, 49, 0]) (by decide +kernel)
theorem znd26 : zNdd 26 zK26 := zchk_mem (js := [0, 0, 0]) (by decide +kernel)
theorem znd27 : zNdd 27 zK27 := zchk_mem (js := [0, 0, 0]) (by decide +kernel)
theorem znd28 : zNdd 28 zK28 := zchk_mem (js := [0, 50, 0, 48, 0, 0, 0, 0, 0, 0, 0]) (by decide +kernel)
theorem znd29 : zNdd 29 zK29 := zchk_mem (js := [0, 0, 0]) (by decide +kernel)
theorem znd30 : zNdd 30 zK30 := zchk_mem (js := [0, 0, 0, 0, 0, 0, 51, 52, 0, 0, 0, 51, 0, 53, 54, 55, 0, 0, 0, 0, 0, 0, 0]) (by decide +kernel)
theorem znd31 : zNdd 31 zK31 := zchk_mem (js := [0, 0, 0, 0, 0, 0, 0, 56, 0, 0, 0, 0, 0, 0, 0, 56, 0, 0]) (by decide +kernel)
theorem znd32 : zNdd 32 zK32 := zchk_mem (js := [0, 0, 0, 57, 0, 0, 0, 57, 0, 0, 0, 57, 0, 58, 52, 0, 0, 0, 0, 0, 59, 0, 58, 60, 0, 0, 0, 0, 0, 61, 62, 0, 0, 58, 52, 0, 0, 0]) (by decide +kernel)
theorem znd33 : zNdd 33 zK33 := zchk_mem (js := [0, 0, 0, 0, 0, 0, 0, 0, 0, 63, 0]) (by decide +kernel)
theorem znd34 : zNdd 34 zK34 := zchk_mem (js := [0, 0, 999, 0]) (by decide +kernel)
theorem znd35 : zNdd 35 zK35 := zchk_mem (js := [0, 0, 999, 0]) (by decide +kernel)
theorem znd36 : zNdd 36 zK36 := zchk_mem (js := [0, 64, 0, 0, 0, 0, 65, 0, 0, 0, 65, 0, 0, 0, 0, 66, 0]) (by decide +kernel)
theorem znd37 : zNdd 37 zK37 := zchk_mem (js := [0, 0, 0, 57, 0]) (by decide +kernel)
theorem znd38 : zNdd 38 zK38 := zchk_mem (js := [0, 0, 0, 0, 0, 0, 65, 0, 0, 0, 65, 0, 0, 0, 0, 0, 0, 0, 0]) (by decide +kernel)
theorem znd39 : zNdd 39 zK39 := zchk_mem (js := [0, 64, 0, 0, 0, 57, 0, 0, 0, 57, 0, 0, 0, 57, 0, 67, 52, 0, 0, 0, 0, 0, 59, 0, 67, 68, 0, 0, 67, 52, 0, 0, 0, 0, 69, 62, 0, 0, 67, 52, 0, 0, 0]) (by decide +kernel)
theorem znd40 : zNdd 40 zK40 := zchk_mem (js := [0, 0, 70, 0, 0, 71, 0, 0, 0, 72, 0, 0]) (by decide +kernel)
theorem znd41 : zNdd 41 zK41 := zchk_mem (js := [0, 0, 0, 0, 67, 52, 0, 999, 0, 67, 0, 53, 73, 0]) (by decide +kernel)
theorem znd42_0 : zNdd 42 zK42_0 := zchk_mem (js := [0, 0, 74, 0, 0, 64, 0, 64, 0, 0, 0, 57, 0, 0, 0, 0, 0, 0, 63, 0, 51, 52, 0, 0, 0, 0, 0, 59, 75, 0, 0, 0, 0, 0, 48, 76, 0, 0, 0, 0]) (by decide +kernel)
theorem znd42_1 : zNdd 42 zK42_1 := zchk_mem (js := [0, 77, 0, 0, 0, 78, 0, 0, 0, 79, 0, 0, 0, 78, 0, 0, 0, 0, 80, 0, 0, 0, 78, 0, 51, 0, 62, 0, 0, 51, 52, 0, 0, 0]) (by decide +kernel)
theorem znd42 : zNdd 42 zK42 := (zndd_app znd42_0 znd42_1)
theorem znd43 : zNdd 43 zK43 := zchk_mem (js := [0, 0, 0, 0, 58, 52, 0, 999, 0, 58, 0, 53, 81, 0]) (by decide +kernel)
theorem znd44 : zNdd 44 zK44 := zchk_mem (js := [0, 66, 0, 0, 0, 0, 82, 0, 0, 83, 0, 0, 0, 0, 0, 0, 0, 0, 84, 0, 0, 0, 0, 84, 0, 0, 0, 85, 0, 0, 85, 0, 0, 0, 0, 0, 0, 0]) (by decide +kernel)
theorem znd45 : zNdd 45 zK45 := zchk_mem (js := [0, 0, 0, 0, 0, 0, 65, 0, 0, 0, 65, 0, 0, 0, 0, 0, 0, 86, 87, 0, 0, 0, 0, 0]) (by decide +kernel)
theorem znd46 : zNdd 46 zK46 := zchk_mem (js := [0, 0, 0, 88, 0, 0, 0, 0, 0, 0, 0, 0, 0, 0, 88, 0, 0, 0, 0, 0]) (by decide +kernel)
theorem znd47 : zNdd 47 zK47 := zchk_mem (js := [0, 0, 0, 0, 0, 0, 51, 52, 0, 0, 51, 0, 53, 54, 0, 0, 89, 0, 0, 0, 90, 0, 0, 0, 0, 0, 91, 0, 0, 0, 0, 0, 0, 0, 0, 0, 0, 92, 0, 0, 0, 0, 0, 0]) (by decide +kernel)
theorem znd48_0 : zNdd 48 zK48_0 := zchk_mem (js := [93, 0, 0, 0, 94, 0, 93, 0, 0, 0, 94, 0, 0, 0, 0, 0, 0, 0, 0, 0, 0, 0, 0, 0, 0, 0, 0, 0, 0, 0, 0, 0, 0, 0, 0, 0, 0, 0, 95, 0]) (by decide +kernel)
theorem znd48_1 : zNdd 48 zK48_1 := zchk_mem (js := [96, 0, 49, 0, 0, 96, 0, 0, 0, 0, 0, 0, 0, 0, 0, 97, 0, 67, 0, 0, 0, 49, 98, 0, 0, 0, 0, 0, 0, 0]) (by decide +kernel)
theorem znd48 : zNdd 48 zK48 := (zndd_app znd48_0 znd48_1)
theorem znd49 : zNdd 49 zK49 := zchk_mem (js := [0, 0, 99, 0, 0, 90, 0, 0, 0, 0, 59, 0, 0, 100, 0, 0, 0, 0, 0, 101, 0, 0, 0, 0, 59, 0, 0, 0, 0, 102, 0, 0, 103, 0, 0, 96, 0, 49, 0, 0, 0, 0, 0, 0, 104, 0, 92, 0]) (by decide +kernel)
theorem znd50 : zNdd 50 zK50 := zchk_mem (js := [0, 0, 0, 0, 51, 52, 0, 999, 0, 51, 0, 53, 54, 0]) (by decide +kernel)
theorem znd51 : zNdd 51 zK51 := zchk_mem (js := [0, 105, 0, 0, 0, 0, 0, 67, 52, 0, 0, 67, 0, 53, 73, 0, 0, 0]) (by decide +kernel)
theorem znd52 : zNdd 52 zK52 := zchk_mem (js := [0, 0, 99, 0, 0, 90, 0, 0, 0, 0, 59, 0, 0, 106, 0]) (by decide +kernel)
theorem znd53 : zNdd 53 zK53 := zchk_mem (js := [0, 0, 0, 57, 0, 49, 0, 0, 0, 0, 0, 0, 0, 59, 0, 0, 0, 0, 0, 0, 107, 0, 0, 0, 49, 0]) (by decide +kernel)
theorem znd54 : zNdd 54 zK54 := zchk_mem (js := [0, 0, 49, 0, 0, 108, 0, 0, 0, 0, 67, 52, 0, 0, 67, 0, 53, 73, 0, 49, 109, 0, 67, 0, 53, 73, 0, 49, 110, 0, 0, 0]) (by decide +kernel)
theorem znd55 : zNdd 55 zK55 := zchk_mem (js := [0, 48, 0, 0, 0, 0, 0, 59, 0, 0, 49, 0, 0, 0, 0, 0, 0, 0, 0, 107, 0, 0, 0, 111, 0, 0, 0, 0, 0, 67, 52, 0, 0, 67, 0, 53, 73, 112, 0, 0, 0, 0, 48, 0, 0, 113, 0, 0, 108, 0, 0]) (by decide +kernel)
theorem znd56 : zNdd 56 zK56 := zchk_mem (js := [0, 0, 0, 0, 0, 0, 51, 52, 0, 0, 51, 0, 53, 54, 0, 0, 90, 0, 0, 90, 0, 0, 0, 0, 103, 0, 0, 0, 0, 0]) (by decide +kernel)
theorem znd57 : zNdd 57 zK57 := zchk_mem (js := [0, 0, 70, 0, 0, 0, 0, 57, 0, 0, 0, 49, 114, 0]) (by decide +kernel)
theorem znd58 : zNdd 58 zK58 := zchk_mem (js := [0, 0, 70, 0, 0, 0, 115, 116, 0, 0, 0, 0, 0, 0, 115, 52, 0, 0, 115, 0, 53, 54, 0, 0, 0, 0, 49, 117, 0, 0, 0, 0, 118, 0, 0, 0, 0, 0, 0]) (by decide +kernel)
theorem znd59 : zNdd 59 zK59 := zchk_mem (js := [0, 0, 0, 119, 0, 0, 0, 0, 119, 0, 0, 0, 0, 0, 0, 0, 0, 120, 52, 0, 0, 0, 0, 120, 0, 121, 122, 0, 0, 120, 0, 121, 122, 0, 0, 97, 0, 67, 0, 0, 0, 49, 98, 0, 0, 0, 0, 0, 0, 0, 0, 123, 0, 0]) (by decide +kernel)
theorem znd60 : zNdd 60 zK60 := zchk_mem (js := [0, 0, 74, 0, 0, 64, 0, 64, 0, 0, 0, 0, 77, 0]) (by decide +kernel)
theorem znd61 : zNdd 61 zK61 := zchk_mem (js := [0, 0, 74, 0, 0, 0, 0, 57, 0, 0, 0, 0, 0, 88, 0, 0, 0, 0, 0, 0, 0, 88, 0, 0, 0, 79, 0, 0, 0, 0, 0]) (by decide +kernel)
theorem znd62 : zNdd 62 zK62 := zchk_mem (js := [0, 0, 99, 0, 0, 0, 0, 57, 0, 0, 124, 0]) (by decide +kernel)
theorem znd63 : zNdd 63 zK63 := zchk_mem (js := [0, 0, 70, 0, 0, 0, 0, 57, 0, 0, 0, 49, 125, 0]) (by decide +kernel)
theorem znd64 : zNdd 64 zK64 := zchk_mem (js := [0, 0, 70, 0, 0, 0, 126, 0, 0, 0, 0, 57, 0, 0, 0, 0, 127, 128, 0, 0, 0, 0, 0, 129, 0, 0, 0, 0, 0, 0, 0, 49, 130, 0, 0, 0, 0, 0, 131, 0, 0, 132, 0]) (by decide +kernel)
theorem znd65 : zNdd 65 zK65 := zchk_mem (js := [0, 0, 0, 0, 120, 52, 0, 999, 0, 120, 0, 53, 122, 0]) (by decide +kernel)
theorem znd66 : zNdd 66 zK66 := zchk_mem (js := [0, 0, 0, 0, 51, 52, 0, 0, 51, 0, 53, 0, 0, 0, 0, 0, 0, 0, 0]) (by decide +kernel)
theorem znd67 : zNdd 67 zK67 := zchk_mem (js := [0, 0, 70, 133, 0]) (by decide +kernel)
theorem znd68 : zNdd 68 zK68 := zchk_mem (js := [0, 0, 70, 134, 0]) (by decide +kernel)
theorem znd69 : zNdd 69 zK69 := zchk_mem (js := [0, 0, 70, 0, 0, 120, 52, 0, 0, 0, 0, 0, 0, 135, 0, 49, 0, 136, 0]) (by decide +kernel)
theorem znd70_0 : zNdd 70 zK70_0 := zchk_mem (js := [0, 120, 0, 0, 0, 52, 0, 0, 0, 0, 0, 134, 0, 0, 0, 0, 0, 0, 0, 0, 0, 0, 0, 0, 0, 0, 0, 137, 0, 0, 0, 0, 0, 0, 0, 0, 0, 0, 0, 52]) (by decide +kernel)
theorem znd70_1 : zNdd 70 zK70_1 := zchk_mem (js := [0, 0, 0, 0, 138, 0, 0, 0, 0, 139, 0, 0, 0, 0, 0, 0, 136, 0, 0, 0, 0, 139, 0, 0, 0, 0]) (by decide +kernel)
theorem znd70 : zNdd 70 zK70 := (zndd_app znd70_0 znd70_1)
theorem znd71 : zNdd 71 zK71 := zchk_mem (js := [0, 0, 0, 57, 0, 0, 0, 0, 0, 0, 51, 52, 0, 0, 51, 0, 53, 54, 0, 140, 0, 0, 0, 0, 0, 0]) (by decide +kernel)
theorem znd72 : zNdd 72 zK72 := zchk_mem (js := [0, 0, 0, 141, 0, 0, 142, 0, 0, 92, 0, 0, 90, 0, 0, 0, 0, 0, 0]) (by decide +kernel)
theorem znd73 : zNdd 73 zK73 := zchk_mem (js := [0, 143, 0, 144, 0, 145, 146, 0]) (by decide +kernel)
theorem znd74 : zNdd 74 zK74 := zchk_mem (js := [0, 0, 147, 148, 0, 0, 149, 0, 0, 0, 150, 151, 0, 0, 152, 153, 0, 154, 155, 0, 0, 0, 0, 156, 157, 0, 0, 156, 0, 158, 159, 160, 161, 0, 0, 0, 154, 0, 156, 0, 158, 159, 162, 0, 0, 0, 0]) (by decide +kernel)
theorem znd75 : zNdd 75 zK75 := zchk_mem (js := [0, 0, 0, 0, 163, 0, 164, 165, 0, 0, 0, 166, 0, 0, 167, 0, 0, 167, 0, 168, 169, 0, 0, 150, 0, 0, 0, 0, 0, 170, 0, 0, 171, 0, 168, 160, 172, 0, 173, 0, 166, 0, 0, 168, 0, 174, 175, 0, 0, 164, 148, 0, 0, 174, 151, 0]) (by decide +kernel)
theorem znd76 : zNdd 76 zK76 := zchk_mem (js := [0, 168, 160, 176, 0, 0, 0, 177, 0, 166, 0, 0, 0, 0, 0, 0, 153, 0, 178, 0, 0, 166, 0, 0, 0, 168, 179, 0, 0, 154, 0, 168, 162, 0, 0, 177, 0, 0, 0, 154, 157, 0, 0, 0, 0, 0, 0]) (by decide +kernel)
theorem znd77 : zNdd 77 zK77 := zchk_mem (js := [0, 154, 157, 0, 0, 0, 0, 0, 0, 154, 0, 158, 0, 0, 0, 0, 0, 154, 0, 180, 0, 0, 0]) (by decide +kernel)
theorem znd78 : zNdd 78 zK78 := zchk_mem (js := [0, 167, 0, 0, 163, 0, 165, 0, 0, 0]) (by decide +kernel)
theorem znd79 : zNdd 79 zK79 := zchk_mem (js := [0, 181, 0, 0, 0, 181, 0, 182, 0, 0, 0, 0, 0, 0, 0]) (by decide +kernel)
theorem znd80 : zNdd 80 zK80 := zchk_mem (js := [0, 183, 0, 0, 0, 183, 0, 184, 0, 185, 0, 0, 0, 0, 0, 0]) (by decide +kernel)
theorem znd81 : zNdd 81 zK81 := zchk_mem (js := [0, 186, 0, 0, 0, 187, 0, 0, 188, 0, 0, 0, 0, 0, 0, 189, 0, 190, 191, 0, 0, 0]) (by decide +kernel)
theorem znd82 : zNdd 82 zK82 := zchk_mem (js := [0, 192, 0, 0, 193, 0, 0, 194, 0, 0, 195, 0, 0, 196, 0, 0, 197, 0, 0, 198, 0, 0, 199, 0, 0, 200, 0, 0, 201, 0, 0, 202, 0, 0, 203, 0, 0, 0, 0, 0, 191, 0, 0, 204, 0]) (by decide +kernel)
theorem znd83 : zNdd 83 zK83 := zchk_mem (js := [0, 0, 205, 0, 0, 206, 0, 0, 207, 0]) (by decide +kernel)
theorem znd84 : zNdd 84 zK84 := zchk_mem (js := [0, 186, 0, 0, 0, 186, 0, 0, 0, 208, 0, 0, 0, 0, 0]) (by decide +kernel)
theorem znd85 : zNdd 85 zK85 := zchk_mem (js := [0, 184, 0, 0, 0, 184, 0, 0, 209, 0, 185, 0, 0]) (by decide +kernel)
theorem znd86 : zNdd 86 zK86 := zchk_mem (js := [0, 0, 0, 186, 0, 0, 210, 0, 0, 182, 0, 0, 211, 0, 0, 181, 0, 0, 184, 0, 0, 183, 0, 0, 187, 0, 0, 0, 0, 0, 0, 188, 0, 0, 0, 0, 0, 0, 212, 0, 0, 213, 0, 0, 0, 0, 0]) (by decide +kernel)
theorem znd87 : zNdd 87 zK87 := zchk_mem (js := [0, 214, 0, 0, 215, 0, 0, 216, 0, 0, 217, 0, 0, 0, 0, 0, 0, 0, 0, 0, 0, 0, 0, 0, 218, 0, 0, 0, 0, 0, 0, 0, 0, 0, 0, 0, 0, 219, 0]) (by decide +kernel)
theorem znd88 : zNdd 88 zK88 := zchk_mem (js := [0, 220, 0]) (by decide +kernel)
theorem znd89 : zNdd 89 zK89 := zchk_mem (js := [0, 0, 221, 0, 0, 0, 0, 222, 0, 0, 0, 0, 223, 224, 0, 0, 0, 225, 0, 0, 0, 226, 0, 0, 0, 0, 226, 0, 0, 227, 0, 0, 228, 229, 0, 0]) (by decide +kernel)
theorem znd90_0 : zNdd 90 zK90_0 := zchk_mem (js := [0, 0, 230, 231, 232, 0, 0, 0, 233, 0, 0, 234, 0, 0, 222, 0, 0, 235, 0, 0, 0, 0, 0, 0, 0, 236, 0, 0, 0, 0, 0, 0, 0, 0, 0, 0, 0, 0, 236, 0]) (by decide +kernel)
theorem znd90_1 : zNdd 90 zK90_1 := zchk_mem (js := [234, 0, 0, 0, 0, 226, 0, 0, 0, 237, 0, 0, 0, 238, 0, 0, 0, 0, 0, 0, 239, 0, 0, 240, 0, 0, 0, 0, 0, 240, 0, 0, 0, 0]) (by decide +kernel)
theorem znd90 : zNdd 90 zK90 := (zndd_app znd90_0 znd90_1)
theorem znd91 : zNdd 91 zK91 := zchk_mem (js := [0, 0, 221, 0, 0, 241, 0, 0, 242, 0, 0, 243, 0]) (by decide +kernel)
theorem znd92 : zNdd 92 zK92 := zchk_mem (js := [0, 244, 0, 0, 245, 0, 0, 246, 0, 0, 0, 0, 247, 0, 0, 248, 249, 0]) (by decide +kernel)
theorem znd93 : zNdd 93 zK93 := zchk_mem (js := [0, 250, 0, 251, 0, 0, 252, 253, 0, 0, 252, 254, 0, 0, 0, 0, 0, 0, 0]) (by decide +kernel)
theorem znd94 : zNdd 94 zK94 := zchk_mem (js := [0, 252, 255, 256, 0, 0, 0, 0, 0, 0]) (by decide +kernel)
theorem znd95 : zNdd 95 zK95 := zchk_mem (js := [0, 0, 250, 0, 0, 257, 0, 0, 258, 0, 0, 259, 0]) (by decide +kernel)
theorem znd96 : zNdd 96 zK96 := zchk_mem (js := [0, 260, 0, 261, 0, 262, 263, 0, 261, 0, 262, 264, 0, 261, 0, 262, 265, 0, 266, 0, 267, 268, 0, 0, 269, 0, 0, 270, 0, 0, 271, 0, 0, 272, 0, 0, 273, 0, 0, 274, 0, 0, 275, 0]) (by decide +kernel)
theorem znd97 : zNdd 97 zK97 := zchk_mem (js := [0, 276, 0, 0, 0, 277, 0, 0, 278, 0, 279, 0, 0, 0, 0, 0, 0, 0, 0, 280, 281, 0, 0, 0, 0, 0, 0, 0, 0]) (by decide +kernel)
theorem znd98 : zNdd 98 zK98 := zchk_mem (js := [0, 282, 0, 0, 0, 0, 0, 0, 0, 280, 281, 0, 0, 0, 0, 280, 0, 283, 284, 285, 286, 0, 0, 0, 280, 0, 283, 284, 285, 0, 0, 0, 0, 0, 0, 0, 287, 286, 0, 0, 0]) (by decide +kernel)
theorem znd99 : zNdd 99 zK99 := zchk_mem (js := [0, 288, 0, 0, 0, 0, 0]) (by decide +kernel)
theorem znd100_0 : zNdd 100 zK100_0 := zchk_mem (js := [0, 289, 0, 0, 290, 0, 0, 0, 0, 280, 281, 0, 0, 280, 0, 283, 284, 0, 0, 289, 0, 0, 0, 0, 288, 0, 0, 0, 0, 291, 0, 292, 0, 0, 289, 0, 0, 293, 0, 294]) (by decide +kernel)
theorem znd100_1 : zNdd 100 zK100_1 := zchk_mem (js := [295, 0, 0, 0, 0, 0, 0, 280, 296, 0, 0, 289, 0, 287, 297, 0, 0, 0, 0, 0, 0]) (by decide +kernel)
theorem znd100 : zNdd 100 zK100 := (zndd_app znd100_0 znd100_1)
theorem znd101 : zNdd 101 zK101 := zchk_mem (js := [0, 0, 0, 0, 0, 0, 298, 281, 0, 0, 0, 298, 0, 283, 299, 300, 301, 0, 0, 0, 0, 0, 0]) (by decide +kernel)
theorem znd102 : zNdd 102 zK102 := zchk_mem (js := [0, 0, 0, 0, 280, 281, 0, 0, 0, 0, 0, 0, 280, 281, 0, 0, 0, 0, 0, 280, 0, 0, 302, 0, 280, 0, 0, 302, 0, 303, 0, 304, 305, 0]) (by decide +kernel)
theorem znd103 : zNdd 103 zK103 := zchk_mem (js := [0, 288, 0, 0, 280, 296, 0, 0, 280, 0, 283, 284, 303, 0, 0, 0, 0, 0, 0]) (by decide +kernel)
theorem znd104 : zNdd 104 zK104 := zchk_mem (js := [0, 280, 281, 0, 0, 0, 0, 0, 0, 0, 280, 281, 0, 0, 280, 0, 283, 284, 303, 0, 0, 0, 280, 0, 306, 0, 0, 0, 0]) (by decide +kernel)
theorem znd105_0 : zNdd 105 zK105_0 := zchk_mem (js := [0, 288, 0, 0, 280, 296, 0, 0, 280, 0, 283, 284, 307, 0, 0, 0, 0, 280, 0, 283, 284, 0, 0, 308, 0, 0, 309, 0, 0, 277, 0, 0, 310, 0, 0, 0, 311, 0, 0, 307]) (by decide +kernel)
theorem znd105_1 : zNdd 105 zK105_1 := zchk_mem (js := [0, 0, 312, 0, 0, 280, 0, 306, 0, 0, 313, 0, 314, 0, 0, 0, 315, 0, 0, 285, 316, 0, 0, 317, 0, 308, 0, 0, 0, 318, 0, 0, 0, 319, 0]) (by decide +kernel)
theorem znd105 : zNdd 105 zK105 := (zndd_app znd105_0 znd105_1)
theorem znd106 : zNdd 106 zK106 := zchk_mem (js := [0, 303, 0, 320, 321, 0, 303, 0, 322, 0, 298, 281, 0, 0, 0, 0, 0, 0, 0, 298, 281, 0, 0, 298, 0, 283, 0, 303, 0, 0, 298, 0, 306, 0, 0, 0, 0]) (by decide +kernel)
theorem znd107 : zNdd 107 zK107 := zchk_mem (js := [0, 303, 0, 0, 0, 320, 323, 0, 0, 307, 324, 0, 325, 0, 0, 0, 322, 0, 0, 309, 0, 0, 277, 0, 0, 0, 322, 0, 0, 0, 322, 0, 298, 0, 314, 0, 0, 0, 0, 326, 0]) (by decide +kernel)
theorem znd108 : zNdd 108 zK108 := zchk_mem (js := [0, 288, 0, 0, 327, 0, 0, 0, 280, 296, 0, 0, 0, 280, 0, 283, 284, 0, 0, 0, 282, 0, 285, 286, 0, 0, 0, 308, 0, 0, 303, 328, 0, 0, 0, 0, 0, 0, 315, 0, 0, 0, 0, 329, 0, 0, 320, 0, 303, 300, 330, 0, 312, 0]) (by decide +kernel)
theorem znd109 : zNdd 109 zK109 := zchk_mem (js := [0, 280, 331, 0, 313, 331, 0, 298, 331, 0, 0, 315, 0, 0, 287, 316, 0, 0, 317, 0]) (by decide +kernel)
theorem znd110 : zNdd 110 zK110 := zchk_mem (js := [0, 288, 0, 0, 280, 296, 0, 0, 280, 0, 283, 284, 0, 332, 0, 280, 0, 283, 284, 307, 0, 0, 0, 327, 0, 333, 0, 0, 317, 0, 327, 0]) (by decide +kernel)
theorem znd111 : zNdd 111 zK111 := zchk_mem (js := [0, 331, 0, 334, 0, 0, 0, 280, 281, 0, 0, 280, 0, 283, 284, 308, 0, 0, 0, 280, 0, 283, 284, 303, 314, 0, 0, 0, 0]) (by decide +kernel)
theorem znd112 : zNdd 112 zK112 := zchk_mem (js := [0, 0, 335, 0, 0, 0, 0, 0, 280, 281, 0, 0, 280, 0, 283, 284, 303, 0, 0, 0, 280, 0, 283, 284, 292, 0, 0, 0, 0, 0, 0, 0]) (by decide +kernel)
theorem znd113 : zNdd 113 zK113 := zchk_mem (js := [0, 289, 0, 0, 290, 0, 0, 0, 0, 280, 281, 0, 0, 289, 0, 280, 0, 283, 284, 0, 0, 0, 288, 0, 0, 0, 0, 291, 0, 0, 0, 289, 0, 287, 297, 0]) (by decide +kernel)
theorem znd114 : zNdd 114 zK114 := zchk_mem (js := [0, 0, 0, 0, 280, 281, 0, 0, 280, 0, 283, 284, 303, 0, 0, 0, 280, 0, 283, 284, 308, 0, 0, 0, 0, 0, 0, 0, 0]) (by decide +kernel)
theorem znd115 : zNdd 115 zK115 := zchk_mem (js := [0, 0, 0, 282, 0, 0, 327, 0, 0, 280, 281, 0, 0, 336, 0, 0, 337, 0, 0, 288, 0, 0, 0, 0, 0, 0, 277, 0, 0, 0, 0, 0, 0, 280, 296, 0, 0, 0, 0, 0, 335, 0, 0, 0, 338, 0, 0, 0, 0, 0]) (by decide +kernel)
theorem znd116 : zNdd 116 zK116 := zchk_mem (js := [0, 0, 0, 0, 0, 0, 298, 281, 0, 0, 0, 298, 0, 283, 299, 300, 276, 0, 0, 0, 0, 0, 0, 0, 0, 0, 0, 0]) (by decide +kernel)
theorem znd117 : zNdd 117 zK117 := zchk_mem (js := [0, 0, 0, 0, 0, 0, 313, 281, 0, 0, 313, 0, 283, 284, 0, 0, 303, 300, 301, 0, 0, 308, 0, 0, 0, 0, 0, 0, 0, 303, 339, 0, 0, 0, 303, 339, 0, 0, 0, 0, 0, 0, 0, 0, 0, 0]) (by decide +kernel)
theorem znd118 : zNdd 118 zK118 := zchk_mem (js := [0, 0, 0, 0, 280, 281, 0, 0, 280, 0, 283, 284, 308, 0, 0, 0, 0, 0, 280, 0, 283, 284, 303, 0, 340, 0, 0, 0, 0, 0, 0]) (by decide +kernel)
theorem znd119 : zNdd 119 zK119 := zchk_mem (js := [0, 280, 281, 0, 0, 0, 0, 0, 0, 0, 0, 0, 0, 0, 0, 0, 280, 0, 283, 284, 0, 0, 280, 0, 0, 280, 0, 283, 284, 341, 0, 0, 280, 0, 0, 341, 0, 0]) (by decide +kernel)
theorem znd120 : zNdd 120 zK120 := zchk_mem (js := [0, 0, 0, 0, 0, 0]) (by decide +kernel)
theorem znd121 : zNdd 121 zK121 := zchk_mem (js := [0, 0, 0, 0, 0, 0, 0, 342, 0, 0, 0, 343, 0, 0, 0, 0, 0, 0, 0, 344, 0, 0, 0, 0, 345, 0]) (by decide +kernel)
theorem znd122 : zNdd 122 zK122 := zchk_mem (js := [0, 0, 0, 0, 0, 0, 346, 0, 0, 0, 0, 0, 0, 0]) (by decide +kernel)
theorem znd123 : zNdd 123 zK123 := zchk_mem (js := [0, 0, 0, 0, 0, 0, 0, 0, 0, 0, 0]) (by decide +kernel)
theorem znd124 : zNdd 124 zK124 := zchk_mem (js := [0, 0, 0, 0, 0, 0, 0, 347, 0, 0, 0, 0, 0, 0, 347, 0, 0, 0]) (by decide +kernel)
theorem znd125 : zNdd 125 zK125 := zchk_mem (js := [0, 0, 0, 0, 0, 0, 0, 0, 0]) (by decide +kernel)
theorem znd126_0 : zNdd 126 zK126_0 := zchk_mem (js := [0, 348, 0, 0, 348, 0, 0, 0, 0, 349, 0, 0, 0, 0, 349, 0, 0, 0, 0, 349, 0, 0, 0, 350, 0, 0, 0, 0, 0, 0, 350, 0, 0, 0, 0, 0, 0, 0, 0, 0]) (by decide +kernel)
theorem znd126_1 : zNdd 126 zK126_1 := zchk_mem (js := [0, 0, 0, 0, 0, 0, 0, 0, 0, 0, 0, 0, 0, 0, 0, 0, 0, 0, 0, 0, 351, 0, 0, 0, 0, 0, 351, 0, 0, 0, 0, 0, 351, 0, 0, 0, 0, 0, 0, 0]) (by decide +kernel)
theorem znd126_2 : zNdd 126 zK126_2 := zchk_mem (js := [0, 0, 0, 0, 0, 0, 351, 0, 0, 0, 351, 0, 0, 0, 0, 0, 0, 0, 0, 0, 0, 0, 0, 0, 0, 0, 0, 0, 0, 351, 0, 0, 0, 0, 0, 0, 0, 0, 352, 0]) (by decide +kernel)
theorem znd126_3 : zNdd 126 zK126_3 := zchk_mem (js := [0, 0, 0, 0, 0, 0, 0, 0, 0, 0, 0, 0, 0, 0, 0, 0, 0, 0, 349, 0, 0, 0, 0, 353, 0, 0, 0, 0, 0, 349, 0, 0, 0, 0, 0, 0, 0, 0, 0, 0]) (by decide +kernel)
theorem znd126_4 : zNdd 126 zK126_4 := zchk_mem (js := [0, 0, 0, 0, 0, 354, 0, 0, 0, 0, 0, 354, 0, 0, 0, 0, 0, 0, 0, 0, 0, 0, 0, 0, 0, 0, 0, 0, 0, 0, 0, 0, 0, 0, 0, 0, 355, 0, 0, 0]) (by decide +kernel)
theorem znd126_5 : zNdd 126 zK126_5 := zchk_mem (js := [0, 0, 0, 349, 0, 0, 0, 0, 0, 0, 0, 0, 0, 351, 0, 0, 0, 0, 0, 0, 0, 0, 0, 0, 0, 0, 0, 0, 0, 0, 0, 0, 354, 0, 0, 0, 0, 0, 0, 0]) (by decide +kernel)
theorem znd126_6 : zNdd 126 zK126_6 := zchk_mem (js := [0, 0, 0, 0, 0, 0, 354, 0, 0, 0, 0, 0, 0, 0, 0, 0, 0, 0, 0, 0, 0, 0, 354, 0, 0, 0, 0, 0, 0, 354, 0, 0, 0, 0, 0, 0, 0, 351, 0, 0]) (by decide +kernel)
theorem znd126_7 : zNdd 126 zK126_7 := zchk_mem (js := [0, 0, 0, 0, 0, 0, 0, 0, 0, 0, 0, 0, 0, 351, 0, 0, 0, 0, 0, 0, 0, 0, 0, 0, 354, 0, 0, 0, 0, 0, 0, 0, 0, 0, 0, 0, 0, 0, 0, 0]) (by decide +kernel)
theorem znd126_8 : zNdd 126 zK126_8 := zchk_mem (js := [0, 0, 0, 0, 0, 0, 0, 0, 355, 0, 0, 0, 0, 0, 0, 0, 0, 0, 0, 0, 0, 0, 0, 352, 0, 0, 0, 0, 0, 0, 0, 0, 0, 0, 0, 0, 0, 0, 0, 0]) (by decide +kernel)
theorem znd126_9 : zNdd 126 zK126_9 := zchk_mem (js := [0, 0, 0, 0, 0, 0, 0, 0, 0, 0, 0, 0, 0, 0, 0, 0, 0, 0, 0, 0, 351, 0, 0, 0, 0, 0, 0, 0, 0, 0, 0, 0, 0, 0, 0, 352, 0, 0, 0, 0]) (by decide +kernel)
theorem znd126_10 : zNdd 126 zK126_10 := zchk_mem (js := [0, 0, 0, 0, 0, 0, 0, 0, 0, 0, 0, 0, 0, 0, 0, 0, 0, 0, 0, 0, 0, 0, 0, 0, 0, 0, 0, 0, 0, 0, 0, 0, 0, 0, 0, 0, 0, 0, 0, 0]) (by decide +kernel)
theorem znd126_11 : zNdd 126 zK126_11 := zchk_mem (js := [0, 0, 0, 0, 0, 0, 0, 0, 355, 0, 0, 0, 0, 0, 0, 0, 0, 0, 0, 0, 0, 0, 0, 0, 0, 0, 0, 356, 0, 0, 0, 0, 0, 0, 0, 349, 0, 0, 0, 0]) (by decide +kernel)
theorem znd126_12 : zNdd 126 zK126_12 := zchk_mem (js := [0, 0, 0, 0, 0, 0, 0, 349, 0, 0, 0, 0, 0, 0, 0, 0, 0, 0, 0, 350, 0, 0, 0, 0, 0, 0, 0, 0, 0, 357, 0, 0, 0, 0, 0, 0, 0, 0, 357, 0]) (by decide +kernel)
theorem znd126_13 : zNdd 126 zK126_13 := zchk_mem (js := [0, 0, 0, 0, 0, 0, 0, 0, 0, 0, 0, 0, 0, 0, 0]) (by decide +kernel)
theorem znd126 : zNdd 126 zK126 := (zndd_app znd126_0 (zndd_app znd126_1 (zndd_app znd126_2 (zndd_app znd126_3 (zndd_app znd126_4 (zndd_app znd126_5 (zndd_app znd126_6 (zndd_app znd126_7 (zndd_app znd126_8 (zndd_app znd126_9 (zndd_app znd126_10 (zndd_app znd126_11 (zndd_app znd126_12 znd126_13)))))))))))))
theorem znd127 : zNdd 127 zK127 := zchk_mem (js := [0, 0, 0]) (by decide +kernel)
theorem znd128 : zNdd 128 zK128 := zchk_mem (js := [0, 0, 0]) (by decide +kernel)
theorem znd129 : zNdd 129 zK129 := zchk_mem (js := [0, 0, 0]) (by decide +kernel)
theorem znd130 : zNdd 130 zK130 := zchk_mem (js := [0, 0, 0]) (by decide +kernel)
theorem znd131 : zNdd 131 zK131 := zchk_mem (js := [0, 0, 0]) (by decide +kernel)
theorem znd132 : zNdd 132 zK132 := zchk_mem (js := [0, 0, 0]) (by decide +kernel)
theorem znd133 : zNdd 133 zK133 := zchk_mem (js := [0, 0, 0]) (by decide +kernel)
theorem znd134 : zNdd 134 zK134 := zchk_mem (js := [0, 0, 0]) (by decide +kernel)
theorem znd135 : zNdd 135 zK135 := zchk_mem (js := [0, 0, 0]) (by decide +kernel)
theorem znd136 : zNdd 136 zK136 := zchk_mem (js := [0, 0, 0]) (by decide +kernel)
theorem znd137 : zNdd 137 zK137 := zchk_mem (js := [0, 0, 0]) (by decide +kernel)
theorem znd138 : zNdd 138 zK138 := zchk_mem (js := [0, 0, 0]) (by decide +kernel)
theorem znd139 : zNdd 139 zK139 := zchk_mem (js := [0, 0, 0]) (by decide +kernel)
theorem znd140 : zNdd 140 zK140 := zchk_mem (js := [0, 0, 0]) (by decide +kernel)
theorem znd141 : zNdd 141 zK141 := zchk_mem (js := [0, 0, 0]) (by decide +kernel)
theorem znd142 : zNdd 142 zK142 := zchk_mem (js := [0, 0, 0]) (by decide +kernel)
theorem znd143 : zNdd 143 zK143 := zchk_mem (js := [0, 0, 0]) (by decide +kernel)
theorem znd144 : zNdd 144 zK144 := zchk_mem (js := [0, 0, 0]) (by decide +kernel)
theorem znd145 : zNdd 145 zK145 := zchk_mem (js := [0, 0, 0]) (by decide +kernel)
theorem znd146 : zNdd 146 zK146 := zchk_mem (js := [0, 0, 0]) (by decide +kernel)
theorem znd147 : zNdd 147 zK147 := zchk_mem (js := [0, 0, 0]) (by decide +kernel)
theorem znd148 : zNdd 148 zK148 := zchk_mem (js := [0, 0, 0]) (by decide +kernel)
theorem znd149 : zNdd 149 zK149 := zchk_mem (js := [0, 0, 0]) (by decide +kernel)
theorem znd150 : zNdd 150 zK150 := zchk_mem (js := [0, 0, 0]) (by decide +kernel)
theorem znd151 : zNdd 151 zK151 := zchk_mem (js := [0, 0, 0]) (by decide +kernel)
theorem znd152 : zNdd 152 zK152 := zchk_mem (js := [0, 0, 0]) (by decide +kernel)
theorem znd153 : zNdd 153 zK153 := zchk_mem (js := [0, 0, 0]) (by decide +kernel)
theorem znd154 : zNdd 154 zK154 := zchk_mem (js := [0, 0, 0]) (by decide +kernel)
theorem znd155 : zNdd 155 zK155 := zchk_mem (js := [0, 0, 0]) (by decide +kernel)
theorem znd156 : zNdd 156 zK156 := zchk_mem (js := [0, 0, 0]) (by decide +kernel)
theorem znd157 : zNdd 157 zK157 := zchk_mem (js := [0, 0, 0]) (by decide +kernel)
theorem znd158 : zNdd 158 zK158 := zchk_mem (js := [0, 0, 0]) (by decide +kernel)
theorem znd159 : zNdd 159 zK159 := zchk_mem (js := [0, 0, 0]) (by decide +kernel)
theorem znd160 : zNdd 160 zK160 := zchk_mem (js := [0, 0, 0]) (by decide +kernel)
theorem znd161 : zNdd 161 zK161 := zchk_mem (js := [0, 0, 0]) (by decide +kernel)
theorem znd162 : zNdd 162 zK162 := zchk_mem (js := [0, 0, 0]) (by decide +kernel)
theorem znd163 : zNdd 163 zK163 := zchk_mem (js := [0, 0, 0]) (by decide +kernel)
theorem znd164 : zNdd 164 zK164 := zchk_mem (js := [0, 0, 0]) (by decide +kernel)
theorem znd165 : zNdd 165 zK165 := zchk_mem (js := [0, 0, 0]) (by decide +kernel)
theorem znd166 : zNdd 166 zK166 := zchk_mem (js := [0, 0, 0]) (by decide +kernel)
theorem znd167 : zNdd 167 zK167 := zchk_mem (js := [0, 0, 0]) (by decide +kernel)
theorem znd168 : zNdd 168 zK168 := zchk_mem (js := [0, 0, 0]) (by decide +kernel)
theorem znd169 : zNdd 169 zK169 := zchk_mem (js := [0, 0, 0]) (by decide +kernel)
theorem znd170 : zNdd 170 zK170 := zchk_mem (js := [0, 0, 0]) (by decide +kernel)
theorem znd171 : zNdd 171 zK171 := zchk_mem (js := [0, 0, 0]) (by decide +kernel)
theorem znd172 : zNdd 172 zK172 := zchk_mem (js := [0, 0, 0]) (by decide +kernel)
theorem znd173 : zNdd 173 zK173 := zchk_mem (js := [0, 0, 0]) (by decide +kernel)
theorem znd174 : zNdd 174 zK174 := zchk_mem (js := [0, 0, 0]) (by decide +kernel)
theorem znd175 : zNdd 175 zK175 := zchk_mem (js := [0, 0, 0]) (by decide +kernel)
theorem znd176 : zNdd 176 zK176 := zchk_mem (js := [0, 0, 0]) (by decide +kernel)
theorem znd177 : zNdd 177 zK177 := zchk_mem (js := [0, 0, 0]) (by decide +kernel)
theorem znd178 : zNdd 178 zK178 := zchk_mem (js := [0, 0, 0]) (by decide +kernel)
theorem znd179 : zNdd 179 zK179 := zchk_mem (js := [0, 0, 0]) (by decide +kernel)
theorem znd180 : zNdd 180 zK180 := zchk_mem (js := [0, 0, 0]) (by decide +kernel)
theorem znd181 : zNdd 181 zK181 := zchk_mem (js := [0, 0, 0]) (by decide +kernel)
theorem znd182 : zNdd 182 zK182 := zchk_mem (js := [0, 0, 0]) (by decide +kernel)
theorem znd183 : zNdd 183 zK183 := zchk_mem (js := [0, 0, 0]) (by decide +kernel)
theorem znd184 : zNdd 184 zK184 := zchk_mem (js := [0, 0, 0]) (by decide +kernel)
theorem znd185 : zNdd 185 zK185 := zchk_mem (js := [0, 0, 0]) (by decide +kernel)
theorem znd186 : zNdd 186 zK186 := zchk_mem (js := [0, 0, 0]) (by decide +kernel)
theorem znd187 : zNdd 187 zK187 := zchk_mem (js := [0, 0, 0]) (by decide +kernel)
theorem znd188 : zNdd 188 zK188 := zchk_mem (js := [0, 0, 0]) (by decide +kernel)
theorem znd189 : zNdd 189 zK189 := zchk_mem (js := [0, 0, 0]) (by decide +kernel)
theorem znd190 : zNdd 190 zK190 := zchk_mem (js := [0, 0, 0]) (by decide +kernel)
theorem znd191 : zNdd 191 zK191 := zchk_mem (js := [0, 0, 0]) (by decide +kernel)
theorem znd192 : zNdd 192 zK192 := zchk_mem (js := [0, 0, 0]) (by decide +kernel)
theorem znd193 : zNdd 193 zK193 := zchk_mem (js := [0, 0, 0]) (by decide +kernel)
theorem znd194 : zNdd 194 zK194 := zchk_mem (js := [0, 0, 0]) (by decide +kernel)
theorem znd195 : zNdd 195 zK195 := zchk_mem (js := [0, 0, 0]) (by decide +kernel)
theorem znd196 : zNdd 196 zK196 := zchk_mem (js := [0, 0, 0]) (by decide +kernel)
theorem znd197 : zNdd 197 zK197 := zchk_mem (js := [0, 0, 0]) (by decide +kernel)
theorem znd198 : zNdd 198 zK198 := zchk_mem (js := [0, 0, 0]) (by decide +kernel)
theorem znd199 : zNdd 199 zK199 := zchk_mem (js := [0, 0, 0]) (by decide +kernel)
theorem znd200 : zNdd 200 zK200 := zchk_mem (js := [0, 0, 0]) (by decide +kernel)
theorem znd201 : zNdd 201 zK201 := zchk_mem (js := [0, 0, 0]) (by decide +kernel)
theorem znd202 : zNdd 202 zK202 := zchk_mem (js := [0, 0, 0]) (by decide +kernel)
theorem znd203 : zNdd 203 zK203 := zchk_mem (js := [0, 0, 0]) (by decide +kernel)
theorem znd204 : zNdd 204 zK204 := zchk_mem (js := [0, 0, 0]) (by decide +kernel)
theorem znd205 : zNdd 205 zK205 := zchk_mem (js := [0, 0, 0]) (by decide +kernel)
theorem znd206 : zNdd 206 zK206 := zchk_mem (js := [0, 0, 0]) (by decide +kernel)
theorem znd207 : zNdd 207 zK207 := zchk_mem (js := [0, 0, 0]) (by decide +kernel)
theorem znd208 : zNdd 208 zK208 := zchk_mem (js := [0, 0, 0]) (by decide +kernel)
theorem znd209 : zNdd 209 zK209 := zchk_mem (js := [0, 0, 0]) (by decide +kernel)
theorem znd210_0 : zNdd 210 zK210_0 := zchk_mem (js := [358, 0, 359, 0, 0, 348, 0, 0, 348, 0, 0, 348, 0, 0, 348, 0, 0, 348, 0, 0, 348, 0, 0, 348, 0, 0, 0, 0, 0, 0, 0, 0, 0, 0, 360, 0, 0, 0, 0, 0]) (by decide +kernel)
theorem znd210_1 : zNdd 210 zK210_1 := zchk_mem (js := [361, 0, 0, 0, 0, 0, 0, 0, 361, 0, 0, 0, 0, 0, 0, 0, 0, 0, 0, 0, 361, 0, 0, 0, 0, 0, 0, 0, 0, 0, 0, 0, 0, 361, 0, 0, 0, 0, 0, 0]) (by decide +kernel)
theorem znd210_2 : zNdd 210 zK210_2 := zchk_mem (js := [0, 0, 0, 0, 0, 0, 362, 0, 0, 0, 0, 0, 0, 0, 0, 0, 0, 0, 0, 0, 0, 0, 0, 0, 360, 0, 0, 0, 0, 0, 0, 0, 361, 0, 0, 0, 0, 0, 0, 0]) (by decide +kernel)
theorem znd210_3 : zNdd 210 zK210_3 := zchk_mem (js := [0, 0, 0, 0, 0, 361, 0, 0, 0, 0, 0, 0, 0, 0, 0, 0, 0, 0, 361, 0, 0, 0, 0, 0, 0, 0, 0, 0, 0, 0, 0, 361, 0, 0, 0, 0, 0, 0, 0, 0]) (by decide +kernel)
theorem znd210_4 : zNdd 210 zK210_4 := zchk_mem (js := [0, 0, 0, 0, 0, 0, 0, 0, 0, 0, 0, 0, 0, 0, 0, 0, 0, 0, 0, 0, 0, 0, 0, 363, 0, 0, 0, 0, 0, 0, 0, 0, 0, 0, 360, 0, 361, 0, 0, 0]) (by decide +kernel)
theorem znd210_5 : zNdd 210 zK210_5 := zchk_mem (js := [0, 0, 0, 0, 0, 0, 364, 0, 0, 0, 0, 0, 0, 0, 0, 0, 0, 0, 0, 0, 0, 0, 0, 0, 0, 0, 360, 0, 0, 0, 361, 0, 0, 350, 0, 0, 0, 0, 0, 0]) (by decide +kernel)
theorem znd210_6 : zNdd 210 zK210_6 := zchk_mem (js := [0, 0, 0, 0, 0, 361, 0, 0, 0, 0, 0, 361, 0, 0, 0, 0, 0, 0, 0, 0, 361, 0, 0, 0, 0, 0, 0, 0, 0, 0, 361, 0, 0, 0, 0, 0, 0, 0, 0, 0]) (by decide +kernel)
theorem znd210_7 : zNdd 210 zK210_7 := zchk_mem (js := [0, 0, 0, 0, 0, 0, 0, 0, 0, 0, 0, 0, 0, 0, 0, 0, 0, 351, 0, 0, 0, 0, 0, 0, 0, 351, 0, 0, 0, 0, 0, 0, 0, 0, 0, 0, 0, 0, 0, 0]) (by decide +kernel)
theorem znd210_8 : zNdd 210 zK210_8 := zchk_mem (js := [0, 0, 0, 0, 0, 0, 351, 0, 0, 0, 0, 0, 0, 0, 0, 0, 0, 0, 0, 0, 0, 355, 0, 0, 355, 0, 0, 0, 0, 0, 0, 0, 0, 0, 0, 0, 0, 0, 0, 0]) (by decide +kernel)
theorem znd210_9 : zNdd 210 zK210_9 := zchk_mem (js := [0, 0, 0, 0, 0, 0, 0, 0, 0, 0, 0, 0, 365, 0, 0, 0, 0, 0, 366, 0, 0, 0, 0, 0, 366, 0, 0, 0, 0, 0, 366, 0, 0, 0, 0, 0, 0, 0, 0, 0]) (by decide +kernel)
theorem znd210_10 : zNdd 210 zK210_10 := zchk_mem (js := [0, 0, 0, 367, 0, 0, 0, 0, 0, 0, 0, 0, 0, 0, 0, 0, 0, 0, 0, 0, 0, 0, 0, 0, 0, 351, 0, 0, 0, 0, 351, 0, 0, 0, 0, 0, 0, 0, 0, 0]) (by decide +kernel)
theorem znd210_11 : zNdd 210 zK210_11 := zchk_mem (js := [0, 0, 0, 0, 0, 0, 0, 0, 0, 0, 0, 0, 0, 0, 0, 0, 0, 0, 0, 0, 0, 0, 351, 0, 0, 0, 0, 0, 0, 0, 0, 0, 351, 0, 0, 0, 0, 0, 0, 0]) (by decide +kernel)
theorem znd210_12 : zNdd 210 zK210_12 := zchk_mem (js := [0, 0, 347, 0, 0, 0, 0, 347, 0, 0, 0, 0, 0, 0, 0, 0, 0, 0, 0, 0, 0, 0, 0, 0, 0, 0, 361, 0, 0, 0, 0, 351, 0, 0, 0, 0, 351, 0, 0, 0]) (by decide +kernel)
theorem znd210_13 : zNdd 210 zK210_13 := zchk_mem (js := [0, 0, 0, 0, 0, 0, 0, 349, 0, 0, 0, 0, 0, 0, 354, 0, 0, 0, 0, 0, 0, 0, 0, 0, 351, 0, 0, 0, 0, 0, 0, 0, 0, 0, 0, 367, 0, 0, 0, 0]) (by decide +kernel)
theorem znd210_14 : zNdd 210 zK210_14 := zchk_mem (js := [0, 0, 0, 0, 0, 0, 0, 0, 0, 0, 0, 0, 0, 0, 0, 0, 0, 0, 0, 0, 0, 0, 0, 0, 351, 0, 0, 0, 0, 0, 0, 0, 0, 0, 0, 0, 0, 0, 367, 0]) (by decide +kernel)
theorem znd210_15 : zNdd 210 zK210_15 := zchk_mem (js := [0, 0, 0, 0, 0, 0, 0, 0, 0, 0, 0, 0, 0, 0, 0, 0, 0, 0, 361, 0, 0, 0, 0, 0, 0, 0, 0, 367, 0, 0, 0, 0, 0, 0, 0, 0, 0, 0, 0, 0]) (by decide +kernel)
theorem znd210_16 : zNdd 210 zK210_16 := zchk_mem (js := [0, 0, 0, 0, 0, 0, 0, 0, 0, 0, 0, 361, 0, 0, 0, 0, 0, 0, 361, 0, 0, 0, 0, 0, 349, 0, 0, 0, 0, 349, 0, 0, 0, 0, 0, 0, 354, 0, 0, 0]) (by decide +kernel)
theorem znd210_17 : zNdd 210 zK210_17 := zchk_mem (js := [0, 0, 0, 0, 0, 0, 0, 0, 0, 0, 368, 0, 0, 0, 0, 0, 0, 0, 0, 0, 0, 0, 0, 0, 0, 361, 0, 0, 0, 369, 0, 0, 0, 0, 0, 0, 0, 0, 0, 0]) (by decide +kernel)
theorem znd210_18 : zNdd 210 zK210_18 := zchk_mem (js := [0, 0, 0, 0, 0, 361, 0, 0, 370, 0, 0, 350, 0, 0, 0, 0, 349, 0, 0, 0, 0, 349, 0, 0, 0, 0, 0, 0, 0, 349, 0, 0, 0, 0, 0, 0, 0, 0, 0, 371]) (by decide +kernel)
theorem znd210_19 : zNdd 210 zK210_19 := zchk_mem (js := [0, 0, 0, 0, 372, 0, 0, 0, 372, 0, 0, 0, 0, 0, 0, 0, 0, 0, 0, 361, 0, 0, 0, 0, 0, 0, 0, 0, 349, 0, 0, 0, 373, 0, 0, 0, 0, 0, 0, 0]) (by decide +kernel)
theorem znd210_20 : zNdd 210 zK210_20 := zchk_mem (js := [0, 0, 0, 0, 0, 0, 0, 0, 0, 0, 0, 0, 0, 374, 0, 0, 0, 0, 0, 0, 0, 0, 0, 0, 374, 0, 0, 0, 0, 0, 0, 0, 0, 0, 0, 0, 0, 0, 0, 0]) (by decide +kernel)
theorem znd210_21 : zNdd 210 zK210_21 := zchk_mem (js := [0, 0, 351, 0, 0, 0, 0, 351, 0, 0, 0, 0, 0, 0, 0, 351, 0, 0, 0, 0, 0, 0, 0, 0, 0, 0, 0, 0, 0, 351, 0, 0, 0, 0, 0, 0, 0, 0, 0, 355]) (by decide +kernel)
theorem znd210_22 : zNdd 210 zK210_22 := zchk_mem (js := [0, 0, 0, 0, 0, 0, 0, 0, 0, 0, 0, 0, 351, 0, 0, 0, 0, 0, 0, 0, 0, 0, 351, 0, 0, 0, 0, 0, 0, 0, 0, 0, 0, 0, 0, 0, 0, 0, 0, 0]) (by decide +kernel)
theorem znd210_23 : zNdd 210 zK210_23 := zchk_mem (js := [0, 0, 0, 0, 0, 351, 0, 0, 0, 0, 0, 0, 0, 0, 0, 0, 0, 0, 0, 0, 355, 0, 0, 0, 0, 0, 0, 0, 0, 0, 0, 0, 0, 375, 0, 0, 0, 0, 0, 372]) (by decide +kernel)
theorem znd210_24 : zNdd 210 zK210_24 := zchk_mem (js := [0, 0, 0, 0, 0, 0, 0, 0, 0, 0]) (by decide +kernel)
theorem znd210 : zNdd 210 zK210 := (zndd_app znd210_0 (zndd_app znd210_1 (zndd_app znd210_2 (zndd_app znd210_3 (zndd_app znd210_4 (zndd_app znd210_5 (zndd_app znd210_6 (zndd_app znd210_7 (zndd_app znd210_8 (zndd_app znd210_9 (zndd_app znd210_10 (zndd_app znd210_11 (zndd_app znd210_12 (zndd_app znd210_13 (zndd_app znd210_14 (zndd_app znd210_15 (zndd_app znd210_16 (zndd_app znd210_17 (zndd_app znd210_18 (zndd_app znd210_19 (zndd_app znd210_20 (zndd_app znd210_21 (zndd_app znd210_22 (zndd_app znd210_23 znd210_24))))))))))))))))))))))))
theorem zho122_8_9 : zhok 122 8 9 14 6 := ⟨[], ⟨0, 11, 12, 31⟩, [⟨0, 11, 18, 33⟩], zC9, by decide, rfl, rfl, (fun _ h => nomatch h), by decide, by decide, zw743, zce9, Or.inl ⟨by decide +kernel, rfl⟩⟩
theorem zho122_8_10 : zhok 122 8 10 20 6 := ⟨[⟨0, 11, 12, 31⟩], ⟨0, 11, 18, 33⟩, [], zC10, by decide, rfl, rfl, (List.forall_mem_cons.mpr ⟨⟨by decide, "java/lang/IllegalArgumentException", zw743, by decide +kernel⟩, (fun _ h => nomatch h)⟩), by decide, by decide, zw744, zce10, Or.inl ⟨by decide +kernel, rfl⟩⟩
theorem zndA0 : ∀ m, m < 1 → zNdd m ((zKs[m]?).getD []) := fun m h => by have e : m = 0 := (by omega); rw [e]; exact znd0
theorem zndA1 : ∀ m, m < 2 → zNdd m ((zKs[m]?).getD []) := fun m h => (Nat.lt_succ_iff_lt_or_eq.mp h).elim (zndA0 m) (fun e => by rw [e]; exact znd1)
theorem zndA2 : ∀ m, m < 3 → zNdd m ((zKs[m]?).getD []) := fun m h => (Nat.lt_succ_iff_lt_or_eq.mp h).elim (zndA1 m) (fun e => by rw [e]; exact znd2)
theorem zndA3 : ∀ m, m < 4 → zNdd m ((zKs[m]?).getD []) := fun m h => (Nat.lt_succ_iff_lt_or_eq.mp h).elim (zndA2 m) (fun e => by rw [e]; exact znd3)
theorem zndA4 : ∀ m, m < 5 → zNdd m ((zKs[m]?).getD []) := fun m h => (Nat.lt_succ_iff_lt_or_eq.mp h).elim (zndA3 m) (fun e => by rw [e]; exact znd4)
theorem zndA5 : ∀ m, m < 6 → zNdd m ((zKs[m]?).getD []) := fun m h => (Nat.lt_succ_iff_lt_or_eq.mp h).elim (zndA4 m) (fun e => by rw [e]; exact znd5)
theorem zndA6 : ∀ m, m < 7 → zNdd m ((zKs[m]?).getD []) := fun m h => (Nat.lt_succ_iff_lt_or_eq.mp h).elim (zndA5 m) (fun e => by rw [e]; exact znd6)
theorem zndA7 : ∀ m, m < 8 → zNdd m ((zKs[m]?).getD []) := fun m h => (Nat.lt_succ_iff_lt_or_eq.mp h).elim (zndA6 m) (fun e => by rw [e]; exact znd7)
theorem zndA8 : ∀ m, m < 9 → zNdd m ((zKs[m]?).getD []) := fun m h => (Nat.lt_succ_iff_lt_or_eq.mp h).elim (zndA7 m) (fun e => by rw [e]; exact znd8)
theorem zndA9 : ∀ m, m < 10 → zNdd m ((zKs[m]?).getD []) := fun m h => (Nat.lt_succ_iff_lt_or_eq.mp h).elim (zndA8 m) (fun e => by rw [e]; exact znd9)
theorem zndA10 : ∀ m, m < 11 → zNdd m ((zKs[m]?).getD []) := fun m h => (Nat.lt_succ_iff_lt_or_eq.mp h).elim (zndA9 m) (fun e => by rw [e]; exact znd10)
theorem zndA11 : ∀ m, m < 12 → zNdd m ((zKs[m]?).getD []) := fun m h => (Nat.lt_succ_iff_lt_or_eq.mp h).elim (zndA10 m) (fun e => by rw [e]; exact znd11)
theorem zndA12 : ∀ m, m < 13 → zNdd m ((zKs[m]?).getD []) := fun m h => (Nat.lt_succ_iff_lt_or_eq.mp h).elim (zndA11 m) (fun e => by rw [e]; exact znd12)
theorem zndA13 : ∀ m, m < 14 → zNdd m ((zKs[m]?).getD []) := fun m h => (Nat.lt_succ_iff_lt_or_eq.mp h).elim (zndA12 m) (fun e => by rw [e]; exact znd13)
theorem zndA14 : ∀ m, m < 15 → zNdd m ((zKs[m]?).getD []) := fun m h => (Nat.lt_succ_iff_lt_or_eq.mp h).elim (zndA13 m) (fun e => by rw [e]; exact znd14)
theorem zndA15 : ∀ m, m < 16 → zNdd m ((zKs[m]?).getD []) := fun m h => (Nat.lt_succ_iff_lt_or_eq.mp h).elim (zndA14 m) (fun e => by rw [e]; exact znd15)
theorem zndA16 : ∀ m, m < 17 → zNdd m ((zKs[m]?).getD []) := fun m h => (Nat.lt_succ_iff_lt_or_eq.mp h).elim (zndA15 m) (fun e => by rw [e]; exact znd16)
theorem zndA17 : ∀ m, m < 18 → zNdd m ((zKs[m]?).getD []) := fun m h => (Nat.lt_succ_iff_lt_or_eq.mp h).elim (zndA16 m) (fun e => by rw [e]; exact znd17)
theorem zndA18 : ∀ m, m < 19 → zNdd m ((zKs[m]?).getD []) := fun m h => (Nat.lt_succ_iff_lt_or_eq.mp h).elim (zndA17 m) (fun e => by rw [e]; exact znd18)
theorem zndA19 : ∀ m, m < 20 → zNdd m ((zKs[m]?).getD []) := fun m h => (Nat.lt_succ_iff_lt_or_eq.mp h).elim (zndA18 m) (fun e => by rw [e]; exact znd19)
theorem zndA20 : ∀ m, m < 21 → zNdd m ((zKs[m]?).getD []) := fun m h => (Nat.lt_succ_iff_lt_or_eq.mp h).elim (zndA19 m) (fun e => by rw [e]; exact znd20)
theorem zndA21 : ∀ m, m < 22 → zNdd m ((zKs[m]?).getD []) := fun m h => (Nat.lt_succ_iff_lt_or_eq.mp h).elim (zndA20 m) (fun e => by rw [e]; exact znd21)
theorem zndA22 : ∀ m, m < 23 → zNdd m ((zKs[m]?).getD []) := fun m h => (Nat.lt_succ_iff_lt_or_eq.mp h).elim (zndA21 m) (fun e => by rw [e]; exact znd22)
theorem zndA23 : ∀ m, m < 24 → zNdd m ((zKs[m]?).getD []) := fun m h => (Nat.lt_succ_iff_lt_or_eq.mp h).elim (zndA22 m) (fun e => by rw [e]; exact znd23)
theorem zndA24 : ∀ m, m < 25 → zNdd m ((zKs[m]?).getD []) := fun m h => (Nat.lt_succ_iff_lt_or_eq.mp h).elim (zndA23 m) (fun e => by rw [e]; exact znd24)
theorem zndA25 : ∀ m, m < 26 → zNdd m ((zKs[m]?).getD []) := fun m h => (Nat.lt_succ_iff_lt_or_eq.mp h).elim (zndA24 m) (fun e => by rw [e]; exact znd25)
theorem zndA26 : ∀ m, m < 27 → zNdd m ((zKs[m]?).getD []) := fun m h => (Nat.lt_succ_iff_lt_or_eq.mp h).elim (zndA25 m) (fun e => by rw [e]; exact znd26)
theorem zndA27 : ∀ m, m < 28 → zNdd m ((zKs[m]?).getD []) := fun m h => (Nat.lt_succ_iff_lt_or_eq.mp h).elim (zndA26 m) (fun e => by rw [e]; exact znd27)
theorem zndA28 : ∀ m, m < 29 → zNdd m ((zKs[m]?).getD []) := fun m h => (Nat.lt_succ_iff_lt_or_eq.mp h).elim (zndA27 m) (fun e => by rw [e]; exact znd28)
theorem zndA29 : ∀ m, m < 30 → zNdd m ((zKs[m]?).getD []) := fun m h => (Nat.lt_succ_iff_lt_or_eq.mp h).elim (zndA28 m) (fun e => by rw [e]; exact znd29)
theorem zndA30 : ∀ m, m < 31 → zNdd m ((zKs[m]?).getD []) := fun m h => (Nat.lt_succ_iff_lt_or_eq.mp h).elim (zndA29 m) (fun e => by rw [e]; exact znd30)
theorem zndA31 : ∀ m, m < 32 → zNdd m ((zKs[m]?).getD []) := fun m h => (Nat.lt_succ_iff_lt_or_eq.mp h).elim (zndA30 m) (fun e => by rw [e]; exact znd31)
theorem zndA32 : ∀ m, m < 33 → zNdd m ((zKs[m]?).getD []) := fun m h => (Nat.lt_succ_iff_lt_or_eq.mp h).elim (zndA31 m) (fun e => by rw [e]; exact znd32)
theorem zndA33 : ∀ m, m < 34 → zNdd m ((zKs[m]?).getD []) := fun m h => (Nat.lt_succ_iff_lt_or_eq.mp h).elim (zndA32 m) (fun e => by rw [e]; exact znd33)
theorem zndA34 : ∀ m, m < 35 → zNdd m ((zKs[m]?).getD []) := fun m h => (Nat.lt_succ_iff_lt_or_eq.mp h).elim (zndA33 m) (fun e => by rw [e]; exact znd34)
theorem zndA35 : ∀ m, m < 36 → zNdd m ((zKs[m]?).getD []) := fun m h => (Nat.lt_succ_iff_lt_or_eq.mp h).elim (zndA34 m) (fun e => by rw [e]; exact znd35)
theorem zndA36 : ∀ m, m < 37 → zNdd m ((zKs[m]?).getD []) := fun m h => (Nat.lt_succ_iff_lt_or_eq.mp h).elim (zndA35 m) (fun e => by rw [e]; exact znd36)
theorem zndA37 : ∀ m, m < 38 → zNdd m ((zKs[m]?).getD []) := fun m h => (Nat.lt_succ_iff_lt_or_eq.mp h).elim (zndA36 m) (fun e => by rw [e]; exact znd37)
theorem zndA38 : ∀ m, m < 39 → zNdd m ((zKs[m]?).getD []) := fun m h => (Nat.lt_succ_iff_lt_or_eq.mp h).elim (zndA37 m) (fun e => by rw [e]; exact znd38)
theorem zndA39 : ∀ m, m < 40 → zNdd m ((zKs[m]?).getD []) := fun m h => (Nat.lt_succ_iff_lt_or_eq.mp h).elim (zndA38 m) (fun e => by rw [e]; exact znd39)
theorem zndA40 : ∀ m, m < 41 → zNdd m ((zKs[m]?).getD []) := fun m h => (Nat.lt_succ_iff_lt_or_eq.mp h).elim (zndA39 m) (fun e => by rw [e]; exact znd40)
theorem zndA41 : ∀ m, m < 42 → zNdd m ((zKs[m]?).getD []) := fun m h => (Nat.lt_succ_iff_lt_or_eq.mp h).elim (zndA40 m) (fun e => by rw [e]; exact znd41)
theorem zndA42 : ∀ m, m < 43 → zNdd m ((zKs[m]?).getD []) := fun m h => (Nat.lt_succ_iff_lt_or_eq.mp h).elim (zndA41 m) (fun e => by rw [e]; exact znd42)
theorem zndA43 : ∀ m, m < 44 → zNdd m ((zKs[m]?).getD []) := fun m h => (Nat.lt_succ_iff_lt_or_eq.mp h).elim (zndA42 m) (fun e => by rw [e]; exact znd43)
theorem zndA44 : ∀ m, m < 45 → zNdd m ((zKs[m]?).getD []) := fun m h => (Nat.lt_succ_iff_lt_or_eq.mp h).elim (zndA43 m) (fun e => by rw [e]; exact znd44)
theorem zndA45 : ∀ m, m < 46 → zNdd m ((zKs[m]?).getD []) := fun m h => (Nat.lt_succ_iff_lt_or_eq.mp h).elim (zndA44 m) (fun e => by rw [e]; exact znd45)
theorem zndA46 : ∀ m, m < 47 → zNdd m ((zKs[m]?).getD []) := fun m h => (Nat.lt_succ_iff_lt_or_eq.mp h).elim (zndA45 m) (fun e => by rw [e]; exact znd46)
theorem zndA47 : ∀ m, m < 48 → zNdd m ((zKs[m]?).getD []) := fun m h => (Nat.lt_succ_iff_lt_or_eq.mp h).elim (zndA46 m) (fun e => by rw [e]; exact znd47)
theorem zndA48 : ∀ m, m < 49 → zNdd m ((zKs[m]?).getD []) := fun m h => (Nat.lt_succ_iff_lt_or_eq.mp h).elim (zndA47 m) (fun e => by rw [e]; exact znd48)
theorem zndA49 : ∀ m, m < 50 → zNdd m ((zKs[m]?).getD []) := fun m h => (Nat.lt_succ_iff_lt_or_eq.mp h).elim (zndA48 m) (fun e => by rw [e]; exact znd49)
theorem zndA50 : ∀ m, m < 51 → zNdd m ((zKs[m]?).getD []) := fun m h => (Nat.lt_succ_iff_lt_or_eq.mp h).elim (zndA49 m) (fun e => by rw [e]; exact znd50)
theorem zndA51 : ∀ m, m < 52 → zNdd m ((zKs[m]?).getD []) := fun m h => (Nat.lt_succ_iff_lt_or_eq.mp h).elim (zndA50 m) (fun e => by rw [e]; exact znd51)
theorem zndA52 : ∀ m, m < 53 → zNdd m ((zKs[m]?).getD []) := fun m h => (Nat.lt_succ_iff_lt_or_eq.mp h).elim (zndA51 m) (fun e => by rw [e]; exact znd52)
theorem zndA53 : ∀ m, m < 54 → zNdd m ((zKs[m]?).getD []) := fun m h => (Nat.lt_succ_iff_lt_or_eq.mp h).elim (zndA52 m) (fun e => by rw [e]; exact znd53)
theorem zndA54 : ∀ m, m < 55 → zNdd m ((zKs[m]?).getD []) := fun m h => (Nat.lt_succ_iff_lt_or_eq.mp h).elim (zndA53 m) (fun e => by rw [e]; exact znd54)
theorem zndA55 : ∀ m, m < 56 → zNdd m ((zKs[m]?).getD []) := fun m h => (Nat.lt_succ_iff_lt_or_eq.mp h).elim (zndA54 m) (fun e => by rw [e]; exact znd55)
theorem zndA56 : ∀ m, m < 57 → zNdd m ((zKs[m]?).getD []) := fun m h => (Nat.lt_succ_iff_lt_or_eq.mp h).elim (zndA55 m) (fun e => by rw [e]; exact znd56)
theorem zndA57 : ∀ m, m < 58 → zNdd m ((zKs[m]?).getD []) := fun m h => (Nat.lt_succ_iff_lt_or_eq.mp h).elim (zndA56 m) (fun e => by rw [e]; exact znd57)
theorem zndA58 : ∀ m, m < 59 → zNdd m ((zKs[m]?).getD []) := fun m h => (Nat.lt_succ_iff_lt_or_eq.mp h).elim (zndA57 m) (fun e => by rw [e]; exact znd58)
theorem zndA59 : ∀ m, m < 60 → zNdd m ((zKs[m]?).getD []) := fun m h => (Nat.lt_succ_iff_lt_or_eq.mp h).elim (zndA58 m) (fun e => by rw [e]; exact znd59)
theorem zndA60 : ∀ m, m < 61 → zNdd m ((zKs[m]?).getD []) := fun m h => (Nat.lt_succ_iff_lt_or_eq.mp h).elim (zndA59 m) (fun e => by rw [e]; exact znd60)
theorem zndA61 : ∀ m, m < 62 → zNdd m ((zKs[m]?).getD []) := fun m h => (Nat.lt_succ_iff_lt_or_eq.mp h).elim (zndA60 m) (fun e => by rw [e]; exact znd61)
theorem zndA62 : ∀ m, m < 63 → zNdd m ((zKs[m]?).getD []) := fun m h => (Nat.lt_succ_iff_lt_or_eq.mp h).elim (zndA61 m) (fun e => by rw [e]; exact znd62)
theorem zndA63 : ∀ m, m < 64 → zNdd m ((zKs[m]?).getD []) := fun m h => (Nat.lt_succ_iff_lt_or_eq.mp h).elim (zndA62 m) (fun e => by rw [e]; exact znd63)
theorem zndA64 : ∀ m, m < 65 → zNdd m ((zKs[m]?).getD []) := fun m h => (Nat.lt_succ_iff_lt_or_eq.mp h).elim (zndA63 m) (fun e => by rw [e]; exact znd64)
theorem zndA65 : ∀ m, m < 66 → zNdd m ((zKs[m]?).getD []) := fun m h => (Nat.lt_succ_iff_lt_or_eq.mp h).elim (zndA64 m) (fun e => by rw [e]; exact znd65)
theorem zndA66 : ∀ m, m < 67 → zNdd m ((zKs[m]?).getD []) := fun m h => (Nat.lt_succ_iff_lt_or_eq.mp h).elim (zndA65 m) (fun e => by rw [e]; exact znd66)
theorem zndA67 : ∀ m, m < 68 → zNdd m ((zKs[m]?).getD []) := fun m h => (Nat.lt_succ_iff_lt_or_eq.mp h).elim (zndA66 m) (fun e => by rw [e]; exact znd67)
theorem zndA68 : ∀ m, m < 69 → zNdd m ((zKs[m]?).getD []) := fun m h => (Nat.lt_succ_iff_lt_or_eq.mp h).elim (zndA67 m) (fun e => by rw [e]; exact znd68)
theorem zndA69 : ∀ m, m < 70 → zNdd m ((zKs[m]?).getD []) := fun m h => (Nat.lt_succ_iff_lt_or_eq.mp h).elim (zndA68 m) (fun e => by rw [e]; exact znd69)
theorem zndA70 : ∀ m, m < 71 → zNdd m ((zKs[m]?).getD []) := fun m h => (Nat.lt_succ_iff_lt_or_eq.mp h).elim (zndA69 m) (fun e => by rw [e]; exact znd70)
theorem zndA71 : ∀ m, m < 72 → zNdd m ((zKs[m]?).getD []) := fun m h => (Nat.lt_succ_iff_lt_or_eq.mp h).elim (zndA70 m) (fun e => by rw [e]; exact znd71)
theorem zndA72 : ∀ m, m < 73 → zNdd m ((zKs[m]?).getD []) := fun m h => (Nat.lt_succ_iff_lt_or_eq.mp h).elim (zndA71 m) (fun e => by rw [e]; exact znd72)
theorem zndA73 : ∀ m, m < 74 → zNdd m ((zKs[m]?).getD []) := fun m h => (Nat.lt_succ_iff_lt_or_eq.mp h).elim (zndA72 m) (fun e => by rw [e]; exact znd73)
theorem zndA74 : ∀ m, m < 75 → zNdd m ((zKs[m]?).getD []) := fun m h => (Nat.lt_succ_iff_lt_or_eq.mp h).elim (zndA73 m) (fun e => by rw [e]; exact znd74)
theorem zndA75 : ∀ m, m < 76 → zNdd m ((zKs[m]?).getD []) := fun m h => (Nat.lt_succ_iff_lt_or_eq.mp h).elim (zndA74 m) (fun e => by rw [e]; exact znd75)
theorem zndA76 : ∀ m, m < 77 → zNdd m ((zKs[m]?).getD []) := fun m h => (Nat.lt_succ_iff_lt_or_eq.mp h).elim (zndA75 m) (fun e => by rw [e]; exact znd76)
theorem zndA77 : ∀ m, m < 78 → zNdd m ((zKs[m]?).getD []) := fun m h => (Nat.lt_succ_iff_lt_or_eq.mp h).elim (zndA76 m) (fun e => by rw [e]; exact znd77)
theorem zndA78 : ∀ m, m < 79 → zNdd m ((zKs[m]?).getD []) := fun m h => (Nat.lt_succ_iff_lt_or_eq.mp h).elim (zndA77 m) (fun e => by rw [e]; exact znd78)
theorem zndA79 : ∀ m, m < 80 → zNdd m ((zKs[m]?).getD []) := fun m h => (Nat.lt_succ_iff_lt_or_eq.mp h).elim (zndA78 m) (fun e => by rw [e]; exact znd79)
theorem zndA80 : ∀ m, m < 81 → zNdd m ((zKs[m]?).getD []) := fun m h => (Nat.lt_succ_iff_lt_or_eq.mp h).elim (zndA79 m) (fun e => by rw [e]; exact znd80)
theorem zndA81 : ∀ m, m < 82 → zNdd m ((zKs[m]?).getD []) := fun m h => (Nat.lt_succ_iff_lt_or_eq.mp h).elim (zndA80 m) (fun e => by rw [e]; exact znd81)
theorem zndA82 : ∀ m, m < 83 → zNdd m ((zKs[m]?).getD []) := fun m h => (Nat.lt_succ_iff_lt_or_eq.mp h).elim (zndA81 m) (fun e => by rw [e]; exact znd82)
theorem zndA83 : ∀ m, m < 84 → zNdd m ((zKs[m]?).getD []) := fun m h => (Nat.lt_succ_iff_lt_or_eq.mp h).elim (zndA82 m) (fun e => by rw [e]; exact znd83)
theorem zndA84 : ∀ m, m < 85 → zNdd m ((zKs[m]?).getD []) := fun m h => (Nat.lt_succ_iff_lt_or_eq.mp h).elim (zndA83 m) (fun e => by rw [e]; exact znd84)
theorem zndA85 : ∀ m, m < 86 → zNdd m ((zKs[m]?).getD []) := fun m h => (Nat.lt_succ_iff_lt_or_eq.mp h).elim (zndA84 m) (fun e => by rw [e]; exact znd85)
theorem zndA86 : ∀ m, m < 87 → zNdd m ((zKs[m]?).getD []) := fun m h => (Nat.lt_succ_iff_lt_or_eq.mp h).elim (zndA85 m) (fun e => by rw [e]; exact znd86)
theorem zndA87 : ∀ m, m < 88 → zNdd m ((zKs[m]?).getD []) := fun m h => (Nat.lt_succ_iff_lt_or_eq.mp h).elim (zndA86 m) (fun e => by rw [e]; exact znd87)
theorem zndA88 : ∀ m, m < 89 → zNdd m ((zKs[m]?).getD []) := fun m h => (Nat.lt_succ_iff_lt_or_eq.mp h).elim (zndA87 m) (fun e => by rw [e]; exact znd88)
theorem zndA89 : ∀ m, m < 90 → zNdd m ((zKs[m]?).getD []) := fun m h => (Nat.lt_succ_iff_lt_or_eq.mp h).elim (zndA88 m) (fun e => by rw [e]; exact znd89)
theorem zndA90 : ∀ m, m < 91 → zNdd m ((zKs[m]?).getD []) := fun m h => (Nat.lt_succ_iff_lt_or_eq.mp h).elim (zndA89 m) (fun e => by rw [e]; exact znd90)
theorem zndA91 : ∀ m, m < 92 → zNdd m ((zKs[m]?).getD []) := fun m h => (Nat.lt_succ_iff_lt_or_eq.mp h).elim (zndA90 m) (fun e => by rw [e]; exact znd91)
theorem zndA92 : ∀ m, m < 93 → zNdd m ((zKs[m]?).getD []) := fun m h => (Nat.lt_succ_iff_lt_or_eq.mp h).elim (zndA91 m) (fun e => by rw [e]; exact znd92)
theorem zndA93 : ∀ m, m < 94 → zNdd m ((zKs[m]?).getD []) := fun m h => (Nat.lt_succ_iff_lt_or_eq.mp h).elim (zndA92 m) (fun e => by rw [e]; exact znd93)
theorem zndA94 : ∀ m, m < 95 → zNdd m ((zKs[m]?).getD []) := fun m h => (Nat.lt_succ_iff_lt_or_eq.mp h).elim (zndA93 m) (fun e => by rw [e]; exact znd94)
theorem zndA95 : ∀ m, m < 96 → zNdd m ((zKs[m]?).getD []) := fun m h => (Nat.lt_succ_iff_lt_or_eq.mp h).elim (zndA94 m) (fun e => by rw [e]; exact znd95)
theorem zndA96 : ∀ m, m < 97 → zNdd m ((zKs[m]?).getD []) := fun m h => (Nat.lt_succ_iff_lt_or_eq.mp h).elim (zndA95 m) (fun e => by rw [e]; exact znd96)
theorem zndA97 : ∀ m, m < 98 → zNdd m ((zKs[m]?).getD []) := fun m h => (Nat.lt_succ_iff_lt_or_eq.mp h).elim (zndA96 m) (fun e => by rw [e]; exact znd97)
theorem zndA98 : ∀ m, m < 99 → zNdd m ((zKs[m]?).getD []) := fun m h => (Nat.lt_succ_iff_lt_or_eq.mp h).elim (zndA97 m) (fun e => by rw [e]; exact znd98)
theorem zndA99 : ∀ m, m < 100 → zNdd m ((zKs[m]?).getD []) := fun m h => (Nat.lt_succ_iff_lt_or_eq.mp h).elim (zndA98 m) (fun e => by rw [e]; exact znd99)
theorem zndA100 : ∀ m, m < 101 → zNdd m ((zKs[m]?).getD []) := fun m h => (Nat.lt_succ_iff_lt_or_eq.mp h).elim (zndA99 m) (fun e => by rw [e]; exact znd100)
theorem zndA101 : ∀ m, m < 102 → zNdd m ((zKs[m]?).getD []) := fun m h => (Nat.lt_succ_iff_lt_or_eq.mp h).elim (zndA100 m) (fun e => by rw [e]; exact znd101)
theorem zndA102 : ∀ m, m < 103 → zNdd m ((zKs[m]?).getD []) := fun m h => (Nat.lt_succ_iff_lt_or_eq.mp h).elim (zndA101 m) (fun e => by rw [e]; exact znd102)
theorem zndA103 : ∀ m, m < 104 → zNdd m ((zKs[m]?).getD []) := fun m h => (Nat.lt_succ_iff_lt_or_eq.mp h).elim (zndA102 m) (fun e => by rw [e]; exact znd103)
theorem zndA104 : ∀ m, m < 105 → zNdd m ((zKs[m]?).getD []) := fun m h => (Nat.lt_succ_iff_lt_or_eq.mp h).elim (zndA103 m) (fun e => by rw [e]; exact znd104)
theorem zndA105 : ∀ m, m < 106 → zNdd m ((zKs[m]?).getD []) := fun m h => (Nat.lt_succ_iff_lt_or_eq.mp h).elim (zndA104 m) (fun e => by rw [e]; exact znd105)
theorem zndA106 : ∀ m, m < 107 → zNdd m ((zKs[m]?).getD []) := fun m h => (Nat.lt_succ_iff_lt_or_eq.mp h).elim (zndA105 m) (fun e => by rw [e]; exact znd106)
theorem zndA107 : ∀ m, m < 108 → zNdd m ((zKs[m]?).getD []) := fun m h => (Nat.lt_succ_iff_lt_or_eq.mp h).elim (zndA106 m) (fun e => by rw [e]; exact znd107)
theorem zndA108 : ∀ m, m < 109 → zNdd m ((zKs[m]?).getD []) := fun m h => (Nat.lt_succ_iff_lt_or_eq.mp h).elim (zndA107 m) (fun e => by rw [e]; exact znd108)
theorem zndA109 : ∀ m, m < 110 → zNdd m ((zKs[m]?).getD []) := fun m h => (Nat.lt_succ_iff_lt_or_eq.mp h).elim (zndA108 m) (fun e => by rw [e]; exact znd109)
theorem zndA110 : ∀ m, m < 111 → zNdd m ((zKs[m]?).getD []) := fun m h => (Nat.lt_succ_iff_lt_or_eq.mp h).elim (zndA109 m) (fun e => by rw [e]; exact znd110)
theorem zndA111 : ∀ m, m < 112 → zNdd m ((zKs[m]?).getD []) := fun m h => (Nat.lt_succ_iff_lt_or_eq.mp h).elim (zndA110 m) (fun e => by rw [e]; exact znd111)
theorem zndA112 : ∀ m, m < 113 → zNdd m ((zKs[m]?).getD []) := fun m h => (Nat.lt_succ_iff_lt_or_eq.mp h).elim (zndA111 m) (fun e => by rw [e]; exact znd112)
theorem zndA113 : ∀ m, m < 114 → zNdd m ((zKs[m]?).getD []) := fun m h => (Nat.lt_succ_iff_lt_or_eq.mp h).elim (zndA112 m) (fun e => by rw [e]; exact znd113)
theorem zndA114 : ∀ m, m < 115 → zNdd m ((zKs[m]?).getD []) := fun m h => (Nat.lt_succ_iff_lt_or_eq.mp h).elim (zndA113 m) (fun e => by rw [e]; exact znd114)
theorem zndA115 : ∀ m, m < 116 → zNdd m ((zKs[m]?).getD []) := fun m h => (Nat.lt_succ_iff_lt_or_eq.mp h).elim (zndA114 m) (fun e => by rw [e]; exact znd115)
theorem zndA116 : ∀ m, m < 117 → zNdd m ((zKs[m]?).getD []) := fun m h => (Nat.lt_succ_iff_lt_or_eq.mp h).elim (zndA115 m) (fun e => by rw [e]; exact znd116)
theorem zndA117 : ∀ m, m < 118 → zNdd m ((zKs[m]?).getD []) := fun m h => (Nat.lt_succ_iff_lt_or_eq.mp h).elim (zndA116 m) (fun e => by rw [e]; exact znd117)
theorem zndA118 : ∀ m, m < 119 → zNdd m ((zKs[m]?).getD []) := fun m h => (Nat.lt_succ_iff_lt_or_eq.mp h).elim (zndA117 m) (fun e => by rw [e]; exact znd118)
theorem zndA119 : ∀ m, m < 120 → zNdd m ((zKs[m]?).getD []) := fun m h => (Nat.lt_succ_iff_lt_or_eq.mp h).elim (zndA118 m) (fun e => by rw [e]; exact znd119)
theorem zndA120 : ∀ m, m < 121 → zNdd m ((zKs[m]?).getD []) := fun m h => (Nat.lt_succ_iff_lt_or_eq.mp h).elim (zndA119 m) (fun e => by rw [e]; exact znd120)
theorem zndA121 : ∀ m, m < 122 → zNdd m ((zKs[m]?).getD []) := fun m h => (Nat.lt_succ_iff_lt_or_eq.mp h).elim (zndA120 m) (fun e => by rw [e]; exact znd121)
theorem zndA122 : ∀ m, m < 123 → zNdd m ((zKs[m]?).getD []) := fun m h => (Nat.lt_succ_iff_lt_or_eq.mp h).elim (zndA121 m) (fun e => by rw [e]; exact znd122)
theorem zndA123 : ∀ m, m < 124 → zNdd m ((zKs[m]?).getD []) := fun m h => (Nat.lt_succ_iff_lt_or_eq.mp h).elim (zndA122 m) (fun e => by rw [e]; exact znd123)
theorem zndA124 : ∀ m, m < 125 → zNdd m ((zKs[m]?).getD []) := fun m h => (Nat.lt_succ_iff_lt_or_eq.mp h).elim (zndA123 m) (fun e => by rw [e]; exact znd124)
theorem zndA125 : ∀ m, m < 126 → zNdd m ((zKs[m]?).getD []) := fun m h => (Nat.lt_succ_iff_lt_or_eq.mp h).elim (zndA124 m) (fun e => by rw [e]; exact znd125)
theorem zndA126 : ∀ m, m < 127 → zNdd m ((zKs[m]?).getD []) := fun m h => (Nat.lt_succ_iff_lt_or_eq.mp h).elim (zndA125 m) (fun e => by rw [e]; exact znd126)
theorem zndA127 : ∀ m, m < 128 → zNdd m ((zKs[m]?).getD []) := fun m h => (Nat.lt_succ_iff_lt_or_eq.mp h).elim (zndA126 m) (fun e => by rw [e]; exact znd127)
theorem zndA128 : ∀ m, m < 129 → zNdd m ((zKs[m]?).getD []) := fun m h => (Nat.lt_succ_iff_lt_or_eq.mp h).elim (zndA127 m) (fun e => by rw [e]; exact znd128)
theorem zndA129 : ∀ m, m < 130 → zNdd m ((zKs[m]?).getD []) := fun m h => (Nat.lt_succ_iff_lt_or_eq.mp h).elim (zndA128 m) (fun e => by rw [e]; exact znd129)
theorem zndA130 : ∀ m, m < 131 → zNdd m ((zKs[m]?).getD []) := fun m h => (Nat.lt_succ_iff_lt_or_eq.mp h).elim (zndA129 m) (fun e => by rw [e]; exact znd130)
theorem zndA131 : ∀ m, m < 132 → zNdd m ((zKs[m]?).getD []) := fun m h => (Nat.lt_succ_iff_lt_or_eq.mp h).elim (zndA130 m) (fun e => by rw [e]; exact znd131)
theorem zndA132 : ∀ m, m < 133 → zNdd m ((zKs[m]?).getD []) := fun m h => (Nat.lt_succ_iff_lt_or_eq.mp h).elim (zndA131 m) (fun e => by rw [e]; exact znd132)
theorem zndA133 : ∀ m, m < 134 → zNdd m ((zKs[m]?).getD []) := fun m h => (Nat.lt_succ_iff_lt_or_eq.mp h).elim (zndA132 m) (fun e => by rw [e]; exact znd133)
theorem zndA134 : ∀ m, m < 135 → zNdd m ((zKs[m]?).getD []) := fun m h => (Nat.lt_succ_iff_lt_or_eq.mp h).elim (zndA133 m) (fun e => by rw [e]; exact znd134)
theorem zndA135 : ∀ m, m < 136 → zNdd m ((zKs[m]?).getD []) := fun m h => (Nat.lt_succ_iff_lt_or_eq.mp h).elim (zndA134 m) (fun e => by rw [e]; exact znd135)
theorem zndA136 : ∀ m, m < 137 → zNdd m ((zKs[m]?).getD []) := fun m h => (Nat.lt_succ_iff_lt_or_eq.mp h).elim (zndA135 m) (fun e => by rw [e]; exact znd136)
theorem zndA137 : ∀ m, m < 138 → zNdd m ((zKs[m]?).getD []) := fun m h => (Nat.lt_succ_iff_lt_or_eq.mp h).elim (zndA136 m) (fun e => by rw [e]; exact znd137)
theorem zndA138 : ∀ m, m < 139 → zNdd m ((zKs[m]?).getD []) := fun m h => (Nat.lt_succ_iff_lt_or_eq.mp h).elim (zndA137 m) (fun e => by rw [e]; exact znd138)
theorem zndA139 : ∀ m, m < 140 → zNdd m ((zKs[m]?).getD []) := fun m h => (Nat.lt_succ_iff_lt_or_eq.mp h).elim (zndA138 m) (fun e => by rw [e]; exact znd139)
theorem zndA140 : ∀ m, m < 141 → zNdd m ((zKs[m]?).getD []) := fun m h => (Nat.lt_succ_iff_lt_or_eq.mp h).elim (zndA139 m) (fun e => by rw [e]; exact znd140)
theorem zndA141 : ∀ m, m < 142 → zNdd m ((zKs[m]?).getD []) := fun m h => (Nat.lt_succ_iff_lt_or_eq.mp h).elim (zndA140 m) (fun e => by rw [e]; exact znd141)
theorem zndA142 : ∀ m, m < 143 → zNdd m ((zKs[m]?).getD []) := fun m h => (Nat.lt_succ_iff_lt_or_eq.mp h).elim (zndA141 m) (fun e => by rw [e]; exact znd142)
theorem zndA143 : ∀ m, m < 144 → zNdd m ((zKs[m]?).getD []) := fun m h => (Nat.lt_succ_iff_lt_or_eq.mp h).elim (zndA142 m) (fun e => by rw [e]; exact znd143)
theorem zndA144 : ∀ m, m < 145 → zNdd m ((zKs[m]?).getD []) := fun m h => (Nat.lt_succ_iff_lt_or_eq.mp h).elim (zndA143 m) (fun e => by rw [e]; exact znd144)
theorem zndA145 : ∀ m, m < 146 → zNdd m ((zKs[m]?).getD []) := fun m h => (Nat.lt_succ_iff_lt_or_eq.mp h).elim (zndA144 m) (fun e => by rw [e]; exact znd145)
theorem zndA146 : ∀ m, m < 147 → zNdd m ((zKs[m]?).getD []) := fun m h => (Nat.lt_succ_iff_lt_or_eq.mp h).elim (zndA145 m) (fun e => by rw [e]; exact znd146)
theorem zndA147 : ∀ m, m < 148 → zNdd m ((zKs[m]?).getD []) := fun m h => (Nat.lt_succ_iff_lt_or_eq.mp h).elim (zndA146 m) (fun e => by rw [e]; exact znd147)
theorem zndA148 : ∀ m, m < 149 → zNdd m ((zKs[m]?).getD []) := fun m h => (Nat.lt_succ_iff_lt_or_eq.mp h).elim (zndA147 m) (fun e => by rw [e]; exact znd148)
theorem zndA149 : ∀ m, m < 150 → zNdd m ((zKs[m]?).getD []) := fun m h => (Nat.lt_succ_iff_lt_or_eq.mp h).elim (zndA148 m) (fun e => by rw [e]; exact znd149)
theorem zndA150 : ∀ m, m < 151 → zNdd m ((zKs[m]?).getD []) := fun m h => (Nat.lt_succ_iff_lt_or_eq.mp h).elim (zndA149 m) (fun e => by rw [e]; exact znd150)
theorem zndA151 : ∀ m, m < 152 → zNdd m ((zKs[m]?).getD []) := fun m h => (Nat.lt_succ_iff_lt_or_eq.mp h).elim (zndA150 m) (fun e => by rw [e]; exact znd151)
theorem zndA152 : ∀ m, m < 153 → zNdd m ((zKs[m]?).getD []) := fun m h => (Nat.lt_succ_iff_lt_or_eq.mp h).elim (zndA151 m) (fun e => by rw [e]; exact znd152)
theorem zndA153 : ∀ m, m < 154 → zNdd m ((zKs[m]?).getD []) := fun m h => (Nat.lt_succ_iff_lt_or_eq.mp h).elim (zndA152 m) (fun e => by rw [e]; exact znd153)
theorem zndA154 : ∀ m, m < 155 → zNdd m ((zKs[m]?).getD []) := fun m h => (Nat.lt_succ_iff_lt_or_eq.mp h).elim (zndA153 m) (fun e => by rw [e]; exact znd154)
theorem zndA155 : ∀ m, m < 156 → zNdd m ((zKs[m]?).getD []) := fun m h => (Nat.lt_succ_iff_lt_or_eq.mp h).elim (zndA154 m) (fun e => by rw [e]; exact znd155)
theorem zndA156 : ∀ m, m < 157 → zNdd m ((zKs[m]?).getD []) := fun m h => (Nat.lt_succ_iff_lt_or_eq.mp h).elim (zndA155 m) (fun e => by rw [e]; exact znd156)
theorem zndA157 : ∀ m, m < 158 → zNdd m ((zKs[m]?).getD []) := fun m h => (Nat.lt_succ_iff_lt_or_eq.mp h).elim (zndA156 m) (fun e => by rw [e]; exact znd157)
theorem zndA158 : ∀ m, m < 159 → zNdd m ((zKs[m]?).getD []) := fun m h => (Nat.lt_succ_iff_lt_or_eq.mp h).elim (zndA157 m) (fun e => by rw [e]; exact znd158)
theorem zndA159 : ∀ m, m < 160 → zNdd m ((zKs[m]?).getD []) := fun m h => (Nat.lt_succ_iff_lt_or_eq.mp h).elim (zndA158 m) (fun e => by rw [e]; exact znd159)
theorem zndA160 : ∀ m, m < 161 → zNdd m ((zKs[m]?).getD []) := fun m h => (Nat.lt_succ_iff_lt_or_eq.mp h).elim (zndA159 m) (fun e => by rw [e]; exact znd160)
theorem zndA161 : ∀ m, m < 162 → zNdd m ((zKs[m]?).getD []) := fun m h => (Nat.lt_succ_iff_lt_or_eq.mp h).elim (zndA160 m) (fun e => by rw [e]; exact znd161)
theorem zndA162 : ∀ m, m < 163 → zNdd m ((zKs[m]?).getD []) := fun m h => (Nat.lt_succ_iff_lt_or_eq.mp h).elim (zndA161 m) (fun e => by rw [e]; exact znd162)
theorem zndA163 : ∀ m, m < 164 → zNdd m ((zKs[m]?).getD []) := fun m h => (Nat.lt_succ_iff_lt_or_eq.mp h).elim (zndA162 m) (fun e => by rw [e]; exact znd163)
theorem zndA164 : ∀ m, m < 165 → zNdd m ((zKs[m]?).getD []) := fun m h => (Nat.lt_succ_iff_lt_or_eq.mp h).elim (zndA163 m) (fun e => by rw [e]; exact znd164)
theorem zndA165 : ∀ m, m < 166 → zNdd m ((zKs[m]?).getD []) := fun m h => (Nat.lt_succ_iff_lt_or_eq.mp h).elim (zndA164 m) (fun e => by rw [e]; exact znd165)
theorem zndA166 : ∀ m, m < 167 → zNdd m ((zKs[m]?).getD []) := fun m h => (Nat.lt_succ_iff_lt_or_eq.mp h).elim (zndA165 m) (fun e => by rw [e]; exact znd166)
theorem zndA167 : ∀ m, m < 168 → zNdd m ((zKs[m]?).getD []) := fun m h => (Nat.lt_succ_iff_lt_or_eq.mp h).elim (zndA166 m) (fun e => by rw [e]; exact znd167)
theorem zndA168 : ∀ m, m < 169 → zNdd m ((zKs[m]?).getD []) := fun m h => (Nat.lt_succ_iff_lt_or_eq.mp h).elim (zndA167 m) (fun e => by rw [e]; exact znd168)
theorem zndA169 : ∀ m, m < 170 → zNdd m ((zKs[m]?).getD []) := fun m h => (Nat.lt_succ_iff_lt_or_eq.mp h).elim (zndA168 m) (fun e => by rw [e]; exact znd169)
theorem zndA170 : ∀ m, m < 171 → zNdd m ((zKs[m]?).getD []) := fun m h => (Nat.lt_succ_iff_lt_or_eq.mp h).elim (zndA169 m) (fun e => by rw [e]; exact znd170)
theorem zndA171 : ∀ m, m < 172 → zNdd m ((zKs[m]?).getD []) := fun m h => (Nat.lt_succ_iff_lt_or_eq.mp h).elim (zndA170 m) (fun e => by rw [e]; exact znd171)
theorem zndA172 : ∀ m, m < 173 → zNdd m ((zKs[m]?).getD []) := fun m h => (Nat.lt_succ_iff_lt_or_eq.mp h).elim (zndA171 m) (fun e => by rw [e]; exact znd172)
theorem zndA173 : ∀ m, m < 174 → zNdd m ((zKs[m]?).getD []) := fun m h => (Nat.lt_succ_iff_lt_or_eq.mp h).elim (zndA172 m) (fun e => by rw [e]; exact znd173)
theorem zndA174 : ∀ m, m < 175 → zNdd m ((zKs[m]?).getD []) := fun m h => (Nat.lt_succ_iff_lt_or_eq.mp h).elim (zndA173 m) (fun e => by rw [e]; exact znd174)
theorem zndA175 : ∀ m, m < 176 → zNdd m ((zKs[m]?).getD []) := fun m h => (Nat.lt_succ_iff_lt_or_eq.mp h).elim (zndA174 m) (fun e => by rw [e]; exact znd175)
theorem zndA176 : ∀ m, m < 177 → zNdd m ((zKs[m]?).getD []) := fun m h => (Nat.lt_succ_iff_lt_or_eq.mp h).elim (zndA175 m) (fun e => by rw [e]; exact znd176)
theorem zndA177 : ∀ m, m < 178 → zNdd m ((zKs[m]?).getD []) := fun m h => (Nat.lt_succ_iff_lt_or_eq.mp h).elim (zndA176 m) (fun e => by rw [e]; exact znd177)
theorem zndA178 : ∀ m, m < 179 → zNdd m ((zKs[m]?).getD []) := fun m h => (Nat.lt_succ_iff_lt_or_eq.mp h).elim (zndA177 m) (fun e => by rw [e]; exact znd178)
theorem zndA179 : ∀ m, m < 180 → zNdd m ((zKs[m]?).getD []) := fun m h => (Nat.lt_succ_iff_lt_or_eq.mp h).elim (zndA178 m) (fun e => by rw [e]; exact znd179)
theorem zndA180 : ∀ m, m < 181 → zNdd m ((zKs[m]?).getD []) := fun m h => (Nat.lt_succ_iff_lt_or_eq.mp h).elim (zndA179 m) (fun e => by rw [e]; exact znd180)
theorem zndA181 : ∀ m, m < 182 → zNdd m ((zKs[m]?).getD []) := fun m h => (Nat.lt_succ_iff_lt_or_eq.mp h).elim (zndA180 m) (fun e => by rw [e]; exact znd181)
theorem zndA182 : ∀ m, m < 183 → zNdd m ((zKs[m]?).getD []) := fun m h => (Nat.lt_succ_iff_lt_or_eq.mp h).elim (zndA181 m) (fun e => by rw [e]; exact znd182)
theorem zndA183 : ∀ m, m < 184 → zNdd m ((zKs[m]?).getD []) := fun m h => (Nat.lt_succ_iff_lt_or_eq.mp h).elim (zndA182 m) (fun e => by rw [e]; exact znd183)
theorem zndA184 : ∀ m, m < 185 → zNdd m ((zKs[m]?).getD []) := fun m h => (Nat.lt_succ_iff_lt_or_eq.mp h).elim (zndA183 m) (fun e => by rw [e]; exact znd184)
theorem zndA185 : ∀ m, m < 186 → zNdd m ((zKs[m]?).getD []) := fun m h => (Nat.lt_succ_iff_lt_or_eq.mp h).elim (zndA184 m) (fun e => by rw [e]; exact znd185)
theorem zndA186 : ∀ m, m < 187 → zNdd m ((zKs[m]?).getD []) := fun m h => (Nat.lt_succ_iff_lt_or_eq.mp h).elim (zndA185 m) (fun e => by rw [e]; exact znd186)
theorem zndA187 : ∀ m, m < 188 → zNdd m ((zKs[m]?).getD []) := fun m h => (Nat.lt_succ_iff_lt_or_eq.mp h).elim (zndA186 m) (fun e => by rw [e]; exact znd187)
theorem zndA188 : ∀ m, m < 189 → zNdd m ((zKs[m]?).getD []) := fun m h => (Nat.lt_succ_iff_lt_or_eq.mp h).elim (zndA187 m) (fun e => by rw [e]; exact znd188)
theorem zndA189 : ∀ m, m < 190 → zNdd m ((zKs[m]?).getD []) := fun m h => (Nat.lt_succ_iff_lt_or_eq.mp h).elim (zndA188 m) (fun e => by rw [e]; exact znd189)
theorem zndA190 : ∀ m, m < 191 → zNdd m ((zKs[m]?).getD []) := fun m h => (Nat.lt_succ_iff_lt_or_eq.mp h).elim (zndA189 m) (fun e => by rw [e]; exact znd190)
theorem zndA191 : ∀ m, m < 192 → zNdd m ((zKs[m]?).getD []) := fun m h => (Nat.lt_succ_iff_lt_or_eq.mp h).elim (zndA190 m) (fun e => by rw [e]; exact znd191)
theorem zndA192 : ∀ m, m < 193 → zNdd m ((zKs[m]?).getD []) := fun m h => (Nat.lt_succ_iff_lt_or_eq.mp h).elim (zndA191 m) (fun e => by rw [e]; exact znd192)
theorem zndA193 : ∀ m, m < 194 → zNdd m ((zKs[m]?).getD []) := fun m h => (Nat.lt_succ_iff_lt_or_eq.mp h).elim (zndA192 m) (fun e => by rw [e]; exact znd193)
theorem zndA194 : ∀ m, m < 195 → zNdd m ((zKs[m]?).getD []) := fun m h => (Nat.lt_succ_iff_lt_or_eq.mp h).elim (zndA193 m) (fun e => by rw [e]; exact znd194)
theorem zndA195 : ∀ m, m < 196 → zNdd m ((zKs[m]?).getD []) := fun m h => (Nat.lt_succ_iff_lt_or_eq.mp h).elim (zndA194 m) (fun e => by rw [e]; exact znd195)
theorem zndA196 : ∀ m, m < 197 → zNdd m ((zKs[m]?).getD []) := fun m h => (Nat.lt_succ_iff_lt_or_eq.mp h).elim (zndA195 m) (fun e => by rw [e]; exact znd196)
theorem zndA197 : ∀ m, m < 198 → zNdd m ((zKs[m]?).getD []) := fun m h => (Nat.lt_succ_iff_lt_or_eq.mp h).elim (zndA196 m) (fun e => by rw [e]; exact znd197)
theorem zndA198 : ∀ m, m < 199 → zNdd m ((zKs[m]?).getD []) := fun m h => (Nat.lt_succ_iff_lt_or_eq.mp h).elim (zndA197 m) (fun e => by rw [e]; exact znd198)
theorem zndA199 : ∀ m, m < 200 → zNdd m ((zKs[m]?).getD []) := fun m h => (Nat.lt_succ_iff_lt_or_eq.mp h).elim (zndA198 m) (fun e => by rw [e]; exact znd199)
theorem zndA200 : ∀ m, m < 201 → zNdd m ((zKs[m]?).getD []) := fun m h => (Nat.lt_succ_iff_lt_or_eq.mp h).elim (zndA199 m) (fun e => by rw [e]; exact znd200)
theorem zndA201 : ∀ m, m < 202 → zNdd m ((zKs[m]?).getD []) := fun m h => (Nat.lt_succ_iff_lt_or_eq.mp h).elim (zndA200 m) (fun e => by rw [e]; exact znd201)
theorem zndA202 : ∀ m, m < 203 → zNdd m ((zKs[m]?).getD []) := fun m h => (Nat.lt_succ_iff_lt_or_eq.mp h).elim (zndA201 m) (fun e => by rw [e]; exact znd202)
theorem zndA203 : ∀ m, m < 204 → zNdd m ((zKs[m]?).getD []) := fun m h => (Nat.lt_succ_iff_lt_or_eq.mp h).elim (zndA202 m) (fun e => by rw [e]; exact znd203)
theorem zndA204 : ∀ m, m < 205 → zNdd m ((zKs[m]?).getD []) := fun m h => (Nat.lt_succ_iff_lt_or_eq.mp h).elim (zndA203 m) (fun e => by rw [e]; exact znd204)
theorem zndA205 : ∀ m, m < 206 → zNdd m ((zKs[m]?).getD []) := fun m h => (Nat.lt_succ_iff_lt_or_eq.mp h).elim (zndA204 m) (fun e => by rw [e]; exact znd205)
theorem zndA206 : ∀ m, m < 207 → zNdd m ((zKs[m]?).getD []) := fun m h => (Nat.lt_succ_iff_lt_or_eq.mp h).elim (zndA205 m) (fun e => by rw [e]; exact znd206)
theorem zndA207 : ∀ m, m < 208 → zNdd m ((zKs[m]?).getD []) := fun m h => (Nat.lt_succ_iff_lt_or_eq.mp h).elim (zndA206 m) (fun e => by rw [e]; exact znd207)
theorem zndA208 : ∀ m, m < 209 → zNdd m ((zKs[m]?).getD []) := fun m h => (Nat.lt_succ_iff_lt_or_eq.mp h).elim (zndA207 m) (fun e => by rw [e]; exact znd208)
theorem zndA209 : ∀ m, m < 210 → zNdd m ((zKs[m]?).getD []) := fun m h => (Nat.lt_succ_iff_lt_or_eq.mp h).elim (zndA208 m) (fun e => by rw [e]; exact znd209)
theorem zndA210 : ∀ m, m < 211 → zNdd m ((zKs[m]?).getD []) := fun m h => (Nat.lt_succ_iff_lt_or_eq.mp h).elim (zndA209 m) (fun e => by rw [e]; exact znd210)
theorem zth34 : zthr "DoorstepRides" (zby 34) 4 238 9 1 := ⟨240, 242, "out of its range", rfl, by decide +kernel, zw115, zw9, zat9_242, by decide, by decide, by decide +kernel, by decide +kernel, Or.inl ⟨rfl, by decide +kernel, by decide +kernel, by decide +kernel⟩⟩
theorem zth35 : zthr "DoorstepRides" (zby 35) 4 245 10 1 := ⟨247, 249, "not as things are", rfl, by decide +kernel, zw190, zw10, zat10_249, by decide, by decide, by decide +kernel, by decide +kernel, Or.inl ⟨rfl, by decide +kernel, by decide +kernel, by decide +kernel⟩⟩
theorem zth41 : zthr "DoorstepRides" (zby 41) 15 250 11 1 := ⟨255, 254, "no such vehicle", rfl, by decide +kernel, zw394, zw18, zat11_254, by decide, by decide, by decide +kernel, by decide +kernel, Or.inl ⟨rfl, by decide +kernel, by decide +kernel, by decide +kernel⟩⟩
theorem zth43 : zthr "DoorstepRides" (zby 43) 15 250 11 1 := ⟨252, 254, "no such rider", rfl, by decide +kernel, zw394, zw18, zat11_254, by decide, by decide, by decide +kernel, by decide +kernel, Or.inl ⟨rfl, by decide +kernel, by decide +kernel, by decide +kernel⟩⟩
theorem zth50 : zthr "DoorstepRides" (zby 50) 15 250 11 2 := ⟨257, 254, "no such request", rfl, by decide +kernel, zw394, zw18, zat11_254, by decide, by decide, by decide +kernel, by decide +kernel, Or.inr ⟨rfl, by decide +kernel, by decide +kernel, by decide +kernel⟩⟩
theorem zth65 : zthr "DoorstepRides" (zby 65) 15 250 11 2 := ⟨259, 254, "no such stop", rfl, by decide +kernel, zw394, zw18, zat11_254, by decide, by decide, by decide +kernel, by decide +kernel, Or.inr ⟨rfl, by decide +kernel, by decide +kernel, by decide +kernel⟩⟩
theorem zThL_ok : ∀ x ∈ zThL, zthr "DoorstepRides" (zby x.1) x.2.1 x.2.2.1 x.2.2.2.1 x.2.2.2.2 := (List.forall_mem_cons.mpr ⟨zth34, (List.forall_mem_cons.mpr ⟨zth35, (List.forall_mem_cons.mpr ⟨zth41, (List.forall_mem_cons.mpr ⟨zth43, (List.forall_mem_cons.mpr ⟨zth50, (List.forall_mem_cons.mpr ⟨zth65, (fun _ h => nomatch h)⟩)⟩)⟩)⟩)⟩)⟩)
theorem zHs_ok : ∀ x ∈ zHs, ∀ y ∈ x.2, zhok x.1.1 x.1.2 y.1 y.2.1 y.2.2 := (List.forall_mem_cons.mpr ⟨(List.forall_mem_cons.mpr ⟨zho122_8_9, (List.forall_mem_cons.mpr ⟨zho122_8_10, (fun _ h => nomatch h)⟩)⟩), (fun _ h => nomatch h)⟩)
