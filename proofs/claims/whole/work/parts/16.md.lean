/-! THE METHODS: their words, their code -/
def zMd (k : Nat) : Prop := plainName (zy k).cls = true ∧ (zhh k = [] → Cond.code (zy k) (zby k) (zinf k).2.1 (zrt k) ∈ zT) ∧ (zhh k ≠ [] → Cond.codeWith (zy k) (zby k) (zinf k).2.1 (zrt k) (zhh k) ∈ zT) ∧
  (((zinf k).2.2.2.2 = 0 ∧ zrt k = some .int) ∨ ((zinf k).2.2.2.2 = 1 ∧ zrt k = some .boolean) ∨ ((zinf k).2.2.2.2 = 2 ∧ ∃ t, zrt k = some t ∧ ((∃ n, t = .object n) ∨ ∃ u, t = .array u)) ∨ ((zinf k).2.2.2.2 = 3 ∧ zrt k = some .long) ∨ ((zinf k).2.2.2.2 = 4 ∧ zrt k = none)) ∧ ((zinf k).2.2.1 = 2 → (zy k).name = "<init>") ∧ (zOwn[zon k]?).getD "" = (zy k).cls
def zneedB (m : Nat) (x : Nat × zRI) : Bool := !zneed x.2.1 || (match x.2.1 with | .new _ => decide (9 ≤ x.2.2.2.2.1) | _ => false) || zLks.contains (zon m, (match x.2.1 with | .putfield _ => (zinf m).2.2.1 | _ => 0), x.2.1, x.2.2.2.1, x.2.2.2.2.1, x.2.2.2.2.2)
theorem zat9_242 : ∀ x ∈ vx_atS "DoorstepRides" 242 zC9 ["java/lang/RuntimeException", "java/lang/Exception"], x ∈ zT ∨ x ∈ zB := by decide +kernel
theorem zat10_249 : ∀ x ∈ vx_atS "DoorstepRides" 249 zC10 ["java/lang/RuntimeException", "java/lang/Exception"], x ∈ zT ∨ x ∈ zB := by decide +kernel
theorem zat11_254 : ∀ x ∈ vx_atS "DoorstepRides" 254 zC11 ["java/lang/RuntimeException", "java/lang/Exception"], x ∈ zT ∨ x ∈ zB := by decide +kernel
theorem zMd0 : zMd 0 := ⟨by decide +kernel, fun _ => zw49, fun h => absurd rfl h, Or.inr (Or.inr (Or.inr (Or.inr ⟨rfl, rfl⟩))), fun _ => rfl, rfl⟩
theorem zMd1 : zMd 1 := ⟨by decide +kernel, fun _ => zw46, fun h => absurd rfl h, Or.inr (Or.inr (Or.inr (Or.inr ⟨rfl, rfl⟩))), fun _ => rfl, rfl⟩
theorem zMd2 : zMd 2 := ⟨by decide +kernel, fun _ => zw43, fun h => absurd rfl h, Or.inr (Or.inr (Or.inr (Or.inr ⟨rfl, rfl⟩))), fun _ => rfl, rfl⟩
theorem zMd3 : zMd 3 := ⟨by decide +kernel, fun _ => zw136, fun h => absurd rfl h, Or.inl ⟨rfl, rfl⟩, fun h => absurd h (by decide +kernel), rfl⟩
theorem zMd4 : zMd 4 := ⟨by decide +kernel, fun _ => zw140, fun h => absurd rfl h, Or.inr (Or.inr (Or.inl ⟨rfl, _, rfl, Or.inl ⟨_, rfl⟩⟩)), fun h => absurd h (by decide +kernel), rfl⟩
theorem zMd5 : zMd 5 := ⟨by decide +kernel, fun _ => zw150, fun h => absurd rfl h, Or.inr (Or.inr (Or.inl ⟨rfl, _, rfl, Or.inl ⟨_, rfl⟩⟩)), fun h => absurd h (by decide +kernel), rfl⟩
theorem zMd6 : zMd 6 := ⟨by decide +kernel, fun _ => zw321, fun h => absurd rfl h, Or.inr (Or.inl ⟨rfl, rfl⟩), fun h => absurd h (by decide +kernel), rfl⟩
theorem zMd7 : zMd 7 := ⟨by decide +kernel, fun _ => zw325, fun h => absurd rfl h, Or.inr (Or.inr (Or.inr (Or.inr ⟨rfl, rfl⟩))), fun h => absurd h (by decide +kernel), rfl⟩
theorem zMd8 : zMd 8 := ⟨by decide +kernel, fun _ => zw329, fun h => absurd rfl h, Or.inr (Or.inr (Or.inl ⟨rfl, _, rfl, Or.inr ⟨_, rfl⟩⟩)), fun h => absurd h (by decide +kernel), rfl⟩
theorem zMd9 : zMd 9 := ⟨by decide +kernel, fun _ => zw333, fun h => absurd rfl h, Or.inr (Or.inr (Or.inl ⟨rfl, _, rfl, Or.inr ⟨_, rfl⟩⟩)), fun h => absurd h (by decide +kernel), rfl⟩
theorem zMd10 : zMd 10 := ⟨by decide +kernel, fun _ => zw689, fun h => absurd rfl h, Or.inr (Or.inr (Or.inr (Or.inr ⟨rfl, rfl⟩))), fun h => absurd h (by decide +kernel), rfl⟩
theorem zMd11 : zMd 11 := ⟨by decide +kernel, fun _ => zw693, fun h => absurd rfl h, Or.inr (Or.inr (Or.inr (Or.inr ⟨rfl, rfl⟩))), fun h => absurd h (by decide +kernel), rfl⟩
theorem zMd12 : zMd 12 := ⟨by decide +kernel, fun _ => zw949, fun h => absurd rfl h, Or.inr (Or.inr (Or.inr (Or.inr ⟨rfl, rfl⟩))), fun h => absurd h (by decide +kernel), rfl⟩
theorem zMd13 : zMd 13 := ⟨by decide +kernel, fun _ => zw982, fun h => absurd rfl h, Or.inr (Or.inr (Or.inl ⟨rfl, _, rfl, Or.inl ⟨_, rfl⟩⟩)), fun h => absurd h (by decide +kernel), rfl⟩
theorem zMd14 : zMd 14 := ⟨by decide +kernel, fun _ => zw986, fun h => absurd rfl h, Or.inr (Or.inr (Or.inr (Or.inr ⟨rfl, rfl⟩))), fun h => absurd h (by decide +kernel), rfl⟩
theorem zMd15 : zMd 15 := ⟨by decide +kernel, fun _ => zw990, fun h => absurd rfl h, Or.inr (Or.inl ⟨rfl, rfl⟩), fun h => absurd h (by decide +kernel), rfl⟩
theorem zMd16 : zMd 16 := ⟨by decide +kernel, fun _ => zw1231, fun h => absurd rfl h, Or.inr (Or.inr (Or.inl ⟨rfl, _, rfl, Or.inl ⟨_, rfl⟩⟩)), fun h => absurd h (by decide +kernel), rfl⟩
theorem zMd17 : zMd 17 := ⟨by decide +kernel, fun _ => zw346, fun h => absurd rfl h, Or.inr (Or.inr (Or.inl ⟨rfl, _, rfl, Or.inr ⟨_, rfl⟩⟩)), fun h => absurd h (by decide +kernel), rfl⟩
theorem zMd18 : zMd 18 := ⟨by decide +kernel, fun _ => zw367, fun h => absurd rfl h, Or.inr (Or.inr (Or.inl ⟨rfl, _, rfl, Or.inr ⟨_, rfl⟩⟩)), fun h => absurd h (by decide +kernel), rfl⟩
theorem zMd19 : zMd 19 := ⟨by decide +kernel, fun _ => zw143, fun h => absurd rfl h, Or.inl ⟨rfl, rfl⟩, fun h => absurd h (by decide +kernel), rfl⟩
theorem zMd20 : zMd 20 := ⟨by decide +kernel, fun _ => zw336, fun h => absurd rfl h, Or.inl ⟨rfl, rfl⟩, fun h => absurd h (by decide +kernel), rfl⟩
theorem zMd21 : zMd 21 := ⟨by decide +kernel, fun _ => zw146, fun h => absurd rfl h, Or.inl ⟨rfl, rfl⟩, fun h => absurd h (by decide +kernel), rfl⟩
theorem zMd22 : zMd 22 := ⟨by decide +kernel, fun _ => zw35, fun h => absurd rfl h, Or.inr (Or.inr (Or.inr (Or.inr ⟨rfl, rfl⟩))), fun _ => rfl, rfl⟩
theorem zMd23 : zMd 23 := ⟨by decide +kernel, fun _ => zw116, fun h => absurd rfl h, Or.inr (Or.inl ⟨rfl, rfl⟩), fun h => absurd h (by decide +kernel), rfl⟩
theorem zMd24 : zMd 24 := ⟨by decide +kernel, fun _ => zw120, fun h => absurd rfl h, Or.inl ⟨rfl, rfl⟩, fun h => absurd h (by decide +kernel), rfl⟩
theorem zMd25 : zMd 25 := ⟨by decide +kernel, fun _ => zw124, fun h => absurd rfl h, Or.inl ⟨rfl, rfl⟩, fun h => absurd h (by decide +kernel), rfl⟩
theorem zMd26 : zMd 26 := ⟨by decide +kernel, fun _ => zw128, fun h => absurd rfl h, Or.inl ⟨rfl, rfl⟩, fun h => absurd h (by decide +kernel), rfl⟩
theorem zMd27 : zMd 27 := ⟨by decide +kernel, fun _ => zw132, fun h => absurd rfl h, Or.inr (Or.inl ⟨rfl, rfl⟩), fun h => absurd h (by decide +kernel), rfl⟩
theorem zMd28 : zMd 28 := ⟨by decide +kernel, fun _ => zw155, fun h => absurd rfl h, Or.inr (Or.inl ⟨rfl, rfl⟩), fun h => absurd h (by decide +kernel), rfl⟩
theorem zMd29 : zMd 29 := ⟨by decide +kernel, fun _ => zw159, fun h => absurd rfl h, Or.inr (Or.inl ⟨rfl, rfl⟩), fun h => absurd h (by decide +kernel), rfl⟩
theorem zMd30 : zMd 30 := ⟨by decide +kernel, fun _ => zw171, fun h => absurd rfl h, Or.inr (Or.inr (Or.inr (Or.inl ⟨rfl, rfl⟩))), fun h => absurd h (by decide +kernel), rfl⟩
theorem zMd31 : zMd 31 := ⟨by decide +kernel, fun _ => zw180, fun h => absurd rfl h, Or.inl ⟨rfl, rfl⟩, fun h => absurd h (by decide +kernel), rfl⟩
theorem zMd32 : zMd 32 := ⟨by decide +kernel, fun _ => zw192, fun h => absurd rfl h, Or.inl ⟨rfl, rfl⟩, fun h => absurd h (by decide +kernel), rfl⟩
theorem zMd33 : zMd 33 := ⟨by decide +kernel, fun _ => zw195, fun h => absurd rfl h, Or.inr (Or.inr (Or.inr (Or.inr ⟨rfl, rfl⟩))), fun h => absurd h (by decide +kernel), rfl⟩
theorem zMd34 : zMd 34 := ⟨by decide +kernel, fun _ => zw198, fun h => absurd rfl h, Or.inr (Or.inr (Or.inr (Or.inr ⟨rfl, rfl⟩))), fun h => absurd h (by decide +kernel), rfl⟩
theorem zMd35 : zMd 35 := ⟨by decide +kernel, fun _ => zw269, fun h => absurd rfl h, Or.inr (Or.inr (Or.inr (Or.inr ⟨rfl, rfl⟩))), fun h => absurd h (by decide +kernel), rfl⟩
theorem zMd36 : zMd 36 := ⟨by decide +kernel, fun _ => zw385, fun h => absurd rfl h, Or.inl ⟨rfl, rfl⟩, fun h => absurd h (by decide +kernel), rfl⟩
theorem zMd37 : zMd 37 := ⟨by decide +kernel, fun _ => zw388, fun h => absurd rfl h, Or.inr (Or.inr (Or.inr (Or.inr ⟨rfl, rfl⟩))), fun h => absurd h (by decide +kernel), rfl⟩
theorem zMd38 : zMd 38 := ⟨by decide +kernel, fun _ => zw392, fun h => absurd rfl h, Or.inl ⟨rfl, rfl⟩, fun h => absurd h (by decide +kernel), rfl⟩
theorem zMd39 : zMd 39 := ⟨by decide +kernel, fun _ => zw399, fun h => absurd rfl h, Or.inl ⟨rfl, rfl⟩, fun h => absurd h (by decide +kernel), rfl⟩
theorem zMd40 : zMd 40 := ⟨by decide +kernel, fun _ => zw482, fun h => absurd rfl h, Or.inr (Or.inl ⟨rfl, rfl⟩), fun h => absurd h (by decide +kernel), rfl⟩
theorem zMd41 : zMd 41 := ⟨by decide +kernel, fun _ => zw486, fun h => absurd rfl h, Or.inr (Or.inr (Or.inl ⟨rfl, _, rfl, Or.inl ⟨_, rfl⟩⟩)), fun h => absurd h (by decide +kernel), rfl⟩
theorem zMd42 : zMd 42 := ⟨by decide +kernel, fun _ => zw509, fun h => absurd rfl h, Or.inl ⟨rfl, rfl⟩, fun h => absurd h (by decide +kernel), rfl⟩
theorem zMd43 : zMd 43 := ⟨by decide +kernel, fun _ => zw513, fun h => absurd rfl h, Or.inr (Or.inr (Or.inl ⟨rfl, _, rfl, Or.inl ⟨_, rfl⟩⟩)), fun h => absurd h (by decide +kernel), rfl⟩
theorem zMd44 : zMd 44 := ⟨by decide +kernel, fun _ => zw592, fun h => absurd rfl h, Or.inr (Or.inl ⟨rfl, rfl⟩), fun h => absurd h (by decide +kernel), rfl⟩
theorem zMd45 : zMd 45 := ⟨by decide +kernel, fun _ => zw596, fun h => absurd rfl h, Or.inl ⟨rfl, rfl⟩, fun h => absurd h (by decide +kernel), rfl⟩
theorem zMd46 : zMd 46 := ⟨by decide +kernel, fun _ => zw606, fun h => absurd rfl h, Or.inr (Or.inl ⟨rfl, rfl⟩), fun h => absurd h (by decide +kernel), rfl⟩
theorem zMd47 : zMd 47 := ⟨by decide +kernel, fun _ => zw610, fun h => absurd rfl h, Or.inl ⟨rfl, rfl⟩, fun h => absurd h (by decide +kernel), rfl⟩
theorem zMd48 : zMd 48 := ⟨by decide +kernel, fun _ => zw618, fun h => absurd rfl h, Or.inr (Or.inl ⟨rfl, rfl⟩), fun h => absurd h (by decide +kernel), rfl⟩
theorem zMd49 : zMd 49 := ⟨by decide +kernel, fun _ => zw1011, fun h => absurd rfl h, Or.inr (Or.inl ⟨rfl, rfl⟩), fun h => absurd h (by decide +kernel), rfl⟩
theorem zMd50 : zMd 50 := ⟨by decide +kernel, fun _ => zw1015, fun h => absurd rfl h, Or.inr (Or.inr (Or.inl ⟨rfl, _, rfl, Or.inl ⟨_, rfl⟩⟩)), fun h => absurd h (by decide +kernel), rfl⟩
theorem zMd51 : zMd 51 := ⟨by decide +kernel, fun _ => zw1020, fun h => absurd rfl h, Or.inr (Or.inr (Or.inl ⟨rfl, _, rfl, Or.inl ⟨_, rfl⟩⟩)), fun h => absurd h (by decide +kernel), rfl⟩
theorem zMd52 : zMd 52 := ⟨by decide +kernel, fun _ => zw1036, fun h => absurd rfl h, Or.inr (Or.inr (Or.inr (Or.inr ⟨rfl, rfl⟩))), fun h => absurd h (by decide +kernel), rfl⟩
theorem zMd53 : zMd 53 := ⟨by decide +kernel, fun _ => zw1043, fun h => absurd rfl h, Or.inl ⟨rfl, rfl⟩, fun h => absurd h (by decide +kernel), rfl⟩
theorem zMd54 : zMd 54 := ⟨by decide +kernel, fun _ => zw1047, fun h => absurd rfl h, Or.inr (Or.inr (Or.inr (Or.inr ⟨rfl, rfl⟩))), fun h => absurd h (by decide +kernel), rfl⟩
theorem zMd55 : zMd 55 := ⟨by decide +kernel, fun _ => zw1073, fun h => absurd rfl h, Or.inl ⟨rfl, rfl⟩, fun h => absurd h (by decide +kernel), rfl⟩
theorem zMd56 : zMd 56 := ⟨by decide +kernel, fun _ => zw1077, fun h => absurd rfl h, Or.inl ⟨rfl, rfl⟩, fun h => absurd h (by decide +kernel), rfl⟩
theorem zMd57 : zMd 57 := ⟨by decide +kernel, fun _ => zw1089, fun h => absurd rfl h, Or.inl ⟨rfl, rfl⟩, fun h => absurd h (by decide +kernel), rfl⟩
theorem zMd58 : zMd 58 := ⟨by decide +kernel, fun _ => zw1105, fun h => absurd rfl h, Or.inl ⟨rfl, rfl⟩, fun h => absurd h (by decide +kernel), rfl⟩
theorem zMd59 : zMd 59 := ⟨by decide +kernel, fun _ => zw1122, fun h => absurd rfl h, Or.inr (Or.inl ⟨rfl, rfl⟩), fun h => absurd h (by decide +kernel), rfl⟩
theorem zMd60 : zMd 60 := ⟨by decide +kernel, fun _ => zw1135, fun h => absurd rfl h, Or.inr (Or.inl ⟨rfl, rfl⟩), fun h => absurd h (by decide +kernel), rfl⟩
theorem zMd61 : zMd 61 := ⟨by decide +kernel, fun _ => zw1142, fun h => absurd rfl h, Or.inl ⟨rfl, rfl⟩, fun h => absurd h (by decide +kernel), rfl⟩
theorem zMd62 : zMd 62 := ⟨by decide +kernel, fun _ => zw1149, fun h => absurd rfl h, Or.inl ⟨rfl, rfl⟩, fun h => absurd h (by decide +kernel), rfl⟩
theorem zMd63 : zMd 63 := ⟨by decide +kernel, fun _ => zw1161, fun h => absurd rfl h, Or.inl ⟨rfl, rfl⟩, fun h => absurd h (by decide +kernel), rfl⟩
theorem zMd64 : zMd 64 := ⟨by decide +kernel, fun _ => zw1178, fun h => absurd rfl h, Or.inl ⟨rfl, rfl⟩, fun h => absurd h (by decide +kernel), rfl⟩
theorem zMd65 : zMd 65 := ⟨by decide +kernel, fun _ => zw1181, fun h => absurd rfl h, Or.inr (Or.inr (Or.inl ⟨rfl, _, rfl, Or.inl ⟨_, rfl⟩⟩)), fun h => absurd h (by decide +kernel), rfl⟩
theorem zMd66 : zMd 66 := ⟨by decide +kernel, fun _ => zw1186, fun h => absurd rfl h, Or.inl ⟨rfl, rfl⟩, fun h => absurd h (by decide +kernel), rfl⟩
theorem zMd67 : zMd 67 := ⟨by decide +kernel, fun _ => zw1194, fun h => absurd rfl h, Or.inl ⟨rfl, rfl⟩, fun h => absurd h (by decide +kernel), rfl⟩
theorem zMd68 : zMd 68 := ⟨by decide +kernel, fun _ => zw1205, fun h => absurd rfl h, Or.inl ⟨rfl, rfl⟩, fun h => absurd h (by decide +kernel), rfl⟩
theorem zMd69 : zMd 69 := ⟨by decide +kernel, fun _ => zw1213, fun h => absurd rfl h, Or.inl ⟨rfl, rfl⟩, fun h => absurd h (by decide +kernel), rfl⟩
theorem zMd70 : zMd 70 := ⟨by decide +kernel, fun _ => zw1217, fun h => absurd rfl h, Or.inl ⟨rfl, rfl⟩, fun h => absurd h (by decide +kernel), rfl⟩
theorem zMd71 : zMd 71 := ⟨by decide +kernel, fun _ => zw1238, fun h => absurd rfl h, Or.inl ⟨rfl, rfl⟩, fun h => absurd h (by decide +kernel), rfl⟩
theorem zMd72 : zMd 72 := ⟨by decide +kernel, fun _ => zw1241, fun h => absurd rfl h, Or.inr (Or.inl ⟨rfl, rfl⟩), fun h => absurd h (by decide +kernel), rfl⟩
theorem zMd73 : zMd 73 := ⟨by decide +kernel, fun _ => zw412, fun h => absurd rfl h, Or.inr (Or.inr (Or.inr (Or.inr ⟨rfl, rfl⟩))), fun _ => rfl, rfl⟩
theorem zMd74 : zMd 74 := ⟨by decide +kernel, fun _ => zw939, fun h => absurd rfl h, Or.inr (Or.inr (Or.inr (Or.inr ⟨rfl, rfl⟩))), fun h => absurd h (by decide +kernel), rfl⟩
theorem zMd75 : zMd 75 := ⟨by decide +kernel, fun _ => zw957, fun h => absurd rfl h, Or.inr (Or.inr (Or.inr (Or.inr ⟨rfl, rfl⟩))), fun h => absurd h (by decide +kernel), rfl⟩
theorem zMd76 : zMd 76 := ⟨by decide +kernel, fun _ => zw970, fun h => absurd rfl h, Or.inr (Or.inl ⟨rfl, rfl⟩), fun h => absurd h (by decide +kernel), rfl⟩
theorem zMd77 : zMd 77 := ⟨by decide +kernel, fun _ => zw978, fun h => absurd rfl h, Or.inr (Or.inl ⟨rfl, rfl⟩), fun h => absurd h (by decide +kernel), rfl⟩
theorem zMd78 : zMd 78 := ⟨by decide +kernel, fun _ => zw994, fun h => absurd rfl h, Or.inl ⟨rfl, rfl⟩, fun h => absurd h (by decide +kernel), rfl⟩
theorem zMd79 : zMd 79 := ⟨by decide +kernel, fun _ => zw163, fun h => absurd rfl h, Or.inr (Or.inl ⟨rfl, rfl⟩), fun h => absurd h (by decide +kernel), rfl⟩
theorem zMd80 : zMd 80 := ⟨by decide +kernel, fun _ => zw167, fun h => absurd rfl h, Or.inr (Or.inl ⟨rfl, rfl⟩), fun h => absurd h (by decide +kernel), rfl⟩
theorem zMd81 : zMd 81 := ⟨by decide +kernel, fun _ => zw175, fun h => absurd rfl h, Or.inl ⟨rfl, rfl⟩, fun h => absurd h (by decide +kernel), rfl⟩
theorem zMd82 : zMd 82 := ⟨by decide +kernel, fun _ => zw518, fun h => absurd rfl h, Or.inr (Or.inr (Or.inr (Or.inr ⟨rfl, rfl⟩))), fun _ => rfl, rfl⟩
theorem zMd83 : zMd 83 := ⟨by decide +kernel, fun _ => zw602, fun h => absurd rfl h, Or.inr (Or.inr (Or.inr (Or.inr ⟨rfl, rfl⟩))), fun h => absurd h (by decide +kernel), rfl⟩
theorem zMd84 : zMd 84 := ⟨by decide +kernel, fun _ => zw614, fun h => absurd rfl h, Or.inr (Or.inl ⟨rfl, rfl⟩), fun h => absurd h (by decide +kernel), rfl⟩
theorem zMd85 : zMd 85 := ⟨by decide +kernel, fun _ => zw966, fun h => absurd rfl h, Or.inl ⟨rfl, rfl⟩, fun h => absurd h (by decide +kernel), rfl⟩
theorem zMd86 : zMd 86 := ⟨by decide +kernel, fun _ => zw1153, fun h => absurd rfl h, Or.inl ⟨rfl, rfl⟩, fun h => absurd h (by decide +kernel), rfl⟩
theorem zMd87 : zMd 87 := ⟨by decide +kernel, fun _ => zw290, fun h => absurd rfl h, Or.inr (Or.inr (Or.inr (Or.inr ⟨rfl, rfl⟩))), fun _ => rfl, rfl⟩
theorem zMd88 : zMd 88 := ⟨by decide +kernel, fun _ => zw69, fun h => absurd rfl h, Or.inr (Or.inr (Or.inr (Or.inr ⟨rfl, rfl⟩))), fun _ => rfl, rfl⟩
theorem zMd89 : zMd 89 := ⟨by decide +kernel, fun _ => zw662, fun h => absurd rfl h, Or.inr (Or.inl ⟨rfl, rfl⟩), fun h => absurd h (by decide +kernel), rfl⟩
theorem zMd90 : zMd 90 := ⟨by decide +kernel, fun _ => zw669, fun h => absurd rfl h, Or.inr (Or.inr (Or.inr (Or.inr ⟨rfl, rfl⟩))), fun h => absurd h (by decide +kernel), rfl⟩
theorem zMd91 : zMd 91 := ⟨by decide +kernel, fun _ => zw998, fun h => absurd rfl h, Or.inr (Or.inr (Or.inr (Or.inr ⟨rfl, rfl⟩))), fun h => absurd h (by decide +kernel), rfl⟩
theorem zMd92 : zMd 92 := ⟨by decide +kernel, fun _ => zw623, fun h => absurd rfl h, Or.inr (Or.inr (Or.inr (Or.inr ⟨rfl, rfl⟩))), fun _ => rfl, rfl⟩
theorem zMd93 : zMd 93 := ⟨by decide +kernel, fun _ => zw962, fun h => absurd rfl h, Or.inr (Or.inl ⟨rfl, rfl⟩), fun h => absurd h (by decide +kernel), rfl⟩
theorem zMd94 : zMd 94 := ⟨by decide +kernel, fun _ => zw974, fun h => absurd rfl h, Or.inr (Or.inl ⟨rfl, rfl⟩), fun h => absurd h (by decide +kernel), rfl⟩
theorem zMd95 : zMd 95 := ⟨by decide +kernel, fun _ => zw1097, fun h => absurd rfl h, Or.inr (Or.inr (Or.inr (Or.inr ⟨rfl, rfl⟩))), fun h => absurd h (by decide +kernel), rfl⟩
theorem zMd96 : zMd 96 := ⟨by decide +kernel, fun _ => zw404, fun h => absurd rfl h, Or.inr (Or.inr (Or.inr (Or.inr ⟨rfl, rfl⟩))), fun _ => rfl, rfl⟩
theorem zMd97 : zMd 97 := ⟨by decide +kernel, fun _ => zw673, fun h => absurd rfl h, Or.inr (Or.inl ⟨rfl, rfl⟩), fun h => absurd h (by decide +kernel), rfl⟩
theorem zMd98 : zMd 98 := ⟨by decide +kernel, fun _ => zw678, fun h => absurd rfl h, Or.inl ⟨rfl, rfl⟩, fun h => absurd h (by decide +kernel), rfl⟩
theorem zMd99 : zMd 99 := ⟨by decide +kernel, fun _ => zw685, fun h => absurd rfl h, Or.inl ⟨rfl, rfl⟩, fun h => absurd h (by decide +kernel), rfl⟩
theorem zMd100 : zMd 100 := ⟨by decide +kernel, fun _ => zw935, fun h => absurd rfl h, Or.inr (Or.inl ⟨rfl, rfl⟩), fun h => absurd h (by decide +kernel), rfl⟩
theorem zMd101 : zMd 101 := ⟨by decide +kernel, fun _ => zw944, fun h => absurd rfl h, Or.inl ⟨rfl, rfl⟩, fun h => absurd h (by decide +kernel), rfl⟩
theorem zMd102 : zMd 102 := ⟨by decide +kernel, fun _ => zw1003, fun h => absurd rfl h, Or.inr (Or.inr (Or.inr (Or.inr ⟨rfl, rfl⟩))), fun h => absurd h (by decide +kernel), rfl⟩
theorem zMd103 : zMd 103 := ⟨by decide +kernel, fun _ => zw1024, fun h => absurd rfl h, Or.inr (Or.inl ⟨rfl, rfl⟩), fun h => absurd h (by decide +kernel), rfl⟩
theorem zMd104 : zMd 104 := ⟨by decide +kernel, fun _ => zw1028, fun h => absurd rfl h, Or.inr (Or.inr (Or.inr (Or.inr ⟨rfl, rfl⟩))), fun h => absurd h (by decide +kernel), rfl⟩
theorem zMd105 : zMd 105 := ⟨by decide +kernel, fun _ => zw1051, fun h => absurd rfl h, Or.inr (Or.inr (Or.inr (Or.inr ⟨rfl, rfl⟩))), fun h => absurd h (by decide +kernel), rfl⟩
theorem zMd106 : zMd 106 := ⟨by decide +kernel, fun _ => zw1057, fun h => absurd rfl h, Or.inr (Or.inr (Or.inr (Or.inr ⟨rfl, rfl⟩))), fun h => absurd h (by decide +kernel), rfl⟩
theorem zMd107 : zMd 107 := ⟨by decide +kernel, fun _ => zw1061, fun h => absurd rfl h, Or.inr (Or.inr (Or.inr (Or.inr ⟨rfl, rfl⟩))), fun h => absurd h (by decide +kernel), rfl⟩
theorem zMd108 : zMd 108 := ⟨by decide +kernel, fun _ => zw1066, fun h => absurd rfl h, Or.inr (Or.inr (Or.inr (Or.inr ⟨rfl, rfl⟩))), fun h => absurd h (by decide +kernel), rfl⟩
theorem zMd109 : zMd 109 := ⟨by decide +kernel, fun _ => zw1081, fun h => absurd rfl h, Or.inr (Or.inr (Or.inr (Or.inr ⟨rfl, rfl⟩))), fun h => absurd h (by decide +kernel), rfl⟩
theorem zMd110 : zMd 110 := ⟨by decide +kernel, fun _ => zw1093, fun h => absurd rfl h, Or.inl ⟨rfl, rfl⟩, fun h => absurd h (by decide +kernel), rfl⟩
theorem zMd111 : zMd 111 := ⟨by decide +kernel, fun _ => zw1109, fun h => absurd rfl h, Or.inr (Or.inr (Or.inr (Or.inr ⟨rfl, rfl⟩))), fun h => absurd h (by decide +kernel), rfl⟩
theorem zMd112 : zMd 112 := ⟨by decide +kernel, fun _ => zw1114, fun h => absurd rfl h, Or.inr (Or.inl ⟨rfl, rfl⟩), fun h => absurd h (by decide +kernel), rfl⟩
theorem zMd113 : zMd 113 := ⟨by decide +kernel, fun _ => zw1118, fun h => absurd rfl h, Or.inl ⟨rfl, rfl⟩, fun h => absurd h (by decide +kernel), rfl⟩
theorem zMd114 : zMd 114 := ⟨by decide +kernel, fun _ => zw1126, fun h => absurd rfl h, Or.inl ⟨rfl, rfl⟩, fun h => absurd h (by decide +kernel), rfl⟩
theorem zMd115 : zMd 115 := ⟨by decide +kernel, fun _ => zw1165, fun h => absurd rfl h, Or.inl ⟨rfl, rfl⟩, fun h => absurd h (by decide +kernel), rfl⟩
theorem zMd116 : zMd 116 := ⟨by decide +kernel, fun _ => zw1170, fun h => absurd rfl h, Or.inl ⟨rfl, rfl⟩, fun h => absurd h (by decide +kernel), rfl⟩
theorem zMd117 : zMd 117 := ⟨by decide +kernel, fun _ => zw1198, fun h => absurd rfl h, Or.inl ⟨rfl, rfl⟩, fun h => absurd h (by decide +kernel), rfl⟩
theorem zMd118 : zMd 118 := ⟨by decide +kernel, fun _ => zw1222, fun h => absurd rfl h, Or.inr (Or.inl ⟨rfl, rfl⟩), fun h => absurd h (by decide +kernel), rfl⟩
theorem zMd119 : zMd 119 := ⟨by decide +kernel, fun _ => zw1227, fun h => absurd rfl h, Or.inr (Or.inr (Or.inr (Or.inr ⟨rfl, rfl⟩))), fun h => absurd h (by decide +kernel), rfl⟩
theorem zMd120 : zMd 120 := ⟨by decide +kernel, fun _ => zw1246, fun h => absurd rfl h, Or.inr (Or.inr (Or.inr (Or.inr ⟨rfl, rfl⟩))), fun _ => rfl, rfl⟩
theorem zMd121 : zMd 121 := ⟨by decide +kernel, fun _ => zw1409, fun h => absurd rfl h, Or.inl ⟨rfl, rfl⟩, fun h => absurd h (by decide +kernel), rfl⟩
theorem zMd122 : zMd 122 := ⟨by decide +kernel, fun _ => zw1413, fun h => absurd rfl h, Or.inl ⟨rfl, rfl⟩, fun h => absurd h (by decide +kernel), rfl⟩
theorem zMd123 : zMd 123 := ⟨by decide +kernel, fun _ => zw1417, fun h => absurd rfl h, Or.inr (Or.inl ⟨rfl, rfl⟩), fun h => absurd h (by decide +kernel), rfl⟩
theorem zMd124 : zMd 124 := ⟨by decide +kernel, fun _ => zw1421, fun h => absurd rfl h, Or.inr (Or.inl ⟨rfl, rfl⟩), fun h => absurd h (by decide +kernel), rfl⟩
theorem zMd125 : zMd 125 := ⟨by decide +kernel, fun _ => zw1425, fun h => absurd rfl h, Or.inl ⟨rfl, rfl⟩, fun h => absurd h (by decide +kernel), rfl⟩
theorem zMd126 : zMd 126 := ⟨by decide +kernel, fun _ => zw1429, fun h => absurd rfl h, Or.inr (Or.inl ⟨rfl, rfl⟩), fun h => absurd h (by decide +kernel), rfl⟩
theorem zMd127 : zMd 127 := ⟨by decide +kernel, fun _ => zw1433, fun h => absurd rfl h, Or.inl ⟨rfl, rfl⟩, fun h => absurd h (by decide +kernel), rfl⟩
theorem zMd128 : zMd 128 := ⟨by decide +kernel, fun _ => zw1437, fun h => absurd rfl h, Or.inr (Or.inl ⟨rfl, rfl⟩), fun h => absurd h (by decide +kernel), rfl⟩
theorem zMd129 : zMd 129 := ⟨by decide +kernel, fun _ => zw1441, fun h => absurd rfl h, Or.inr (Or.inl ⟨rfl, rfl⟩), fun h => absurd h (by decide +kernel), rfl⟩
theorem zMd130 : zMd 130 := ⟨by decide +kernel, fun _ => zw1445, fun h => absurd rfl h, Or.inl ⟨rfl, rfl⟩, fun h => absurd h (by decide +kernel), rfl⟩
theorem zMd131 : zMd 131 := ⟨by decide +kernel, fun _ => zw1449, fun h => absurd rfl h, Or.inr (Or.inl ⟨rfl, rfl⟩), fun h => absurd h (by decide +kernel), rfl⟩
theorem zMd132 : zMd 132 := ⟨by decide +kernel, fun _ => zw1453, fun h => absurd rfl h, Or.inr (Or.inl ⟨rfl, rfl⟩), fun h => absurd h (by decide +kernel), rfl⟩
theorem zMd133 : zMd 133 := ⟨by decide +kernel, fun _ => zw1457, fun h => absurd rfl h, Or.inl ⟨rfl, rfl⟩, fun h => absurd h (by decide +kernel), rfl⟩
theorem zMd134 : zMd 134 := ⟨by decide +kernel, fun _ => zw1461, fun h => absurd rfl h, Or.inl ⟨rfl, rfl⟩, fun h => absurd h (by decide +kernel), rfl⟩
theorem zMd135 : zMd 135 := ⟨by decide +kernel, fun _ => zw1465, fun h => absurd rfl h, Or.inl ⟨rfl, rfl⟩, fun h => absurd h (by decide +kernel), rfl⟩
theorem zMd136 : zMd 136 := ⟨by decide +kernel, fun _ => zw1469, fun h => absurd rfl h, Or.inr (Or.inl ⟨rfl, rfl⟩), fun h => absurd h (by decide +kernel), rfl⟩
theorem zMd137 : zMd 137 := ⟨by decide +kernel, fun _ => zw1473, fun h => absurd rfl h, Or.inl ⟨rfl, rfl⟩, fun h => absurd h (by decide +kernel), rfl⟩
theorem zMd138 : zMd 138 := ⟨by decide +kernel, fun _ => zw1477, fun h => absurd rfl h, Or.inr (Or.inl ⟨rfl, rfl⟩), fun h => absurd h (by decide +kernel), rfl⟩
theorem zMd139 : zMd 139 := ⟨by decide +kernel, fun _ => zw1481, fun h => absurd rfl h, Or.inr (Or.inl ⟨rfl, rfl⟩), fun h => absurd h (by decide +kernel), rfl⟩
theorem zMd140 : zMd 140 := ⟨by decide +kernel, fun _ => zw1485, fun h => absurd rfl h, Or.inr (Or.inl ⟨rfl, rfl⟩), fun h => absurd h (by decide +kernel), rfl⟩
theorem zMd141 : zMd 141 := ⟨by decide +kernel, fun _ => zw1489, fun h => absurd rfl h, Or.inr (Or.inr (Or.inr (Or.inr ⟨rfl, rfl⟩))), fun h => absurd h (by decide +kernel), rfl⟩
theorem zMd142 : zMd 142 := ⟨by decide +kernel, fun _ => zw1493, fun h => absurd rfl h, Or.inl ⟨rfl, rfl⟩, fun h => absurd h (by decide +kernel), rfl⟩
theorem zMd143 : zMd 143 := ⟨by decide +kernel, fun _ => zw1497, fun h => absurd rfl h, Or.inr (Or.inr (Or.inr (Or.inr ⟨rfl, rfl⟩))), fun h => absurd h (by decide +kernel), rfl⟩
theorem zMd144 : zMd 144 := ⟨by decide +kernel, fun _ => zw1501, fun h => absurd rfl h, Or.inl ⟨rfl, rfl⟩, fun h => absurd h (by decide +kernel), rfl⟩
theorem zMd145 : zMd 145 := ⟨by decide +kernel, fun _ => zw1505, fun h => absurd rfl h, Or.inl ⟨rfl, rfl⟩, fun h => absurd h (by decide +kernel), rfl⟩
theorem zMd146 : zMd 146 := ⟨by decide +kernel, fun _ => zw1509, fun h => absurd rfl h, Or.inl ⟨rfl, rfl⟩, fun h => absurd h (by decide +kernel), rfl⟩
theorem zMd147 : zMd 147 := ⟨by decide +kernel, fun _ => zw1513, fun h => absurd rfl h, Or.inr (Or.inr (Or.inr (Or.inr ⟨rfl, rfl⟩))), fun h => absurd h (by decide +kernel), rfl⟩
theorem zMd148 : zMd 148 := ⟨by decide +kernel, fun _ => zw1517, fun h => absurd rfl h, Or.inr (Or.inl ⟨rfl, rfl⟩), fun h => absurd h (by decide +kernel), rfl⟩
theorem zMd149 : zMd 149 := ⟨by decide +kernel, fun _ => zw1521, fun h => absurd rfl h, Or.inr (Or.inr (Or.inr (Or.inr ⟨rfl, rfl⟩))), fun h => absurd h (by decide +kernel), rfl⟩
theorem zMd150 : zMd 150 := ⟨by decide +kernel, fun _ => zw1525, fun h => absurd rfl h, Or.inl ⟨rfl, rfl⟩, fun h => absurd h (by decide +kernel), rfl⟩
theorem zMd151 : zMd 151 := ⟨by decide +kernel, fun _ => zw1529, fun h => absurd rfl h, Or.inr (Or.inl ⟨rfl, rfl⟩), fun h => absurd h (by decide +kernel), rfl⟩
theorem zMd152 : zMd 152 := ⟨by decide +kernel, fun _ => zw1533, fun h => absurd rfl h, Or.inl ⟨rfl, rfl⟩, fun h => absurd h (by decide +kernel), rfl⟩
theorem zMd153 : zMd 153 := ⟨by decide +kernel, fun _ => zw1537, fun h => absurd rfl h, Or.inl ⟨rfl, rfl⟩, fun h => absurd h (by decide +kernel), rfl⟩
theorem zMd154 : zMd 154 := ⟨by decide +kernel, fun _ => zw1541, fun h => absurd rfl h, Or.inl ⟨rfl, rfl⟩, fun h => absurd h (by decide +kernel), rfl⟩
theorem zMd155 : zMd 155 := ⟨by decide +kernel, fun _ => zw1545, fun h => absurd rfl h, Or.inl ⟨rfl, rfl⟩, fun h => absurd h (by decide +kernel), rfl⟩
theorem zMd156 : zMd 156 := ⟨by decide +kernel, fun _ => zw1549, fun h => absurd rfl h, Or.inl ⟨rfl, rfl⟩, fun h => absurd h (by decide +kernel), rfl⟩
theorem zMd157 : zMd 157 := ⟨by decide +kernel, fun _ => zw1553, fun h => absurd rfl h, Or.inr (Or.inr (Or.inr (Or.inr ⟨rfl, rfl⟩))), fun h => absurd h (by decide +kernel), rfl⟩
theorem zMd158 : zMd 158 := ⟨by decide +kernel, fun _ => zw1557, fun h => absurd rfl h, Or.inr (Or.inl ⟨rfl, rfl⟩), fun h => absurd h (by decide +kernel), rfl⟩
theorem zMd159 : zMd 159 := ⟨by decide +kernel, fun _ => zw1561, fun h => absurd rfl h, Or.inr (Or.inl ⟨rfl, rfl⟩), fun h => absurd h (by decide +kernel), rfl⟩
theorem zMd160 : zMd 160 := ⟨by decide +kernel, fun _ => zw1565, fun h => absurd rfl h, Or.inr (Or.inl ⟨rfl, rfl⟩), fun h => absurd h (by decide +kernel), rfl⟩
theorem zMd161 : zMd 161 := ⟨by decide +kernel, fun _ => zw1569, fun h => absurd rfl h, Or.inr (Or.inr (Or.inr (Or.inr ⟨rfl, rfl⟩))), fun h => absurd h (by decide +kernel), rfl⟩
theorem zMd162 : zMd 162 := ⟨by decide +kernel, fun _ => zw1573, fun h => absurd rfl h, Or.inr (Or.inr (Or.inr (Or.inr ⟨rfl, rfl⟩))), fun h => absurd h (by decide +kernel), rfl⟩
theorem zMd163 : zMd 163 := ⟨by decide +kernel, fun _ => zw1577, fun h => absurd rfl h, Or.inr (Or.inr (Or.inr (Or.inr ⟨rfl, rfl⟩))), fun h => absurd h (by decide +kernel), rfl⟩
theorem zMd164 : zMd 164 := ⟨by decide +kernel, fun _ => zw1581, fun h => absurd rfl h, Or.inl ⟨rfl, rfl⟩, fun h => absurd h (by decide +kernel), rfl⟩
theorem zMd165 : zMd 165 := ⟨by decide +kernel, fun _ => zw1585, fun h => absurd rfl h, Or.inr (Or.inr (Or.inr (Or.inr ⟨rfl, rfl⟩))), fun h => absurd h (by decide +kernel), rfl⟩
theorem zMd166 : zMd 166 := ⟨by decide +kernel, fun _ => zw1589, fun h => absurd rfl h, Or.inr (Or.inr (Or.inr (Or.inr ⟨rfl, rfl⟩))), fun h => absurd h (by decide +kernel), rfl⟩
theorem zMd167 : zMd 167 := ⟨by decide +kernel, fun _ => zw1593, fun h => absurd rfl h, Or.inr (Or.inr (Or.inr (Or.inr ⟨rfl, rfl⟩))), fun h => absurd h (by decide +kernel), rfl⟩
theorem zMd168 : zMd 168 := ⟨by decide +kernel, fun _ => zw1597, fun h => absurd rfl h, Or.inr (Or.inr (Or.inr (Or.inr ⟨rfl, rfl⟩))), fun h => absurd h (by decide +kernel), rfl⟩
theorem zMd169 : zMd 169 := ⟨by decide +kernel, fun _ => zw1601, fun h => absurd rfl h, Or.inr (Or.inr (Or.inr (Or.inr ⟨rfl, rfl⟩))), fun h => absurd h (by decide +kernel), rfl⟩
theorem zMd170 : zMd 170 := ⟨by decide +kernel, fun _ => zw1605, fun h => absurd rfl h, Or.inl ⟨rfl, rfl⟩, fun h => absurd h (by decide +kernel), rfl⟩
theorem zMd171 : zMd 171 := ⟨by decide +kernel, fun _ => zw1609, fun h => absurd rfl h, Or.inl ⟨rfl, rfl⟩, fun h => absurd h (by decide +kernel), rfl⟩
theorem zMd172 : zMd 172 := ⟨by decide +kernel, fun _ => zw1613, fun h => absurd rfl h, Or.inl ⟨rfl, rfl⟩, fun h => absurd h (by decide +kernel), rfl⟩
theorem zMd173 : zMd 173 := ⟨by decide +kernel, fun _ => zw1617, fun h => absurd rfl h, Or.inr (Or.inl ⟨rfl, rfl⟩), fun h => absurd h (by decide +kernel), rfl⟩
theorem zMd174 : zMd 174 := ⟨by decide +kernel, fun _ => zw1621, fun h => absurd rfl h, Or.inl ⟨rfl, rfl⟩, fun h => absurd h (by decide +kernel), rfl⟩
theorem zMd175 : zMd 175 := ⟨by decide +kernel, fun _ => zw1625, fun h => absurd rfl h, Or.inl ⟨rfl, rfl⟩, fun h => absurd h (by decide +kernel), rfl⟩
theorem zMd176 : zMd 176 := ⟨by decide +kernel, fun _ => zw1629, fun h => absurd rfl h, Or.inr (Or.inl ⟨rfl, rfl⟩), fun h => absurd h (by decide +kernel), rfl⟩
theorem zMd177 : zMd 177 := ⟨by decide +kernel, fun _ => zw1633, fun h => absurd rfl h, Or.inl ⟨rfl, rfl⟩, fun h => absurd h (by decide +kernel), rfl⟩
theorem zMd178 : zMd 178 := ⟨by decide +kernel, fun _ => zw1637, fun h => absurd rfl h, Or.inl ⟨rfl, rfl⟩, fun h => absurd h (by decide +kernel), rfl⟩
theorem zMd179 : zMd 179 := ⟨by decide +kernel, fun _ => zw1641, fun h => absurd rfl h, Or.inr (Or.inl ⟨rfl, rfl⟩), fun h => absurd h (by decide +kernel), rfl⟩
theorem zMd180 : zMd 180 := ⟨by decide +kernel, fun _ => zw1645, fun h => absurd rfl h, Or.inr (Or.inl ⟨rfl, rfl⟩), fun h => absurd h (by decide +kernel), rfl⟩
theorem zMd181 : zMd 181 := ⟨by decide +kernel, fun _ => zw1649, fun h => absurd rfl h, Or.inl ⟨rfl, rfl⟩, fun h => absurd h (by decide +kernel), rfl⟩
theorem zMd182 : zMd 182 := ⟨by decide +kernel, fun _ => zw1653, fun h => absurd rfl h, Or.inl ⟨rfl, rfl⟩, fun h => absurd h (by decide +kernel), rfl⟩
theorem zMd183 : zMd 183 := ⟨by decide +kernel, fun _ => zw1657, fun h => absurd rfl h, Or.inl ⟨rfl, rfl⟩, fun h => absurd h (by decide +kernel), rfl⟩
theorem zMd184 : zMd 184 := ⟨by decide +kernel, fun _ => zw1661, fun h => absurd rfl h, Or.inl ⟨rfl, rfl⟩, fun h => absurd h (by decide +kernel), rfl⟩
theorem zMd185 : zMd 185 := ⟨by decide +kernel, fun _ => zw1665, fun h => absurd rfl h, Or.inl ⟨rfl, rfl⟩, fun h => absurd h (by decide +kernel), rfl⟩
theorem zMd186 : zMd 186 := ⟨by decide +kernel, fun _ => zw1669, fun h => absurd rfl h, Or.inr (Or.inl ⟨rfl, rfl⟩), fun h => absurd h (by decide +kernel), rfl⟩
theorem zMd187 : zMd 187 := ⟨by decide +kernel, fun _ => zw1673, fun h => absurd rfl h, Or.inl ⟨rfl, rfl⟩, fun h => absurd h (by decide +kernel), rfl⟩
theorem zMd188 : zMd 188 := ⟨by decide +kernel, fun _ => zw1677, fun h => absurd rfl h, Or.inl ⟨rfl, rfl⟩, fun h => absurd h (by decide +kernel), rfl⟩
theorem zMd189 : zMd 189 := ⟨by decide +kernel, fun _ => zw1681, fun h => absurd rfl h, Or.inr (Or.inr (Or.inr (Or.inl ⟨rfl, rfl⟩))), fun h => absurd h (by decide +kernel), rfl⟩
theorem zMd190 : zMd 190 := ⟨by decide +kernel, fun h => absurd h (by decide +kernel), fun _ => zw186, Or.inl ⟨rfl, rfl⟩, fun h => absurd h (by decide +kernel), rfl⟩
theorem zMd191 : zMd 191 := ⟨by decide +kernel, fun h => absurd h (by decide +kernel), fun _ => zw381, Or.inl ⟨rfl, rfl⟩, fun h => absurd h (by decide +kernel), rfl⟩
theorem zMd192 : zMd 192 := ⟨by decide +kernel, fun h => absurd h (by decide +kernel), fun _ => zw395, Or.inl ⟨rfl, rfl⟩, fun h => absurd h (by decide +kernel), rfl⟩
theorem zMd193 : zMd 193 := ⟨by decide +kernel, fun h => absurd h (by decide +kernel), fun _ => zw477, Or.inl ⟨rfl, rfl⟩, fun h => absurd h (by decide +kernel), rfl⟩
theorem zMd194 : zMd 194 := ⟨by decide +kernel, fun h => absurd h (by decide +kernel), fun _ => zw505, Or.inl ⟨rfl, rfl⟩, fun h => absurd h (by decide +kernel), rfl⟩
theorem zMd195 : zMd 195 := ⟨by decide +kernel, fun h => absurd h (by decide +kernel), fun _ => zw1007, Or.inl ⟨rfl, rfl⟩, fun h => absurd h (by decide +kernel), rfl⟩
theorem zMd196 : zMd 196 := ⟨by decide +kernel, fun h => absurd h (by decide +kernel), fun _ => zw1032, Or.inl ⟨rfl, rfl⟩, fun h => absurd h (by decide +kernel), rfl⟩
theorem zMd197 : zMd 197 := ⟨by decide +kernel, fun h => absurd h (by decide +kernel), fun _ => zw1039, Or.inl ⟨rfl, rfl⟩, fun h => absurd h (by decide +kernel), rfl⟩
theorem zMd198 : zMd 198 := ⟨by decide +kernel, fun h => absurd h (by decide +kernel), fun _ => zw1069, Or.inl ⟨rfl, rfl⟩, fun h => absurd h (by decide +kernel), rfl⟩
theorem zMd199 : zMd 199 := ⟨by decide +kernel, fun h => absurd h (by decide +kernel), fun _ => zw1085, Or.inl ⟨rfl, rfl⟩, fun h => absurd h (by decide +kernel), rfl⟩
theorem zMd200 : zMd 200 := ⟨by decide +kernel, fun h => absurd h (by decide +kernel), fun _ => zw1101, Or.inl ⟨rfl, rfl⟩, fun h => absurd h (by decide +kernel), rfl⟩
theorem zMd201 : zMd 201 := ⟨by decide +kernel, fun h => absurd h (by decide +kernel), fun _ => zw1131, Or.inl ⟨rfl, rfl⟩, fun h => absurd h (by decide +kernel), rfl⟩
theorem zMd202 : zMd 202 := ⟨by decide +kernel, fun h => absurd h (by decide +kernel), fun _ => zw1138, Or.inl ⟨rfl, rfl⟩, fun h => absurd h (by decide +kernel), rfl⟩
theorem zMd203 : zMd 203 := ⟨by decide +kernel, fun h => absurd h (by decide +kernel), fun _ => zw1145, Or.inl ⟨rfl, rfl⟩, fun h => absurd h (by decide +kernel), rfl⟩
theorem zMd204 : zMd 204 := ⟨by decide +kernel, fun h => absurd h (by decide +kernel), fun _ => zw1157, Or.inl ⟨rfl, rfl⟩, fun h => absurd h (by decide +kernel), rfl⟩
theorem zMd205 : zMd 205 := ⟨by decide +kernel, fun h => absurd h (by decide +kernel), fun _ => zw1174, Or.inl ⟨rfl, rfl⟩, fun h => absurd h (by decide +kernel), rfl⟩
theorem zMd206 : zMd 206 := ⟨by decide +kernel, fun h => absurd h (by decide +kernel), fun _ => zw1190, Or.inl ⟨rfl, rfl⟩, fun h => absurd h (by decide +kernel), rfl⟩
theorem zMd207 : zMd 207 := ⟨by decide +kernel, fun h => absurd h (by decide +kernel), fun _ => zw1201, Or.inl ⟨rfl, rfl⟩, fun h => absurd h (by decide +kernel), rfl⟩
theorem zMd208 : zMd 208 := ⟨by decide +kernel, fun h => absurd h (by decide +kernel), fun _ => zw1209, Or.inl ⟨rfl, rfl⟩, fun h => absurd h (by decide +kernel), rfl⟩
theorem zMd209 : zMd 209 := ⟨by decide +kernel, fun h => absurd h (by decide +kernel), fun _ => zw1234, Or.inl ⟨rfl, rfl⟩, fun h => absurd h (by decide +kernel), rfl⟩
theorem zdc0 : zK0.all (zdecB (zby 0)) = true := by decide +kernel
theorem znd0 : zK0.all (zneedB 0) = true := by decide +kernel
theorem zdc1 : zK1.all (zdecB (zby 1)) = true := by decide +kernel
theorem znd1 : zK1.all (zneedB 1) = true := by decide +kernel
theorem zdc2 : zK2.all (zdecB (zby 2)) = true := by decide +kernel
theorem znd2 : zK2.all (zneedB 2) = true := by decide +kernel
theorem zdc3 : zK3.all (zdecB (zby 3)) = true := by decide +kernel
theorem znd3 : zK3.all (zneedB 3) = true := by decide +kernel
theorem zdc4 : zK4.all (zdecB (zby 4)) = true := by decide +kernel
theorem znd4 : zK4.all (zneedB 4) = true := by decide +kernel
theorem zdc5 : zK5.all (zdecB (zby 5)) = true := by decide +kernel
theorem znd5 : zK5.all (zneedB 5) = true := by decide +kernel
theorem zdc6 : zK6.all (zdecB (zby 6)) = true := by decide +kernel
theorem znd6 : zK6.all (zneedB 6) = true := by decide +kernel
theorem zdc7 : zK7.all (zdecB (zby 7)) = true := by decide +kernel
theorem znd7 : zK7.all (zneedB 7) = true := by decide +kernel
theorem zdc8 : zK8.all (zdecB (zby 8)) = true := by decide +kernel
theorem znd8 : zK8.all (zneedB 8) = true := by decide +kernel
theorem zdc9 : zK9.all (zdecB (zby 9)) = true := by decide +kernel
theorem znd9 : zK9.all (zneedB 9) = true := by decide +kernel
theorem zdc10 : zK10.all (zdecB (zby 10)) = true := by decide +kernel
theorem znd10 : zK10.all (zneedB 10) = true := by decide +kernel
theorem zdc11 : zK11.all (zdecB (zby 11)) = true := by decide +kernel
theorem znd11 : zK11.all (zneedB 11) = true := by decide +kernel
theorem zdc12 : zK12.all (zdecB (zby 12)) = true := by decide +kernel
theorem znd12 : zK12.all (zneedB 12) = true := by decide +kernel
theorem zdc13 : zK13.all (zdecB (zby 13)) = true := by decide +kernel
theorem znd13 : zK13.all (zneedB 13) = true := by decide +kernel
theorem zdc14 : zK14.all (zdecB (zby 14)) = true := by decide +kernel
theorem znd14 : zK14.all (zneedB 14) = true := by decide +kernel
theorem zdc15 : zK15.all (zdecB (zby 15)) = true := by decide +kernel
theorem znd15 : zK15.all (zneedB 15) = true := by decide +kernel
theorem zdc16 : zK16.all (zdecB (zby 16)) = true := by decide +kernel
theorem znd16 : zK16.all (zneedB 16) = true := by decide +kernel
theorem zdc17 : zK17.all (zdecB (zby 17)) = true := by decide +kernel
theorem znd17 : zK17.all (zneedB 17) = true := by decide +kernel
theorem zdc18 : zK18.all (zdecB (zby 18)) = true := by decide +kernel
theorem znd18 : zK18.all (zneedB 18) = true := by decide +kernel
theorem zdc19 : zK19.all (zdecB (zby 19)) = true := by decide +kernel
theorem znd19 : zK19.all (zneedB 19) = true := by decide +kernel
theorem zdc20 : zK20.all (zdecB (zby 20)) = true := by decide +kernel
theorem znd20 : zK20.all (zneedB 20) = true := by decide +kernel
theorem zdc21 : zK21.all (zdecB (zby 21)) = true := by decide +kernel
theorem znd21 : zK21.all (zneedB 21) = true := by decide +kernel
theorem zdc22 : zK22.all (zdecB (zby 22)) = true := by decide +kernel
theorem znd22 : zK22.all (zneedB 22) = true := by decide +kernel
theorem zdc23 : zK23.all (zdecB (zby 23)) = true := by decide +kernel
theorem znd23 : zK23.all (zneedB 23) = true := by decide +kernel
theorem zdc24 : zK24.all (zdecB (zby 24)) = true := by decide +kernel
theorem znd24 : zK24.all (zneedB 24) = true := by decide +kernel
theorem zdc25 : zK25.all (zdecB (zby 25)) = true := by decide +kernel
theorem znd25 : zK25.all (zneedB 25) = true := by decide +kernel
theorem zdc26 : zK26.all (zdecB (zby 26)) = true := by decide +kernel
theorem znd26 : zK26.all (zneedB 26) = true := by decide +kernel
theorem zdc27 : zK27.all (zdecB (zby 27)) = true := by decide +kernel
theorem znd27 : zK27.all (zneedB 27) = true := by decide +kernel
theorem zdc28 : zK28.all (zdecB (zby 28)) = true := by decide +kernel
theorem znd28 : zK28.all (zneedB 28) = true := by decide +kernel
theorem zdc29 : zK29.all (zdecB (zby 29)) = true := by decide +kernel
theorem znd29 : zK29.all (zneedB 29) = true := by decide +kernel
theorem zdc30 : zK30.all (zdecB (zby 30)) = true := by decide +kernel
theorem znd30 : zK30.all (zneedB 30) = true := by decide +kernel
theorem zdc31 : zK31.all (zdecB (zby 31)) = true := by decide +kernel
theorem znd31 : zK31.all (zneedB 31) = true := by decide +kernel
theorem zdc32 : zK32.all (zdecB (zby 32)) = true := by decide +kernel
theorem znd32 : zK32.all (zneedB 32) = true := by decide +kernel
theorem zdc33 : zK33.all (zdecB (zby 33)) = true := by decide +kernel
theorem znd33 : zK33.all (zneedB 33) = true := by decide +kernel
theorem zdc34 : zK34.all (zdecB (zby 34)) = true := by decide +kernel
theorem znd34 : zK34.all (zneedB 34) = true := by decide +kernel
theorem zdc35 : zK35.all (zdecB (zby 35)) = true := by decide +kernel
theorem znd35 : zK35.all (zneedB 35) = true := by decide +kernel
theorem zdc36 : zK36.all (zdecB (zby 36)) = true := by decide +kernel
theorem znd36 : zK36.all (zneedB 36) = true := by decide +kernel
theorem zdc37 : zK37.all (zdecB (zby 37)) = true := by decide +kernel
theorem znd37 : zK37.all (zneedB 37) = true := by decide +kernel
theorem zdc38 : zK38.all (zdecB (zby 38)) = true := by decide +kernel
theorem znd38 : zK38.all (zneedB 38) = true := by decide +kernel
theorem zdc39 : zK39.all (zdecB (zby 39)) = true := by decide +kernel
theorem znd39 : zK39.all (zneedB 39) = true := by decide +kernel
theorem zdc40 : zK40.all (zdecB (zby 40)) = true := by decide +kernel
theorem znd40 : zK40.all (zneedB 40) = true := by decide +kernel
theorem zdc41 : zK41.all (zdecB (zby 41)) = true := by decide +kernel
theorem znd41 : zK41.all (zneedB 41) = true := by decide +kernel
theorem zdc42 : zK42.all (zdecB (zby 42)) = true := by decide +kernel
theorem znd42 : zK42.all (zneedB 42) = true := by decide +kernel
theorem zdc43 : zK43.all (zdecB (zby 43)) = true := by decide +kernel
theorem znd43 : zK43.all (zneedB 43) = true := by decide +kernel
theorem zdc44 : zK44.all (zdecB (zby 44)) = true := by decide +kernel
theorem znd44 : zK44.all (zneedB 44) = true := by decide +kernel
theorem zdc45 : zK45.all (zdecB (zby 45)) = true := by decide +kernel
theorem znd45 : zK45.all (zneedB 45) = true := by decide +kernel
theorem zdc46 : zK46.all (zdecB (zby 46)) = true := by decide +kernel
theorem znd46 : zK46.all (zneedB 46) = true := by decide +kernel
theorem zdc47 : zK47.all (zdecB (zby 47)) = true := by decide +kernel
theorem znd47 : zK47.all (zneedB 47) = true := by decide +kernel
theorem zdc48 : zK48.all (zdecB (zby 48)) = true := by decide +kernel
theorem znd48 : zK48.all (zneedB 48) = true := by decide +kernel
theorem zdc49 : zK49.all (zdecB (zby 49)) = true := by decide +kernel
theorem znd49 : zK49.all (zneedB 49) = true := by decide +kernel
theorem zdc50 : zK50.all (zdecB (zby 50)) = true := by decide +kernel
theorem znd50 : zK50.all (zneedB 50) = true := by decide +kernel
theorem zdc51 : zK51.all (zdecB (zby 51)) = true := by decide +kernel
theorem znd51 : zK51.all (zneedB 51) = true := by decide +kernel
theorem zdc52 : zK52.all (zdecB (zby 52)) = true := by decide +kernel
theorem znd52 : zK52.all (zneedB 52) = true := by decide +kernel
theorem zdc53 : zK53.all (zdecB (zby 53)) = true := by decide +kernel
theorem znd53 : zK53.all (zneedB 53) = true := by decide +kernel
theorem zdc54 : zK54.all (zdecB (zby 54)) = true := by decide +kernel
theorem znd54 : zK54.all (zneedB 54) = true := by decide +kernel
theorem zdc55 : zK55.all (zdecB (zby 55)) = true := by decide +kernel
theorem znd55 : zK55.all (zneedB 55) = true := by decide +kernel
theorem zdc56 : zK56.all (zdecB (zby 56)) = true := by decide +kernel
theorem znd56 : zK56.all (zneedB 56) = true := by decide +kernel
theorem zdc57 : zK57.all (zdecB (zby 57)) = true := by decide +kernel
theorem znd57 : zK57.all (zneedB 57) = true := by decide +kernel
theorem zdc58 : zK58.all (zdecB (zby 58)) = true := by decide +kernel
theorem znd58 : zK58.all (zneedB 58) = true := by decide +kernel
theorem zdc59 : zK59.all (zdecB (zby 59)) = true := by decide +kernel
theorem znd59 : zK59.all (zneedB 59) = true := by decide +kernel
theorem zdc60 : zK60.all (zdecB (zby 60)) = true := by decide +kernel
theorem znd60 : zK60.all (zneedB 60) = true := by decide +kernel
theorem zdc61 : zK61.all (zdecB (zby 61)) = true := by decide +kernel
theorem znd61 : zK61.all (zneedB 61) = true := by decide +kernel
theorem zdc62 : zK62.all (zdecB (zby 62)) = true := by decide +kernel
theorem znd62 : zK62.all (zneedB 62) = true := by decide +kernel
theorem zdc63 : zK63.all (zdecB (zby 63)) = true := by decide +kernel
theorem znd63 : zK63.all (zneedB 63) = true := by decide +kernel
theorem zdc64 : zK64.all (zdecB (zby 64)) = true := by decide +kernel
theorem znd64 : zK64.all (zneedB 64) = true := by decide +kernel
theorem zdc65 : zK65.all (zdecB (zby 65)) = true := by decide +kernel
theorem znd65 : zK65.all (zneedB 65) = true := by decide +kernel
theorem zdc66 : zK66.all (zdecB (zby 66)) = true := by decide +kernel
theorem znd66 : zK66.all (zneedB 66) = true := by decide +kernel
theorem zdc67 : zK67.all (zdecB (zby 67)) = true := by decide +kernel
theorem znd67 : zK67.all (zneedB 67) = true := by decide +kernel
theorem zdc68 : zK68.all (zdecB (zby 68)) = true := by decide +kernel
theorem znd68 : zK68.all (zneedB 68) = true := by decide +kernel
theorem zdc69 : zK69.all (zdecB (zby 69)) = true := by decide +kernel
theorem znd69 : zK69.all (zneedB 69) = true := by decide +kernel
theorem zdc70 : zK70.all (zdecB (zby 70)) = true := by decide +kernel
theorem znd70 : zK70.all (zneedB 70) = true := by decide +kernel
theorem zdc71 : zK71.all (zdecB (zby 71)) = true := by decide +kernel
theorem znd71 : zK71.all (zneedB 71) = true := by decide +kernel
theorem zdc72 : zK72.all (zdecB (zby 72)) = true := by decide +kernel
theorem znd72 : zK72.all (zneedB 72) = true := by decide +kernel
theorem zdc73 : zK73.all (zdecB (zby 73)) = true := by decide +kernel
theorem znd73 : zK73.all (zneedB 73) = true := by decide +kernel
theorem zdc74 : zK74.all (zdecB (zby 74)) = true := by decide +kernel
theorem znd74 : zK74.all (zneedB 74) = true := by decide +kernel
theorem zdc75 : zK75.all (zdecB (zby 75)) = true := by decide +kernel
theorem znd75 : zK75.all (zneedB 75) = true := by decide +kernel
theorem zdc76 : zK76.all (zdecB (zby 76)) = true := by decide +kernel
theorem znd76 : zK76.all (zneedB 76) = true := by decide +kernel
theorem zdc77 : zK77.all (zdecB (zby 77)) = true := by decide +kernel
theorem znd77 : zK77.all (zneedB 77) = true := by decide +kernel
theorem zdc78 : zK78.all (zdecB (zby 78)) = true := by decide +kernel
theorem znd78 : zK78.all (zneedB 78) = true := by decide +kernel
theorem zdc79 : zK79.all (zdecB (zby 79)) = true := by decide +kernel
theorem znd79 : zK79.all (zneedB 79) = true := by decide +kernel
theorem zdc80 : zK80.all (zdecB (zby 80)) = true := by decide +kernel
theorem znd80 : zK80.all (zneedB 80) = true := by decide +kernel
theorem zdc81 : zK81.all (zdecB (zby 81)) = true := by decide +kernel
theorem znd81 : zK81.all (zneedB 81) = true := by decide +kernel
theorem zdc82 : zK82.all (zdecB (zby 82)) = true := by decide +kernel
theorem znd82 : zK82.all (zneedB 82) = true := by decide +kernel
theorem zdc83 : zK83.all (zdecB (zby 83)) = true := by decide +kernel
theorem znd83 : zK83.all (zneedB 83) = true := by decide +kernel
theorem zdc84 : zK84.all (zdecB (zby 84)) = true := by decide +kernel
theorem znd84 : zK84.all (zneedB 84) = true := by decide +kernel
theorem zdc85 : zK85.all (zdecB (zby 85)) = true := by decide +kernel
theorem znd85 : zK85.all (zneedB 85) = true := by decide +kernel
theorem zdc86 : zK86.all (zdecB (zby 86)) = true := by decide +kernel
theorem znd86 : zK86.all (zneedB 86) = true := by decide +kernel
theorem zdc87 : zK87.all (zdecB (zby 87)) = true := by decide +kernel
theorem znd87 : zK87.all (zneedB 87) = true := by decide +kernel
theorem zdc88 : zK88.all (zdecB (zby 88)) = true := by decide +kernel
theorem znd88 : zK88.all (zneedB 88) = true := by decide +kernel
theorem zdc89 : zK89.all (zdecB (zby 89)) = true := by decide +kernel
theorem znd89 : zK89.all (zneedB 89) = true := by decide +kernel
theorem zdc90 : zK90.all (zdecB (zby 90)) = true := by decide +kernel
theorem znd90 : zK90.all (zneedB 90) = true := by decide +kernel
theorem zdc91 : zK91.all (zdecB (zby 91)) = true := by decide +kernel
theorem znd91 : zK91.all (zneedB 91) = true := by decide +kernel
theorem zdc92 : zK92.all (zdecB (zby 92)) = true := by decide +kernel
theorem znd92 : zK92.all (zneedB 92) = true := by decide +kernel
theorem zdc93 : zK93.all (zdecB (zby 93)) = true := by decide +kernel
theorem znd93 : zK93.all (zneedB 93) = true := by decide +kernel
theorem zdc94 : zK94.all (zdecB (zby 94)) = true := by decide +kernel
theorem znd94 : zK94.all (zneedB 94) = true := by decide +kernel
theorem zdc95 : zK95.all (zdecB (zby 95)) = true := by decide +kernel
theorem znd95 : zK95.all (zneedB 95) = true := by decide +kernel
theorem zdc96 : zK96.all (zdecB (zby 96)) = true := by decide +kernel
theorem znd96 : zK96.all (zneedB 96) = true := by decide +kernel
theorem zdc97 : zK97.all (zdecB (zby 97)) = true := by decide +kernel
theorem znd97 : zK97.all (zneedB 97) = true := by decide +kernel
theorem zdc98 : zK98.all (zdecB (zby 98)) = true := by decide +kernel
theorem znd98 : zK98.all (zneedB 98) = true := by decide +kernel
theorem zdc99 : zK99.all (zdecB (zby 99)) = true := by decide +kernel
theorem znd99 : zK99.all (zneedB 99) = true := by decide +kernel
theorem zdc100 : zK100.all (zdecB (zby 100)) = true := by decide +kernel
theorem znd100 : zK100.all (zneedB 100) = true := by decide +kernel
theorem zdc101 : zK101.all (zdecB (zby 101)) = true := by decide +kernel
theorem znd101 : zK101.all (zneedB 101) = true := by decide +kernel
theorem zdc102 : zK102.all (zdecB (zby 102)) = true := by decide +kernel
theorem znd102 : zK102.all (zneedB 102) = true := by decide +kernel
theorem zdc103 : zK103.all (zdecB (zby 103)) = true := by decide +kernel
theorem znd103 : zK103.all (zneedB 103) = true := by decide +kernel
theorem zdc104 : zK104.all (zdecB (zby 104)) = true := by decide +kernel
theorem znd104 : zK104.all (zneedB 104) = true := by decide +kernel
theorem zdc105 : zK105.all (zdecB (zby 105)) = true := by decide +kernel
theorem znd105 : zK105.all (zneedB 105) = true := by decide +kernel
theorem zdc106 : zK106.all (zdecB (zby 106)) = true := by decide +kernel
theorem znd106 : zK106.all (zneedB 106) = true := by decide +kernel
theorem zdc107 : zK107.all (zdecB (zby 107)) = true := by decide +kernel
theorem znd107 : zK107.all (zneedB 107) = true := by decide +kernel
theorem zdc108 : zK108.all (zdecB (zby 108)) = true := by decide +kernel
theorem znd108 : zK108.all (zneedB 108) = true := by decide +kernel
theorem zdc109 : zK109.all (zdecB (zby 109)) = true := by decide +kernel
theorem znd109 : zK109.all (zneedB 109) = true := by decide +kernel
theorem zdc110 : zK110.all (zdecB (zby 110)) = true := by decide +kernel
theorem znd110 : zK110.all (zneedB 110) = true := by decide +kernel
theorem zdc111 : zK111.all (zdecB (zby 111)) = true := by decide +kernel
theorem znd111 : zK111.all (zneedB 111) = true := by decide +kernel
theorem zdc112 : zK112.all (zdecB (zby 112)) = true := by decide +kernel
theorem znd112 : zK112.all (zneedB 112) = true := by decide +kernel
theorem zdc113 : zK113.all (zdecB (zby 113)) = true := by decide +kernel
theorem znd113 : zK113.all (zneedB 113) = true := by decide +kernel
theorem zdc114 : zK114.all (zdecB (zby 114)) = true := by decide +kernel
theorem znd114 : zK114.all (zneedB 114) = true := by decide +kernel
theorem zdc115 : zK115.all (zdecB (zby 115)) = true := by decide +kernel
theorem znd115 : zK115.all (zneedB 115) = true := by decide +kernel
theorem zdc116 : zK116.all (zdecB (zby 116)) = true := by decide +kernel
theorem znd116 : zK116.all (zneedB 116) = true := by decide +kernel
theorem zdc117 : zK117.all (zdecB (zby 117)) = true := by decide +kernel
theorem znd117 : zK117.all (zneedB 117) = true := by decide +kernel
theorem zdc118 : zK118.all (zdecB (zby 118)) = true := by decide +kernel
theorem znd118 : zK118.all (zneedB 118) = true := by decide +kernel
theorem zdc119 : zK119.all (zdecB (zby 119)) = true := by decide +kernel
theorem znd119 : zK119.all (zneedB 119) = true := by decide +kernel
theorem zdc120 : zK120.all (zdecB (zby 120)) = true := by decide +kernel
theorem znd120 : zK120.all (zneedB 120) = true := by decide +kernel
theorem zdc121 : zK121.all (zdecB (zby 121)) = true := by decide +kernel
theorem znd121 : zK121.all (zneedB 121) = true := by decide +kernel
theorem zdc122 : zK122.all (zdecB (zby 122)) = true := by decide +kernel
theorem znd122 : zK122.all (zneedB 122) = true := by decide +kernel
theorem zdc123 : zK123.all (zdecB (zby 123)) = true := by decide +kernel
theorem znd123 : zK123.all (zneedB 123) = true := by decide +kernel
theorem zdc124 : zK124.all (zdecB (zby 124)) = true := by decide +kernel
theorem znd124 : zK124.all (zneedB 124) = true := by decide +kernel
theorem zdc125 : zK125.all (zdecB (zby 125)) = true := by decide +kernel
theorem znd125 : zK125.all (zneedB 125) = true := by decide +kernel
theorem zdc126 : zK126.all (zdecB (zby 126)) = true := by decide +kernel
theorem znd126 : zK126.all (zneedB 126) = true := by decide +kernel
theorem zdc127 : zK127.all (zdecB (zby 127)) = true := by decide +kernel
theorem znd127 : zK127.all (zneedB 127) = true := by decide +kernel
theorem zdc128 : zK128.all (zdecB (zby 128)) = true := by decide +kernel
theorem znd128 : zK128.all (zneedB 128) = true := by decide +kernel
theorem zdc129 : zK129.all (zdecB (zby 129)) = true := by decide +kernel
theorem znd129 : zK129.all (zneedB 129) = true := by decide +kernel
theorem zdc130 : zK130.all (zdecB (zby 130)) = true := by decide +kernel
theorem znd130 : zK130.all (zneedB 130) = true := by decide +kernel
theorem zdc131 : zK131.all (zdecB (zby 131)) = true := by decide +kernel
theorem znd131 : zK131.all (zneedB 131) = true := by decide +kernel
theorem zdc132 : zK132.all (zdecB (zby 132)) = true := by decide +kernel
theorem znd132 : zK132.all (zneedB 132) = true := by decide +kernel
theorem zdc133 : zK133.all (zdecB (zby 133)) = true := by decide +kernel
theorem znd133 : zK133.all (zneedB 133) = true := by decide +kernel
theorem zdc134 : zK134.all (zdecB (zby 134)) = true := by decide +kernel
theorem znd134 : zK134.all (zneedB 134) = true := by decide +kernel
theorem zdc135 : zK135.all (zdecB (zby 135)) = true := by decide +kernel
theorem znd135 : zK135.all (zneedB 135) = true := by decide +kernel
theorem zdc136 : zK136.all (zdecB (zby 136)) = true := by decide +kernel
theorem znd136 : zK136.all (zneedB 136) = true := by decide +kernel
theorem zdc137 : zK137.all (zdecB (zby 137)) = true := by decide +kernel
theorem znd137 : zK137.all (zneedB 137) = true := by decide +kernel
theorem zdc138 : zK138.all (zdecB (zby 138)) = true := by decide +kernel
theorem znd138 : zK138.all (zneedB 138) = true := by decide +kernel
theorem zdc139 : zK139.all (zdecB (zby 139)) = true := by decide +kernel
theorem znd139 : zK139.all (zneedB 139) = true := by decide +kernel
theorem zdc140 : zK140.all (zdecB (zby 140)) = true := by decide +kernel
theorem znd140 : zK140.all (zneedB 140) = true := by decide +kernel
theorem zdc141 : zK141.all (zdecB (zby 141)) = true := by decide +kernel
theorem znd141 : zK141.all (zneedB 141) = true := by decide +kernel
theorem zdc142 : zK142.all (zdecB (zby 142)) = true := by decide +kernel
theorem znd142 : zK142.all (zneedB 142) = true := by decide +kernel
theorem zdc143 : zK143.all (zdecB (zby 143)) = true := by decide +kernel
theorem znd143 : zK143.all (zneedB 143) = true := by decide +kernel
theorem zdc144 : zK144.all (zdecB (zby 144)) = true := by decide +kernel
theorem znd144 : zK144.all (zneedB 144) = true := by decide +kernel
theorem zdc145 : zK145.all (zdecB (zby 145)) = true := by decide +kernel
theorem znd145 : zK145.all (zneedB 145) = true := by decide +kernel
theorem zdc146 : zK146.all (zdecB (zby 146)) = true := by decide +kernel
theorem znd146 : zK146.all (zneedB 146) = true := by decide +kernel
theorem zdc147 : zK147.all (zdecB (zby 147)) = true := by decide +kernel
theorem znd147 : zK147.all (zneedB 147) = true := by decide +kernel
theorem zdc148 : zK148.all (zdecB (zby 148)) = true := by decide +kernel
theorem znd148 : zK148.all (zneedB 148) = true := by decide +kernel
theorem zdc149 : zK149.all (zdecB (zby 149)) = true := by decide +kernel
theorem znd149 : zK149.all (zneedB 149) = true := by decide +kernel
theorem zdc150 : zK150.all (zdecB (zby 150)) = true := by decide +kernel
theorem znd150 : zK150.all (zneedB 150) = true := by decide +kernel
theorem zdc151 : zK151.all (zdecB (zby 151)) = true := by decide +kernel
theorem znd151 : zK151.all (zneedB 151) = true := by decide +kernel
theorem zdc152 : zK152.all (zdecB (zby 152)) = true := by decide +kernel
theorem znd152 : zK152.all (zneedB 152) = true := by decide +kernel
theorem zdc153 : zK153.all (zdecB (zby 153)) = true := by decide +kernel
theorem znd153 : zK153.all (zneedB 153) = true := by decide +kernel
theorem zdc154 : zK154.all (zdecB (zby 154)) = true := by decide +kernel
theorem znd154 : zK154.all (zneedB 154) = true := by decide +kernel
theorem zdc155 : zK155.all (zdecB (zby 155)) = true := by decide +kernel
theorem znd155 : zK155.all (zneedB 155) = true := by decide +kernel
theorem zdc156 : zK156.all (zdecB (zby 156)) = true := by decide +kernel
theorem znd156 : zK156.all (zneedB 156) = true := by decide +kernel
theorem zdc157 : zK157.all (zdecB (zby 157)) = true := by decide +kernel
theorem znd157 : zK157.all (zneedB 157) = true := by decide +kernel
theorem zdc158 : zK158.all (zdecB (zby 158)) = true := by decide +kernel
theorem znd158 : zK158.all (zneedB 158) = true := by decide +kernel
theorem zdc159 : zK159.all (zdecB (zby 159)) = true := by decide +kernel
theorem znd159 : zK159.all (zneedB 159) = true := by decide +kernel
theorem zdc160 : zK160.all (zdecB (zby 160)) = true := by decide +kernel
theorem znd160 : zK160.all (zneedB 160) = true := by decide +kernel
theorem zdc161 : zK161.all (zdecB (zby 161)) = true := by decide +kernel
theorem znd161 : zK161.all (zneedB 161) = true := by decide +kernel
theorem zdc162 : zK162.all (zdecB (zby 162)) = true := by decide +kernel
theorem znd162 : zK162.all (zneedB 162) = true := by decide +kernel
theorem zdc163 : zK163.all (zdecB (zby 163)) = true := by decide +kernel
theorem znd163 : zK163.all (zneedB 163) = true := by decide +kernel
theorem zdc164 : zK164.all (zdecB (zby 164)) = true := by decide +kernel
theorem znd164 : zK164.all (zneedB 164) = true := by decide +kernel
theorem zdc165 : zK165.all (zdecB (zby 165)) = true := by decide +kernel
theorem znd165 : zK165.all (zneedB 165) = true := by decide +kernel
theorem zdc166 : zK166.all (zdecB (zby 166)) = true := by decide +kernel
theorem znd166 : zK166.all (zneedB 166) = true := by decide +kernel
theorem zdc167 : zK167.all (zdecB (zby 167)) = true := by decide +kernel
theorem znd167 : zK167.all (zneedB 167) = true := by decide +kernel
theorem zdc168 : zK168.all (zdecB (zby 168)) = true := by decide +kernel
theorem znd168 : zK168.all (zneedB 168) = true := by decide +kernel
theorem zdc169 : zK169.all (zdecB (zby 169)) = true := by decide +kernel
theorem znd169 : zK169.all (zneedB 169) = true := by decide +kernel
theorem zdc170 : zK170.all (zdecB (zby 170)) = true := by decide +kernel
theorem znd170 : zK170.all (zneedB 170) = true := by decide +kernel
theorem zdc171 : zK171.all (zdecB (zby 171)) = true := by decide +kernel
theorem znd171 : zK171.all (zneedB 171) = true := by decide +kernel
theorem zdc172 : zK172.all (zdecB (zby 172)) = true := by decide +kernel
theorem znd172 : zK172.all (zneedB 172) = true := by decide +kernel
theorem zdc173 : zK173.all (zdecB (zby 173)) = true := by decide +kernel
theorem znd173 : zK173.all (zneedB 173) = true := by decide +kernel
theorem zdc174 : zK174.all (zdecB (zby 174)) = true := by decide +kernel
theorem znd174 : zK174.all (zneedB 174) = true := by decide +kernel
theorem zdc175 : zK175.all (zdecB (zby 175)) = true := by decide +kernel
theorem znd175 : zK175.all (zneedB 175) = true := by decide +kernel
theorem zdc176 : zK176.all (zdecB (zby 176)) = true := by decide +kernel
theorem znd176 : zK176.all (zneedB 176) = true := by decide +kernel
theorem zdc177 : zK177.all (zdecB (zby 177)) = true := by decide +kernel
theorem znd177 : zK177.all (zneedB 177) = true := by decide +kernel
theorem zdc178 : zK178.all (zdecB (zby 178)) = true := by decide +kernel
theorem znd178 : zK178.all (zneedB 178) = true := by decide +kernel
theorem zdc179 : zK179.all (zdecB (zby 179)) = true := by decide +kernel
theorem znd179 : zK179.all (zneedB 179) = true := by decide +kernel
theorem zdc180 : zK180.all (zdecB (zby 180)) = true := by decide +kernel
theorem znd180 : zK180.all (zneedB 180) = true := by decide +kernel
theorem zdc181 : zK181.all (zdecB (zby 181)) = true := by decide +kernel
theorem znd181 : zK181.all (zneedB 181) = true := by decide +kernel
theorem zdc182 : zK182.all (zdecB (zby 182)) = true := by decide +kernel
theorem znd182 : zK182.all (zneedB 182) = true := by decide +kernel
theorem zdc183 : zK183.all (zdecB (zby 183)) = true := by decide +kernel
theorem znd183 : zK183.all (zneedB 183) = true := by decide +kernel
theorem zdc184 : zK184.all (zdecB (zby 184)) = true := by decide +kernel
theorem znd184 : zK184.all (zneedB 184) = true := by decide +kernel
theorem zdc185 : zK185.all (zdecB (zby 185)) = true := by decide +kernel
theorem znd185 : zK185.all (zneedB 185) = true := by decide +kernel
theorem zdc186 : zK186.all (zdecB (zby 186)) = true := by decide +kernel
theorem znd186 : zK186.all (zneedB 186) = true := by decide +kernel
theorem zdc187 : zK187.all (zdecB (zby 187)) = true := by decide +kernel
theorem znd187 : zK187.all (zneedB 187) = true := by decide +kernel
theorem zdc188 : zK188.all (zdecB (zby 188)) = true := by decide +kernel
theorem znd188 : zK188.all (zneedB 188) = true := by decide +kernel
theorem zdc189 : zK189.all (zdecB (zby 189)) = true := by decide +kernel
theorem znd189 : zK189.all (zneedB 189) = true := by decide +kernel
theorem zdc190 : zK190.all (zdecB (zby 190)) = true := by decide +kernel
theorem znd190 : zK190.all (zneedB 190) = true := by decide +kernel
theorem zdc191 : zK191.all (zdecB (zby 191)) = true := by decide +kernel
theorem znd191 : zK191.all (zneedB 191) = true := by decide +kernel
theorem zdc192 : zK192.all (zdecB (zby 192)) = true := by decide +kernel
theorem znd192 : zK192.all (zneedB 192) = true := by decide +kernel
theorem zdc193 : zK193.all (zdecB (zby 193)) = true := by decide +kernel
theorem znd193 : zK193.all (zneedB 193) = true := by decide +kernel
theorem zdc194 : zK194.all (zdecB (zby 194)) = true := by decide +kernel
theorem znd194 : zK194.all (zneedB 194) = true := by decide +kernel
theorem zdc195 : zK195.all (zdecB (zby 195)) = true := by decide +kernel
theorem znd195 : zK195.all (zneedB 195) = true := by decide +kernel
theorem zdc196 : zK196.all (zdecB (zby 196)) = true := by decide +kernel
theorem znd196 : zK196.all (zneedB 196) = true := by decide +kernel
theorem zdc197 : zK197.all (zdecB (zby 197)) = true := by decide +kernel
theorem znd197 : zK197.all (zneedB 197) = true := by decide +kernel
theorem zdc198 : zK198.all (zdecB (zby 198)) = true := by decide +kernel
theorem znd198 : zK198.all (zneedB 198) = true := by decide +kernel
theorem zdc199 : zK199.all (zdecB (zby 199)) = true := by decide +kernel
theorem znd199 : zK199.all (zneedB 199) = true := by decide +kernel
theorem zdc200 : zK200.all (zdecB (zby 200)) = true := by decide +kernel
theorem znd200 : zK200.all (zneedB 200) = true := by decide +kernel
theorem zdc201 : zK201.all (zdecB (zby 201)) = true := by decide +kernel
theorem znd201 : zK201.all (zneedB 201) = true := by decide +kernel
theorem zdc202 : zK202.all (zdecB (zby 202)) = true := by decide +kernel
theorem znd202 : zK202.all (zneedB 202) = true := by decide +kernel
theorem zdc203 : zK203.all (zdecB (zby 203)) = true := by decide +kernel
theorem znd203 : zK203.all (zneedB 203) = true := by decide +kernel
theorem zdc204 : zK204.all (zdecB (zby 204)) = true := by decide +kernel
theorem znd204 : zK204.all (zneedB 204) = true := by decide +kernel
theorem zdc205 : zK205.all (zdecB (zby 205)) = true := by decide +kernel
theorem znd205 : zK205.all (zneedB 205) = true := by decide +kernel
theorem zdc206 : zK206.all (zdecB (zby 206)) = true := by decide +kernel
theorem znd206 : zK206.all (zneedB 206) = true := by decide +kernel
theorem zdc207 : zK207.all (zdecB (zby 207)) = true := by decide +kernel
theorem znd207 : zK207.all (zneedB 207) = true := by decide +kernel
theorem zdc208 : zK208.all (zdecB (zby 208)) = true := by decide +kernel
theorem znd208 : zK208.all (zneedB 208) = true := by decide +kernel
theorem zdc209 : zK209.all (zdecB (zby 209)) = true := by decide +kernel
theorem znd209 : zK209.all (zneedB 209) = true := by decide +kernel
theorem zdc210 : zK210.all (zdecB (zby 210)) = true := by decide +kernel
theorem znd210 : zK210.all (zneedB 210) = true := by decide +kernel
theorem zth34 : zthr "DoorstepRides" (zby 34) 4 238 9 1 := ⟨240, 242, "out of its range", rfl, by decide +kernel, zw199, zw10, zat9_242, by decide, by decide, by decide +kernel, by decide +kernel, Or.inl ⟨rfl, by decide +kernel, by decide +kernel, by decide +kernel⟩⟩
theorem zth35 : zthr "DoorstepRides" (zby 35) 4 245 10 1 := ⟨247, 249, "not as things are", rfl, by decide +kernel, zw270, zw11, zat10_249, by decide, by decide, by decide +kernel, by decide +kernel, Or.inl ⟨rfl, by decide +kernel, by decide +kernel, by decide +kernel⟩⟩
theorem zth41 : zthr "DoorstepRides" (zby 41) 15 250 11 1 := ⟨255, 254, "no such vehicle", rfl, by decide +kernel, zw487, zw19, zat11_254, by decide, by decide, by decide +kernel, by decide +kernel, Or.inl ⟨rfl, by decide +kernel, by decide +kernel, by decide +kernel⟩⟩
theorem zth43 : zthr "DoorstepRides" (zby 43) 15 250 11 1 := ⟨252, 254, "no such rider", rfl, by decide +kernel, zw487, zw19, zat11_254, by decide, by decide, by decide +kernel, by decide +kernel, Or.inl ⟨rfl, by decide +kernel, by decide +kernel, by decide +kernel⟩⟩
theorem zth50 : zthr "DoorstepRides" (zby 50) 15 250 11 2 := ⟨257, 254, "no such request", rfl, by decide +kernel, zw487, zw19, zat11_254, by decide, by decide, by decide +kernel, by decide +kernel, Or.inr ⟨rfl, by decide +kernel, by decide +kernel, by decide +kernel⟩⟩
theorem zth65 : zthr "DoorstepRides" (zby 65) 15 250 11 2 := ⟨259, 254, "no such stop", rfl, by decide +kernel, zw487, zw19, zat11_254, by decide, by decide, by decide +kernel, by decide +kernel, Or.inr ⟨rfl, by decide +kernel, by decide +kernel, by decide +kernel⟩⟩
