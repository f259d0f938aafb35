/-! WHAT THE TABLES OWE TO THE REAL CODE -/
def zexn : List String := [zC9, zC10, zC11]
theorem zmT {w : Cond} (h : w ∈ tables_1) (g : goodWord w = true) : w ∈ zT := List.mem_filter.mpr ⟨List.mem_append_right _ h, g⟩
theorem zt1 {w : Cond} (h : w ∈ tables_1_1) : w ∈ tables_1 := List.mem_append_left _ h
theorem zt2 {w : Cond} (h : w ∈ tables_1_2) : w ∈ tables_1 := List.mem_append_right _ (List.mem_append_left _ h)
theorem zt3 {w : Cond} (h : w ∈ tables_1_3) : w ∈ tables_1 := List.mem_append_right _ (List.mem_append_right _ (List.mem_append_left _ h))
theorem zt4 {w : Cond} (h : w ∈ tables_1_4) : w ∈ tables_1 := List.mem_append_right _ (List.mem_append_right _ (List.mem_append_right _ (List.mem_append_left _ h)))
theorem zt5 {w : Cond} (h : w ∈ tables_1_5) : w ∈ tables_1 := List.mem_append_right _ (List.mem_append_right _ (List.mem_append_right _ (List.mem_append_right _ h)))
theorem zmB {w : Cond} (h : w ∈ tables_1) (g : zisB w = true) : w ∈ zB := List.mem_filter.mpr ⟨List.mem_append_right _ h, g⟩
theorem zmP {w : Cond} (i : Nat) (h : (k2_sels lw_privs)[i]? = some w) (g : goodWord w = true) : w ∈ zT := List.mem_filter.mpr ⟨List.mem_append_left _ (List.mem_of_getElem? h), g⟩
/-- 'throw new E("..")': w 0 by a narrow index of the text, 1 by a wide one -/
def zthr (own : String) (bytes : ByteArray) (pc idx a w : Nat) : Prop := ∃ (ks ic : Nat) (tx : String), own = "DoorstepRides" ∧ (ks, tx) ∈ zStrs ∧ Cond.classLink own idx ((zexn[a - 9]?).getD "") ∈ zT ∧ Cond.initialized ((zexn[a - 9]?).getD "") ∈ zT ∧
  (∀ x ∈ vx_atS own ic ((zexn[a - 9]?).getD "") ["java/lang/RuntimeException", "java/lang/Exception"], x ∈ zT ∨ x ∈ zB) ∧ 9 ≤ a ∧ a < 12 ∧ decode bytes pc = .ok (.new idx, 3) ∧ decode bytes (pc + 3) = .ok (.dup, 1) ∧
  ((w = 1 ∧ decode bytes (pc + 4) = .ok (.ldc ks, 2) ∧ decode bytes (pc + 6) = .ok (.invokespecial ic, 3) ∧ decode bytes (pc + 9) = .ok (.athrow, 1)) ∨
   (w = 2 ∧ decode bytes (pc + 4) = .ok (.ldc_w ks, 3) ∧ decode bytes (pc + 7) = .ok (.invokespecial ic, 3) ∧ decode bytes (pc + 10) = .ok (.athrow, 1)))
/-- what a method that is called owes -/
def zclh (k : Nat) : Prop := ((zy k).cls ≠ "java/lang/invoke/MethodHandle" ∧ (zy k).cls ≠ "java/lang/invoke/VarHandle" ∧ (parseMethodDescriptor (zy k).desc).map (fun d => d.parameters.length) = some ((zinf k).1 - (if (zinf k).2.2.1 = 0 then 0 else 1))) ∧ Cond.initialized (zy k).cls ∈ zT ∧ (zinf k).2.1 ≤ 44 ∧ k < 210
/-- a call's link to the method k -/
def zclk (own : String) (idx k b : Nat) : Prop := zclh k ∧
  ((b = 0 ∧ (zinf k).2.2.1 = 1 ∧ zhh k = [] ∧ Cond.methodLink own idx (zy k) ∈ zT ∧ Cond.instanceMethod (zy k) ∈ zT ∧ Cond.selects (zy k).cls (zy k) (zy k) ∈ zT ∧ (zinf k).2.2.2.1 < 12 ∧ ∃ T N, classes[(zinf k).2.2.2.1]? = some ((zy k).cls, T, N)) ∨
   (b = 1 ∧ (zinf k).2.2.1 = 2 ∧ zhh k = [] ∧ Cond.methodLink own idx (zy k) ∈ zT ∧ Cond.instanceMethod (zy k) ∈ zT ∧ (zy k).name = "<init>") ∨
   (b = 2 ∧ (zinf k).2.2.1 = 0 ∧ zhh k = [] ∧ Cond.methodLink own idx (zy k) ∈ zT ∧ Cond.static (zy k) ∈ zT) ∨
   (b = 4 ∧ (zinf k).2.2.1 = 2 ∧ zhh k = [] ∧ (∃ host, Cond.methodLinkNest own idx (zy k) host ∈ zB) ∧ Cond.instanceMethod (zy k) ∈ zT ∧ (zy k).name = "<init>") ∨
   (b = 5 ∧ (zinf k).2.2.1 = 0 ∧ zhh k = [] ∧ (∃ host, Cond.methodLinkNest own idx (zy k) host ∈ zB) ∧ Cond.static (zy k) ∈ zT) ∨
   (b = 7 ∧ (zinf k).2.2.1 = 0 ∧ zhh k ≠ [] ∧ Cond.methodLink own idx (zy k) ∈ zT ∧ Cond.static (zy k) ∈ zT))
/-- the law's cell -/
def zclc (own : String) (idx : Nat) : Prop := Cond.methodLink own idx zcy ∈ zT ∧ Cond.static zcy ∈ zT ∧ Cond.initialized zcy.cls ∈ zT ∧ Cond.code zcy zcby 2 (some .int) ∈ zT
def zgcl : MethodName := ⟨"java/lang/Object", "getClass", "()Ljava/lang/Class;"⟩
/-- an instruction's links, in a method of kind kd of the class own -/
def zlnk (own : String) (kd : Nat) (i : Instr) (imm : Int32) (a b : Nat) : Prop := match i with
  | .getfield idx => zflk own idx a b
  | .putfield idx => zflk own idx a b ∧ (((zfin[a]?).getD [])[b]?.getD false = true → kd = 2 ∧ ∀ C T N, classes[a]? = some (C, T, N) → (T b).1 = own)
  | .getstatic idx => Cond.fieldLink own idx "java/util/ArrayList" "DEFAULTCAPACITY_EMPTY_ELEMENTDATA" "[Ljava/lang/Object;" ∈ zT
  | .new idx => znlk own idx a
  | .newarray t => (a = 100 ∧ t = .int ∧ Cond.arrayClass .int ∈ zT) ∨ (a = 101 ∧ t = .boolean ∧ Cond.arrayClass .boolean ∈ zT) ∨ (a = 102 ∧ t = .long ∧ Cond.arrayClass .long ∈ zT)
  | .anewarray idx => Cond.classLink own idx "java/lang/Object" ∈ zT
  | .checkcast idx => ∃ C T N, a < 12 ∧ classes[a]? = some (C, T, N) ∧ Cond.classLink own idx C ∈ zT
  | .ldc idx => (a = 1 ∧ Cond.classLink own idx "[Ljava/lang/Object;" ∈ zT) ∨ (a = 0 ∧ Cond.constant own idx imm ∈ zT)
  | .invokevirtual idx => (a = 2005 ∧ Cond.methodLink own idx zgcl ∈ zT ∧ Cond.selects "[Ljava/lang/Object;" zgcl zgcl ∈ zT ∧ Cond.instanceMethod zgcl ∈ zT ∧ Cond.native zgcl ∈ zT) ∨ (a < 2000 ∧ b = 0 ∧ zclk own idx a b)
  | .invokespecial idx => (a = 2000 ∧ zblk own idx a) ∨ (a < 2000 ∧ (b = 1 ∨ b = 4) ∧ zclk own idx a b)
  | .invokestatic idx => (2000 < a ∧ a ≤ 2004 ∧ zblk own idx a) ∨ (a < 2000 ∧ (b = 2 ∨ b = 5 ∨ b = 7) ∧ zclk own idx a b) ∨ (a = 2006 ∧ zclc own idx)
  | _ => True
def zneed (i : Instr) : Bool := match i with
  | .getfield _ => true
  | .putfield _ => true
  | .getstatic _ => true
  | .new _ => true
  | .newarray _ => true
  | .anewarray _ => true
  | .checkcast _ => true
  | .ldc _ => true
  | .invokevirtual _ => true
  | .invokespecial _ => true
  | .invokestatic _ => true
  | _ => false
theorem zlnk_triv {own : String} {kd : Nat} {i : Instr} {imm : Int32} {a b : Nat} (h : zneed i = false) : zlnk own kd i imm a b := by
  cases i <;> first | trivial | (simp [zneed] at h)
/-- the table of links: class by number, kind of method, instruction, its numbers -/
abbrev zLk : Type := Nat × (Nat × (Instr × (Int32 × (Nat × Nat))))
def zOwn : List String := ["java/util/AbstractCollection", "java/util/AbstractList", "java/util/ArrayList", "java/util/Arrays", "java/util/Objects", "jdk/internal/util/ArraysSupport", "jdk/internal/util/Preconditions", "DoorstepRides", "DoorstepRides$Plan", "DoorstepRides$Request", "DoorstepRides$Rider", "DoorstepRides$Search", "DoorstepRides$Stop", "DoorstepRides$Vehicle", "DoorstepRidesLaw"]
def zon (m : Nat) : Nat := (([0, 1, 2, 2, 2, 2, 2, 2, 2, 2, 2, 2, 2, 2, 2, 2, 2, 3, 3, 4, 5, 6, 7, 0, 7, 7, 0, 0, 7, 0, 7, 7, 7, 7, 7, 7, 7, 7, 7, 7, 7, 7, 7, 7, 7, 7, 7, 7, 7, 7, 7, 7, 7, 7, 7, 7, 7, 7, 7, 7, 7, 7, 7, 7, 7, 7, 7, 7, 7, 7, 7, 7, 7, 8, 8, 8, 8, 8, 8, 9, 9, 9, 9, 9, 9, 9, 9, 10, 11, 11, 11, 11, 12, 12, 12, 12, 13, 13, 13, 13, 13, 13, 13, 13, 13, 13, 13, 13, 13, 13, 13, 13, 13, 13, 13, 13, 13, 13, 13, 13, 14, 14, 14, 14, 14, 14, 14, 0, 0, 0, 0, 0, 0, 0, 0, 0, 0, 0, 0, 0, 0, 0, 0, 0, 0, 0, 0, 0, 0, 0, 0, 0, 0, 0, 0, 0, 0, 0, 0, 0, 0, 0, 0, 0, 0, 0, 0, 0, 0, 0, 0, 0, 0, 0, 0, 0, 0, 0, 0, 0, 0, 0, 0, 0, 0, 0, 0, 0, 0, 0, 0, 0, 0, 0, 0, 0, 0, 0, 0, 0, 0, 0, 0, 0, 0, 0, 0, 0, 0, 0, 14] : List Nat)[m]?).getD 99
