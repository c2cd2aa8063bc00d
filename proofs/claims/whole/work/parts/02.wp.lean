/-! THE MACHINE IN OTHER WORDS. Values are Int (int, long) or a place of a cell; memory is three total maps; 'wp' says of a method at a pc, with locals L, stack S and state σ, that the machine comes from there to its return with Q. Each rule below is one instruction of the kit's. -/
theorem tc1 (x : Int32) : Int32.ofInt x.toInt = x := Int32.ofInt_toInt x
theorem tc2 (x : Int64) : Int64.ofInt x.toInt = x := Int64.ofInt_toInt x
theorem tc3 (x y : Int) : Int32.ofInt x + Int32.ofInt y = Int32.ofInt (x + y) := (Int32.ofInt_add x y).symm
theorem tc4 (x y : Int) : Int32.ofInt x - Int32.ofInt y = Int32.ofInt (x - y) := (Int32.ofInt_sub x y).symm
theorem tc5 (x y : Int) : Int32.ofInt x * Int32.ofInt y = Int32.ofInt (x * y) := (Int32.ofInt_mul x y).symm
theorem tc6 {x : Int} (h : -2147483648 ≤ x ∧ x < 2147483648) : (Int32.ofInt x).toInt = x := Int32.toInt_ofInt_of_le (by omega) (by omega)
theorem tc7 {x : Int} (h : -9223372036854775808 ≤ x ∧ x < 9223372036854775808) : (Int64.ofInt x).toInt = x := Int64.toInt_ofInt_of_le (by omega) (by omega)
theorem tc8 (x : Int32) : -2147483648 ≤ x.toInt ∧ x.toInt < 2147483648 := ⟨Int32.le_toInt x, Int32.toInt_lt x⟩
theorem tc9 (x : Int64) : -9223372036854775808 ≤ x.toInt ∧ x.toInt < 9223372036854775808 := ⟨Int64.le_toInt x, Int64.toInt_lt x⟩
theorem tc10 {x y : Int} (hx : -2147483648 ≤ x ∧ x < 2147483648) (hy : -2147483648 ≤ y ∧ y < 2147483648) : Int32.ofInt x < Int32.ofInt y ↔ x < y := by
  rw [Int32.lt_iff_toInt_lt, tc6 hx, tc6 hy]
theorem tc11 {x y : Int} (hx : -2147483648 ≤ x ∧ x < 2147483648) (hy : -2147483648 ≤ y ∧ y < 2147483648) : Int32.ofInt x ≤ Int32.ofInt y ↔ x ≤ y := by
  rw [Int32.le_iff_toInt_le, tc6 hx, tc6 hy]
theorem tc12 {x y : Int} (hx : -2147483648 ≤ x ∧ x < 2147483648) (hy : -2147483648 ≤ y ∧ y < 2147483648) : Int32.ofInt x = Int32.ofInt y ↔ x = y := by
  rw [← Int32.toInt_inj, tc6 hx, tc6 hy]
theorem tc13 {x : Int} (hx : -2147483648 ≤ x ∧ x < 2147483648) : (Int32.ofInt x).toNatClampNeg = x.toNat := by
  show (Int32.ofInt x).toInt.toNat = _
  rw [tc6 hx]
theorem tc14 (x : Int32) : x.toInt64.toInt = x.toInt := Int32.toInt_toInt64 x
abbrev AV : Type := Int ⊕ (Int ⊕ Nat)
abbrev vI (x : Int) : AV := .inl x
abbrev vL (x : Int) : AV := .inr (.inl x)
abbrev vR (r : Nat) : AV := .inr (.inr r)
abbrev Mm : Type := (Nat → Nat → Int) × (Nat → Nat → Int) × (Nat → Nat → Nat)
abbrev Kd : Type := List (Nat × Nat)
abbrev St : Type := Kd × Mm
abbrev Lc : Type := List (Option AV)
/-- a launch's constants: where the world begins, where the special cells are, the classes, the script -/
abbrev Cs : Type := Nat × (Nat → Nat) × va_G × (Nat → ClassId) × Nat × (Nat → Int) × Value
/-- a method: its name, bytes, locals, answer's type; frames and locals' words that it needs below it -/
abbrev Mth : Type := MethodName × ByteArray × Nat × Option FieldType × Nat × Nat
/-- the kinds of a class's fields: 0 int, 1 long, 2 reference -/
def ftabs : List (List Nat) := [[2, 2, 2, 2, 2, 2, 2, 2, 2, 0, 0, 0, 0, 0, 0, 0, 0, 0],
  [2, 0, 0, 0, 0, 0, 0],
  [2, 2, 2, 2, 2, 2, 0, 1, 1, 0],
  [2, 2, 2, 2, 2, 2, 2, 2, 2, 2, 2, 2, 2, 2, 0, 0, 0, 0, 0],
  [2, 2, 0, 0],
  [2, 2, 2, 2, 2, 2, 2, 0],
  [2, 2, 2, 2, 2, 2, 2, 2, 2, 0, 0],
  [2, 2, 2, 2, 2, 2, 2, 2, 2, 2, 2, 0, 0],
  [2, 0, 2, 2, 2, 0],
  [2, 2, 2, 2, 2, 2, 2, 2, 2, 2, 0],
  [2, 0, 0],
  [2, 2, 2, 2, 2, 2, 2, 2, 2, 2, 0, 0],
  [2, 0, 2, 0, 0, 0, 0, 0, 0, 0, 2, 2, 2, 2, 2, 2, 2, 2, 2, 2, 2, 2, 2, 2, 2, 2, 2, 2, 2, 2, 2, 2, 2, 2, 2, 2, 2, 2, 2, 2, 2, 2, 2, 2, 2, 2, 2, 2, 2, 2, 2, 0, 0, 0, 2, 2, 2, 2, 2, 0, 1, 1, 0, 2, 0, 0, 2, 2, 0, 2, 2, 2, 2, 2, 2, 2, 2, 2, 2, 2, 2, 2, 2, 2, 0, 0, 0, 0, 2, 2, 2, 2, 2, 2, 2, 0, 2, 2, 0, 0, 0, 2]]
def ftab (c : Nat) : List Nat := ftabs.getD c []
/-- 1000000 null, 1000001 a formatter that nobody asks, 1000002 the script, 1000003 + k the String k, 1000100 + k its bytes -/
def cr (cs : Cs) (r : Nat) : Value := if r < 1000000 then .ref (cs.1 + r) else if r = 1000000 then .null else if r = 1000001 then cs.2.2.2.2.2.2 else .ref (cs.2.1 r)
def cv (cs : Cs) : AV → Value
  | .inl x => .int (Int32.ofInt x)
  | .inr (.inl x) => .long (Int64.ofInt x)
  | .inr (.inr r) => cr cs r
def okV : AV → Prop
  | .inl x => -2147483648 ≤ x ∧ x < 2147483648
  | .inr (.inl x) => -9223372036854775808 ≤ x ∧ x < 9223372036854775808
  | .inr (.inr _) => True
def okM (M : Mm) : Prop := (∀ i k, -2147483648 ≤ M.1 i k ∧ M.1 i k < 2147483648) ∧ ∀ i k, -9223372036854775808 ≤ M.2.1 i k ∧ M.2.1 i k < 9223372036854775808
def okL (L : Lc) : Prop := ∀ (i : Nat) (v : AV), L[i]? = some (some v) → okV v
def okS (S : List AV) : Prop := ∀ v ∈ S, okV v
def fv (cs : Cs) (M : Mm) (i k t : Nat) : Value := match t with
  | 0 => .int (Int32.ofInt (M.1 i k))
  | 1 => .long (Int64.ofInt (M.2.1 i k))
  | _ => cr cs (M.2.2 i k)
def cE (cs : Cs) (M : Mm) (i : Nat) (q : Nat × Nat) : va_E := match q.1 with
  | 0 => .inl (cs.2.2.2.1 0, q.2, .inl (fun k => Int32.ofInt (M.1 i k)))
  | 1 => .inl (cs.2.2.2.1 1, q.2, .inl (fun k => Int32.ofInt (M.1 i k)))
  | 2 => .inl (cs.2.2.2.1 2, q.2, .inl (fun k => Int32.ofInt (M.1 i k)))
  | 3 => .inl (cs.2.2.2.1 3, q.2, .inr (.inl (fun k => Int64.ofInt (M.2.1 i k))))
  | c + 4 => .inr (c, (ftab c).mapIdx (fun k t => fv cs M i k t))
def cW (cs : Cs) (σ : St) : va_W := σ.1.mapIdx (fun i q => (cs.1 + i, cE cs σ.2 i q))
def tysC (cs : Cs) : List (ClassId × FieldType) := [(cs.2.2.2.1 0, .int), (cs.2.2.2.1 1, .byte), (cs.2.2.2.1 2, .boolean), (cs.2.2.2.1 3, .long)]
def slo (kd : Kd) : Nat := (kd.map (fun q => q.2)).sum
def aA (cs : Cs) : Nat → Prop := fun q => cs.1 ≤ q
def Pic (cs : Cs) (σ : St) (H : Heap) : Prop := va_P cs.2.2.1 vwCl (cW cs σ) H ∧ H.size = cs.1 + σ.1.length
/-- what is never written: the script, the String constants, two statics -/
def strT : List (String × Nat × String × Nat) := [("TreePress$Cursor", 81, "<!--", 0), ("TreePress$Cursor", 86, "--", 1), ("TreePress$Cursor", 88, ">", 2), ("TreePress$DeclarationReader", 48, "<!DOCTYPE", 3), ("TreePress$DeclarationReader", 81, "[", 4), ("TreePress$DeclarationReader", 92, "]", 5), ("TreePress$DeclarationReader", 97, "<!ELEMENT", 6), ("TreePress$DeclarationReader", 140, "EMPTY", 7), ("TreePress$DeclarationReader", 145, "ANY", 8), ("TreePress$DeclarationReader", 147, "(", 9), ("TreePress$DeclarationReader", 149, "#PCDATA", 10), ("TreePress$DeclarationReader", 157, "|", 11), ("TreePress$DeclarationReader", 162, ")", 12), ("TreePress$DeclarationReader", 164, "*", 13), ("TreePress$DeclarationReader", 195, "?", 14), ("TreePress$DeclarationReader", 197, "+", 15), ("TreePress$DeclarationReader", 109, ">", 2), ("TreePress$DeclarationReader", 103, "<!ATTLIST", 16), ("TreePress$DeclarationReader", 230, "CDATA", 17), ("TreePress$DeclarationReader", 232, "ID", 18), ("TreePress$DeclarationReader", 253, "#REQUIRED", 19), ("TreePress$DeclarationReader", 255, "#IMPLIED", 20), ("TreePress$DeclarationReader", 257, "#FIXED", 21), ("TreePress$Cursor", 96, "&lt;", 22), ("TreePress$Cursor", 98, "&gt;", 23), ("TreePress$Cursor", 100, "&amp;", 24), ("TreePress$Cursor", 102, "&quot;", 25), ("TreePress$Cursor", 104, "&apos;", 26), ("TreePress$TreeReader", 28, "<", 27), ("TreePress$TreeReader", 123, "=", 28), ("TreePress$TreeReader", 102, "/>", 29), ("TreePress$TreeReader", 104, ">", 2), ("TreePress$TreeReader", 43, "</", 30), ("TreePress$TreeReader", 51, "<!--", 0), ("TreePress$Path", 54, "//", 31), ("TreePress$Path", 60, "/", 32), ("TreePress$Path", 84, "..", 33), ("TreePress$Path", 86, ".", 34), ("TreePress$Path", 88, "text()", 35), ("TreePress$Path", 90, "@", 36), ("TreePress$Path", 92, "*", 13), ("TreePress$Path", 108, "[", 4), ("TreePress$Path", 121, "last()", 37), ("TreePress$Path", 123, ".=", 38), ("TreePress$Path", 136, "\"", 39), ("TreePress$Path", 138, "'", 40), ("TreePress$Path", 128, "=", 28), ("TreePress$Path", 113, "]", 5)]
def strB : List (List Int) := [[60, 33, 45, 45], [45, 45], [62], [60, 33, 68, 79, 67, 84, 89, 80, 69], [91], [93], [60, 33, 69, 76, 69, 77, 69, 78, 84], [69, 77, 80, 84, 89], [65, 78, 89], [40], [35, 80, 67, 68, 65, 84, 65], [124], [41], [42], [63], [43], [60, 33, 65, 84, 84, 76, 73, 83, 84], [67, 68, 65, 84, 65], [73, 68], [35, 82, 69, 81, 85, 73, 82, 69, 68], [35, 73, 77, 80, 76, 73, 69, 68], [35, 70, 73, 88, 69, 68], [38, 108, 116, 59], [38, 103, 116, 59], [38, 97, 109, 112, 59], [38, 113, 117, 111, 116, 59], [38, 97, 112, 111, 115, 59], [60], [61], [47, 62], [60, 47], [47, 47], [47], [46, 46], [46], [116, 101, 120, 116, 40, 41], [64], [108, 97, 115, 116, 40, 41], [46, 61], [34], [39]]
def nestT : List (String × Nat × MethodName × String) := [("TreePress", 15, ⟨"TreePress$Cursor", "<init>", "()V"⟩, "TreePress"), ("TreePress", 38, ⟨"TreePress$Judge", "<init>", "()V"⟩, "TreePress"), ("TreePress", 52, ⟨"TreePress$Selector", "<init>", "()V"⟩, "TreePress"), ("TreePress", 59, ⟨"TreePress$Composer", "<init>", "()V"⟩, "TreePress"), ("TreePress", 66, ⟨"TreePress$Doc", "<init>", "()V"⟩, "TreePress"), ("TreePress$Doc", 20, ⟨"TreePress$Specs", "<init>", "()V"⟩, "TreePress"), ("TreePress$Doc", 27, ⟨"TreePress$Rules", "<init>", "()V"⟩, "TreePress")]
def Fz (cs : Cs) (s : State) (H : Heap) : Prop :=
  (va_X (cs.2.1 1000002) cs.2.2.2.2.1 (fun k => Int32.ofInt (cs.2.2.2.2.2.1 k)) s H ∧ ¬ aA cs (cs.2.1 1000002) ∧ cs.1 ≤ H.size) ∧
  (∀ k : Nat, k < strB.length → va_O "java/lang/String" (cs.2.1 (1000003 + k)) (aA cs) s H ∧ va_OF "java/lang/String" "coder" "B" (.int 0) (cs.2.1 (1000003 + k)) (aA cs) s H ∧
    va_OF "java/lang/String" "value" "[B" (.ref (cs.2.1 (1000100 + k))) (cs.2.1 (1000003 + k)) (aA cs) s H ∧ va_T .byte (cs.2.1 (1000100 + k)) (strB.getD k []).length (fun j => .int (Int32.ofInt ((strB.getD k []).getD j 0))) (aA cs) s H) ∧
  ((∀ q ∈ strT, vk_R q.1 q.2.1 q.2.2.1 (cs.2.1 (1000003 + q.2.2.2)) s) ∧ ∀ q ∈ nestT, va_Nw (.methodLinkNest q.1 q.2.1 q.2.2.1 q.2.2.2) s) ∧
  va_Z "java/lang/String" "COMPACT_STRINGS" "Z" (.int 1) (aA cs) s H ∧ va_Z "jdk/internal/util/Preconditions" "SIOOBE_FORMATTER" "Ljava/util/function/BiFunction;" cs.2.2.2.2.2.2 (aA cs) s H ∧ (cs.2.2.2.2.2.2 = .null ∨ ∃ t, cs.2.2.2.2.2.2 = .ref t)
def gw : List Cond := lw_tbl.filter goodWord
def Lok (cs : Cs) (ls : Array Slot) (nL : Nat) (L : Lc) : Prop := ls.size = nL ∧ lv_wf ls ∧ ∀ (i : Nat) (v : AV), L[i]? = some (some v) → ls[i]? = some (.val (cv cs v))
def Cx (cs : Cs) (mt : Mth) (p : Program) (R : Room) (s : State) (m : MethodId) (args : Array Value) (meth : Method) (c : Code) : Prop :=
  p.tables.exec = Jvm.exec ∧ c.code = mt.2.1 ∧ c.maxLocals = mt.2.2.1 ∧ meth.sig.returnType = mt.2.2.2.1 ∧ s.vm.findClass mt.1.cls = some m.cls ∧ meth.locks = false ∧ meth.name = mt.1.name ∧
  (∀ w ∈ gw, w.before args s = true) ∧ va_K cs.2.2.1 vwCl (tysC cs) s ∧ mt.2.2.2.2.1 ≤ R.frames ∧ mt.2.2.2.2.2 ≤ R.locals ∧ Fz cs s s.heap
def Qm (cs : Cs) (kf : Kd) (Q : Option AV → Mm → Prop) : Array Value → State → Outcome → State → Prop := fun _ st oc t =>
  (∃ (r : Option AV) (M : Mm), oc = .returned (r.map (cv cs)) ∧ Q r M ∧ okM M ∧ (∀ v, r = some v → okV v) ∧ Pic cs (kf, M) t.heap) ∧ va_F (aA cs) st t
def Rk (cs : Cs) (R : Room) (s : State) (kf k0 kd : Kd) : Prop := R.cells + k0.length = kf.length ∧ R.slots + slo k0 = slo kf ∧ s.heap.size = cs.1 + k0.length ∧ k0.length ≤ kd.length ∧ slo k0 ≤ slo kd
def wp (cs : Cs) (mt : Mth) (kf : Kd) (Q : Option AV → Mm → Prop) (pc : Nat) (L : Lc) (S : List AV) (σ : St) : Prop :=
  ∀ (p : Program) (l : Launch) (e : Env) (R : Room) (s : State) (m : MethodId) (args : Array Value) (below : List Frame) (meth : Method) (c : Code) (H : Heap) (locs : List Loc) (ls : Array Slot) (k0 : Kd),
    Cx cs mt p R s m args meth c → Rk cs R s kf k0 σ.1 → okM σ.2 → okL L → okS S → Pic cs σ H → va_S (aA cs) s.heap H locs → Lok cs ls mt.2.2.1 L →
    W p l e R s m args below meth c H locs (σ.1.length - k0.length) (slo σ.1 - slo k0) (MQ below (Qm cs kf Q) args s (kf.length - k0.length) (slo kf - slo k0) (aA cs)) (F0 m pc ls (S.map (cv cs)))
