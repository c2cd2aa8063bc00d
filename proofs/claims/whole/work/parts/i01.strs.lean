/-! The String constants, as the Statement has them at the start. -/
def NF : List Cond := flatC (Jvm.Cond.and given_1 narrow_1)
def repT : List (String × Nat) := [("TreePress$Cursor", 81), ("TreePress$Cursor", 86), ("TreePress$Cursor", 88), ("TreePress$DeclarationReader", 48), ("TreePress$DeclarationReader", 81), ("TreePress$DeclarationReader", 92), ("TreePress$DeclarationReader", 97), ("TreePress$DeclarationReader", 140), ("TreePress$DeclarationReader", 145), ("TreePress$DeclarationReader", 147), ("TreePress$DeclarationReader", 149), ("TreePress$DeclarationReader", 157), ("TreePress$DeclarationReader", 162), ("TreePress$DeclarationReader", 164), ("TreePress$DeclarationReader", 195), ("TreePress$DeclarationReader", 197), ("TreePress$DeclarationReader", 103), ("TreePress$DeclarationReader", 230), ("TreePress$DeclarationReader", 232), ("TreePress$DeclarationReader", 253), ("TreePress$DeclarationReader", 255), ("TreePress$DeclarationReader", 257), ("TreePress$Cursor", 96), ("TreePress$Cursor", 98), ("TreePress$Cursor", 100), ("TreePress$Cursor", 102), ("TreePress$Cursor", 104), ("TreePress$TreeReader", 28), ("TreePress$TreeReader", 123), ("TreePress$TreeReader", 102), ("TreePress$TreeReader", 43), ("TreePress$Path", 54), ("TreePress$Path", 60), ("TreePress$Path", 84), ("TreePress$Path", 86), ("TreePress$Path", 88), ("TreePress$Path", 90), ("TreePress$Path", 121), ("TreePress$Path", 123), ("TreePress$Path", 136), ("TreePress$Path", 138)]
def posT : List Nat := [9, 17, 23, 28, 41, 46, 51, 64, 73, 80, 85, 96, 101, 106, 111, 116, 127, 140, 149, 155, 168, 180, 190, 198, 206, 215, 225, 235, 240, 245, 258, 273, 279, 284, 290, 295, 305, 322, 332, 338, 343]
def tmS (k : Nat) : Term := Term.string (repT.getD k ("", 0)).1 (repT.getD k ("", 0)).2
def tmV (k : Nat) : Term := .field (tmS k) "java/lang/String" "value" "[B"
def wdS (k : Nat) : List Cond := [.exactly (tmS k) "java/lang/String", .eq (.field (tmS k) "java/lang/String" "coder" "B") (.int 0), .arrayOf (tmV k) .byte, .eq (.length (tmV k)) (.int (Int32.ofNat (strB.getD k []).length))] ++ (List.range (strB.getD k []).length).map (fun j => Cond.eq (.elem (tmV k) (.int (Int32.ofNat j))) (.int (Int32.ofInt ((strB.getD k []).getD j 0))))
set_option maxRecDepth 100000 in
theorem wd_ok : ∀ k, k < 41 → (NF.drop (posT.getD k 0)).take (wdS k).length = wdS k := by decide +kernel
theorem wd_in {k : Nat} (hk : k < 41) : ∀ w ∈ wdS k, w ∈ NF := fun w hw => by
  rw [← wd_ok k hk] at hw
  exact List.mem_of_mem_drop (List.mem_of_mem_take hw)
theorem sr_ok : ∀ q ∈ strT, Cond.stringRef q.1 q.2.1 q.2.2.1 ∈ lw_tbl := by
  unfold strT
  refine List.forall_mem_cons.mpr ⟨tb3 (List.mem_of_getElem? (i := 181) rfl), ?_⟩
  refine List.forall_mem_cons.mpr ⟨tb3 (List.mem_of_getElem? (i := 238) rfl), ?_⟩
  refine List.forall_mem_cons.mpr ⟨tb3 (List.mem_of_getElem? (i := 239) rfl), ?_⟩
  refine List.forall_mem_cons.mpr ⟨tb4 (List.mem_of_getElem? (i := 15) rfl), ?_⟩
  refine List.forall_mem_cons.mpr ⟨tb4 (List.mem_of_getElem? (i := 51) rfl), ?_⟩
  refine List.forall_mem_cons.mpr ⟨tb4 (List.mem_of_getElem? (i := 54) rfl), ?_⟩
  refine List.forall_mem_cons.mpr ⟨tb4 (List.mem_of_getElem? (i := 55) rfl), ?_⟩
  refine List.forall_mem_cons.mpr ⟨tb4 (List.mem_of_getElem? (i := 69) rfl), ?_⟩
  refine List.forall_mem_cons.mpr ⟨tb4 (List.mem_of_getElem? (i := 70) rfl), ?_⟩
  refine List.forall_mem_cons.mpr ⟨tb4 (List.mem_of_getElem? (i := 71) rfl), ?_⟩
  refine List.forall_mem_cons.mpr ⟨tb4 (List.mem_of_getElem? (i := 72) rfl), ?_⟩
  refine List.forall_mem_cons.mpr ⟨tb4 (List.mem_of_getElem? (i := 77) rfl), ?_⟩
  refine List.forall_mem_cons.mpr ⟨tb4 (List.mem_of_getElem? (i := 91) rfl), ?_⟩
  refine List.forall_mem_cons.mpr ⟨tb4 (List.mem_of_getElem? (i := 92) rfl), ?_⟩
  refine List.forall_mem_cons.mpr ⟨tb4 (List.mem_of_getElem? (i := 114) rfl), ?_⟩
  refine List.forall_mem_cons.mpr ⟨tb4 (List.mem_of_getElem? (i := 115) rfl), ?_⟩
  refine List.forall_mem_cons.mpr ⟨tb4 (List.mem_of_getElem? (i := 124) rfl), ?_⟩
  refine List.forall_mem_cons.mpr ⟨tb4 (List.mem_of_getElem? (i := 125) rfl), ?_⟩
  refine List.forall_mem_cons.mpr ⟨tb4 (List.mem_of_getElem? (i := 156) rfl), ?_⟩
  refine List.forall_mem_cons.mpr ⟨tb4 (List.mem_of_getElem? (i := 157) rfl), ?_⟩
  refine List.forall_mem_cons.mpr ⟨tb4 (List.mem_of_getElem? (i := 171) rfl), ?_⟩
  refine List.forall_mem_cons.mpr ⟨tb4 (List.mem_of_getElem? (i := 172) rfl), ?_⟩
  refine List.forall_mem_cons.mpr ⟨tb4 (List.mem_of_getElem? (i := 173) rfl), ?_⟩
  refine List.forall_mem_cons.mpr ⟨tb4 (List.mem_of_getElem? (i := 182) rfl), ?_⟩
  refine List.forall_mem_cons.mpr ⟨tb4 (List.mem_of_getElem? (i := 183) rfl), ?_⟩
  refine List.forall_mem_cons.mpr ⟨tb4 (List.mem_of_getElem? (i := 184) rfl), ?_⟩
  refine List.forall_mem_cons.mpr ⟨tb4 (List.mem_of_getElem? (i := 185) rfl), ?_⟩
  refine List.forall_mem_cons.mpr ⟨tb4 (List.mem_of_getElem? (i := 186) rfl), ?_⟩
  refine List.forall_mem_cons.mpr ⟨tb4 (List.mem_of_getElem? (i := 218) rfl), ?_⟩
  refine List.forall_mem_cons.mpr ⟨tb5 (List.mem_of_getElem? (i := 2) rfl), ?_⟩
  refine List.forall_mem_cons.mpr ⟨tb5 (List.mem_of_getElem? (i := 4) rfl), ?_⟩
  refine List.forall_mem_cons.mpr ⟨tb5 (List.mem_of_getElem? (i := 6) rfl), ?_⟩
  refine List.forall_mem_cons.mpr ⟨tb5 (List.mem_of_getElem? (i := 24) rfl), ?_⟩
  refine List.forall_mem_cons.mpr ⟨tb5 (List.mem_of_getElem? (i := 30) rfl), ?_⟩
  refine List.forall_mem_cons.mpr ⟨tb5 (List.mem_of_getElem? (i := 215) rfl), ?_⟩
  refine List.forall_mem_cons.mpr ⟨tb5 (List.mem_of_getElem? (i := 217) rfl), ?_⟩
  refine List.forall_mem_cons.mpr ⟨tb5 (List.mem_of_getElem? (i := 225) rfl), ?_⟩
  refine List.forall_mem_cons.mpr ⟨tb5 (List.mem_of_getElem? (i := 226) rfl), ?_⟩
  refine List.forall_mem_cons.mpr ⟨tb5 (List.mem_of_getElem? (i := 228) rfl), ?_⟩
  refine List.forall_mem_cons.mpr ⟨tb5 (List.mem_of_getElem? (i := 229) rfl), ?_⟩
  refine List.forall_mem_cons.mpr ⟨tb5 (List.mem_of_getElem? (i := 230) rfl), ?_⟩
  refine List.forall_mem_cons.mpr ⟨tb5 (List.mem_of_getElem? (i := 237) rfl), ?_⟩
  refine List.forall_mem_cons.mpr ⟨tb6 (List.mem_of_getElem? (i := 7) rfl), ?_⟩
  refine List.forall_mem_cons.mpr ⟨tb6 (List.mem_of_getElem? (i := 8) rfl), ?_⟩
  refine List.forall_mem_cons.mpr ⟨tb6 (List.mem_of_getElem? (i := 14) rfl), ?_⟩
  refine List.forall_mem_cons.mpr ⟨tb6 (List.mem_of_getElem? (i := 15) rfl), ?_⟩
  refine List.forall_mem_cons.mpr ⟨tb6 (List.mem_of_getElem? (i := 16) rfl), ?_⟩
  refine List.forall_mem_cons.mpr ⟨tb6 (List.mem_of_getElem? (i := 17) rfl), ?_⟩
  exact fun _ h => absurd h List.not_mem_nil
theorem ns_ok : ∀ q ∈ nestT, Cond.methodLinkNest q.1 q.2.1 q.2.2.1 q.2.2.2 ∈ lw_tbl := by
  unfold nestT
  refine List.forall_mem_cons.mpr ⟨tb1 (List.mem_of_getElem? (i := 31) rfl), ?_⟩
  refine List.forall_mem_cons.mpr ⟨tb1 (List.mem_of_getElem? (i := 130) rfl), ?_⟩
  refine List.forall_mem_cons.mpr ⟨tb1 (List.mem_of_getElem? (i := 200) rfl), ?_⟩
  refine List.forall_mem_cons.mpr ⟨tb1 (List.mem_of_getElem? (i := 227) rfl), ?_⟩
  refine List.forall_mem_cons.mpr ⟨tb2 (List.mem_of_getElem? (i := 54) rfl), ?_⟩
  refine List.forall_mem_cons.mpr ⟨tb2 (List.mem_of_getElem? (i := 97) rfl), ?_⟩
  refine List.forall_mem_cons.mpr ⟨tb2 (List.mem_of_getElem? (i := 152) rfl), ?_⟩
  exact fun _ h => absurd h List.not_mem_nil
def eqW (q : String × Nat × String × Nat) : Bool := decide ((q.1, q.2.1) = repT.getD q.2.2.2 ("", 0)) || NF.contains (Cond.eq (tmS q.2.2.2) (Term.string q.1 q.2.1))
set_option maxRecDepth 100000 in
theorem eq_ok : (strT.all fun q => decide (q.2.2.2 < 41) && eqW q) = true := by decide +kernel
theorem ls_compact : Cond.laysStatic "java/lang/String" "COMPACT_STRINGS" "Z" ∈ lw_tbl := tb3 (List.mem_of_getElem? (i := 195) rfl)
theorem ls_form : Cond.laysStatic "jdk/internal/util/Preconditions" "SIOOBE_FORMATTER" "Ljava/util/function/BiFunction;" ∈ lw_tbl := tb3 (List.mem_of_getElem? (i := 211) rfl)
theorem in_str : Cond.initialized "java/lang/String" ∈ lw_tbl := tb1 (List.mem_of_getElem? (i := 17) rfl)
theorem in_pre : Cond.initialized "jdk/internal/util/Preconditions" ∈ lw_tbl := tb1 (List.mem_of_getElem? (i := 19) rfl)
theorem nf_compact : (Cond.eq (.static "java/lang/String" "COMPACT_STRINGS" "Z") (.int 1)) ∈ NF := List.mem_of_getElem? (i := 4) (by decide +kernel)
theorem nf_form : (Cond.isRef (.static "jdk/internal/util/Preconditions" "SIOOBE_FORMATTER" "Ljava/util/function/BiFunction;")) ∈ NF := List.mem_of_getElem? (i := 5) (by decide +kernel)
theorem eq_ref {args : Array Value} {s : State} {t u : Term} {a : Nat} (h : (Cond.eq t u).before args s = true) (ht : t.eval args s none [] s = some (.ref a)) : u.eval args s none [] s = some (.ref a) := by
  cases hv : u.eval args s none [] s with
  | none => simp [Cond.before, Cond.holds, Cond.value, ht, hv] at h
  | some w =>
    simp only [Cond.before, Cond.holds, Cond.value, ht, hv] at h
    cases w <;> simp_all
theorem strs_of {args : Array Value} {s : State} {A : Nat → Prop} (hf : ∀ w ∈ NF, w.before args s = true) (hA : ∀ a : Nat, a < s.heap.size → ¬ A a) : ∃ adK adV : Nat → Nat, ∀ k : Nat, k < 41 → (tmS k).eval args s none [] s = some (.ref (adK k)) ∧ va_O "java/lang/String" (adK k) A s s.heap ∧ va_OF "java/lang/String" "coder" "B" (.int 0) (adK k) A s s.heap ∧ va_OF "java/lang/String" "value" "[B" (.ref (adV k)) (adK k) A s s.heap ∧ va_T .byte (adV k) (strB.getD k []).length (fun j => .int (Int32.ofInt ((strB.getD k []).getD j 0))) A s s.heap := by
  have h0 : ∀ k : Nat, ∃ q : Nat × Nat, k < 41 → (tmS k).eval args s none [] s = some (.ref q.1) ∧ va_O "java/lang/String" q.1 A s s.heap ∧ va_OF "java/lang/String" "coder" "B" (.int 0) q.1 A s s.heap ∧ va_OF "java/lang/String" "value" "[B" (.ref q.2) q.1 A s s.heap ∧ va_T .byte q.2 (strB.getD k []).length (fun j => .int (Int32.ofInt ((strB.getD k []).getD j 0))) A s s.heap := by
    intro k
    by_cases hk : k < 41
    · have hw : ∀ w ∈ wdS k, w.before args s = true := fun w hw => hf w (wd_in hk w hw)
      have hl : (strB.getD k []).length < 2 ^ 31 := by
        have : ∀ k, k < 41 → (strB.getD k []).length < 2 ^ 31 := by decide +kernel
        exact this k hk
      have e1 := hw (.exactly (tmS k) "java/lang/String") (List.mem_append_left _ List.mem_cons_self)
      have e2 := hw (.eq (.field (tmS k) "java/lang/String" "coder" "B") (.int 0)) (List.mem_append_left _ (List.mem_cons_of_mem _ List.mem_cons_self))
      have e3 := hw (.arrayOf (tmV k) .byte) (List.mem_append_left _ (List.mem_cons_of_mem _ (List.mem_cons_of_mem _ List.mem_cons_self)))
      have e4 := hw (.eq (.length (tmV k)) (.int (Int32.ofNat (strB.getD k []).length))) (List.mem_append_left _ (List.mem_cons_of_mem _ (List.mem_cons_of_mem _ (List.mem_cons_of_mem _ List.mem_cons_self))))
      have e5 : ∀ j : Nat, j < (strB.getD k []).length → (Cond.eq (.elem (tmV k) (.int (Int32.ofNat j))) (.int (Int32.ofInt ((strB.getD k []).getD j 0)))).before args s = true := fun j hj =>
        hw _ (List.mem_append_right _ (List.mem_map.mpr ⟨j, List.mem_range.mpr hj, rfl⟩))
      obtain ⟨a, c, cA, kA, q1, q2, q3, q4, q5, q6, -⟩ := Cond.exactly_spec (args := args) (first := s) (o := none) (s := s) (idx := []) (t := tmS k) (cls := "java/lang/String") e1
      obtain ⟨t, ht, hT⟩ := va_Tof (f := fun j => .int (Int32.ofInt ((strB.getD k []).getD j 0))) (A := A) hl e3 (va_eqt e4) (fun j hj => va_eqt (e5 j hj)) hA
      exact ⟨(a, t), fun _ => ⟨q1, ⟨cA, q3, q5, by rw [q6]; exact q2, hA a (Array.getElem?_eq_some_iff.mp q3).1⟩, vk_OFof q1 (va_eqt e2) hA, vk_OFof q1 ht hA, hT⟩⟩
    · exact ⟨(0, 0), fun h => absurd h hk⟩
  exact ⟨fun k => (Classical.choose (h0 k)).1, fun k => (Classical.choose (h0 k)).2, fun k hk => Classical.choose_spec (h0 k) hk⟩
