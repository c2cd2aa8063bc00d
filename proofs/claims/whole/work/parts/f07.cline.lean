/-! The class's line, at. -/
/-- the TEXT that has the byte at p -/
def txP (ns : List Nd) (p k : Nat) : Bool := decide ((ndA ns k).1 = 3 ∧ tl ns k ≤ p ∧ p < tl ns (k + 1))
def txN (ns : List Nd) (p : Nat) : Int := match (List.range ns.length).find? (txP ns p) with
  | none => -1
  | some k => (k : Int)
def lnA (L : List Ln) (i : Int) : Ln := L.getD i.toNat ([], 0)
def pgA (pg : List (Nat × Nat)) (i : Int) : Nat × Nat := pg.getD i.toNat (0, 0)
def linS (ns : List Nd) (L : List Ln) (pg : List (Nat × Nat)) (i w : Int) : Int := if 0 ≤ i ∧ i < (L.length : Nat) then (if w = 0 then ((pgA pg i).1 : Nat) else if w = 1 then ((lnA L i).1.length : Nat) else if w = 2 then ((pgA pg i).2 : Nat) else if w = 3 then txN ns (lnA L i).2 else -9) else -9
def lbS (L : List Ln) (i k : Int) : Int := if 0 ≤ i ∧ i < (L.length : Nat) then byS (lnA L i).1 k else -1
theorem flat_at : ∀ (L : List Ln) (i j : Nat) (x : Ln), L[i]? = some x → j < x.1.length → ((L.map fun x => x.1).flatten)[sumL (L.take i) + j]? = x.1[j]?
  | [], i, j, x, h, _ => by simp at h
  | y :: t, 0, j, x, h, hj => by
    simp only [List.getElem?_cons_zero, Option.some.injEq] at h
    subst h
    have e0 : sumL ((y :: t).take 0) = 0 := rfl
    rw [e0, Nat.zero_add, List.map_cons, List.flatten_cons, List.getElem?_append_left hj]
  | y :: t, i + 1, j, x, h, hj => by
    rw [List.getElem?_cons_succ] at h
    have ih := flat_at t i j x h hj
    have e1 : sumL ((y :: t).take (i + 1)) = y.1.length + sumL (t.take i) := by unfold sumL; simp
    rw [e1, List.map_cons, List.flatten_cons, List.getElem?_append_right (by omega), ← ih]
    congr 1; omega
theorem sumL_at : ∀ (L : List Ln) (i : Nat) (x : Ln), L[i]? = some x → sumL (L.take i) + x.1.length ≤ sumL L
  | [], i, x, h => by simp at h
  | y :: t, 0, x, h => by
    simp only [List.getElem?_cons_zero, Option.some.injEq] at h
    subst h
    unfold sumL; simp
  | y :: t, i + 1, x, h => by
    rw [List.getElem?_cons_succ] at h
    have ih := sumL_at t i x h
    unfold sumL at *
    simp only [List.take_succ_cons, List.map_cons, List.sum_cons]
    omega
section Pf07
variable {cs : Cs} {Q : Option AV → Mm → Prop} {MI ML OI : Nat → Nat → Int} {b d e nw th x pl : Nat} {TD : Nat → Int} {nD : Int} {N : List By} {D : Dt} {ns : List Nd} {dp : Int} {L : List Ln} {pg : List (Nat × Nat)}
theorem c_textAt {p : Nat} (hbd : b = 38 ∨ b = 81) (hW : ns ≠ [] → WfN ns) (hD : DocC b TD nD N pl D ns [] dp MI ML) (hQ : Q (some (vI (txN ns p))) (MI, ML, GR d e nw th x)) :
    wp cs mX3_textAt KD Q 0 (padL [vR b, vI (p : Nat)] 3) [] (KD, MI, ML, GR d e nw th x) := by
  have h600 := hD.2.2.2.2.1.2.1
  have loop : ∀ (m k : Nat), k + m = ns.length → (List.range ns.length).find? (txP ns p) = (List.range' k (ns.length - k)).find? (txP ns p) → wp cs mX3_textAt KD Q 2 [some (vR b), some (vI (p : Nat)), some (vI (k : Nat))] [] (KD, MI, ML, GR d e nw th x) := by
    intro m
    induction m with
    | zero =>
      intro k hk heq
      refine v_X3_textAt_2 hbd ?_
      rw [hD.2.2.2.2.1.1]
      refine ⟨fun z => by omega, fun _ => ?_⟩
      rw [show ns.length - k = 0 by omega] at heq
      unfold txN at hQ
      rw [heq] at hQ
      exact hQ
    | succ m ih =>
      intro k hk heq
      obtain ⟨y, hy⟩ : ∃ y, ns[k]? = some y := ⟨_, List.getElem?_eq_getElem (by omega)⟩
      have hWf := hW (fun z => by rw [z] at hy; simp at hy)
      have hA := hD.2.2.2.2.1.2.2.2 k y hy
      have ek : ((k : Nat) : Int) + 1 = ((k + 1 : Nat) : Int) := by omega
      rw [rg_cons (by omega), List.find?_cons] at heq
      have no : txP ns p k = false → wp cs mX3_textAt KD Q 2 [some (vR b), some (vI (p : Nat)), some (vI ((k + 1 : Nat) : Int))] [] (KD, MI, ML, GR d e nw th x) := fun hz => by
        rw [hz] at heq
        exact ih (k + 1) (by omega) heq
      have hP : txP ns p k = decide (y.1 = 3 ∧ tl ns k ≤ p ∧ p < tl ns (k + 1)) := by unfold txP; rw [ndA_at hy]
      refine v_X3_textAt_2 hbd ?_
      simp only [Int.toNat_natCast]
      rw [hD.2.2.2.2.1.1, hA.1, ek]
      refine ⟨fun _ => ⟨by omega, fun h3 => ?_, fun h3 => ⟨by omega, no (by rw [hP]; exact decide_eq_false (fun z => h3 z.1))⟩⟩, fun z => by omega⟩
      have h39 := hA.2.2.2.2.2.2.2.1 (by omega)
      have h40 := (hA.2.2.2.2.2.2.2.2.2 (by omega) (by simp)).2
      rw [eS_text hWf hy (by omega) (by omega)] at h40
      rw [h39, h40]
      refine ⟨fun z => ⟨by omega, no (by rw [hP]; exact decide_eq_false (by omega))⟩, fun z1 => ⟨fun z2 => ?_, fun z2 => ⟨by omega, no (by rw [hP]; exact decide_eq_false (by omega))⟩⟩⟩
      have hyes : txP ns p k = true := by rw [hP]; exact decide_eq_true (by omega)
      rw [hyes] at heq
      unfold txN at hQ
      rw [heq] at hQ
      exact hQ
  exact v_X3_textAt_0 (loop ns.length 0 (by omega) (by rw [rg_0]))
theorem c_line {i w : Int} (hbd : b = 38 ∨ b = 81) (hW : ns ≠ [] → WfN ns) (hD : DocC b TD nD N pl D ns [] dp MI ML) (hL : LinC L pg MI) (hQ : Q (some (vI (linS ns L pg i w))) (MI, ML, GR b e nw th x)) :
    wp cs mX11_line KD Q 0 (padL [vR 0, vI i, vI w] 3) [] (KD, MI, ML, GR b e nw th x) := by
  obtain ⟨l1, l2, l3, l4, l5, l6, l7⟩ := hL
  unfold linS at hQ
  refine v_X11_line_0 hbd ?_
  rw [l1]
  refine ⟨fun h0 => ?_, fun h0 => ⟨fun hlt => ?_, fun hge => ?_⟩⟩
  · rw [if_neg (by omega)] at hQ; exact hQ
  · rw [if_pos ⟨h0, hlt⟩] at hQ
    obtain ⟨j, rfl⟩ : ∃ j : Nat, i = (j : Int) := ⟨i.toNat, by omega⟩
    obtain ⟨y, hy⟩ : ∃ y, L[j]? = some y := ⟨_, List.getElem?_eq_getElem (by omega)⟩
    obtain ⟨q, hq⟩ : ∃ q, pg[j]? = some q := ⟨_, List.getElem?_eq_getElem (by omega)⟩
    have ey : lnA L (j : Int) = y := by unfold lnA; rw [Int.toNat_natCast, List.getD_eq_getElem?_getD, hy]; rfl
    have eq : pgA pg (j : Int) = q := by unfold pgA; rw [Int.toNat_natCast, List.getD_eq_getElem?_getD, hq]; rfl
    rw [ey, eq] at hQ
    obtain ⟨a1, a2, a3⟩ := l5 j y hy
    obtain ⟨b1, b2⟩ := l7.1 j q hq
    simp only [Int.toNat_natCast]
    rw [a2, a3, b1, b2]
    refine ⟨fun z => ⟨by omega, ?_⟩, fun z => ⟨by omega, ?_⟩, fun z => ⟨by omega, ?_⟩, fun z => ⟨by omega, ?_⟩, fun z => ?_⟩
    · rw [if_pos z] at hQ; exact hQ
    · rw [if_neg (by omega), if_pos z] at hQ; exact hQ
    · rw [if_neg (by omega), if_neg (by omega), if_pos z] at hQ; exact hQ
    · rw [if_neg (by omega), if_neg (by omega), if_neg (by omega), if_pos z] at hQ
      exact c_textAt hbd hW hD (rI_mk hQ)
    · rw [if_neg (by omega), if_neg (by omega), if_neg (by omega), if_neg (by omega)] at hQ; exact hQ
  · rw [if_neg (by omega)] at hQ; exact hQ
theorem c_at {i k : Int} (hbd : b = 38 ∨ b = 81) (hL : LinC L pg MI) (hQ : Q (some (vI (lbS L i k))) (MI, ML, GR b e nw th x)) :
    wp cs mX11_at KD Q 0 (padL [vR 0, vI i, vI k] 3) [] (KD, MI, ML, GR b e nw th x) := by
  obtain ⟨l1, l2, l3, l4, l5, l6, l7⟩ := hL
  unfold lbS at hQ
  refine v_X11_at_0 hbd ?_
  rw [l1]
  refine ⟨fun h0 => ?_, fun h0 => ⟨fun hlt => ?_, fun hge => ?_⟩⟩
  · rw [if_neg (by omega)] at hQ; exact hQ
  · rw [if_pos ⟨h0, hlt⟩] at hQ
    obtain ⟨j, rfl⟩ : ∃ j : Nat, i = (j : Int) := ⟨i.toNat, by omega⟩
    obtain ⟨y, hy⟩ : ∃ y, L[j]? = some y := ⟨_, List.getElem?_eq_getElem (by omega)⟩
    have ey : lnA L (j : Int) = y := by unfold lnA; rw [Int.toNat_natCast, List.getD_eq_getElem?_getD, hy]; rfl
    rw [ey] at hQ
    unfold byS at hQ
    obtain ⟨a1, a2, a3⟩ := l5 j y hy
    have hsum := sumL_at L j y hy
    refine v_X0_byteOf_0 ?_
    simp only [Int.toNat_natCast]
    rw [a1, a2]
    refine ⟨fun z => rI_mk ?_, fun z => ⟨by omega, fun z2 => ⟨by omega, by omega, rI_mk ?_⟩, fun z2 => rI_mk ?_⟩⟩
    · rw [if_neg (by omega)] at hQ; exact hQ
    · rw [if_pos ⟨z, z2⟩] at hQ
      have hfl := flat_at L j k.toNat y hy (by omega)
      have hk : k.toNat < y.1.length := by omega
      rw [List.getElem?_eq_getElem hk] at hfl
      have := l6 _ _ hfl
      rw [show (((sumL (L.take j) : Nat) : Int) + k).toNat = sumL (L.take j) + k.toNat by omega, this]
      rw [List.getD_eq_getElem?_getD, List.getElem?_eq_getElem hk] at hQ
      exact hQ
    · rw [if_neg (by omega)] at hQ; exact hQ
  · rw [if_neg (by omega)] at hQ; exact hQ
end Pf07
