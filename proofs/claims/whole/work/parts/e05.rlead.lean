/-! The reference's selection: isCalled, hasString, leads, passesFilter. -/
theorem byte_of {x : Int} (hx : -128 ≤ x ∧ x < 128) (h : 0 ≤ i_and x 255 ∧ i_and x 255 < 128) : x = i_and x 255 := by
  have e1 : ob (fun _ => x) 1 0 = i_and x 255 := ob_in (by omega)
  have := ob_byte (T := fun _ => x) (n := 1) (h := 0) (fun _ => hx) (by omega) (by rw [e1]; exact h)
  rw [e1] at this
  exact this
theorem byte_eq {x c : Int} (hx : -128 ≤ x ∧ x < 128) (hc : 0 ≤ c ∧ c < 128) : i_and x 255 = c ↔ x = c := by
  constructor
  · intro h
    rw [byte_of hx (by rw [h]; exact hc)]; exact h
  · intro h; subst h; exact and255 hc
theorem stS_ch {ns : List Nd} {k : Nat} {y : Nd} (hW : WfN ns) (hy : ns[k]? = some y) : ∀ c ∈ stS ns k y, 0 ≤ c ∧ c < 128 := by
  have own : ∀ (i : Nat) (z : Nd), ns[i]? = some z → (z.1 = 2 ∨ z.1 = 3) → ∀ c ∈ z.2.2.2.1, 0 ≤ c ∧ c < 128 := by
    intro i z hz h23 c hc
    have hi : 0 < i := by
      rcases Nat.eq_zero_or_pos i with w | w
      · subst w
        rw [hW.1] at hz
        cases hz
        rcases h23 with w | w <;> exact absurd w (by decide)
      · exact w
    have := (hW.2 i z hz hi).1.2.2 c hc
    unfold isCh at this
    omega
  intro c hc
  unfold stS at hc
  split at hc
  · next h => exact own k y hy h c hc
  · unfold cT at hc
    obtain ⟨z, hz, hcz⟩ := List.mem_flatMap.mp hc
    have hz' : z ∈ ns := List.mem_of_mem_take (List.mem_of_mem_drop hz)
    obtain ⟨i, hi⟩ := List.getElem?_of_mem hz'
    unfold tB at hcz
    split at hcz
    · next h3 => exact own i z hi (Or.inr h3) c hcz
    · simp at hcz
section Pe05
variable {cs : Cs} {Q : Option AV → Mm → Prop} {MI ML : Nat → Nat → Int} {bk d e nw th x pl : Nat} {T TD : Nat → Int} {n nD : Int} {D : Dm}
theorem HldR_P {MI' : Nat → Nat → Int} (h : HldR bk TD nD pl D MI ML) (r : ∀ i, 127 ≤ i → i ≤ 173 → MI' i = MI i) (r7 : MI' 124 7 = MI 124 7) (r8 : MI' 124 8 = MI 124 8) : HldR bk TD nD pl D MI' ML := by
  obtain ⟨⟨p1, p2, p3, p4, p5, p6, p7⟩, h7, h8⟩ := h
  exact ⟨⟨DclR_fr p1 (fun i hi => ⟨r i (by omega) (by omega), rfl⟩) (fun k _ => by rw [r 138 (by decide) (by decide)]) (Nat.le_refl _), ⟨by rw [r 129 (by decide) (by decide)]; exact p2.1, p2.2.1, fun k y hy => NdRA_fr (p2.2.2 k y hy) (fun i _ _ => by rw [r i (by omega) (by omega)]) (fun k _ => by rw [r 138 (by decide) (by decide)]) (Nat.le_refl _)⟩, by rw [r 140 (by decide) (by decide)]; exact p3, p4, fun k hk => by rw [r 128 (by decide) (by decide)]; exact p5 k hk, p6, p7⟩, by rw [r7]; exact h7, by rw [r8]; exact h8⟩
theorem c_isCalled {k : Nat} {y : Nd} {F L : Int} {v : By} (hH : HldR bk TD nD pl D MI ML) (hn : n ≤ 6000) (hT : MI 126 = T) (hy : D.2.1[k]? = some y) (h12 : y.1 = 1 ∨ y.1 = 2) (hv : slc T n F L v)
    (hQ : Q (some (vI (if y.2.2.1 = v then 1 else 0))) (MI, ML, GR d e nw th x)) :
    wp cs mX12_isCalled KD Q 0 (padL [vR 124, vI (k : Nat), vI F, vI L] 6) [] (KD, MI, ML, GR d e nw th x) := by
  have p7 := hH.1.2.2.2.2.2.2
  have h600 := hH.1.2.1.2.1
  have hkl := (List.getElem?_eq_some_iff.mp hy).1
  have hA := hH.1.2.1.2.2 k y hy
  have htx := hH.1.2.2.2.2.1
  have hnD := hH.1.2.2.2.1
  have hnm := hA.2.2.1.2 h12
  unfold nmR at hnm
  obtain ⟨m1, m2, m3, m4⟩ := hnm
  obtain ⟨v1, v2, v3, v4⟩ := hv
  have e7 := hH.2.1
  have ei : (600 * (bk : Int) + ((k : Nat) : Int)).toNat = 600 * bk + k := by omega
  have loop : ∀ (m i : Nat), (i : Int) + m = L → MI 133 (600 * bk + k) = L → (∀ j, j < i → y.2.2.1[j]? = v[j]?) → wp cs mX12_isCalled KD Q 29 [some (vR 124), some (vI (k : Nat)), some (vI F), some (vI L), some (vI 1), some (vI (i : Nat))] [] (KD, MI, ML, GR d e nw th x) := by
    intro m
    induction m with
    | zero =>
      intro i hi hL hj
      refine v_X12_isCalled_29 ⟨fun z => by omega, fun _ => ⟨Or.inr rfl, ?_⟩⟩
      have : y.2.2.1 = v := by
        apply List.ext_getElem?
        intro j
        by_cases hji : j < i
        · exact hj j hji
        · rw [List.getElem?_eq_none (by omega), List.getElem?_eq_none (by omega)]
      rw [if_pos this] at hQ; exact hQ
    | succ m ih =>
      intro i hi hL hj
      refine v_X12_isCalled_29 ?_
      rw [e7, ei, hT, show ((i : Nat) : Int) + 1 = ((i + 1 : Nat) : Int) by omega]
      have hil : i < y.2.2.1.length := by omega
      have hiv : i < v.length := by omega
      have a1 : MI 128 (MI 132 (600 * bk + k) + ((i : Nat) : Int)).toNat = y.2.2.1[i] := by
        rw [← m4 i y.2.2.1[i] (List.getElem?_eq_getElem hil), ← htx _ (by omega)]
        congr 1; omega
      have a2 : T (F + ((i : Nat) : Int)).toNat = v[i] := by
        rw [← v4 i v[i] (List.getElem?_eq_getElem hiv)]
        congr 1; omega
      rw [a1, a2]
      refine ⟨fun _ => ⟨fun z => by omega, fun _ => ⟨by omega, by omega, by omega, by omega, by omega, by omega, by omega, fun he => ⟨by omega, ih (i + 1) (by omega) hL (fun j hj' => ?_)⟩, fun he => ⟨by omega, ?_⟩⟩⟩, fun z => by omega⟩
      · by_cases hji : j = i
        · subst hji; rw [List.getElem?_eq_getElem hil, List.getElem?_eq_getElem hiv, he]
        · exact hj j (by omega)
      · have hne : y.2.2.1 ≠ v := fun z => he (by subst z; rfl)
        rw [if_neg hne] at hQ
        exact v_X12_isCalled_29 ⟨fun _ => ⟨fun _ => ⟨Or.inl rfl, hQ⟩, fun z => absurd rfl z⟩, fun _ => ⟨Or.inl rfl, hQ⟩⟩
  refine v_X12_isCalled_0 ?_
  rw [e7, ei]
  refine ⟨by omega, by omega, by omega, fun he => loop v.length 0 (by omega) he (fun j hj => by omega), fun he => ?_⟩
  have hne : y.2.2.1 ≠ v := fun z => he (by rw [m2, v2, z])
  rw [if_neg hne] at hQ
  exact v_X12_isCalled_29 ⟨fun _ => ⟨fun _ => ⟨Or.inl rfl, hQ⟩, fun z => absurd rfl z⟩, fun _ => ⟨Or.inl rfl, hQ⟩⟩
theorem c_hasString {k : Nat} {y : Nd} {F L : Int} {v : By} (hH : HldR bk TD nD pl D MI ML) (hW : WfN D.2.1) (hn : n ≤ 6000) (hT : MI 126 = T) (hby : ∀ k : Nat, (k : Int) < n → -128 ≤ T k ∧ T k < 128) (hy : D.2.1[k]? = some y) (hv : slc T n F L v)
    (hQ : Q (some (vI (if stS D.2.1 k y = v then 1 else 0))) (MI, ML, GR d e nw th x)) :
    wp cs mX12_hasString KD Q 0 (padL [vR 124, vI (k : Nat), vI F, vI L] 6) [] (KD, MI, ML, GR d e nw th x) := by
  obtain ⟨v1, v2, v3, v4⟩ := hv
  have hch := stS_ch hW hy
  have loop : ∀ (m i : Nat), (i : Int) + m = L → (stS D.2.1 k y).length = v.length → (∀ j, j < i → (stS D.2.1 k y)[j]? = v[j]?) → wp cs mX12_hasString KD Q 19 [some (vR 124), some (vI (k : Nat)), some (vI F), some (vI L), some (vI 1), some (vI (i : Nat))] [] (KD, MI, ML, GR d e nw th x) := by
    intro m
    induction m with
    | zero =>
      intro i hi hL hj
      refine v_X12_hasString_19 ⟨fun z => by omega, fun _ => ⟨Or.inr rfl, ?_⟩⟩
      have : stS D.2.1 k y = v := by
        apply List.ext_getElem?
        intro j
        by_cases hji : j < i
        · exact hj j hji
        · rw [List.getElem?_eq_none (by omega), List.getElem?_eq_none (by omega)]
      rw [if_pos this] at hQ; exact hQ
    | succ m ih =>
      intro i hi hL hj
      have hil : i < (stS D.2.1 k y).length := by omega
      have hiv : i < v.length := by omega
      refine v_X12_hasString_19 ?_
      rw [hT, show ((i : Nat) : Int) + 1 = ((i + 1 : Nat) : Int) by omega]
      refine ⟨fun _ => ⟨fun z => by omega, fun _ => ⟨by omega, by omega, c_stringAt (by omega) hH hW hy (rI_mk ?_)⟩⟩, fun z => by omega⟩
      have a1 : byS (stS D.2.1 k y) ((i : Nat) : Int) = (stS D.2.1 k y)[i] := by
        unfold byS
        rw [if_pos (by omega), Int.toNat_natCast, List.getD_eq_getElem?_getD, List.getElem?_eq_getElem hil]; rfl
      have a2 : T (F + ((i : Nat) : Int)).toNat = v[i] := by
        rw [← v4 i v[i] (List.getElem?_eq_getElem hiv)]
        congr 1; omega
      have a3 := hch _ (List.getElem_mem hil)
      have a4 := byte_eq (x := T (F + ((i : Nat) : Int)).toNat) (hby _ (by omega)) a3
      rw [a1, a4, a2]
      refine ⟨fun he => ⟨by omega, ih (i + 1) (by omega) hL (fun j hj' => ?_)⟩, fun he => ⟨by omega, ?_⟩⟩
      · by_cases hji : j = i
        · subst hji; rw [List.getElem?_eq_getElem hil, List.getElem?_eq_getElem hiv, he]
        · exact hj j (by omega)
      · have hne : stS D.2.1 k y ≠ v := fun z => he (by
          have e1 : (stS D.2.1 k y)[i]? = v[i]? := by rw [z]
          rw [List.getElem?_eq_getElem hil, List.getElem?_eq_getElem hiv] at e1
          rw [← Option.some.inj e1]; exact and255 a3)
        rw [if_neg hne] at hQ
        exact v_X12_hasString_19 ⟨fun _ => ⟨fun _ => ⟨Or.inl rfl, hQ⟩, fun z => absurd rfl z⟩, fun _ => ⟨Or.inl rfl, hQ⟩⟩
  refine v_X12_hasString_0 (c_stringOf hH hW hy (rI_mk ⟨fun he => loop v.length 0 (by omega) (by omega) (fun j hj => by omega), fun he => ?_⟩))
  have hne : stS D.2.1 k y ≠ v := fun z => he (by rw [z, v2])
  rw [if_neg hne] at hQ
  exact v_X12_hasString_19 ⟨fun _ => ⟨fun _ => ⟨Or.inl rfl, hQ⟩, fun z => absurd rfl z⟩, fun _ => ⟨Or.inl rfl, hQ⟩⟩
theorem c_leads {j k to : Nat} {s : StM} (hH : HldR bk TD nD pl D MI ML) (hW : WfN D.2.1) (hn : n ≤ 6000) (hT : MI 126 = T) (hj : j < 12) (hS : StpR T n j s MI) (hV : StV s) (hk : k < D.2.1.length) (ht : to < D.2.1.length)
    (hQ : Q (some (vI (if leadB D.2.1 s k to = true then 1 else 0))) (MI, ML, GR d e nw th x)) :
    wp cs mX12_leads KD Q 0 (padL [vR 124, vI (j : Nat), vI (k : Nat), vI (to : Nat)] 6) [] (KD, MI, ML, GR d e nw th x) := by
  have p7 := hH.1.2.2.2.2.2.2
  have h600 := hH.1.2.1.2.1
  obtain ⟨y, hy⟩ : ∃ y, D.2.1[to]? = some y := ⟨_, List.getElem?_eq_getElem ht⟩
  obtain ⟨z, hz⟩ : ∃ y, D.2.1[k]? = some y := ⟨_, List.getElem?_eq_getElem hk⟩
  have hA := hH.1.2.1.2.2 to y hy
  have hAz := hH.1.2.1.2.2 k z hz
  have e7 := hH.2.1
  have ei : (600 * (bk : Int) + ((to : Nat) : Int)).toNat = 600 * bk + to := by omega
  have ek : (600 * (bk : Int) + ((k : Nat) : Int)).toNat = 600 * bk + k := by omega
  have fin : ∀ s0 : Int, s0 = (if y.2.1 = (k : Int) then 1 else 0) → wp cs mX12_leads KD Q 41 [some (vR 124), some (vI (j : Nat)), some (vI (k : Nat)), some (vI (to : Nat)), some (vI y.1), none] [vI s0] (KD, MI, ML, GR d e nw th x) := by
    intro s0 h0
    refine v_X12_leads_41 ?_
    simp only [Int.toNat_natCast]
    rw [hS.1, e7, ek, hAz.2.1]
    unfold leadB at hQ
    rw [ndA_at hy, ndA_at hz] at hQ
    obtain ⟨t, dpp, o, bs⟩ := s
    have hv := hV.1
    have hv2 := hV.2.1
    simp only at hv hv2 hQ hS ⊢
    have kase : t = 0 ∨ t = 1 ∨ t = 2 ∨ t = 3 ∨ t = 4 := by omega
    -- a NAME that is asked for
    have call : ∀ (K : Int) (xn : By), (K = 1 ∨ K = 2) → o = some xn → y.1 = K → y.2.1 = (k : Int) → (Q (some (vI (if (decide (y.2.1 = (k : Int) ∧ y.1 = K) && nmB o y.2.2.1) = true then 1 else 0))) (MI, ML, GR d e nw th x)) →
        wp cs mX12_isCalled KD (rI (GR d e nw th x) fun x166 m166 n166 => ((x166 = 0 → Q (some (vI 0)) (m166, n166, (GR d e nw th x))) ∧ (x166 ≠ 0 → Q (some (vI 1)) (m166, n166, (GR d e nw th x))))) 0 (padL [vR 124, vI (to : Nat), vI (MI 182 j), vI (MI 183 j)] 6) [] (KD, MI, ML, (GR d e nw th x)) := by
      intro K xn hK ho hyK hyu hq
      refine c_isCalled hH hn hT hy (by omega) (hS.2.2.1 xn ho) (rI_mk ?_)
      rw [decide_eq_true ⟨hyu, hyK⟩, Bool.true_and, ho] at hq
      by_cases he : y.2.2.1 = xn
      · rw [show nmB (some xn) y.2.2.1 = true from decide_eq_true he, if_pos rfl] at hq
        rw [if_pos he]; exact ⟨fun z => by omega, fun _ => hq⟩
      · rw [show nmB (some xn) y.2.2.1 = false from decide_eq_false he, if_neg (by decide)] at hq
        rw [if_neg he]; exact ⟨fun _ => hq, fun z => absurd rfl z⟩
    have no0 : s0 = 0 → ¬ y.2.1 = (k : Int) := fun z w => by rw [h0, if_pos w] at z; omega
    have yes0 : s0 ≠ 0 → y.2.1 = (k : Int) := fun z => Decidable.byContradiction fun w => z (by rw [h0, if_neg w])
    rcases kase with w | w | w | w | w
    · subst w
      rw [if_pos (show (0 : Int) = 0 from rfl)] at hQ
      rw [show hwR 0 o = 0 from rfl]
      refine ⟨by omega, fun _ => ⟨fun he => ?_, fun he => ?_⟩, fun z => absurd z (by decide), fun z => absurd z (by decide), fun z => absurd z (by decide), fun z => absurd z (by decide), fun z => absurd z (by decide), fun z => by omega⟩
      · rw [decide_eq_true (by omega), if_pos rfl] at hQ; exact hQ
      · rw [decide_eq_false (by omega), if_neg (by decide)] at hQ; exact hQ
    · subst w
      rw [if_neg (show ¬ (1 : Int) = 0 by decide), if_pos (show (1 : Int) = 1 from rfl)] at hQ
      rw [show hwR 1 o = 1 from rfl]
      refine ⟨by omega, fun z => absurd z (by decide), fun _ => ⟨by omega, by omega, by omega, fun he => ?_, fun he => ?_⟩, fun z => absurd z (by decide), fun z => absurd z (by decide), fun z => absurd z (by decide), fun z => absurd z (by decide), fun z => by omega⟩
      · rw [decide_eq_true he, if_pos rfl] at hQ; exact hQ
      · rw [decide_eq_false he, if_neg (by decide)] at hQ; exact hQ
    · subst w
      rw [if_neg (show ¬ (2 : Int) = 0 by decide), if_neg (show ¬ (2 : Int) = 1 by decide), if_pos (show (2 : Int) = 2 from rfl)] at hQ
      rw [show hwR 2 o = 2 from rfl]
      refine ⟨by omega, fun z => absurd z (by decide), fun z => absurd z (by decide), fun _ => ⟨fun hz0 => ?_, fun hz0 => ⟨fun he => ?_, fun he => ?_⟩⟩, fun z => absurd z (by decide), fun z => absurd z (by decide), fun z => absurd z (by decide), fun z => by omega⟩
      · rw [decide_eq_false (fun w => no0 hz0 w.1), if_neg (by decide)] at hQ; exact hQ
      · rw [decide_eq_true ⟨yes0 hz0, he⟩, if_pos rfl] at hQ; exact hQ
      · rw [decide_eq_false (fun w => he w.2), if_neg (by decide)] at hQ; exact hQ
    · subst w
      rw [if_neg (show ¬ (3 : Int) = 0 by decide), if_neg (show ¬ (3 : Int) = 1 by decide), if_neg (show ¬ (3 : Int) = 2 by decide), if_pos (show (3 : Int) = 3 from rfl)] at hQ
      have n1 : (decide (y.2.1 = (k : Int) ∧ y.1 = 2) = false) → Q (some (vI 0)) (MI, ML, GR d e nw th x) := fun hh => by rw [hh, Bool.false_and, if_neg (by decide)] at hQ; exact hQ
      cases o with
      | none =>
        rw [show hwR 3 none = 6 from rfl]
        refine ⟨by omega, fun z => absurd z (by decide), fun z => absurd z (by decide), fun z => absurd z (by decide), fun z => absurd z (by decide), fun z => absurd z (by decide), fun z => absurd z (by decide), fun _ => ⟨fun hz0 => n1 (decide_eq_false (fun w => no0 hz0 w.1)), fun hz0 => ⟨fun he => ?_, fun he => n1 (decide_eq_false (fun w => he w.2))⟩⟩⟩
        rw [decide_eq_true ⟨yes0 hz0, he⟩] at hQ
        exact hQ
      | some xn =>
        rw [show hwR 3 (some xn) = 5 from rfl]
        refine ⟨by omega, fun z => absurd z (by decide), fun z => absurd z (by decide), fun z => absurd z (by decide), fun z => absurd z (by decide), fun z => absurd z (by decide), fun _ => ⟨fun hz0 => n1 (decide_eq_false (fun w => no0 hz0 w.1)), fun hz0 => ⟨fun he => call 2 xn (Or.inr rfl) rfl he (yes0 hz0) hQ, fun he => n1 (decide_eq_false (fun w => he w.2))⟩⟩, fun z => by omega⟩
    · subst w
      rw [if_neg (show ¬ (4 : Int) = 0 by decide), if_neg (show ¬ (4 : Int) = 1 by decide), if_neg (show ¬ (4 : Int) = 2 by decide), if_neg (show ¬ (4 : Int) = 3 by decide)] at hQ
      have n1 : (decide (y.2.1 = (k : Int) ∧ y.1 = 1) = false) → Q (some (vI 0)) (MI, ML, GR d e nw th x) := fun hh => by rw [hh, Bool.false_and, if_neg (by decide)] at hQ; exact hQ
      cases o with
      | none =>
        rw [show hwR 4 none = 4 from rfl]
        refine ⟨by omega, fun z => absurd z (by decide), fun z => absurd z (by decide), fun z => absurd z (by decide), fun z => absurd z (by decide), fun _ => ⟨fun hz0 => n1 (decide_eq_false (fun w => no0 hz0 w.1)), fun hz0 => ⟨fun he => ?_, fun he => n1 (decide_eq_false (fun w => he w.2))⟩⟩, fun z => absurd z (by decide), fun z => by omega⟩
        rw [decide_eq_true ⟨yes0 hz0, he⟩] at hQ
        exact hQ
      | some xn =>
        rw [show hwR 4 (some xn) = 3 from rfl]
        refine ⟨by omega, fun z => absurd z (by decide), fun z => absurd z (by decide), fun z => absurd z (by decide), fun _ => ⟨fun hz0 => n1 (decide_eq_false (fun w => no0 hz0 w.1)), fun hz0 => ⟨fun he => call 1 xn (Or.inl rfl) rfl he (yes0 hz0) hQ, fun he => n1 (decide_eq_false (fun w => he w.2))⟩⟩, fun z => absurd z (by decide), fun z => absurd z (by decide), fun z => by omega⟩
  refine v_X12_leads_0 ?_
  rw [e7, ei, hA.1, hA.2.1]
  exact ⟨by omega, by omega, by omega, fun he => fin 1 (by rw [if_pos he]), fun he => fin 0 (by rw [if_neg he])⟩
theorem c_passesFilter {f k : Nat} {q : BrM} (hH : HldR bk TD nD pl D MI ML) (hW : WfN D.2.1) (hn : n ≤ 6000) (hT : MI 126 = T) (hby : ∀ k : Nat, (k : Int) < n → -128 ≤ T k ∧ T k < 128) (hf : f < 48) (hB : BrkR T n f q MI) (hV : BrV q) (hq : 2 ≤ q.1) (hk : k < D.2.1.length)
    (hQ : Q (some (vI (if pasB D.2.1 q k = true then 1 else 0))) (MI, ML, GR d e nw th x)) :
    wp cs mX12_passesFilter KD Q 0 (padL [vR 124, vI (f : Nat), vI (k : Nat)] 5) [] (KD, MI, ML, GR d e nw th x) := by
  have p7 := hH.1.2.2.2.2.2.2
  have h600 := hH.1.2.1.2.1
  have e7 := hH.2.1
  have e29 := hH.1.2.1.1
  unfold pasB at hQ
  refine v_X12_passesFilter_0 ?_
  simp only [Int.toNat_natCast]
  by_cases h2 : q.1 = 2
  · obtain ⟨b1, v, hv, hsl⟩ := hB.2.2.1 h2
    obtain ⟨z, hz⟩ : ∃ y, D.2.1[k]? = some y := ⟨_, List.getElem?_eq_getElem hk⟩
    rw [if_pos h2, hv] at hQ
    have hqb : quB D.2.1 k (some v) = decide (stS D.2.1 k z = v) := by unfold quB; rw [ndA_at hz]
    rw [hqb] at hQ
    rw [b1]
    refine ⟨by omega, fun _ => c_hasString hH hW hn hT hby hz hsl (rI_mk ⟨by split <;> simp, ?_⟩), fun w => absurd rfl w⟩
    by_cases he : stS D.2.1 k z = v
    · rw [decide_eq_true he, if_pos rfl] at hQ; rw [if_pos he]; exact hQ
    · rw [decide_eq_false he, if_neg (by decide)] at hQ; rw [if_neg he]; exact hQ
  · rw [if_neg h2] at hQ
    obtain ⟨b1, b2, b3⟩ := hB.2.2.2 (by omega)
    have h85 : MI 185 f = 2 ∨ MI 185 f = 3 := by
      unfold quR at b3
      cases ho : q.2.2.2 with
      | none => rw [ho] at b3; exact Or.inl b3
      | some v => rw [ho] at b3; exact Or.inr b3.1
    refine ⟨by omega, fun w => by omega, fun _ => ?_⟩
    obtain ⟨P, hP⟩ : ∃ P : Nat → Bool, P = fun c => decide ((ndA D.2.1 c).2.1 = (k : Int) ∧ (ndA D.2.1 c).1 = (if q.1 = 3 then 2 else 1) ∧ (ndA D.2.1 c).2.2.1 = q.2.2.1) && quB D.2.1 c q.2.2.2 := ⟨_, rfl⟩
    rw [← hP] at hQ
    obtain ⟨R, hR⟩ : ∃ R, R = (List.range D.2.1.length).any P := ⟨_, rfl⟩
    rw [← hR] at hQ
    have loop : ∀ (m c : Nat), c + m = D.2.1.length → R = (List.range' c (D.2.1.length - c)).any P → wp cs mX12_passesFilter KD Q 30 [some (vR 124), some (vI (f : Nat)), some (vI (k : Nat)), some (vI (c : Nat)), none] [] (KD, MI, ML, GR d e nw th x) := by
      intro m
      induction m with
      | zero =>
        intro c hc hRc
        refine v_X12_passesFilter_30 ?_
        rw [e7]
        simp only [Int.toNat_natCast]
        rw [e29]
        refine ⟨by omega, fun z => by omega, fun _ => ?_⟩
        rw [rga_nil (fun i a1 a2 => by omega)] at hRc
        rw [hRc, if_neg (by decide)] at hQ; exact hQ
      | succ m ih =>
        intro c hc hRc
        obtain ⟨y, hy⟩ : ∃ y, D.2.1[c]? = some y := ⟨_, List.getElem?_eq_getElem (by omega)⟩
        have hA := hH.1.2.1.2.2 c y hy
        have ei : (600 * (bk : Int) + ((c : Nat) : Int)).toNat = 600 * bk + c := by omega
        rw [rg_cons (by omega), List.any_cons] at hRc
        have hPc : P c = (decide (y.2.1 = (k : Int) ∧ y.1 = (if q.1 = 3 then 2 else 1) ∧ y.2.2.1 = q.2.2.1) && quB D.2.1 c q.2.2.2) := by rw [hP]; simp only; rw [ndA_at hy]
        have ec : ((c : Nat) : Int) + 1 = ((c + 1 : Nat) : Int) := by omega
        have no : P c = false → wp cs mX12_passesFilter KD Q 30 [some (vR 124), some (vI (f : Nat)), some (vI (k : Nat)), some (vI ((c + 1 : Nat) : Int)), none] [] (KD, MI, ML, GR d e nw th x) := by
          intro hp
          rw [hp, Bool.false_or] at hRc
          exact ih (c + 1) (by omega) hRc
        have yes : P c = true → Q (some (vI 1)) (MI, ML, GR d e nw th x) := by
          intro hp
          rw [hp, Bool.true_or] at hRc
          rw [hRc, if_pos rfl] at hQ; exact hQ
        have fin : ∀ s0 : Int, s0 = (if y.2.1 = (k : Int) ∧ y.1 = (if q.1 = 3 then 2 else 1) then 1 else 0) → wp cs mX12_passesFilter KD Q 99 [some (vR 124), some (vI (f : Nat)), some (vI (k : Nat)), some (vI (c : Nat)), none] [vI s0] (KD, MI, ML, GR d e nw th x) := by
          intro s0 h0
          refine v_X12_passesFilter_99 ?_
          simp only [Int.toNat_natCast]
          rw [ec]
          refine ⟨fun z => ⟨by omega, no ?_⟩, fun z => ⟨by omega, ?_⟩⟩
          · rw [hPc, decide_eq_false, Bool.false_and]
            rintro ⟨w1, w2, w3⟩
            rw [h0, if_pos ⟨w1, w2⟩] at z; omega
          · have hyy : y.2.1 = (k : Int) ∧ y.1 = (if q.1 = 3 then 2 else 1) := Decidable.byContradiction fun w => z (by rw [h0, if_neg w])
            have hy12 : y.1 = 1 ∨ y.1 = 2 := by rw [hyy.2]; split <;> simp
            refine c_isCalled hH hn hT hy hy12 b2 (rI_mk ?_)
            by_cases he : y.2.2.1 = q.2.2.1
            · rw [decide_eq_true ⟨hyy.1, hyy.2, he⟩, Bool.true_and] at hPc
              rw [if_pos he]
              refine ⟨fun w => by omega, fun _ => ?_⟩
              cases ho : q.2.2.2 with
              | none =>
                rw [ho] at hPc b3
                have b3' : MI 185 f = 2 := b3
                exact ⟨fun _ => yes hPc, fun w => absurd b3' w⟩
              | some v =>
                rw [ho] at hPc b3
                have b3' : MI 185 f = 3 ∧ slc T n (MI 189 f) (MI 190 f) v := b3
                refine ⟨fun w => by omega, fun _ => c_hasString hH hW hn hT hby hy b3'.2 (rI_mk ?_)⟩
                have hqb : quB D.2.1 c (some v) = decide (stS D.2.1 c y = v) := by unfold quB; rw [ndA_at hy]
                rw [hqb] at hPc
                by_cases hs : stS D.2.1 c y = v
                · rw [if_pos hs]
                  exact ⟨fun w => by omega, fun _ => yes (by rw [hPc]; exact decide_eq_true hs)⟩
                · rw [if_neg hs]
                  exact ⟨fun _ => ⟨by omega, no (by rw [hPc]; exact decide_eq_false hs)⟩, fun w => absurd rfl w⟩
            · rw [if_neg he]
              exact ⟨fun _ => ⟨by omega, no (by rw [hPc, decide_eq_false (fun w => he w.2.2), Bool.false_and])⟩, fun w => absurd rfl w⟩
        refine v_X12_passesFilter_30 ?_
        rw [e7]
        simp only [Int.toNat_natCast]
        rw [e29, ei, hA.1, hA.2.1, b1]
        refine ⟨by omega, fun _ => ⟨by omega, by omega, by omega, fun hu => ⟨by omega, fun h8 => ?_, fun h8 => ?_⟩, fun hu => fin 0 (by rw [if_neg (fun w => hu w.1)])⟩, fun z => by omega⟩
        · have h3 : q.1 ≠ 3 := fun w => by rw [if_pos w] at h8; omega
          exact ⟨fun hy1 => fin 1 (by rw [if_neg h3, if_pos ⟨hu, hy1⟩]), fun hy1 => fin 0 (by rw [if_neg h3, if_neg (fun w => hy1 w.2)])⟩
        · have h3 : q.1 = 3 := Decidable.byContradiction fun w => h8 (by rw [if_neg w])
          exact ⟨fun hy1 => fin 1 (by rw [if_pos h3, if_pos ⟨hu, hy1⟩]), fun hy1 => fin 0 (by rw [if_pos h3, if_neg (fun w => hy1 w.2)])⟩
    exact loop D.2.1.length 0 (by omega) (by rw [hR, rg_0])
end Pe05
