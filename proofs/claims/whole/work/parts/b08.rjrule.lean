/-! The reference's judgement of RULES; kept bytes. -/
theorem isNs_nb {c : Int} (h : isNs c) : isNb c := by unfold isNs at h; unfold isNb; omega
section Pb08
variable {cs : Cs} {Q : Option AV → Mm → Prop} {MI ML : Nat → Nat → Int} {bk d e nw th x pl : Nat} {T : Nat → Int} {n : Int} {fs : Fi} {D : Dm}
theorem poR_at {F L : Int} {v : By} {k : Nat} (hv : poR bk MI (pl : Nat) F L v) (hk : k < v.length) : MI 138 (F + (k : Nat)).toNat = v.getD k 0 ∧ 2000 * (bk : Int) ≤ F ∧ L = (v.length : Nat) ∧ F + L ≤ 2000 * (bk : Int) + pl := by
  have hv' := hv
  obtain ⟨h1, h2, h3, h4⟩ := hv
  refine ⟨?_, by omega, h2, by omega⟩
  have := slc_at hv' hk
  rw [← this]
  show MI 138 _ = MI 138 _
  congr 1; omega
theorem c_risName {F L : Int} {v : By} (hbk : bk ≤ 1) (hpl : pl ≤ 2000) (hv : poR bk MI (pl : Nat) F L v) (hQ : Q (some (vI (if isNmB v = true then 1 else 0))) (MI, ML, GR d e nw th x)) :
    wp cs mX12_isName KD Q 0 (padL [vR 124, vI F, vI L] 5) [] (KD, MI, ML, GR d e nw th x) := by
  have hL := hv.2.1
  have h1 := hv.1
  have h3 := hv.2.2.1
  have no : isNmB v = false → ∀ k : Int, wp cs mX12_isName KD Q 33 [some (vR 124), some (vI F), some (vI L), some (vI 0), some (vI k)] [] (KD, MI, ML, GR d e nw th x) := fun hf k => by
    rw [hf, if_neg (by decide)] at hQ
    exact v_X12_isName_33 ⟨fun _ => ⟨fun _ => ⟨Or.inl rfl, hQ⟩, fun z => absurd rfl z⟩, fun _ => ⟨Or.inl rfl, hQ⟩⟩
  have notnm : (¬ (0 < v.length ∧ v.length ≤ 20 ∧ isNs (v.headD 0) ∧ ∀ c ∈ v, isNb c)) → isNmB v = false := fun h => by
    cases hh : isNmB v with
    | false => rfl
    | true => exact absurd (isNmB_iff.mp hh) h
  refine v_X12_isName_0 (w_X12_in (rI_mk ?_))
  by_cases hin : 1 ≤ L ∧ L ≤ 20
  · rw [show bI (1 ≤ L ∧ L ≤ 20) = 1 from if_pos hin]
    have hlen : 0 < v.length := by omega
    have h0 := (poR_at hv hlen).1
    rw [show F + (((0 : Nat)) : Int) = F by omega] at h0
    obtain ⟨c, hc⟩ : ∃ c, v[0]? = some c := ⟨_, List.getElem?_eq_getElem hlen⟩
    have hh : v.headD 0 = c := by cases v with
      | nil => simp at hc
      | cons a t => simpa using hc
    have hg : v.getD 0 0 = c := by rw [List.getD_eq_getElem?_getD, hc]; rfl
    rw [hg] at h0
    refine ⟨fun z => by omega, fun _ => ⟨by omega, ?_⟩⟩
    rw [h0]
    refine w_X12_isFirst (rI_mk ?_)
    by_cases hn : isNs c
    · rw [show bI (isNs c) = 1 from if_pos hn]
      refine ⟨fun z => by omega, fun _ => ?_⟩
      have key : ∀ (m k : Nat), k + m = v.length → 1 ≤ k → (∀ i c, i < k → v[i]? = some c → isNb c) → wp cs mX12_isName KD Q 33 [some (vR 124), some (vI F), some (vI L), some (vI 1), some (vI (k : Nat))] [] (KD, MI, ML, GR d e nw th x) := by
        intro m
        induction m with
        | zero =>
          intro k hk h1k hall
          rw [if_pos (isNmB_iff.mpr ⟨by omega, by omega, by rw [hh]; exact hn, fun c' hc' => by
            obtain ⟨i, hi⟩ := List.getElem?_of_mem hc'
            have := (List.getElem?_eq_some_iff.mp hi).1
            exact hall i c' (by omega) hi⟩)] at hQ
          exact v_X12_isName_33 ⟨fun z => by omega, fun _ => ⟨Or.inr rfl, hQ⟩⟩
        | succ m ih =>
          intro k hk h1k hall
          have hp := poR_at hv (k := k) (by omega)
          obtain ⟨c', hc'⟩ : ∃ c', v[k]? = some c' := ⟨_, List.getElem?_eq_getElem (by omega)⟩
          have hg' : v.getD k 0 = c' := by rw [List.getD_eq_getElem?_getD, hc']; rfl
          refine v_X12_isName_33 ⟨fun _ => ⟨fun z => by omega, fun _ => ⟨by omega, by omega, ?_⟩⟩, fun z => by omega⟩
          rw [hp.1, hg']
          refine w_X12_isNext (rI_mk ⟨by omega, ?_⟩)
          by_cases hb : isNb c'
          · rw [show bI (isNb c') = 1 from if_pos hb, show ((k : Nat) : Int) + 1 = ((k + 1 : Nat) : Int) by omega]
            refine ih (k + 1) (by omega) (by omega) (fun i w hi hw => ?_)
            by_cases hik : i = k
            · subst hik; rw [hc'] at hw; cases hw; exact hb
            · exact hall i w (by omega) hw
          · rw [show bI (isNb c') = 0 from if_neg hb]
            exact no (notnm (fun z => hb (z.2.2.2 c' (List.mem_of_getElem? hc')))) _
      exact key (v.length - 1) 1 (by omega) (by omega) (fun i w hi hw => by
        have : i = 0 := by omega
        subst this; rw [hc] at hw; cases hw; exact isNs_nb hn)
    · rw [show bI (isNs c) = 0 from if_neg hn]
      exact ⟨fun _ => no (notnm (fun z => hn (by rw [← hh]; exact z.2.2.1))) _, fun z => absurd rfl z⟩
  · rw [show bI (1 ≤ L ∧ L ≤ 20) = 0 from if_neg hin]
    exact ⟨fun _ => no (notnm (fun z => by omega)) _, fun z => absurd rfl z⟩
theorem c_risTok {F L A B : Int} {v y : By} {rJ t : Nat} (hbk : bk ≤ 1) (hpl : pl ≤ 2000) (hn : n ≤ 6000) (htx : ∀ k : Nat, (k : Int) < n → MI 128 (6000 * bk + k) = T k) (ht : t < 12800) (hv : poR bk MI (pl : Nat) F L v) (eA : MI 164 t = A) (eB : MI 165 t = B) (hy : nmR bk T n A B y) (hB : B = L)
    (hT : v = y → Q (some (vI 1)) (MI, ML, GR d e nw th x)) (hF : v ≠ y → wp cs mX12_isOf KD Q 34 [some (vR 124), some (vI (rJ : Nat)), some (vI F), some (vI L), some (vI ((t : Nat) + 1)), none, none] [] (KD, MI, ML, GR d e nw th x)) :
    ∀ (m i : Nat), i + m = v.length → (∀ j, j < i → v.getD j 0 = y.getD j 0) → wp cs mX12_isOf KD Q 71 [some (vR 124), some (vI (rJ : Nat)), some (vI F), some (vI L), some (vI (t : Nat)), some (vI 1), some (vI (i : Nat))] [] (KD, MI, ML, GR d e nw th x) := by
  have hL := hv.2.1
  have hyl := hy.2.1
  have hlen : v.length = y.length := by omega
  intro m
  induction m with
  | zero =>
    intro i hi hj
    have he : v = y := by
      apply List.ext_getElem hlen
      intro j h1 h2
      have := hj j (by omega)
      rw [List.getD_eq_getElem?_getD, List.getD_eq_getElem?_getD, List.getElem?_eq_getElem h1, List.getElem?_eq_getElem h2] at this
      exact this
    exact v_X12_isOf_71 ⟨fun z => by omega, fun _ => ⟨fun z => by omega, fun _ => hT he⟩⟩
  | succ m ih =>
    intro i hi hj
    have hp := poR_at hv (k := i) (by omega)
    have y1 := hy.1
    have y3 := hy.2.2.1
    have hyi := slc_at hy (i := i) (by omega)
    have hti := htx ((A - 6000 * (bk : Int)).toNat + i) (by omega)
    refine v_X12_isOf_71 ⟨fun _ => ⟨fun z => by omega, fun _ => ?_⟩, fun z => by omega⟩
    simp only [Int.toNat_natCast]
    rw [eA, show (A + ((i : Nat) : Int)).toNat = 6000 * bk + ((A - 6000 * (bk : Int)).toNat + i) by omega, hti, hyi, hp.1, show ((i : Nat) : Int) + 1 = ((i + 1 : Nat) : Int) by omega]
    refine ⟨by omega, by omega, by omega, by omega, by omega, fun he => ⟨by omega, ih (i + 1) (by omega) (fun j hj' => ?_)⟩, fun he => ⟨by omega, ?_⟩⟩
    · by_cases hh : j = i
      · subst hh; exact he.symm
      · exact hj j (by omega)
    · have hne : v ≠ y := fun w => he (by rw [w])
      exact v_X12_isOf_71 ⟨fun _ => ⟨fun _ => ⟨fun _ => ⟨by omega, hF hne⟩, fun z => absurd rfl z⟩, fun z => absurd rfl z⟩, fun _ => ⟨fun _ => ⟨by omega, hF hne⟩, fun z => absurd rfl z⟩⟩
theorem c_risOf {F L : Int} {v : By} {r : Nat} {q : Rl} (hH : HldJ bk T n pl D MI ML) (hv : poR bk MI (pl : Nat) F L v) (hq : D.1.2.2[r]? = some q) (hQ : Q (some (vI (if ofT q v = true then 1 else 0))) (MI, ML, GR d e nw th x)) :
    wp cs mX12_isOf KD Q 0 (padL [vR 124, vI ((800 * bk + r : Nat) : Int), vI F, vI L] 7) [] (KD, MI, ML, GR d e nw th x) := by
  obtain ⟨⟨p1, p2, p3, p4, p5, p6, p7⟩, h7, h8⟩ := hH
  have hR := p1.2.2.1
  have h750 := hR.2.1
  have hrl := (List.getElem?_eq_some_iff.mp hq).1
  obtain ⟨rJ, hrJ⟩ : ∃ rJ, rJ = 800 * bk + r := ⟨_, rfl⟩
  have hA := hR.2.2 r q hq
  rw [← hrJ] at hA ⊢
  obtain ⟨a1, a2, a3, ⟨a4, a5, a6⟩, a7, a8⟩ := hA
  unfold ofT at hQ
  refine v_X12_isOf_0 ?_
  simp only [Int.toNat_natCast]
  rw [a3]
  refine ⟨by omega, fun h0 => ?_, fun h0 => ⟨fun h1 => ?_, fun h1 => ⟨by omega, ?_⟩⟩⟩
  · rw [if_pos h0] at hQ; exact hQ
  · rw [if_neg h0, if_pos h1] at hQ
    exact c_risName p7 p6 hv (rI_mk ⟨by split <;> simp, hQ⟩)
  · rw [if_neg h0, if_neg h1] at hQ
    have key : ∀ (u pre : List By), pre ++ u = q.2.2.2.1 → v ∉ pre → wp cs mX12_isOf KD Q 34 [some (vR 124), some (vI (rJ : Nat)), some (vI F), some (vI L), some (vI ((8 * rJ + pre.length : Nat) : Int)), none, none] [] (KD, MI, ML, GR d e nw th x) := by
      intro u
      induction u with
      | nil =>
        intro pre hp hnot
        rw [List.append_nil] at hp
        refine v_X12_isOf_34 ?_
        simp only [Int.toNat_natCast]
        rw [a4, ← hp]
        rw [← hp] at a5
        refine ⟨by omega, by omega, by omega, fun z => by omega, fun _ => ?_⟩
        rw [if_neg (by rw [← hp, decide_eq_false hnot]; decide)] at hQ; exact hQ
      | cons y u ih =>
        intro pre hp hnot
        have hlen : pre.length < q.2.2.2.1.length := by rw [← hp]; simp
        have hy : q.2.2.2.1[pre.length]? = some y := by rw [← hp]; simp
        have hs := a6 pre.length y hy
        have nxt : v ≠ y → wp cs mX12_isOf KD Q 34 [some (vR 124), some (vI (rJ : Nat)), some (vI F), some (vI L), some (vI (((8 * rJ + pre.length : Nat) : Int) + 1)), none, none] [] (KD, MI, ML, GR d e nw th x) := fun hne => by
          have := ih (pre ++ [y]) (by rw [List.append_assoc]; exact hp) (fun z => by
            rw [List.mem_append, List.mem_singleton] at z
            exact z.elim hnot hne)
          rw [show ((8 * rJ + (pre ++ [y]).length : Nat) : Int) = ((8 * rJ + pre.length : Nat) : Int) + 1 by rw [List.length_append, List.length_singleton]; omega] at this
          exact this
        refine v_X12_isOf_34 ?_
        simp only [Int.toNat_natCast]
        rw [a4]
        refine ⟨by omega, by omega, by omega, fun _ => ⟨by omega, fun hL => ?_, fun hL => ?_⟩, fun z => by omega⟩
        · exact c_risTok p7 p6 p4.2 p5 (by omega) hv rfl rfl hs hL (fun he => by
            rw [if_pos (decide_eq_true (by rw [← hp, he]; simp))] at hQ; exact hQ) nxt v.length 0 (Nat.zero_add _) (fun j hj => by omega)
        · have hne : v ≠ y := fun w => hL (by rw [hs.2.1, hv.2.1, w])
          exact v_X12_isOf_71 ⟨fun _ => ⟨fun _ => ⟨fun _ => ⟨by omega, nxt hne⟩, fun z => absurd rfl z⟩, fun z => absurd rfl z⟩, fun _ => ⟨fun _ => ⟨by omega, nxt hne⟩, fun z => absurd rfl z⟩⟩
    have := key q.2.2.2.1 [] rfl (by simp)
    rw [show ((8 * rJ + ([] : List By).length : Nat) : Int) = 8 * ((rJ : Nat) : Int) by simp] at this
    exact this
theorem howR_2 (u : Int) : (2 ≤ howR u ↔ 2 ≤ u) ∧ (howR u = 2 ↔ u = 2) ∧ (howR u = 0 ↔ u = 1) := by
  unfold howR
  refine ⟨?_, ?_, ?_⟩
  · split
    · omega
    · split <;> omega
  · split
    · omega
    · split <;> omega
  · split
    · omega
    · split <;> omega
theorem c_rjudgeRule {r : Nat} {q : Rl} (hH : HldJ bk T n pl D MI ML) (hJ : JuR fs MI) (hq : D.1.2.2[r]? = some q) (hl : fs.length + (jrS D.1.2.2 r q).length ≤ 8000)
    (hQ : ∀ MI', JuR (fs ++ jrS D.1.2.2 r q) MI' → jfrR MI MI' → Q none (MI', ML, GR d e nw th x)) :
    wp cs mX12_judgeRule KD Q 0 (padL [vR 124, vI (r : Nat)] 5) [] (KD, MI, ML, GR d e nw th x) := by
  have h7 := hH.2.1
  have p7 := hH.1.2.2.2.2.2.2
  have p4 := hH.1.2.2.2.1
  have p5 := hH.1.2.2.2.2.1
  have hR := hH.1.1.2.2.1
  have h750 := hR.2.1
  have hrl := (List.getElem?_eq_some_iff.mp hq).1
  obtain ⟨rJ, hrJ⟩ : ∃ rJ, rJ = 800 * bk + r := ⟨_, rfl⟩
  have hA := hR.2.2 r q hq
  rw [← hrJ] at hA
  have hw2 := (howR_2 q.2.2.2.2.1).1
  unfold jrS at hl
  rw [List.length_append] at hl
  have second : ∀ (gs : Fi) (MI1 : Nat → Nat → Int) (l3 l4 : Int), jfrR MI MI1 → JuR gs MI1 → gs.length + (if 2 ≤ q.2.2.2.2.1 ∧ ofT q q.2.2.2.2.2 = false then [(5, (r : Int))] else ([] : Fi)).length ≤ 8000 → gs ++ (if 2 ≤ q.2.2.2.2.1 ∧ ofT q q.2.2.2.2.2 = false then [(5, (r : Int))] else []) = fs ++ jrS D.1.2.2 r q → wp cs mX12_judgeRule KD Q 119 [some (vR 124), some (vI (r : Nat)), some (vI (rJ : Nat)), some (vI l3), some (vI l4)] [] (KD, MI1, ML, GR d e nw th x) := by
    intro gs MI1 l3 l4 f1 J1 hl1 hg
    have H1 := HldJ_j hH f1
    have A1 := H1.1.1.2.2.1.2.2 r q hq
    rw [← hrJ] at A1
    refine v_X12_judgeRule_119 ?_
    simp only [Int.toNat_natCast]
    rw [A1.2.2.2.2.1]
    refine ⟨by omega, fun h2 => ?_, fun h2 => ?_⟩
    · rw [if_neg (fun z => by have := hw2.mpr z.1; omega), List.append_nil] at hg
      exact hQ MI1 (by rw [← hg]; exact J1) f1
    · have h2' := hw2.mp h2
      rw [hrJ]
      have hpo := A1.2.2.2.2.2 h2'
      rw [hrJ] at hpo
      refine c_risOf H1 hpo hq (rI_mk ?_)
      cases ho : ofT q q.2.2.2.2.2 with
      | true =>
        rw [if_pos rfl]
        rw [if_neg (fun z => by rw [ho] at z; cases z.2), List.append_nil] at hg
        exact ⟨fun z => by omega, fun _ => hQ MI1 (by rw [← hg]; exact J1) f1⟩
      | false =>
        rw [if_neg (by decide)]
        rw [if_pos ⟨h2', ho⟩] at hg hl1
        refine ⟨fun _ => c_tell J1 (by simp at hl1; omega) (fun MI2 J2 f2 => rV_mk ?_), fun z => absurd rfl z⟩
        exact hQ MI2 (by rw [← hg]; exact J2) (jfrR_tr f1 f2)
  -- the loop over those ahead
  have key : ∀ (m i : Nat), i + m = r → wp cs mX12_judgeRule KD Q 23 [some (vR 124), some (vI (r : Nat)), some (vI (rJ : Nat)), some (vI (if erI D.1.2.2 i q.1 = true then 1 else 0)), some (vI ((800 * bk + i : Nat) : Int))] [] (KD, MI, ML, GR d e nw th x) := by
    intro m
    induction m with
    | zero =>
      intro i hi
      have hir : i = r := by omega
      subst hir
      rw [← hrJ]
      have tell : (q.2.2.1 = 1 ∧ (2 ≤ q.2.2.2.2.1 ∨ erI D.1.2.2 i q.1 = true)) → ∀ l3 l4 : Int, wp cs mX12_tellFinding KD (rV (GR d e nw th x) fun m116 n116 => wp cs mX12_judgeRule KD Q 119 [some (vR 124), some (vI (i : Nat)), some (vI (rJ : Nat)), some (vI l3), some (vI l4)] [] (KD, m116, n116, (GR d e nw th x))) 0 (padL [vR 124, vI 4, vI (i : Nat)] 3) [] (KD, MI, ML, (GR d e nw th x)) := fun hc l3 l4 => by
        rw [if_pos hc, List.length_singleton] at hl
        exact c_tell hJ (by omega) (fun MI2 J2 f2 => rV_mk (second _ MI2 _ _ f2 J2 (by rw [fi_len]; omega) (by unfold jrS; rw [if_pos hc, List.append_assoc])))
      have no : ¬ (q.2.2.1 = 1 ∧ (2 ≤ q.2.2.2.2.1 ∨ erI D.1.2.2 i q.1 = true)) → ∀ l3 l4 : Int, wp cs mX12_judgeRule KD Q 119 [some (vR 124), some (vI (i : Nat)), some (vI (rJ : Nat)), some (vI l3), some (vI l4)] [] (KD, MI, ML, GR d e nw th x) := fun hc l3 l4 => second fs MI _ _ (jfrR_rfl _) hJ (by omega) (by unfold jrS; rw [if_neg hc, List.nil_append])
      refine v_X12_judgeRule_23 ⟨fun z => by omega, fun _ => ?_⟩
      simp only [Int.toNat_natCast]
      rw [hA.2.2.1, hA.2.2.2.2.1]
      refine ⟨by omega, fun h1 => ⟨fun h0 => ⟨fun h2 => no (fun z => ?_) _ _, fun h2 => tell ⟨h1, Or.inl (hw2.mp h2)⟩ _ _⟩, fun h0 => tell ⟨h1, Or.inr ?_⟩ _ _⟩, fun h1 => no (fun z => h1 z.1) _ _⟩
      · rcases z.2 with w | w
        · have := hw2.mpr w; omega
        · rw [w, if_pos rfl] at h0; omega
      · cases hh : erI D.1.2.2 i q.1 with
        | true => rfl
        | false => rw [hh] at h0; exact absurd rfl h0
    | succ m ih =>
      intro i hi
      have nxt := ih (i + 1) (by omega)
      obtain ⟨z, hz⟩ : ∃ z, D.1.2.2[i]? = some z := ⟨_, List.getElem?_eq_getElem (by omega)⟩
      have hAz := hR.2.2 i z hz
      have er1 : erI D.1.2.2 (i + 1) q.1 = (erI D.1.2.2 i q.1 || (decide (z.2.2.1 = 1) && decide (z.1 = q.1))) := by
        unfold erI
        rw [List.take_succ, hz, List.any_append]
        simp
      rw [er1, show ((800 * bk + (i + 1) : Nat) : Int) = ((800 * bk + i : Nat) : Int) + 1 by omega] at nxt
      refine v_X12_judgeRule_23 ⟨fun _ => ⟨fun h0 => ?_, fun h0 => ⟨by omega, ?_⟩⟩, fun z => by omega⟩
      · have hf : erI D.1.2.2 i q.1 = false := by
          cases hh : erI D.1.2.2 i q.1 with
          | false => rfl
          | true => rw [hh, if_pos rfl] at h0; omega
        rw [hf, Bool.false_or] at nxt
        simp only [Int.toNat_natCast]
        rw [hAz.2.2.1]
        refine ⟨by omega, fun h1 => ⟨by omega, c_isSame p7 p4.2 p5 hAz.1 hA.1 (fun r' hr' => rI_mk ⟨fun w => ⟨by omega, ?_⟩, fun w => ⟨by omega, ?_⟩⟩)⟩, fun h1 => ⟨by omega, ?_⟩⟩
        · have hne : z.1 ≠ q.1 := fun w' => by rw [if_pos w'] at hr'; omega
          rw [decide_eq_false hne, Bool.and_false, if_neg (by decide)] at nxt; exact nxt
        · have heq : z.1 = q.1 := Decidable.byContradiction fun w' => by rw [if_neg w'] at hr'; exact w hr'
          rw [decide_eq_true heq, decide_eq_true h1, Bool.and_true, if_pos rfl] at nxt; exact nxt
        · rw [decide_eq_false h1, Bool.false_and, if_neg (by decide)] at nxt; exact nxt
      · have ht : erI D.1.2.2 i q.1 = true := by
          cases hh : erI D.1.2.2 i q.1 with
          | true => rfl
          | false => rw [hh] at h0; exact absurd rfl h0
        rw [ht, Bool.true_or, if_pos rfl] at nxt; exact nxt
  refine v_X12_judgeRule_0 ?_
  rw [h7, show 800 * (bk : Int) + ((r : Nat) : Int) = ((rJ : Nat) : Int) by omega]
  have := key r 0 (by omega)
  rw [show erI D.1.2.2 0 q.1 = false from rfl, if_neg (by decide), show ((800 * bk + 0 : Nat) : Int) = 800 * (bk : Int) by omega] at this
  exact ⟨by omega, by omega, this⟩
/-- kept bytes -/
theorem c_sameKept {F L G M : Int} {v w : By} (hbk : bk ≤ 1) (hpl : pl ≤ 2000) (hv : poR bk MI (pl : Nat) F L v) (hw : poR bk MI (pl : Nat) G M w) (hQ : Q (some (vI (if v = w then 1 else 0))) (MI, ML, GR d e nw th x)) :
    wp cs mX12_areSameKept KD Q 0 (padL [vR 124, vI F, vI L, vI G, vI M] 7) [] (KD, MI, ML, GR d e nw th x) := by
  have hL := hv.2.1
  have hM := hw.2.1
  have no : v ≠ w → ∀ k : Int, wp cs mX12_areSameKept KD Q 16 [some (vR 124), some (vI F), some (vI L), some (vI G), some (vI M), some (vI 0), some (vI k)] [] (KD, MI, ML, GR d e nw th x) := fun hne k => by
    rw [if_neg hne] at hQ
    exact v_X12_areSameKept_16 ⟨fun _ => ⟨fun _ => ⟨Or.inl rfl, hQ⟩, fun z => absurd rfl z⟩, fun _ => ⟨Or.inl rfl, hQ⟩⟩
  refine v_X12_areSameKept_0 ⟨fun hLM => ?_, fun hLM => no (fun z => hLM (by rw [hL, hM, z])) _⟩
  have hlen : v.length = w.length := by omega
  have key : ∀ (m i : Nat), i + m = v.length → (∀ j, j < i → v.getD j 0 = w.getD j 0) → wp cs mX12_areSameKept KD Q 16 [some (vR 124), some (vI F), some (vI L), some (vI G), some (vI M), some (vI 1), some (vI (i : Nat))] [] (KD, MI, ML, GR d e nw th x) := by
    intro m
    induction m with
    | zero =>
      intro i hi hj
      have he : v = w := by
        apply List.ext_getElem hlen
        intro j h1 h2
        have := hj j (by omega)
        rw [List.getD_eq_getElem?_getD, List.getD_eq_getElem?_getD, List.getElem?_eq_getElem h1, List.getElem?_eq_getElem h2] at this
        exact this
      rw [if_pos he] at hQ
      exact v_X12_areSameKept_16 ⟨fun z => by omega, fun _ => ⟨Or.inr rfl, hQ⟩⟩
    | succ m ih =>
      intro i hi hj
      have h1 := poR_at hv (k := i) (by omega)
      have h2 := poR_at hw (k := i) (by omega)
      refine v_X12_areSameKept_16 ⟨fun _ => ⟨fun z => by omega, fun _ => ?_⟩, fun z => by omega⟩
      rw [h1.1, h2.1, show ((i : Nat) : Int) + 1 = ((i + 1 : Nat) : Int) by omega]
      refine ⟨by omega, by omega, by omega, by omega, fun he => ⟨by omega, ih (i + 1) (by omega) (fun j hj' => ?_)⟩, fun he => ⟨by omega, no (fun z => he (by rw [z])) _⟩⟩
      by_cases hh : j = i
      · subst hh; exact he
      · exact hj j (by omega)
  exact key v.length 0 (Nat.zero_add _) (fun j hj => by omega)
theorem c_ruleFor {ec a : Nat} {y z : Nd} (hH : HldJ bk T n pl D MI ML) (hy : D.2.1[ec]? = some y) (hy1 : y.1 = 1 ∨ y.1 = 2) (hz : D.2.1[a]? = some z) (hz1 : z.1 = 1 ∨ z.1 = 2) (hQ : Q (some (vI (if ruI D.1.2.2 y.2.2.1 z.2.2.1 = -1 then -1 else 800 * (bk : Int) + ruI D.1.2.2 y.2.2.1 z.2.2.1))) (MI, ML, GR d e nw th x)) :
    wp cs mX12_ruleFor KD Q 0 (padL [vR 124, vI (ec : Nat), vI (a : Nat)] 5) [] (KD, MI, ML, GR d e nw th x) := by
  obtain ⟨⟨p1, p2, p3, p4, p5, p6, p7⟩, h7, h8⟩ := hH
  have hR := p1.2.2.1
  have h750 := hR.2.1
  have h600 := p2.2.1
  have hyl := (List.getElem?_eq_some_iff.mp hy).1
  have hzl := (List.getElem?_eq_some_iff.mp hz).1
  have hAy := (p2.2.2 ec y hy).2.2.1.2 hy1
  have hAz := (p2.2.2 a z hz).2.2.1.2 hz1
  have key : ∀ (u pre : List Rl), pre ++ u = D.1.2.2 → fIdx (fun x => decide (x.1 = y.2.2.1) && decide (x.2.1 = z.2.2.1)) u pre.length = ruI D.1.2.2 y.2.2.1 z.2.2.1 → wp cs mX12_ruleFor KD Q 9 [some (vR 124), some (vI (ec : Nat)), some (vI (a : Nat)), some (vI ((800 * bk + pre.length : Nat) : Int)), none] [] (KD, MI, ML, GR d e nw th x) := by
    intro u
    induction u with
    | nil =>
      intro pre hp hf
      rw [List.append_nil] at hp
      refine v_X12_ruleFor_9 ?_
      rw [h7]
      simp only [Int.toNat_natCast]
      rw [hR.1, ← hp]
      rw [← hp] at h750
      refine ⟨by omega, by omega, by omega, fun z => by omega, fun _ => ?_⟩
      rw [fIdx] at hf
      rw [← hf, if_pos rfl] at hQ; exact hQ
    | cons q u ih =>
      intro pre hp hf
      have hlen : pre.length < D.1.2.2.length := by rw [← hp]; simp
      have hq : D.1.2.2[pre.length]? = some q := by rw [← hp]; simp
      have hA := hR.2.2 pre.length q hq
      rw [fIdx_cons] at hf
      have el2 : pre.length + 1 = (pre ++ [q]).length := by simp
      have nxt : ¬ (q.1 = y.2.2.1 ∧ q.2.1 = z.2.2.1) → wp cs mX12_ruleFor KD Q 9 [some (vR 124), some (vI (ec : Nat)), some (vI (a : Nat)), some (vI (((800 * bk + pre.length : Nat) : Int) + 1)), none] [] (KD, MI, ML, GR d e nw th x) := fun hc => by
        rw [if_neg (fun w => hc (by rw [Bool.and_eq_true] at w; exact ⟨of_decide_eq_true w.1, of_decide_eq_true w.2⟩)), el2] at hf
        have := ih (pre ++ [q]) (by rw [List.append_assoc]; exact hp) hf
        rw [show ((800 * bk + (pre ++ [q]).length : Nat) : Int) = ((800 * bk + pre.length : Nat) : Int) + 1 by rw [List.length_append, List.length_singleton]; omega] at this
        exact this
      refine v_X12_ruleFor_9 ?_
      rw [h7]
      simp only [Int.toNat_natCast]
      rw [hR.1, show (600 * (bk : Int) + ((ec : Nat) : Int)).toNat = 600 * bk + ec by omega]
      refine ⟨by omega, by omega, by omega, fun _ => ⟨by omega, by omega, by omega, by omega, c_isSame p7 p4.2 p5 hA.1 hAy (fun r hr => rI_mk ⟨fun w => ⟨by omega, nxt (fun c => ?_)⟩, fun w => ?_⟩)⟩, fun z => by omega⟩
      · rw [if_pos c.1] at hr; omega
      have h1 : q.1 = y.2.2.1 := Decidable.byContradiction fun c => by rw [if_neg c] at hr; exact w hr
      rw [h7, show (600 * (bk : Int) + ((a : Nat) : Int)).toNat = 600 * bk + a by omega]
      refine ⟨by omega, by omega, by omega, c_isSame p7 p4.2 p5 hA.2.1 hAz (fun r' hr' => rI_mk ⟨fun w' => ⟨by omega, nxt (fun c => ?_)⟩, fun w' => ?_⟩)⟩
      · rw [if_pos c.2] at hr'; omega
      have h2 : q.2.1 = z.2.2.1 := Decidable.byContradiction fun c => by rw [if_neg c] at hr'; exact w' hr'
      rw [if_pos (by rw [Bool.and_eq_true]; exact ⟨decide_eq_true h1, decide_eq_true h2⟩)] at hf
      rw [← hf, if_neg (by omega)] at hQ
      rw [show ((800 * bk + pre.length : Nat) : Int) = 800 * (bk : Int) + (pre.length : Nat) by omega]
      exact hQ
  refine v_X12_ruleFor_0 ?_
  rw [h7]
  have := key D.1.2.2 [] rfl rfl
  rw [show ((800 * bk + ([] : List Rl).length : Nat) : Int) = 800 * (bk : Int) by simp] at this
  exact ⟨by omega, this⟩
end Pb08
