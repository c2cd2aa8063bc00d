/-! The reference's judge. -/
section Pb10
variable {cs : Cs} {Q : Option AV → Mm → Prop} {MI ML : Nat → Nat → Int} {bk d e nw th x pl : Nat} {T : Nat → Int} {n : Int} {fs : Fi} {D : Dm}
theorem c_hasAttrH {F L : Int} {ec : Nat} {a : By} (hH : HldJ bk T n pl D MI ML) (hE : ∀ (j : Nat) (y : Nd), D.2.1[j]? = some y → y.2.1 < (j : Int)) (he : ec ≤ D.2.1.length) (ha : nmR bk T n F L a)
    (hQ : Q (some (vI (if hasA D.2.1 (ec : Int) a = true then 1 else 0))) (MI, ML, GR d e nw th x)) :
    wp cs mX12_hasAttribute KD Q 0 (padL [vR 124, vI (ec : Nat), vI F, vI L] 6) [] (KD, MI, ML, GR d e nw th x) := by
  obtain ⟨⟨p1, p2, p3, p4, p5, p6, p7⟩, h7, h8⟩ := hH
  have h6 := p2.2.1
  have := c_hasAttr_l (cs := cs) (d := d) (e := e) (nw := nw) (th := th) (x := x) (ML := ML) h8 p7 p4.2 p5 p2 ha hQ (D.2.1.drop ec) (D.2.1.take ec) (List.take_append_drop _ _)
  rw [(hasA_take hE ec (Nat.le_refl _)).1, List.length_take, Nat.min_eq_left he, if_neg (by decide)] at this
  refine v_X12_hasAttribute_0 ?_
  rw [h8]
  refine ⟨by omega, by omega, ?_⟩
  rw [show 600 * (bk : Int) + ((ec : Nat) : Int) = ((600 * bk + ec : Nat) : Int) by omega]
  exact this
theorem c_rje277 {ec : Nat} {y : Nd} {l3 : Int} (hE : ∀ (j : Nat) (y : Nd), D.2.1[j]? = some y → y.2.1 < (j : Int)) (hy : D.2.1[ec]? = some y) (hy1 : y.1 = 1) : ∀ (u pre : List Rl) (fs : Fi) (MI : Nat → Nat → Int), pre ++ u = D.1.2.2 → HldJ bk T n pl D MI ML → JuR fs MI → fs.length + (jqF D.2.1 ec y.2.2.1 u).length ≤ 8000 →
    (∀ MI', JuR (fs ++ jqF D.2.1 ec y.2.2.1 u) MI' → jfrR MI MI' → Q none (MI', ML, GR d e nw th x)) →
    wp cs mX12_judgeElement KD Q 277 [some (vR 124), some (vI (ec : Nat)), some (vI (600 * (bk : Int))), some (vI l3), some (vI ((800 * bk + pre.length : Nat) : Int)), none] [] (KD, MI, ML, GR d e nw th x) := by
  have hel := (List.getElem?_eq_some_iff.mp hy).1
  intro u
  induction u with
  | nil =>
    intro pre fs MI hp hH hJ hl hQ
    rw [List.append_nil] at hp
    obtain ⟨⟨p1, p2, p3, p4, p5, p6, p7⟩, h7, h8⟩ := hH
    have hR := p1.2.2.1
    have h750 := hR.2.1
    rw [jqF, List.append_nil] at hQ
    refine v_X12_judgeElement_277 ?_
    rw [h7]
    simp only [Int.toNat_natCast]
    rw [hR.1, ← hp]
    rw [← hp] at h750
    exact ⟨by omega, by omega, by omega, fun z => by omega, fun _ => hQ MI hJ (jfrR_rfl _)⟩
  | cons q u ih =>
    intro pre fs MI hp hH hJ hl hQ
    have hH' := hH
    obtain ⟨⟨p1, p2, p3, p4, p5, p6, p7⟩, h7, h8⟩ := hH
    have hR := p1.2.2.1
    have h750 := hR.2.1
    have h600 := p2.2.1
    have hlen : pre.length < D.1.2.2.length := by rw [← hp]; simp
    have hq : D.1.2.2[pre.length]? = some q := by rw [← hp]; simp
    have hp' : (pre ++ [q]) ++ u = D.1.2.2 := by rw [List.append_assoc]; exact hp
    have hA := hR.2.2 pre.length q hq
    have hNy := (p2.2.2 ec y hy).2.2.1.2 (Or.inl hy1)
    rw [jqF] at hl hQ
    rw [List.length_append] at hl
    have el : ((800 * bk + pre.length : Nat) : Int) + 1 = ((800 * bk + (pre ++ [q]).length : Nat) : Int) := by rw [List.length_append, List.length_singleton]; omega
    have no : ¬ (q.1 = y.2.2.1 ∧ q.2.2.2.2.1 = 1 ∧ hasA D.2.1 (ec : Int) q.2.1 = false) → wp cs mX12_judgeElement KD Q 277 [some (vR 124), some (vI (ec : Nat)), some (vI (600 * (bk : Int))), some (vI l3), some (vI (((800 * bk + pre.length : Nat) : Int) + 1)), none] [] (KD, MI, ML, GR d e nw th x) := fun hc => by
      rw [if_neg hc, List.nil_append] at hQ
      rw [el]
      exact ih (pre ++ [q]) fs MI hp' hH' hJ (by omega) hQ
    refine v_X12_judgeElement_277 ?_
    rw [h7]
    simp only [Int.toNat_natCast]
    rw [hR.1, show (600 * (bk : Int) + ((ec : Nat) : Int)).toNat = 600 * bk + ec by omega]
    refine ⟨by omega, by omega, by omega, fun _ => ⟨by omega, by omega, by omega, c_isSame p7 p4.2 p5 hA.1 hNy (fun r hr => rI_mk ⟨fun w => ⟨by omega, no (fun c => ?_)⟩, fun w => ?_⟩)⟩, fun z => by omega⟩
    · rw [if_pos c.1] at hr; omega
    have h1 : q.1 = y.2.2.1 := Decidable.byContradiction fun c => by rw [if_neg c] at hr; exact w hr
    rw [hA.2.2.2.2.1]
    have hw := (howR_2 q.2.2.2.2.1).2.2
    refine ⟨fun h0 => ?_, fun h0 => ⟨by omega, no (fun c => h0 (hw.mpr c.2.1))⟩⟩
    have hu := hw.mp h0
    refine c_hasAttrH hH' hE (by omega) hA.2.1 (rI_mk ?_)
    cases hh : hasA D.2.1 (ec : Int) q.2.1 with
    | true =>
      rw [if_pos rfl]
      exact ⟨fun z => by omega, fun _ => ⟨by omega, no (fun c => by rw [hh] at c; cases c.2.2)⟩⟩
    | false =>
      rw [if_neg (by decide)]
      rw [if_pos ⟨h1, hu, hh⟩, List.length_singleton] at hl
      rw [if_pos ⟨h1, hu, hh⟩] at hQ
      refine ⟨fun _ => c_tell hJ (by omega) (fun MI2 J2 f2 => rV_mk ⟨by omega, ?_⟩), fun z => absurd rfl z⟩
      rw [el]
      exact ih (pre ++ [q]) _ MI2 hp' (HldJ_j hH' f2) J2 (by rw [fi_len]; omega) (fun MI' q1 q2 => hQ MI' (by rw [← List.append_assoc]; exact q1) (jfrR_tr f2 q2))
theorem c_rje65 {ec : Nat} {y : Nd} {l3 : Int} (hW : WfN D.2.1) (hAt : AtW D.2.1) (h1 : ∃ y, D.2.1[1]? = some y ∧ y.1 = 1) (hy : D.2.1[ec]? = some y) (hy1 : y.1 = 1) :
    ∀ (u pre : List Nd) (fs : Fi) (MI : Nat → Nat → Int), pre ++ u = (D.2.1.drop (ec + 1)).take (cntA D.2.1 (ec : Int)) → HldJ bk T n pl D MI ML → JuR fs MI → fs.length + (jasF D.1.2.2 D.2.1 y.2.2.1 u (ec + 1 + pre.length) ++ jqF D.2.1 ec y.2.2.1 D.1.2.2).length ≤ 8000 →
    (∀ MI', JuR (fs ++ (jasF D.1.2.2 D.2.1 y.2.2.1 u (ec + 1 + pre.length) ++ jqF D.2.1 ec y.2.2.1 D.1.2.2)) MI' → jfrR MI MI' → Q none (MI', ML, GR d e nw th x)) →
    wp cs mX12_judgeElement KD Q 65 [some (vR 124), some (vI (ec : Nat)), some (vI (600 * (bk : Int))), some (vI l3), some (vI ((ec + 1 + pre.length : Nat) : Int)), none] [] (KD, MI, ML, GR d e nw th x) := by
  have hel := (List.getElem?_eq_some_iff.mp hy).1
  have hat := hAt.2.1 ec hel
  have hal : ((D.2.1.drop (ec + 1)).take (cntA D.2.1 (ec : Int))).length = cntA D.2.1 (ec : Int) := by rw [List.length_take, List.length_drop]; omega
  intro u
  induction u with
  | nil =>
    intro pre fs MI hp hH hJ hl hQ
    rw [List.append_nil] at hp
    have hpl : pre.length = cntA D.2.1 (ec : Int) := by rw [hp]; exact hal
    rw [jasF, List.nil_append] at hl hQ
    have h600 := hH.1.2.1.2.1
    have p7 := hH.1.2.2.2.2.2.2
    have go := c_rje277 (cs := cs) (d := d) (e := e) (nw := nw) (th := th) (x := x) (Q := Q) (l3 := l3) hAt.1 hy hy1 D.1.2.2 [] fs MI rfl hH hJ hl hQ
    rw [show ((800 * bk + ([] : List Rl).length : Nat) : Int) = 800 * (bk : Int) by simp] at go
    refine v_X12_judgeElement_65 ?_
    rw [hH.2.1]
    simp only [Int.toNat_natCast]
    rw [hH.1.2.1.1]
    refine ⟨by omega, fun hlt => ⟨by omega, by omega, fun h2 => ⟨fun hu => ?_, fun hu => ⟨by omega, go⟩⟩, fun h2 => ⟨by omega, go⟩⟩, fun _ => ⟨by omega, go⟩⟩
    exfalso
    obtain ⟨z, hz⟩ : ∃ z, D.2.1[ec + 1 + pre.length]? = some z := ⟨_, List.getElem?_eq_getElem (by omega)⟩
    have hNz := hH.1.2.1.2.2 _ z hz
    rw [show (600 * (bk : Int) + ((ec + 1 + pre.length : Nat) : Int)).toNat = 600 * bk + (ec + 1 + pre.length) by omega] at h2 hu
    rw [hNz.1] at h2
    rw [hNz.2.1] at hu
    have := ((hat.2 _ z hz).mp ⟨h2, hu⟩).2
    omega
  | cons z u ih =>
    intro pre fs MI hp hH hJ hl hQ
    have h600 := hH.1.2.1.2.1
    have p7 := hH.1.2.2.2.2.2.2
    have p6 := hH.1.2.2.2.2.2.1
    have hR := hH.1.1.2.2.1
    have h750 := hR.2.1
    have hlen : pre.length < cntA D.2.1 (ec : Int) := by rw [← hal, ← hp]; simp
    have hz0 : ((D.2.1.drop (ec + 1)).take (cntA D.2.1 (ec : Int)))[pre.length]? = some z := by rw [← hp]; simp
    rw [List.getElem?_take, if_pos hlen, List.getElem?_drop] at hz0
    have hzl := (List.getElem?_eq_some_iff.mp hz0).1
    have hz2 := (hat.2 _ z hz0).mpr ⟨by omega, by omega⟩
    have hp' : (pre ++ [z]) ++ u = (D.2.1.drop (ec + 1)).take (cntA D.2.1 (ec : Int)) := by rw [List.append_assoc]; exact hp
    have el : ((ec + 1 + pre.length : Nat) : Int) + 1 = ((ec + 1 + (pre ++ [z]).length : Nat) : Int) := by rw [List.length_append, List.length_singleton]; omega
    have el2 : ec + 1 + pre.length + 1 = ec + 1 + (pre ++ [z]).length := by rw [List.length_append, List.length_singleton]; omega
    have hNz := hH.1.2.1.2.2 _ z hz0
    have hpz := hNz.2.2.2.1.2 (Or.inl hz2.1)
    obtain ⟨a, ha⟩ : ∃ a, a = ec + 1 + pre.length := ⟨_, rfl⟩
    rw [jasF, List.append_assoc, el2] at hl hQ
    rw [← ha] at hz0 hl hQ hNz hpz ⊢
    -- on to the next
    have nxt : ∀ (gs : Fi) (MI1 : Nat → Nat → Int), JuR gs MI1 → jfrR MI MI1 → gs.length + (jasF D.1.2.2 D.2.1 y.2.2.1 u (ec + 1 + (pre ++ [z]).length) ++ jqF D.2.1 ec y.2.2.1 D.1.2.2).length ≤ 8000 → gs ++ (jasF D.1.2.2 D.2.1 y.2.2.1 u (ec + 1 + (pre ++ [z]).length) ++ jqF D.2.1 ec y.2.2.1 D.1.2.2) = fs ++ ((if z.2.2.2.2.1 = 0 then jaS D.1.2.2 D.2.1 y.2.2.1 a z else []) ++ (jasF D.1.2.2 D.2.1 y.2.2.1 u (ec + 1 + (pre ++ [z]).length) ++ jqF D.2.1 ec y.2.2.1 D.1.2.2)) → wp cs mX12_judgeElement KD Q 261 [some (vR 124), some (vI (ec : Nat)), some (vI (600 * (bk : Int))), some (vI l3), some (vI (a : Nat)), none] [] (KD, MI1, ML, GR d e nw th x) := by
      intro gs MI1 J1 f1 hl1 hg
      refine v_X12_judgeElement_261 ⟨by omega, ?_⟩
      rw [show ((a : Nat) : Int) + 1 = ((ec + 1 + (pre ++ [z]).length : Nat) : Int) by omega]
      exact ih (pre ++ [z]) gs MI1 hp' (HldJ_j hH f1) J1 hl1 (fun MI' q1 q2 => hQ MI' (by rw [← hg]; exact q1) (jfrR_tr f1 q2))
    have tell : ∀ c : Int, z.2.2.2.2.1 = 0 → jaS D.1.2.2 D.2.1 y.2.2.1 a z = [(c, (a : Int))] → wp cs mX12_tellFinding KD (rV (GR d e nw th x) fun m139 n139 => wp cs mX12_judgeElement KD Q 261 [some (vR 124), some (vI (ec : Nat)), some (vI (600 * (bk : Int))), some (vI l3), some (vI (a : Nat)), none] [] (KD, m139, n139, (GR d e nw th x))) 0 (padL [vR 124, vI c, vI (a : Nat)] 3) [] (KD, MI, ML, (GR d e nw th x)) := fun c hd hja => by
      rw [if_pos hd, hja, List.length_append, List.length_singleton] at hl
      refine c_tell hJ (by omega) (fun MI2 J2 f2 => rV_mk (nxt _ MI2 J2 f2 (by rw [fi_len]; omega) ?_))
      rw [if_pos hd, hja, List.append_assoc]
    have skip : (if z.2.2.2.2.1 = 0 then jaS D.1.2.2 D.2.1 y.2.2.1 a z else []) = [] → wp cs mX12_judgeElement KD Q 261 [some (vR 124), some (vI (ec : Nat)), some (vI (600 * (bk : Int))), some (vI l3), some (vI (a : Nat)), none] [] (KD, MI, ML, GR d e nw th x) := fun hnil => by
      rw [hnil, List.nil_append] at hl
      exact nxt fs MI hJ (jfrR_rfl _) hl (by rw [hnil, List.nil_append])
    refine v_X12_judgeElement_65 ?_
    rw [hH.2.1]
    simp only [Int.toNat_natCast]
    rw [hH.1.2.1.1, show (600 * (bk : Int) + ((a : Nat) : Int)).toNat = 600 * bk + a by omega, hNz.1, hNz.2.1, hNz.2.2.2.2.1]
    refine ⟨by omega, fun _ => ⟨by omega, by omega, fun _ => ⟨fun _ => ⟨fun hd => ?_, fun hd => skip (if_neg hd)⟩, fun w => absurd hz2.2 w⟩, fun w => absurd hz2.1 w⟩, fun w => by omega⟩
    refine c_ruleFor hH hy (Or.inl hy1) hz0 (Or.inr hz2.1) (rI_mk ?_)
    have hja : jaS D.1.2.2 D.2.1 y.2.2.1 a z = jaS D.1.2.2 D.2.1 y.2.2.1 a z := rfl
    unfold jaS at hja
    by_cases hm : ruI D.1.2.2 y.2.2.1 z.2.2.1 = -1
    · rw [if_pos hm]
      refine ⟨fun _ => tell 9 hd ?_, fun w => by omega⟩
      unfold jaS; rw [if_pos hm]
    · rw [if_neg hm]
      obtain ⟨r, q, hr1, hr2, hr3, hr4, hr5⟩ := ruI_some hm
      have hrl := (List.getElem?_eq_some_iff.mp hr2).1
      have hAq := hR.2.2 r q hr2
      rw [hr1, show 800 * (bk : Int) + ((r : Nat) : Int) = ((800 * bk + r : Nat) : Int) by omega]
      have ja : jaS D.1.2.2 D.2.1 y.2.2.1 a z = if ofT q z.2.2.2.1 = false ∨ (q.2.2.2.2.1 = 2 ∧ q.2.2.2.2.2 ≠ z.2.2.2.1) then [(10, (a : Int))] else if q.2.2.1 = 1 ∧ takS D.1.2.2 D.2.1 a z.2.2.2.1 = true then [(11, (a : Int))] else [] := by
        unfold jaS; rw [if_neg hm, hr5]
      refine ⟨fun w => by omega, fun _ => c_risOf hH hpz hr2 (rI_mk ?_)⟩
      cases hof : ofT q z.2.2.2.1 with
      | false =>
        rw [if_neg (by decide)]
        exact ⟨fun _ => tell 10 hd (by rw [ja, if_pos (Or.inl hof)]), fun w => absurd rfl w⟩
      | true =>
        rw [if_pos rfl]
        refine ⟨fun w => by omega, fun _ => ⟨by omega, ?_⟩⟩
        simp only [Int.toNat_natCast]
        rw [hAq.2.2.2.2.1]
        have hw := (howR_2 q.2.2.2.2.1).2.1
        -- 233
        have s233 : ¬ (q.2.2.2.2.1 = 2 ∧ q.2.2.2.2.2 ≠ z.2.2.2.1) → wp cs mX12_judgeElement KD Q 233 [some (vR 124), some (vI (ec : Nat)), some (vI (600 * (bk : Int))), some (vI l3), some (vI (a : Nat)), some (vI ((800 * bk + r : Nat) : Int))] [] (KD, MI, ML, GR d e nw th x) := fun hfx => by
          have hno : ¬ (ofT q z.2.2.2.1 = false ∨ q.2.2.2.2.1 = 2 ∧ q.2.2.2.2.2 ≠ z.2.2.2.1) := fun w => w.elim (fun w' => by rw [hof] at w'; cases w') hfx
          rw [if_neg hno] at ja
          refine v_X12_judgeElement_233 ?_
          simp only [Int.toNat_natCast]
          rw [hAq.2.2.1]
          refine ⟨by omega, fun ht => c_risTaken hH hW hAt h1 hz0 hz2.1 (rI_mk ?_), fun ht => skip ?_⟩
          · cases htk : takS D.1.2.2 D.2.1 a z.2.2.2.1 with
            | false =>
              rw [if_neg (by decide)]
              refine ⟨fun _ => skip ?_, fun w => absurd rfl w⟩
              rw [if_pos hd, ja, if_neg (fun w => by rw [htk] at w; cases w.2)]
            | true =>
              rw [if_pos rfl]
              exact ⟨fun w => by omega, fun _ => tell 11 hd (by rw [ja, if_pos ⟨ht, htk⟩])⟩
          · rw [if_pos hd, ja, if_neg (fun w => ht w.1)]
        refine ⟨fun h2 => ?_, fun h2 => s233 (fun w => h2 (hw.mpr w.1))⟩
        have h2' := hw.mp h2
        have hpq := hAq.2.2.2.2.2 (by omega)
        refine c_sameKept p7 p6 hpq hpz (rI_mk ?_)
        by_cases hv : q.2.2.2.2.2 = z.2.2.2.1
        · rw [if_pos hv]
          exact ⟨fun w => by omega, fun _ => s233 (fun w => w.2 hv)⟩
        · rw [if_neg hv]
          exact ⟨fun _ => tell 10 hd (by rw [ja, if_pos (Or.inr ⟨h2', hv⟩)]), fun w => absurd rfl w⟩
theorem c_rjudgeElement {ec : Nat} {y : Nd} (hH : HldJ bk T n pl D MI ML) (hW : WfN D.2.1) (hAt : AtW D.2.1) (h1 : ∃ y, D.2.1[1]? = some y ∧ y.1 = 1) (hkd : ∀ q ∈ D.1.2.1, 0 ≤ q.2.1 ∧ q.2.1 ≤ 3) (hJ : JuR fs MI) (hy : D.2.1[ec]? = some y) (hy1 : y.1 = 1) (hl : fs.length + (jeS D.1.2.1 D.1.2.2 D.2.1 ec y).length ≤ 8000)
    (hQ : ∀ MI', JuR (fs ++ jeS D.1.2.1 D.1.2.2 D.2.1 ec y) MI' → jfrR MI MI' → Q none (MI', ML, GR d e nw th x)) :
    wp cs mX12_judgeElement KD Q 0 (padL [vR 124, vI (ec : Nat)] 6) [] (KD, MI, ML, GR d e nw th x) := by
  have hel := (List.getElem?_eq_some_iff.mp hy).1
  have h600 := hH.1.2.1.2.1
  have p7 := hH.1.2.2.2.2.2.2
  have hNy := (hH.1.2.1.2.2 ec y hy).2.2.1.2 (Or.inl hy1)
  unfold jeS at hl hQ
  rw [List.length_append] at hl
  have rest : ∀ (gs : Fi) (MI1 : Nat → Nat → Int) (l3 : Int), JuR gs MI1 → jfrR MI MI1 → gs.length + (jasF D.1.2.2 D.2.1 y.2.2.1 ((D.2.1.drop (ec + 1)).take (cntA D.2.1 (ec : Int))) (ec + 1) ++ jqF D.2.1 ec y.2.2.1 D.1.2.2).length ≤ 8000 →
      gs ++ (jasF D.1.2.2 D.2.1 y.2.2.1 ((D.2.1.drop (ec + 1)).take (cntA D.2.1 (ec : Int))) (ec + 1) ++ jqF D.2.1 ec y.2.2.1 D.1.2.2) = fs ++ ((if fIdx (clN y.2.2.1) D.1.2.1 0 = -1 then [(7, (ec : Int))] else if fitS D.1.2.1 D.2.1 (ec : Int) (dcA D.1.2.1 (fIdx (clN y.2.2.1) D.1.2.1 0)) = false then [(8, (ec : Int))] else []) ++ (jasF D.1.2.2 D.2.1 y.2.2.1 ((D.2.1.drop (ec + 1)).take (cntA D.2.1 (ec : Int))) (ec + 1) ++ jqF D.2.1 ec y.2.2.1 D.1.2.2)) →
      wp cs mX12_judgeElement KD Q 65 [some (vR 124), some (vI (ec : Nat)), some (vI (600 * (bk : Int))), some (vI l3), some (vI ((ec : Nat) + 1)), none] [] (KD, MI1, ML, GR d e nw th x) := by
    intro gs MI1 l3 J1 f1 hl1 hg
    have := c_rje65 (cs := cs) (d := d) (e := e) (nw := nw) (th := th) (x := x) (Q := Q) (l3 := l3) hW hAt h1 hy hy1 _ [] gs MI1 rfl (HldJ_j hH f1) J1 hl1 (fun MI' q1 q2 => hQ MI' (by rw [← hg]; exact q1) (jfrR_tr f1 q2))
    rw [show ((ec + 1 + ([] : List Nd).length : Nat) : Int) = (ec : Nat) + 1 by simp] at this
    exact this
  refine v_X12_judgeElement_0 ?_
  rw [hH.2.1, show (600 * (bk : Int) + ((ec : Nat) : Int)).toNat = 600 * bk + ec by omega]
  refine ⟨by omega, by omega, by omega, c_rdeclOf hH hNy (rI_mk ?_)⟩
  by_cases hm : fIdx (clN y.2.2.1) D.1.2.1 0 = -1
  · rw [if_pos hm]
    rw [if_pos hm, List.length_singleton] at hl
    refine ⟨fun _ => c_tell hJ (by omega) (fun MI2 J2 f2 => rV_mk ⟨by omega, rest _ MI2 _ J2 f2 (by rw [fi_len]; omega) ?_⟩), fun w => by omega⟩
    rw [if_pos hm, List.append_assoc]
  · rw [if_neg hm]
    rw [if_neg hm] at hl
    obtain ⟨j, q, hj1, hj2, hj3, -⟩ := fIdx_some hm
    rw [Nat.zero_add] at hj1
    have hdc : dcA D.1.2.1 (fIdx (clN y.2.2.1) D.1.2.1 0) = q := by unfold dcA; rw [hj1, Int.toNat_natCast, List.getD_eq_getElem?_getD, hj2]; rfl
    rw [hdc] at hl
    rw [hj1, show 30 * (bk : Int) + ((j : Nat) : Int) = ((30 * bk + j : Nat) : Int) by omega]
    refine ⟨fun w => by omega, fun _ => c_rfits hH hW hAt hel hj2 (hkd q (List.mem_of_getElem? hj2)) (rI_mk ?_)⟩
    cases hf : fitS D.1.2.1 D.2.1 (ec : Int) q with
    | false =>
      rw [if_neg (by decide)]
      rw [if_pos hf, List.length_singleton] at hl
      refine ⟨fun _ => c_tell hJ (by omega) (fun MI2 J2 f2 => rV_mk ⟨by omega, rest _ MI2 _ J2 f2 (by rw [fi_len]; omega) ?_⟩), fun w => absurd rfl w⟩
      rw [if_neg hm, hdc, if_pos hf, List.append_assoc]
    | true =>
      rw [if_pos rfl]
      refine ⟨fun w => by omega, fun _ => ⟨by omega, rest fs MI _ hJ (jfrR_rfl _) (by omega) ?_⟩⟩
      rw [if_neg hm, hdc, if_neg (by rw [hf]; decide), List.nil_append]
theorem c_rjudge152 (hW : WfN D.2.1) (hAt : AtW D.2.1) (h1 : ∃ y, D.2.1[1]? = some y ∧ y.1 = 1) (hkd : ∀ q ∈ D.1.2.1, 0 ≤ q.2.1 ∧ q.2.1 ≤ 3) : ∀ (u pre : List Nd) (fs : Fi) (MI : Nat → Nat → Int), pre ++ u = D.2.1 → HldJ bk T n pl D MI ML → JuR fs MI → fs.length + (jnF D.1.2.1 D.1.2.2 D.2.1 u pre.length).length ≤ 8000 →
    (∀ MI', JuR (fs ++ jnF D.1.2.1 D.1.2.2 D.2.1 u pre.length) MI' → jfrR MI MI' → Q none (MI', ML, GR d e nw th x)) →
    wp cs mX12_judge KD Q 152 [some (vR 124), some (vI (600 * (bk : Int))), some (vI (pre.length : Nat))] [] (KD, MI, ML, GR d e nw th x) := by
  intro u
  induction u with
  | nil =>
    intro pre fs MI hp hH hJ hl hQ
    rw [List.append_nil] at hp
    rw [jnF, List.append_nil] at hQ
    have p7 := hH.1.2.2.2.2.2.2
    refine v_X12_judge_152 ?_
    rw [hH.2.1]
    simp only [Int.toNat_natCast]
    rw [hH.1.2.1.1, ← hp]
    exact ⟨by omega, fun z => by omega, fun _ => hQ MI hJ (jfrR_rfl _)⟩
  | cons y u ih =>
    intro pre fs MI hp hH hJ hl hQ
    have p7 := hH.1.2.2.2.2.2.2
    have h600 := hH.1.2.1.2.1
    have hlen : pre.length < D.2.1.length := by rw [← hp]; simp
    have hy : D.2.1[pre.length]? = some y := by rw [← hp]; simp
    have hp' : (pre ++ [y]) ++ u = D.2.1 := by rw [List.append_assoc]; exact hp
    have hNy := hH.1.2.1.2.2 _ y hy
    rw [jnF, show pre.length + 1 = (pre ++ [y]).length by simp] at hl hQ
    refine v_X12_judge_152 ?_
    rw [hH.2.1]
    simp only [Int.toNat_natCast]
    rw [hH.1.2.1.1, show (600 * (bk : Int) + ((pre.length : Nat) : Int)).toNat = 600 * bk + pre.length by omega, hNy.1, show ((pre.length : Nat) : Int) + 1 = (((pre ++ [y]).length : Nat) : Int) by simp]
    refine ⟨by omega, fun _ => ⟨by omega, by omega, fun hk1 => ?_, fun hk1 => ⟨by simp; omega, ?_⟩⟩, fun z => by omega⟩
    · rw [if_pos hk1, List.length_append] at hl
      rw [if_pos hk1] at hQ
      refine c_rjudgeElement hH hW hAt h1 hkd hJ hy hk1 (by omega) (fun MI2 J2 f2 => rV_mk ⟨by simp; omega, ?_⟩)
      exact ih (pre ++ [y]) _ MI2 hp' (HldJ_j hH f2) J2 (by rw [List.length_append]; omega) (fun MI' q1 q2 => hQ MI' (by rw [← List.append_assoc]; exact q1) (jfrR_tr f2 q2))
    · rw [if_neg hk1, List.nil_append] at hl hQ
      exact ih (pre ++ [y]) fs MI hp' hH hJ hl hQ
theorem cntD_at {ds : List Dc} {j r : Nat} (h1 : ∀ (i : Nat) (q : Dc), i < j → ds[i]? = some q → q.2.2.1 ≤ r) (h2 : ∀ (i : Nat) (q : Dc), j ≤ i → ds[i]? = some q → r < q.2.2.1) (hj : j ≤ ds.length) : cntD ds r = j := by
  unfold cntD
  have e : ds = ds.take j ++ ds.drop j := (List.take_append_drop _ _).symm
  rw [e, List.filter_append, List.length_append]
  have f1 : (ds.take j).filter (fun q => decide (q.2.2.1 ≤ r)) = ds.take j := List.filter_eq_self.mpr (fun q hq => by
    obtain ⟨i, hi⟩ := List.getElem?_of_mem hq
    rw [List.getElem?_take] at hi
    split at hi
    · exact decide_eq_true (h1 i q (by assumption) hi)
    · cases hi)
  have f2 : (ds.drop j).filter (fun q => decide (q.2.2.1 ≤ r)) = [] := List.filter_eq_nil_iff.mpr (fun q hq => by
    obtain ⟨i, hi⟩ := List.getElem?_of_mem hq
    rw [List.getElem?_drop] at hi
    have := h2 (j + i) q (by omega) hi
    simp; omega)
  rw [f1, f2, List.length_take]
  simp; omega
theorem c_rjudge27 (hW : WfN D.2.1) (hAt : AtW D.2.1) (h1 : ∃ y, D.2.1[1]? = some y ∧ y.1 = 1) (hkd : ∀ q ∈ D.1.2.1, 0 ≤ q.2.1 ∧ q.2.1 ≤ 3) (hmo : ∀ (i j : Nat) (q q' : Dc), i ≤ j → D.1.2.1[i]? = some q → D.1.2.1[j]? = some q' → q.2.2.1 ≤ q'.2.2.1) {o : By} (ho : D.1.1 = some o) {tl : Fi} (htl : tl = (if nmA D.2.1 1 ≠ o then [(6, 1)] else []) ++ jnF D.1.2.1 D.1.2.2 D.2.1 D.2.1 0) :
    ∀ (m j r : Nat) (fs : Fi) (MI : Nat → Nat → Int), (D.1.2.1.length - j) + (D.1.2.2.length - r) = m → j ≤ D.1.2.1.length → r ≤ D.1.2.2.length → (∀ (i : Nat) (q : Dc), i < j → D.1.2.1[i]? = some q → q.2.2.1 ≤ r) → (∀ (i : Nat) (q : Dc), j ≤ i → D.1.2.1[i]? = some q → r ≤ q.2.2.1) → HldJ bk T n pl D MI ML → JuR fs MI → fs.length + (jdF D.1.2.1 D.1.2.2 (D.1.2.1.drop j) j r ++ tl).length ≤ 8000 →
    (∀ MI', JuR (fs ++ (jdF D.1.2.1 D.1.2.2 (D.1.2.1.drop j) j r ++ tl)) MI' → jfrR MI MI' → Q none (MI', ML, GR d e nw th x)) →
    wp cs mX12_judge KD Q 27 [some (vR 124), some (vI ((850 * bk + (j + r) : Nat) : Int)), none] [] (KD, MI, ML, GR d e nw th x) := by
  intro m
  induction m with
  | zero =>
    intro j r fs MI hm hj hr hlo hhi hH hJ hl hQ
    have hj' : j = D.1.2.1.length := by omega
    have hr' : r = D.1.2.2.length := by omega
    have hH' := hH
    obtain ⟨⟨p1, p2, p3, p4, p5, p6, p7⟩, h7, h8⟩ := hH
    have hS := p1.2.2.2
    have h30 := p1.2.1.2.1
    have h750 := p1.2.2.1.2.1
    have h600 := p2.2.1
    obtain ⟨y1, hy1, hk1⟩ := h1
    have h1l := (List.getElem?_eq_some_iff.mp hy1).1
    have hnm : nmA D.2.1 1 = y1.2.2.1 := by unfold nmA; rw [show (1 : Int).toNat = 1 from rfl, List.getD_eq_getElem?_getD, hy1]; rfl
    have hN1 := (p2.2.2 1 y1 hy1).2.2.1.2 (Or.inl hk1)
    have hDt := p1.1
    rw [ho] at hDt
    rw [show D.1.2.1.drop j = [] from List.drop_eq_nil_of_le (by omega), jdF, show D.1.2.2.length - r = 0 by omega, jrR, List.nil_append] at hl hQ
    rw [htl, hnm] at hl hQ
    rw [List.length_append] at hl
    refine v_X12_judge_27 ?_
    rw [h7]
    simp only [Int.toNat_natCast]
    rw [hS.1, show (600 * (bk : Int) + 1).toNat = 600 * bk + 1 by omega]
    refine ⟨by omega, by omega, by omega, fun z => by omega, fun _ => ⟨by omega, by omega, by omega, c_isSame p7 p4.2 p5 hN1 hDt.2 (fun t ht => rI_mk ⟨fun z => ?_, fun z => ?_⟩)⟩⟩
    · have hne : y1.2.2.1 ≠ o := fun w => by rw [if_pos w] at ht; omega
      rw [if_pos hne, List.length_singleton] at hl
      rw [if_pos hne] at hQ
      refine c_tell hJ (by omega) (fun MI2 J2 f2 => rV_mk ?_)
      have := c_rjudge152 (cs := cs) (d := d) (e := e) (nw := nw) (th := th) (x := x) (Q := Q) hW hAt ⟨y1, hy1, hk1⟩ hkd D.2.1 [] _ MI2 rfl (HldJ_j hH' f2) J2 (by rw [fi_len]; simp only [List.length_nil]; omega) (fun MI' q1 q2 => hQ MI' (by rw [← List.append_assoc]; exact q1) (jfrR_tr f2 q2))
      exact this
    · have heq : y1.2.2.1 = o := Decidable.byContradiction fun w => by rw [if_neg w] at ht; exact z ht
      rw [if_neg (fun w => w heq)] at hl
      rw [if_neg (fun w => w heq), List.nil_append] at hQ
      have := c_rjudge152 (cs := cs) (d := d) (e := e) (nw := nw) (th := th) (x := x) (Q := Q) hW hAt ⟨y1, hy1, hk1⟩ hkd D.2.1 [] fs MI rfl hH' hJ (by simp only [List.length_nil] at hl ⊢; omega) hQ
      exact this
  | succ m ih =>
    intro j r fs MI hm hj hr hlo hhi hH hJ hl hQ
    have hH' := hH
    obtain ⟨⟨p1, p2, p3, p4, p5, p6, p7⟩, h7, h8⟩ := hH
    have hS := p1.2.2.2
    have h30 := p1.2.1.2.1
    have h750 := p1.2.2.1.2.1
    -- a RULE
    have rule : r < D.1.2.2.length → (∀ (i : Nat) (q : Dc), j ≤ i → D.1.2.1[i]? = some q → r < q.2.2.1) → (∀ w, D.1.2.2[r]? = some w → jdF D.1.2.1 D.1.2.2 (D.1.2.1.drop j) j r = jrS D.1.2.2 r w ++ jdF D.1.2.1 D.1.2.2 (D.1.2.1.drop j) j (r + 1)) → wp cs mX12_judge KD Q 27 [some (vR 124), some (vI ((850 * bk + (j + r) : Nat) : Int)), none] [] (KD, MI, ML, GR d e nw th x) := by
      intro hrl hgt hjd
      obtain ⟨w, hw⟩ : ∃ w, D.1.2.2[r]? = some w := ⟨_, List.getElem?_eq_getElem hrl⟩
      have hc := cntD_at hlo hgt hj
      have hst := hS.2.2 r hrl
      rw [hc] at hst
      rw [hjd w hw, List.append_assoc] at hl hQ
      rw [List.length_append] at hl
      refine v_X12_judge_27 ?_
      rw [h7]
      simp only [Int.toNat_natCast]
      rw [hS.1, Nat.add_comm j r, hst, i_rem_pos (by omega) (by omega), i_div_pos (by omega) (by omega), show (2 * ((r : Nat) : Int) + 1) / 2 = (r : Nat) by omega]
      refine ⟨by omega, by omega, by omega, fun _ => ⟨by omega, fun z => by omega, fun _ => c_rjudgeRule hH' hJ hw (by omega) (fun MI2 J2 f2 => rV_mk ⟨by omega, ?_⟩)⟩, fun z => by omega⟩
      rw [show ((850 * bk + (r + j) : Nat) : Int) + 1 = ((850 * bk + (j + (r + 1)) : Nat) : Int) by omega]
      exact ih j (r + 1) _ MI2 (by omega) hj (by omega) (fun i q h1 h2 => by have := hlo i q h1 h2; omega) (fun i q h1 h2 => hgt i q h1 h2) (HldJ_j hH' f2) J2 (by rw [List.length_append]; omega) (fun MI' q1 q2 => hQ MI' (by rw [← List.append_assoc]; exact q1) (jfrR_tr f2 q2))
    by_cases hjl : j < D.1.2.1.length
    · obtain ⟨q, hq⟩ : ∃ q, D.1.2.1[j]? = some q := ⟨_, List.getElem?_eq_getElem hjl⟩
      have hdr : D.1.2.1.drop j = q :: D.1.2.1.drop (j + 1) := by rw [List.drop_eq_getElem_cons hjl, (List.getElem?_eq_some_iff.mp hq).2]
      have hq2 := hS.2.1 j q hq
      have hrq := hhi j q (Nat.le_refl _) hq
      by_cases hlt : r < q.2.2.1
      · refine rule (by omega) (fun i q' h1 h2 => by have := hmo j i q q' h1 hq h2; omega) (fun w hw => ?_)
        rw [hdr, jdF, jdF, show q.2.2.1 - r = (q.2.2.1 - (r + 1)) + 1 by omega, jrR, hw, if_pos hlt, show (if r + 1 < q.2.2.1 then q.2.2.1 else r + 1) = q.2.2.1 by split <;> omega]
        simp only [List.append_assoc]
      · have hre : r = q.2.2.1 := by omega
        rw [hdr, jdF, show q.2.2.1 - r = 0 by omega, jrR, List.nil_append, if_neg hlt, List.append_assoc] at hl hQ
        rw [List.length_append] at hl
        have hst := hq2.2
        rw [← hre] at hst
        refine v_X12_judge_27 ?_
        rw [h7]
        simp only [Int.toNat_natCast]
        rw [hS.1, Nat.add_comm j r, hst, i_rem_pos (by omega) (by omega), i_div_pos (by omega) (by omega), show (2 * ((j : Nat) : Int)) / 2 = (j : Nat) by omega]
        refine ⟨by omega, by omega, by omega, fun _ => ⟨by omega, fun _ => c_rjudgeDecl hH' hJ hq (by omega) (fun MI2 J2 f2 => rV_mk ⟨by omega, ?_⟩), fun z => by omega⟩, fun z => by omega⟩
        rw [show ((850 * bk + (r + j) : Nat) : Int) + 1 = ((850 * bk + ((j + 1) + r) : Nat) : Int) by omega]
        exact ih (j + 1) r _ MI2 (by omega) (by omega) hr (fun i q' h1 h2 => by
          by_cases hij : i = j
          · subst hij; rw [hq] at h2; cases h2; omega
          · exact hlo i q' (by omega) h2) (fun i q' h1 h2 => hhi i q' (by omega) h2) (HldJ_j hH' f2) J2 (by rw [List.length_append]; omega) (fun MI' q1 q2 => hQ MI' (by rw [← List.append_assoc]; exact q1) (jfrR_tr f2 q2))
    · refine rule (by omega) (fun i q' h1 h2 => by have := (List.getElem?_eq_some_iff.mp h2).1; omega) (fun w hw => ?_)
      rw [List.drop_eq_nil_of_le (by omega), jdF, jdF, show D.1.2.2.length - r = (D.1.2.2.length - (r + 1)) + 1 by omega, jrR, hw]
theorem c_rjudge (hH : HldJ bk T n pl D MI ML) (hW : WfN D.2.1) (hAt : AtW D.2.1) (h1 : ∃ y, D.2.1[1]? = some y ∧ y.1 = 1) (hkd : ∀ q ∈ D.1.2.1, 0 ≤ q.2.1 ∧ q.2.1 ≤ 3) (hmo : ∀ (i j : Nat) (q q' : Dc), i ≤ j → D.1.2.1[i]? = some q → D.1.2.1[j]? = some q' → q.2.2.1 ≤ q'.2.2.1) (hl : (judgeS D).length ≤ 8000)
    (hQ : ∀ MI', JuR (judgeS D) MI' → jfrR MI MI' → Q none (MI', ML, GR d e nw th x)) :
    wp cs mX12_judge KD Q 0 (padL [vR 124] 3) [] (KD, MI, ML, GR d e nw th x) := by
  refine v_X12_judge_0 (fun m2 e2 => ?_)
  have f2 : jfrR MI m2 := ⟨fun i z1 z2 z3 => by rw [e2]; funext k; rw [up2_ne z1], fun k hk => by rw [e2, up2_nk hk]⟩
  have H2 := HldJ_j hH f2
  have J2 : JuR [] m2 := ⟨by rw [e2, up2_eq]; rfl, by simp, fun i a s hi => by simp at hi⟩
  have p7 := H2.1.2.2.2.2.2.2
  have hDt := H2.1.1.1
  rw [H2.2.1]
  simp only [Int.toNat_natCast]
  refine ⟨by omega, ?_⟩
  cases ho : D.1.1 with
  | none =>
    rw [ho] at hDt
    have h127 : m2 127 bk = 0 := hDt
    rw [h127]
    unfold judgeS at hQ
    rw [ho] at hQ
    exact ⟨fun _ => hQ m2 J2 f2, fun z => absurd rfl z⟩
  | some o =>
    rw [ho] at hDt
    have h127 : m2 127 bk = 1 := hDt.1
    rw [h127]
    unfold judgeS at hl hQ
    rw [ho] at hl hQ
    simp only at hl hQ
    have := c_rjudge27 (cs := cs) (d := d) (e := e) (nw := nw) (th := th) (x := x) (Q := Q) hW hAt h1 hkd hmo ho rfl _ 0 0 [] m2 rfl (by omega) (by omega) (fun i q hi => by omega) (fun i q _ _ => by omega) H2 J2 (by rw [List.drop_zero]; simp only [List.length_nil]; omega) (fun MI' q1 q2 => hQ MI' (by rw [List.drop_zero, List.nil_append] at q1; exact q1) (jfrR_tr f2 q2))
    rw [show ((850 * bk + (0 + 0) : Nat) : Int) = 850 * (bk : Int) by omega] at this
    exact ⟨fun z => by omega, fun _ => ⟨by omega, this⟩⟩
end Pb10
