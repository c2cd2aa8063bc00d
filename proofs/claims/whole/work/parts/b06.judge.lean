/-! The class's judge. -/
theorem att_end {ns : List Nd} {i : Nat} {y z : Nd} (hW : WfN ns) (hA : AtW ns) (hy : ns[i]? = some y) (hy2 : y.1 ≠ 2) (hz : ns[i + 1 + cntA ns (i : Int)]? = some z) : z.1 ≠ 2 := by
  intro h2
  have hil := (List.getElem?_eq_some_iff.mp hy).1
  have hpl := (List.getElem?_eq_some_iff.mp hz).1
  obtain ⟨w1, w2, ⟨p, w3, w3'⟩, w4⟩ := hW.2 _ z hz (by omega)
  have he : z.2.1.toNat < ns.length := (List.getElem?_eq_some_iff.mp w3).1
  have hat := hA.2.1 z.2.1.toNat he
  have h5 := (hat.2 _ z hz).mp ⟨h2, by omega⟩
  by_cases c1 : z.2.1.toNat = i
  · rw [c1] at h5; omega
  · by_cases c2 : z.2.1.toNat < i
    · have h6 := (hat.2 i y hy).mpr ⟨c2, by omega⟩
      exact hy2 h6.1
    · have h6 := ((hA.2.1 i hil).2 _ p w3).mpr ⟨by omega, by omega⟩
      have := h6.1
      omega
theorem cntA_text {ns : List Nd} {i : Nat} {y : Nd} (hW : WfN ns) (hA : AtW ns) (hy : ns[i]? = some y) (h0 : y.1 ≠ 0) (h1 : y.1 ≠ 1) : cntA ns (i : Int) = 0 := by
  have hil := (List.getElem?_eq_some_iff.mp hy).1
  have hat := hA.2.1 i hil
  refine Decidable.byContradiction fun w => ?_
  obtain ⟨z, hz⟩ : ∃ z, ns[i + 1]? = some z := ⟨_, List.getElem?_eq_getElem (by omega)⟩
  have h2 := (hat.2 (i + 1) z hz).mpr ⟨by omega, by omega⟩
  obtain ⟨w1, w2, ⟨p, w3, w3'⟩, w4⟩ := hW.2 _ z hz (by omega)
  rw [h2.2, Int.toNat_natCast, hy] at w3
  cases w3
  omega
theorem jqF_skip {ns : List Nd} {e : Nat} {o : By} {rs : List Rl} : ∀ (m k : Nat), (∀ (i : Nat) (z : Rl), k ≤ i → i < k + m → rs[i]? = some z → z.1 ≠ o) → k + m ≤ rs.length → jqF ns e o (rs.drop k) = jqF ns e o (rs.drop (k + m))
  | 0, k, _, _ => rfl
  | m + 1, k, h, hl => by
    have hk : k < rs.length := by omega
    rw [List.drop_eq_getElem_cons hk, jqF, if_neg (fun z => h k _ (Nat.le_refl _) (by omega) (List.getElem?_eq_getElem hk) z.1), List.nil_append, jqF_skip m (k + 1) (fun i z h1 h2 h3 => h i z (by omega) (by omega) h3) (by omega)]
    congr 2; omega
theorem jqF_nil {ns : List Nd} {e : Nat} {o : By} : ∀ {l : List Rl}, (∀ q ∈ l, q.1 ≠ o) → jqF ns e o l = []
  | [], _ => rfl
  | q :: t, h => by rw [jqF, if_neg (fun z => h q List.mem_cons_self z.1), List.nil_append, jqF_nil (fun z hz => h z (List.mem_cons_of_mem _ hz))]
section Pb06
variable {cs : Cs} {Q : Option AV → Mm → Prop} {MI ML : Nat → Nat → Int} {b d e nw th x pl : Nat} {T : Nat → Int} {n : Int} {N : List By} {fs : Fi} {ids : List Nat} {D : Dt} {ns : List Nd} {dp : Int}
theorem c_je127 (hbd : b = 38 ∨ b = 81) {k : Nat} {y : Nd} {o : By} {l3 l4 : Int} (hW : WfN ns) (hAt : AtW ns) (hG : RuG D.2.2) (hV : RuV D.2.2) (hy : ns[k]? = some y) (h1 : y.1 = 1) :
    ∀ (m kk t : Nat) (fs : Fi) (MI : Nat → Nat → Int), D.2.2.length - kk ≤ m → kk ≤ D.2.2.length → t + cntO (D.2.2.drop kk) o ≤ 10 → DocC b T n N pl D ns [] dp MI ML → JuC fs MI → IdsC ids MI → fs.length + (jqF ns k o (D.2.2.drop kk)).length ≤ 8000 →
    (∀ MI', JuC (fs ++ jqF ns k o (D.2.2.drop kk)) MI' → IdsC ids MI' → jfr MI MI' → Q none (MI', ML, GR d e nw th x)) →
    wp cs mX4_judgeElement KD Q 127 [some (vR 11), some (vR b), some (vI (k : Nat)), some (vI l3), some (vI l4), some (vI (fIdx (ofN o) (D.2.2.drop kk) kk)), some (vI (t : Nat)), none] [] (KD, MI, ML, GR d e nw th x) := by
  have hkl := (List.getElem?_eq_some_iff.mp hy).1
  intro m
  induction m with
  | zero =>
    intro kk t fs MI hm hkk ht hD hJ hI hl hQ
    have hnil : D.2.2.drop kk = [] := List.drop_eq_nil_of_le (by omega)
    rw [hnil] at hQ ⊢
    rw [jqF, List.append_nil] at hQ
    exact v_X4_judgeElement_127 hbd ⟨fun _ => ⟨fun _ => hQ MI hJ hI (jfr_rfl _), fun z => absurd rfl z⟩, fun _ => hQ MI hJ hI (jfr_rfl _)⟩
  | succ m ih =>
    intro kk t fs MI hm hkk ht hD hJ hI hl hQ
    have hR := hD.2.2.2.1
    have h750 := hR.2.1
    have hN := hD.2.2.2.2.1
    have h600 := hN.2.1
    by_cases hne : fIdx (ofN o) (D.2.2.drop kk) kk = -1
    · have hno := fIdx_m1 hne
      rw [jqF_nil (fun q hq => by have := hno q hq; simpa [ofN] using this), List.append_nil] at hQ
      rw [hne]
      exact v_X4_judgeElement_127 hbd ⟨fun _ => ⟨fun _ => hQ MI hJ hI (jfr_rfl _), fun z => absurd rfl z⟩, fun _ => hQ MI hJ hI (jfr_rfl _)⟩
    obtain ⟨j, z, hj1, hj2, hj3, hj4, hj5⟩ := fIdx_drop hne
    have hz : z.1 = o := by simpa [ofN] using hj4
    have hjl := (List.getElem?_eq_some_iff.mp hj3).1
    have hcnt := cntO_skip hj2 hj3 hz
    have hA := hR.2.2.2.2 j z hj3
    have hsk := jqF_skip (ns := ns) (e := k) (o := o) (rs := D.2.2) (j - kk) kk (fun i w h1 h2 h3 => by have := hj5 i w h1 (by omega) h3; simpa [ofN] using this) (by omega)
    rw [show kk + (j - kk) = j by omega, List.drop_eq_getElem_cons hjl] at hsk
    have hzz : D.2.2[j] = z := (List.getElem?_eq_some_iff.mp hj3).2
    rw [hzz, jqF] at hsk
    rw [hsk] at hl hQ
    rw [List.length_append] at hl
    rw [hj1]
    -- on to the next
    have nxt : ∀ (gs : Fi) (MI1 : Nat → Nat → Int) (s0 : Int), JuC gs MI1 → IdsC ids MI1 → jfr MI MI1 → gs.length + (jqF ns k o (D.2.2.drop (j + 1))).length ≤ 8000 → (gs ++ jqF ns k o (D.2.2.drop (j + 1)) = fs ++ ((if z.1 = o ∧ z.2.2.2.2.1 = 1 ∧ hasA ns (k : Int) z.2.1 = false then [(12, (k : Int))] else []) ++ jqF ns k o (D.2.2.drop (j + 1)))) → wp cs mX4_judgeElement KD Q 192 [some (vR 11), some (vR b), some (vI (k : Nat)), some (vI l3), some (vI l4), some (vI (j : Nat)), some (vI (t : Nat)), some (vI s0)] [] (KD, MI1, ML, GR d e nw th x) := by
      intro gs MI1 s0 J1 I1 f1 hl1 hg
      have D1 := DocC_j hbd hD f1
      have A1 := D1.2.2.2.1.2.2.2.2 j z hj3
      refine v_X4_judgeElement_192 hbd ⟨by omega, by omega, ?_⟩
      simp only [Int.toNat_natCast]
      rw [A1.2.2.2.2.2.2.2.2, hz, show ((t : Nat) : Int) + 1 = ((t + 1 : Nat) : Int) by omega]
      exact ih (j + 1) (t + 1) gs MI1 (by omega) (by omega) (by omega) D1 J1 I1 hl1 (fun MI' h1 h2 h3 => hQ MI' (by rw [← hg]; exact h1) h2 (jfr_tr f1 h3))
    have s159 : ∀ s0 : Int, s0 = (if z.2.2.2.2.1 = 1 then 1 else 0) → wp cs mX4_judgeElement KD Q 159 [some (vR 11), some (vR b), some (vI (k : Nat)), some (vI l3), some (vI l4), some (vI (j : Nat)), some (vI (t : Nat)), none] [vI s0] (KD, MI, ML, GR d e nw th x) := by
      intro s0 hs0
      refine v_X4_judgeElement_159 hbd ⟨fun h0 => ?_, fun h0 => ?_⟩
      · have hne1 : ¬ z.2.2.2.2.1 = 1 := fun w => by rw [if_pos w] at hs0; omega
        exact nxt fs MI s0 hJ hI (jfr_rfl _) (by omega) (by rw [if_neg (fun w => hne1 w.2.1), List.nil_append])
      · have heq1 : z.2.2.2.2.1 = 1 := Decidable.byContradiction fun w => by rw [if_neg w] at hs0; omega
        have hAk := hN.2.2.2 k y hy
        have hat := (hAt.2.1 k hkl).1
        simp only [Int.toNat_natCast]
        refine ⟨by omega, w_X3_attributeOf hbd (by omega) (by simp only [Int.toNat_natCast]; rw [hAk.2.2.2.1]; omega) (rI_mk ?_)⟩
        have hh := atC_has (b := b) hD.1.2.2.2.2.2 hN hAt hkl hA.1 (hV z (List.mem_of_getElem? hj3)).2.1
        refine ⟨fun hm1 => ?_, fun hm1 => ?_⟩
        · have hf := hh.mp hm1
          rw [if_pos ⟨hz, heq1, hf⟩, List.length_singleton] at hl
          refine c_report hJ hI (by omega) (by omega) (by omega) (fun MI2 J2 I2 f2 => rV_mk (nxt _ MI2 s0 J2 I2 f2 (by rw [fi_len]; omega) ?_))
          rw [if_pos ⟨hz, heq1, hf⟩, List.append_assoc]
        · refine nxt fs MI s0 hJ hI (jfr_rfl _) (by omega) ?_
          rw [if_neg (fun w => hm1 (hh.mpr w.2.2)), List.nil_append]
    refine v_X4_judgeElement_127 hbd ⟨fun _ => ⟨fun w => by omega, fun _ => ?_⟩, fun w => by omega⟩
    simp only [Int.toNat_natCast]
    rw [hA.2.2.2.2.2.2.1]
    exact ⟨by omega, fun h1 => s159 1 (by rw [if_pos h1]), fun h1 => s159 0 (by rw [if_neg h1])⟩
theorem c_je66 (hbd : b = 38 ∨ b = 81) {k : Nat} {y : Nd} {l3 : Int} (hn : n ≤ 6000) (hW : WfN ns) (hAt : AtW ns) (hG : RuG D.2.2) (hV : RuV D.2.2) (hy : ns[k]? = some y) (h1 : y.1 = 1) :
    ∀ (u pre : List Nd) (fs : Fi) (MI : Nat → Nat → Int), pre ++ u = (ns.drop (k + 1)).take (cntA ns (k : Int)) → DocC b T n N pl D ns [] dp MI ML → JuC fs MI → IdsC (idsF D.2.2 ns (k + 1 + pre.length)) MI → fs.length + (jasF D.2.2 ns y.2.2.1 u (k + 1 + pre.length) ++ jqF ns k y.2.2.1 D.2.2).length ≤ 8000 →
    (∀ MI', JuC (fs ++ (jasF D.2.2 ns y.2.2.1 u (k + 1 + pre.length) ++ jqF ns k y.2.2.1 D.2.2)) MI' → IdsC (idsF D.2.2 ns (k + 1 + cntA ns (k : Int))) MI' → jfr MI MI' → Q none (MI', ML, GR d e nw th x)) →
    wp cs mX4_judgeElement KD Q 66 [some (vR 11), some (vR b), some (vI (k : Nat)), some (vI l3), some (vI (fIdx (ofN y.2.2.1) D.2.2 0)), some (vI ((k + 1 + pre.length : Nat) : Int)), none, none] [] (KD, MI, ML, GR d e nw th x) := by
  have hkl := (List.getElem?_eq_some_iff.mp hy).1
  have hat := hAt.2.1 k hkl
  have hal : ((ns.drop (k + 1)).take (cntA ns (k : Int))).length = cntA ns (k : Int) := by rw [List.length_take, List.length_drop]; omega
  intro u
  induction u with
  | nil =>
    intro pre fs MI hp hD hJ hI hl hQ
    rw [List.append_nil] at hp
    have hpl : pre.length = cntA ns (k : Int) := by rw [hp]; exact hal
    have hN := hD.2.2.2.2.1
    have h600 := hN.2.1
    have hAk := hN.2.2.2 k y hy
    rw [jasF, List.nil_append] at hl hQ
    rw [hpl] at hI
    refine v_X4_judgeElement_66 hbd ?_
    simp only [Int.toNat_natCast]
    rw [hAk.2.2.2.1]
    refine ⟨by omega, by omega, fun _ => ?_, fun z => by omega⟩
    have := c_je127 (cs := cs) (d := d) (e := e) (nw := nw) (th := th) (x := x) (Q := Q) (o := y.2.2.1) (l3 := l3) (l4 := fIdx (ofN y.2.2.1) D.2.2 0) hbd hW hAt hG hV hy h1 D.2.2.length 0 0 fs MI (by omega) (by omega) (by rw [List.drop_zero]; have := hG.1 y.2.2.1; omega) hD hJ hI (by rw [List.drop_zero]; exact hl) (fun MI' h1 h2 h3 => hQ MI' (by rw [List.drop_zero] at h1; exact h1) h2 h3)
    rw [List.drop_zero] at this
    exact this
  | cons z u ih =>
    intro pre fs MI hp hD hJ hI hl hQ
    have hN := hD.2.2.2.2.1
    have h600 := hN.2.1
    have hAk := hN.2.2.2 k y hy
    have hlen : pre.length < cntA ns (k : Int) := by rw [← hal, ← hp]; simp
    have hz0 : ((ns.drop (k + 1)).take (cntA ns (k : Int)))[pre.length]? = some z := by rw [← hp]; simp
    rw [List.getElem?_take, if_pos hlen, List.getElem?_drop] at hz0
    have hzl := (List.getElem?_eq_some_iff.mp hz0).1
    have hz2 := (hat.2 _ z hz0).mpr ⟨by omega, by omega⟩
    have hp' : (pre ++ [z]) ++ u = (ns.drop (k + 1)).take (cntA ns (k : Int)) := by rw [List.append_assoc]; exact hp
    have el : ((k + 1 + pre.length : Nat) : Int) + 1 = ((k + 1 + (pre ++ [z]).length : Nat) : Int) := by rw [List.length_append, List.length_singleton]; omega
    have el2 : k + 1 + pre.length + 1 = k + 1 + (pre ++ [z]).length := by rw [List.length_append, List.length_singleton]; omega
    have hAz := hN.2.2.2 _ z hz0
    have hv := (hW.2 _ z hz0 (by omega)).1
    have hfl : (z.2.2.2.2.1 = 0 ∨ z.2.2.2.2.1 = 1) ∧ z.2.2.2.2.2 = 0 ∧ z.2.2.1 ≠ [] := by
      rcases hv.1 with w | w | w
      · have := w.1; omega
      · exact ⟨w.2.2.1, w.2.2.2, w.2.1⟩
      · have := w.1; omega
    rw [jasF, List.append_assoc, el2] at hl hQ
    refine v_X4_judgeElement_66 hbd ?_
    simp only [Int.toNat_natCast]
    rw [hAk.2.2.2.1, hAz.2.2.2.2.2.1, hfl.2.1, el]
    refine ⟨by omega, by omega, fun w => by omega, fun _ => ⟨by omega, fun h0 => ?_, fun h0 => ⟨by omega, ?_⟩⟩⟩
    · have hd0 : z.2.2.2.2.1 = 0 := by
        rcases hfl.1 with w | w
        · exact w
        · rw [w] at h0; exact absurd h0 (by decide)
      rw [if_pos hd0, List.length_append] at hl
      rw [if_pos hd0] at hQ
      have hid : isId N (MI (b + 34) (k + 1 + pre.length)) z.2.2.1 := by
        rcases hAz.2.2.1 with w | w
        · exact absurd w.1 hfl.2.2
        · exact w
      refine c_rfind hbd hD.1.2.2.2.2.2 hD.2.2.2.1 (Or.inl hid) (rI_mk ?_)
      refine c_judgeAttribute hbd hn hD hJ hI hz0 hz2.1 hd0 (o := y.2.2.1) (by unfold nmA; rw [hz2.2, Int.toNat_natCast, List.getD_eq_getElem?_getD, hy]; rfl) (by omega) (fun MI2 J2 I2 f2 => rV_mk ⟨by omega, ?_⟩)
      rw [el2] at I2
      exact ih (pre ++ [z]) _ MI2 hp' (DocC_j hbd hD f2) J2 I2 (by rw [List.length_append]; omega) (fun MI' q1 q2 q3 => hQ MI' (by rw [← List.append_assoc]; exact q1) q2 (jfr_tr f2 q3))
    · have hd1 : ¬ z.2.2.2.2.1 = 0 := fun w => by rw [w] at h0; exact h0 (by decide)
      rw [if_neg hd1, List.nil_append] at hl hQ
      have hno := idsF_no (rs := D.2.2) hz0 (by unfold idA; exact decide_eq_false (fun w => hd1 w.2.1))
      rw [el2] at hno
      exact ih (pre ++ [z]) fs MI hp' hD hJ (by rw [hno]; exact hI) hl hQ
theorem c_judgeElement (hbd : b = 38 ∨ b = 81) {k : Nat} {y : Nd} (hn : n ≤ 6000) (hW : WfN ns) (hAt : AtW ns) (hG : RuG D.2.2) (hV : RuV D.2.2) (hD : DocC b T n N pl D ns [] dp MI ML) (hJ : JuC fs MI) (hI : IdsC (idsF D.2.2 ns k) MI) (hy : ns[k]? = some y) (h1 : y.1 = 1) (hl : fs.length + (jeS D.2.1 D.2.2 ns k y).length ≤ 8000)
    (hQ : ∀ MI', JuC (fs ++ jeS D.2.1 D.2.2 ns k y) MI' → IdsC (idsF D.2.2 ns (k + 1 + cntA ns (k : Int))) MI' → jfr MI MI' → Q none (MI', ML, GR d e nw th x)) :
    wp cs mX4_judgeElement KD Q 0 (padL [vR 11, vR b, vI (k : Nat)] 8) [] (KD, MI, ML, GR d e nw th x) := by
  have hkl := (List.getElem?_eq_some_iff.mp hy).1
  have hN := hD.2.2.2.2.1
  have h600 := hN.2.1
  have hNam := hD.1
  have hid := nm_or hN hW hy h1
  have hidx := hD.2.1 (MI (b + 34) k).toNat y.2.2.1 hid.2
  have hidl := (List.getElem?_eq_some_iff.mp hid.2).1
  have hid0 := hid.1
  have h2020 := hNam.2.1
  unfold jeS at hl hQ
  rw [List.length_append] at hl
  have hno := idsF_no (rs := D.2.2) hy (by unfold idA; exact decide_eq_false (fun w => by have := w.1; omega))
  rw [← hno] at hI
  -- the attributes and what wants
  have rest : ∀ (gs : Fi) (MI1 : Nat → Nat → Int) (l3 : Int), JuC gs MI1 → IdsC (idsF D.2.2 ns (k + 1)) MI1 → jfr MI MI1 → gs.length + (jasF D.2.2 ns y.2.2.1 ((ns.drop (k + 1)).take (cntA ns (k : Int))) (k + 1) ++ jqF ns k y.2.2.1 D.2.2).length ≤ 8000 →
      gs ++ (jasF D.2.2 ns y.2.2.1 ((ns.drop (k + 1)).take (cntA ns (k : Int))) (k + 1) ++ jqF ns k y.2.2.1 D.2.2) = fs ++ ((if fIdx (clN y.2.2.1) D.2.1 0 = -1 then [(7, (k : Int))] else if fitS D.2.1 ns (k : Int) (dcA D.2.1 (fIdx (clN y.2.2.1) D.2.1 0)) = false then [(8, (k : Int))] else []) ++ (jasF D.2.2 ns y.2.2.1 ((ns.drop (k + 1)).take (cntA ns (k : Int))) (k + 1) ++ jqF ns k y.2.2.1 D.2.2)) →
      wp cs mX4_judgeElement KD Q 66 [some (vR 11), some (vR b), some (vI (k : Nat)), some (vI l3), some (vI (fIdx (ofN y.2.2.1) D.2.2 0)), some (vI ((k : Nat) + 1)), none, none] [] (KD, MI1, ML, GR d e nw th x) := by
    intro gs MI1 l3 J1 I1 f1 hl1 hg
    have := c_je66 (cs := cs) (d := d) (e := e) (nw := nw) (th := th) (x := x) (Q := Q) (l3 := l3) hbd hn hW hAt hG hV hy h1 _ [] gs MI1 rfl (DocC_j hbd hD f1) J1 I1 hl1 (fun MI' q1 q2 q3 => hQ MI' (by rw [← hg]; exact q1) q2 (jfr_tr f1 q3))
    rw [show ((k + 1 + ([] : List Nd).length : Nat) : Int) = (k : Nat) + 1 by simp] at this
    exact this
  refine v_X4_judgeElement_0 hbd ?_
  simp only [Int.toNat_natCast]
  refine ⟨by omega, w_X5_specOf hbd (by rw [hNam.1]; omega) (fun _ => rI_mk ?_) (fun hr => by exfalso; rw [hNam.1] at hr; omega)⟩
  refine w_X5_ruleOf hbd (by rw [hNam.1]; omega) (fun _ => rI_mk ?_) (fun hr => by exfalso; rw [hNam.1] at hr; omega)
  rw [hidx.1, hidx.2]
  refine ⟨fun hm => ?_, fun hm => ?_⟩
  · rw [if_pos hm, List.length_singleton] at hl
    refine c_report hJ hI (by omega) (by omega) (by omega) (fun MI2 J2 I2 f2 => rV_mk ⟨by omega, rest _ MI2 _ J2 I2 f2 (by rw [fi_len]; omega) ?_⟩)
    rw [if_pos hm, List.append_assoc]
  · rw [if_neg hm] at hl
    obtain ⟨j, q, hj1, hj2, hj3, -⟩ := fIdx_some hm
    rw [Nat.zero_add] at hj1
    have hdc : dcA D.2.1 (fIdx (clN y.2.2.1) D.2.1 0) = q := by unfold dcA; rw [hj1, Int.toNat_natCast, List.getD_eq_getElem?_getD, hj2]; rfl
    rw [hdc] at hl
    rw [hj1]
    refine c_fits hbd hD hW hAt ⟨y, hy, by omega⟩ hj2 (rI_mk ?_)
    cases hf : fitS D.2.1 ns (k : Int) q with
    | false =>
      rw [if_neg (by decide)]
      rw [if_pos hf, List.length_singleton] at hl
      refine ⟨fun _ => c_report hJ hI (by omega) (by omega) (by omega) (fun MI2 J2 I2 f2 => rV_mk ⟨by omega, rest _ MI2 _ J2 I2 f2 (by rw [fi_len]; omega) ?_⟩), fun z => absurd rfl z⟩
      rw [if_neg hm, hdc, if_pos hf, List.append_assoc]
    | true =>
      rw [if_pos rfl]
      refine ⟨fun z => by omega, fun _ => ⟨by omega, rest fs MI _ hJ hI (jfr_rfl _) (by omega) ?_⟩⟩
      rw [if_neg hm, hdc, if_neg (by rw [hf]; decide), List.nil_append]
/-- RULES in a row -/
theorem c_jd52 (hbd : b = 38 ∨ b = 81) {l3 : Int} (hn : n ≤ 6000) (hG : RuG D.2.2) : ∀ (m r : Nat) (fs : Fi) (MI : Nat → Nat → Int), D.2.2.length - r = m → r ≤ D.2.2.length → DocC b T n N pl D ns [] dp MI ML → JuC fs MI → IdsC ids MI → fs.length + (jrR D.2.2 m r).length ≤ 8000 →
    (∀ MI', JuC (fs ++ jrR D.2.2 m r) MI' → IdsC ids MI' → jfr MI MI' → Q none (MI', ML, GR d e nw th x)) →
    wp cs mX4_judgeDeclarations KD Q 52 [some (vR 11), some (vR b), some (vI (r : Nat)), some (vI l3)] [] (KD, MI, ML, GR d e nw th x) := by
  intro m
  induction m with
  | zero =>
    intro r fs MI hm hr hD hJ hI hl hQ
    refine v_X4_judgeDeclarations_52 hbd ?_
    rw [hD.2.2.2.1.1]
    rw [jrR, List.append_nil] at hQ
    exact ⟨fun z => by omega, fun _ => hQ MI hJ hI (jfr_rfl _)⟩
  | succ m ih =>
    intro r fs MI hm hr hD hJ hI hl hQ
    obtain ⟨q, hq⟩ : ∃ q, D.2.2[r]? = some q := ⟨_, List.getElem?_eq_getElem (by omega)⟩
    rw [jrR, hq] at hl hQ
    simp only at hl hQ
    rw [List.length_append] at hl
    have h750 := hD.2.2.2.1.2.1
    refine v_X4_judgeDeclarations_52 hbd ?_
    rw [hD.2.2.2.1.1]
    refine ⟨fun _ => c_judgeRule hbd hn hD hG hJ hI hq (by omega) (fun MI2 J2 I2 f2 => rV_mk ⟨by omega, ?_⟩), fun z => by omega⟩
    rw [show ((r : Nat) : Int) + 1 = ((r + 1 : Nat) : Int) by omega]
    exact ih (r + 1) _ MI2 (by omega) (by omega) (DocC_j hbd hD f2) J2 I2 (by rw [List.length_append]; omega) (fun MI' q1 q2 q3 => hQ MI' (by rw [← List.append_assoc]; exact q1) q2 (jfr_tr f2 q3))
theorem c_jd15 (hbd : b = 38 ∨ b = 81) {j : Nat} {q : Dc} (hn : n ≤ 6000) (hG : RuG D.2.2) (hq : D.2.1[j]? = some q) (hnr : q.2.2.1 ≤ D.2.2.length) : ∀ (m r : Nat) (fs : Fi) (MI : Nat → Nat → Int), q.2.2.1 - r = m → DocC b T n N pl D ns [] dp MI ML → JuC fs MI → IdsC ids MI → fs.length + (jrR D.2.2 m r).length ≤ 8000 → r ≤ D.2.2.length →
    (∀ MI', JuC (fs ++ jrR D.2.2 m r) MI' → IdsC ids MI' → jfr MI MI' → wp cs mX4_judgeSpec KD (rV (GR d e nw th x) fun m43 n43 => (-2147483648 ≤ ((j : Nat) : Int) + 1 ∧ ((j : Nat) : Int) + 1 < 2147483648) ∧ wp cs mX4_judgeDeclarations KD Q 4 [some (vR 11), some (vR b), some (vI ((if r < q.2.2.1 then q.2.2.1 else r : Nat) : Int)), some (vI ((j : Nat) + 1))] [] (KD, m43, n43, (GR d e nw th x))) 0 (padL [vR 11, vR b, vI (j : Nat)] 4) [] (KD, MI', ML, (GR d e nw th x))) →
    wp cs mX4_judgeDeclarations KD Q 15 [some (vR 11), some (vR b), some (vI (r : Nat)), some (vI (j : Nat))] [] (KD, MI, ML, GR d e nw th x) := by
  intro m
  induction m with
  | zero =>
    intro r fs MI hm hD hJ hI hl hr hQ
    have hS := hD.2.2.1
    have hjl := (List.getElem?_eq_some_iff.mp hq).1
    have h30 := hS.2.1
    have hA := hS.2.2 j q hq
    refine v_X4_judgeDeclarations_15 hbd ?_
    simp only [Int.toNat_natCast]
    rw [hA.2.2.1]
    rw [jrR, List.append_nil] at hQ
    rw [if_neg (by omega)] at hQ
    exact ⟨by omega, fun z => by omega, fun _ => hQ MI hJ hI (jfr_rfl _)⟩
  | succ m ih =>
    intro r fs MI hm hD hJ hI hl hr hQ
    have hS := hD.2.2.1
    have hjl := (List.getElem?_eq_some_iff.mp hq).1
    have h30 := hS.2.1
    have hA := hS.2.2 j q hq
    obtain ⟨w, hw⟩ : ∃ w, D.2.2[r]? = some w := ⟨_, List.getElem?_eq_getElem (by omega)⟩
    rw [jrR, hw] at hl hQ
    simp only at hl hQ
    rw [List.length_append] at hl
    have h750 := hD.2.2.2.1.2.1
    refine v_X4_judgeDeclarations_15 hbd ?_
    simp only [Int.toNat_natCast]
    rw [hA.2.2.1]
    refine ⟨by omega, fun _ => c_judgeRule hbd hn hD hG hJ hI hw (by omega) (fun MI2 J2 I2 f2 => rV_mk ⟨by omega, ?_⟩), fun z => by omega⟩
    rw [show ((r : Nat) : Int) + 1 = ((r + 1 : Nat) : Int) by omega]
    refine ih (r + 1) _ MI2 (by omega) (DocC_j hbd hD f2) J2 I2 (by rw [List.length_append]; omega) (by omega) (fun MI' q1 q2 q3 => ?_)
    have := hQ MI' (by rw [← List.append_assoc]; exact q1) q2 (jfr_tr f2 q3)
    rw [if_pos (by omega)] at this
    rw [show (if r + 1 < q.2.2.1 then q.2.2.1 else r + 1) = q.2.2.1 by split <;> omega]
    exact this
theorem c_judgeDecls (hbd : b = 38 ∨ b = 81) (hn : n ≤ 6000) (hG : RuG D.2.2) (hnr : ∀ q ∈ D.2.1, q.2.2.1 ≤ D.2.2.length) : ∀ (u pre : List Dc) (r : Nat) (fs : Fi) (MI : Nat → Nat → Int), pre ++ u = D.2.1 → r ≤ D.2.2.length → DocC b T n N pl D ns [] dp MI ML → JuC fs MI → IdsC ids MI → fs.length + (jdF D.2.1 D.2.2 u pre.length r).length ≤ 8000 →
    (∀ MI', JuC (fs ++ jdF D.2.1 D.2.2 u pre.length r) MI' → IdsC ids MI' → jfr MI MI' → Q none (MI', ML, GR d e nw th x)) →
    wp cs mX4_judgeDeclarations KD Q 4 [some (vR 11), some (vR b), some (vI (r : Nat)), some (vI (pre.length : Nat))] [] (KD, MI, ML, GR d e nw th x) := by
  intro u
  induction u with
  | nil =>
    intro pre r fs MI hp hr hD hJ hI hl hQ
    rw [List.append_nil] at hp
    rw [jdF] at hl hQ
    refine v_X4_judgeDeclarations_4 hbd ?_
    rw [hD.2.2.1.1, ← hp]
    refine ⟨fun z => by omega, fun _ => ?_⟩
    exact c_jd52 hbd hn hG _ r fs MI rfl hr hD hJ hI hl hQ
  | cons q u ih =>
    intro pre r fs MI hp hr hD hJ hI hl hQ
    have hlen : pre.length < D.2.1.length := by rw [← hp]; simp
    have hq : D.2.1[pre.length]? = some q := by rw [← hp]; simp
    have hp' : (pre ++ [q]) ++ u = D.2.1 := by rw [List.append_assoc]; exact hp
    have hn1 := hnr q (List.mem_of_getElem? hq)
    have h30 := hD.2.2.1.2.1
    rw [jdF] at hl hQ
    rw [List.length_append, List.length_append] at hl
    refine v_X4_judgeDeclarations_4 hbd ?_
    rw [hD.2.2.1.1]
    refine ⟨fun _ => ?_, fun z => by omega⟩
    refine c_jd15 hbd hn hG hq hn1 _ r fs MI rfl hD hJ hI (by omega) hr (fun MI2 J2 I2 f2 => ?_)
    have D2 := DocC_j hbd hD f2
    refine c_judgeSpec hbd D2 J2 I2 hq (by rw [List.length_append]; omega) (fun MI3 J3 I3 f3 => rV_mk ⟨by omega, ?_⟩)
    rw [show ((pre.length : Nat) : Int) + 1 = (((pre ++ [q]).length : Nat) : Int) by simp]
    rw [show pre.length + 1 = (pre ++ [q]).length by simp] at hl hQ
    refine ih (pre ++ [q]) _ _ MI3 hp' (by split <;> omega) (DocC_j hbd D2 f3) J3 I3 (by rw [List.length_append, List.length_append]; omega) (fun MI' q1 q2 q3 => hQ MI' ?_ q2 (jfr_tr f2 (jfr_tr f3 q3)))
    rw [← List.append_assoc, ← List.append_assoc]; exact q1
theorem c_judge46 (hbd : b = 38 ∨ b = 81) (hn : n ≤ 6000) (hW : WfN ns) (hAt : AtW ns) (hG : RuG D.2.2) (hV : RuV D.2.2) : ∀ (u pre : List Nd) (p : Nat) (fs : Fi) (MI : Nat → Nat → Int), pre ++ u = ns → 1 ≤ pre.length → pre.length ≤ p → (∀ (j : Nat) (z : Nd), pre.length ≤ j → j < p → ns[j]? = some z → z.1 = 2) → (∀ z, ns[p]? = some z → z.1 ≠ 2) → DocC b T n N pl D ns [] dp MI ML → JuC fs MI → IdsC (idsF D.2.2 ns p) MI → fs.length + (jnF D.2.1 D.2.2 ns u pre.length).length ≤ 8000 →
    (∀ ids MI', JuC (fs ++ jnF D.2.1 D.2.2 ns u pre.length) MI' → IdsC ids MI' → jfr MI MI' → Q none (MI', ML, GR d e nw th x)) →
    wp cs mX4_judge KD Q 46 [some (vR 11), some (vR b), some (vI (pre.length : Nat))] [] (KD, MI, ML, GR d e nw th x) := by
  intro u
  induction u with
  | nil =>
    intro pre p fs MI hp h1 hpp hatt hend hD hJ hI hl hQ
    rw [List.append_nil] at hp
    rw [jnF, List.append_nil] at hQ
    refine v_X4_judge_46 hbd ?_
    rw [hD.2.2.2.2.1.1, ← hp]
    exact ⟨fun z => by omega, fun _ => hQ _ MI hJ hI (jfr_rfl _)⟩
  | cons y u ih =>
    intro pre p fs MI hp h1 hpp hatt hend hD hJ hI hl hQ
    have hN := hD.2.2.2.2.1
    have h600 := hN.2.1
    have hlen : pre.length < ns.length := by rw [← hp]; simp
    have hy : ns[pre.length]? = some y := by rw [← hp]; simp
    have hp' : (pre ++ [y]) ++ u = ns := by rw [List.append_assoc]; exact hp
    have el : ((pre.length : Nat) : Int) + 1 = (((pre ++ [y]).length : Nat) : Int) := by simp
    have el2 : (pre ++ [y]).length = pre.length + 1 := by simp
    have hAy := hN.2.2.2 _ y hy
    rw [jnF] at hl hQ
    rw [← el2] at hl hQ
    refine v_X4_judge_46 hbd ?_
    simp only [Int.toNat_natCast]
    rw [hN.1, hAy.1, el]
    have hv := (hW.2 _ y hy (by omega)).1
    refine ⟨fun _ => ⟨by omega, fun hk1 => ?_, fun hk1 => ⟨by omega, ?_⟩⟩, fun z => by omega⟩
    · rw [if_pos hk1, List.length_append] at hl
      rw [if_pos hk1] at hQ
      have hpe : p = pre.length := by
        refine Decidable.byContradiction fun w => ?_
        have := hatt pre.length y (Nat.le_refl _) (by omega) hy
        omega
      subst hpe
      refine c_judgeElement hbd hn hW hAt hG hV hD hJ hI hy hk1 (by omega) (fun MI2 J2 I2 f2 => rV_mk ⟨by omega, ?_⟩)
      refine ih (pre ++ [y]) _ _ MI2 hp' (by omega) (by omega) (fun j z hj1 hj2 hj3 => ?_) (fun z hz => att_end hW hAt hy (by omega) hz) (DocC_j hbd hD f2) J2 I2 (by rw [List.length_append]; omega) (fun ids MI' q1 q2 q3 => hQ ids MI' (by rw [← List.append_assoc]; exact q1) q2 (jfr_tr f2 q3))
      exact (((hAt.2.1 pre.length hlen).2 j z hj3).mpr ⟨by omega, by omega⟩).1
    · rw [if_neg hk1, List.nil_append] at hl hQ
      by_cases h2 : y.1 = 2
      · have hlt : pre.length < p := by
          refine Decidable.byContradiction fun w => ?_
          have hpe : p = pre.length := by omega
          exact hend y (by rw [hpe]; exact hy) h2
        exact ih (pre ++ [y]) p fs MI hp' (by omega) (by omega) (fun j z hj1 hj2 hj3 => hatt j z (by omega) hj2 hj3) hend hD hJ hI hl hQ
      · have hpe : p = pre.length := by
          refine Decidable.byContradiction fun w => ?_
          exact h2 (hatt pre.length y (Nat.le_refl _) (by omega) hy)
        subst hpe
        have h0 : y.1 ≠ 0 := by
          rcases hv.1 with w | w | w
          · have := w.1; omega
          · have := w.1; omega
          · have := w.1; omega
        have hc0 := cntA_text hW hAt hy h0 hk1
        have hno := idsF_no (rs := D.2.2) hy (by unfold idA; exact decide_eq_false (fun w => h2 w.1))
        refine ih (pre ++ [y]) (pre.length + 1) fs MI hp' (by omega) (by omega) (fun j z hj1 hj2 hj3 => by omega) (fun z hz => att_end hW hAt hy h2 (by rw [hc0]; exact hz)) hD hJ (by rw [hno]; exact hI) hl hQ
theorem c_judge (hbd : b = 38 ∨ b = 81) {Dr : Dm} (hn : n ≤ 6000) (hW : WfN Dr.2.1) (hAt : AtW Dr.2.1) (hG : RuG Dr.1.2.2) (hV : RuV Dr.1.2.2) (hnr : ∀ q ∈ Dr.1.2.1, q.2.2.1 ≤ Dr.1.2.2.length) (h1 : ∃ y, Dr.2.1[1]? = some y ∧ y.1 = 1) (hD : DocC b T n N pl Dr.1 Dr.2.1 [] Dr.2.2 MI ML) (hl : (judgeS Dr).length ≤ 8000)
    (hQ : ∀ MI', JuC (judgeS Dr) MI' → jfr MI MI' → Q none (MI', ML, GR d e nw th x)) :
    wp cs mX4_judge KD Q 0 (padL [vR 11, vR b] 3) [] (KD, MI, ML, GR d e nw th x) := by
  obtain ⟨⟨o, ds, rs⟩, ns, dp⟩ := Dr
  simp only at hW hAt hG hV hnr h1 hD
  refine v_X4_judge_0 hbd (fun m2 e2 m7 e7 => ?_)
  have f7 : jfr MI m7 := fun i z1 z2 z3 => by rw [e7, e2]; funext k; rw [up2_ne z1, up2_ne z1]
  have D7 := DocC_j hbd hD f7
  have J7 : JuC [] m7 := ⟨by rw [e7, up2_nk (by decide), e2, up2_eq]; rfl, by simp, fun i a s hi => by simp at hi⟩
  have I7 : IdsC [] m7 := ⟨by rw [e7, up2_eq]; rfl, by simp, fun i k hk => by simp at hk⟩
  have hDt := D7.2.2.2.2.2.1
  cases o with
  | none =>
    have h17 : m7 b 17 = -1 := hDt
    rw [h17]
    exact ⟨fun _ => hQ m7 J7 f7, fun z => absurd rfl z⟩
  | some o =>
    have hid : isId N (m7 b 17) o := hDt
    have h0 := hid.1
    refine ⟨fun z => by omega, fun _ => ?_⟩
    unfold judgeS at hl hQ
    simp only at hl hQ
    rw [List.length_append, List.length_append] at hl
    obtain ⟨y1, hy1, hk1⟩ := h1
    have h1l := (List.getElem?_eq_some_iff.mp hy1).1
    have hnm : nmA ns 1 = y1.2.2.1 := by unfold nmA; rw [show (1 : Int).toNat = 1 from rfl, List.getD_eq_getElem?_getD, hy1]; rfl
    refine v_X4_judgeDeclarations_0 (c_judgeDecls (D := (some o, ds, rs)) hbd hn hG hnr ds [] 0 [] m7 rfl (by omega) D7 J7 I7 (by simp only [List.length_nil]; omega) (fun MI1 J1 I1 f1 => rV_mk ?_))
    have D1 := DocC_j hbd D7 f1
    have hid1 := nm_or D1.2.2.2.2.1 hW hy1 hk1
    have hDt1 : isId N (MI1 b 17) o := D1.2.2.2.2.2.1
    have hnd := D1.1.2.2.2.2.2
    rw [List.nil_append] at J1
    have J1 : JuC (jdF ds rs ds 0 0) MI1 := J1
    obtain ⟨y0, hy0⟩ : ∃ y0, ns[0]? = some y0 := ⟨_, hW.1⟩
    have hids1 : idsF rs ns 1 = [] := idsF_no (a := 0) hW.1 (by unfold idA; exact decide_eq_false (fun w => by have := w.1; simp at this))
    have same : MI1 (b + 34) 1 = MI1 b 17 ↔ y1.2.2.1 = o := by
      constructor
      · intro w
        have h2 := hid1.2
        rw [w, hDt1.2] at h2
        cases h2; rfl
      · intro w
        have h2 := hid1.2
        have h3 := hDt1.2
        rw [w] at h2
        have := (List.getElem?_inj (by have := (List.getElem?_eq_some_iff.mp h2).1; exact this) hnd).mp (h2.trans h3.symm)
        have g1 := hid1.1
        have g2 := hDt1.1
        omega
    have rest : ∀ (gs : Fi) (MI2 : Nat → Nat → Int), JuC gs MI2 → IdsC [] MI2 → jfr MI1 MI2 → gs.length + (jnF ds rs ns ns 0).length ≤ 8000 → gs ++ jnF ds rs ns ns 0 = jdF ds rs ds 0 0 ++ ((if nmA ns 1 ≠ o then [(6, 1)] else []) ++ jnF ds rs ns ns 0) → wp cs mX4_judge KD Q 46 [some (vR 11), some (vR b), some (vI 1)] [] (KD, MI2, ML, GR d e nw th x) := by
      intro gs MI2 J2 I2 f2 hl2 hg
      have hdrop : ns = [(0, -1, [], [], 0, 0)] ++ ns.drop 1 := by
        have h0l : 0 < ns.length := by omega
        have := List.drop_eq_getElem_cons h0l
        rw [List.drop_zero] at this
        have h00 : ns[0] = (0, -1, [], [], 0, 0) := (List.getElem?_eq_some_iff.mp hW.1).2
        rw [h00] at this
        exact this
      have hj0 : jnF ds rs ns ns 0 = jnF ds rs ns (ns.drop 1) 1 := by
        have key : ∀ l, l = [(0, -1, [], [], 0, 0)] ++ ns.drop 1 → jnF ds rs ns l 0 = jnF ds rs ns (ns.drop 1) 1 := fun l hl => by
          rw [hl, List.singleton_append, jnF, if_neg (by decide), List.nil_append]
        exact key ns hdrop
      rw [hj0] at hl2 hg hQ
      have := c_judge46 (cs := cs) (d := d) (e := e) (nw := nw) (th := th) (x := x) (Q := Q) (D := (some o, ds, rs)) hbd hn hW hAt hG hV (ns.drop 1) [(0, -1, [], [], 0, 0)] 1 gs MI2 hdrop.symm (by simp) (by simp) (fun j z z1 z2 _ => by simp at z1; omega) (fun z hz => by rw [hy1] at hz; cases hz; omega) (DocC_j hbd D1 f2) J2 (by rw [hids1]; exact I2) hl2 (fun ids MI' q1 q2 q3 => hQ MI' (by rw [← hg]; exact q1) (jfr_tr f7 (jfr_tr f1 (jfr_tr f2 q3))))
      exact this
    refine ⟨fun he => rest _ MI1 J1 I1 (jfr_rfl _) (by omega) ?_, fun he => ?_⟩
    · rw [if_neg (fun w => w (by rw [hnm]; exact same.mp he)), List.nil_append]
    · have hne : nmA ns 1 ≠ o := fun w => he (same.mpr (by rw [← hnm]; exact w))
      rw [if_pos hne, List.length_singleton] at hl
      refine c_report J1 I1 (by omega) (by omega) (by omega) (fun MI2 J2 I2 f2 => rV_mk (rest _ MI2 J2 I2 f2 (by rw [fi_len]; omega) ?_))
      rw [if_pos hne, List.append_assoc]
end Pb06
