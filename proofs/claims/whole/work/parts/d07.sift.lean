/-! The class's selection: passes, sift. -/
theorem rga_skip {P : Nat → Bool} {n : Nat} : ∀ (m c : Nat), c + m ≤ n → (∀ i, c ≤ i → i < c + m → P i = false) → (List.range' c (n - c)).any P = (List.range' (c + m) (n - (c + m))).any P
  | 0, c, _, _ => rfl
  | m + 1, c, h1, h2 => by
    rw [rg_cons (by omega), List.any_cons, h2 c (by omega) (by omega), Bool.false_or, rga_skip m (c + 1) (by omega) (fun i a1 a2 => h2 i (by omega) (by omega)), show c + 1 + m = c + (m + 1) by omega]
theorem rga_nil {P : Nat → Bool} {c n : Nat} (h : ∀ i, c ≤ i → i < n → P i = false) : (List.range' c (n - c)).any P = false := by
  rw [List.any_eq_false]
  intro a ha
  rw [List.mem_range'] at ha
  obtain ⟨i, h1, h2⟩ := ha
  rw [h a (by omega) (by omega)]; decide
section Pd07
variable {cs : Cs} {Q : Option AV → Mm → Prop} {MI ML OI : Nat → Nat → Int} {b d e nw th pl : Nat} {T TD : Nat → Int} {n nD : Int} {N : List By} {D : Dt} {ns : List Nd} {dp : Int}
theorem c_passes_l {f k : Nat} {i5 : Int} {x : By} {o : Option By} {P : Nat → Bool} {R : Bool} (hbd : b = 38 ∨ b = 81) (hW : WfN ns) (hAt : AtW ns) (hk : k < ns.length) (hf : f < 48) (hn : n ≤ 6000) (hT1 : MI 1 = T) (hD : DocC b TD nD N pl D ns [] dp MI ML) (hq : quO T n f o MI) (hnm : nmO N i5 (some x))
    (hP : ∀ c, P c = (decide ((ndA ns c).2.1 = (k : Int) ∧ (ndA ns c).1 = 1 ∧ (ndA ns c).2.2.1 = x) && quB ns c o)) (hQ : Q (some (vI (if R = true then 1 else 0))) (MI, ML, GR d e nw th 1)) :
    ∀ (m c : Nat), ns.length - c ≤ m → k < c → bdy ns k c → R = (List.range' c (ns.length - c)).any P →
    wp cs mX8_passes KD Q 80 [some (vR 23), some (vR b), some (vR 14), some (vI (f : Nat)), some (vI (k : Nat)), some (vI i5), some (vI (c : Nat))] [] (KD, MI, ML, GR d e nw th 1) := by
  obtain ⟨yk, hyk⟩ : ∃ y, ns[k]? = some y := ⟨_, List.getElem?_eq_getElem hk⟩
  have h600 := hD.2.2.2.2.1.2.1
  have hlE := eS_le hk
  have hend := end_at hD hW hyk
  have base : ∀ c, eS ns k ≤ c → R = (List.range' c (ns.length - c)).any P → wp cs mX8_passes KD Q 80 [some (vR 23), some (vR b), some (vR 14), some (vI (f : Nat)), some (vI (k : Nat)), some (vI i5), some (vI (c : Nat))] [] (KD, MI, ML, GR d e nw th 1) := by
    intro c hc hR
    refine v_X8_passes_80 hbd ?_
    simp only [Int.toNat_natCast]
    rw [hend]
    refine ⟨by omega, fun z => by omega, fun _ => ?_⟩
    rw [rga_nil (fun i a1 a2 => ?_)] at hR
    · rw [hR, if_neg (by decide)] at hQ; exact hQ
    · obtain ⟨z, hz⟩ : ∃ z, ns[i]? = some z := ⟨_, List.getElem?_eq_getElem a2⟩
      have hnil := ch_end hW hk (Nat.le_trans hc a1)
      unfold chR at hnil
      rw [List.filter_eq_nil_iff] at hnil
      have hzi := hnil z (List.mem_of_getElem? (i := 0) (by rw [List.getElem?_drop]; exact hz))
      rw [hP, ndA_at hz, decide_eq_false, Bool.false_and]
      rintro ⟨z1, z2, z3⟩
      apply hzi
      rw [Bool.and_eq_true]
      exact ⟨by simp [z2], decide_eq_true z1⟩
  intro m
  induction m with
  | zero => intro c hm hkc hcb hR; exact base c (by omega) hR
  | succ m ih =>
    intro c hm hkc hcb hR
    by_cases hlt : c < eS ns k
    · obtain ⟨y, hy, hy2, hyu⟩ := hcb hlt
      have hcl := (List.getElem?_eq_some_iff.mp hy).1
      obtain ⟨s1, s2, s3⟩ := ch_step hW hAt hkc hy hy2 hyu
      have hlc := eS_le hcl
      have hAy := hD.2.2.2.2.1.2.2.2 c y hy
      have hskip := rga_skip (P := P) (n := ns.length) (eS ns c - (c + 1)) (c + 1) (by omega) (fun i a1 a2 => by
          obtain ⟨z, hz⟩ : ∃ z, ns[i]? = some z := ⟨_, List.getElem?_eq_getElem (by omega)⟩
          have hin := eS_in (k := c) (by omega) (by omega) hz
          rw [hP, ndA_at hz, decide_eq_false (by omega), Bool.false_and])
      rw [show c + 1 + (eS ns c - (c + 1)) = eS ns c by omega] at hskip
      rw [rg_cons hcl, List.any_cons, hskip] at hR
      have hPc : P c = (decide (y.1 = 1 ∧ y.2.2.1 = x) && quB ns c o) := by
        rw [hP, ndA_at hy]
        congr 1
        apply decide_eq_decide.mpr
        exact ⟨fun w => w.2, fun w => ⟨hyu, w⟩⟩
      have ej : (if ((c : Nat) : Int) + 1 < (eS ns c : Nat) then ((eS ns c : Nat) : Int) else ((c : Nat) : Int) + 1) = ((eS ns c : Nat) : Int) := by split <;> omega
      have nxt : P c = false → wp cs mX8_passes KD Q 80 [some (vR 23), some (vR b), some (vR 14), some (vI (f : Nat)), some (vI (k : Nat)), some (vI i5), some (vI (eS ns c : Nat))] [] (KD, MI, ML, GR d e nw th 1) := by
        intro hp
        rw [hp, Bool.false_or] at hR
        exact ih (eS ns c) (by omega) (by omega) s3 hR
      refine v_X8_passes_80 hbd ?_
      simp only [Int.toNat_natCast]
      rw [hend, hAy.1, end_at hD hW hy, ej]
      refine ⟨by omega, fun _ => ⟨by omega, fun h1 => ?_, fun h1 => ⟨by omega, nxt (by rw [hPc, decide_eq_false (fun w => h1 w.1), Bool.false_and])⟩⟩, fun z => by omega⟩
      obtain ⟨g1, g2⟩ := nd_eq hD hW hy (Or.inl h1) hnm
      refine ⟨fun h2 => ?_, fun h2 => ⟨by omega, nxt (by rw [hPc, decide_eq_false (fun w => h2 (g1.mpr w.2)), Bool.false_and])⟩⟩
      rw [decide_eq_true ⟨h1, g1.mp h2⟩, Bool.true_and] at hPc
      refine c_isQuoted hbd hW hcl hf hn hT1 hD hq (rI_mk ?_)
      rw [end_at hD hW hy, ej]
      cases hqb : quB ns c o with
      | true =>
        rw [hPc, hqb, Bool.true_or] at hR
        rw [hR, if_pos rfl] at hQ
        rw [if_pos rfl]
        exact ⟨fun z => by omega, fun _ => hQ⟩
      | false =>
        rw [if_neg (by decide)]
        exact ⟨fun _ => ⟨by omega, nxt (by rw [hPc, hqb])⟩, fun z => absurd rfl z⟩
    · exact base c (by omega) hR
theorem c_passes {f k : Nat} {q : BrM} (hbd : b = 38 ∨ b = 81) (hW : WfN ns) (hAt : AtW ns) (hk : k < ns.length) (hf : f < 48) (hn : n ≤ 6000) (hT1 : MI 1 = T) (hD : DocC b TD nD N pl D ns [] dp MI ML) (hB : BrkC N T n f q MI) (hq : 2 ≤ q.1)
    (hQ : Q (some (vI (if pasB ns q k = true then 1 else 0))) (MI, ML, GR d e nw th 1)) :
    wp cs mX8_passes KD Q 0 (padL [vR 23, vR b, vR 14, vI (f : Nat), vI (k : Nat)] 7) [] (KD, MI, ML, GR d e nw th 1) := by
  obtain ⟨yk, hyk⟩ : ∃ y, ns[k]? = some y := ⟨_, List.getElem?_eq_getElem hk⟩
  have h600 := hD.2.2.2.2.1.2.1
  have hAk := hD.2.2.2.2.1.2.2.2 k yk hyk
  have e35 := hAk.2.2.2.1
  have hat := hAt.2.1 k hk
  refine v_X8_passes_0 hbd ?_
  simp only [Int.toNat_natCast]
  rw [hB.1]
  unfold pasB at hQ
  refine ⟨by omega, fun h2 => ?_, fun h2 => ⟨fun h3 => ?_, fun h3 => ?_⟩⟩
  · rw [if_pos h2] at hQ
    exact c_isQuoted hbd hW hk hf hn hT1 hD hB.2.2.2 (rI_mk ⟨by split <;> simp, hQ⟩)
  · rw [if_neg h2] at hQ
    have hnm := hB.2.2.1 (by omega)
    refine w_X3_attributeOf hbd (by omega) (by simp only [Int.toNat_natCast]; rw [e35]; omega) (rI_mk ?_)
    unfold atC
    simp only [Int.toNat_natCast]
    rw [e35]
    simp only [Int.toNat_natCast]
    refine ⟨fun z => ?_, fun z => ?_⟩
    · have hno := (atF_none _ _ (by omega)).mp z
      have hany : ((List.range ns.length).any fun c => decide ((ndA ns c).2.1 = (k : Int) ∧ (ndA ns c).1 = (if q.1 = 3 then 2 else 1) ∧ (ndA ns c).2.2.1 = q.2.2.1) && quB ns c q.2.2.2) = false := by
        rw [List.any_eq_false]
        intro c hc
        rw [List.mem_range] at hc
        obtain ⟨y, hy⟩ : ∃ y, ns[c]? = some y := ⟨_, List.getElem?_eq_getElem hc⟩
        rw [ndA_at hy, if_pos h3, decide_eq_false]
        · simp
        · rintro ⟨w1, w2, w3⟩
          have h5 := (hat.2 c y hy).mp ⟨w2, w1⟩
          exact hno c (by omega) (by omega) ((nd_eq hD hW hy (Or.inr w2) hnm).1.mpr w3)
      rw [hany, if_neg (by decide)] at hQ; exact hQ
    · obtain ⟨c, hc1, hc2, hc3, hc4⟩ := atF_some _ _ (by omega) z
      rw [hc1]
      obtain ⟨y, hy⟩ : ∃ y, ns[c]? = some y := ⟨_, List.getElem?_eq_getElem (by omega)⟩
      have hcl := (List.getElem?_eq_some_iff.mp hy).1
      have hya := (hat.2 c y hy).mpr ⟨by omega, by omega⟩
      have hnx := (nd_eq hD hW hy (Or.inr hya.1) hnm).1.mp hc4
      have hany : ((List.range ns.length).any fun c => decide ((ndA ns c).2.1 = (k : Int) ∧ (ndA ns c).1 = (if q.1 = 3 then 2 else 1) ∧ (ndA ns c).2.2.1 = q.2.2.1) && quB ns c q.2.2.2) = quB ns c q.2.2.2 := by
        rw [Bool.eq_iff_iff, List.any_eq_true]
        constructor
        · rintro ⟨c', h1, h2'⟩
          rw [List.mem_range] at h1
          rw [Bool.and_eq_true] at h2'
          obtain ⟨y', hy'⟩ : ∃ y, ns[c']? = some y := ⟨_, List.getElem?_eq_getElem h1⟩
          rw [ndA_at hy', if_pos h3] at h2'
          have hh := of_decide_eq_true h2'.1
          have : c' = c := hAt.2.2 c' c y' y hy' hy hh.2.1 hya.1 (by rw [hh.1, hya.2]) (by rw [hh.2.2, hnx])
          rw [← this]; exact h2'.2
        · intro hqb
          refine ⟨c, List.mem_range.mpr hcl, ?_⟩
          rw [ndA_at hy, if_pos h3, Bool.and_eq_true]
          exact ⟨decide_eq_true ⟨hya.2, hya.1, hnx⟩, hqb⟩
      rw [hany] at hQ
      refine c_isQuoted hbd hW hcl hf hn hT1 hD hB.2.2.2 (rI_mk ?_)
      cases hqb : quB ns c q.2.2.2 with
      | true =>
        rw [hqb, if_pos rfl] at hQ
        rw [if_pos rfl]
        exact ⟨fun z => by omega, fun _ => hQ⟩
      | false =>
        rw [hqb, if_neg (by decide)] at hQ
        rw [if_neg (by decide)]
        exact ⟨fun _ => hQ, fun z => absurd rfl z⟩
  · rw [if_neg h2] at hQ
    have hnm := hB.2.2.1 (by omega)
    have hf1 := ch_first hW hAt hk
    refine w_X3_firstIn hbd (by omega) (by simp only [Int.toNat_natCast]; rw [e35]; omega) (rI_mk ?_)
    simp only [Int.toNat_natCast]
    rw [e35, show ((k : Nat) : Int) + 1 + (cntA ns (k : Nat) : Nat) = ((k + 1 + cntA ns (k : Nat) : Nat) : Int) by omega]
    refine c_passes_l (x := q.2.2.1) (o := q.2.2.2) (P := fun c => decide ((ndA ns c).2.1 = (k : Int) ∧ (ndA ns c).1 = (if q.1 = 3 then 2 else 1) ∧ (ndA ns c).2.2.1 = q.2.2.1) && quB ns c q.2.2.2) hbd hW hAt hk hf hn hT1 hD hB.2.2.2 hnm (fun c => by rw [if_neg h3]) hQ ns.length _ (by omega) (by omega) hf1.2 ?_
    rw [rg_0]
    have := rga_skip (P := fun c => decide ((ndA ns c).2.1 = (k : Int) ∧ (ndA ns c).1 = (if q.1 = 3 then 2 else 1) ∧ (ndA ns c).2.2.1 = q.2.2.1) && quB ns c q.2.2.2) (n := ns.length) (k + 1 + cntA ns (k : Int)) 0 (by omega) (fun i a1 a2 => by
      obtain ⟨z, hz⟩ : ∃ z, ns[i]? = some z := ⟨_, List.getElem?_eq_getElem (by omega)⟩
      rw [ndA_at hz, if_neg h3, decide_eq_false, Bool.false_and]
      rintro ⟨z1, z2, z3⟩
      have h5 := hAt.1 i z hz
      have h4 := (hat.2 i z hz).mpr ⟨by omega, by omega⟩
      have := h4.1; omega)
    rw [Nat.zero_add] at this
    exact this
theorem c_sift_l {f : Nat} {q : BrM} {l : List Nat} {i5 i6 : Int} (hbd : b = 38 ∨ b = 81) (hW : WfN ns) (hAt : AtW ns) (hf : f < 48) (hn : n ≤ 6000) (hl : l.length ≤ 600) (hla : ∀ a ∈ l, a < ns.length)
    (h56 : q.1 = 0 ∧ i6 = 1 ∧ i5 = q.2.1 ∨ q.1 = 1 ∧ i6 = 1 ∧ i5 = (l.length : Nat) ∨ 2 ≤ q.1 ∧ i6 = 0) :
    ∀ (r : List Nat) (i : Nat) (pre : List Nat) (MI : Nat → Nat → Int), l.drop i = r → i ≤ l.length → pre.length ≤ i → MI 1 = T → DocC b TD nD N pl D ns [] dp MI ML → BrkC N T n f q MI → RowC pre MI → (∀ (j a : Nat), i ≤ j → l[j]? = some a → MI 27 j = (a : Int)) →
    (∀ MI', RowC (pre ++ sfF (sfP ns q l.length) i r) MI' → frP chRw MI MI' → Q none (MI', ML, GR d e nw th 1)) →
    wp cs mX8_sift KD Q 63 [some (vR 23), some (vR b), some (vR 14), some (vI (f : Nat)), some (vI (l.length : Nat)), some (vI i5), some (vI i6), some (vI (i : Nat))] [] (KD, MI, ML, GR d e nw th 1) := by
  intro r
  induction r with
  | nil =>
    intro i pre MI hdr hil hpi hT1 hD hB hR hO hQ
    have hge : l.length ≤ i := List.drop_eq_nil_iff.mp hdr
    rw [sfF, List.append_nil] at hQ
    exact v_X8_sift_63 hbd ⟨fun z => by omega, fun _ => hQ MI hR (frP_rfl _ _)⟩
  | cons a r ih =>
    intro i pre MI hdr hil hpi hT1 hD hB hR hO hQ
    have hlt : i < l.length := by
      refine Decidable.byContradiction fun w => ?_
      rw [List.drop_eq_nil_of_le (by omega)] at hdr; cases hdr
    have ha : l[i]? = some a := by
      have hz := List.getElem?_drop (xs := l) (i := i) (j := 0)
      rw [hdr] at hz
      simpa using hz.symm
    have hdr' : l.drop (i + 1) = r := by rw [← List.drop_drop, hdr]; rfl
    have haN := hla a (List.mem_of_getElem? ha)
    have h27 := hO i a (Nat.le_refl _) ha
    have h600 := hD.2.2.2.2.1.2.1
    have ei : ((i : Nat) : Int) + 1 = ((i + 1 : Nat) : Int) := by omega
    rw [sfF] at hQ
    have no : sfP ns q l.length i a = false → wp cs mX8_sift KD Q 63 [some (vR 23), some (vR b), some (vR 14), some (vI (f : Nat)), some (vI (l.length : Nat)), some (vI i5), some (vI i6), some (vI ((i + 1 : Nat) : Int))] [] (KD, MI, ML, GR d e nw th 1) := by
      intro hp
      rw [if_neg (by rw [hp]; decide)] at hQ
      exact ih (i + 1) pre MI hdr' (by omega) (by omega) hT1 hD hB hR (fun j c h1 h2 => hO j c (by omega) h2) hQ
    have yes : sfP ns q l.length i a = true → wp cs mX8_push KD (rV (GR d e nw th 1) fun m112 n112 => wp cs mX8_sift KD Q 63 [some (vR 23), some (vR b), some (vR 14), some (vI (f : Nat)), some (vI (l.length : Nat)), some (vI i5), some (vI i6), some (vI ((i + 1 : Nat) : Int))] [] (KD, m112, n112, (GR d e nw th 1))) 0 (padL [vR 23, vI (a : Nat)] 2) [] (KD, MI, ML, (GR d e nw th 1)) := by
      intro hp
      rw [if_pos hp] at hQ
      refine c_push (by omega) hR (fun M r' f' g' => rV_mk (ih (i + 1) (pre ++ [a]) M hdr' (by omega) (by simp; omega) ?_ (DocC_rw hbd hD f') (BrkC_fr hB (fun i h1 h2 => by rw [frP_row f' (fun k z => by unfold chRw at z; omega)])) r' (fun j c h1 h2 => ?_) (fun MI' r'' f'' => hQ MI' (by rw [List.append_assoc] at r''; exact r'') (frP_tr f' f''))))
      · rw [frP_row f' (fun k z => by unfold chRw at z; omega)]; exact hT1
      · rw [g' j (by omega)]; exact hO j c (by omega) h2
    refine v_X8_sift_63 hbd ?_
    simp only [Int.toNat_natCast]
    rw [h27, ei]
    refine ⟨fun _ => ⟨fun h6 => ⟨by omega, ?_⟩, fun h6 => ⟨by omega, ?_⟩⟩, fun z => by omega⟩
    · have hq2 : 2 ≤ q.1 := by omega
      have hsp : sfP ns q l.length i a = pasB ns q a := by unfold sfP; rw [if_neg (by omega), if_neg (by omega)]
      refine c_passes hbd hW hAt haN hf hn hT1 hD hB hq2 (rI_mk ?_)
      rw [h27]
      cases hpb : pasB ns q a with
      | true =>
        rw [if_pos rfl]
        refine ⟨fun z => by omega, fun _ => ?_⟩
        have := yes (by rw [hsp, hpb])
        refine c_push (by omega) hR (fun M r' f' g' => rV_mk ⟨by omega, ?_⟩)
        rw [if_pos (by rw [hsp, hpb])] at hQ
        refine ih (i + 1) (pre ++ [a]) M hdr' (by omega) (by simp; omega) ?_ (DocC_rw hbd hD f') (BrkC_fr hB (fun i h1 h2 => by rw [frP_row f' (fun k z => by unfold chRw at z; omega)])) r' (fun j c h1 h2 => ?_) (fun MI' r'' f'' => hQ MI' (by rw [List.append_assoc] at r''; exact r'') (frP_tr f' f''))
        · rw [frP_row f' (fun k z => by unfold chRw at z; omega)]; exact hT1
        · rw [g' j (by omega)]; exact hO j c (by omega) h2
      | false =>
        rw [if_neg (by decide)]
        exact ⟨fun _ => ⟨by omega, no (by rw [hsp, hpb])⟩, fun z => absurd rfl z⟩
    · have hsp : sfP ns q l.length i a = decide (((i + 1 : Nat) : Int) = i5) := by
        unfold sfP
        rcases h56 with ⟨w1, w2, w3⟩ | ⟨w1, w2, w3⟩ | ⟨w1, w2⟩
        · rw [if_pos w1, w3]; apply decide_eq_decide.mpr; omega
        · rw [if_neg (by omega), if_pos w1, w3]; apply decide_eq_decide.mpr; omega
        · exact absurd w2 h6
      refine ⟨fun z => ⟨by omega, yes (by rw [hsp]; exact decide_eq_true z)⟩, fun z => no (by rw [hsp]; exact decide_eq_false z)⟩
theorem c_sift {f : Nat} {q : BrM} {l : List Nat} (hbd : b = 38 ∨ b = 81) (hW : WfN ns) (hAt : AtW ns) (hf : f < 48) (hn : n ≤ 6000) (hl : l.length ≤ 600) (hla : ∀ a ∈ l, a < ns.length) (h0 : 0 ≤ q.1) (hT1 : MI 1 = T) (hD : DocC b TD nD N pl D ns [] dp MI ML) (hB : BrkC N T n f q MI) (hR : RowC l MI)
    (hQ : ∀ MI', RowC (siftL ns q l) MI' → frP chRw MI MI' → Q none (MI', ML, GR d e nw th 1)) :
    wp cs mX8_sift KD Q 0 (padL [vR 23, vR b, vR 14, vI (f : Nat)] 8) [] (KD, MI, ML, GR d e nw th 1) := by
  have fin : ∀ i5 i6 : Int, (q.1 = 0 ∧ i6 = 1 ∧ i5 = q.2.1 ∨ q.1 = 1 ∧ i6 = 1 ∧ i5 = (l.length : Nat) ∨ 2 ≤ q.1 ∧ i6 = 0) → wp cs mX8_sift KD Q 53 [some (vR 23), some (vR b), some (vR 14), some (vI (f : Nat)), some (vI (l.length : Nat)), some (vI i5), none, none] [vI i6] (KD, MI, ML, GR d e nw th 1) := by
    intro i5 i6 h56
    refine v_X8_sift_53 hbd ?_
    rintro _ rfl
    have f1 : frP chRw MI (up2 MI 23 5 0) := frP_up (Or.inr ⟨rfl, rfl⟩)
    refine c_sift_l hbd hW hAt hf hn hl hla h56 l 0 [] _ rfl (by omega) (by simp) ?_ (DocC_rw hbd hD f1) (BrkC_fr hB (fun i h1 h2 => by rw [frP_row f1 (fun k z => by unfold chRw at z; omega)])) ⟨up2_eq, fun i a ha => by simp at ha⟩ (fun j a _ ha => ?_) (fun MI' r f => hQ MI' (by rw [List.nil_append] at r; exact r) (frP_tr f1 f))
    · rw [frP_row f1 (fun k z => by unfold chRw at z; omega)]; exact hT1
    · rw [up2_ne (by decide)]; exact hR.2 j a ha
  have mid : ∀ s0 : Int, (q.1 = 0 → s0 = q.2.1) → (q.1 = 1 → s0 = (l.length : Nat)) → wp cs mX8_sift KD Q 27 [some (vR 23), some (vR b), some (vR 14), some (vI (f : Nat)), some (vI (l.length : Nat)), none, none, none] [vI s0] (KD, MI, ML, GR d e nw th 1) := by
    intro s0 e0 e1
    refine v_X8_sift_27 hbd ?_
    simp only [Int.toNat_natCast]
    rw [hB.1]
    exact ⟨by omega, fun z => fin s0 1 (Or.inr (Or.inl ⟨z, rfl, e1 z⟩)), fun z => ⟨fun z2 => fin s0 1 (Or.inl ⟨z2, rfl, e0 z2⟩), fun z2 => fin s0 0 (Or.inr (Or.inr ⟨by omega, rfl⟩))⟩⟩
  refine v_X8_sift_0 hbd ?_
  simp only [Int.toNat_natCast]
  rw [hB.1, hR.1]
  exact ⟨by omega, fun z => mid _ (fun w => by omega) (fun _ => rfl), fun z => mid _ (fun w => hB.2.1 w) (fun w => absurd w z)⟩
end Pd07
