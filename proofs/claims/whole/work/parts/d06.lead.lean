/-! The class's selection: lead, passes, sift. -/
section Pd06
variable {cs : Cs} {Q : Option AV → Mm → Prop} {MI ML OI : Nat → Nat → Int} {b d e nw th pl : Nat} {T TD : Nat → Int} {n nD : Int} {N : List By} {D : Dt} {ns : List Nd} {dp : Int}
theorem c_lead_at {k j : Nat} {i4 : Int} {o : Option By} {P : Nat → Bool} (hbd : b = 38 ∨ b = 81) (hW : WfN ns) (hAt : AtW ns) (hk : k < ns.length) (hnm : nmO N i4 o)
    (hP : ∀ c, P c = (decide ((ndA ns c).2.1 = (k : Int) ∧ (ndA ns c).1 = 2) && nmB o (ndA ns c).2.2.1)) :
    ∀ (m c : Nat) (pre : List Nat) (MI : Nat → Nat → Int), k + cntA ns (k : Int) + 1 - c = m → k < c → c ≤ k + cntA ns (k : Int) + 1 → pre.length < c → DocC b TD nD N pl D ns [] dp MI ML → RowC pre MI →
    (∀ MI', RowC (pre ++ (List.range' c (ns.length - c)).filter P) MI' → frP chRw MI MI' → Q none (MI', ML, GR d e nw th 1)) →
    wp cs mX8_lead KD Q 88 [some (vR 23), some (vR b), some (vR 14), some (vI (j : Nat)), some (vI (k : Nat)), some (vI i4), some (vI (c : Nat))] [] (KD, MI, ML, GR d e nw th 1) := by
  intro m
  obtain ⟨yk, hyk⟩ : ∃ y, ns[k]? = some y := ⟨_, List.getElem?_eq_getElem hk⟩
  have hat := hAt.2.1 k hk
  induction m with
  | zero =>
    intro c pre MI hm hkc hcl hpl hD hR hQ
    have h600 := hD.2.2.2.2.1.2.1
    have e35 := (hD.2.2.2.2.1.2.2.2 k yk hyk).2.2.2.1
    refine v_X8_lead_88 hbd ?_
    simp only [Int.toNat_natCast]
    rw [e35]
    refine ⟨by omega, by omega, fun _ => ?_, fun z => by omega⟩
    rw [rg_nil (fun i a1 a2 => ?_), List.append_nil] at hQ
    · exact hQ MI hR (frP_rfl _ _)
    · obtain ⟨z, hz⟩ : ∃ z, ns[i]? = some z := ⟨_, List.getElem?_eq_getElem a2⟩
      rw [hP, ndA_at hz, decide_eq_false, Bool.false_and]
      rintro ⟨z1, z2⟩
      have := ((hat.2 i z hz).mp ⟨z2, z1⟩).2
      omega
  | succ m ih =>
    intro c pre MI hm hkc hcl hpl hD hR hQ
    have h600 := hD.2.2.2.2.1.2.1
    have e35 := (hD.2.2.2.2.1.2.2.2 k yk hyk).2.2.2.1
    obtain ⟨y, hy⟩ : ∃ z, ns[c]? = some z := ⟨_, List.getElem?_eq_getElem (by omega)⟩
    have hya := (hat.2 c y hy).mpr ⟨hkc, by omega⟩
    have hcn := (List.getElem?_eq_some_iff.mp hy).1
    rw [rg_cons hcn] at hQ
    have hPc : P c = nmB o y.2.2.1 := by
      rw [hP, ndA_at hy, decide_eq_true ⟨hya.2, hya.1⟩, Bool.true_and]
    have ec : ((c : Nat) : Int) + 1 = ((c + 1 : Nat) : Int) := by omega
    have yes : P c = true → wp cs mX8_lead KD Q 122 [some (vR 23), some (vR b), some (vR 14), some (vI (j : Nat)), some (vI (k : Nat)), some (vI i4), some (vI (c : Nat))] [] (KD, MI, ML, GR d e nw th 1) := by
      intro hp
      rw [List.filter_cons_of_pos hp] at hQ
      refine v_X8_lead_122 hbd (c_push (by omega) hR (fun M r f _ => rV_mk ?_))
      rw [ec]
      exact ⟨by omega, ih (c + 1) (pre ++ [c]) M (by omega) (by omega) (by omega) (by simp; omega) (DocC_rw hbd hD f) r (fun MI' r' f' => hQ MI' (by rw [List.append_assoc] at r'; exact r') (frP_tr f f'))⟩
    refine v_X8_lead_88 hbd ?_
    simp only [Int.toNat_natCast]
    rw [e35, ec]
    refine ⟨by omega, by omega, fun z => by omega, fun _ => ?_⟩
    cases o with
    | none =>
      have h4 : i4 = -2 := hnm
      exact ⟨fun _ => yes hPc, fun z => absurd h4 z⟩
    | some x =>
      obtain ⟨g1, g2⟩ := nd_eq hD hW hy (Or.inr hya.1) hnm
      refine ⟨fun z => absurd z g2, fun _ => ⟨by omega, fun z => yes ?_, fun z => ⟨by omega, ?_⟩⟩⟩
      · rw [hPc]; exact decide_eq_true (g1.mp z)
      · have hp : P c = false := by rw [hPc]; exact decide_eq_false (fun w => z (g1.mpr w))
        rw [List.filter_cons_of_neg (by rw [hp]; decide)] at hQ
        exact ih (c + 1) pre MI (by omega) (by omega) (by omega) (by omega) hD hR hQ
theorem flt_one {n a : Nat} {P : Nat → Bool} (ha : a < n) (hP : ∀ c, P c = decide (c = a)) : (List.range n).filter P = [a] := by
  rw [rg_0]
  have h1 := rg_skip (P := P) (n := n) a 0 (by omega) (fun i _ h2 => by rw [hP]; exact decide_eq_false (by omega))
  rw [Nat.zero_add] at h1
  rw [h1, rg_cons ha, List.filter_cons_of_pos (by rw [hP]; exact decide_eq_true rfl), rg_nil (fun i h1 h2 => by rw [hP]; exact decide_eq_false (by omega))]
theorem c_lead {k j : Nat} {s : StM} (hbd : b = 38 ∨ b = 81) (hW : WfN ns) (hAt : AtW ns) (hk : k < ns.length) (hj : j < 12) (hD : DocC b TD nD N pl D ns [] dp MI ML) (hS : StpC N T n j s MI) (hs : s.1 = 2 → s.2.2.1 = none) (hs4 : 0 ≤ s.1 ∧ s.1 ≤ 4)
    (hQ : ∀ MI', RowC (leadL ns s k) MI' → frP chRw MI MI' → Q none (MI', ML, GR d e nw th 1)) :
    wp cs mX8_lead KD Q 0 (padL [vR 23, vR b, vR 14, vI (j : Nat), vI (k : Nat)] 7) [] (KD, MI, ML, GR d e nw th 1) := by
  have h600 := hD.2.2.2.2.1.2.1
  obtain ⟨yk, hyk⟩ : ∃ y, ns[k]? = some y := ⟨_, List.getElem?_eq_getElem hk⟩
  have hAk := hD.2.2.2.2.1.2.2.2 k yk hyk
  refine v_X8_lead_0 hbd ?_
  simp only [Int.toNat_natCast]
  refine ⟨by omega, ?_⟩
  rintro _ rfl
  obtain ⟨M1, hM1⟩ : ∃ M1, M1 = up2 MI 23 5 0 := ⟨_, rfl⟩
  rw [← hM1]
  have e15 : M1 15 j = s.1 := by rw [hM1, up2_ne (by decide)]; exact hS.1
  have e33 : M1 (b + 33) k = yk.2.1 := by rw [hM1, up2_ne (by omega)]; exact hAk.2.1
  have f1 : frP chRw MI M1 := by rw [hM1]; exact frP_up (Or.inr ⟨rfl, rfl⟩)
  have R1 : RowC [] M1 := ⟨by rw [hM1, up2_eq]; rfl, fun i a ha => by simp at ha⟩
  have D1 := DocC_rw hbd hD f1
  have hnm := hS.2.2.1
  rw [e15, e33]
  have into : ∀ K : Int, (K = 3 ∧ s.1 = 2 ∨ K = 1 ∧ s.1 = 4) → wp cs mX8_lead KD Q 156 [some (vR 23), some (vR b), some (vR 14), some (vI (j : Nat)), some (vI (k : Nat)), some (vI (MI 16 j)), none] [vI K, vI (k : Nat), vR b, vR 23] (KD, M1, ML, GR d e nw th 1) := by
    intro K hK
    refine v_X8_lead_156 (c_leadInto (P := leadB ns s k) (o := s.2.2.1) hbd hW hAt hk ?_ hnm (fun c => ?_) D1 R1 (fun MI' r f => rV_mk (hQ MI' r (frP_tr f1 f))))
    · rcases hK with w | w
      · exact Or.inl ⟨w.1, hs w.2⟩
      · exact Or.inr w.1
    · unfold leadB
      rcases hK with ⟨w1, w2⟩ | ⟨w1, w2⟩
      · rw [if_neg (by omega), if_neg (by omega), if_pos w2, w1, hs w2]; simp [nmB]
      · rw [if_neg (by omega), if_neg (by omega), if_neg (by omega), if_neg (by omega), w1]
  refine ⟨fun z => ?_, fun z => ⟨by omega, fun z2 => ?_, fun z2 => ?_⟩, fun z => ⟨fun _ => into 3 (Or.inl ⟨rfl, z⟩), fun w => absurd z w⟩, fun z => ⟨by omega, ?_⟩, fun z => ⟨fun w => by omega, fun _ => into 1 (Or.inr ⟨rfl, by omega⟩)⟩⟩
  · refine c_push (by simp) R1 (fun M r f _ => rV_mk (hQ M ?_ (frP_tr f1 f)))
    unfold leadL
    rw [flt_one hk (fun c => by unfold leadB; rw [if_pos z])]
    exact r
  · refine hQ M1 ?_ f1
    unfold leadL
    rw [show (List.range ns.length).filter (leadB ns s k) = [] from ?_]
    · exact R1
    · rw [List.filter_eq_nil_iff]
      intro a ha
      unfold leadB
      rw [if_neg (by omega), if_pos z, ndA_at hyk, z2]
      simp
  · have hup : 0 ≤ yk.2.1 ∧ yk.2.1 < (k : Int) := by
      rcases Nat.eq_zero_or_pos k with w | w
      · subst w; rw [hW.1] at hyk; cases hyk; exact absurd rfl z2
      · exact (hW.2 k yk hyk w).2.1
    obtain ⟨u, hu⟩ : ∃ u : Nat, yk.2.1 = (u : Int) := ⟨yk.2.1.toNat, by omega⟩
    rw [hu]
    refine c_push (by simp) R1 (fun M r f _ => rV_mk (hQ M ?_ (frP_tr f1 f)))
    unfold leadL
    rw [flt_one (a := u) (by omega) (fun c => by unfold leadB; rw [if_neg (by omega), if_pos z, ndA_at hyk, hu]; apply decide_eq_decide.mpr; omega)]
    exact r
  · rw [show ((k : Nat) : Int) + 1 = ((k + 1 : Nat) : Int) by omega]
    have hat := hAt.2.1 k hk
    refine c_lead_at (P := leadB ns s k) (o := s.2.2.1) hbd hW hAt hk hnm (fun c => by unfold leadB; rw [if_neg (by omega), if_neg (by omega), if_neg (by omega), if_pos z]) _ (k + 1) [] M1 rfl (by omega) (by omega) (by simp) D1 R1 (fun MI' r f => hQ MI' ?_ (frP_tr f1 f))
    rw [List.nil_append] at r
    unfold leadL
    rw [rg_0]
    have := rg_skip (P := leadB ns s k) (n := ns.length) (k + 1) 0 (by omega) (fun i a1 a2 => by
      obtain ⟨z', hz⟩ : ∃ z, ns[i]? = some z := ⟨_, List.getElem?_eq_getElem (by omega)⟩
      unfold leadB
      rw [if_neg (by omega), if_neg (by omega), if_neg (by omega), if_pos z, ndA_at hz, decide_eq_false, Bool.false_and]
      rintro ⟨w1, w2⟩
      have := hAt.1 i z' hz
      omega)
    rw [Nat.zero_add] at this
    rw [this]
    exact r
theorem c_isQuoted {f k : Nat} {o : Option By} (hbd : b = 38 ∨ b = 81) (hW : WfN ns) (hk : k < ns.length) (hf : f < 48) (hn : n ≤ 6000) (hT1 : MI 1 = T) (hD : DocC b TD nD N pl D ns [] dp MI ML) (hq : quO T n f o MI) (hQ : Q (some (vI (if quB ns k o = true then 1 else 0))) (MI, ML, GR d e nw th 1)) :
    wp cs mX8_isQuoted KD Q 0 (padL [vR 23, vR b, vR 14, vI (f : Nat), vI (k : Nat)] 6) [] (KD, MI, ML, GR d e nw th 1) := by
  have h600 := hD.2.2.2.2.1.2.1
  obtain ⟨y, hy⟩ : ∃ y, ns[k]? = some y := ⟨_, List.getElem?_eq_getElem hk⟩
  have hA := hD.2.2.2.2.1.2.2.2 k y hy
  refine v_X8_isQuoted_0 hbd ?_
  simp only [Int.toNat_natCast]
  cases o with
  | none =>
    have hq' : MI 22 f = -1 := hq
    rw [hq']
    exact ⟨by omega, fun _ => hQ, fun z => absurd rfl z⟩
  | some v =>
    have hq' : slc T n (MI 21 f) (MI 22 f) v := hq
    have q1 := hq'.1
    have q2 := hq'.2.1
    have q3 := hq'.2.2.1
    obtain ⟨hst, g1, g2⟩ := str_at hbd hD hW hy
    have s1 := hst.1
    have s2 := hst.2.1
    have s3 := hst.2.2.1
    have hP : (if y.1 = 2 then MI b 14 else ((tle ns : Nat) : Int)) ≤ 2000 := by split <;> omega
    have hqb : quB ns k (some v) = decide (stS ns k y = v) := by unfold quB; rw [ndA_at hy]
    rw [hqb] at hQ
    refine ⟨by omega, fun z => by omega, fun _ => ⟨by omega, by omega, fun he => ?_, fun he => ?_⟩⟩
    · refine v_X6_quotedBytes_0 (rR_mk ?_)
      have hw : slc (MI 1) n (MI 21 f) (MI (b + 40) k - MI (b + 39) k) v := by rw [hT1, he]; exact hq'
      refine c_hasBytes hbd (wq := 1) (sw := 6000) (hq := if y.1 = 2 then b + 41 else b + 42) rfl (by decide) (by decide) (by omega) hP hn (by rw [hA.1]) rfl rfl hst hw (rI_mk ?_)
      by_cases hh : stS ns k y = v
      · rw [decide_eq_true hh, if_pos rfl] at hQ
        rw [if_pos hh]
        exact ⟨fun z => by omega, fun _ => hQ⟩
      · rw [decide_eq_false hh, if_neg (by decide)] at hQ
        rw [if_neg hh]
        exact ⟨fun _ => hQ, fun z => absurd rfl z⟩
    · rw [decide_eq_false (fun w => he (by rw [s2, q2, w])), if_neg (by decide)] at hQ
      exact hQ
end Pd06
