/-! The reference's attributes by default. -/
section P98
variable {cs : Cs} {Q : Option AV → Mm → Prop} {MI ML OI OL : Nat → Nat → Int} {bk d e nw th x pl : Nat} {T : Nat → Int} {n B : Int} {s : PR Int} {D : Dt} {ns : List Nd}
theorem rdo_bad {f q l1 l2 l3 : Int} {rs : List Rl} (hs : StR bk T n OI OL B (.inl (f, q)) MI ML) (hR : RuRR bk T n pl rs MI) (hQ : Q none (MI, ML, GR d e nw th x)) : wp cs mX12_defaultsOf KD Q 9 [some (vR 124), some (vI l1), some (vI l2), some (vI l3), none, none, none] [] (KD, MI, ML, GR d e nw th x) := by
  have a5 := hs.1.2.2.2.2.1
  have e8 : MI 124 8 = (bk : Int) := hs.1.2.2.2.1
  have h7 := hR.2.1
  refine v_X12_defaultsOf_9 ?_
  rw [e8]
  simp only [Int.toNat_natCast]
  rw [hR.1]
  exact ⟨by omega, by omega, by omega, fun _ => ux_isGood hs (fun _ z => by cases z) (fun _ _ _ => rI_mk ⟨fun _ => hQ, fun z => absurd rfl z⟩), fun _ => hQ⟩
theorem c_rdo_l {a w dp : Int} {ec : Nat} {os : List Int} {o : By} : ∀ (u pre : List Rl) (ns : List Nd) (MI : Nat → Nat → Int), pre ++ u = D.2.2 → StR bk T n OI OL B (.inr a) MI ML → TreR bk T n pl D (ns, (ec : Int) :: os, dp) MI ML → TgI ns ec os → cntA ns (ec : Int) ≤ 8 → (∃ y0, ns[ec]? = some y0 ∧ y0.1 = 1 ∧ y0.2.2.1 = o) →
    (∀ ns' MI', dfF (ec : Int) o u ns = some ns' → StR bk T n OI OL B (.inr a) MI' ML → TreR bk T n pl D (ns', (ec : Int) :: os, dp) MI' ML → frX (chA bk pl ns.length) MI ML MI' ML → Q none (MI', ML, GR d e nw th x)) →
    (∀ MI', dfF (ec : Int) o u ns = none → StR bk T n OI OL B (.inl (-3, w)) MI' ML → frX (chA bk pl ns.length) MI ML MI' ML → Q none (MI', ML, GR d e nw th x)) →
    wp cs mX12_defaultsOf KD Q 9 [some (vR 124), some (vI (ec : Nat)), some (vI w), some (vI ((800 * bk + pre.length : Nat) : Int)), none, none, none] [] (KD, MI, ML, GR d e nw th x) := by
  intro u
  induction u with
  | nil =>
    intro pre ns MI hp hs hR hI h8 hy0 hT hF
    rw [List.append_nil] at hp
    have a5 := hs.1.2.2.2.2.1
    have e8 : MI 124 8 = (bk : Int) := hs.1.2.2.2.1
    have h7 := hR.1.2.2.1.2.1
    have h154 := hR.1.2.2.1.1
    refine v_X12_defaultsOf_9 ?_
    rw [e8]
    simp only [Int.toNat_natCast]
    rw [h154, hp]
    exact ⟨by omega, by omega, by omega, fun z => by omega, fun _ => hT ns MI rfl hs hR (frX_rfl _ _)⟩
  | cons q u ih =>
    intro pre ns MI hp hs hR hI h8 hy0 hT hF
    obtain ⟨a1, a2, a3, a4, a5, a6, a7⟩ := hs.1
    have e8 : MI 124 8 = (bk : Int) := hs.1.2.2.2.1
    have h7 := hR.1.2.2.1.2.1
    have h154 := hR.1.2.2.1.1
    have hE := hI.2.1.1
    have hec := hI.2.2.1
    have h6 : ns.length ≤ 600 := hR.2.1.2.1
    have hlen : pre.length < D.2.2.length := by rw [← hp]; simp
    have hq : D.2.2[pre.length]? = some q := by rw [← hp]; simp
    have hA := hR.1.2.2.1.2.2 pre.length q hq
    obtain ⟨r1, r2, r3, r4, r5, r6⟩ := hA
    obtain ⟨rJ, hrI⟩ : ∃ rJ, rJ = 800 * bk + pre.length := ⟨_, rfl⟩
    rw [← hrI] at r1 r2 r5 r6 ⊢
    have hp' : (pre ++ [q]) ++ u = D.2.2 := by rw [List.append_assoc]; exact hp
    have el : ((rJ : Nat) : Int) + 1 = ((800 * bk + (pre ++ [q]).length : Nat) : Int) := by rw [List.length_append, List.length_singleton]; omega
    obtain ⟨y0, hy1, hy2, hy3⟩ := hy0
    obtain ⟨n1, n2, n3, -⟩ := hR.2.1.2.2 ec y0 hy1
    have fld : ∀ (k : Nat), fldR k → chA bk pl ns.length 124 k := fun k h => chA_fld h
    rw [dfF] at hT hF
    -- a RULE that adds nothing
    have skip : ¬ (q.1 = o ∧ 2 ≤ q.2.2.2.2.1 ∧ hasA ns (ec : Int) q.2.1 = false) → wp cs mX12_defaultsOf KD Q 9 [some (vR 124), some (vI (ec : Nat)), some (vI w), some (vI ((rJ : Nat) + 1)), none, none, none] [] (KD, MI, ML, GR d e nw th x) := by
      intro hc
      rw [if_neg hc] at hT hF
      rw [el]
      exact ih (pre ++ [q]) ns MI hp' hs hR hI h8 ⟨y0, hy1, hy2, hy3⟩ hT hF
    refine v_X12_defaultsOf_9 ?_
    rw [e8]
    simp only [Int.toNat_natCast]
    rw [h154]
    refine ⟨by omega, by omega, by omega, fun _ => ux_isGood hs (fun _ _ => rI_mk ⟨fun z => by omega, fun _ => ?_⟩) (fun f q z => by cases z), fun z => by omega⟩
    rw [e8, show (600 * (bk : Int) + ((ec : Nat) : Int)).toNat = 600 * bk + ec by omega]
    refine ⟨by omega, by omega, by omega, by omega, ?_⟩
    refine c_isSame a5 a3.2 a6 r1 (n3.2 (Or.inl hy2)) (fun r hr => rI_mk ⟨fun z => ⟨by omega, ?_⟩, fun z => ?_⟩)
    · exact skip (fun c => by rw [hy3, if_pos c.1] at hr; omega)
    have ho : q.1 = o := Decidable.byContradiction fun c => by rw [hy3, if_neg c] at hr; exact z hr
    rw [r5]
    refine ⟨fun h2 => ⟨by omega, skip (fun c => by have := c.2.1; unfold howR at h2; split at h2; omega; split at h2; omega; omega)⟩, fun h2 => ?_⟩
    have hu : 2 ≤ q.2.2.2.2.1 := by unfold howR at h2; split at h2; omega; split at h2; omega; omega
    refine c_hasAttr hs hE (by omega) hR.2.1 r2 (rI_mk ?_)
    cases hh : hasA ns (ec : Int) q.2.1 with
    | true =>
      rw [if_pos rfl]
      exact ⟨fun z => by omega, fun _ => ⟨by omega, skip (fun c => by rw [hh] at c; cases c.2.2)⟩⟩
    | false =>
    rw [if_neg (by decide)]
    rw [if_pos ⟨ho, hu, hh⟩] at hT hF
    refine ⟨fun _ => ?_, fun z => absurd rfl z⟩
    -- one more than may be
    have bad : (8 ≤ cntA ns (ec : Int) ∨ 600 ≤ ns.length) → ∀ (MI1 : Nat → Nat → Int), StR bk T n OI OL B (.inl (-3, w)) MI1 ML → mvr MI MI1 → wp cs mX12_defaultsOf KD Q 9 [some (vR 124), some (vI (ec : Nat)), some (vI w), some (vI ((rJ : Nat) + 1)), none, none, none] [] (KD, MI1, ML, GR d e nw th x) := by
      intro hc MI1 s1 m1
      rw [if_pos hc] at hF
      exact rdo_bad s1 (RuRR_mvr hR.1.2.2.1 m1) (hF MI1 rfl s1 (frX_mvr fld m1))
    refine c_attrsOf hs hE (by omega) hR.2.1 (rI_mk ⟨fun h88 => ?_, fun h88 => ?_⟩)
    · refine ux_fail (by decide) hs (fun MI1 s1 m1 => rV_mk ?_)
      refine v_X12_defaultsOf_138 (ux_newNode (pl := pl) s1 (NodR_mvr hR.2.1 m1).1 h6 (OpnR_mvr hR.2.2.1 m1) (fun a MI' h => by cases h) (fun f' p' MI2 h s2 m2 => rI_mk ?_))
      cases h
      exact ux_isGood s2 (fun _ z => by cases z) (fun _ _ _ => rI_mk ⟨fun _ => ⟨by omega, bad (Or.inl (by omega)) MI2 s2 (mvr_tr m1 m2)⟩, fun z => absurd rfl z⟩)
    refine v_X12_defaultsOf_138 (ux_newNode (pl := pl) hs hR.2.1.1 h6 hR.2.2.1 (fun a' MI1 ha hlt s1 f1 q124 q138 q139 e129 hnew => rI_mk ?_) (fun f p MI1 hp1 s1 m1 => rI_mk ?_))
    rotate_left
    · rw [pb_r] at hp1
      simp only at hp1
      split at hp1
      · cases hp1
        exact ux_isGood s1 (fun _ z => by cases z) (fun _ _ _ => rI_mk ⟨fun _ => ⟨by omega, bad (Or.inr (by assumption)) MI1 s1 m1⟩, fun z => absurd rfl z⟩)
      · cases hp1
    cases ha
    simp only at hlt f1 e129 hnew
    rw [if_neg (by simp)] at hnew
    rw [if_neg (by omega)] at hT hF
    refine ux_isGood s1 (fun _ _ => rI_mk ⟨fun z => by omega, fun _ => ?_⟩) (fun f q z => by cases z)
    obtain ⟨kI, hkI⟩ : ∃ kI, kI = 600 * bk + ns.length := ⟨_, rfl⟩
    rw [← hkI] at hnew
    have c13 : ∀ i, 130 ≤ i → i ≤ 137 → chA bk pl ns.length i kI := fun i h1 h2 => Or.inr (Or.inr (Or.inl ⟨⟨h1, h2⟩, by omega, by omega⟩))
    have k8 : MI1 124 8 = (bk : Int) := s1.1.2.2.2.1
    rw [k8, show (600 * (bk : Int) + ((ns.length : Nat) : Int)).toNat = kI by omega]
    simp only [Int.toNat_natCast]
    refine ⟨by omega, by omega, by omega, by omega, fun m178 e178 m191 e191 m204 e204 m217 e217 m225 e225 => ⟨by omega, ?_⟩⟩
    have row1 : ∀ i, 141 ≤ i → i ≤ 167 → MI1 i = MI i := fun i h1 h2 => (frX_row f1 (fun k => by unfold chA; omega)).1
    have w132 : m225 132 kI = MI 157 rJ := by rw [e225, up2_ne (by decide), e217, up2_ne (by decide), e204, up2_ne (by decide), e191, up2_ne (by decide), e178, up2_eq, row1 157 (by omega) (by omega)]
    have w133 : m225 133 kI = MI 158 rJ := by rw [e225, up2_ne (by decide), e217, up2_ne (by decide), e204, up2_ne (by decide), e191, up2_eq, e178, up2_ne (by decide), row1 158 (by omega) (by omega)]
    have w134 : m225 134 kI = MI 161 rJ := by rw [e225, up2_ne (by decide), e217, up2_ne (by decide), e204, up2_eq, e191, up2_ne (by decide), e178, up2_ne (by decide), row1 161 (by omega) (by omega)]
    have w135 : m225 135 kI = MI 162 rJ := by rw [e225, up2_ne (by decide), e217, up2_eq, e204, up2_ne (by decide), e191, up2_ne (by decide), e178, up2_ne (by decide), row1 162 (by omega) (by omega)]
    have w136 : m225 136 kI = 1 := by rw [e225, up2_eq]
    have r : ∀ i, ¬ (132 ≤ i ∧ i ≤ 136) → m225 i = MI1 i := fun i hi => by rw [e225, e217, e204, e191, e178]; funext k; rw [up2_ne (by omega), up2_ne (by omega), up2_ne (by omega), up2_ne (by omega), up2_ne (by omega)]
    have fX : frX (chA bk pl ns.length) MI1 ML m225 ML := by
      rw [e225, e217, e204, e191, e178]
      exact frX_tr (frX_tr (frX_tr (frX_tr (frX_upI (c13 132 (by omega) (by omega))) (frX_upI (c13 133 (by omega) (by omega)))) (frX_upI (c13 134 (by omega) (by omega)))) (frX_upI (c13 135 (by omega) (by omega)))) (frX_upI (c13 136 (by omega) (by omega)))
    have r1' := r 124 (by omega)
    have s2 := StR_frX (fun i k z => inB_chA z) s1 fX (by rw [r1']) (by rw [r1']) (by rw [r1'])
    have f2 : frX (chA bk pl ns.length) MI ML m225 ML := frX_tr f1 fX
    have tr := TreR_frA hR f2 (Nat.le_refl _)
    have r138 : m225 138 = MI 138 := by rw [r 138 (by omega), q138]
    have TR : TreR bk T n pl D (ns ++ [(2, (ec : Int), q.2.1, q.2.2.2.2.2, 1, 0)], (ec : Int) :: os, dp) m225 ML := by
      refine ⟨tr.1, ⟨?_, by simp; omega, fun k z hz => ?_⟩, tr.2.2.1, tr.2.2.2, ?_, hR.2.2.2.2.2⟩
      · rw [r 129 (by omega), e129]; simp
      · rcases last_of hz with ⟨hj1, hj2⟩ | ⟨rfl, rfl⟩
        · exact tr.2.1 k z hj2
        · rw [← hkI]
          have p6 := r6 hu
          refine ⟨?_, ?_, ⟨?_, fun _ => ?_⟩, ⟨?_, fun _ => ?_⟩, w136, ?_⟩
          · rw [r 130 (by omega)]; exact hnew.1
          · rw [r 131 (by omega)]; exact hnew.2.1
          · rw [w133]; exact r2.2.1
          · rw [w132, w133]; exact r2
          · rw [w135]; exact p6.2.1
          · rw [w134, w135]
            exact poR_grow p6 (fun k _ => by rw [r138]) (by omega)
          · rw [r 137 (by omega)]; exact hnew.2.2.2.2.2
      · rw [r 139 (by omega), q139]; exact hR.2.2.2.2.1
    rw [el]
    have up : ∀ {MI' : Nat → Nat → Int}, frX (chA bk pl (ns ++ [(2, (ec : Int), q.2.1, q.2.2.2.2.2, 1, 0)]).length) m225 ML MI' ML → frX (chA bk pl ns.length) MI ML MI' ML := fun hf => frX_tr f2 (frX_mono hf (fun i k z => chA_mono (Nat.le_refl _) (by simp) z))
    exact ih (pre ++ [q]) _ m225 hp' s2 TR (TgI_add hI hh) (by rw [cntA_app, if_pos ⟨rfl, rfl⟩]; omega) ⟨y0, last_mono hy1, hy2, hy3⟩ (fun ns' MI' h1 h2 h3 h4 => hT ns' MI' h1 h2 h3 (up h4)) (fun MI' h1 h2 h3 => hF MI' h1 h2 (up h3))
theorem ux_defaultsOf {w dp : Int} {ec : Nat} {os : List Int} {o : By} (hs : StR bk T n OI OL B s MI ML) (hR : TreR bk T n pl D (ns, (ec : Int) :: os, dp) MI ML) (hI : TgI ns ec os) (h8 : cntA ns (ec : Int) ≤ 8) (hy0 : ∃ y0, ns[ec]? = some y0 ∧ y0.1 = 1 ∧ y0.2.2.1 = o)
    (hT : ∀ a ns' MI', s = .inr a → dfF (ec : Int) o D.2.2 ns = some ns' → StR bk T n OI OL B (.inr a) MI' ML → TreR bk T n pl D (ns', (ec : Int) :: os, dp) MI' ML → frX (chA bk pl ns.length) MI ML MI' ML → Q none (MI', ML, GR d e nw th x))
    (hF : ∀ f q MI', (pb s fun a => match dfF (ec : Int) o D.2.2 ns with | none => (.inl (-3, w) : PR Int) | some _ => .inr a) = .inl (f, q) → StR bk T n OI OL B (.inl (f, q)) MI' ML → frX (chA bk pl ns.length) MI ML MI' ML → MI' 124 64 = MI 124 64 → Q none (MI', ML, GR d e nw th x)) :
    wp cs mX12_defaultsOf KD Q 0 (padL [vR 124, vI (ec : Nat), vI w] 7) [] (KD, MI, ML, GR d e nw th x) := by
  have a5 := hs.1.2.2.2.2.1
  have e8 : MI 124 8 = (bk : Int) := hs.1.2.2.2.1
  refine v_X12_defaultsOf_0 ?_
  rw [e8]
  refine ⟨by omega, ?_⟩
  rcases s with ⟨f, q⟩ | a
  · exact rdo_bad hs hR.1.2.2.1 (hF f q MI rfl hs (frX_rfl _ _) rfl)
  · have := c_rdo_l (cs := cs) (d := d) (e := e) (nw := nw) (th := th) (x := x) (Q := Q) (w := w) D.2.2 [] ns MI rfl hs hR hI h8 hy0 (fun ns' MI' h1 h2 h3 h4 => hT a ns' MI' rfl h1 h2 h3 h4) (fun MI' h1 h2 h3 => hF (-3) w MI' (by rw [pb_r, h1]) h2 h3 (h3 124 64 (by unfold chA fldR; omega)).1)
    rw [show ((800 * bk + ([] : List Rl).length : Nat) : Int) = 800 * (bk : Int) by simp] at this
    exact this
end P98
