/-! The reference's attributes. -/
section P97
variable {cs : Cs} {Q : Option AV → Mm → Prop} {MI ML OI OL : Nat → Nat → Int} {bk d e nw th x pl : Nat} {T : Nat → Int} {n B : Int} {s : PR Int} {D : Dt} {ns : List Nd}
theorem TreR_frA {pl' : Nat} {t : Tr} {MI' ML' : Nat → Nat → Int} (h : TreR bk T n pl D t MI ML) (hf : frX (chA bk pl t.1.length) MI ML MI' ML') (hp : pl ≤ pl') : DclR bk T n pl' D MI' ML' ∧ (∀ (k : Nat) (y : Nd), t.1[k]? = some y → NdRA bk T n pl' MI' (600 * bk + k) y) ∧ OpnR t.2.1 MI' ∧ MI' 140 bk = t.2.2 := by
  obtain ⟨h1, h2, h3, h4, h5, h6⟩ := h
  have h138 : ∀ k : Nat, k < pl → MI' 138 (2000 * bk + k) = MI 138 (2000 * bk + k) := fun k hk => (hf 138 _ (by unfold chA; omega)).1
  refine ⟨DclR_fr h1 (fun i hi => frX_row hf (fun k => by unfold chA; omega)) h138 hp, fun k y hy => ?_, OpnR_fr h3 (hf 124 64 (by unfold chA fldR; omega)).1 (frX_row hf (fun k => by unfold chA; omega)).1, by rw [(hf 140 bk (by unfold chA; omega)).1]; exact h4⟩
  have := (List.getElem?_eq_some_iff.mp hy).1
  exact NdRA_fr (h2.2.2 k y hy) (fun i a b => (hf i _ (by unfold chA; omega)).1) h138 hp
theorem ra67_bad {f q l1 l2 l3 : Int} {op : List Int} (hs : StR bk T n OI OL B (.inl (f, q)) MI ML) (hN : NodR bk T n pl ns MI) (hop : OpnR op MI) (hQ : ∀ MI', StR bk T n OI OL B (.inl (f, q)) MI' ML → mvr MI MI' → Q none (MI', ML, GR d e nw th x)) : wp cs mX12_attribute KD Q 67 [some (vR 124), some (vI l1), some (vI l2), some (vI l3), none, none, none] [] (KD, MI, ML, GR d e nw th x) := by
  refine v_X12_attribute_67 (ux_newNode (pl := pl) hs hN.1 hN.2.1 hop (fun a MI' h => by cases h) (fun f' p' MI1 h s1 m1 => rI_mk ?_))
  cases h
  exact ux_isGood s1 (fun _ z => by cases z) (fun _ _ _ => rI_mk ⟨fun _ => hQ MI1 s1 m1, fun z => absurd rfl z⟩)
theorem ux_attribute {h : Int} {ec : Nat} {os : List Int} {dp : Int} (hs : StR bk T n OI OL B (.inr h) MI ML) (hB : B + 2 ≤ 60000) (hR : TreR bk T n pl D (ns, (ec : Int) :: os, dp) MI ML) (hI : TgI ns ec os) (h8 : cntA ns (ec : Int) ≤ 8)
    (hT : ∀ pl' ns' y MI', atS T n (ec : Int) pl ns h = .inr (pl', ns', y) → StR bk T n OI OL (B + 2) (.inr y) MI' ML → TreR bk T n pl' D (ns', (ec : Int) :: os, dp) MI' ML → TgI ns' ec os → cntA ns' (ec : Int) ≤ 8 → pl ≤ pl' → ns.length ≤ ns'.length → frX (chA bk pl ns.length) MI ML MI' ML → Q none (MI', ML, GR d e nw th x))
    (hF : ∀ f q MI', atS T n (ec : Int) pl ns h = .inl (f, q) → StR bk T n OI OL (B + 2) (.inl (f, q)) MI' ML → frX (chA bk pl ns.length) MI ML MI' ML → Q none (MI', ML, GR d e nw th x)) :
    wp cs mX12_attribute KD Q 0 (padL [vR 124, vI (ec : Nat)] 7) [] (KD, MI, ML, GR d e nw th x) := by
  have a5 := hs.1.2.2.2.2.1
  have hn := hs.1.2.2.1
  have hBB := hs.2.1
  have hh0 := hs.2.2.2.2.2
  have fld : ∀ (k : Nat), fldR k → chA bk pl ns.length 124 k := fun k h => chA_fld h
  have hE := hI.2.1.1
  have hec := hI.2.2.1
  have hpl := hR.2.2.2.2.2
  unfold atS at hT hF
  refine v_X12_attribute_0 (ux_takeName hs (fun a' g MI1 ha hy s1 m1 e51 => rI_mk ?_) (fun f p g MI1 hy hg s1 m1 => rI_mk ?_))
  rotate_left
  · rw [pb_r] at hy
    rw [hy, pb_l] at hF
    refine ux_isGood s1 (fun _ z => by cases z) (fun _ _ _ => rI_mk ⟨fun _ => ?_, fun z => absurd rfl z⟩)
    refine ux_isGood s1 (fun _ z => by cases z) (fun _ _ _ => rI_mk ⟨fun _ => ?_, fun z => absurd rfl z⟩)
    exact ra67_bad s1 (NodR_mvr hR.2.1 m1) (OpnR_mvr hR.2.2.1 m1) (fun MI2 s2 m2 => hF f p MI2 rfl (StR_B s2 (by omega)) (frX_mvr fld (mvr_tr m1 m2)))
  cases ha
  have hg := nmS_ok hy
  rw [hy, pb_r] at hT hF
  have R1 := TreR_mvr hR m1
  have e8 : MI1 124 8 = (bk : Int) := s1.1.2.2.2.1
  obtain ⟨b1, b2, b3, b4, b5⟩ := s1.2.2
  have hna : nmR bk T n (6000 * (bk : Int) + h) (g - h) (nb T h g) := by
    unfold nmR
    rw [show 6000 * (bk : Int) + h - 6000 * (bk : Int) = h by omega]
    exact slc_nb (by omega) (by omega) (by omega)
  refine ux_isGood s1 (fun _ _ => rI_mk ⟨fun z => by omega, fun _ => ?_⟩) (fun f q z => by cases z)
  rw [e8, e51]
  refine ⟨by omega, by omega, c_hasAttr s1 hE (by omega) R1.2.1 hna (rI_mk ?_)⟩
  have bad : ∀ (f : Int) (MI2 : Nat → Nat → Int), StR bk T n OI OL B (.inl (f, h)) MI2 ML → mvr MI1 MI2 → (∀ MI', StR bk T n OI OL (B + 2) (.inl (f, h)) MI' ML → frX (chA bk pl ns.length) MI ML MI' ML → Q none (MI', ML, GR d e nw th x)) → wp cs mX12_attribute KD Q 67 [some (vR 124), some (vI (ec : Nat)), some (vI h), some (vI (g - h)), none, none, none] [] (KD, MI2, ML, GR d e nw th x) := by
    intro f MI2 s2 m2 hq
    have m12 := mvr_tr m1 m2
    exact ra67_bad s2 (NodR_mvr hR.2.1 m12) (OpnR_mvr hR.2.2.1 m12) (fun MI3 s3 m3 => hq MI3 (StR_B s3 (by omega)) (frX_mvr fld (mvr_tr m12 m3)))
  cases hh : hasA ns (ec : Int) (nb T h g) with
  | true =>
    rw [if_pos hh] at hF
    rw [if_pos rfl]
    refine ⟨fun z => by omega, fun _ => ux_fail (by decide) s1 (fun MI2 s2 m2 => rV_mk ?_)⟩
    refine ux_isGood s2 (fun _ z => by cases z) (fun _ _ _ => rI_mk ⟨fun _ => ?_, fun z => absurd rfl z⟩)
    exact bad (-2) MI2 s2 m2 (fun MI' h1 h2 => hF (-2) h MI' rfl h1 h2)
  | false =>
  have hfa : ¬ hasA ns (ec : Int) (nb T h g) = true := by rw [hh]; decide
  rw [if_neg hfa] at hT hF
  rw [if_neg (by decide)]
  refine ⟨fun _ => ?_, fun z => absurd rfl z⟩
  refine ux_isGood s1 (fun _ _ => rI_mk ⟨fun z => by omega, fun _ => ?_⟩) (fun f q z => by cases z)
  refine c_attrsOf s1 hE (by omega) R1.2.1 (rI_mk ⟨fun h88 => ?_, fun h88 => ?_⟩)
  · rw [if_pos (Or.inl (by omega))] at hF
    exact ux_fail (by decide) s1 (fun MI2 s2 m2 => rV_mk (bad (-3) MI2 s2 m2 (fun MI' h1 h2 => hF (-3) h MI' rfl h1 h2)))
  refine v_X12_attribute_67 (ux_newNode (pl := pl) s1 R1.2.1.1 R1.2.1.2.1 R1.2.2.1 (fun a MI2 ha hlt s2 f2 r124 r138 r139 e129 hnew => rI_mk ?_) (fun f p MI2 hp s2 m2 => rI_mk ?_))
  rotate_left
  · refine ux_isGood s2 (fun _ z => by cases z) (fun _ _ _ => rI_mk ⟨fun _ => ?_, fun z => absurd rfl z⟩)
    rw [pb_r] at hp
    simp only at hp
    split at hp
    · cases hp
      rw [if_pos (Or.inr (by assumption))] at hF
      exact hF (-3) h MI2 rfl (StR_B s2 (by omega)) (frX_mvr fld (mvr_tr m1 m2))
    · cases hp
  cases ha
  simp only at hlt f2 e129 hnew
  rw [if_neg (by simp)] at hnew
  rw [if_neg (by omega)] at hT hF
  obtain ⟨kI, hkI⟩ : ∃ kI, kI = 600 * bk + ns.length := ⟨_, rfl⟩
  rw [← hkI] at hnew
  have f2' : frX (chA bk pl ns.length) MI ML MI2 ML := frX_tr (frX_mvr fld m1) f2
  have c13 : ∀ i, 130 ≤ i → i ≤ 137 → chA bk pl ns.length i kI := fun i h1 h2 => Or.inr (Or.inr (Or.inl ⟨⟨h1, h2⟩, by omega, by omega⟩))
  refine ux_isGood s2 (fun _ _ => rI_mk ⟨fun z => by omega, fun _ => ?_⟩) (fun f q z => by cases z)
  -- = and the VALUE
  have fin : ∀ (s' : PR Int) (MI3 : Nat → Nat → Int), StR bk T n OI OL B s' MI3 ML → mvr MI2 MI3 → mbS T n (sk T n g) 61 = s' →
      wp cs mX12_maybeS KD (rV (GR d e nw th x) fun m96 n96 => wp cs mX12_value KD (rI (GR d e nw th x) fun x100 m100 n100 => (-2147483648 ≤ 600 * (m100 124 8) ∧ 600 * (m100 124 8) < 2147483648) ∧ (-2147483648 ≤ (600 * (m100 124 8)) + (ns.length : Nat) ∧ (600 * (m100 124 8)) + (ns.length : Nat) < 2147483648) ∧ (-2147483648 ≤ 6000 * (m100 124 8) ∧ 6000 * (m100 124 8) < 2147483648) ∧ (-2147483648 ≤ (6000 * (m100 124 8)) + h ∧ (6000 * (m100 124 8)) + h < 2147483648) ∧ (0 ≤ ((600 * (m100 124 8)) + (ns.length : Nat)) ∧ ((600 * (m100 124 8)) + (ns.length : Nat)) < 1200) ∧ ∀ m130, m130 = up2 m100 132 ((600 * (m100 124 8)) + (ns.length : Nat)).toNat ((6000 * (m100 124 8)) + h) → (-2147483648 ≤ 600 * (m130 124 8) ∧ 600 * (m130 124 8) < 2147483648) ∧ (-2147483648 ≤ (600 * (m130 124 8)) + (ns.length : Nat) ∧ (600 * (m130 124 8)) + (ns.length : Nat) < 2147483648) ∧ (0 ≤ ((600 * (m130 124 8)) + (ns.length : Nat)) ∧ ((600 * (m130 124 8)) + (ns.length : Nat)) < 1200) ∧ ∀ m147, m147 = up2 m130 133 ((600 * (m130 124 8)) + (ns.length : Nat)).toNat (g - h) → (-2147483648 ≤ 600 * (m147 124 8) ∧ 600 * (m147 124 8) < 2147483648) ∧ (-2147483648 ≤ (600 * (m147 124 8)) + (ns.length : Nat) ∧ (600 * (m147 124 8)) + (ns.length : Nat) < 2147483648) ∧ (0 ≤ ((600 * (m147 124 8)) + (ns.length : Nat)) ∧ ((600 * (m147 124 8)) + (ns.length : Nat)) < 1200) ∧ ∀ m165, m165 = up2 m147 134 ((600 * (m147 124 8)) + (ns.length : Nat)).toNat x100 → (-2147483648 ≤ 600 * (m165 124 8) ∧ 600 * (m165 124 8) < 2147483648) ∧ (-2147483648 ≤ (600 * (m165 124 8)) + (ns.length : Nat) ∧ (600 * (m165 124 8)) + (ns.length : Nat) < 2147483648) ∧ (0 ≤ ((600 * (m165 124 8)) + (ns.length : Nat)) ∧ ((600 * (m165 124 8)) + (ns.length : Nat)) < 1200) ∧ ∀ m185, m185 = up2 m165 135 ((600 * (m165 124 8)) + (ns.length : Nat)).toNat (m165 124 51) → Q none (m185, n100, (GR d e nw th x))) 0 (padL [vR 124] 5) [] (KD, m96, n96, (GR d e nw th x))) 0 (padL [vR 124] 1) [] (KD, MI3, ML, (GR d e nw th x)) := by
    intro s' MI3 s3 m3 hs'
    refine ux_maybeS s3 (fun MI4 s4 m4 _ _ => rV_mk ?_)
    have m34 := mvr_tr m3 m4
    have h139 : MI4 139 bk = (pl : Nat) := by rw [m34.1 139 (by decide), r139]; exact R1.2.2.2.2.1
    -- the writes
    have wr : ∀ (X : Int) (m100 : Nat → Nat → Int) (s5 : PR Int), StR bk T n OI OL (B + 2) s5 m100 ML → valR bk pl MI4 m100 → (∀ m185 : Nat → Nat → Int, StR bk T n OI OL (B + 2) s5 m185 ML → frX (chA bk pl ns.length) MI ML m185 ML → (∀ i, ¬ (132 ≤ i ∧ i ≤ 135) → m185 i = m100 i) → m185 132 kI = 6000 * (bk : Int) + h → m185 133 kI = g - h → m185 134 kI = X → m185 135 kI = m100 124 51 → Q none (m185, ML, GR d e nw th x)) →
        (-2147483648 ≤ 600 * (m100 124 8) ∧ 600 * (m100 124 8) < 2147483648) ∧ (-2147483648 ≤ (600 * (m100 124 8)) + (ns.length : Nat) ∧ (600 * (m100 124 8)) + (ns.length : Nat) < 2147483648) ∧ (-2147483648 ≤ 6000 * (m100 124 8) ∧ 6000 * (m100 124 8) < 2147483648) ∧ (-2147483648 ≤ (6000 * (m100 124 8)) + h ∧ (6000 * (m100 124 8)) + h < 2147483648) ∧ (0 ≤ ((600 * (m100 124 8)) + (ns.length : Nat)) ∧ ((600 * (m100 124 8)) + (ns.length : Nat)) < 1200) ∧ ∀ m130, m130 = up2 m100 132 ((600 * (m100 124 8)) + (ns.length : Nat)).toNat ((6000 * (m100 124 8)) + h) → (-2147483648 ≤ 600 * (m130 124 8) ∧ 600 * (m130 124 8) < 2147483648) ∧ (-2147483648 ≤ (600 * (m130 124 8)) + (ns.length : Nat) ∧ (600 * (m130 124 8)) + (ns.length : Nat) < 2147483648) ∧ (0 ≤ ((600 * (m130 124 8)) + (ns.length : Nat)) ∧ ((600 * (m130 124 8)) + (ns.length : Nat)) < 1200) ∧ ∀ m147, m147 = up2 m130 133 ((600 * (m130 124 8)) + (ns.length : Nat)).toNat (g - h) → (-2147483648 ≤ 600 * (m147 124 8) ∧ 600 * (m147 124 8) < 2147483648) ∧ (-2147483648 ≤ (600 * (m147 124 8)) + (ns.length : Nat) ∧ (600 * (m147 124 8)) + (ns.length : Nat) < 2147483648) ∧ (0 ≤ ((600 * (m147 124 8)) + (ns.length : Nat)) ∧ ((600 * (m147 124 8)) + (ns.length : Nat)) < 1200) ∧ ∀ m165, m165 = up2 m147 134 ((600 * (m147 124 8)) + (ns.length : Nat)).toNat X → (-2147483648 ≤ 600 * (m165 124 8) ∧ 600 * (m165 124 8) < 2147483648) ∧ (-2147483648 ≤ (600 * (m165 124 8)) + (ns.length : Nat) ∧ (600 * (m165 124 8)) + (ns.length : Nat) < 2147483648) ∧ (0 ≤ ((600 * (m165 124 8)) + (ns.length : Nat)) ∧ ((600 * (m165 124 8)) + (ns.length : Nat)) < 1200) ∧ ∀ m185, m185 = up2 m165 135 ((600 * (m165 124 8)) + (ns.length : Nat)).toNat (m165 124 51) → Q none (m185, ML, (GR d e nw th x)) := by
      intro X m100 s5 h5 v5 go
      have ei : (600 * (bk : Int) + ((ns.length : Nat) : Int)).toNat = kI := by omega
      have k8 : m100 124 8 = (bk : Int) := h5.1.2.2.2.1
      rw [k8, ei]
      refine ⟨by omega, by omega, by omega, by omega, by omega, fun m130 e130 => ?_⟩
      have k8' : m130 124 8 = (bk : Int) := by rw [e130, up2_ne (by decide)]; exact k8
      rw [k8', ei]
      refine ⟨by omega, by omega, by omega, fun m147 e147 => ?_⟩
      have k8'' : m147 124 8 = (bk : Int) := by rw [e147, up2_ne (by decide)]; exact k8'
      rw [k8'', ei]
      refine ⟨by omega, by omega, by omega, fun m165 e165 => ?_⟩
      have k8''' : m165 124 8 = (bk : Int) := by rw [e165, up2_ne (by decide)]; exact k8''
      rw [k8''', ei]
      refine ⟨by omega, by omega, by omega, fun m185 e185 => ?_⟩
      have r : ∀ i, ¬ (132 ≤ i ∧ i ≤ 135) → m185 i = m100 i := fun i hi => by rw [e185, e165, e147, e130]; funext k; rw [up2_ne (by omega), up2_ne (by omega), up2_ne (by omega), up2_ne (by omega)]
      have fX : frX (chA bk pl ns.length) m100 ML m185 ML := by
        rw [e185, e165, e147, e130]
        exact frX_tr (frX_tr (frX_tr (frX_upI (c13 132 (by omega) (by omega))) (frX_upI (c13 133 (by omega) (by omega)))) (frX_upI (c13 134 (by omega) (by omega)))) (frX_upI (c13 135 (by omega) (by omega)))
      have r1 := r 124 (by omega)
      refine go m185 (StR_frX (fun i k z => inB_chA z) h5 fX (by rw [r1]) (by rw [r1]) (by rw [r1])) (frX_tr f2' (frX_tr (frX_mvr fld m34) (frX_tr (frX_mono (frX_valR v5) (fun i k z => chA_V z)) fX))) r ?_ ?_ ?_ ?_
      · rw [e185, up2_ne (by decide), e165, up2_ne (by decide), e147, up2_ne (by decide), e130, up2_eq]
      · rw [e185, up2_ne (by decide), e165, up2_ne (by decide), e147, up2_eq]
      · rw [e185, up2_ne (by decide), e165, up2_eq]
      · rw [e185, up2_eq, e165, up2_ne (by decide), e147, up2_ne (by decide), e130, up2_ne (by decide)]
    rw [hs'] at hT hF
    refine ux_value s4 hB h139 hpl (fun l y m100 hv s5 v5 e139 e51 po => rI_mk (wr _ m100 _ s5 v5 (fun m185 s6 f6 r6 k132 k133 k134 k135 => ?_))) (fun f q m100 hv s5 v5 e139 => rI_mk (wr _ m100 _ s5 v5 (fun m185 s6 f6 r6 k132 k133 k134 k135 => ?_)))
    · have hk : (pb s' fun y => pb (vlS T n (2000 - pl) (sk T n y)) fun q => (.inr (pl + q.1.length, ns ++ [(2, (ec : Int), nb T h g, q.1, 0, 0)], q.2) : PR (Nat × List Nd × Int))) = .inr (pl + l.length, ns ++ [(2, (ec : Int), nb T h g, l, 0, 0)], y) := by
        rcases s' with w | w
        · cases hv
        · rw [pb_r, pb_r] at hv
          rw [pb_r, hv]; rfl
      have hvl : pl + l.length ≤ 2000 := by
        rcases s' with w | w
        · cases hv
        · rw [pb_r, pb_r] at hv
          have hw := s3.2.2.2.2.2
          have hsk := sk_le T n w
          have hw0 := s3.2.2.2.2.1
          have := vlS_le (by omega) hv
          omega
      have tr := TreR_frA hR f6 (pl' := pl + l.length) (by omega)
      have v13 : ∀ i, 130 ≤ i → i ≤ 137 → ¬ (132 ≤ i ∧ i ≤ 135) → m185 i kI = MI2 i kI := fun i h1 h2 h3 => by rw [r6 i h3, v5.1 i (by omega) (by omega) (by omega), m34.1 i (by omega)]
      refine hT (pl + l.length) (ns ++ [(2, (ec : Int), nb T h g, l, 0, 0)]) y m185 hk s6 ⟨tr.1, ⟨?_, by simp; omega, fun k z hz => ?_⟩, tr.2.2.1, tr.2.2.2, ?_, hvl⟩ (TgI_add hI hh) ?_ (by omega) (by simp) f6
      · rw [r6 129 (by omega), v5.1 129 (by decide) (by decide) (by decide), m34.1 129 (by decide), e129]; simp
      · rcases last_of hz with ⟨hj1, hj2⟩ | ⟨rfl, rfl⟩
        · exact tr.2.1 k z hj2
        · rw [← hkI]
          refine ⟨?_, ?_, ⟨?_, fun _ => ?_⟩, ⟨?_, fun _ => ?_⟩, ?_, ?_⟩
          · rw [v13 130 (by omega) (by omega) (by omega)]; exact hnew.1
          · rw [v13 131 (by omega) (by omega) (by omega)]; exact hnew.2.1
          · rw [k133]; show g - h = ((nb T h g).length : Nat); rw [nb_len]; omega
          · rw [k132, k133]; exact hna
          · rw [k135, e51]
          · rw [k134, k135, e51]
            exact poR_grow po (fun k _ => by rw [r6 138 (by omega)]) (by omega)
          · rw [v13 136 (by omega) (by omega) (by omega)]; exact hnew.2.2.2.2.1
          · rw [v13 137 (by omega) (by omega) (by omega)]; exact hnew.2.2.2.2.2
      · rw [r6 139 (by omega), e139]; omega
      · rw [cntA_app, if_pos ⟨rfl, rfl⟩]; omega
    · have hk : (pb s' fun y => pb (vlS T n (2000 - pl) (sk T n y)) fun q => (.inr (pl + q.1.length, ns ++ [(2, (ec : Int), nb T h g, q.1, 0, 0)], q.2) : PR (Nat × List Nd × Int))) = .inl (f, q) := by
        rcases s' with w | w
        · cases hv; rfl
        · rw [pb_r, pb_r] at hv
          rw [pb_r, hv]; rfl
      exact hF f q m185 hk s6 f6
  refine ux_maybeS s2 (fun MI3 s3 m3 _ _ => rV_mk ?_)
  rw [pb_r] at s3
  refine ux_passes s3 (fun y MI4 hy s4 m4 _ => rI_mk ?_) (fun f q MI4 hy s4 m4 _ => rI_mk ?_) (by decide)
  · exact fin _ MI4 s4 (mvr_tr m3 m4) hy
  · exact fin _ MI4 s4 (mvr_tr m3 m4) hy
end P97
