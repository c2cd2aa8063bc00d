/-! The reference's RULE (whole) and <!ATTLIST. -/
theorem RuRR_fr {bk pl : Nat} {T : Nat → Int} {n : Int} {rs : List Rl} {MI MI' : Nat → Nat → Int} (h : RuRR bk T n pl rs MI) (h1 : MI' 154 bk = MI 154 bk) (h2 : ∀ i, 155 ≤ i → i ≤ 165 → MI' i = MI i) (h3 : ∀ k : Nat, k < pl → MI' 138 (2000 * bk + k) = MI 138 (2000 * bk + k)) {pl' : Nat} (hp : pl ≤ pl') : RuRR bk T n pl' rs MI' :=
  ⟨by rw [h1]; exact h.1, h.2.1, fun r q hq => RuAR_fr (h.2.2 r q hq) (fun i a b => by rw [h2 i a (by omega)]) (fun i k a _ _ => by rw [h2 i (by omega) (by omega)]) h3 hp⟩
theorem RuRR_mvr {bk pl : Nat} {T : Nat → Int} {n : Int} {rs : List Rl} {MI MI' : Nat → Nat → Int} (h : RuRR bk T n pl rs MI) (m : mvr MI MI') : RuRR bk T n pl rs MI' := RuRR_fr h (by rw [m.1 154 (by decide)]) (fun i a b => m.1 i (by omega)) (fun k _ => by rw [m.1 138 (by decide)]) (Nat.le_refl _)
theorem StoR_fr {bk nr : Nat} {ds : List Dc} {MI MI' : Nat → Nat → Int} (h : StoR bk ds nr MI) (h1 : MI' 167 bk = MI 167 bk) (h2 : MI' 166 = MI 166) : StoR bk ds nr MI' := ⟨by rw [h1]; exact h.1, by rw [h2]; exact h.2.1, by rw [h2]; exact h.2.2⟩
section P94
variable {cs : Cs} {Q : Option AV → Mm → Prop} {MI ML OI OL : Nat → Nat → Int} {bk d e nw th x rJ pl : Nat} {T : Nat → Int} {n B : Int} {s : PR Int} {rs : List Rl} {ds : List Dc} {o : By}
theorem ux_rule {F L a : Int} (hs : StR bk T n OI OL B (.inr a) MI ML) (hB : B + 2 ≤ 60000) (ho : nmR bk T n F L o) (hR : RuRR bk T n pl rs MI) (hO : ∀ o, cntO rs o ≤ 10) (hK : 8 * ((rs.length : Nat) : Int) + 1 ≤ a) (hp : MI 139 bk = (pl : Nat)) (hpl : pl ≤ 2000) (hS : StoR bk ds rs.length MI) (hds : ds.length ≤ 30)
    (hT : ∀ pl' rs' y MI', ruS T n pl rs o a = .inr (pl', rs', y) → StR bk T n OI OL (B + 2) (.inr y) MI' ML → RuRR bk T n pl' rs' MI' → (∀ o, cntO rs' o ≤ 10) → 8 * ((rs'.length : Nat) : Int) ≤ y → MI' 139 bk = (pl' : Nat) → pl ≤ pl' → pl' ≤ 2000 → StoR bk ds rs'.length MI' → frX (chRu bk pl) MI ML MI' ML → Q none (MI', ML, GR d e nw th x))
    (hF : ∀ f q MI', ruS T n pl rs o a = .inl (f, q) → StR bk T n OI OL (B + 2) (.inl (f, q)) MI' ML → frX (chRu bk pl) MI ML MI' ML → Q none (MI', ML, GR d e nw th x)) :
    wp cs mX12_rule KD Q 0 (padL [vR 124, vI F, vI L] 7) [] (KD, MI, ML, GR d e nw th x) := by
  have a5 := hs.1.2.2.2.2.1
  have hn := hs.1.2.2.1
  have hBB := hs.2.1
  have ha0 := hs.2.2.2.2.2
  refine v_X12_rule_0 (ux_takeName hs (fun a' g MI1 ha hy s1 m1 e51 => rI_mk ?_) (fun f p g MI1 hy hg s1 m1 => rI_mk ?_))
  rotate_left
  · refine ux_isGood s1 (fun _ z => by cases z) (fun f' q' z => rI_mk ⟨fun _ => ?_, fun z => absurd rfl z⟩)
    rw [pb_r] at hy
    exact hF f p MI1 (by unfold ruS; rw [hy]; rfl) (StR_B s1 (by omega)) (frX_mvr (fun k h => chRu_fld h) m1)
  cases ha
  have hg := nmS_ok hy
  have hrl : ∀ {pl' rs' y}, ruS T n pl rs o a = .inr (pl', rs', y) → a + 7 ≤ y := fun h => ruS_le (by omega) h
  unfold ruS at hT hF hrl
  rw [hy, pb_r] at hT hF hrl
  refine ux_isGood s1 (fun _ _ => rI_mk ⟨fun z => by omega, fun _ => ?_⟩) (fun f q z => by cases z)
  have e8 : MI1 124 8 = (bk : Int) := s1.1.2.2.2.1
  obtain ⟨b1, b2, b3, b4, b5⟩ := s1.2.2
  rw [e8]
  refine ⟨by omega, by omega, ?_⟩
  rw [e51]
  have hna : nmR bk T n (6000 * (bk : Int) + a) (g - a) (nb T a g) := by
    unfold nmR
    rw [show 6000 * (bk : Int) + a - 6000 * (bk : Int) = a by omega]
    exact slc_nb (by omega) (by omega) (by omega)
  refine c_hasRule s1 (RuRR_mvr hR m1) ho hna (fun m34 e34 => rI_mk ?_)
  have c62 : ∀ {C : Nat → Nat → Prop}, (∀ k, fldR k → C 124 k) → frX C MI1 ML m34 ML := fun h => by rw [e34]; exact frX_upI (h 62 (by unfold fldR; omega))
  have r34 : ∀ i, i ≠ 124 → m34 i = MI1 i := fun i hi => by rw [e34]; funext k; exact up2_ne hi k
  have s2 : StR bk T n OI OL B (.inr g) m34 ML := StR_frX (C := fun i k => i = 124 ∧ fldR k) (fun i k z => Or.inl ⟨z.1, Or.inl z.2⟩) s1 (c62 (fun k h => ⟨rfl, h⟩)) (by rw [e34, up2_nk (by decide)]) (by rw [e34, up2_nk (by decide)]) (by rw [e34, up2_nk (by decide)])
  have f2 : frX (chRu bk pl) MI ML m34 ML := frX_tr (frX_mvr (fun k h => chRu_fld h) m1) (c62 (fun k h => chRu_fld h))
  have q8 : m34 124 8 = (bk : Int) := s2.1.2.2.2.1
  have q62 : m34 124 62 = (cntO rs o : Nat) := by rw [e34, up2_eq]
  have q139 : m34 139 bk = (pl : Nat) := by rw [r34 139 (by decide), m1.1 139 (by decide)]; exact hp
  have q154 : m34 154 bk = (rs.length : Nat) := by rw [r34 154 (by decide), m1.1 154 (by decide)]; exact hR.1
  have hR2 : RuRR bk T n pl rs m34 := RuRR_fr hR (by rw [r34 154 (by decide), m1.1 154 (by decide)]) (fun i h1 h2 => by rw [r34 i (by omega), m1.1 i (by omega)]) (fun k _ => by rw [r34 138 (by decide), m1.1 138 (by decide)]) (Nat.le_refl _)
  have hS2 : StoR bk ds rs.length m34 := StoR_fr hS (by rw [r34 167 (by decide), m1.1 167 (by decide)]) (by rw [r34 166 (by decide), m1.1 166 (by decide)])
  rw [q8, q62]
  simp only [Int.toNat_natCast]
  rw [q154]
  have hO1 := hO o
  have hl := hR.2.1
  -- a failure behind the NAME
  have bad : ∀ (c : Prop) [Decidable c] (f q : Int), ¬ c → pb (tyS T n g) (fun q => dfS T n (2000 - pl) q.2.2) = .inl (f, q) → (if c then (.inl (-3, a) : PR (Nat × List Rl × Int)) else pb (tyS T n g) fun q => pb (dfS T n (2000 - pl) q.2.2) fun z => .inr (pl + z.2.1.length, if hasR rs o (nb T a g) = true then rs else rs ++ [(o, nb T a g, q.1, q.2.1, z.1, z.2.1)], z.2.2)) = .inl (f, q) := by
    intro c _ f q hc h
    rw [if_neg hc]
    cases ht : tyS T n g with
    | inl w => rw [ht] at h; cases h; rfl
    | inr w => rw [ht, pb_r] at h; rw [pb_r, h]; rfl
  have good : ∀ (c : Prop) [Decidable c] {t l y u v z}, ¬ c → tyS T n g = .inr (t, l, y) → dfS T n (2000 - pl) y = .inr (u, v, z) → (if c then (.inl (-3, a) : PR (Nat × List Rl × Int)) else pb (tyS T n g) fun q => pb (dfS T n (2000 - pl) q.2.2) fun z => .inr (pl + z.2.1.length, if hasR rs o (nb T a g) = true then rs else rs ++ [(o, nb T a g, q.1, q.2.1, z.1, z.2.1)], z.2.2)) = .inr (pl + v.length, (if hasR rs o (nb T a g) = true then rs else rs ++ [(o, nb T a g, t, l, u, v)]), z) := by
    intro c _ t l y u v z hc h1 h2
    rw [if_neg hc, h1, pb_r]
    show pb (dfS T n (2000 - pl) y) _ = _
    rw [h2]; rfl
  cases hh : hasR rs o (nb T a g) with
  | true =>
    rw [if_pos rfl]
    refine ⟨fun z => by omega, fun _ => ⟨by omega, fun z => by omega, fun _ => ?_⟩⟩
    have hc : ¬ (hasR rs o (nb T a g) = false ∧ 10 ≤ cntO rs o) := fun z => by rw [hh] at z; cases z.1
    refine rr_89 (rJ := 800 * bk + 799) (pl := pl) (o := o) (by omega) (by omega) s2 hB ho (by omega) q139 hpl (fun t l y u v z MI3 h1 h2 s3 A3 f3 e3 => ⟨fun z => by omega, fun _ => ?_⟩) (fun f q MI3 h s3 f3 => hF f q MI3 (bad _ f q hc h) s3 (frX_tr f2 (frX_mono f3 (fun i k z => chRu_chQ (by omega) z))))
    have hk := good _ hc h1 h2
    have hy7 := hrl hk
    have tl := tyS_le h1
    have dl := dfS_le (by omega) h2
    refine hT _ rs z MI3 (by rw [hk, hh]; rfl) s3 ⟨by rw [(f3 154 bk (by unfold chQ chT chDf chV; omega)).1]; exact hR2.1, hl, fun r q hq => ?_⟩ hO (by omega) e3 (by omega) (by omega) (StoR_fr hS2 (f3 167 bk (by unfold chQ chT chDf chV; omega)).1 (frX_row f3 (fun k => by unfold chQ chT chDf chV; omega)).1) (frX_tr f2 (frX_mono f3 (fun i k z => chRu_chQ (by omega) z)))
    have hr1 := (List.getElem?_eq_some_iff.mp hq).1
    exact RuAR_fr (hR2.2.2 r q hq) (fun i _ _ => (f3 i _ (by unfold chQ chT chDf chV; omega)).1) (fun i k _ _ _ => (f3 i k (by unfold chQ chT chDf chV; omega)).1) (fun k _ => (f3 138 _ (by unfold chQ chT chDf chV; omega)).1) (by omega)
  | false =>
    rw [if_neg (by decide)]
    refine ⟨fun _ => ⟨fun h10 => ?_, fun h10 => ⟨by omega, fun _ => ⟨by omega, ?_⟩, fun z => absurd rfl z⟩⟩, fun z => absurd rfl z⟩
    · refine ux_fail (by decide) s2 (fun MI3 s3 m3 => rV_mk (hF (-3) a MI3 ?_ (StR_B s3 (by omega)) (frX_tr f2 (frX_mvr (fun k h => chRu_fld h) m3))))
      rw [if_pos ⟨hh, by omega⟩]
    have hc : ¬ (hasR rs o (nb T a g) = false ∧ 10 ≤ cntO rs o) := fun z => by omega
    obtain ⟨rJ, hrI⟩ : ∃ rJ, rJ = 800 * bk + rs.length := ⟨_, rfl⟩
    refine rr_89 (rJ := rJ) (pl := pl) (o := o) (by omega) (by omega) s2 hB ho (by omega) q139 hpl (fun t l y u v z MI3 h1 h2 s3 A3 f3 e3 => ⟨fun _ => ?_, fun z => absurd rfl z⟩) (fun f q MI3 h s3 f3 => hF f q MI3 (bad _ f q hc h) s3 (frX_tr f2 (frX_mono f3 (fun i k z => chRu_chQ (by omega) z))))
    have hk := good _ hc h1 h2
    have hy7 := hrl hk
    have tl := tyS_le h1
    have dl := dfS_le (by omega) h2
    have e8 : MI3 124 8 = (bk : Int) := s3.1.2.2.2.1
    have hz := s3.2.2.2.2.2
    have e167 : MI3 167 bk = ((ds.length + rs.length : Nat) : Int) := by rw [(f3 167 bk (by unfold chQ chT chDf chV; omega)).1]; exact hS2.1
    have e154 : MI3 154 bk = (rs.length : Nat) := by rw [(f3 154 bk (by unfold chQ chT chDf chV; omega)).1]; exact q154
    have e166 : MI3 166 = m34 166 := (frX_row f3 (fun k => by unfold chQ chT chDf chV; omega)).1
    rw [e8]
    simp only [Int.toNat_natCast]
    rw [e167, e154]
    have ei : (850 * (bk : Int) + ((ds.length + rs.length : Nat) : Int)).toNat = 850 * bk + (ds.length + rs.length) := by omega
    rw [ei]
    refine ⟨by omega, by omega, by omega, by omega, by omega, by omega, fun m304 e304 => ?_⟩
    have k8 : m304 124 8 = (bk : Int) := by rw [e304, up2_ne (by decide)]; exact e8
    have k167 : m304 167 bk = ((ds.length + rs.length : Nat) : Int) := by rw [e304, up2_ne (by decide)]; exact e167
    rw [k8]
    simp only [Int.toNat_natCast]
    rw [k167]
    refine ⟨by omega, by omega, fun m317 e317 => ?_⟩
    have j8 : m317 124 8 = (bk : Int) := by rw [e317, up2_ne (by decide)]; exact k8
    have j154 : m317 154 bk = (rs.length : Nat) := by rw [e317, up2_ne (by decide), e304, up2_ne (by decide)]; exact e154
    rw [j8]
    simp only [Int.toNat_natCast]
    rw [j154]
    refine ⟨by omega, by omega, fun m330 e330 => ?_⟩
    have r : ∀ i, i ≠ 166 → i ≠ 167 → i ≠ 154 → m330 i = MI3 i := fun i h1 h2 h3 => by rw [e330, e317, e304]; funext k; rw [up2_ne h3, up2_ne h2, up2_ne h1]
    have r1 := r 124 (by decide) (by decide) (by decide)
    have c166 : chRu bk pl 166 (850 * bk + (ds.length + rs.length)) := ⟨Or.inr (Or.inr ⟨by omega, by omega, by omega, by rw [show wR 166 = 850 by decide]; omega⟩), Or.inr (by omega)⟩
    have c167 : chRu bk pl 167 bk := ⟨Or.inr (Or.inr ⟨by omega, by omega, by omega, by rw [show wR 167 = 1 by decide]; omega⟩), Or.inr (by omega)⟩
    have c154 : chRu bk pl 154 bk := ⟨Or.inr (Or.inr ⟨by omega, by omega, by omega, by rw [show wR 154 = 1 by decide]; omega⟩), Or.inr (by omega)⟩
    have fX : frX (chRu bk pl) MI3 ML m330 ML := by rw [e330, e317, e304]; exact frX_tr (frX_tr (frX_upI c166) (frX_upI c167)) (frX_upI c154)
    have s4 := StR_frX (fun i k z => z.1) s3 fX (by rw [r1]) (by rw [r1]) (by rw [r1])
    have cO : ∀ o', cntO (rs ++ [(o, nb T a g, t, l, u, v)]) o' ≤ 10 := fun o' => by
      rw [cntO_app]
      have := hO o'
      show cntO rs o' + (if o = o' then 1 else 0) ≤ 10
      split
      · rename_i w; subst w; omega
      · omega
    have len1 : (rs ++ [(o, nb T a g, t, l, u, v)]).length = rs.length + 1 := by simp
    have cA := cntD_all (fun j q hj => (hS2.2.1 j q hj).1)
    refine hT _ (rs ++ [(o, nb T a g, t, l, u, v)]) z m330 (by rw [hk, hh]; rfl) s4 ⟨?_, by omega, fun r' q hq => ?_⟩ cO (by omega) (by rw [r 139 (by decide) (by decide) (by decide)]; exact e3) (by omega) (by omega) ⟨?_, fun j q hj => ?_, fun r' hr => ?_⟩ (frX_tr f2 (frX_tr (frX_mono f3 (fun i k z => chRu_chQ (by omega) z)) fX))
    · rw [e330, up2_eq, len1]; omega
    · rcases last_of hq with ⟨hj1, hj2⟩ | ⟨rfl, rfl⟩
      · refine RuAR_fr (RuAR_fr (hR2.2.2 r' q hj2) (MI' := MI3) (pl' := pl + v.length) (fun i _ _ => (f3 i _ (by unfold chQ chT chDf chV; omega)).1) (fun i k _ _ _ => (f3 i k (by unfold chQ chT chDf chV; omega)).1) (fun k _ => (f3 138 _ (by unfold chQ chT chDf chV; omega)).1) (by omega)) (fun i _ _ => by rw [r i (by omega) (by omega) (by omega)]) (fun i k _ _ _ => by rw [r i (by omega) (by omega) (by omega)]) (fun k _ => by rw [r 138 (by decide) (by decide) (by decide)]) (Nat.le_refl _)
      · rw [← hrI]
        exact RuAR_fr A3 (fun i _ _ => by rw [r i (by omega) (by omega) (by omega)]) (fun i k _ _ _ => by rw [r i (by omega) (by omega) (by omega)]) (fun k _ => by rw [r 138 (by decide) (by decide) (by decide)]) (Nat.le_refl _)
    · rw [e330, up2_ne (by decide), e317, up2_eq, len1]; omega
    · have := hS2.2.1 j q hj
      have hj1 := (List.getElem?_eq_some_iff.mp hj).1
      refine ⟨by omega, ?_⟩
      rw [e330, up2_ne (by decide), e317, up2_ne (by decide), e304, up2_nk (by omega), e166]; exact this.2
    · rw [len1] at hr
      by_cases hr1 : r' = rs.length
      · subst hr1
        rw [cA, Nat.add_comm rs.length, e330, up2_ne (by decide), e317, up2_ne (by decide), e304, up2_eq]
      · have h3 := hS2.2.2 r' (by omega)
        have h4 := cntD_le ds r'
        rw [e330, up2_ne (by decide), e317, up2_ne (by decide), e304, up2_nk (by omega), e166]; exact h3
/-- at its end or in a bad state -/
theorem ra_bad {l1 l2 l3 f q : Int} (hs : StR bk T n OI OL B (.inl (f, q)) MI ML) (hQ : ∀ MI', StR bk T n OI OL B (.inl (f, q)) MI' ML → mvr MI MI' → Q none (MI', ML, GR d e nw th x)) : wp cs mX12_attributeList KD Q 36 [some (vR 124), some (vI l1), some (vI l2), some (vI l3), none] [] (KD, MI, ML, GR d e nw th x) := by
  refine v_X12_attributeList_36 (ux_isGood hs (fun _ z => by cases z) (fun f' q' z => rI_mk ⟨fun _ => ?_, fun z => absurd rfl z⟩))
  refine ux_maybeS hs (fun MI1 s1 m1 _ _ => rV_mk ?_)
  rw [pb_l] at s1
  refine ux_passes s1 (fun y MI2 h => by cases h) (fun f' q' MI2 h s2 m2 _ => rI_mk ?_) (by decide)
  cases h
  exact hQ MI2 s2 (mvr_tr m1 m2)
theorem c_ral_l {F L : Int} (hB : B + 2 ≤ 60000) (ho : nmR bk T n F L o) (hds : ds.length ≤ 30) : ∀ (k pl : Nat) (rs : List Rl) (h : Int) (MI : Nat → Nat → Int), (n + 1 - h).toNat ≤ k → StR bk T n OI OL B (.inr h) MI ML → RuRR bk T n pl rs MI → (∀ o, cntO rs o ≤ 10) → 8 * ((rs.length : Nat) : Int) ≤ h → MI 139 bk = (pl : Nat) → pl ≤ 2000 → StoR bk ds rs.length MI →
    (∀ pl' rs' y MI', rusF T n o k pl rs h = .inr (pl', rs', y) → StR bk T n OI OL (B + 2) (.inr y) MI' ML → RuRR bk T n pl' rs' MI' → (∀ o, cntO rs' o ≤ 10) → 8 * ((rs'.length : Nat) : Int) ≤ y → MI' 139 bk = (pl' : Nat) → pl ≤ pl' → pl' ≤ 2000 → StoR bk ds rs'.length MI' → frX (chRu bk pl) MI ML MI' ML → Q none (MI', ML, GR d e nw th x)) →
    (∀ f q MI', rusF T n o k pl rs h = .inl (f, q) → StR bk T n OI OL (B + 2) (.inl (f, q)) MI' ML → frX (chRu bk pl) MI ML MI' ML → Q none (MI', ML, GR d e nw th x)) →
    wp cs mX12_attributeList KD Q 36 [some (vR 124), some (vI F), some (vI L), some (vI 1), none] [] (KD, MI, ML, GR d e nw th x) := by
  intro k
  induction k with
  | zero =>
    intro pl rs h MI hk hs
    have := hs.2.2.2.2.2
    omega
  | succ k ih =>
    intro pl rs h MI hk hs hR hO hK hp hpl hS hT hF
    rw [rusF] at hT hF
    have hn := hs.1.2.2.1
    have hBB := hs.2.1
    obtain ⟨b1, b2, b3, b4, b5⟩ := hs.2.2
    have hsk := sk_le T n h
    refine v_X12_attributeList_36 (ux_isGood hs (fun _ _ => rI_mk ⟨fun z => by omega, fun _ => ⟨fun z => by omega, fun _ => ?_⟩⟩) (fun f q z => by cases z))
    refine ux_maybeS hs (fun MI1 s1 m1 _ _ => rV_mk ?_)
    rw [pb_r] at s1
    obtain ⟨c1, c2, c3, c4, c5⟩ := s1.2.2
    have fld : ∀ {pl : Nat} (k : Nat), fldR k → chRu bk pl 124 k := fun k h => chRu_fld h
    -- the end
    have fin : ¬ (h < sk T n h ∧ isNs (ob T n (sk T n h))) → wp cs mX12_attributeList KD Q 85 [some (vR 124), some (vI F), some (vI L), some (vI 1), some (vI h)] [vI 0] (KD, MI1, ML, GR d e nw th x) := by
      intro hc
      rw [if_neg hc] at hT hF
      refine v_X12_attributeList_85 ⟨fun _ => ?_, fun z => absurd rfl z⟩
      refine v_X12_attributeList_36 (ux_isGood s1 (fun _ _ => rI_mk ⟨fun z => by omega, fun _ => ⟨fun _ => ?_, fun z => absurd rfl z⟩⟩) (fun f q z => by cases z))
      refine ux_maybeS s1 (fun MI2 s2 m2 _ _ => rV_mk ?_)
      rw [pb_r, sk_sk] at s2
      have m12 := mvr_tr m1 m2
      refine ux_passes s2 (fun y MI3 hy s3 m3 _ => rI_mk ?_) (fun f q MI3 hy s3 m3 _ => rI_mk ?_) (by decide)
      · rw [pb_r] at hy
        have hy1 := mbS_eq hy
        have m13 := mvr_tr m12 m3
        exact hT pl rs y MI3 (by rw [hy]; rfl) (StR_B s3 (by omega)) (RuRR_mvr hR m13) hO (by omega) (by rw [m13.1 139 (by decide)]; exact hp) (Nat.le_refl _) hpl (StoR_fr hS (by rw [m13.1 167 (by decide)]) (m13.1 166 (by decide))) (frX_mvr fld m13)
      · rw [pb_r] at hy
        exact hF f q MI3 (by rw [hy]; rfl) (StR_B s3 (by omega)) (frX_mvr fld (mvr_tr m12 m3))
    rw [b1, c1]
    refine ⟨fun hlt => ?_, fun hle => fin (by omega)⟩
    refine ux_octet s1 c4 (rI_mk (w_X12_isFirst (rI_mk ?_)))
    by_cases hc : isNs (ob T n (sk T n h))
    · rw [show bI (isNs (ob T n (sk T n h))) = 1 from if_pos hc]
      rw [if_pos ⟨hlt, hc⟩] at hT hF
      refine ⟨fun z => by omega, fun _ => v_X12_attributeList_85 ⟨fun z => by omega, fun _ => ?_⟩⟩
      refine ux_rule (ds := ds) s1 hB ho (RuRR_mvr hR m1) hO (by omega) (by rw [m1.1 139 (by decide)]; exact hp) hpl (StoR_fr hS (by rw [m1.1 167 (by decide)]) (m1.1 166 (by decide))) hds (fun pl' rs' y MI2 hy s2 R2 O2 K2 p2 q1 q2 S2 f2 => rV_mk ?_) (fun f q MI2 hy s2 f2 => rV_mk ?_)
      · have hy7 := ruS_le (by omega) hy
        rw [hy, pb_r] at hT hF
        have up : ∀ {MI' : Nat → Nat → Int}, frX (chRu bk pl') MI2 ML MI' ML → frX (chRu bk pl) MI ML MI' ML := fun hf => frX_tr (frX_mvr fld m1) (frX_tr f2 (frX_mono hf (fun i k z => ⟨z.1, by rcases z.2 with w | w; exact Or.inl w; omega⟩)))
        exact ih pl' rs' y MI2 (by omega) (StR_Bg s2 hBB) R2 O2 K2 p2 q2 S2 (fun pl'' rs'' y' MI' h1 h2 h3 h4 h5 h6 h7 h8 h9 h10 => hT pl'' rs'' y' MI' h1 h2 h3 h4 h5 h6 (by omega) h8 h9 (up h10)) (fun f q MI' h1 h2 h3 => hF f q MI' h1 h2 (up h3))
      · exact ra_bad s2 (fun MI3 s3 m3 => hF f q MI3 (by rw [hy]; rfl) s3 (frX_tr (frX_mvr fld m1) (frX_tr f2 (frX_mvr fld m3))))
    · rw [show bI (isNs (ob T n (sk T n h))) = 0 from if_neg hc]
      exact ⟨fun _ => fin (fun z => hc z.2), fun z => absurd rfl z⟩
/-- <!ATTLIST -/
theorem ux_attributeList {a : Int} (hs : StR bk T n OI OL B (.inr a) MI ML) (hB : B + 2 ≤ 60000) (h9 : a + 9 ≤ n) (hds : ds.length ≤ 30) (hR : RuRR bk T n pl rs MI) (hO : ∀ o, cntO rs o ≤ 10) (hK : 8 * ((rs.length : Nat) : Int) ≤ a) (hp : MI 139 bk = (pl : Nat)) (hpl : pl ≤ 2000) (hS : StoR bk ds rs.length MI)
    (hT : ∀ pl' rs' y MI', alS T n pl rs (a + 9) = .inr (pl', rs', y) → StR bk T n OI OL (B + 2) (.inr y) MI' ML → RuRR bk T n pl' rs' MI' → (∀ o, cntO rs' o ≤ 10) → 8 * ((rs'.length : Nat) : Int) ≤ y → MI' 139 bk = (pl' : Nat) → pl ≤ pl' → pl' ≤ 2000 → StoR bk ds rs'.length MI' → frX (chRu bk pl) MI ML MI' ML → Q none (MI', ML, GR d e nw th x))
    (hF : ∀ f q MI', alS T n pl rs (a + 9) = .inl (f, q) → StR bk T n OI OL (B + 2) (.inl (f, q)) MI' ML → frX (chRu bk pl) MI ML MI' ML → Q none (MI', ML, GR d e nw th x)) :
    wp cs mX12_attributeList KD Q 0 (padL [vR 124] 5) [] (KD, MI, ML, GR d e nw th x) := by
  have a5 := hs.1.2.2.2.2.1
  have hn := hs.1.2.2.1
  have hBB := hs.2.1
  obtain ⟨b1, b2, b3, b4, b5⟩ := hs.2.2
  have fld : ∀ (k : Nat), fldR k → chRu bk pl 124 k := fun k h => chRu_fld h
  unfold alS at hT hF
  refine v_X12_attributeList_0 ?_
  rw [b1]
  refine ⟨by omega, fun m8 e8 => ?_⟩
  obtain ⟨s1, m1⟩ := StR_at hs e8 (by omega)
  refine ux_mustS s1 (fun MI2 s2 m2 _ => rV_mk ?_)
  rw [pb_r] at s2
  have k8 : MI2 124 8 = (bk : Int) := s2.1.2.2.2.1
  rw [k8]
  refine ⟨by omega, ux_takeName s2 (fun g y MI3 hg hy s3 m3 e51 => rI_mk ⟨?_, ?_⟩) (fun f q g MI3 hy hg s3 m3 => rI_mk ⟨by omega, ?_⟩)⟩
  · have hy1 := nmS_ok hy
    have hg1 := msS_lt hg
    omega
  · have hy1 := nmS_ok hy
    have hg1 := msS_lt hg
    rw [hg, pb_r, hy, pb_r] at hT hF
    have m13 := mvr_tr m1 (mvr_tr m2 m3)
    rw [e51]
    have ho : nmR bk T n (6000 * (bk : Int) + g) (y - g) (nb T g y) := by
      unfold nmR
      rw [show 6000 * (bk : Int) + g - 6000 * (bk : Int) = g by omega]
      exact slc_nb (by omega) (by omega) (by omega)
    have up : ∀ {MI' : Nat → Nat → Int}, frX (chRu bk pl) MI3 ML MI' ML → frX (chRu bk pl) MI ML MI' ML := fun hf => frX_tr (frX_mvr fld m13) hf
    exact c_ral_l hB ho hds (n + 1).toNat pl rs y MI3 (by omega) s3 (RuRR_mvr hR m13) hO (by omega) (by rw [m13.1 139 (by decide)]; exact hp) hpl (StoR_fr hS (by rw [m13.1 167 (by decide)]) (m13.1 166 (by decide))) (fun pl' rs' y' MI' h1 h2 h3 h4 h5 h6 h7 h8 h9 h10 => hT pl' rs' y' MI' h1 h2 h3 h4 h5 h6 h7 h8 h9 (up h10)) (fun f q MI' h1 h2 h3 => hF f q MI' h1 h2 (up h3))
  · have hfp : ∀ (G : Int → Int → PR (Nat × List Rl × Int)), (pb (msS T n (a + 9)) fun g => pb (nmS T n g) fun y => G g y) = .inl (f, q) := by
      intro G
      cases hm : msS T n (a + 9) with
      | inl w => rw [hm] at hy; cases hy; rfl
      | inr g0 =>
        rw [hm, pb_r] at hy
        rw [pb_r, hy]; rfl
    exact ra_bad s3 (fun MI4 s4 m4 => hF f q MI4 (hfp _) (StR_B s4 (by omega)) (frX_mvr fld (mvr_tr m1 (mvr_tr m2 (mvr_tr m3 m4)))))
end P94
