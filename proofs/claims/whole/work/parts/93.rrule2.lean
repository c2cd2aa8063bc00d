/-! The reference's RULE and <!ATTLIST. -/
theorem wbl_CDA : wbl 288907940929 5 = [67, 68, 65, 84, 65] := by decide +kernel
theorem wbl_ID : wbl 18756 2 = [73, 68] := by decide +kernel
def chQ (bk pl rJ i k : Nat) : Prop := chT rJ i k ∨ chDf bk pl rJ i k ∨ ((155 ≤ i ∧ i ≤ 159) ∧ k = rJ)
/-- what a RULE changes -/
def chRu (bk pl i k : Nat) : Prop := inB bk i k ∧ ((i = 124 ∧ fldR k) ∨ (i = 138 ∧ 2000 * bk + pl ≤ k) ∨ i = 139 ∨ (154 ≤ i ∧ i ≤ 167))
theorem inB_chQ {bk pl rJ i k : Nat} (hr : 800 * bk ≤ rJ ∧ rJ < 800 * bk + 800) (h : chQ bk pl rJ i k) : inB bk i k := by
  rcases h with h | h | h
  · exact inB_chT hr h
  · exact inB_chDf hr h
  · refine Or.inr (Or.inr ⟨by omega, by omega, by omega, ?_⟩)
    have : wR i = 800 := by unfold wR; rw [if_neg (by omega), if_neg (by omega), if_neg (by omega), if_neg (by omega), if_neg (by omega), if_pos (by omega)]
    rw [this]; omega
theorem chRu_chQ {bk pl rJ i k : Nat} (hr : 800 * bk ≤ rJ ∧ rJ < 800 * bk + 800) (h : chQ bk pl rJ i k) : chRu bk pl i k := ⟨inB_chQ hr h, by
  rcases h with (h | h) | ((h | h) | h) | h
  · exact Or.inl h
  · omega
  · exact Or.inl h
  · omega
  · omega
  · omega⟩
theorem chRu_fld {bk pl k : Nat} (h : fldR k) : chRu bk pl 124 k := ⟨Or.inl ⟨rfl, Or.inl h⟩, Or.inl ⟨rfl, h⟩⟩
theorem RuAR_fr {bk pl pl' : Nat} {T : Nat → Int} {n : Int} {MI MI' : Nat → Nat → Int} {rJ : Nat} {q : Rl} (h : RuAR bk T n pl MI rJ q) (h1 : ∀ i, 155 ≤ i → i ≤ 163 → MI' i rJ = MI i rJ) (h2 : ∀ i k, (i = 164 ∨ i = 165) → 8 * rJ ≤ k → k < 8 * rJ + 8 → MI' i k = MI i k) (h3 : ∀ k : Nat, k < pl → MI' 138 (2000 * bk + k) = MI 138 (2000 * bk + k)) (hp : pl ≤ pl') : RuAR bk T n pl' MI' rJ q := by
  obtain ⟨c1, c2, c3, c4, c5, c6⟩ := h
  refine ⟨by rw [h1 155 (by omega) (by omega), h1 156 (by omega) (by omega)]; exact c1, by rw [h1 157 (by omega) (by omega), h1 158 (by omega) (by omega)]; exact c2, by rw [h1 159 (by omega) (by omega)]; exact c3, ?_, by rw [h1 160 (by omega) (by omega)]; exact c5, fun z => ?_⟩
  · exact TkR_fr (bk := bk) (T := T) (n := n) c4 (h1 163 (by omega) (by omega)) h2
  · rw [h1 161 (by omega) (by omega), h1 162 (by omega) (by omega)]
    exact poR_grow (c6 z) (fun k hk => h3 k (by omega)) (by omega)
theorem cntD_all {ds : List Dc} {nr : Nat} (h : ∀ (j : Nat) (q : Dc), ds[j]? = some q → q.2.2.1 ≤ nr) : cntD ds nr = ds.length := by
  unfold cntD
  rw [List.filter_eq_self.mpr]
  intro q hq
  obtain ⟨j, hj⟩ := List.getElem?_of_mem hq
  exact decide_eq_true (h j q hj)
section P93
variable {cs : Cs} {Q : Option AV → Mm → Prop} {MI ML OI OL : Nat → Nat → Int} {bk d e nw th x rJ pl : Nat} {T : Nat → Int} {n B : Int} {s : PR Int} {rs : List Rl} {ds : List Dc} {o a : By}
theorem rr_bad247 {f q l1 l2 l3 l4 l5 : Int} (hr : 800 * bk ≤ rJ ∧ rJ < 800 * bk + 800) (hs : StR bk T n OI OL B (.inl (f, q)) MI ML) (hB : B + 2 ≤ 60000) (hQ : ∀ MI', StR bk T n OI OL (B + 2) (.inl (f, q)) MI' ML → mvr MI MI' → Q none (MI', ML, GR d e nw th x)) : wp cs mX12_rule KD Q 247 [some (vR 124), some (vI l1), some (vI l2), some (vI l3), some (vI l4), some (vI l5), some (vI (rJ : Nat))] [] (KD, MI, ML, GR d e nw th x) := by
  have hBB := hs.2.1
  refine v_X12_rule_247 (ux_mustS hs (fun MI1 s1 m1 _ => rV_mk ?_))
  rw [pb_l] at s1
  refine v_X12_defaults_0 (ux_isGood s1 (fun _ z => by cases z) (fun f' q' z => rI_mk ⟨fun _ => rV_mk ?_, fun z => absurd rfl z⟩))
  exact ux_isGood s1 (fun _ z => by cases z) (fun f' q' z => rI_mk ⟨fun _ => hQ MI1 (StR_B s1 (by omega)) m1, fun z => absurd rfl z⟩)
theorem rr_bad185 {f q l1 l2 l3 l4 l5 : Int} (hr : 800 * bk ≤ rJ ∧ rJ < 800 * bk + 800) (hs : StR bk T n OI OL B (.inl (f, q)) MI ML) (hB : B + 2 ≤ 60000) (hQ : ∀ MI', StR bk T n OI OL (B + 2) (.inl (f, q)) MI' ML → mvr MI MI' → Q none (MI', ML, GR d e nw th x)) : wp cs mX12_rule KD Q 185 [some (vR 124), some (vI l1), some (vI l2), some (vI l3), some (vI l4), some (vI l5), some (vI (rJ : Nat))] [] (KD, MI, ML, GR d e nw th x) := by
  refine v_X12_rule_185 (ux_isGood hs (fun _ z => by cases z) (fun f' q' z => rI_mk ⟨fun _ => ?_, fun z => absurd rfl z⟩))
  refine ux_passes hs (fun y MI2 h => by cases h) (fun f' q' MI2 h s2 m2 _ => rI_mk ⟨fun _ => ?_, fun z => absurd rfl z⟩) (by decide)
  cases h
  exact rr_bad247 hr s2 hB (fun MI' s' m' => hQ MI' s' (mvr_tr m2 m'))
/-- behind a RULE's NAME: the slot is rJ -/
theorem rr_89 {F L s0 s1 g a0 l5 : Int} (hr : 800 * bk ≤ rJ ∧ rJ < 800 * bk + 800) (hi : s1 + s0 = (rJ : Nat)) (hs : StR bk T n OI OL B (.inr g) MI ML) (hB : B + 2 ≤ 60000) (ho : nmR bk T n F L o) (ha : 0 ≤ a0 ∧ a0 < g) (hp : MI 139 bk = (pl : Nat)) (hpl : pl ≤ 2000)
    (hT : ∀ t l y u v z MI', tyS T n g = .inr (t, l, y) → dfS T n (2000 - pl) y = .inr (u, v, z) → StR bk T n OI OL (B + 2) (.inr z) MI' ML → RuAR bk T n (pl + v.length) MI' rJ (o, nb T a0 g, t, l, u, v) → frX (chQ bk pl rJ) MI ML MI' ML → MI' 139 bk = ((pl + v.length : Nat) : Int) →
      ((l5 = 0 → (-2147483648 ≤ 850 * (MI' 124 8) ∧ 850 * (MI' 124 8) < 2147483648) ∧ (0 ≤ (MI' 124 8) ∧ (MI' 124 8) < 2) ∧ (-2147483648 ≤ (850 * (MI' 124 8)) + (MI' 167 (MI' 124 8).toNat) ∧ (850 * (MI' 124 8)) + (MI' 167 (MI' 124 8).toNat) < 2147483648) ∧ (-2147483648 ≤ 2 * (MI' 154 (MI' 124 8).toNat) ∧ 2 * (MI' 154 (MI' 124 8).toNat) < 2147483648) ∧ (-2147483648 ≤ (2 * (MI' 154 (MI' 124 8).toNat)) + 1 ∧ (2 * (MI' 154 (MI' 124 8).toNat)) + 1 < 2147483648) ∧ (0 ≤ ((850 * (MI' 124 8)) + (MI' 167 (MI' 124 8).toNat)) ∧ ((850 * (MI' 124 8)) + (MI' 167 (MI' 124 8).toNat)) < 1700) ∧ ∀ m304, m304 = up2 MI' 166 ((850 * (MI' 124 8)) + (MI' 167 (MI' 124 8).toNat)).toNat ((2 * (MI' 154 (MI' 124 8).toNat)) + 1) → (0 ≤ (m304 124 8) ∧ (m304 124 8) < 2) ∧ (-2147483648 ≤ (m304 167 (m304 124 8).toNat) + 1 ∧ (m304 167 (m304 124 8).toNat) + 1 < 2147483648) ∧ ∀ m317, m317 = up2 m304 167 (m304 124 8).toNat ((m304 167 (m304 124 8).toNat) + 1) → (0 ≤ (m317 124 8) ∧ (m317 124 8) < 2) ∧ (-2147483648 ≤ (m317 154 (m317 124 8).toNat) + 1 ∧ (m317 154 (m317 124 8).toNat) + 1 < 2147483648) ∧ ∀ m330, m330 = up2 m317 154 (m317 124 8).toNat ((m317 154 (m317 124 8).toNat) + 1) → Q none (m330, ML, (GR d e nw th x))) ∧ (l5 ≠ 0 → Q none (MI', ML, (GR d e nw th x)))))
    (hF : ∀ f q MI', pb (tyS T n g) (fun q => dfS T n (2000 - pl) q.2.2) = .inl (f, q) → StR bk T n OI OL (B + 2) (.inl (f, q)) MI' ML → frX (chQ bk pl rJ) MI ML MI' ML → Q none (MI', ML, GR d e nw th x)) :
    wp cs mX12_rule KD Q 89 [some (vR 124), some (vI F), some (vI L), some (vI a0), some (vI (g - a0)), some (vI l5), none] [vI s0, vI s1] (KD, MI, ML, GR d e nw th x) := by
  have a5 := hs.1.2.2.2.2.1
  have hn := hs.1.2.2.1
  have e8 : MI 124 8 = (bk : Int) := hs.1.2.2.2.1
  have hBB := hs.2.1
  refine v_X12_rule_89 ?_
  rw [hi]
  simp only [Int.toNat_natCast]
  refine ⟨by omega, by omega, fun m99 e99 m107 e107 => ?_⟩
  have q8 : m107 124 8 = (bk : Int) := by rw [e107, up2_ne (by decide), e99, up2_ne (by decide)]; exact e8
  rw [q8]
  obtain ⟨b1, b2, b3, b4, b5⟩ := hs.2.2
  refine ⟨by omega, by omega, fun m124 e124 m133 e133 m141 e141 => ?_⟩
  have cR : ∀ i, 155 ≤ i → i ≤ 159 → chQ bk pl rJ i rJ := fun i h1 h2 => Or.inr (Or.inr ⟨⟨h1, h2⟩, rfl⟩)
  have c163 : chQ bk pl rJ 163 rJ := Or.inl (Or.inr (Or.inl ⟨rfl, rfl⟩))
  have fld : ∀ j, fldR j → chQ bk pl rJ 124 j := fun j hj => Or.inl (Or.inl ⟨rfl, hj⟩)
  have f1 : frX (chQ bk pl rJ) MI ML m141 ML := by
    rw [e141, e133, e124, e107, e99]
    exact frX_tr (frX_tr (frX_tr (frX_tr (frX_upI (cR 155 (by omega) (by omega))) (frX_upI (cR 156 (by omega) (by omega)))) (frX_upI (cR 157 (by omega) (by omega)))) (frX_upI (cR 158 (by omega) (by omega)))) (frX_upI c163)
  have r1 : ∀ i, ¬ (155 ≤ i ∧ i ≤ 163) → m141 i = MI i := fun i h => by rw [e141, e133, e124, e107, e99]; funext k; rw [up2_ne (by omega), up2_ne (by omega), up2_ne (by omega), up2_ne (by omega), up2_ne (by omega)]
  have k155 : m141 155 rJ = F := by rw [e141, up2_ne (by decide), e133, up2_ne (by decide), e124, up2_ne (by decide), e107, up2_ne (by decide), e99, up2_eq]
  have k156 : m141 156 rJ = L := by rw [e141, up2_ne (by decide), e133, up2_ne (by decide), e124, up2_ne (by decide), e107, up2_eq]
  have k157 : m141 157 rJ = 6000 * (bk : Int) + a0 := by rw [e141, up2_ne (by decide), e133, up2_ne (by decide), e124, up2_eq]
  have k158 : m141 158 rJ = g - a0 := by rw [e141, up2_ne (by decide), e133, up2_eq]
  have k163 : m141 163 rJ = 0 := by rw [e141, up2_eq]
  have r124 := r1 124 (by omega)
  have s2 := StR_frX (fun i k z => inB_chQ hr z) hs f1 (by rw [r124]) (by rw [r124]) (by rw [r124])
  have p2 : m141 139 bk = (pl : Nat) := by rw [r1 139 (by omega)]; exact hp
  -- behind the TYPE
  have go : ∀ (t : Int) (l : List By) (y : Int) (m : Nat → Nat → Int), tyS T n g = .inr (t, l, y) → StR bk T n OI OL B (.inr y) m ML → frX (chQ bk pl rJ) m141 ML m ML → (∀ i, (155 ≤ i ∧ i ≤ 158) → m i rJ = m141 i rJ) → m 159 rJ = t → TkR bk T n rJ l m → m 139 bk = (pl : Nat) →
      wp cs mX12_rule KD Q 247 [some (vR 124), some (vI F), some (vI L), some (vI a0), some (vI (g - a0)), some (vI l5), some (vI (rJ : Nat))] [] (KD, m, ML, GR d e nw th x) := by
    intro t l y m hy s3 f3 h15 h159 hk p3
    rw [hy, pb_r] at hF
    refine v_X12_rule_247 (ux_mustS s3 (fun MI4 s4 m4 _ => rV_mk ?_))
    rw [pb_r] at s4
    refine ux_defaults (pl := pl) hr s4 hB (by rw [m4.1 139 (by decide)]; exact p3) hpl (fun u v z MI5 hd s5 f5 e139 e160 po => rV_mk ?_) (fun f q MI5 hd s5 f5 => rV_mk ?_)
    · refine ux_isGood s5 (fun _ _ => rI_mk ⟨fun z => by omega, fun _ => ?_⟩) (fun f q z => by cases z)
      rw [← dfS_T] at hd
      have q15 : ∀ i, (155 ≤ i ∧ i ≤ 158) → MI5 i rJ = m141 i rJ := fun i h => by rw [(f5 i rJ (by unfold chDf chV; omega)).1, m4.1 i (by omega)]; exact h15 i h
      refine hT t l y u v z MI5 hy hd s5 ⟨?_, ?_, ?_, ?_, e160, po⟩ (frX_tr f1 (frX_tr f3 (frX_tr (frX_mvr fld m4) (frX_mono f5 (fun i k z => Or.inr (Or.inl z)))))) e139
      · rw [q15 155 (by omega), q15 156 (by omega), k155, k156]; exact ho
      · rw [q15 157 (by omega), q15 158 (by omega), k157, k158]
        unfold nmR
        rw [show 6000 * (bk : Int) + a0 - 6000 * (bk : Int) = a0 by omega]
        exact slc_nb (by omega) (by omega) (by omega)
      · rw [(f5 159 rJ (by unfold chDf chV; omega)).1, m4.1 159 (by decide)]; exact h159
      · exact TkR_fr (TkR_mvr hk m4) (by rw [(f5 163 rJ (by unfold chDf chV; omega)).1]) (fun i k hi _ _ => by rw [(f5 i k (by unfold chDf chV; omega)).1])
    · refine ux_isGood s5 (fun _ z => by cases z) (fun f' q' z => rI_mk ⟨fun _ => ?_, fun z => absurd rfl z⟩)
      rw [← dfS_T] at hd
      exact hF f q MI5 hd s5 (frX_tr f1 (frX_tr f3 (frX_tr (frX_mvr fld m4) (frX_mono f5 (fun i k z => Or.inr (Or.inl z))))))
  have goB : ∀ (f q : Int) (m : Nat → Nat → Int), tyS T n g = .inl (f, q) → StR bk T n OI OL B (.inl (f, q)) m ML → frX (chQ bk pl rJ) m141 ML m ML → wp cs mX12_rule KD Q 247 [some (vR 124), some (vI F), some (vI L), some (vI a0), some (vI (g - a0)), some (vI l5), some (vI (rJ : Nat))] [] (KD, m, ML, GR d e nw th x) := by
    intro f q m hy s3 f3
    exact rr_bad247 hr s3 hB (fun MI' s' m' => hF f q MI' (by rw [hy]; rfl) s' (frX_tr f1 (frX_tr f3 (frX_mvr fld m'))))
  unfold tyS at go goB
  refine ux_mustS s2 (fun MI3 s3 m3 _ => rV_mk ?_)
  rw [pb_r] at s3
  have p3 : MI3 139 bk = (pl : Nat) := by rw [m3.1 139 (by decide)]; exact p2
  cases hz : msS T n g with
  | inl fq =>
    obtain ⟨f, q⟩ := fq
    rw [hz] at s3
    refine ux_isGood s3 (fun _ z => by cases z) (fun f' q' z => rI_mk ⟨fun _ => ?_, fun z => absurd rfl z⟩)
    exact rr_bad185 hr s3 hB (fun MI' s' m' => hF f q MI' (by unfold tyS; rw [hz]; rfl) s' (frX_tr f1 (frX_mvr fld (mvr_tr m3 m'))))
  | inr z =>
    rw [hz] at s3
    rw [hz, pb_r] at go goB
    obtain ⟨d1, d2, d3, d4, d5⟩ := s3.2.2
    -- a word
    have word : ∀ (t w : Int) (mA mB : Nat → Nat → Int), z + w ≤ n → 0 ≤ w → mA = up2 MI3 124 4 (z + w) → mB = up2 mA 159 rJ t → StR bk T n OI OL B (.inr (z + w)) mB ML ∧ frX (chQ bk pl rJ) m141 ML mB ML ∧ (∀ i, (155 ≤ i ∧ i ≤ 158) → mB i rJ = m141 i rJ) ∧ mB 159 rJ = t ∧ TkR bk T n rJ [] mB ∧ mB 139 bk = (pl : Nat) := by
      intro t w mA mB h1 h2 eA eB
      obtain ⟨s4, m4⟩ := StR_at s3 eA (by omega)
      have fB : frX (chQ bk pl rJ) mA ML mB ML := by rw [eB]; exact frX_upI (cR 159 (by omega) (by omega))
      have rr : ∀ i, i ≠ 159 → mB i = mA i := fun i hi => by rw [eB]; funext k; exact up2_ne hi k
      have m34 := mvr_tr m3 m4
      exact ⟨StR_frX (fun i k z => inB_chQ hr z) s4 fB (by rw [rr 124 (by decide)]) (by rw [rr 124 (by decide)]) (by rw [rr 124 (by decide)]), frX_tr (frX_mvr fld m34) fB, fun i hi => by rw [rr i (by omega), m34.1 i (by omega)], by rw [eB, up2_eq], ⟨by rw [rr 163 (by decide), m34.1 163 (by decide), k163]; rfl, by simp, fun k y hk => by simp at hk⟩, by rw [rr 139 (by decide), m34.1 139 (by decide)]; exact p2⟩
    refine ux_isGood s3 (fun _ _ => rI_mk ⟨fun z => by omega, fun _ => ?_⟩) (fun f q z => by cases z)
    refine ux_stands (m := 5) (by decide) s3 (fun hE => rI_mk ⟨fun z => by omega, fun _ => ?_⟩) (fun hE => rI_mk ⟨fun _ => ?_, fun z => absurd rfl z⟩)
    · rw [wbl_CDA] at hE
      have hr' := stb_room _ z (by omega) (by decide) (by decide) hE
      simp only [List.length_cons, List.length_nil] at hr'
      rw [d1]
      refine ⟨by omega, fun mA eA mB eB => ?_⟩
      obtain ⟨w1, w2, w3, w4, w5, w6⟩ := word 0 5 mA mB (by omega) (by omega) eA eB
      exact go 0 [] (z + 5) mB (by rw [if_pos hE]) w1 w2 w3 w4 w5 w6
    · rw [wbl_CDA] at hE
      rw [if_neg (by rw [hE]; decide)] at go goB
      refine v_X12_rule_185 (ux_isGood s3 (fun _ _ => rI_mk ⟨fun z => by omega, fun _ => ?_⟩) (fun f q z => by cases z))
      refine ux_stands (m := 2) (by decide) s3 (fun hI => rI_mk ⟨fun z => by omega, fun _ => ?_⟩) (fun hI => rI_mk ⟨fun _ => ?_, fun z => absurd rfl z⟩)
      · rw [wbl_ID] at hI
        have hr' := stb_room _ z (by omega) (by decide) (by decide) hI
        simp only [List.length_cons, List.length_nil] at hr'
        rw [d1]
        refine ⟨by omega, fun mA eA => ⟨by omega, fun mB eB => ?_⟩⟩
        obtain ⟨w1, w2, w3, w4, w5, w6⟩ := word 1 2 mA mB (by omega) (by omega) eA eB
        exact go 1 [] (z + 2) mB (by rw [if_pos hI]) w1 w2 w3 w4 w5 w6
      · rw [wbl_ID] at hI
        rw [if_neg (by rw [hI]; decide)] at go goB
        refine ux_passes s3 (fun y MI4 hy s4 m4 _ => rI_mk ⟨fun z => by omega, fun _ => ⟨by omega, fun m240 e240 => ?_⟩⟩) (fun f q MI4 hy s4 m4 _ => rI_mk ⟨fun _ => ?_, fun z => absurd rfl z⟩) (by decide)
        · rw [pb_r] at hy
          rw [hy, pb_r] at go goB
          simp only [Int.toNat_natCast] at e240
          have fB : frX (chQ bk pl rJ) MI4 ML m240 ML := by rw [e240]; exact frX_upI (cR 159 (by omega) (by omega))
          have rr : ∀ i, i ≠ 159 → m240 i = MI4 i := fun i hi => by rw [e240]; funext k; exact up2_ne hi k
          have m34 := mvr_tr m3 m4
          have s5 := StR_frX (fun i k z => inB_chQ hr z) s4 fB (by rw [rr 124 (by decide)]) (by rw [rr 124 (by decide)]) (by rw [rr 124 (by decide)])
          have fA : frX (chQ bk pl rJ) m141 ML m240 ML := frX_tr (frX_mvr fld m34) fB
          refine ux_tokens hr s5 (by rw [rr 163 (by decide), m34.1 163 (by decide)]; exact k163) (fun l y' MI5 ht s6 k6 f6 => rV_mk ?_) (fun f q MI5 ht s6 f6 => rV_mk ?_)
          · refine go 2 l y' MI5 (by rw [ht]; rfl) s6 (frX_tr fA (frX_mono f6 (fun i k z => Or.inl z))) (fun i hi => ?_) ?_ k6 ?_
            · rw [(f6 i rJ (by unfold chT; omega)).1, rr i (by omega), m34.1 i (by omega)]
            · rw [(f6 159 rJ (by unfold chT; omega)).1, e240, up2_eq]
            · rw [(f6 139 bk (by unfold chT; omega)).1, rr 139 (by decide), m34.1 139 (by decide)]; exact p2
          · exact goB f q MI5 (by rw [ht]; rfl) s6 (frX_tr fA (frX_mono f6 (fun i k z => Or.inl z)))
        · rw [pb_r] at hy
          exact goB f q MI4 (by rw [hy]; rfl) s4 (frX_mvr fld (mvr_tr m3 m4))
end P93
