theorem wbl_EMPTY : wbl 297649853529 5 = [69, 77, 80, 84, 89] := by decide +kernel
theorem wbl_ANY : wbl 4279897 3 = [65, 78, 89] := by decide +kernel
theorem wbl_PCD : wbl 9939874023035969 7 = [35, 80, 67, 68, 65, 84, 65] := by decide +kernel
/-- what reading declarations changes -/
def chDc (bk i k : Nat) : Prop := inB bk i k ∧ ((i = 124 ∧ fldR k) ∨ (143 ≤ i ∧ i ≤ 153) ∨ (166 ≤ i ∧ i ≤ 172))
theorem chDc_chE {bk dI i k : Nat} (hd : 30 * bk ≤ dI ∧ dI < 30 * bk + 30) (h : chE dI i k) : chDc bk i k := ⟨inB_chE hd h, by
  rcases h with (h | h) | h
  · exact Or.inl h
  · omega
  · omega⟩
theorem chDc_fld {bk k : Nat} (h : fldR k) : chDc bk 124 k := ⟨Or.inl ⟨rfl, Or.inl h⟩, Or.inl ⟨rfl, h⟩⟩
theorem cntD_le (ds : List Dc) (r : Nat) : cntD ds r ≤ ds.length := List.length_filter_le _ _
theorem cntD_app (ds : List Dc) (q : Dc) (r : Nat) : cntD (ds ++ [q]) r = cntD ds r + (if q.2.2.1 ≤ r then 1 else 0) := by
  unfold cntD
  rw [List.filter_append, List.length_append]
  by_cases h : q.2.2.1 ≤ r
  · simp [h]
  · simp [h]
section P90
variable {cs : Cs} {Q : Option AV → Mm → Prop} {MI ML OI OL : Nat → Nat → Int} {bk d e nw th x dI : Nat} {T : Nat → Int} {n B : Int} {s : PR Int} {p : Pl} {pt : Pt}
theorem rd_bad228 {f q l1 l2 : Int} (hs : StR bk T n OI OL B (.inl (f, q)) MI ML) (hQ : ∀ MI', StR bk T n OI OL B (.inl (f, q)) MI' ML → mvr MI MI' → Q none (MI', ML, GR d e nw th x)) : wp cs mX12_declaration KD Q 228 [some (vR 124), some (vI l1), some (vI l2)] [] (KD, MI, ML, GR d e nw th x) := by
  refine v_X12_declaration_228 (ux_maybeS hs (fun MI1 s1 m1 _ _ => rV_mk ?_))
  rw [pb_l] at s1
  refine ux_passes s1 (fun y MI2 h => by cases h) (fun f' q' MI2 h s2 m2 _ => rI_mk ⟨fun _ => ?_, fun z => absurd rfl z⟩) (by decide)
  cases h
  exact hQ MI2 s2 (mvr_tr m1 m2)
theorem rd_bad176 {f q l1 l2 : Int} (hs : StR bk T n OI OL B (.inl (f, q)) MI ML) (hQ : ∀ MI', StR bk T n OI OL B (.inl (f, q)) MI' ML → mvr MI MI' → Q none (MI', ML, GR d e nw th x)) : wp cs mX12_declaration KD Q 176 [some (vR 124), some (vI l1), some (vI l2)] [] (KD, MI, ML, GR d e nw th x) := by
  refine v_X12_declaration_176 (ux_passes hs (fun y MI2 h => by cases h) (fun f' q' MI2 h s2 m2 _ => rI_mk ⟨fun _ => ?_, fun z => absurd rfl z⟩) (by decide))
  cases h
  exact rd_bad228 s2 (fun MI' s' m' => hQ MI' s' (mvr_tr m2 m'))
theorem rd_good228 {kd y2 l1 l2 : Int} {ds : List Dc} {nr : Nat} {nm : By} (hlen : ds.length < 30) (hnr : nr ≤ 800) (hs : StR bk T n OI OL B (.inr y2) MI ML)
    (hA : DecA bk T n MI ML (30 * bk + ds.length) (nm, kd, nr, p.1, p.2, pt.2.1, pt.2.2, pt.1)) (hD : MI 143 bk = (ds.length : Nat)) (hDd : ∀ (j : Nat) (q : Dc), ds[j]? = some q → DecA bk T n MI ML (30 * bk + j) q) (hS : StoR bk ds nr MI)
    (hT : ∀ w MI', mbS T n (sk T n y2) 62 = .inr w → StR bk T n OI OL B (.inr w) MI' ML → DecR bk T n (ds ++ [(nm, kd, nr, p.1, p.2, pt.2.1, pt.2.2, pt.1)]) MI' ML → StoR bk (ds ++ [(nm, kd, nr, p.1, p.2, pt.2.1, pt.2.2, pt.1)]) nr MI' → frX (chDc bk) MI ML MI' ML → Q none (MI', ML, GR d e nw th x))
    (hF : ∀ f q MI', mbS T n (sk T n y2) 62 = .inl (f, q) → StR bk T n OI OL B (.inl (f, q)) MI' ML → mvr MI MI' → Q none (MI', ML, GR d e nw th x)) :
    wp cs mX12_declaration KD Q 228 [some (vR 124), some (vI l1), some (vI l2)] [] (KD, MI, ML, GR d e nw th x) := by
  have a5 := hs.1.2.2.2.2.1
  refine v_X12_declaration_228 (ux_maybeS hs (fun MI1 s1 m1 _ _ => rV_mk ?_))
  rw [pb_r] at s1
  refine ux_passes s1 (fun w MI2 h s2 m2 _ => rI_mk ⟨fun z => by omega, fun _ => ?_⟩) (fun f q MI2 h s2 m2 _ => rI_mk ⟨fun _ => hF f q MI2 h s2 (mvr_tr m1 m2), fun z => absurd rfl z⟩) (by decide)
  rw [pb_r] at h
  have m12 := mvr_tr m1 m2
  have e8 : MI2 124 8 = (bk : Int) := s2.1.2.2.2.1
  have e167 : MI2 167 bk = ((ds.length + nr : Nat) : Int) := by rw [m12.1 167 (by decide)]; exact hS.1
  have e143 : MI2 143 bk = (ds.length : Nat) := by rw [m12.1 143 (by decide)]; exact hD
  rw [e8]
  simp only [Int.toNat_natCast]
  rw [e167, e143]
  refine ⟨by omega, by omega, by omega, by omega, by omega, ?_⟩
  have ei : (850 * (bk : Int) + ((ds.length + nr : Nat) : Int)).toNat = 850 * bk + (ds.length + nr) := by omega
  rw [ei]
  intro m274 e274
  have k8 : m274 124 8 = (bk : Int) := by rw [e274, up2_ne (by decide)]; exact e8
  have k167 : m274 167 bk = ((ds.length + nr : Nat) : Int) := by rw [e274, up2_ne (by decide)]; exact e167
  rw [k8]
  simp only [Int.toNat_natCast]
  rw [k167]
  refine ⟨by omega, by omega, ?_⟩
  intro m287 e287
  have j8 : m287 124 8 = (bk : Int) := by rw [e287, up2_ne (by decide)]; exact k8
  have j143 : m287 143 bk = (ds.length : Nat) := by rw [e287, up2_ne (by decide), e274, up2_ne (by decide)]; exact e143
  rw [j8]
  simp only [Int.toNat_natCast]
  rw [j143]
  refine ⟨by omega, by omega, ?_⟩
  intro m300 e300
  have r : ∀ i, i ≠ 166 → i ≠ 167 → i ≠ 143 → m300 i = MI2 i := fun i h1 h2 h3 => by rw [e300, e287, e274]; funext k; rw [up2_ne h3, up2_ne h2, up2_ne h1]
  have rM : ∀ i, i ≠ 166 → i ≠ 167 → i ≠ 143 → i ≠ 124 → m300 i = MI i := fun i h1 h2 h3 h4 => by rw [r i h1 h2 h3, m12.1 i h4]
  have r1 := r 124 (by decide) (by decide) (by decide)
  have c166 : chDc bk 166 (850 * bk + (ds.length + nr)) := ⟨Or.inr (Or.inr ⟨by omega, by omega, by omega, by rw [show wR 166 = 850 by decide]; omega⟩), Or.inr (by omega)⟩
  have c167 : chDc bk 167 bk := ⟨Or.inr (Or.inr ⟨by omega, by omega, by omega, by rw [show wR 167 = 1 by decide]; omega⟩), Or.inr (by omega)⟩
  have c143 : chDc bk 143 bk := ⟨Or.inr (Or.inr ⟨by omega, by omega, by omega, by rw [show wR 143 = 1 by decide]; omega⟩), Or.inr (by omega)⟩
  have fX : frX (chDc bk) MI2 ML m300 ML := by rw [e300, e287, e274]; exact frX_tr (frX_tr (frX_upI c166) (frX_upI c167)) (frX_upI c143)
  have s3 := StR_frX (fun i k z => z.1) s2 fX (by rw [r1]) (by rw [r1]) (by rw [r1])
  have keep : ∀ (j : Nat) (q : Dc), DecA bk T n MI ML (30 * bk + j) q → DecA bk T n m300 ML (30 * bk + j) q := fun j q hq => DecA_fr hq (fun i h1 h2 _ _ => ⟨by rw [rM i (by omega) (by omega) (by omega) (by omega)], rfl⟩) (fun i k h1 _ _ => ⟨by rw [rM i (by omega) (by omega) (by omega) (by omega)], rfl⟩)
  refine hT w m300 h s3 ⟨?_, ?_, fun j q hj => ?_⟩ ⟨?_, fun j q hj => ?_, fun r' hr => ?_⟩ (frX_tr (frX_mvr (fun k h => chDc_fld h) m12) fX)
  · rw [e300, up2_eq]; simp
  · simp; omega
  · rcases last_of hj with ⟨hj1, hj2⟩ | ⟨rfl, rfl⟩
    · exact keep j q (hDd j q hj2)
    · exact keep _ _ hA
  · rw [e300, up2_ne (by decide), e287, up2_eq]; simp; omega
  · rcases last_of hj with ⟨hj1, hj2⟩ | ⟨rfl, rfl⟩
    · have := hS.2.1 j q hj2
      refine ⟨this.1, ?_⟩
      rw [e300, up2_ne (by decide), e287, up2_ne (by decide), e274, up2_nk (by omega), m12.1 166 (by decide)]; exact this.2
    · refine ⟨Nat.le_refl _, ?_⟩
      show m300 166 (850 * bk + (nr + ds.length)) = _
      rw [e300, up2_ne (by decide), e287, up2_ne (by decide), e274, Nat.add_comm nr, up2_eq]
  · have h1 := hS.2.2 r' hr
    have h2 := cntD_le ds r'
    rw [cntD_app, if_neg (by show ¬ nr ≤ r'; omega), Nat.add_zero, e300, up2_ne (by decide), e287, up2_ne (by decide), e274, up2_nk (by omega), m12.1 166 (by decide)]; exact h1
/-- <!ELEMENT -/
theorem ux_declaration {a : Int} {ds : List Dc} {nr : Nat} (hs : StR bk T n OI OL B (.inr a) MI ML) (h9 : a + 9 ≤ n) (hnr : nr ≤ 800) (hD : DecR bk T n ds MI ML) (hS : StoR bk ds nr MI)
    (hT : ∀ ds' y MI' ML', deS T n ds nr a = .inr (ds', y) → StR bk T n OI OL B (.inr y) MI' ML' → DecR bk T n ds' MI' ML' → StoR bk ds' nr MI' → frX (chDc bk) MI ML MI' ML' → Q none (MI', ML', GR d e nw th x))
    (hF : ∀ f q MI' ML', deS T n ds nr a = .inl (f, q) → StR bk T n OI OL B (.inl (f, q)) MI' ML' → frX (chDc bk) MI ML MI' ML' → Q none (MI', ML', GR d e nw th x)) :
    wp cs mX12_declaration KD Q 0 (padL [vR 124] 3) [] (KD, MI, ML, GR d e nw th x) := by
  unfold deS at hT hF
  obtain ⟨b1, b2, b3, b4, b5⟩ := hs.2.2
  have a5 := hs.1.2.2.2.2.1
  have hn := hs.1.2.2.1
  have e8 : MI 124 8 = (bk : Int) := hs.1.2.2.2.1
  have hD2 := hD.2.1
  refine v_X12_declaration_0 ?_
  rw [e8, b1]
  simp only [Int.toNat_natCast]
  rw [hD.1]
  refine ⟨by omega, fun h30 => ?_, fun h30 => ⟨by omega, fun m33 e33 => ?_⟩⟩
  · rw [if_pos (by omega)] at hF
    exact ux_fail (by decide) hs (fun MI1 s1 m1 => rV_mk (hF (-3) a MI1 ML rfl s1 (frX_mvr (fun k h => chDc_fld h) m1)))
  have hlt : ds.length < 30 := by omega
  rw [if_neg (by omega)] at hT hF
  obtain ⟨s1, m1⟩ := StR_at hs e33 (by omega)
  refine ux_mustS s1 (fun MI2 s2 m2 _ => rV_mk ?_)
  rw [pb_r] at s2
  have m12 := mvr_tr m1 m2
  obtain ⟨dI, hdI⟩ : ∃ dI, dI = 30 * bk + ds.length := ⟨_, rfl⟩
  have hd : 30 * bk ≤ dI ∧ dI < 30 * bk + 30 := by omega
  have ei : 30 * (bk : Int) + ((ds.length : Nat) : Int) = ((dI : Nat) : Int) := by omega
  have c144 : chE dI 144 dI := Or.inr ⟨Or.inl rfl, rfl⟩
  have c145 : chE dI 145 dI := Or.inr ⟨Or.inr rfl, rfl⟩
  have c147 : chE dI 147 dI := Or.inl (Or.inr (Or.inr (Or.inl ⟨by omega, rfl⟩)))
  have fldE : ∀ k, fldR k → chE dI 124 k := fun k h => Or.inl (Or.inl ⟨rfl, h⟩)
  have toDc : ∀ {A AL B' BL : Nat → Nat → Int}, frX (chE dI) A AL B' BL → frX (chDc bk) A AL B' BL := fun h => frX_mono h (fun i k z => chDc_chE hd z)
  refine ux_takeName s2 (fun g y MI3 hg hy s3 m3 e51 => rI_mk ?_) (fun f q g MI3 hy hg s3 m3 => rI_mk ?_)
  · rw [hg, pb_r, hy, pb_r] at hT hF
    have m13 := mvr_tr m12 m3
    have hy1 := nmS_ok hy
    have hg1 := msS_lt hg
    have k8 : MI3 124 8 = (bk : Int) := s3.1.2.2.2.1
    have k143 : MI3 143 bk = (ds.length : Nat) := by rw [m13.1 143 (by decide)]; exact hD.1
    rw [k8]
    simp only [Int.toNat_natCast]
    rw [k143, ei]
    simp only [Int.toNat_natCast]
    refine ⟨by omega, by omega, by omega, by omega, by omega, by omega, ?_⟩
    intro m78 e78 m88 e88 m95 e95
    have q51 : m78 124 51 = y - g := by rw [e78, up2_ne (by decide)]; exact e51
    rw [q51] at e88
    have fX : frX (chE dI) MI3 ML m95 ML := by rw [e95, e88, e78]; exact frX_tr (frX_tr (frX_upI c144) (frX_upI c145)) (frX_upI c147)
    have r : ∀ i, i ≠ 144 → i ≠ 145 → i ≠ 147 → m95 i = MI3 i := fun i h1 h2 h3 => by rw [e95, e88, e78]; funext k; rw [up2_ne h3, up2_ne h2, up2_ne h1]
    have r1 := r 124 (by decide) (by decide) (by decide)
    have s4 := StR_frX (fun i k z => inB_chE hd z) s3 fX (by rw [r1]) (by rw [r1]) (by rw [r1])
    have nm4 : nmR bk T n (m95 144 dI) (m95 145 dI) (nb T g y) := by
      rw [e95, up2_ne (by decide), up2_ne (by decide), e88, up2_ne (by decide), up2_eq, e78, up2_eq]
      unfold nmR
      rw [show 6000 * (bk : Int) + g - 6000 * (bk : Int) = g by omega]
      exact slc_nb (by omega) (by omega) (by omega)
    have p4 : PlR bk T n dI ([], []) m95 ML := ⟨by rw [e95, up2_eq]; rfl, by simp, rfl, fun k y h => by simp at h, fun k y h => by simp at h⟩
    have fA : frX (chE dI) MI ML m95 ML := frX_tr (frX_mvr fldE m13) fX
    refine ux_mustS s4 (fun MI5 s5 m5 _ => rV_mk ?_)
    rw [pb_r] at s5
    have f5 : frX (chE dI) MI ML MI5 ML := frX_tr fA (frX_mvr fldE m5)
    cases hz : msS T n y with
    | inl fq =>
      obtain ⟨f, q⟩ := fq
      rw [hz] at s5
      refine ux_isGood s5 (fun _ z => by cases z) (fun f' q' z => rI_mk ⟨fun _ => ux_isGood s5 (fun _ z => by cases z) (fun f' q' z => rI_mk ⟨fun _ => ?_, fun z => absurd rfl z⟩), fun z => absurd rfl z⟩)
      exact rd_bad176 s5 (fun MI' s' m' => hF f q MI' ML (by rw [hz]; rfl) s' (toDc (frX_tr f5 (frX_mvr fldE m'))))
    | inr z =>
      rw [hz] at s5
      rw [hz, pb_r] at hT hF
      have p5 := PlR_mvr p4 m5
      obtain ⟨d1, d2, d3, d4, d5⟩ := s5.2.2
      -- behind a SPEC
      have go : ∀ (kd : Int) (p : Pl) (pt : Pt) (y2 : Int) (MI6 ML6 : Nat → Nat → Int), spS T n z = .inr ((kd, p, pt), y2) → StR bk T n OI OL B (.inr y2) MI6 ML6 → MI6 146 dI = kd → PlR bk T n dI p MI6 ML6 → (kd = 3 → MI6 152 dI = pt.1 ∧ ML6 150 dI = pt.2.1 ∧ ML6 151 dI = pt.2.2) → frS dI MI5 ML MI6 ML6 → wp cs mX12_declaration KD Q 228 [some (vR 124), some (vI g), some (vI (dI : Nat))] [] (KD, MI6, ML6, GR d e nw th x) := by
        intro kd p pt y2 MI6 ML6 hsp s6 h146 p6 h3 f6
        rw [hsp, pb_r] at hT hF
        have f6' : frX (chE dI) MI ML MI6 ML6 := frX_tr f5 (fun i k hk => f6 i k (fun z => hk (Or.inl z)))
        have e144 : MI6 144 dI = m95 144 dI := by rw [(f6 144 dI (by unfold chS; omega)).1, m5.1 144 (by decide)]
        have e145 : MI6 145 dI = m95 145 dI := by rw [(f6 145 dI (by unfold chS; omega)).1, m5.1 145 (by decide)]
        refine rd_good228 (ds := ds) (nr := nr) (nm := nb T g y) (kd := kd) (p := p) (pt := pt) hlt hnr s6 ?_ ?_ (fun j q hj => ?_) ⟨?_, fun j q hj => ?_, fun r' hr => ?_⟩ (fun w MI' hw s' D' S' F' => ?_) (fun f q MI' hw s' m' => ?_)
        · rw [← hdI]
          exact ⟨by rw [e144, e145]; exact nm4, h146, p6, h3⟩
        · rw [(f6' 143 bk (by unfold chE chS; omega)).1]; exact hD.1
        · have hj' := (List.getElem?_eq_some_iff.mp hj).1
          exact DecA_fr (hD.2.2 j q hj) (fun i h1 h2 _ _ => f6' i _ (by unfold chE chS; omega)) (fun i k h1 h2 h3 => f6' i _ (by unfold chE chS; omega))
        · rw [(f6' 167 bk (by unfold chE chS; omega)).1]; exact hS.1
        · rw [(f6' 166 _ (by unfold chE chS; omega)).1]; exact hS.2.1 j q hj
        · rw [(f6' 166 _ (by unfold chE chS; omega)).1]; exact hS.2.2 r' hr
        · exact hT _ w MI' ML6 (by rw [hw]; rfl) s' D' S' (frX_tr (toDc f6') F')
        · exact hF f q MI' ML6 (by rw [hw]; rfl) s' (frX_tr (toDc f6') (frX_mvr (fun k h => chDc_fld h) m'))
      have goB : ∀ (f q : Int) (MI6 ML6 : Nat → Nat → Int), spS T n z = .inl (f, q) → StR bk T n OI OL B (.inl (f, q)) MI6 ML6 → frS dI MI5 ML MI6 ML6 → wp cs mX12_declaration KD Q 228 [some (vR 124), some (vI g), some (vI (dI : Nat))] [] (KD, MI6, ML6, GR d e nw th x) := by
        intro f q MI6 ML6 hsp s6 f6
        have f6' : frX (chE dI) MI ML MI6 ML6 := frX_tr f5 (fun i k hk => f6 i k (fun z => hk (Or.inl z)))
        exact rd_bad228 s6 (fun MI' s' m' => hF f q MI' ML6 (by rw [hsp]; rfl) s' (toDc (frX_tr f6' (frX_mvr fldE m'))))
      unfold spS at go goB
      -- a kind without places
      have word : ∀ (kd w : Int) (m125 m134 : Nat → Nat → Int), z + w ≤ n → 0 ≤ w → m125 = up2 MI5 124 4 (z + w) → m134 = up2 m125 146 dI kd → kd ≠ 3 → StR bk T n OI OL B (.inr (z + w)) m134 ML ∧ m134 146 dI = kd ∧ PlR bk T n dI ([], []) m134 ML ∧ frS dI MI5 ML m134 ML := by
        intro kd w m125 m134 h1 h2 e125 e134 h3
        obtain ⟨s6, m6⟩ := StR_at s5 e125 (by omega)
        have c146 : chS dI 146 dI := Or.inr (Or.inr (Or.inl ⟨by omega, rfl⟩))
        have fS : frS dI m125 ML m134 ML := by rw [e134]; exact frS_upI c146
        have rr : ∀ i, i ≠ 146 → m134 i = m125 i := fun i hi => by rw [e134]; funext k; exact up2_ne hi k
        exact ⟨StR_frS hd s6 fS (by rw [rr 124 (by decide)]) (by rw [rr 124 (by decide)]) (by rw [rr 124 (by decide)]), by rw [e134, up2_eq], PlR_fr (PlR_mvr p5 m6) (rr 147 (by decide)) (rr 148 (by decide)) (rr 149 (by decide)) rfl, frS_tr (frS_mvr m6) fS⟩
      refine ux_isGood s5 (fun _ _ => rI_mk ⟨fun z => by omega, fun _ => ?_⟩) (fun f q z => by cases z)
      refine ux_stands (m := 5) (by decide) s5 (fun hE => rI_mk ⟨fun z => by omega, fun _ => ?_⟩) (fun hE => rI_mk ⟨fun _ => ?_, fun z => absurd rfl z⟩)
      · rw [wbl_EMPTY] at hE
        have hr := stb_room _ z (by omega) (by decide) (by decide) hE
        simp only [List.length_cons, List.length_nil] at hr
        rw [d1]
        refine ⟨by omega, fun m125 e125 m134 e134 => ?_⟩
        obtain ⟨w1, w2, w3, w4⟩ := word 0 5 m125 m134 (by omega) (by omega) e125 e134 (by decide)
        rw [if_pos hE] at go
        exact go 0 ([], []) (0, 0, 0) (z + 5) m134 ML rfl w1 w2 w3 (fun h => absurd h (by decide)) w4
      · rw [wbl_EMPTY] at hE
        rw [if_neg (by rw [hE]; decide)] at go goB
        refine ux_isGood s5 (fun _ _ => rI_mk ⟨fun z => by omega, fun _ => ?_⟩) (fun f q z => by cases z)
        refine ux_stands (m := 3) (by decide) s5 (fun hA => rI_mk ⟨fun z => by omega, fun _ => ?_⟩) (fun hA => rI_mk ⟨fun _ => ?_, fun z => absurd rfl z⟩)
        · rw [wbl_ANY] at hA
          have hr := stb_room _ z (by omega) (by decide) (by decide) hA
          simp only [List.length_cons, List.length_nil] at hr
          rw [d1]
          refine ⟨by omega, fun m163 e163 m172 e172 => ?_⟩
          obtain ⟨w1, w2, w3, w4⟩ := word 1 3 m163 m172 (by omega) (by omega) e163 e172 (by decide)
          rw [if_pos hA] at go
          exact go 1 ([], []) (0, 0, 0) (z + 3) m172 ML rfl w1 w2 w3 (fun h => absurd h (by decide)) w4
        · rw [wbl_ANY] at hA
          rw [if_neg (by rw [hA]; decide)] at go goB
          refine v_X12_declaration_176 (ux_passes s5 (fun g' MI6 h s6 m6 _ => rI_mk ⟨fun z => by omega, fun _ => ?_⟩) (fun f q MI6 h s6 m6 _ => rI_mk ⟨fun _ => ?_, fun z => absurd rfl z⟩) (by decide))
          · rw [pb_r] at h
            rw [h, pb_r] at go goB
            refine ux_maybeS s6 (fun MI7 s7 m7 _ _ => rV_mk ?_)
            rw [pb_r] at s7
            have m67 := mvr_tr m6 m7
            have p7 := PlR_mvr p5 m67
            refine ux_isGood s7 (fun _ _ => rI_mk ⟨fun z => by omega, fun _ => ?_⟩) (fun f q z => by cases z)
            refine ux_stands (m := 7) (by decide) s7 (fun hM => rI_mk ⟨fun z => by omega, fun _ => ?_⟩) (fun hM => rI_mk ⟨fun _ => ?_, fun z => absurd rfl z⟩)
            · rw [wbl_PCD] at hM
              have hb := s7.2.2.2.2.2
              have hr := stb_room _ _ (by omega) (by decide) (by decide) hM
              simp only [List.length_cons, List.length_nil] at hr
              rw [if_pos hM] at go goB
              refine ux_mixed hd s7 (by omega) p7 (fun p' y' MI' ML' h' s' P' F' k' => rV_mk ?_) (fun f q MI' ML' h' s' F' => rV_mk ?_)
              · exact go 2 p' (0, 0, 0) y' MI' ML' (by rw [h']; rfl) s' k' P' (fun h => absurd h (by decide)) (frS_tr (frS_mvr m67) F')
              · exact goB f q MI' ML' (by rw [h']; rfl) s' (frS_tr (frS_mvr m67) F')
            · rw [wbl_PCD] at hM
              rw [if_neg (by rw [hM]; decide)] at go goB
              refine ux_isGood s7 (fun _ _ => rI_mk ⟨fun z => by omega, fun _ => ?_⟩) (fun f q z => by cases z)
              refine ux_group hd s7 (sk_sk T n _) p7 (fun p' pt y' MI' ML' h' s' P' w1 w2 w3 F' k' => rV_mk ?_) (fun f q MI' ML' h' s' F' => rV_mk ?_)
              · exact go 3 p' pt y' MI' ML' (by rw [h']; rfl) s' k' P' (fun _ => ⟨w1, w2, w3⟩) (frS_tr (frS_mvr m67) F')
              · exact goB f q MI' ML' (by rw [h']; rfl) s' (frS_tr (frS_mvr m67) F')
          · rw [pb_r] at h
            rw [h, pb_l] at goB
            exact goB f q MI6 ML rfl s6 (frS_mvr m6)
  · have hfp : ∀ (F : Int → Int → PR (List Dc × Int)), (pb (msS T n (a + 9)) fun g => pb (nmS T n g) fun y => F g y) = .inl (f, q) := by
      intro F
      cases hm : msS T n (a + 9) with
      | inl w => rw [hm] at hy; cases hy; rfl
      | inr g0 =>
        rw [hm, pb_r] at hy
        rw [pb_r, hy]; rfl
    have m13 := mvr_tr m12 m3
    have k8 : MI3 124 8 = (bk : Int) := s3.1.2.2.2.1
    have k143 : MI3 143 bk = (ds.length : Nat) := by rw [m13.1 143 (by decide)]; exact hD.1
    rw [k8]
    simp only [Int.toNat_natCast]
    rw [k143, ei]
    simp only [Int.toNat_natCast]
    refine ⟨by omega, by omega, by omega, by omega, by omega, by omega, ?_⟩
    intro m78 e78 m88 e88 m95 e95
    have fX : frX (chE dI) MI3 ML m95 ML := by rw [e95, e88, e78]; exact frX_tr (frX_tr (frX_upI c144) (frX_upI c145)) (frX_upI c147)
    have r1 : m95 124 = MI3 124 := by rw [e95, e88, e78]; funext k; rw [up2_ne (by decide), up2_ne (by decide), up2_ne (by decide)]
    have s4 := StR_frX (fun i k z => inB_chE hd z) s3 fX (by rw [r1]) (by rw [r1]) (by rw [r1])
    refine ux_mustS s4 (fun MI5 s5 m5 _ => rV_mk ?_)
    rw [pb_l] at s5
    refine ux_isGood s5 (fun _ z => by cases z) (fun f' q' z => rI_mk ⟨fun _ => ux_isGood s5 (fun _ z => by cases z) (fun f' q' z => rI_mk ⟨fun _ => ?_, fun z => absurd rfl z⟩), fun z => absurd rfl z⟩)
    exact rd_bad176 s5 (fun MI' s' m' => hF f q MI' ML (hfp _) s' (toDc (frX_tr (frX_mvr fldE m13) (frX_tr fX (frX_mvr fldE (mvr_tr m5 m'))))))
end P90
