/-! The reference's read, up to its judge. -/
/-- what a reading into bank bk leaves as it was -/
def frRd (bk : Nat) (MI ML MI' ML' : Nat → Nat → Int) : Prop := (∀ i, i ≠ 124 → ¬ (126 ≤ i ∧ i ≤ 173) → MI' i = MI i ∧ ML' i = ML i) ∧ (∀ k, ¬ fldB k → k ≠ 1 → k ≠ 3 → k ≠ 8 → MI' 124 k = MI 124 k ∧ ML' 124 k = ML 124 k) ∧
  ∀ i k, 127 ≤ i → i ≤ 167 → ¬ (wR i * bk ≤ k ∧ k < wR i * (bk + 1)) → MI' i k = MI i k ∧ ML' i k = ML i k
/-- a DOCUMENT that is held in bank bk -/
def PicR (bk : Nat) (T : Nat → Int) (n : Int) (pl : Nat) (D : Dm) (MI ML : Nat → Nat → Int) : Prop := DclR bk T n pl D.1 MI ML ∧ NodR bk T n pl D.2.1 MI ∧ MI 140 bk = D.2.2 ∧ (0 ≤ n ∧ n ≤ 6000) ∧ (∀ k : Nat, (k : Int) < n → MI 128 (6000 * bk + k) = T k) ∧ pl ≤ 2000 ∧ bk ≤ 1
section Pa04
variable {cs : Cs} {Q : Option AV → Mm → Prop} {MI ML OI OL : Nat → Nat → Int} {bk d e nw th x pl : Nat} {T : Nat → Int} {n B : Int} {s : PR Int} {D : Dt}
/-- the TREE and what follows it -/
def rdE (T : Nat → Int) (n : Int) (pl : Nat) (D : Dt) (a : Int) : PR Dm := pb (mbS T n a 60) fun g => pb (tgS T n D.2.2 pl ([(0, -1, [], [], 0, 0)], [], 0) g) fun z =>
  pb (ctF T n D.2.2 (n + 1).toNat z.1 z.2.1 z.2.2) fun w => pb (mcS T n w.2.2) fun y => if y < n then .inl (-1, y) else .inr (D, w.2.1.1, w.2.1.2.2)
theorem rdS_E (T : Nat → Int) (n : Int) : rdS T n = pb (mcS T n 0) fun a => pb (dtS T n a) fun q => rdE T n q.1 q.2.1 q.2.2 := rfl
theorem rr_219b {l1 l2 f p : Int} (hs : StR bk T n OI OL B (.inl (f, p)) MI ML) (hF : Q (some (vI f)) (MI, ML, GR d e nw th x)) : wp cs mX12_read KD Q 219 [some (vR 124), some (vI l1), some (vI l2)] [] (KD, MI, ML, GR d e nw th x) :=
  v_X12_read_219 (ux_isGood hs (fun _ z => by cases z) (fun _ _ _ => rI_mk ⟨fun _ => by rw [hs.2.2.1]; exact hF, fun z => absurd rfl z⟩))
theorem rr_180 {l1 l2 : Int} (hB : B + 4 ≤ 60000) (hb : ∀ k, -128 ≤ T k ∧ T k < 128) (hV : RuV D.2.2) (hs : StR bk T n OI OL B s MI ML) (hR : ∀ a, s = .inr a → TreR bk T n pl D ([(0, -1, [], [], 0, 0)], [], 0) MI ML)
    (hT : ∀ Dr pl' y MI', (pb s fun a => rdE T n pl D a) = .inr Dr → StR bk T n OI OL (B + 4) (.inr y) MI' ML → TreR bk T n pl' Dr.1 (Dr.2.1, [], Dr.2.2) MI' ML → Dr.1 = D → TrV (Dr.2.1, [], Dr.2.2) → wp cs mX12_read KD Q 219 [some (vR 124), some (vI l1), some (vI l2)] [] (KD, MI', ML, GR d e nw th x))
    (hF : ∀ f p MI', (pb s fun a => rdE T n pl D a) = .inl (f, p) → StR bk T n OI OL (B + 4) (.inl (f, p)) MI' ML → Q (some (vI f)) (MI', ML, GR d e nw th x)) :
    wp cs mX12_read KD Q 180 [some (vR 124), some (vI l1), some (vI l2)] [] (KD, MI, ML, GR d e nw th x) := by
  have hBB := hs.2.1
  have hn := hs.1.2.2.1
  -- a failure runs on
  have badc : ∀ {f p : Int} {MI1 : Nat → Nat → Int}, StR bk T n OI OL (B + 4) (.inl (f, p)) MI1 ML → (∀ MI', StR bk T n OI OL (B + 4) (.inl (f, p)) MI' ML → Q (some (vI f)) (MI', ML, GR d e nw th x)) → wp cs mX12_misc KD (rV (GR d e nw th x) fun m189 n189 => wp cs mX12_isGood KD (rI (GR d e nw th x) fun x193 m193 n193 => ((x193 = 0 → wp cs mX12_read KD Q 219 [some (vR 124), some (vI l1), some (vI l2)] [] (KD, m193, n193, (GR d e nw th x))) ∧ (x193 ≠ 0 → (((m193 124 4) < (m193 124 3) → wp cs mX12_fail KD (rV (GR d e nw th x) fun m216 n216 => wp cs mX12_read KD Q 219 [some (vR 124), some (vI l1), some (vI l2)] [] (KD, m216, n216, (GR d e nw th x))) 0 (padL [vR 124, vI (-1), vI (m193 124 4)] 3) [] (KD, m193, n193, (GR d e nw th x))) ∧ ((m193 124 3) ≤ (m193 124 4) → wp cs mX12_read KD Q 219 [some (vR 124), some (vI l1), some (vI l2)] [] (KD, m193, n193, (GR d e nw th x))))))) 0 (padL [vR 124] 1) [] (KD, m189, n189, (GR d e nw th x))) 0 (padL [vR 124] 1) [] (KD, MI1, ML, (GR d e nw th x)) := by
    intro f p MI1 s1 hq
    refine ux_misc s1 (fun MI2 s2 m2 => rV_mk ?_)
    rw [pb_l] at s2
    exact ux_isGood s2 (fun _ z => by cases z) (fun _ _ _ => rI_mk ⟨fun _ => rr_219b s2 (hq MI2 s2), fun z => absurd rfl z⟩)
  refine v_X12_read_180 (ux_element (D := D) (pl := pl) (t := ([(0, -1, [], [], 0, 0)], [], 0)) hs (by omega) (fun a ha => ⟨hR a ha, TrV_root.1⟩) (fun pl1 t1 y1 MI1 hy s1 R1 => rV_mk ?_) (fun f p MI1 hy s1 => rV_mk ?_))
  · rcases s with w | a
    · cases hy
    rw [pb_r] at hy hT hF
    unfold rdE at hT hF
    have h0 := hs.2.2.2.2.2
    have h1 := hs.2.2.2.2.1
    have hpl := (hR a rfl).2.2.2.2.2
    obtain ⟨g, hg, hy⟩ := pb_inr hy
    have hg1 := mbS_eq hg
    have wf := tgS_wf hb hV (by omega) hpl hy TrV_root
    rw [hg, pb_r, hy, pb_r] at hT hF
    simp only at hT hF
    refine c_rct_l (B := B) (by omega) hb hV (n + 1).toNat pl1 t1 y1 MI1 (by omega) (StR_Bg s1 hBB) R1 wf.1 (fun pl2 t2 y2 MI2 hy2 s2 R2 V2 => rV_mk ?_) (fun f p MI2 hy2 s2 => rV_mk ?_)
    · have hnil := ctF_nil _ _ _ _ _ _ _ _ _ _ hy2
      rw [hy2, pb_r] at hT hF
      simp only at hT hF
      refine ux_misc s2 (fun MI3 s3 m3 => rV_mk ?_)
      rw [pb_r] at s3
      have R3 := TreR_mvr R2 m3
      cases hm : mcS T n y2 with
      | inl w =>
        obtain ⟨f, p⟩ := w
        rw [hm] at s3
        rw [hm, pb_l] at hF
        exact ux_isGood s3 (fun _ z => by cases z) (fun _ _ _ => rI_mk ⟨fun _ => rr_219b s3 (hF f p MI3 rfl (StR_B s3 (by omega))), fun z => absurd rfl z⟩)
      | inr y =>
        rw [hm] at s3
        rw [hm, pb_r] at hT hF
        have e3 : MI3 124 3 = n := s3.1.2.1
        obtain ⟨c1, c2, c3, c4, c5⟩ := s3.2.2
        refine ux_isGood s3 (fun _ _ => rI_mk ⟨fun z => by omega, fun _ => ?_⟩) (fun f q z => by cases z)
        rw [c1, e3]
        refine ⟨fun hlt => ?_, fun hge => ?_⟩
        · rw [if_pos hlt] at hF
          exact ux_fail (by decide) s3 (fun MI4 s4 m4 => rV_mk (rr_219b s4 (hF (-1) y MI4 rfl (StR_B s4 (by omega)))))
        · rw [if_neg (by omega)] at hT
          obtain ⟨ns, os, dp⟩ := t2
          simp only at hnil
          subst hnil
          exact hT (D, ns, dp) pl2 y MI3 rfl (StR_Bg s3 (by omega)) R3 rfl V2
    · rw [hy2, pb_l] at hF
      exact badc (StR_B s2 (by omega)) (fun MI' s' => hF f p MI' rfl s')
  · refine v_X12_content_0 (ux_isGood s1 (fun _ z => by cases z) (fun _ _ _ => rI_mk ⟨fun _ => rV_mk ?_, fun z => absurd rfl z⟩))
    refine badc (StR_B s1 (by omega)) (fun MI' s' => hF f p MI' ?_ s')
    rcases s with w | a
    · rw [pb_l] at hy ⊢; cases hy; rfl
    · rw [pb_r] at hy ⊢
      unfold rdE
      cases hg : mbS T n a 60 with
      | inl w => rw [hg, pb_l] at hy; rw [pb_l]; cases hy; rfl
      | inr g =>
        rw [hg, pb_r] at hy
        rw [pb_r, hy, pb_l]
/-- the text is laid into its bank -/
theorem rr_copy {M0 : Nat → Nat → Int} {nN : Nat} (hbk : bk ≤ 1) (hnN : nN ≤ 6000) (e8 : M0 124 8 = (bk : Int)) (hb : ∀ k, -128 ≤ M0 126 k ∧ M0 126 k < 128)
    (hQ : ∀ MI', (∀ k, k < nN → MI' 128 (6000 * bk + k) = M0 126 k) → (∀ i, i ≠ 128 → MI' i = M0 i) → (∀ k, ¬ (6000 * bk ≤ k ∧ k < 6000 * bk + 6000) → MI' 128 k = M0 128 k) → wp cs mX12_read KD Q 33 [some (vR 124), some (vI (nN : Nat)), some (vI (nN : Nat))] [] (KD, MI', ML, GR d e nw th x)) :
    ∀ (m j : Nat) (MI : Nat → Nat → Int), j + m = nN → (∀ k, k < j → MI 128 (6000 * bk + k) = M0 126 k) → (∀ i, i ≠ 128 → MI i = M0 i) → (∀ k, ¬ (6000 * bk ≤ k ∧ k < 6000 * bk + 6000) → MI 128 k = M0 128 k) → wp cs mX12_read KD Q 33 [some (vR 124), some (vI (nN : Nat)), some (vI (j : Nat))] [] (KD, MI, ML, GR d e nw th x) := by
  intro m
  induction m with
  | zero =>
    intro j MI hj h1 h2 h3
    rw [show j = nN by omega]
    exact hQ MI (fun k hk => h1 k (by omega)) h2 h3
  | succ m ih =>
    intro j MI hj h1 h2 h3
    refine v_X12_read_33 ⟨fun hlt => ?_, fun z => by omega⟩
    rw [h2 124 (by decide), e8, h2 126 (by decide), show (6000 * (bk : Int) + ((j : Nat) : Int)).toNat = 6000 * bk + j by omega]
    simp only [Int.toNat_natCast]
    refine ⟨by omega, by omega, by omega, by omega, hb j, fun m58 e58 => ⟨by omega, ?_⟩⟩
    rw [show ((j : Nat) : Int) + 1 = ((j + 1 : Nat) : Int) by omega]
    refine ih (j + 1) m58 (by omega) (fun k hk => ?_) (fun i hi => ?_) (fun k hk => ?_)
    · by_cases hkj : k = j
      · rw [hkj, e58, up2_eq]
      · rw [e58, up2_nk (by omega)]; exact h1 k (by omega)
    · rw [e58]; funext k; rw [up2_ne hi, h2 i hi]
    · rw [e58, up2_nk (by omega)]; exact h3 k hk
theorem c_rread {n : Int} (hbk : bk ≤ 1) (h7 : MI 124 7 = 1 - (bk : Int)) (ht : 0 ≤ MI 124 1 ∧ MI 124 1 ≤ 6000) (hb5 : ∀ k, -128 ≤ MI 125 k ∧ MI 125 k < 128) (hb6 : ∀ k, -128 ≤ MI 126 k ∧ MI 126 k < 128)
    (hZ : n < 0 ∨ MI 124 1 < n → Q (some (vI 0)) (MI, ML, GR d e nw th x))
    (hF : 0 ≤ n ∧ n ≤ MI 124 1 → ∀ f p, rdS (MI 125) n = .inl (f, p) → ∀ MI' ML', frRd bk MI ML MI' ML' → MI' 124 1 = 0 → MI' 124 6 = p → (∀ k, -128 ≤ MI' 126 k ∧ MI' 126 k < 128) → Q (some (vI f)) (MI', ML', GR d e nw th x))
    (hT : 0 ≤ n ∧ n ≤ MI 124 1 → ∀ D, rdS (MI 125) n = .inr D → ∀ T pl MI5 ML' m236 m241 m246 m251, m236 = up2 MI5 124 7 (bk : Int) → m241 = up2 m236 124 9 1 → m246 = up2 m241 124 86 0 → m251 = up2 m246 124 68 0 → PicR bk T n pl D MI5 ML' → MI5 124 8 = (bk : Int) → frRd bk MI ML MI5 ML' → MI5 124 1 = 0 → MI5 124 6 = -1 → (∀ k, -128 ≤ MI5 126 k ∧ MI5 126 k < 128) → WfN D.2.1 ∧ AtW D.2.1 →
      wp cs mX12_judge KD (rV (GR d e nw th x) fun m255 n255 => (0 ≤ (m255 124 8) ∧ (m255 124 8) < 2) ∧ Q (some (vI (m255 129 (m255 124 8).toNat))) (m255, n255, (GR d e nw th x))) 0 (padL [vR 124] 3) [] (KD, m251, ML', (GR d e nw th x))) :
    wp cs mX12_read KD Q 0 (padL [vR 124, vI n] 3) [] (KD, MI, ML, GR d e nw th x) := by
  refine v_X12_read_0 (w_X12_in (rI_mk ?_))
  by_cases hin : 0 ≤ n ∧ n ≤ MI 124 1
  rotate_left
  · rw [show bI (0 ≤ n ∧ n ≤ MI 124 1) = 0 from if_neg hin]
    exact ⟨fun _ => hZ (by omega), fun z => absurd rfl z⟩
  rw [show bI (0 ≤ n ∧ n ≤ MI 124 1) = 1 from if_pos hin]
  refine ⟨fun z => by omega, fun _ => ?_⟩
  have hF := hF hin
  have hT := hT hin
  obtain ⟨nN, rfl⟩ : ∃ k : Nat, n = (k : Int) := ⟨n.toNat, by omega⟩
  refine w_X12_begin (by omega) hb5 (rV_mk ?_)
  obtain ⟨m18, e18⟩ : ∃ m, m = rs (up2 (up2 (cpm MI 125 126 nN) 124 3 (nN : Int)) 124 1 0) 0 0 (-1) (MI 124 51) (MI 124 52) := ⟨_, rfl⟩
  rw [← e18]
  have c124 : ∀ k, cpm MI 125 126 nN 124 k = MI 124 k := fun k => by unfold cpm; rw [if_neg (by omega)]
  have r18 : ∀ i, i ≠ 124 → i ≠ 126 → m18 i = MI i := fun i h1 h2 => by rw [e18, rs_row h1]; funext k; rw [up2_ne h1, up2_ne h1]; unfold cpm; rw [if_neg (by omega)]
  have k18 : ∀ k, ¬ fldR k → k ≠ 1 → k ≠ 3 → m18 124 k = MI 124 k := fun k h1 h2 h3 => by
    unfold fldR at h1
    rw [e18, mvr_rs.2 k (by omega) (by omega) (by omega) (by omega) (by omega), up2_nk h2, up2_nk h3, c124]
  have T18 : m18 126 = fun k => if k < nN then MI 125 k else MI 126 k := by
    rw [e18, rs_row (by decide)]; funext k; rw [up2_ne (by decide), up2_ne (by decide)]; unfold cpm
    by_cases hk : k < nN
    · rw [if_pos ⟨rfl, hk⟩, if_pos hk]
    · rw [if_neg (fun z => hk z.2), if_neg hk]
  have v1 : m18 124 1 = 0 := by rw [e18, mvr_rs.2 1 (by decide) (by decide) (by decide) (by decide) (by decide), up2_eq]
  have v3 : m18 124 3 = (nN : Int) := by rw [e18, mvr_rs.2 3 (by decide) (by decide) (by decide) (by decide) (by decide), up2_nk (by decide), up2_eq]
  have v4 : m18 124 4 = 0 ∧ m18 124 5 = 0 ∧ m18 124 6 = -1 := by rw [e18]; exact ⟨rs_r.1, rs_r.2.1, rs_r.2.2.1⟩
  have v7 : m18 124 7 = 1 - (bk : Int) := by rw [k18 7 (by unfold fldR; omega) (by decide) (by decide)]; exact h7
  obtain ⟨T, eT⟩ : ∃ T, T = m18 126 := ⟨_, rfl⟩
  have hbT : ∀ k, -128 ≤ T k ∧ T k < 128 := fun k => by
    rw [eT, T18]
    show -128 ≤ (if k < nN then MI 125 k else MI 126 k) ∧ (if k < nN then MI 125 k else MI 126 k) < 128
    split
    · exact hb5 k
    · exact hb6 k
  have cong : rdS (MI 125) (nN : Int) = rdS T (nN : Int) := rdS_cong (fun k hk => by
    rw [eT, T18]
    show MI 125 k = if k < nN then MI 125 k else MI 126 k
    rw [if_pos (by omega)])
  rw [cong, rdS_E] at hF hT
  rw [v7]
  refine ⟨by omega, fun m28 e28 => ?_⟩
  rw [show 1 - (1 - (bk : Int)) = (bk : Int) by omega] at e28
  have r28 : ∀ i, i ≠ 124 → m28 i = m18 i := fun i hi => by rw [e28]; funext k; exact up2_ne hi k
  have k28 : ∀ k, k ≠ 8 → m28 124 k = m18 124 k := fun k hk => by rw [e28, up2_nk hk]
  have v8 : m28 124 8 = (bk : Int) := by rw [e28, up2_eq]
  have hnN : nN ≤ 6000 := by omega
  refine rr_copy (M0 := m28) (nN := nN) hbk hnN v8 (fun k => by rw [r28 126 (by decide), ← eT]; exact hbT k) (fun OI hcp hrow h128 => ?_) nN 0 m28 (by omega) (fun k hk => by omega) (fun i _ => rfl) (fun k _ => rfl)
  -- the reading begins
  have o124 : ∀ k, OI 124 k = m28 124 k := fun k => by rw [hrow 124 (by decide)]
  have B0 : BasR bk T (nN : Int) OI ML OI ML := by
    refine ⟨by rw [hrow 126 (by decide), r28 126 (by decide), eT], by rw [o124, k28 3 (by decide)]; exact v3, by omega, by rw [o124]; exact v8, hbk, fun k hk => by rw [hcp k (by omega), r28 126 (by decide), eT], ?_⟩
    exact ⟨fun i _ _ => ⟨rfl, rfl⟩, fun k _ => ⟨rfl, rfl⟩, fun i k _ _ _ => ⟨rfl, rfl⟩⟩
  have S0 : StR bk T (nN : Int) OI ML 20000 (.inr 0) OI ML := ⟨B0, by omega, by rw [o124, k28 4 (by decide)]; exact v4.1, by rw [o124, k28 5 (by decide)]; exact v4.2.1, by rw [o124, k28 6 (by decide)]; exact v4.2.2, by omega, by omega⟩
  have FR : ∀ {MI' ML' : Nat → Nat → Int}, BasR bk T (nN : Int) OI ML MI' ML' → frRd bk MI ML MI' ML' := by
    intro MI' ML' hb'
    obtain ⟨f1, f2, f3⟩ := hb'.2.2.2.2.2.2
    refine ⟨fun i h1 h2 => ?_, fun k h1 h2 h3 h4 => ?_, fun i k h1 h2 h3 => ?_⟩
    · have := f1 i h1 (by omega)
      rw [this.1, this.2, hrow i (by omega), r28 i h1, r18 i h1 (by omega)]; exact ⟨rfl, rfl⟩
    · have := f2 k h1
      rw [this.1, this.2, o124, k28 k h4, k18 k (fun z => h1 (Or.inl z)) h2 h3]; exact ⟨rfl, rfl⟩
    · have := f3 i k h1 h2 h3
      rw [this.1, this.2]
      refine ⟨?_, rfl⟩
      by_cases h8 : i = 128
      · subst h8
        rw [show wR 128 = 6000 by decide] at h3
        rw [h128 k (by omega), r28 128 (by decide), r18 128 (by decide) (by decide)]
      · rw [hrow i h8, r28 i (by omega), r18 i (by omega) (by omega)]
  have F1 : ∀ {MI' ML' : Nat → Nat → Int}, BasR bk T (nN : Int) OI ML MI' ML' → MI' 124 1 = 0 := fun hb' => by
    rw [(hb'.2.2.2.2.2.2.2.1 1 (by unfold fldB fldR; omega)).1, o124, k28 1 (by decide)]; exact v1
  have F6 : ∀ {MI' ML' : Nat → Nat → Int}, BasR bk T (nN : Int) OI ML MI' ML' → ∀ k, -128 ≤ MI' 126 k ∧ MI' 126 k < 128 := fun hb' k => by rw [hb'.1]; exact hbT k
  refine v_X12_read_33 ⟨fun z => by omega, fun _ => ?_⟩
  have u8 : OI 124 8 = (bk : Int) := by rw [o124]; exact v8
  rw [u8]
  simp only [Int.toNat_natCast]
  refine ⟨by omega, fun m74 e74 => ?_⟩
  have w1 : m74 124 8 = (bk : Int) := by rw [e74, up2_ne (by decide)]; exact u8
  rw [w1]
  simp only [Int.toNat_natCast]
  refine ⟨by omega, fun m84 e84 => ?_⟩
  have w2 : m84 124 8 = (bk : Int) := by rw [e84, up2_ne (by decide)]; exact w1
  rw [w2]
  simp only [Int.toNat_natCast]
  refine ⟨by omega, fun m94 e94 => ?_⟩
  have w3 : m94 124 8 = (bk : Int) := by rw [e94, up2_ne (by decide)]; exact w2
  rw [w3]
  simp only [Int.toNat_natCast]
  refine ⟨by omega, fun m104 e104 => ?_⟩
  have w4 : m104 124 8 = (bk : Int) := by rw [e104, up2_ne (by decide)]; exact w3
  rw [w4]
  simp only [Int.toNat_natCast]
  refine ⟨by omega, fun m114 e114 => ?_⟩
  have w5 : m114 124 8 = (bk : Int) := by rw [e114, up2_ne (by decide)]; exact w4
  rw [w5]
  simp only [Int.toNat_natCast]
  refine ⟨by omega, fun m124 e124 => ?_⟩
  have w6 : m124 124 8 = (bk : Int) := by rw [e124, up2_ne (by decide)]; exact w5
  rw [w6]
  simp only [Int.toNat_natCast]
  refine ⟨by omega, fun m134 e134 m137 e137 => ?_⟩
  have c1 : ∀ i, (i = 127 ∨ i = 129 ∨ i = 139 ∨ i = 140 ∨ i = 143 ∨ i = 154 ∨ i = 167) → inB bk i bk := fun i h => Or.inr (Or.inr ⟨by omega, by omega, by omega, by
    have : wR i = 1 := by unfold wR; rcases h with z | z | z | z | z | z | z <;> subst z <;> decide
    rw [this]; omega⟩)
  have fX : frX (inB bk) OI ML m137 ML := by
    rw [e137, e134, e124, e114, e104, e94, e84, e74]
    exact frX_tr (frX_tr (frX_tr (frX_tr (frX_tr (frX_tr (frX_tr (frX_upI (c1 129 (by omega))) (frX_upI (c1 139 (by omega)))) (frX_upI (c1 140 (by omega)))) (frX_upI (c1 143 (by omega)))) (frX_upI (c1 154 (by omega)))) (frX_upI (c1 167 (by omega)))) (frX_upI (c1 127 (by omega)))) (frX_upI (Or.inl ⟨rfl, Or.inr rfl⟩))
  have kk : ∀ k, k ≠ 64 → m137 124 k = OI 124 k := fun k hk => by rw [e137, up2_nk hk, e134, up2_ne (by decide), e124, up2_ne (by decide), e114, up2_ne (by decide), e104, up2_ne (by decide), e94, up2_ne (by decide), e84, up2_ne (by decide), e74, up2_ne (by decide)]
  have S1 := StR_frX (fun i k z => z) S0 fX (kk 4 (by decide)) (kk 5 (by decide)) (kk 6 (by decide))
  have g129 : m137 129 bk = ((0 : Nat) : Int) := by rw [e137, up2_ne (by decide), e134, up2_ne (by decide), e124, up2_ne (by decide), e114, up2_ne (by decide), e104, up2_ne (by decide), e94, up2_ne (by decide), e84, up2_ne (by decide), e74, up2_eq]; rfl
  have g139 : m137 139 bk = 0 := by rw [e137, up2_ne (by decide), e134, up2_ne (by decide), e124, up2_ne (by decide), e114, up2_ne (by decide), e104, up2_ne (by decide), e94, up2_ne (by decide), e84, up2_eq]
  have g140 : m137 140 bk = 0 := by rw [e137, up2_ne (by decide), e134, up2_ne (by decide), e124, up2_ne (by decide), e114, up2_ne (by decide), e104, up2_ne (by decide), e94, up2_eq]
  have g143 : m137 143 bk = 0 := by rw [e137, up2_ne (by decide), e134, up2_ne (by decide), e124, up2_ne (by decide), e114, up2_ne (by decide), e104, up2_eq]
  have g154 : m137 154 bk = 0 := by rw [e137, up2_ne (by decide), e134, up2_ne (by decide), e124, up2_ne (by decide), e114, up2_eq]
  have g167 : m137 167 bk = 0 := by rw [e137, up2_ne (by decide), e134, up2_ne (by decide), e124, up2_eq]
  have g127 : m137 127 bk = 0 := by rw [e137, up2_ne (by decide), e134, up2_eq]
  have op0 : OpnR [] m137 := ⟨by rw [e137, up2_eq]; rfl, by simp, fun j y hj => by simp at hj⟩
  refine ux_newNode (pl := 0) (op := []) (len := 0) S1 g129 (by omega) op0 (fun a MI2 ha hlt s2 f2 q124 q138 q139 e129 hnew => rI_mk ?_) (fun f p MI2 hp s2 m2 => by exfalso; rw [pb_r, if_neg (by omega)] at hp; cases hp)
  cases ha
  have TR0 : TreR bk T (nN : Int) 0 (none, [], []) ([(0, -1, [], [], 0, 0)], [], 0) MI2 ML := by
    have rw2 : ∀ i, (i = 127 ∨ (140 ≤ i ∧ i ≤ 173)) → MI2 i = m137 i := fun i hi => (frX_row f2 (fun k => by unfold chA; omega)).1
    refine ⟨⟨?_, ⟨?_, by simp, fun j q hj => by simp at hj⟩, ⟨?_, by simp, fun j q hj => by simp at hj⟩, ⟨?_, fun j q hj => by simp at hj, fun r hr => by simp at hr⟩⟩, ⟨by rw [e129]; rfl, by simp, fun k y hy => ?_⟩, OpnR_fr op0 (by rw [q124]) (rw2 173 (by omega)), by rw [rw2 140 (by omega)]; exact g140, by rw [q139]; exact g139, by omega⟩
    · show MI2 127 bk = 0
      rw [rw2 127 (by omega)]; exact g127
    · rw [rw2 143 (by omega)]; exact g143
    · rw [rw2 154 (by omega)]; exact g154
    · rw [rw2 167 (by omega)]; exact g167
    · cases k with
      | succ k => simp at hy
      | zero =>
        simp only [List.getElem?_cons_zero, Option.some.injEq] at hy
        subst hy
        exact ⟨hnew.1, hnew.2.1, ⟨hnew.2.2.1, fun z => by simp at z⟩, ⟨hnew.2.2.2.1, fun z => by simp at z⟩, hnew.2.2.2.2.1, hnew.2.2.2.2.2⟩
  -- the end of a reading
  have fin : ∀ (l2 : Int) (Dr : Dm) (pl' : Nat) (y : Int) (MI' ML' : Nat → Nat → Int), (pb (mcS T (nN : Int) 0) fun a => pb (dtS T (nN : Int) a) fun q => rdE T (nN : Int) q.1 q.2.1 q.2.2) = .inr Dr → StR bk T (nN : Int) OI ML 20010 (.inr y) MI' ML' → TreR bk T (nN : Int) pl' Dr.1 (Dr.2.1, [], Dr.2.2) MI' ML' → TrV (Dr.2.1, [], Dr.2.2) → wp cs mX12_read KD Q 219 [some (vR 124), some (vI (nN : Nat)), some (vI l2)] [] (KD, MI', ML', GR d e nw th x) := by
    intro l2 Dr pl' y MI' ML' hr s5 R5 V5
    refine v_X12_read_219 (ux_isGood s5 (fun _ _ => rI_mk ⟨fun z => by omega, fun _ m236 e236 m241 e241 m246 e246 m251 e251 => ?_⟩) (fun f q z => by cases z))
    have k8 : MI' 124 8 = (bk : Int) := s5.1.2.2.2.1
    rw [k8] at e236
    exact hT Dr hr T pl' MI' ML' m236 m241 m246 m251 e236 e241 e246 e251 ⟨R5.1, R5.2.1, R5.2.2.2.1, s5.1.2.2.1, s5.1.2.2.2.2.2.1, R5.2.2.2.2.2, hbk⟩ k8 (FR s5.1) (F1 s5.1) s5.2.2.2.2.1 (F6 s5.1) ⟨V5.2, V5.1.2.1⟩
  have finB : ∀ (f p : Int) (MI' ML' : Nat → Nat → Int) (B' : Int), (pb (mcS T (nN : Int) 0) fun a => pb (dtS T (nN : Int) a) fun q => rdE T (nN : Int) q.1 q.2.1 q.2.2) = .inl (f, p) → StR bk T (nN : Int) OI ML B' (.inl (f, p)) MI' ML' → Q (some (vI f)) (MI', ML', GR d e nw th x) := by
    intro f p MI' ML' B' hr s5
    exact hF f p hr MI' ML' (FR s5.1) (F1 s5.1) s5.2.2.2.2.1 (F6 s5.1)
  refine ux_misc s2 (fun MI3 s3 m3 => rV_mk ?_)
  rw [pb_r] at s3
  have R3 := TreR_mvr TR0 m3
  cases hm : mcS T (nN : Int) 0 with
  | inl w =>
    obtain ⟨f, p⟩ := w
    rw [hm] at s3
    rw [hm, pb_l] at finB
    refine ux_isGood s3 (fun _ z => by cases z) (fun _ _ _ => rI_mk ⟨fun _ => ?_, fun z => absurd rfl z⟩)
    refine rr_180 (D := (none, [], [])) (pl := 0) (by omega) hbT RuV_nil s3 (fun a z => by cases z) (fun Dr pl' y MI' z => by rw [pb_l] at z; cases z) (fun f' p' MI' z s' => ?_)
    rw [pb_l] at z
    cases z
    exact finB f p MI' ML _ rfl s'
  | inr a =>
    rw [hm] at s3
    rw [hm, pb_r] at fin finB
    obtain ⟨b1, b2, b3, b4, b5⟩ := s3.2.2
    refine ux_isGood s3 (fun _ _ => rI_mk ⟨fun z => by omega, fun _ => ?_⟩) (fun f q z => by cases z)
    rw [dtS_T] at fin finB
    refine ux_stands2 (m := 1) (by decide) wbl_DOC (by decide) (by decide) s3 (fun hE => rI_mk ⟨fun z => by omega, fun _ => ?_⟩) (fun hE => rI_mk ⟨fun _ => ?_, fun z => absurd rfl z⟩)
    · rw [wbl_E] at hE
      have hE' : stb T (nN : Int) a [60, 33, 68, 79, 67, 84, 89, 80, 69] = true := hE
      have hr := stb_room _ a (by omega) (by decide) (by decide) hE'
      simp only [List.length_cons, List.length_nil] at hr
      have hdt := dtS_T T (nN : Int) a
      rw [if_pos hE'] at fin finB hdt
      refine ux_doctype s3 (by omega) (by omega) R3.1.2.1.1 R3.1.2.2.1.1 R3.1.2.2.2.1 R3.2.2.2.2.1 (fun pl D v MI4 ML4 hd s4 D4 O4 K4 p4 q4 f4 => rV_mk ?_) (fun f p MI4 ML4 hd s4 f4 => rV_mk ?_)
      · rw [hd, pb_r] at fin finB hdt
        simp only at fin finB hdt
        refine ux_misc s4 (fun MI5 s5 m5 => rV_mk ?_)
        rw [pb_r] at s5
        have hV : ∀ u, mcS T (nN : Int) v = .inr u → RuV D.2.2 := fun u hu => by
          rw [hu, pb_r] at hdt
          exact (dtS_ok hbT b4 hdt).2
        have row4 : ∀ i, (129 ≤ i ∧ i ≤ 137) ∨ i = 140 ∨ i = 173 → MI4 i = MI3 i := fun i hi => (frX_row f4 (fun k z => by have := z.2; omega)).1
        have R4 : TreR bk T (nN : Int) pl D ([(0, -1, [], [], 0, 0)], [], 0) MI4 ML4 := by
          refine ⟨D4, ⟨by rw [row4 129 (by omega)]; exact R3.2.1.1, by simp, fun k y hy => ?_⟩, OpnR_fr R3.2.2.1 (f4 124 64 (fun z => by
            rcases z.2 with w | w
            · have := w.2; unfold fldR at this; omega
            · omega)).1 (row4 173 (by omega)), by rw [row4 140 (by omega)]; exact R3.2.2.2.1, p4, q4⟩
          have hA := R3.2.1.2.2 k y hy
          cases k with
          | succ k => simp at hy
          | zero =>
            simp only [List.getElem?_cons_zero, Option.some.injEq] at hy
            subst hy
            obtain ⟨x1, x2, x3, x4, x5, x6⟩ := hA
            exact ⟨by rw [row4 130 (by omega)]; exact x1, by rw [row4 131 (by omega)]; exact x2, ⟨by rw [row4 133 (by omega)]; exact x3.1, fun z => by simp at z⟩, ⟨by rw [row4 135 (by omega)]; exact x4.1, fun z => by simp at z⟩, by rw [row4 136 (by omega)]; exact x5, by rw [row4 137 (by omega)]; exact x6⟩
        have R5 := TreR_mvr R4 m5
        cases hu : mcS T (nN : Int) v with
        | inl w =>
          obtain ⟨f, p⟩ := w
          rw [hu] at s5
          rw [hu, pb_l, pb_l] at finB
          refine rr_180 (D := (none, [], [])) (pl := 0) (by omega) hbT RuV_nil s5 (fun a z => by cases z) (fun Dr pl' y MI' z => by rw [pb_l] at z; cases z) (fun f' p' MI' z s' => ?_)
          rw [pb_l] at z
          cases z
          exact finB f p MI' ML4 _ rfl s'
        | inr u =>
          rw [hu] at s5
          rw [hu, pb_r, pb_r] at fin finB
          exact rr_180 (D := D) (pl := pl) (by omega) hbT (hV u hu) s5 (fun a z => R5) (fun Dr pl' y MI' z s' R' e' V' => fin _ Dr pl' y MI' ML4 (by rw [pb_r] at z; exact z) (StR_Bg s' (by omega)) R' V') (fun f p MI' z s' => finB f p MI' ML4 _ (by rw [pb_r] at z; exact z) s')
      · rw [hd, pb_l, pb_l] at finB
        refine ux_misc s4 (fun MI5 s5 m5 => rV_mk ?_)
        rw [pb_l] at s5
        refine rr_180 (D := (none, [], [])) (pl := 0) (by omega) hbT RuV_nil s5 (fun a z => by cases z) (fun Dr pl' y MI' z => by rw [pb_l] at z; cases z) (fun f' p' MI' z s' => ?_)
        rw [pb_l] at z
        cases z
        exact finB f p MI' ML4 _ rfl s'
    · rw [wbl_E] at hE
      have hE' : ¬ stb T (nN : Int) a [60, 33, 68, 79, 67, 84, 89, 80, 69] = true := by intro z; rw [show stb T (nN : Int) a [60, 33, 68, 79, 67, 84, 89, 80, 69] = false from hE] at z; cases z
      rw [if_neg hE', pb_r] at fin finB
      exact rr_180 (D := (none, [], [])) (pl := 0) (by omega) hbT RuV_nil s3 (fun a z => R3) (fun Dr pl' y MI' z s' R' e' V' => fin _ Dr pl' y MI' ML (by rw [pb_r] at z; exact z) (StR_Bg s' (by omega)) R' V') (fun f p MI' z s' => finB f p MI' ML _ (by rw [pb_r] at z; exact z) s')
end Pa04
