/-! The reference's GROUPS. -/
theorem grF_sk {T : Nat → Int} {n h : Int} {k : Nat} {p : Pl} {g : Gp} {t : List Gp} : grF T n (k + 1) true p (g :: t) (sk T n h) = grF T n (k + 1) true p (g :: t) h := by rw [grF, grF, sk_sk]
theorem cmG_begun (p : Pl) (q : Pt) (g : Gp) : (cmG p q g).2.2.1 = true := by unfold cmG; split; rfl; split <;> rfl
section P88
variable {cs : Cs} {Q : Option AV → Mm → Prop} {MI ML OI OL : Nat → Nat → Int} {bk d e nw th x dI : Nat} {T : Nat → Int} {n B : Int} {s : PR Int} {p : Pl} {pt : Pt}
theorem rg_end (hd : 30 * bk ≤ dI ∧ dI < 30 * bk + 30) {l2 l3 : Int} {MI0 ML0 : Nat → Nat → Int} (hs : StR bk T n OI OL B s MI ML) (h59 : MI 124 59 = 0 ∨ MI 124 59 = 1) (hf : frS dI MI0 ML0 MI ML)
    (hQ : ∀ MI' ML', StR bk T n OI OL B s MI' ML' → frS dI MI0 ML0 MI' ML' → MI' 152 dI = MI 124 59 → ML' 150 dI = ML 124 60 → ML' 151 dI = ML 124 61 → (∀ i, i ≠ 152 → MI' i = MI i) → (∀ i, i ≠ 150 → i ≠ 151 → ML' i = ML i) → Q none (MI', ML', GR d e nw th x)) :
    wp cs mX12_group KD Q 288 [some (vR 124), some (vI (dI : Nat)), some (vI l2), some (vI l3), none] [] (KD, MI, ML, GR d e nw th x) := by
  have a5 := hs.1.2.2.2.2.1
  refine v_X12_group_288 ⟨by omega, ?_⟩
  simp only [Int.toNat_natCast]
  intro n297 f297 n307 f307
  refine ⟨h59, fun m317 e317 => ?_⟩
  have q61 : n297 124 61 = ML 124 61 := by rw [f297, up2_ne (by decide)]
  rw [q61] at f307
  have fS : frS dI MI ML m317 n307 := by rw [e317, f307, f297]; exact frS_tr (frS_tr (frS_upL (Or.inr (Or.inr (Or.inl ⟨by omega, rfl⟩)))) (frS_upL (Or.inr (Or.inr (Or.inl ⟨by omega, rfl⟩))))) (frS_upI (Or.inr (Or.inr (Or.inl ⟨by omega, rfl⟩))))
  have r : ∀ i, i ≠ 152 → m317 i = MI i := fun i hi => by rw [e317]; funext k; exact up2_ne hi k
  exact hQ m317 n307 (StR_frS hd hs fS (by rw [r 124 (by decide)]) (by rw [r 124 (by decide)]) (by rw [r 124 (by decide)])) (frS_tr hf fS) (by rw [e317, up2_eq]) (by rw [f307, up2_ne (by decide), f297, up2_eq]) (by rw [f307, up2_eq]) r (fun i h1 h2 => by rw [f307, f297]; funext k; rw [up2_ne h2, up2_ne h1])
theorem c_rgroup_l (hd : 30 * bk ≤ dI ∧ dI < 30 * bk + 30) {MI0 ML0 : Nat → Nat → Int} : ∀ (k : Nat) (w : Bool) (p : Pl) (g : Gp) (t : List Gp) (a : Int) (MI ML : Nat → Nat → Int), StR bk T n OI OL B (.inr a) MI ML → PlR bk T n dI p MI ML → GrRF MI ML (g :: t) → t.length ≤ 5 → (w = true → sk T n a = a) → (w = false → g.2.1 = true ∧ (MI 124 59 = 0 ∨ MI 124 59 = 1)) → frS dI MI0 ML0 MI ML → MI 146 dI = 3 → (n - a).toNat < k →
    (∀ p' pt y MI' ML', grF T n k w p (g :: t) a = .inr (p', pt, y) → StR bk T n OI OL B (.inr y) MI' ML' → PlR bk T n dI p' MI' ML' → MI' 152 dI = pt.1 → ML' 150 dI = pt.2.1 → ML' 151 dI = pt.2.2 → frS dI MI0 ML0 MI' ML' → MI' 146 dI = 3 → Q none (MI', ML', GR d e nw th x)) →
    (∀ f q MI' ML', grF T n k w p (g :: t) a = .inl (f, q) → StR bk T n OI OL B (.inl (f, q)) MI' ML' → frS dI MI0 ML0 MI' ML' → Q none (MI', ML', GR d e nw th x)) →
    wp cs mX12_group KD Q 16 [some (vR 124), some (vI (dI : Nat)), some (vI (t.length : Nat)), some (vI (cond w 1 0)), none] [] (KD, MI, ML, GR d e nw th x) := by
  intro k
  induction k with
  | zero => intro w p g t a MI ML hs hP hG ht hw1 hw0 hf h3 hk; omega
  | succ k ih =>
    intro w p g t a MI ML hs hP hG ht hw1 hw0 hf h3 hk hT hF
    obtain ⟨b1, b2, b3, b4, b5⟩ := hs.2.2
    have a5 := hs.1.2.2.2.2.1
    have hn := hs.1.2.2.1
    have bad : ∀ (f q l2 l3 : Int) (MI1 ML1 : Nat → Nat → Int), StR bk T n OI OL B (.inl (f, q)) MI1 ML1 → (MI1 124 59 = 0 ∨ MI1 124 59 = 1) → frS dI MI0 ML0 MI1 ML1 → (∀ MI' ML', StR bk T n OI OL B (.inl (f, q)) MI' ML' → frS dI MI0 ML0 MI' ML' → Q none (MI', ML', GR d e nw th x)) → wp cs mX12_group KD Q 16 [some (vR 124), some (vI (dI : Nat)), some (vI l2), some (vI l3), none] [] (KD, MI1, ML1, GR d e nw th x) := by
      intro f q l2 l3 MI1 ML1 s1 h59 f1 hq
      refine v_X12_group_16 (ux_isGood s1 (fun _ z => by cases z) (fun f' q' z => rI_mk ⟨fun _ => ?_, fun z => absurd rfl z⟩))
      exact rg_end hd s1 h59 f1 (fun MI' ML' s' f' _ _ _ _ _ => hq MI' ML' s' f')
    cases w with
    | true =>
      have ha := hw1 rfl
      rw [grF, ha] at hT hF
      refine v_X12_group_16 (ux_isGood hs (fun _ z => rI_mk ⟨fun z => by omega, fun _ => ⟨fun z => by omega, fun _ => ⟨fun z => absurd z (by decide), fun _ => ?_⟩⟩⟩) (fun f q z => by cases z))
      rw [b1]
      refine ux_octet hs b4 (rI_mk ⟨fun h40 => ⟨fun h5 => ?_, fun h5 => ⟨by omega, ?_⟩⟩, fun h40 => ?_⟩)
      · rw [if_pos h40, if_pos (by simp only [List.length_cons]; omega)] at hF
        rw [b1]
        exact ux_fail (by decide) hs (fun MI1 s1 m1 => rV_mk (hF (-3) a MI1 ML rfl s1 (frS_tr hf (frS_mvr m1))))
      · rw [if_pos h40, if_neg (by simp only [List.length_cons]; omega)] at hT hF
        have hlt := ob_lt (c := 40) (by decide) h40
        rw [b1]
        intro m67 e67
        obtain ⟨s1, m1⟩ := StR_at hs e67 (by omega)
        refine ux_maybeS s1 (fun MI2 s2 m2 _ _ => rV_mk ⟨by omega, ?_⟩)
        rw [pb_r] at s2
        have m12 := mvr_tr m1 m2
        refine v_X12_openGroup_0 ⟨by omega, ?_⟩
        have e1 : (((t.length : Nat) : Int) + 1).toNat = (g :: t).length := by simp only [List.length_cons]; omega
        rw [e1]
        intro m6 e6 m13 e13
        refine rV_mk ?_
        rw [show ((t.length : Nat) : Int) + 1 = (((g :: t).length : Nat) : Int) by simp]
        have fS : frS dI MI2 ML m13 ML := by rw [e13, e6]; exact frS_tr (frS_upI (Or.inr (Or.inl (by omega)))) (frS_upI (Or.inr (Or.inl (by omega))))
        have r : ∀ i, i ≠ 168 → i ≠ 169 → m13 i = MI2 i := fun i h1 h2 => by rw [e13, e6]; funext k; rw [up2_ne h2, up2_ne h1]
        have s3 := StR_frS hd s2 fS (by rw [r 124 (by decide) (by decide)]) (by rw [r 124 (by decide) (by decide)]) (by rw [r 124 (by decide) (by decide)])
        have hsk := sk_le T n (a + 1)
        have hsb := s3.2.2.2.2.2
        obtain ⟨k', rfl⟩ : ∃ k', k = k' + 1 := ⟨k - 1, by omega⟩
        rw [← grF_sk] at hT hF
        refine ih true p (0, false, 0, 0, 0) (g :: t) (sk T n (a + 1)) m13 ML s3 (PlR_fr (PlR_mvr hP m12) (r 147 (by decide) (by decide)) (r 148 (by decide) (by decide)) (r 149 (by decide) (by decide)) rfl) ⟨⟨?_, ?_, fun z => by cases z⟩, GrRF_fr (GrRF_mvr hG m12) (fun i hi => ⟨?_, ?_, ?_, rfl, rfl⟩)⟩ (by simp only [List.length_cons]; omega) (fun _ => sk_sk T n _) (fun z => by cases z) (frS_tr hf (frS_tr (frS_mvr m12) fS)) (by rw [r 146 (by decide) (by decide), m12.1 146 (by decide)]; exact h3) (by omega) hT hF
        · rw [e13, up2_ne (by decide), e6, up2_eq]
        · rw [e13, up2_eq]; simp
        · rw [e13, up2_ne (by decide), e6, up2_nk (by omega)]
        · rw [e13, up2_nk (by omega), e6, up2_ne (by decide)]
        · rw [r 170 (by decide) (by decide)]
      · rw [if_neg h40] at hT hF
        refine v_X12_group_85 ⟨fun z => absurd z (by decide), fun _ => ?_⟩
        have cF : ∀ {k : Nat}, (k = 59 ∨ k = 60 ∨ k = 61) → chS dI 124 k := fun h => Or.inl ⟨rfl, by unfold fldR; omega⟩
        refine ux_specName hd hs hP (fun p' y MI1 ML1 hy s1 p1 f1 g1 h1 => rI_mk ?_) (fun f q MI1 hy s1 m1 => rI_mk ?_)
        · intro m98 e98 n106 f106 n114 f114
          have hy1 := plS_le hy
          rw [hy, pb_r] at hT hF
          have fS : frS dI MI1 ML1 m98 n114 := by rw [e98, f114, f106]; exact frS_tr (frS_upI (cF (by omega))) (frS_tr (frS_upL (cF (by omega))) (frS_upL (cF (by omega))))
          have r : ∀ i, i ≠ 124 → m98 i = MI1 i ∧ n114 i = ML1 i := fun i hi => ⟨by rw [e98]; funext k; rw [up2_ne hi], by rw [f114, f106]; funext k; rw [up2_ne hi, up2_ne hi]⟩
          have s2 := StR_frS hd s1 fS (by rw [e98, up2_nk (by decide)]) (by rw [e98, up2_nk (by decide)]) (by rw [e98, up2_nk (by decide)])
          have p2 := PlR_fr p1 (r 147 (by decide)).1 (r 148 (by decide)).1 (r 149 (by decide)).1 (r 153 (by decide)).2
          have t2 : PtR (0, l_shl 1 ((p.1.length : Nat) : Int), l_shl 1 ((p.1.length : Nat) : Int)) m98 n114 := ⟨by rw [e98, up2_eq], Or.inl rfl, by rw [f114, up2_nk (by decide), f106, up2_eq], by rw [f114, up2_eq]⟩
          have g2 : GrRF m98 n114 (g :: t) := GrRF_fr hG (fun i _ => ⟨by rw [(r 168 (by decide)).1, (g1 168 (by omega)).1], by rw [(r 169 (by decide)).1, (g1 169 (by omega)).1], by rw [(r 170 (by decide)).1, (g1 170 (by omega)).1], by rw [(r 171 (by decide)).2, (g1 171 (by omega)).2], by rw [(r 172 (by decide)).2, (g1 172 (by omega)).2]⟩)
          refine ux_mark_g hd s2 p2 t2 (fun MI3 ML3 s3 p3 t3 f3 g3 h3' => rV_mk ?_)
          have g4 : GrRF MI3 ML3 (g :: t) := GrRF_fr g2 (fun i _ => ⟨by rw [(g3 168 (by omega)).1], by rw [(g3 169 (by omega)).1], by rw [(g3 170 (by omega)).1], by rw [(g3 171 (by omega)).2], by rw [(g3 172 (by omega)).2]⟩)
          refine c_comes (by omega) (by omega) p3 g4 t3 (fun MI4 ML4 p4 gg4 f4 z1 z2 z3 => rV_mk ?_)
          have s5 := StR_frS hd s3 f4 (by rw [z1]) (by rw [z1]) (by rw [z1])
          have hmk := mkS_h (T := T) (n := n) (h := y) p' (0, l_shl 1 ((p.1.length : Nat) : Int), l_shl 1 ((p.1.length : Nat) : Int))
          have hsb := s5.2.2.2.2.2
          exact ih false _ _ t _ MI4 ML4 s5 p4 gg4 ht (fun z => by cases z) (fun _ => ⟨cmG_begun _ _ _, by rw [z1, t3.1]; exact t3.2.1⟩) (frS_tr hf (frS_tr f1 (frS_tr fS (frS_tr f3 f4)))) (by rw [z3, h3', (r 146 (by decide)).1, h1]; exact h3) (by omega) hT hF
        · intro m98 e98 n106 f106 n114 f114
          have fS : frS dI MI1 ML m98 n114 := by rw [e98, f114, f106]; exact frS_tr (frS_upI (cF (by omega))) (frS_tr (frS_upL (cF (by omega))) (frS_upL (cF (by omega))))
          have r : ∀ i, i ≠ 124 → m98 i = MI1 i ∧ n114 i = ML i := fun i hi => ⟨by rw [e98]; funext k; rw [up2_ne hi], by rw [f114, f106]; funext k; rw [up2_ne hi, up2_ne hi]⟩
          have s2 := StR_frS hd s1 fS (by rw [e98, up2_nk (by decide)]) (by rw [e98, up2_nk (by decide)]) (by rw [e98, up2_nk (by decide)])
          have p2 := PlR_fr (PlR_mvr hP m1) (r 147 (by decide)).1 (r 148 (by decide)).1 (r 149 (by decide)).1 (r 153 (by decide)).2
          have t2 : PtR (0, l_shl 1 0, l_shl 1 0) m98 n114 := ⟨by rw [e98, up2_eq], Or.inl rfl, by rw [f114, up2_nk (by decide), f106, up2_eq], by rw [f114, up2_eq]⟩
          have g2 : GrRF m98 n114 (g :: t) := GrRF_fr (GrRF_mvr hG m1) (fun i _ => ⟨by rw [(r 168 (by decide)).1], by rw [(r 169 (by decide)).1], by rw [(r 170 (by decide)).1], by rw [(r 171 (by decide)).2], by rw [(r 172 (by decide)).2]⟩)
          refine ux_mark_b s2 (rV_mk ?_)
          refine c_comes (by omega) (by omega) p2 g2 t2 (fun MI4 ML4 p4 gg4 f4 z1 z2 z3 => rV_mk ?_)
          have s5 := StR_frS hd s2 f4 (by rw [z1]) (by rw [z1]) (by rw [z1])
          exact bad f q _ 0 MI4 ML4 s5 (by rw [z1, t2.1]; exact t2.2.1) (frS_tr hf (frS_tr (frS_mvr m1) (frS_tr fS f4))) (fun MI' ML' s' f' => hF f q MI' ML' (by rw [hy]; rfl) s' f')
    | false =>
      obtain ⟨hbg, h59⟩ := hw0 rfl
      have hga := hG.1
      obtain ⟨c1, c2, c3, c4⟩ := hga.2.2 hbg
      refine v_X12_group_16 (ux_isGood hs (fun _ z => rI_mk ⟨fun z => by omega, fun _ => ⟨fun z => by omega, fun _ => ⟨fun _ => ?_, fun z => absurd rfl z⟩⟩⟩) (fun f q z => by cases z))
      refine v_X12_group_85 ⟨fun _ => ?_, fun z => absurd rfl z⟩
      refine ux_maybeS hs (fun MI1 s1 m1 _ _ => rV_mk ?_)
      rw [pb_r] at s1
      obtain ⟨q1, q2, q3, q4, q5⟩ := s1.2.2
      have hsk := sk_le T n a
      have g1 := GrRF_mvr hG m1
      have p1 := PlR_mvr hP m1
      have h591 : MI1 124 59 = 0 ∨ MI1 124 59 = 1 := by rw [m1.2 59 (by decide) (by decide) (by decide) (by decide) (by decide)]; exact h59
      rw [q1]
      -- a failure here
      have fail41 : grF T n (k + 1) false p (g :: t) a = .inl (-1, sk T n a) → wp cs mX12_fail KD (rV (GR d e nw th x) fun m282 n282 => wp cs mX12_group KD Q 16 [some (vR 124), some (vI (dI : Nat)), some (vI (t.length : Nat)), some (vI 0), none] [] (KD, m282, n282, (GR d e nw th x))) 0 (padL [vR 124, vI (-1), vI (sk T n a)] 3) [] (KD, MI1, ML, (GR d e nw th x)) := by
        intro hg
        refine ux_fail (by decide) s1 (fun MI2 s2 m2 => rV_mk ?_)
        exact bad (-1) (sk T n a) _ 0 MI2 ML s2 (by rw [m2.2 59 (by decide) (by decide) (by decide) (by decide) (by decide)]; exact h591) (frS_tr hf (frS_mvr (mvr_tr m1 m2))) (fun MI' ML' s' f' => hF (-1) (sk T n a) MI' ML' hg s' f')
      refine ux_octet s1 q4 (rI_mk ⟨fun h41 => ⟨by omega, ?_⟩, fun h41 => ?_⟩)
      · have hlt := ob_lt (c := 41) (by decide) h41
        rw [q1]
        intro m161 e161
        obtain ⟨s2, m2⟩ := StR_at s1 e161 (by omega)
        have g2 := GrRF_mvr g1 m2
        refine ⟨by omega, ?_⟩
        simp only [Int.toNat_natCast]
        have k170 : m161 170 t.length = g.2.2.1 := (g2.1.2.2 hbg).1
        have k171 : ML 171 t.length = g.2.2.2.1 := c3
        have k172 : ML 172 t.length = g.2.2.2.2 := c4
        rw [k170]
        refine ⟨c2, ?_⟩
        intro m171 e171 n181 f181 n191 f191
        have w172 : n181 172 t.length = g.2.2.2.2 := by rw [f181, up2_ne (by decide)]; exact k172
        rw [w172] at f191
        rw [k171] at f181
        refine ⟨by omega, ?_⟩
        have cF : ∀ {k : Nat}, (k = 59 ∨ k = 60 ∨ k = 61) → chS dI 124 k := fun h => Or.inl ⟨rfl, by unfold fldR; omega⟩
        have fS : frS dI m161 ML m171 n191 := by rw [e171, f191, f181]; exact frS_tr (frS_upI (cF (by omega))) (frS_tr (frS_upL (cF (by omega))) (frS_upL (cF (by omega))))
        have r : ∀ i, i ≠ 124 → m171 i = m161 i ∧ n191 i = ML i := fun i hi => ⟨by rw [e171]; funext k; rw [up2_ne hi], by rw [f191, f181]; funext k; rw [up2_ne hi, up2_ne hi]⟩
        have s3 := StR_frS hd s2 fS (by rw [e171, up2_nk (by decide)]) (by rw [e171, up2_nk (by decide)]) (by rw [e171, up2_nk (by decide)])
        have p3 := PlR_fr (PlR_mvr p1 m2) (r 147 (by decide)).1 (r 148 (by decide)).1 (r 149 (by decide)).1 (r 153 (by decide)).2
        have t3 : PtR g.2.2 m171 n191 := ⟨by rw [e171, up2_eq], c2, by rw [f191, up2_nk (by decide), f181, up2_eq], by rw [f191, up2_eq]⟩
        have g3 : GrRF m171 n191 (g :: t) := GrRF_fr g2 (fun i _ => ⟨by rw [(r 168 (by decide)).1], by rw [(r 169 (by decide)).1], by rw [(r 170 (by decide)).1], by rw [(r 171 (by decide)).2], by rw [(r 172 (by decide)).2]⟩)
        refine ux_mark_g hd s3 p3 t3 (fun MI4 ML4 s4 p4 t4 f4 g4 h4 => rV_mk ?_)
        have gg : GrRF MI4 ML4 (g :: t) := GrRF_fr g3 (fun i _ => ⟨by rw [(g4 168 (by omega)).1], by rw [(g4 169 (by omega)).1], by rw [(g4 170 (by omega)).1], by rw [(g4 171 (by omega)).2], by rw [(g4 172 (by omega)).2]⟩)
        have fA : frS dI MI0 ML0 MI4 ML4 := frS_tr hf (frS_tr (frS_mvr (mvr_tr m1 m2)) (frS_tr fS f4))
        have h146 : MI4 146 dI = 3 := by rw [h4, (r 146 (by decide)).1, m2.1 146 (by decide), m1.1 146 (by decide)]; exact h3
        cases t with
        | nil =>
          rw [grF, if_pos h41] at hT
          refine ⟨fun _ => ?_, fun z => by simp at z⟩
          refine v_X12_group_16 (ux_isGood s4 (fun _ z => rI_mk ⟨fun z => by omega, fun _ => ⟨fun _ => ?_, fun z => by simp at z⟩⟩) (fun f q z => by cases z))
          refine rg_end hd s4 (by rw [t4.1]; exact t4.2.1) fA (fun MI' ML' s' f' w1 w2 w3 w4 w5 => ?_)
          exact hT _ _ _ MI' ML' rfl s' (PlR_fr p4 (w4 147 (by decide)) (w4 148 (by decide)) (w4 149 (by decide)) (w5 153 (by decide) (by decide))) (by rw [w1]; exact t4.1) (by rw [w2]; exact t4.2.2.1) (by rw [w3]; exact t4.2.2.2) f' (by rw [w4 146 (by decide)]; exact h146)
        | cons g' u =>
          rw [grF, if_pos h41] at hT hF
          refine ⟨fun z => by simp only [List.length_cons] at z; omega, fun _ => ?_⟩
          rw [show (((g' :: u).length : Nat) : Int) + (-1) = ((u.length : Nat) : Int) by simp only [List.length_cons]; omega]
          simp only [List.length_cons] at ht
          refine c_comes (by omega) (by omega) p4 gg.2 t4 (fun MI5 ML5 p5 gg5 f5 z1 z2 z3 => rV_mk ?_)
          have s5 := StR_frS hd s4 f5 (by rw [z1]) (by rw [z1]) (by rw [z1])
          have hmk := mkS_h (T := T) (n := n) (h := sk T n a + 1) p g.2.2
          have hsb := s5.2.2.2.2.2
          exact ih false _ _ u _ MI5 ML5 s5 p5 gg5 (by omega) (fun z => by cases z) (fun _ => ⟨cmG_begun _ _ _, by rw [z1, t4.1]; exact t4.2.1⟩) (frS_tr fA f5) (by rw [z3]; exact h146) (by omega) hT hF
      · -- a sign
        have sign : ∀ c, ob T n (sk T n a) = c → (c = 124 ∨ c = 44) → wp cs mX12_group KD Q 229 [some (vR 124), some (vI (dI : Nat)), some (vI (t.length : Nat)), some (vI 0), some (vI (ob T n (sk T n a)))] [] (KD, MI1, ML, GR d e nw th x) := by
          intro c hc hcc
          rw [hc]
          have hlt := ob_lt (c := c) (by omega) hc
          refine v_X12_group_229 ⟨by omega, ?_⟩
          simp only [Int.toNat_natCast]
          have k168 : MI1 168 t.length = g.1 := g1.1.1
          rw [k168, q1]
          have go : (g.1 = 0 ∨ g.1 = c) → ∀ m256, m256 = up2 MI1 168 t.length c → (-2147483648 ≤ (m256 124 4) + 1 ∧ (m256 124 4) + 1 < 2147483648) ∧ ∀ m264, m264 = up2 m256 124 4 ((m256 124 4) + 1) → wp cs mX12_maybeS KD (rV (GR d e nw th x) fun m268 n268 => wp cs mX12_group KD Q 16 [some (vR 124), some (vI (dI : Nat)), some (vI (t.length : Nat)), some (vI 1), none] [] (KD, m268, n268, (GR d e nw th x))) 0 (padL [vR 124] 1) [] (KD, m264, ML, (GR d e nw th x)) := by
            intro hgc m256 e256
            rw [grF, if_neg h41, if_pos ⟨by omega, by omega⟩, hc] at hT hF
            have r : ∀ i, i ≠ 168 → m256 i = MI1 i := fun i hi => by rw [e256]; funext k; rw [up2_ne hi]
            have q124 : m256 124 4 = sk T n a := by rw [r 124 (by decide)]; exact q1
            rw [q124]
            refine ⟨by omega, ?_⟩
            intro m264 e264
            have fS : frS dI MI1 ML m256 ML := by rw [e256]; exact frS_upI (Or.inr (Or.inl (by omega)))
            have s2 := StR_frS hd s1 fS (by rw [r 124 (by decide)]) (by rw [r 124 (by decide)]) (by rw [r 124 (by decide)])
            obtain ⟨s3, m3⟩ := StR_at s2 e264 (by omega)
            refine ux_maybeS s3 (fun MI4 s4 m4 _ _ => rV_mk ?_)
            rw [pb_r] at s4
            have m34 := mvr_tr m3 m4
            have hsk2 := sk_le T n (sk T n a + 1)
            have hsb := s4.2.2.2.2.2
            obtain ⟨k', rfl⟩ : ∃ k', k = k' + 1 := ⟨k - 1, by omega⟩
            rw [← grF_sk] at hT hF
            refine ih true p (c, g.2) t (sk T n (sk T n a + 1)) MI4 ML s4 (PlR_mvr (PlR_fr p1 (r 147 (by decide)) (r 148 (by decide)) (r 149 (by decide)) rfl) m34) (GrRF_mvr ⟨⟨?_, ?_, ?_⟩, GrRF_fr g1.2 (fun i hi => ⟨?_, ?_, ?_, rfl, rfl⟩)⟩ m34) ht (fun _ => sk_sk T n _) (fun z => by cases z) (frS_tr hf (frS_tr (frS_mvr m1) (frS_tr fS (frS_mvr m34)))) (by rw [m34.1 146 (by decide), r 146 (by decide), m1.1 146 (by decide)]; exact h3) (by omega) hT hF
            · rw [e256, up2_eq]
            · rw [r 169 (by decide)]; exact g1.1.2.1
            · rw [r 170 (by decide)]; exact g1.1.2.2
            · rw [e256, up2_nk (by omega)]
            · rw [r 169 (by decide)]
            · rw [r 170 (by decide)]
          refine ⟨fun z => go (Or.inl z), fun z0 => ⟨fun z => go (Or.inr z), fun z => fail41 ?_⟩⟩
          rw [grF, if_neg h41, if_neg (fun w => w.2.elim z0 (fun w2 => z (by rw [w2, hc])))]
        refine ⟨fun h => sign 124 h (by omega), fun h1 => ⟨fun h => sign 44 h (by omega), fun h2 => ?_⟩⟩
        rw [q1]
        refine fail41 ?_
        rw [grF, if_neg h41, if_neg (fun w => w.1.elim h1 h2)]
end P88
