section P87
variable {cs : Cs} {Q : Option AV → Mm → Prop} {MI ML OI OL : Nat → Nat → Int} {bk d e nw th x dI : Nat} {T : Nat → Int} {n B : Int} {s : PR Int} {p : Pl} {pt : Pt}
/-- at is set, in a good state -/
theorem StR_at {m : Nat → Nat → Int} {a y : Int} (hs : StR bk T n OI OL B (.inr a) MI ML) (em : m = up2 MI 124 4 y) (hy : 0 ≤ y ∧ y ≤ n) : StR bk T n OI OL B (.inr y) m ML ∧ mvr MI m := by
  have hm : mvr MI m := by rw [em]; exact ⟨fun i hi => funext fun k => up2_ne hi k, fun k h1 _ _ _ _ => up2_nk h1 _⟩
  have f : ∀ k, k ≠ 4 → m 124 k = MI 124 k := fun k hk => by rw [em]; exact up2_nk hk _
  obtain ⟨b1, b2, b3, b4, b5⟩ := hs.2.2
  exact ⟨⟨BasR_mvr hs.1 hm, hs.2.1, by rw [em]; exact up2_eq, by rw [f 5 (by decide)]; exact b2, by rw [f 6 (by decide)]; exact b3, hy.1, hy.2⟩, hm⟩
theorem PlR_mvr {MI' : Nat → Nat → Int} (h : PlR bk T n dI p MI ML) (hm : mvr MI MI') : PlR bk T n dI p MI' ML := PlR_fr h (hm.1 147 (by decide)) (hm.1 148 (by decide)) (hm.1 149 (by decide)) rfl
theorem GrRF_mvr {gs : List Gp} {MI' : Nat → Nat → Int} (h : GrRF MI ML gs) (hm : mvr MI MI') : GrRF MI' ML gs := GrRF_fr h (fun i _ => ⟨by rw [hm.1 168 (by decide)], by rw [hm.1 169 (by decide)], by rw [hm.1 170 (by decide)], rfl, rfl⟩)
theorem PtR_mvr {MI' : Nat → Nat → Int} (h : PtR pt MI ML) (hm : mvr MI MI') : PtR pt MI' ML := ⟨by rw [hm.2 59 (by decide) (by decide) (by decide) (by decide) (by decide)]; exact h.1, h.2⟩
theorem ux_specName {a : Int} (hd : 30 * bk ≤ dI ∧ dI < 30 * bk + 30) (hs : StR bk T n OI OL B (.inr a) MI ML) (hP : PlR bk T n dI p MI ML)
    (hT : ∀ p' y MI' ML', plS T n p a = .inr (p', y) → StR bk T n OI OL B (.inr y) MI' ML' → PlR bk T n dI p' MI' ML' → frS dI MI ML MI' ML' → (∀ i, 168 ≤ i ∧ i ≤ 172 → MI' i = MI i ∧ ML' i = ML i) → MI' 146 = MI 146 → Q (some (vI (p.1.length : Nat))) (MI', ML', GR d e nw th x))
    (hF : ∀ f q MI', plS T n p a = .inl (f, q) → StR bk T n OI OL B (.inl (f, q)) MI' ML → mvr MI MI' → Q (some (vI 0)) (MI', ML, GR d e nw th x)) :
    wp cs mX12_specName KD Q 0 (padL [vR 124, vI (dI : Nat)] 4) [] (KD, MI, ML, GR d e nw th x) := by
  have a5 := hs.1.2.2.2.2.1
  have hn6 := hs.1.2.2.1
  unfold plS at hT hF
  refine v_X12_specName_0 (ux_takeName hs (fun a' y MI1 ea hy s1 m1 e51 => rI_mk ?_) (fun f q g MI1 hy hg s1 m1 => rI_mk ?_))
  · cases ea
    have hb := hs.2.2.2.2.2
    have hy1 := nmS_ok hy
    rw [hy, pb_r] at hT hF
    have p1 := PlR_mvr hP m1
    refine ux_isGood s1 (fun _ z => rI_mk ⟨fun z => by omega, fun _ => ⟨by omega, ?_⟩⟩) (fun f q z => by cases z)
    simp only [Int.toNat_natCast]
    rw [p1.1]
    refine ⟨fun h40 => ?_, fun h40 => ?_⟩
    · rw [if_pos (by omega)] at hF
      refine ux_fail (by decide) s1 (fun MI2 s2 m2 => rV_mk ?_)
      refine v_X12_specName_30 (ux_isGood s2 (fun _ z => by cases z) (fun f q z => rI_mk ⟨fun _ => hF (-3) a MI2 rfl s2 (mvr_tr m1 m2), fun z => absurd rfl z⟩))
    · have hlt : ¬ 40 ≤ p.1.length := by have := p1.2.1; omega
      rw [if_neg hlt] at hT
      refine v_X12_specName_30 (ux_isGood s1 (fun _ z => rI_mk ⟨fun z => by omega, fun _ => ⟨by omega, by omega, ?_⟩⟩) (fun f q z => by cases z))
      simp only [Int.toNat_natCast]
      have e8 : MI1 124 8 = (bk : Int) := s1.1.2.2.2.1
      rw [p1.1, e8]
      refine ⟨by omega, by omega, by omega, by omega, ?_⟩
      have e40 : (40 * ((dI : Nat) : Int) + ((p.1.length : Nat) : Int)).toNat = 40 * dI + p.1.length := by omega
      rw [e40]
      intro m66 e66
      have q51 : m66 124 51 = y - a := by rw [e66, up2_ne (by decide)]; exact e51
      rw [q51]
      intro m81 e81 n93 f93
      have q147 : m81 147 dI = (p.1.length : Nat) := by rw [e81, e66, up2_ne (by decide), up2_ne (by decide)]; exact p1.1
      rw [q147]
      refine ⟨by omega, ?_⟩
      intro m103 e103
      have c1 : chS dI 148 (40 * dI + p.1.length) := Or.inr (Or.inr (Or.inr ⟨by omega, by omega, by omega⟩))
      have c2 : chS dI 149 (40 * dI + p.1.length) := Or.inr (Or.inr (Or.inr ⟨by omega, by omega, by omega⟩))
      have c3 : chS dI 153 (40 * dI + p.1.length) := Or.inr (Or.inr (Or.inr ⟨by omega, by omega, by omega⟩))
      have c4 : chS dI 147 dI := Or.inr (Or.inr (Or.inl ⟨by omega, rfl⟩))
      have fS : frS dI MI1 ML m103 n93 := by rw [e103, e81, e66, f93]; exact frS_tr (frS_tr (frS_tr (frS_upI c1) (frS_upI c2)) (frS_upL c3)) (frS_upI c4)
      have f124 : m103 124 = MI1 124 := by rw [e103, e81, e66]; funext k; rw [up2_ne (by decide), up2_ne (by decide), up2_ne (by decide)]
      refine hT (p.1 ++ [nb T a y], p.2 ++ [0]) y m103 n93 rfl (StR_frS hd s1 fS (by rw [f124]) (by rw [f124]) (by rw [f124])) ⟨?_, ?_, ?_, fun k z hz => ?_, fun k z hz => ?_⟩ (frS_tr (frS_mvr m1) fS) (fun i hi => ⟨?_, ?_⟩) ?_
      · rw [e103, up2_eq]; simp
      · simp; omega
      · simp; exact hP.2.2.1
      · rcases last_of hz with ⟨hk, hz⟩ | ⟨rfl, rfl⟩
        · have := p1.2.2.2.1 k z hz
          rw [e103, e81, e66]
          rw [up2_ne (by decide), up2_ne (by decide), up2_nk (by omega), up2_ne (by decide), up2_nk (by omega), up2_ne (by decide)]
          exact this
        · rw [e103, e81, e66]
          rw [up2_ne (by decide), up2_ne (by decide), up2_eq, up2_ne (by decide), up2_eq]
          unfold nmR
          rw [show 6000 * (bk : Int) + a - 6000 * (bk : Int) = a by omega]
          exact slc_nb (by omega) (by omega) (by omega)
      · rcases last_of hz with ⟨hk, hz⟩ | ⟨rfl, rfl⟩
        · rw [f93, up2_nk (by have := hP.2.2.1; omega)]; exact hP.2.2.2.2 k z hz
        · rw [f93, hP.2.2.1, up2_eq]
      · rw [e103, e81, e66]; funext k; rw [up2_ne (by omega), up2_ne (by omega), up2_ne (by omega), m1.1 i (by omega)]
      · rw [f93]; funext k; rw [up2_ne (by omega)]
      · rw [e103, e81, e66]; funext k; rw [up2_ne (by decide), up2_ne (by decide), up2_ne (by decide), m1.1 146 (by decide)]
  · have hfp : (pb (nmS T n a) fun g => if 40 ≤ p.1.length then .inl (-3, a) else .inr ((p.1 ++ [nb T a g], p.2 ++ [0]), g)) = .inl (f, q) := by
      have hy' : nmS T n a = .inl (f, q) := hy
      rw [hy']; rfl
    refine ux_isGood s1 (fun _ z => by cases z) (fun f' q' z => rI_mk ⟨fun _ => ?_, fun z => absurd rfl z⟩)
    exact v_X12_specName_30 (ux_isGood s1 (fun _ z => by cases z) (fun f' q' z => rI_mk ⟨fun _ => hF f q MI1 hfp s1 m1, fun z => absurd rfl z⟩))
/-- what mark makes of it -/
theorem ux_mark_g {a : Int} (hd : 30 * bk ≤ dI ∧ dI < 30 * bk + 30) (hs : StR bk T n OI OL B (.inr a) MI ML) (hP : PlR bk T n dI p MI ML) (hT : PtR pt MI ML)
    (hQ : ∀ MI' ML', StR bk T n OI OL B (.inr (mkS T n a p pt).2.2) MI' ML' → PlR bk T n dI (mkS T n a p pt).1 MI' ML' → PtR (mkS T n a p pt).2.1 MI' ML' → frS dI MI ML MI' ML' → (∀ i, 168 ≤ i ∧ i ≤ 172 → MI' i = MI i ∧ ML' i = ML i) → MI' 146 = MI 146 → Q none (MI', ML', GR d e nw th x)) :
    wp cs mX12_mark KD Q 0 (padL [vR 124, vI (dI : Nat)] 3) [] (KD, MI, ML, GR d e nw th x) := by
  obtain ⟨b1, b2, b3, b4, b5⟩ := hs.2.2
  have a5 := hs.1.2.2.2.2.1
  have hn := hs.1.2.2.1
  refine v_X12_mark_0 (ux_octet hs (by omega) (rI_mk (ux_isGood hs (fun _ z => rI_mk ⟨fun z => by omega, fun _ => ?_⟩) (fun f q z => by cases z))))
  rw [b1]
  have hob : ob T n a = 63 ∨ ob T n a = 42 ∨ ob T n a = 43 → a < n := fun h => ob_lt (T := T) (n := n) (h := a) (c := ob T n a) (by omega) rfl
  -- the sign's last part
  have fin : ∀ (MI1 ML1 : Nat → Nat → Int) (c v : Int), StR bk T n OI OL B (.inr (a + 1)) MI1 ML1 → PlR bk T n dI (mkS T n a p pt).1 MI1 ML1 → MI1 124 59 = pt.1 → ML1 124 60 = pt.2.1 → ML1 124 61 = pt.2.2 → frS dI MI ML MI1 ML1 → (∀ i, 168 ≤ i ∧ i ≤ 172 → MI1 i = MI i ∧ ML1 i = ML i) → MI1 146 = MI 146 → (mkS T n a p pt).2 = ((v, pt.2), a + 1) → (v = if pt.1 = 0 ∧ c = 43 then 0 else 1) →
      wp cs mX12_mark KD Q 64 [some (vR 124), some (vI (dI : Nat)), some (vI c)] [] (KD, MI1, ML1, GR d e nw th x) := by
    intro MI1 ML1 c v s1 p1 e59 e60 e61 fS f1 f146 hmk hv
    have last : ∀ m, m = up2 MI1 124 59 v → Q none (m, ML1, GR d e nw th x) := by
      intro m em
      have c59 : chS dI 124 59 := Or.inl ⟨rfl, by unfold fldR; omega⟩
      have fS2 : frS dI MI1 ML1 m ML1 := by rw [em]; exact frS_upI c59
      have r : ∀ i, i ≠ 124 → m i = MI1 i := fun i hi => by rw [em]; funext k; exact up2_ne hi k
      refine hQ m ML1 ?_ (PlR_fr p1 (r 147 (by decide)) (r 148 (by decide)) (r 149 (by decide)) rfl) ?_ (frS_tr fS fS2) (fun i hi => ⟨by rw [r i (by omega)]; exact (f1 i hi).1, (f1 i hi).2⟩) (by rw [r 146 (by decide)]; exact f146)
      · rw [hmk]
        exact StR_frS hd s1 fS2 (by rw [em]; exact up2_nk (by decide) _) (by rw [em]; exact up2_nk (by decide) _) (by rw [em]; exact up2_nk (by decide) _)
      · rw [hmk]
        exact ⟨by rw [em]; exact up2_eq, by rw [hv]; simp only; split <;> simp, e60, e61⟩
    refine v_X12_mark_64 ?_
    rw [e59]
    refine ⟨fun z => ⟨fun z2 m em => last m (by rw [hv, if_pos ⟨z, z2⟩]; exact em), fun z2 m em => last m (by rw [hv, if_neg (fun q => z2 q.2)]; exact em)⟩, fun z m em => last m (by rw [hv, if_neg (fun q => z q.1)]; exact em)⟩
  have t0 := hT.2.1
  have mk : ∀ c, ob T n a = c → (c = 63 ∨ c = 42 ∨ c = 43) → wp cs mX12_mark KD Q 35 [some (vR 124), some (vI (dI : Nat)), some (vI (ob T n a))] [] (KD, MI, ML, GR d e nw th x) := by
    intro c hc hcc
    rw [hc]
    have hlt := hob (by omega)
    refine v_X12_mark_35 ⟨by omega, ?_⟩
    rw [b1]
    intro m em
    obtain ⟨s1, m1⟩ := StR_at hs em (by omega)
    have e59 : m 124 59 = pt.1 := by rw [m1.2 59 (by decide) (by decide) (by decide) (by decide) (by decide)]; exact hT.1
    have f1 : ∀ i, 168 ≤ i ∧ i ≤ 172 → m i = MI i ∧ ML i = ML i := fun i hi => ⟨m1.1 i (by omega), rfl⟩
    refine ⟨fun h63 => ?_, fun h63 => ?_⟩
    · refine fin m ML c 1 s1 ?_ e59 hT.2.2.1 hT.2.2.2 (frS_mvr m1) f1 (m1.1 146 (by decide)) ?_ (by rw [if_neg (by omega)])
      · unfold mkS; rw [if_pos (by omega)]; exact PlR_mvr hP m1
      · unfold mkS; rw [if_pos (by omega)]
    · rw [hT.2.2.1, hT.2.2.2]
      refine c_joinFollows (by omega) (PlR_mvr hP m1) (fun ML1 p1 g1 => rV_mk ?_)
      have fS : frS dI MI ML m ML1 := frS_tr (frS_mvr m1) (fun i k hk => ⟨rfl, g1 i k (fun z => hk (Or.inr (Or.inr (Or.inr ⟨by omega, z.2⟩))))⟩)
      have s2 : StR bk T n OI OL B (.inr (a + 1)) m ML1 := StR_frS hd s1 (fun i k hk => ⟨rfl, g1 i k (fun z => hk (Or.inr (Or.inr (Or.inr ⟨by omega, z.2⟩))))⟩) rfl rfl rfl
      have f2 : ∀ i, 168 ≤ i ∧ i ≤ 172 → m i = MI i ∧ ML1 i = ML i := fun i hi => ⟨m1.1 i (by omega), funext fun k => g1 i k (by omega)⟩
      have e60 : ML1 124 60 = pt.2.1 := by rw [g1 _ _ (by omega)]; exact hT.2.2.1
      have e61 : ML1 124 61 = pt.2.2 := by rw [g1 _ _ (by omega)]; exact hT.2.2.2
      by_cases h42 : c = 42
      · refine fin m ML1 c 1 s2 ?_ e59 e60 e61 fS f2 (m1.1 146 (by decide)) ?_ (by rw [if_neg (by omega)])
        · unfold mkS; rw [if_neg (by omega), if_pos (by omega)]; exact p1
        · unfold mkS; rw [if_neg (by omega), if_pos (by omega)]
      · refine fin m ML1 c pt.1 s2 ?_ e59 e60 e61 fS f2 (m1.1 146 (by decide)) ?_ ?_
        · unfold mkS; rw [if_neg (by omega), if_neg (by omega), if_pos (by omega)]; exact p1
        · unfold mkS; rw [if_neg (by omega), if_neg (by omega), if_pos (by omega)]
        · by_cases hz : pt.1 = 0
          · rw [if_pos ⟨hz, by omega⟩, hz]
          · rw [if_neg (fun z => hz z.1)]; omega
  refine ⟨fun z => mk 63 z (by omega), fun z1 => ⟨fun z => mk 42 z (by omega), fun z2 => ⟨fun z => mk 43 z (by omega), fun z3 => ?_⟩⟩⟩
  have e : mkS T n a p pt = (p, pt, a) := by unfold mkS; rw [if_neg z1, if_neg z2, if_neg z3]
  rw [e] at hQ
  exact hQ MI ML hs hP hT (frS_rfl _ _ _) (fun _ _ => ⟨rfl, rfl⟩) rfl
theorem ux_mark_b {f q : Int} (hs : StR bk T n OI OL B (.inl (f, q)) MI ML) (hQ : Q none (MI, ML, GR d e nw th x)) : wp cs mX12_mark KD Q 0 (padL [vR 124, vI (dI : Nat)] 3) [] (KD, MI, ML, GR d e nw th x) := by
  have := hs.2.2
  exact v_X12_mark_0 (ux_octet hs (by omega) (rI_mk (ux_isGood hs (fun _ z => by cases z) (fun f' q' z => rI_mk ⟨fun _ => hQ, fun z => absurd rfl z⟩))))
/-- the rest of (#PCDATA -/
theorem c_rmixed_l (hd : 30 * bk ≤ dI ∧ dI < 30 * bk + 30) {MI0 ML0 : Nat → Nat → Int} : ∀ (k : Nat) (p : Pl) (a : Int) (MI ML : Nat → Nat → Int), StR bk T n OI OL B (.inr a) MI ML → PlR bk T n dI p MI ML → frS dI MI0 ML0 MI ML → MI 146 dI = 2 → (n - a).toNat < k →
    (∀ p' y MI' ML', mxF T n k p a = .inr (p', y) → StR bk T n OI OL B (.inr y) MI' ML' → PlR bk T n dI p' MI' ML' → frS dI MI0 ML0 MI' ML' → MI' 146 dI = 2 → Q none (MI', ML', GR d e nw th x)) →
    (∀ f q MI' ML', mxF T n k p a = .inl (f, q) → StR bk T n OI OL B (.inl (f, q)) MI' ML' → frS dI MI0 ML0 MI' ML' → Q none (MI', ML', GR d e nw th x)) →
    wp cs mX12_mixed KD Q 22 [some (vR 124), some (vI (dI : Nat)), none] [] (KD, MI, ML, GR d e nw th x) := by
  intro k
  induction k with
  | zero => intro p a MI ML hs hP hf h2 hk; omega
  | succ k ih =>
    intro p a MI ML hs hP hf h2 hk hT hF
    obtain ⟨b1, b2, b3, b4, b5⟩ := hs.2.2
    have a5 := hs.1.2.2.2.2.1
    have hn := hs.1.2.2.1
    rw [mxF] at hT hF
    -- a bad end
    have bad : ∀ (f q : Int) (MI1 ML1 : Nat → Nat → Int), StR bk T n OI OL B (.inl (f, q)) MI1 ML1 → frS dI MI0 ML0 MI1 ML1 → (∀ MI' ML', StR bk T n OI OL B (.inl (f, q)) MI' ML' → frS dI MI0 ML0 MI' ML' → Q none (MI', ML', GR d e nw th x)) → wp cs mX12_mixed KD Q 69 [some (vR 124), some (vI (dI : Nat)), none] [] (KD, MI1, ML1, GR d e nw th x) := by
      intro f q MI1 ML1 s1 f1 hq
      refine v_X12_mixed_69 (ux_passes s1 (fun y MI2 h => by cases h) (fun f' q' MI2 h s2 m2 _ => rI_mk ?_) (by decide))
      cases h
      exact ux_isGood s2 (fun _ z => by cases z) (fun f' q' z => rI_mk ⟨fun _ => hq MI2 ML1 s2 (frS_tr f1 (frS_mvr m2)), fun z => absurd rfl z⟩)
    refine v_X12_mixed_22 (ux_isGood hs (fun _ z => rI_mk ⟨fun z => by omega, fun _ => ?_⟩) (fun f q z => by cases z))
    rw [b1]
    refine ux_octet hs b4 (rI_mk ⟨fun h124 => ⟨by omega, ?_⟩, fun h124 => ?_⟩)
    · rw [if_pos h124] at hT hF
      have hlt := ob_lt (c := 124) (by decide) h124
      rw [b1]
      intro m49 e49
      obtain ⟨s1, m1⟩ := StR_at hs e49 (by omega)
      have hs1 := sk_le T n (a + 1)
      refine ux_maybeS s1 (fun MI2 s2 m2 _ _ => rV_mk ?_)
      rw [pb_r] at s2
      have m12 := mvr_tr m1 m2
      refine ux_specName hd s2 (PlR_mvr hP m12) (fun p' y MI3 ML3 hy s3 p3 f3 _ g3 => rI_mk ?_) (fun f q MI3 hy s3 m3 => rI_mk ?_)
      · have hy1 := plS_le hy
        have hsy := sk_le T n y
        rw [hy, pb_r] at hT hF
        refine ux_maybeS s3 (fun MI4 s4 m4 _ _ => rV_mk ?_)
        rw [pb_r] at s4
        have b := s4.2.2.2.2.2
        exact ih p' (sk T n y) MI4 ML3 s4 (PlR_mvr p3 m4) (frS_tr hf (frS_tr (frS_mvr m12) (frS_tr f3 (frS_mvr m4)))) (by rw [m4.1 146 (by decide), g3, m12.1 146 (by decide)]; exact h2) (by omega) hT hF
      · refine ux_maybeS s3 (fun MI4 s4 m4 _ _ => rV_mk ?_)
        rw [pb_l] at s4
        refine v_X12_mixed_22 (ux_isGood s4 (fun _ z => by cases z) (fun f' q' z => rI_mk ⟨fun _ => ?_, fun z => absurd rfl z⟩))
        exact bad f q MI4 ML s4 (frS_tr hf (frS_mvr (mvr_tr m12 (mvr_tr m3 m4)))) (fun MI' ML' s' f' => hF f q MI' ML' (by rw [hy]; rfl) s' f')
    · rw [if_neg h124] at hT hF
      refine v_X12_mixed_69 (ux_passes hs (fun y MI2 h s2 m2 _ => rI_mk ?_) (fun f q MI2 h s2 m2 _ => rI_mk ?_) (by decide))
      · rw [pb_r] at h
        rw [h, pb_r] at hT hF
        have p2 := PlR_mvr hP m2
        have b22 := s2.2.2
        refine ux_isGood s2 (fun _ z => rI_mk ⟨fun z => by omega, fun _ => ⟨by omega, ?_⟩⟩) (fun f q z => by cases z)
        simp only [Int.toNat_natCast]
        rw [p2.1]
        have star : (ob T n y = 42 ∨ p.1 ≠ []) → wp cs mX12_passes KD (rI (GR d e nw th x) fun x108 m108 n108 => Q none (m108, n108, (GR d e nw th x))) 0 (padL [vR 124, vI 42] 2) [] (KD, MI2, ML, (GR d e nw th x)) := by
          intro hst
          refine ux_passes s2 (fun w MI3 h3 s3 m3 _ => rI_mk ?_) (fun f q MI3 h3 s3 m3 _ => rI_mk ?_) (by decide)
          · rw [pb_r] at h3
            have h4 := mbS_eq h3
            rw [if_pos h4.2] at hT
            refine hT p w MI3 ML (by rw [h4.1]) s3 (PlR_mvr p2 m3) (frS_tr hf (frS_mvr (mvr_tr m2 m3))) (by rw [m3.1 146 (by decide), m2.1 146 (by decide)]; exact h2)
          · rw [pb_r] at h3
            have h42 : ob T n y ≠ 42 := fun z => by unfold mbS at h3; rw [if_pos z] at h3; cases h3
            have hfq : (f, q) = (-1, y) := by unfold mbS at h3; rw [if_neg h42] at h3; cases h3; rfl
            rw [if_neg h42, if_neg (by rcases hst with z | z; exact absurd z h42; exact z)] at hF
            cases hfq
            exact hF (-1) y MI3 ML rfl s3 (frS_tr hf (frS_mvr (mvr_tr m2 m3)))
        refine ⟨fun hpos => star (Or.inr (fun z => by rw [z] at hpos; simp at hpos)), fun hz => ?_⟩
        have hnil : p.1 = [] := List.length_eq_zero_iff.mp (by omega)
        rw [b22.1]
        refine ux_octet s2 b22.2.2.2.1 (rI_mk ⟨fun h42 => star (Or.inl h42), fun h42 => ?_⟩)
        rw [if_neg h42, if_pos hnil] at hT
        exact hT p y MI2 ML rfl s2 p2 (frS_tr hf (frS_mvr m2)) (by rw [m2.1 146 (by decide)]; exact h2)
      · rw [pb_r] at h
        rw [h, pb_l] at hF
        exact ux_isGood s2 (fun _ z => by cases z) (fun f' q' z => rI_mk ⟨fun _ => hF f q MI2 ML rfl s2 (frS_tr hf (frS_mvr m2)), fun z => absurd rfl z⟩)
end P87
