/-! The reference's ELEMENT. -/
theorem wbl_END : wbl 12094 2 = [47, 62] := by decide +kernel
/-- an ELEMENT's beginning behind its attributes -/
def tgE (T : Nat → Int) (n : Int) (rs : List Rl) (pl : Nat) (ns : List Nd) (ec : Int) (os : List Int) (dp : Int) (o : By) (q : Int) : PR (Nat × Tr × Int) :=
  pb (if stb T n q [47, 62] = true then .inr (q + 2) else mbS T n q 62) fun y => (match dfF ec o rs ns with
    | none => .inl (-3, q)
    | some ns => .inr (pl, (ns, (if stb T n q [47, 62] = true then os else ec :: os), dp), y))
theorem tgS_E (T : Nat → Int) (n : Int) (rs : List Rl) (pl : Nat) (t : Tr) (h : Int) : tgS T n rs pl t h = pb (nmS T n h) fun g => if 30 ≤ t.2.1.length ∨ 600 ≤ t.1.length then .inl (-3, h)
  else pb (atsF T n (t.1.length : Nat) (n + 1).toNat pl (t.1 ++ [(1, t.2.1.headD 0, nb T h g, [], 0, 0)]) g) fun q => tgE T n rs q.1 q.2.1 (t.1.length : Nat) t.2.1 (if t.2.2 < (t.2.1.length : Nat) + 1 then (t.2.1.length : Nat) + 1 else t.2.2) (nb T h g) q.2.2 := rfl
section P99
variable {cs : Cs} {Q : Option AV → Mm → Prop} {MI ML OI OL : Nat → Nat → Int} {bk d e nw th x pl : Nat} {T : Nat → Int} {n B : Int} {s : PR Int} {D : Dt} {ns : List Nd}
theorem OpnR_pop {ec : Int} {os : List Int} {MI' : Nat → Nat → Int} (h : OpnR (ec :: os) MI) (h1 : MI' 124 64 = (os.length : Nat)) (h2 : MI' 173 = MI 173) : OpnR os MI' := by
  have := h.2.1
  simp only [List.length_cons] at this
  refine ⟨h1, by omega, fun j y hj => ?_⟩
  have h3 := h.2.2 (j + 1) y (by simpa using hj)
  rw [h2, ← h3]
  congr 1
  simp only [List.length_cons]; omega
theorem OpnR_push {ec : Int} {os : List Int} {MI' : Nat → Nat → Int} (h : OpnR os MI) (h30 : os.length < 30) (h1 : MI' 124 64 = (os.length : Nat) + 1) (h2 : MI' 173 os.length = ec) (h3 : ∀ k, k ≠ os.length → MI' 173 k = MI 173 k) : OpnR (ec :: os) MI' := by
  refine ⟨by rw [h1]; simp, by simp; omega, fun j y hj => ?_⟩
  cases j with
  | zero =>
    simp only [List.getElem?_cons_zero, Option.some.injEq] at hj
    rw [← hj, ← h2]; congr 1
  | succ j =>
    have hj' : os[j]? = some y := by simpa using hj
    have hl := (List.getElem?_eq_some_iff.mp hj').1
    rw [← h.2.2 j y hj', ← h3 _ (by omega)]
    congr 1
    simp only [List.length_cons]; omega
theorem re_bad230 {f q l1 l2 l3 l4 l5 : Int} (hs : StR bk T n OI OL B (.inl (f, q)) MI ML) (hQ : Q none (MI, ML, GR d e nw th x)) : wp cs mX12_element KD Q 230 [some (vR 124), some (vI l1), some (vI l2), some (vI l3), some (vI l4), some (vI l5), none, none] [] (KD, MI, ML, GR d e nw th x) :=
  v_X12_element_230 (ux_isGood hs (fun _ z => by cases z) (fun _ _ _ => rI_mk ⟨fun _ => hQ, fun z => absurd rfl z⟩))
theorem re_bad40 {f q l1 l2 l3 : Int} (hs : StR bk T n OI OL B (.inl (f, q)) MI ML) (hQ : Q none (MI, ML, GR d e nw th x)) : wp cs mX12_element KD Q 40 [some (vR 124), some (vI l1), some (vI l2), some (vI l3), none, none, none, none] [] (KD, MI, ML, GR d e nw th x) := by
  refine v_X12_element_40 (v_X12_newNode_0 (ux_isGood hs (fun _ z => by cases z) (fun _ _ _ => rI_mk ⟨fun _ => ?_, fun z => absurd rfl z⟩)))
  refine v_X12_newNode_29 (ux_isGood hs (fun _ z => by cases z) (fun _ _ _ => rI_mk ⟨fun _ => rI_mk ?_, fun z => absurd rfl z⟩))
  exact ux_isGood hs (fun _ z => by cases z) (fun _ _ _ => rI_mk ⟨fun _ => hQ, fun z => absurd rfl z⟩)
theorem c_rtag_fin {q dp l1 l2 l3 l5 : Int} {ec : Nat} {os : List Int} {o : By} (hs : StR bk T n OI OL B (.inr q) MI ML) (hR : TreR bk T n pl D (ns, (ec : Int) :: os, dp) MI ML) (hI : TgI ns ec os) (h8 : cntA ns (ec : Int) ≤ 8) (hy0 : ∃ y0, ns[ec]? = some y0 ∧ y0.1 = 1 ∧ y0.2.2.1 = o)
    (hT : ∀ pl' t' y MI', tgE T n D.2.2 pl ns (ec : Int) os dp o q = .inr (pl', t', y) → StR bk T n OI OL B (.inr y) MI' ML → TreR bk T n pl' D t' MI' ML → Q none (MI', ML, GR d e nw th x))
    (hF : ∀ f p MI', tgE T n D.2.2 pl ns (ec : Int) os dp o q = .inl (f, p) → StR bk T n OI OL B (.inl (f, p)) MI' ML → Q none (MI', ML, GR d e nw th x)) :
    wp cs mX12_element KD Q 230 [some (vR 124), some (vI l1), some (vI l2), some (vI l3), some (vI (ec : Nat)), some (vI l5), none, none] [] (KD, MI, ML, GR d e nw th x) := by
  have hn := hs.1.2.2.1
  obtain ⟨b1, b2, b3, b4, b5⟩ := hs.2.2
  have h30 := hR.2.2.1.2.1
  simp only [List.length_cons] at h30
  unfold tgE at hT hF
  have pop : ∀ {MI' m : Nat → Nat → Int} {s' : PR Int}, StR bk T n OI OL B s' MI' ML → m = up2 MI' 124 64 ((os.length : Nat) : Int) → StR bk T n OI OL B s' m ML := by
    intro MI' m s' s1 em
    have r : ∀ k, k ≠ 64 → m 124 k = MI' 124 k := fun k hk => by rw [em, up2_nk hk]
    exact StR_frX (C := fun i k => i = 124 ∧ k = 64) (fun i k z => Or.inl ⟨z.1, Or.inr z.2⟩) s1 (by rw [em]; exact frX_upI ⟨rfl, rfl⟩) (r 4 (by decide)) (r 5 (by decide)) (r 6 (by decide))
  refine v_X12_element_230 (ux_isGood hs (fun _ _ => rI_mk ⟨fun z => by omega, fun _ => ?_⟩) (fun f q z => by cases z))
  rw [b1]
  refine ux_stands (m := 2) (by decide) hs (fun hE => rI_mk ⟨fun z => by omega, fun _ => ?_⟩) (fun hE => rI_mk ⟨fun _ => ?_, fun z => absurd rfl z⟩)
  · rw [wbl_END] at hE
    have hr := stb_room _ q (by omega) (by decide) (by decide) hE
    simp only [List.length_cons, List.length_nil] at hr
    rw [if_pos hE, pb_r] at hT hF
    rw [if_pos hE] at hT
    rw [b1]
    refine ⟨by omega, fun m266 e266 => ?_⟩
    obtain ⟨s1, m1⟩ := StR_at hs e266 (by omega)
    refine ux_defaultsOf s1 (TreR_mvr hR m1) hI h8 hy0 (fun a ns' MI2 ha hd s2 R2 f2 => rV_mk ⟨fun z => by omega, fun _ => ?_⟩) (fun f p MI2 hd s2 f2 e64 => rV_mk ⟨fun z => by omega, fun _ => ?_⟩)
    · cases ha
      have k64 := R2.2.2.1.1
      simp only [List.length_cons] at k64
      rw [k64]
      refine ⟨by omega, fun m303 e303 => ?_⟩
      rw [show (((os.length + 1 : Nat) : Int) - 1) = ((os.length : Nat) : Int) by omega] at e303
      have rr : ∀ i, i ≠ 124 → m303 i = MI2 i := fun i hi => by rw [e303]; funext k; exact up2_ne hi k
      refine hT pl (ns', os, dp) _ m303 (by rw [hd]) (pop s2 e303) ⟨DclR_fr R2.1 (fun i hi => ⟨rr i (by omega), rfl⟩) (fun k _ => by rw [rr 138 (by decide)]) (Nat.le_refl _), ⟨by rw [rr 129 (by decide)]; exact R2.2.1.1, R2.2.1.2.1, fun k y hy => NdRA_fr (R2.2.1.2.2 k y hy) (fun i _ _ => by rw [rr i (by omega)]) (fun k _ => by rw [rr 138 (by decide)]) (Nat.le_refl _)⟩, OpnR_pop R2.2.2.1 (by rw [e303, up2_eq]) (rr 173 (by decide)), by rw [rr 140 (by decide)]; exact R2.2.2.2.1, by rw [rr 139 (by decide)]; exact R2.2.2.2.2.1, R2.2.2.2.2.2⟩
    · have k64 : MI2 124 64 = ((os.length + 1 : Nat) : Int) := by
        rw [e64, m1.2 64 (by decide) (by decide) (by decide) (by decide) (by decide)]
        have := hR.2.2.1.1
        simpa using this
      rw [k64]
      refine ⟨by omega, fun m303 e303 => ?_⟩
      rw [show (((os.length + 1 : Nat) : Int) - 1) = ((os.length : Nat) : Int) by omega] at e303
      refine hF f p m303 ?_ (pop s2 e303)
      rw [pb_r] at hd
      cases hdd : dfF (ec : Int) o D.2.2 ns with
      | none => rw [hdd] at hd; cases hd; rfl
      | some w => rw [hdd] at hd; cases hd
  · rw [wbl_END] at hE
    have hE' : ¬ stb T n q [47, 62] = true := by rw [hE]; decide
    rw [if_neg hE'] at hT hF
    simp only [hE', if_false, Bool.false_eq_true] at hT
    have same : ∀ {MI2 : Nat → Nat → Int}, Q none (MI2, ML, GR d e nw th x) → ((0 = (0 : Int) → ∀ m303, m303 = up2 MI2 124 64 (MI2 124 64) → Q none (m303, ML, GR d e nw th x)) ∧ ((0 : Int) ≠ 0 → (-2147483648 ≤ (MI2 124 64) - 1 ∧ (MI2 124 64) - 1 < 2147483648) ∧ ∀ m303, m303 = up2 MI2 124 64 ((MI2 124 64) - 1) → Q none (m303, ML, (GR d e nw th x)))) := by
      intro MI2 hq
      refine ⟨fun _ m303 e303 => ?_, fun z => absurd rfl z⟩
      rw [up2_self rfl] at e303
      rw [e303]; exact hq
    refine ux_passes hs (fun y MI1 hy s1 m1 _ => rI_mk ?_) (fun f p MI1 hy s1 m1 _ => rI_mk ?_) (by decide)
    · rw [pb_r] at hy
      rw [hy, pb_r] at hT hF
      refine ux_defaultsOf s1 (TreR_mvr hR m1) hI h8 hy0 (fun a ns' MI2 ha hd s2 R2 f2 => rV_mk (same ?_)) (fun f p MI2 hd s2 f2 e64 => rV_mk (same ?_))
      · cases ha
        exact hT pl (ns', (ec : Int) :: os, dp) _ MI2 (by rw [hd]) s2 R2
      · refine hF f p MI2 ?_ s2
        rw [pb_r] at hd
        cases hdd : dfF (ec : Int) o D.2.2 ns with
        | none => rw [hdd] at hd; cases hd; rfl
        | some w => rw [hdd] at hd; cases hd
    · rw [pb_r] at hy
      rw [hy, pb_l] at hF
      refine ux_defaultsOf s1 (TreR_mvr hR m1) hI h8 hy0 (fun a ns' MI2 ha => by cases ha) (fun f' p' MI2 hd s2 f2 e64 => rV_mk (same ?_))
      cases hd
      exact hF f p MI2 rfl s2
theorem c_rtag_l {dp l1 l2 l3 : Int} {ec : Nat} {os : List Int} {o : By} (hB : B + 2 ≤ 60000) : ∀ (k pl : Nat) (ns : List Nd) (h : Int) (MI : Nat → Nat → Int), (n + 1 - h).toNat ≤ k → StR bk T n OI OL B (.inr h) MI ML → TreR bk T n pl D (ns, (ec : Int) :: os, dp) MI ML → TgI ns ec os → cntA ns (ec : Int) ≤ 8 → (∃ y0, ns[ec]? = some y0 ∧ y0.1 = 1 ∧ y0.2.2.1 = o) →
    (∀ pl' t' y MI', (pb (atsF T n (ec : Int) k pl ns h) fun q => tgE T n D.2.2 q.1 q.2.1 (ec : Int) os dp o q.2.2) = .inr (pl', t', y) → StR bk T n OI OL (B + 2) (.inr y) MI' ML → TreR bk T n pl' D t' MI' ML → Q none (MI', ML, GR d e nw th x)) →
    (∀ f p MI', (pb (atsF T n (ec : Int) k pl ns h) fun q => tgE T n D.2.2 q.1 q.2.1 (ec : Int) os dp o q.2.2) = .inl (f, p) → StR bk T n OI OL (B + 2) (.inl (f, p)) MI' ML → Q none (MI', ML, GR d e nw th x)) →
    wp cs mX12_element KD Q 164 [some (vR 124), some (vI l1), some (vI l2), some (vI l3), some (vI (ec : Nat)), some (vI 1), none, none] [] (KD, MI, ML, GR d e nw th x) := by
  intro k
  induction k with
  | zero =>
    intro pl ns h MI hk hs
    have := hs.2.2.2.2.2
    omega
  | succ k ih =>
    intro pl ns h MI hk hs hR hI h8 hy0 hT hF
    rw [atsF_eq] at hT hF
    have hn := hs.1.2.2.1
    have hBB := hs.2.1
    obtain ⟨b1, b2, b3, b4, b5⟩ := hs.2.2
    have hsk := sk_le T n h
    refine v_X12_element_164 (ux_isGood hs (fun _ _ => rI_mk ⟨fun z => by omega, fun _ => ⟨fun z => by omega, fun _ => ?_⟩⟩) (fun f q z => by cases z))
    refine ux_maybeS hs (fun MI1 s1 m1 _ _ => rV_mk ?_)
    rw [pb_r] at s1
    obtain ⟨c1, c2, c3, c4, c5⟩ := s1.2.2
    -- the end
    have fin : ¬ (h < sk T n h ∧ isNs (ob T n (sk T n h))) → wp cs mX12_element KD Q 214 [some (vR 124), some (vI l1), some (vI l2), some (vI l3), some (vI (ec : Nat)), some (vI 1), some (vI h), none] [vI 0] (KD, MI1, ML, GR d e nw th x) := by
      intro hc
      rw [if_neg hc, pb_r] at hT hF
      refine v_X12_element_214 ⟨fun _ => ?_, fun z => absurd rfl z⟩
      refine v_X12_element_164 (ux_isGood s1 (fun _ _ => rI_mk ⟨fun z => by omega, fun _ => ⟨fun _ => ?_, fun z => absurd rfl z⟩⟩) (fun f q z => by cases z))
      exact c_rtag_fin s1 (TreR_mvr hR m1) hI h8 hy0 (fun pl' t' y MI' h1 h2 h3 => hT pl' t' y MI' h1 (StR_B h2 (by omega)) h3) (fun f p MI' h1 h2 => hF f p MI' h1 (StR_B h2 (by omega)))
    rw [b1, c1]
    refine ⟨fun hlt => ?_, fun hle => fin (by omega)⟩
    refine ux_octet s1 c4 (rI_mk (w_X12_isFirst (rI_mk ?_)))
    by_cases hc : isNs (ob T n (sk T n h))
    · rw [show bI (isNs (ob T n (sk T n h))) = 1 from if_pos hc]
      rw [if_pos ⟨hlt, hc⟩] at hT hF
      refine ⟨fun z => by omega, fun _ => v_X12_element_214 ⟨fun z => by omega, fun _ => ?_⟩⟩
      refine ux_attribute s1 hB (TreR_mvr hR m1) hI h8 (fun pl' ns' y MI2 hy s2 R2 I2 h82 q1 q2 f2 => rV_mk ?_) (fun f q MI2 hy s2 f2 => rV_mk ?_)
      · have hle : sk T n h < y := by
          rcases atS_le (by omega) hy with w | w
          · exact w.1
          · have := hR.2.2.2.2.2; omega
        have hy0' : ∃ y0, ns'[ec]? = some y0 ∧ y0.1 = 1 ∧ y0.2.2.1 = o := by
          obtain ⟨y0, z1, z2⟩ := hy0
          unfold atS at hy
          obtain ⟨g', _, hy⟩ := pb_inr hy
          split at hy
          · cases hy
          · split at hy
            · cases hy
            · obtain ⟨z', _, hy⟩ := pb_inr hy
              obtain ⟨v', _, hy⟩ := pb_inr hy
              cases hy
              exact ⟨y0, last_mono z1, z2⟩
        rw [hy, pb_r] at hT hF
        exact ih pl' ns' y MI2 (by omega) (StR_Bg s2 hBB) R2 I2 h82 hy0' hT hF
      · rw [hy, pb_l, pb_l] at hF
        refine v_X12_element_164 (ux_isGood s2 (fun _ z => by cases z) (fun _ _ _ => rI_mk ⟨fun _ => ?_, fun z => absurd rfl z⟩))
        exact re_bad230 s2 (hF f q MI2 rfl s2)
    · rw [show bI (isNs (ob T n (sk T n h))) = 0 from if_neg hc]
      exact ⟨fun _ => fin (fun z => hc z.2), fun z => absurd rfl z⟩
theorem ux_element {t : Tr} (hs : StR bk T n OI OL B s MI ML) (hB : B + 2 ≤ 60000) (hR : ∀ a, s = .inr a → TreR bk T n pl D t MI ML ∧ TrI t)
    (hT : ∀ pl' t' y MI', (pb s fun a => pb (mbS T n a 60) fun g => tgS T n D.2.2 pl t g) = .inr (pl', t', y) → StR bk T n OI OL (B + 2) (.inr y) MI' ML → TreR bk T n pl' D t' MI' ML → Q none (MI', ML, GR d e nw th x))
    (hF : ∀ f p MI', (pb s fun a => pb (mbS T n a 60) fun g => tgS T n D.2.2 pl t g) = .inl (f, p) → StR bk T n OI OL (B + 2) (.inl (f, p)) MI' ML → Q none (MI', ML, GR d e nw th x)) :
    wp cs mX12_element KD Q 0 (padL [vR 124] 8) [] (KD, MI, ML, GR d e nw th x) := by
  have hBB := hs.2.1
  have a5 := hs.1.2.2.2.2.1
  have hn := hs.1.2.2.1
  refine v_X12_element_0 (ux_passes hs (fun h MI1 hh s1 m1 _ => rI_mk ?_) (fun f p MI1 hh s1 m1 _ => rI_mk ?_) (by decide))
  rotate_left
  · refine ux_takeName s1 (fun a' g MI2 ha => by cases ha) (fun f' p' g MI2 hy hg s2 m2 => rI_mk ?_)
    cases hy
    refine ux_isGood s2 (fun _ z => by cases z) (fun _ _ _ => rI_mk ⟨fun _ => re_bad40 s2 (hF f p MI2 ?_ (StR_B s2 (by omega))), fun z => absurd rfl z⟩)
    rcases s with w | a
    · cases hh; rfl
    · rw [pb_r] at hh ⊢; rw [hh]; rfl
  rcases s with w | a
  · cases hh
  rw [pb_r] at hh hT hF
  obtain ⟨R0, I0⟩ := hR a rfl
  rw [hh, pb_r] at hT hF
  rw [tgS_E] at hT hF
  have R1 := TreR_mvr R0 m1
  have hh0 := s1.2.2.2.2.2
  have hh1 := s1.2.2.2.2.1
  refine ux_takeName s1 (fun a' g MI2 ha hy s2 m2 e51 => rI_mk ?_) (fun f p g MI2 hy hg s2 m2 => rI_mk ?_)
  rotate_left
  · rw [pb_r] at hy
    rw [hy, pb_l] at hF
    exact ux_isGood s2 (fun _ z => by cases z) (fun _ _ _ => rI_mk ⟨fun _ => re_bad40 s2 (hF f p MI2 rfl (StR_B s2 (by omega))), fun z => absurd rfl z⟩)
  cases ha
  have hg := nmS_ok hy
  rw [hy, pb_r] at hT hF
  have R2 := TreR_mvr R1 m2
  have k64 := R2.2.2.1.1
  have l30 := R2.2.2.1.2.1
  have l600 := R2.2.1.2.1
  refine ux_isGood s2 (fun _ _ => rI_mk ⟨fun z => by omega, fun _ => ?_⟩) (fun f q z => by cases z)
  rw [k64, e51]
  refine ⟨fun h30 => ?_, fun h30 => ?_⟩
  · rw [if_pos (Or.inl (by omega))] at hF
    exact ux_fail (by decide) s2 (fun MI3 s3 m3 => rV_mk (re_bad40 s3 (hF (-3) h MI3 rfl (StR_B s3 (by omega)))))
  refine v_X12_element_40 (ux_newNode (pl := pl) s2 R2.2.1.1 R2.2.1.2.1 R2.2.2.1 (fun a' MI3 ha hlt s3 f3 q124 q138 q139 e129 hnew => rI_mk ?_) (fun f p MI3 hp s3 m3 => rI_mk ?_))
  rotate_left
  · refine ux_isGood s3 (fun _ z => by cases z) (fun _ _ _ => rI_mk ⟨fun _ => ?_, fun z => absurd rfl z⟩)
    rw [pb_r] at hp
    split at hp
    · cases hp
      rw [if_pos (Or.inr (by assumption))] at hF
      exact hF (-3) h MI3 rfl (StR_B s3 (by omega))
    · cases hp
  cases ha
  rw [if_neg (by omega)] at hT hF
  obtain ⟨ns, os, dp⟩ := t
  simp only at hlt f3 e129 hnew k64 l30 l600 h30 hT hF ⊢
  have hup : (if os = [] then (if (1 : Int) = 0 then (-1 : Int) else 0) else os.headD 0) = os.headD 0 := by
    cases os with
    | nil => rfl
    | cons c os => rw [if_neg (by simp)]
  rw [hup] at hnew
  refine ux_isGood s3 (fun _ _ => rI_mk ⟨fun z => by omega, fun _ => ?_⟩) (fun f q z => by cases z)
  obtain ⟨kI, hkI⟩ : ∃ kI, kI = 600 * bk + ns.length := ⟨_, rfl⟩
  have ei : (600 * (bk : Int) + ((ns.length : Nat) : Int)).toNat = kI := by omega
  rw [← hkI] at hnew
  have k8 : MI3 124 8 = (bk : Int) := s3.1.2.2.2.1
  rw [k8, ei]
  refine ⟨by omega, by omega, by omega, by omega, by omega, fun m81 e81 => ?_⟩
  have k8a : m81 124 8 = (bk : Int) := by rw [e81, up2_ne (by decide)]; exact k8
  rw [k8a, ei]
  refine ⟨by omega, by omega, by omega, fun m98 e98 => ?_⟩
  have k64a : m98 124 64 = (os.length : Nat) := by rw [e98, up2_ne (by decide), e81, up2_ne (by decide), q124]; exact k64
  rw [k64a]
  simp only [Int.toNat_natCast]
  refine ⟨by omega, fun m109 e109 => ?_⟩
  have k64b : m109 124 64 = (os.length : Nat) := by rw [e109, up2_ne (by decide)]; exact k64a
  rw [k64b]
  refine ⟨by omega, fun m117 e117 => ?_⟩
  have k8c : m117 124 8 = (bk : Int) := by rw [e117, up2_nk (by decide), e109, up2_ne (by decide), e98, up2_ne (by decide)]; exact k8a
  have k64c : m117 124 64 = (os.length : Nat) + 1 := by rw [e117, up2_eq]
  have r117 : ∀ i, i ≠ 124 → i ≠ 132 → i ≠ 133 → i ≠ 173 → m117 i = MI3 i := fun i h1 h2 h3 h4 => by rw [e117, e109, e98, e81]; funext k; rw [up2_ne h1, up2_ne h4, up2_ne h3, up2_ne h2]
  have k140 : m117 140 bk = dp := by
    rw [r117 140 (by decide) (by decide) (by decide) (by decide), (f3 140 bk (by unfold chA; omega)).1]
    exact R2.2.2.2.1
  rw [k8c]
  simp only [Int.toNat_natCast]
  rw [k64c, k140]
  -- the attributes
  have go : ∀ (m160 : Nat → Nat → Int) (dp' : Int), m160 = up2 m117 140 bk dp' → dp' = (if dp < (os.length : Nat) + 1 then ((os.length : Nat) : Int) + 1 else dp) → wp cs mX12_element KD Q 164 [some (vR 124), some (vI 1), some (vI h), some (vI (g - h)), some (vI (ns.length : Nat)), some (vI 1), none, none] [] (KD, m160, ML, GR d e nw th x) := by
    intro m160 dp' e160 hdp
    rw [← hdp] at hT hF
    have r : ∀ i, i ≠ 124 → i ≠ 132 → i ≠ 133 → i ≠ 173 → i ≠ 140 → m160 i = MI3 i := fun i h1 h2 h3 h4 h5 => by rw [e160]; funext k; rw [up2_ne h5, r117 i h1 h2 h3 h4]
    have c13 : ∀ i, 130 ≤ i → i ≤ 137 → inB bk i kI := fun i h1 h2 => inB_chA (pl := pl) (len := ns.length) (Or.inr (Or.inr (Or.inl ⟨⟨h1, h2⟩, by omega, by omega⟩)))
    have fX : frX (inB bk) MI3 ML m160 ML := by
      rw [e160, e117, e109, e98, e81]
      refine frX_tr (frX_tr (frX_tr (frX_tr (frX_upI (c13 132 (by omega) (by omega))) (frX_upI (c13 133 (by omega) (by omega)))) (frX_upI (Or.inr (Or.inl (by omega))))) (frX_upI (Or.inl ⟨rfl, Or.inr rfl⟩))) (frX_upI (Or.inr (Or.inr ⟨by omega, by omega, by omega, ?_⟩)))
      rw [show wR 140 = 1 by decide]; omega
    have rk : ∀ k, k ≠ 64 → m160 124 k = MI3 124 k := fun k hk => by rw [e160, up2_ne (by decide), e117, up2_nk hk, e109, up2_ne (by decide), e98, up2_ne (by decide), e81, up2_ne (by decide)]
    have s4 := StR_frX (fun i k z => z) s3 fX (rk 4 (by decide)) (rk 5 (by decide)) (rk 6 (by decide))
    have f30 := TreR_frA R2 f3 (Nat.le_refl _)
    have hmem := headD_mem os
    obtain ⟨i1, i2, i3, i4, i5⟩ := I0
    have hup2 := i1.2.1 _ hmem
    have tg : TgI (ns ++ [(1, os.headD 0, nb T h g, [], 0, 0)]) ns.length os := by
      refine ⟨OpW_push i1 (headD_max i1.1) hmem, AtW_other i2 (fun z => by simp at z) hup2.2.1, by simp, ?_, ⟨(1, os.headD 0, nb T h g, [], 0, 0), by rw [Int.toNat_natCast]; exact last_get ns _, rfl, rfl⟩, OpU_app i3⟩
      rw [cntA_app, if_neg (by simp), cntA_out i2.1 (Nat.le_refl _)]; simp
    have hc0 : cntA (ns ++ [(1, os.headD 0, nb T h g, [], 0, 0)]) ((ns.length : Nat) : Int) ≤ 8 := by
      rw [cntA_app, if_neg (by simp), cntA_out i2.1 (Nat.le_refl _)]; omega
    have TR : TreR bk T n pl D (ns ++ [(1, os.headD 0, nb T h g, [], 0, 0)], ((ns.length : Nat) : Int) :: os, dp') m160 ML := by
      refine ⟨DclR_fr f30.1 (fun i hi => ⟨r i (by omega) (by omega) (by omega) (by omega) (by omega), rfl⟩) (fun k _ => by rw [r 138 (by decide) (by decide) (by decide) (by decide) (by decide)]) (Nat.le_refl _), ⟨?_, by simp; omega, fun k z hz => ?_⟩, ?_, by rw [e160, up2_eq], ?_, R2.2.2.2.2.2⟩
      · rw [r 129 (by decide) (by decide) (by decide) (by decide) (by decide), e129]; simp
      · rcases last_of hz with ⟨hj1, hj2⟩ | ⟨rfl, rfl⟩
        · refine NdRA_fr (f30.2.1 k z hj2) (fun i h1 h2 => ?_) (fun k _ => by rw [r 138 (by decide) (by decide) (by decide) (by decide) (by decide)]) (Nat.le_refl _)
          have hne : 600 * bk + k ≠ kI := by omega
          rw [e160, up2_ne (by omega), e117, up2_ne (by omega), e109, up2_ne (by omega), e98, up2_nk hne, e81, up2_nk hne]
        · rw [← hkI]
          have w132 : m160 132 kI = 6000 * (bk : Int) + h := by rw [e160, up2_ne (by decide), e117, up2_ne (by decide), e109, up2_ne (by decide), e98, up2_ne (by decide), e81, up2_eq]
          have w133 : m160 133 kI = g - h := by rw [e160, up2_ne (by decide), e117, up2_ne (by decide), e109, up2_ne (by decide), e98, up2_eq]
          have wo : ∀ i, (i = 130 ∨ i = 131 ∨ i = 135 ∨ i = 136 ∨ i = 137) → m160 i kI = MI3 i kI := fun i hi => by rw [r i (by omega) (by omega) (by omega) (by omega) (by omega)]
          refine ⟨by rw [wo 130 (by omega)]; exact hnew.1, by rw [wo 131 (by omega)]; exact hnew.2.1, ⟨?_, fun _ => ?_⟩, ⟨by rw [wo 135 (by omega)]; exact hnew.2.2.2.1, fun z => by simp at z⟩, by rw [wo 136 (by omega)]; exact hnew.2.2.2.2.1, by rw [wo 137 (by omega)]; exact hnew.2.2.2.2.2⟩
          · rw [w133]; show g - h = ((nb T h g).length : Nat); rw [nb_len]; omega
          · rw [w132, w133]
            unfold nmR
            rw [show 6000 * (bk : Int) + h - 6000 * (bk : Int) = h by omega]
            exact slc_nb (by omega) (by omega) (by omega)
      · refine OpnR_push f30.2.2.1 (by omega) (by rw [e160, up2_ne (by decide)]; exact k64c) (by rw [e160, up2_ne (by decide), e117, up2_ne (by decide), e109, up2_eq]) (fun k hk => ?_)
        rw [e160, up2_ne (by decide), e117, up2_ne (by decide), e109, up2_nk hk, e98, up2_ne (by decide), e81, up2_ne (by decide)]
      · rw [r 139 (by decide) (by decide) (by decide) (by decide) (by decide), q139]; exact R2.2.2.2.2.1
    exact c_rtag_l hB (n + 1).toNat pl _ g m160 (by omega) s4 TR tg hc0 ⟨_, last_get ns _, rfl, rfl⟩ hT hF
  exact ⟨by omega, fun hlt' m160 e160 => go m160 _ e160 (by rw [if_pos hlt']), fun hge m160 e160 => go m160 _ e160 (by rw [if_neg (by omega)])⟩
end P99
