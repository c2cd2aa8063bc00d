/-! The reference's end tags, CONTENT, and reading. -/
theorem wbl_LT : wbl 15407 2 = [60, 47] := by decide +kernel
theorem ctF_nil (T : Nat → Int) (n : Int) (rs : List Rl) : ∀ (k pl : Nat) (t : Tr) (h : Int) (pl' : Nat) (t' : Tr) (y : Int), ctF T n rs k pl t h = .inr (pl', t', y) → t'.2.1 = []
  | 0, pl, t, h, pl', t', y, hy => by simp [ctF] at hy
  | k + 1, pl, t, h, pl', t', y, hy => by
    rw [ctF] at hy
    split at hy
    · cases hy; assumption
    · split at hy
      · obtain ⟨q, _, hy⟩ := pb_inr hy
        exact ctF_nil T n rs k _ _ _ _ _ _ hy
      · split at hy
        · obtain ⟨q, _, hy⟩ := pb_inr hy
          exact ctF_nil T n rs k _ _ _ _ _ _ hy
        · split at hy
          · obtain ⟨q, _, hy⟩ := pb_inr hy
            exact ctF_nil T n rs k _ _ _ _ _ _ hy
          · obtain ⟨q, _, hy⟩ := pb_inr hy
            exact ctF_nil T n rs k _ _ _ _ _ _ hy
theorem dtS_T (T : Nat → Int) (n h : Int) : dtS T n h = if stb T n h [60, 33, 68, 79, 67, 84, 89, 80, 69] = true then pb (dtT T n h) (fun q => pb (mcS T n q.2.2) fun u => .inr (q.1, q.2.1, u)) else .inr (0, (none, [], []), h) := by
  unfold dtS dtT
  split
  · cases msS T n (h + 9) with
    | inl f => rfl
    | inr g =>
      rw [pb_r, pb_r]
      cases nmS T n g with
      | inl f => rfl
      | inr y =>
        rw [pb_r, pb_r]
        cases mbS T n (sk T n y) 91 with
        | inl f => rfl
        | inr z =>
          rw [pb_r, pb_r]
          cases mcS T n z with
          | inl f => rfl
          | inr w =>
            rw [pb_r, pb_r]
            cases dcF T n (n + 1).toNat 0 [] [] w with
            | inl f => rfl
            | inr q =>
              rw [pb_r, pb_r]
              cases mbS T n (sk T n q.2.2.2) 62 with
              | inl f => rfl
              | inr v => rfl
  · rfl
section Pa02
variable {cs : Cs} {Q : Option AV → Mm → Prop} {MI ML OI OL : Nat → Nat → Int} {bk d e nw th x pl : Nat} {T : Nat → Int} {n B : Int} {s : PR Int} {D : Dt}
/-- one field of 124 beside the reading's own -/
theorem StR_64 {v : Int} {m : Nat → Nat → Int} (hs : StR bk T n OI OL B s MI ML) (em : m = up2 MI 124 64 v) : StR bk T n OI OL B s m ML := by
  have r : ∀ k, k ≠ 64 → m 124 k = MI 124 k := fun k hk => by rw [em, up2_nk hk]
  exact StR_frX (C := fun i k => i = 124 ∧ k = 64) (fun i k z => Or.inl ⟨z.1, Or.inr z.2⟩) hs (by rw [em]; exact frX_upI ⟨rfl, rfl⟩) (r 4 (by decide)) (r 5 (by decide)) (r 6 (by decide))
theorem TreR_pop {ns : List Nd} {ec dp : Int} {os : List Int} {m : Nat → Nat → Int} (R : TreR bk T n pl D (ns, ec :: os, dp) MI ML) (em : m = up2 MI 124 64 ((os.length : Nat) : Int)) : TreR bk T n pl D (ns, os, dp) m ML := by
  have rr : ∀ i, i ≠ 124 → m i = MI i := fun i hi => by rw [em]; funext k; exact up2_ne hi k
  exact ⟨DclR_fr R.1 (fun i hi => ⟨rr i (by omega), rfl⟩) (fun k _ => by rw [rr 138 (by decide)]) (Nat.le_refl _), ⟨by rw [rr 129 (by decide)]; exact R.2.1.1, R.2.1.2.1, fun k y hy => NdRA_fr (R.2.1.2.2 k y hy) (fun i _ _ => by rw [rr i (by omega)]) (fun k _ => by rw [rr 138 (by decide)]) (Nat.le_refl _)⟩, OpnR_pop R.2.2.1 (by rw [em, up2_eq]) (rr 173 (by decide)), by rw [rr 140 (by decide)]; exact R.2.2.2.1, by rw [rr 139 (by decide)]; exact R.2.2.2.2.1, R.2.2.2.2.2⟩
theorem rcl_64 {ns : List Nd} {ec dp : Int} {os : List Int} (R : TreR bk T n pl D (ns, ec :: os, dp) MI ML) : MI 124 64 = ((os.length : Nat) : Int) + 1 ∧ os.length < 30 := by
  have k64 := R.2.2.1.1
  have h30 := R.2.2.1.2.1
  simp only [List.length_cons] at k64 h30
  rw [k64]
  exact ⟨by omega, by omega⟩
theorem rcl_good {g ec dp : Int} {ns : List Nd} {os : List Int} (s2 : StR bk T n OI OL B (.inr g) MI ML) (R2 : TreR bk T n pl D (ns, ec :: os, dp) MI ML) (hT : ∀ y MI', mbS T n (sk T n g) 62 = .inr y → StR bk T n OI OL B (.inr y) MI' ML → TreR bk T n pl D (ns, os, dp) MI' ML → Q none (MI', ML, GR d e nw th x)) (hF : ∀ f p MI', mbS T n (sk T n g) 62 = .inl (f, p) → StR bk T n OI OL B (.inl (f, p)) MI' ML → Q none (MI', ML, GR d e nw th x)) :
    wp cs mX12_maybeS KD (rV (GR d e nw th x) fun m84 n84 => wp cs mX12_passes KD (rI (GR d e nw th x) fun x90 m90 n90 => (-2147483648 ≤ (m90 124 64) - 1 ∧ (m90 124 64) - 1 < 2147483648) ∧ ∀ m101, m101 = up2 m90 124 64 ((m90 124 64) - 1) → Q none (m101, n90, (GR d e nw th x))) 0 (padL [vR 124, vI 62] 2) [] (KD, m84, n84, (GR d e nw th x))) 0 (padL [vR 124] 1) [] (KD, MI, ML, (GR d e nw th x)) := by
  refine ux_maybeS s2 (fun MI2 s3 m3 _ _ => rV_mk ?_)
  rw [pb_r] at s3
  refine ux_passes s3 (fun y MI3 hy s4 m4 _ => rI_mk ?_) (fun f p MI3 hy s4 m4 _ => rI_mk ?_) (by decide)
  · rw [pb_r] at hy
    have R4 := TreR_mvr (TreR_mvr R2 m3) m4
    have k64 := rcl_64 R4
    rw [k64.1]
    refine ⟨by omega, fun m101 e101 => ?_⟩
    rw [show (((os.length : Nat) : Int) + 1 - 1) = ((os.length : Nat) : Int) by omega] at e101
    exact hT y m101 hy (StR_64 s4 e101) (TreR_pop R4 e101)
  · rw [pb_r] at hy
    have R4 := TreR_mvr (TreR_mvr R2 m3) m4
    have k64 := rcl_64 R4
    rw [k64.1]
    exact ⟨by omega, fun m101 e101 => hF f p m101 hy (StR_64 s4 e101)⟩
theorem rcl_bad {f p ec dp : Int} {ns : List Nd} {os : List Int} (s2 : StR bk T n OI OL B (.inl (f, p)) MI ML) (R2 : TreR bk T n pl D (ns, ec :: os, dp) MI ML) (hF : ∀ MI', StR bk T n OI OL B (.inl (f, p)) MI' ML → Q none (MI', ML, GR d e nw th x)) :
    wp cs mX12_maybeS KD (rV (GR d e nw th x) fun m84 n84 => wp cs mX12_passes KD (rI (GR d e nw th x) fun x90 m90 n90 => (-2147483648 ≤ (m90 124 64) - 1 ∧ (m90 124 64) - 1 < 2147483648) ∧ ∀ m101, m101 = up2 m90 124 64 ((m90 124 64) - 1) → Q none (m101, n90, (GR d e nw th x))) 0 (padL [vR 124, vI 62] 2) [] (KD, m84, n84, (GR d e nw th x))) 0 (padL [vR 124] 1) [] (KD, MI, ML, (GR d e nw th x)) := by
  refine ux_maybeS s2 (fun MI2 s3 m3 _ _ => rV_mk ?_)
  rw [pb_l] at s3
  refine ux_passes s3 (fun y MI3 hy => by cases hy) (fun f' p' MI3 hy s4 m4 _ => rI_mk ?_) (by decide)
  cases hy
  have R4 := TreR_mvr (TreR_mvr R2 m3) m4
  have k64 := rcl_64 R4
  rw [k64.1]
  exact ⟨by omega, fun m101 e101 => hF m101 (StR_64 s4 e101)⟩
theorem ux_close {h ec dp : Int} {ns : List Nd} {os : List Int} (hs : StR bk T n OI OL B (.inr h) MI ML) (h2 : h + 2 ≤ n) (hR : TreR bk T n pl D (ns, ec :: os, dp) MI ML) (hI : TrI (ns, ec :: os, dp))
    (hT : ∀ t' y MI', enS T n (ns, ec :: os, dp) h = .inr (t', y) → StR bk T n OI OL B (.inr y) MI' ML → TreR bk T n pl D t' MI' ML → Q none (MI', ML, GR d e nw th x))
    (hF : ∀ f p MI', enS T n (ns, ec :: os, dp) h = .inl (f, p) → StR bk T n OI OL B (.inl (f, p)) MI' ML → Q none (MI', ML, GR d e nw th x)) :
    wp cs mX12_close KD Q 0 (padL [vR 124] 4) [] (KD, MI, ML, GR d e nw th x) := by
  obtain ⟨a1, a2, a3, a4, a5, a6, a7⟩ := hs.1
  obtain ⟨b1, b2, b3, b4, b5⟩ := hs.2.2
  have h30 := hR.2.2.1.2.1
  simp only [List.length_cons] at h30
  have l600 : ns.length ≤ 600 := hR.2.1.2.1
  obtain ⟨i1, i2, ⟨⟨y0, hy0, hy1, hy2⟩, i3⟩, i4, i5⟩ := hI
  have hec := i1.2.1 ec (by simp)
  obtain ⟨ecn, rfl⟩ : ∃ k : Nat, ec = (k : Int) := ⟨ec.toNat, by omega⟩
  rw [Int.toNat_natCast] at hy0
  have hec2 : ecn < ns.length := by have := hec.2.1; simp only at this; omega
  unfold enS at hT hF
  simp only [List.headD_cons, List.tail_cons, Int.toNat_natCast, List.getD_eq_getElem?_getD] at hT hF
  rw [hy0, Option.getD_some] at hT hF
  refine v_X12_close_0 ?_
  rw [b1]
  refine ⟨by omega, fun m7 e7 => ?_⟩
  obtain ⟨s1, m1⟩ := StR_at hs e7 (by omega)
  have R1 := TreR_mvr hR m1
  have idx : ∀ {m : Nat → Nat → Int}, TreR bk T n pl D (ns, (ecn : Int) :: os, dp) m ML → m 124 64 = ((os.length + 1 : Nat) : Int) ∧ m 173 os.length = (ecn : Int) := fun {m} R => by
    have h1 := R.2.2.1.1
    have h3 := R.2.2.1.2.2 0 (ecn : Int) rfl
    simp only [List.length_cons] at h1 h3
    exact ⟨h1, by rw [← h3]; congr 1⟩
  refine ux_takeName s1 (fun a' g MI2 ha hy s2 m2 e51 => rI_mk ?_) (fun f p g MI2 hy hg s2 m2 => rI_mk ?_)
  · cases ha
    have hg := nmS_ok hy
    have R2 := TreR_mvr R1 m2
    have k8 : MI2 124 8 = (bk : Int) := s2.1.2.2.2.1
    have hix := idx R2
    rw [hy, pb_r] at hT hF
    rw [k8, hix.1, show (((os.length + 1 : Nat) : Int) - 1).toNat = os.length by omega, hix.2, show (600 * (bk : Int) + ((ecn : Nat) : Int)).toNat = 600 * bk + ecn by omega]
    refine ⟨by omega, by omega, by omega, by omega, ux_isGood s2 (fun _ _ => rI_mk ⟨fun z => by omega, fun _ => ?_⟩) (fun f q z => by cases z)⟩
    rw [k8, e51]
    have hA := R2.2.1.2.2 ecn y0 hy0
    have hna : nmR bk T n (6000 * (bk : Int) + (h + 2)) (g - (h + 2)) (nb T (h + 2) g) := by
      unfold nmR
      rw [show 6000 * (bk : Int) + (h + 2) - 6000 * (bk : Int) = h + 2 by omega]
      exact slc_nb (by omega) (by omega) (by omega)
    obtain ⟨t1, t2, t3, t4, t5, t6, t7⟩ := s2.1
    refine ⟨by omega, by omega, by omega, c_isSame a5 a3.2 t6 hna (hA.2.2.1.2 (Or.inl hy1)) (fun r hr => rI_mk ⟨fun z => ?_, fun z => ?_⟩)⟩
    · have hne : nb T (h + 2) g ≠ y0.2.2.1 := fun w => by rw [if_pos w] at hr; omega
      rw [if_pos hne] at hF
      refine ux_fail (by decide) s2 (fun MI3 s3 m3 => rV_mk (rcl_bad s3 (TreR_mvr R2 m3) (fun MI' s' => hF (-2) (h + 2) MI' rfl s')))
    · have heq : nb T (h + 2) g = y0.2.2.1 := Decidable.byContradiction fun w => by rw [if_neg w] at hr; exact z hr
      rw [if_neg (fun w => w heq)] at hT hF
      exact rcl_good s2 R2 (fun y MI' hy s' R' => hT (ns, os, dp) y MI' (by rw [hy]; rfl) s' R') (fun f p MI' hy s' => hF f p MI' (by rw [hy]; rfl) s')
  · have R2 := TreR_mvr R1 m2
    rw [pb_r] at hy
    rw [hy, pb_l] at hF
    have k8 : MI2 124 8 = (bk : Int) := s2.1.2.2.2.1
    have hix := idx R2
    rw [k8, hix.1, show (((os.length + 1 : Nat) : Int) - 1).toNat = os.length by omega, hix.2]
    refine ⟨by omega, by omega, by omega, by omega, ux_isGood s2 (fun _ z => by cases z) (fun _ _ _ => rI_mk ⟨fun _ => ?_, fun z => absurd rfl z⟩)⟩
    exact rcl_bad s2 R2 (fun MI' s' => hF f p MI' rfl s')
theorem c_rct_l (hB : B + 2 ≤ 60000) (hb : ∀ k, -128 ≤ T k ∧ T k < 128) (hV : RuV D.2.2) : ∀ (k pl : Nat) (t : Tr) (h : Int) (MI : Nat → Nat → Int), (n + 1 - h).toNat ≤ k → StR bk T n OI OL B (.inr h) MI ML → TreR bk T n pl D t MI ML → TrV t →
    (∀ pl' t' y MI', ctF T n D.2.2 k pl t h = .inr (pl', t', y) → StR bk T n OI OL (B + 2) (.inr y) MI' ML → TreR bk T n pl' D t' MI' ML → TrV t' → Q none (MI', ML, GR d e nw th x)) →
    (∀ f p MI', ctF T n D.2.2 k pl t h = .inl (f, p) → StR bk T n OI OL (B + 2) (.inl (f, p)) MI' ML → Q none (MI', ML, GR d e nw th x)) →
    wp cs mX12_content KD Q 0 [some (vR 124)] [] (KD, MI, ML, GR d e nw th x) := by
  have bad : ∀ {f p : Int} {MI : Nat → Nat → Int} {B' : Int}, StR bk T n OI OL B' (.inl (f, p)) MI ML → Q none (MI, ML, GR d e nw th x) → wp cs mX12_content KD Q 0 [some (vR 124)] [] (KD, MI, ML, GR d e nw th x) := fun s1 hq => v_X12_content_0 (ux_isGood s1 (fun _ z => by cases z) (fun _ _ _ => rI_mk ⟨fun _ => hq, fun z => absurd rfl z⟩))
  intro k
  induction k with
  | zero =>
    intro pl t h MI hk hs
    have := hs.2.2.2.2.2
    omega
  | succ k ih =>
    intro pl t h MI hk hs hR hI hT hF
    have hn := hs.1.2.2.1
    have hBB := hs.2.1
    have hpl := hR.2.2.2.2.2
    obtain ⟨b1, b2, b3, b4, b5⟩ := hs.2.2
    rw [ctF] at hT hF
    refine v_X12_content_0 (ux_isGood hs (fun _ _ => rI_mk ⟨fun z => by omega, fun _ => ?_⟩) (fun f q z => by cases z))
    have k64 := hR.2.2.1.1
    rw [k64]
    refine ⟨fun hop => ?_, fun hop => ?_⟩
    rotate_left
    · have hnil : t.2.1 = [] := List.eq_nil_of_length_eq_zero (by omega)
      rw [if_pos hnil] at hT
      exact hT pl t h MI rfl (StR_B hs (by omega)) hR hI
    have hne : t.2.1 ≠ [] := fun w => by rw [w] at hop; simp at hop
    rw [if_neg hne] at hT hF
    refine ux_stands (m := 2) (by decide) hs (fun hE => rI_mk ⟨fun z => by omega, fun _ => ?_⟩) (fun hE => rI_mk ⟨fun _ => ?_, fun z => absurd rfl z⟩)
    · rw [wbl_LT] at hE
      have hr := stb_room _ h (by omega) (by decide) (by decide) hE
      simp only [List.length_cons, List.length_nil] at hr
      rw [if_pos hE] at hT hF
      obtain ⟨ns, os, dp⟩ := t
      cases os with
      | nil => exact absurd rfl hne
      | cons ec os =>
        refine ux_close hs (by omega) hR hI.1 (fun t' y MI1 hy s1 R1 => rV_mk ?_) (fun f p MI1 hy s1 => rV_mk ?_)
        · have wf := enS_wf hy hne hI
          rw [hy, pb_r] at hT hF
          exact ih pl t' y MI1 (by omega) s1 R1 wf.1 hT hF
        · rw [hy, pb_l] at hF
          exact bad s1 (hF f p MI1 rfl (StR_B s1 (by omega)))
    rw [wbl_LT] at hE
    rw [if_neg (by rw [hE]; decide)] at hT hF
    refine ux_stands (m := 4) (by decide) hs (fun hC => rI_mk ⟨fun z => by omega, fun _ => ?_⟩) (fun hC => rI_mk ⟨fun _ => ?_, fun z => absurd rfl z⟩)
    · rw [wbl_CMT] at hC
      rw [if_pos hC] at hT hF
      refine ux_comment hs (fun MI1 s1 m1 => rV_mk ?_)
      cases hc : cmS T n (h + 4) with
      | inl w =>
        obtain ⟨f, p⟩ := w
        rw [hc] at s1
        rw [hc, pb_l] at hF
        exact bad s1 (hF f p MI1 rfl (StR_B s1 (by omega)))
      | inr y =>
        rw [hc] at s1
        have hy := cmS_le (by omega) hc
        rw [hc, pb_r] at hT hF
        exact ih pl t y MI1 (by omega) s1 (TreR_mvr hR m1) hI hT hF
    rw [wbl_CMT] at hC
    rw [if_neg (by rw [hC]; decide)] at hT hF
    rw [b1]
    refine ux_octet hs b4 (rI_mk ⟨fun h60 => ?_, fun h60 => ?_⟩)
    · rw [if_pos h60] at hT hF
      have hmb : mbS T n h 60 = .inr (h + 1) := by unfold mbS; rw [if_pos h60]
      refine ux_element (D := D) (pl := pl) (t := t) hs hB (fun a _ => ⟨hR, hI.1⟩) (fun pl' t' y MI1 hy s1 R1 => rV_mk ?_) (fun f p MI1 hy s1 => rV_mk ?_)
      · rw [pb_r, hmb, pb_r] at hy
        have wf := tgS_wf hb hV (by omega) hpl hy hI
        rw [hy, pb_r] at hT hF
        exact ih pl' t' y MI1 (by omega) (StR_Bg s1 hBB) R1 wf.1 hT hF
      · rw [pb_r, hmb, pb_r] at hy
        rw [hy, pb_l] at hF
        exact bad s1 (hF f p MI1 rfl s1)
    · rw [if_neg h60] at hT hF
      refine ux_text hs h60 hR (fun pl' t' y MI1 hy s1 R1 => rV_mk ?_) (fun f p MI1 hy s1 => rV_mk ?_)
      · have wf := teS_wf b4 h60 hpl hy hI
        rw [hy, pb_r] at hT hF
        exact ih pl' t' y MI1 (by omega) s1 R1 wf.1 hT hF
      · rw [hy, pb_l] at hF
        exact bad s1 (hF f p MI1 rfl (StR_B s1 (by omega)))
end Pa02
