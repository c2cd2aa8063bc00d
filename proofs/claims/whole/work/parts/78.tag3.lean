section P78
variable {cs : Cs} {Q : Option AV → Mm → Prop} {MI ML OI OL : Nat → Nat → Int} {b d e nw th : Nat} {T : Nat → Int} {n h : Int} {N : List By} {pl : Nat} {od : Option By} {ds : List Dc} {rs : List Rl} {ns : List Nd} {op : List Int} {dp : Int} {D : Dt}
/-- the tree reader's own cell and the deepest are written -/
theorem DocC_dp (hbd : b = 38 ∨ b = 81) {dp' : Int} {MI' : Nat → Nat → Int} (hD : DocC b T n N pl D ns op dp MI ML) (hf : ∀ j, j ≠ 10 → j ≠ b → MI' j = MI j) (hb : ∀ k, k ≠ 18 → MI' b k = MI b k) (h18 : MI' b 18 = dp') : DocC b T n N pl D ns op dp' MI' ML := by
  refine ⟨NamC_fr hD.1 (fun j z1 z2 => hf j (by omega) (by omega)), IdxC_fr hD.2.1 (fun j z1 z2 => hf j (by omega) (by omega)), SpcC_fr hD.2.2.1 (fun j z1 z2 => hf j (by omega) (by omega)) (fun _ _ _ => rfl), RulC_fr hD.2.2.2.1 (fun j z1 z2 => hf j (by omega) (by omega)) (hf _ (by omega) (by omega)) (hb 14 (by decide)), NodC_fr hD.2.2.2.2.1 (fun j z1 z2 => hf j (by omega) (by omega)) (hb 14 (by decide)) (hb 15 (by decide)) (hb 16 (by decide)), DtC_fr hD.2.2.2.2.2.1 (hb 17 (by decide)), ?_, h18⟩
  rw [hb 14 (by decide), hb 15 (by decide)]; exact hD.2.2.2.2.2.2.1
theorem CurC_w10 (hbd : b = 38 ∨ b = 81) {MI' : Nat → Nat → Int} (hc : CurC b T n OI OL h MI ML) (hf : ∀ j, j ≠ 10 → j ≠ b → MI' j = MI j) : CurC b T n OI OL h MI' ML :=
  CurC_fr hc hbd (fun j z1 z2 => hf j (by omega) (by omega)) (fun _ _ => rfl)
theorem c_tag_l (hbd : b = 38 ∨ b = 81) (hby : ∀ k, -128 ≤ T k ∧ T k < 128) {ec : Nat} {os : List Int} {l2 l3 : Int} : ∀ (k pl : Nat) (ns : List Nd) (h l4 : Int) (N : List By) (MI : Nat → Nat → Int), CurC b T n OI OL h MI ML → DocC b T n N pl D ns ((ec : Int) :: os ++ [0]) dp MI ML → TgI ns ec os → MI 10 1 = (ec : Int) → NmK N h → 0 ≤ l4 ∧ l4 + 1 ≤ h → (n - h).toNat < k →
    (∀ pl' ns' y, atsF T n (ec : Int) k pl ns h = .inr (pl', ns', y) → ∀ N' MI' l4', CurC b T n OI OL y MI' ML → DocC b T n N' pl' D ns' ((ec : Int) :: os ++ [0]) dp MI' ML → TgI ns' ec os → MI' 10 = MI 10 → extN N N' → NmK N' y → wp cs mX10_readTag KD Q 141 [some (vR 10), some (vR b), some (vI l2), some (vI l3), some (vI l4'), none] [] (KD, MI', ML, GR d e nw th 1)) →
    (∀ f z, atsF T n (ec : Int) k pl ns h = .inl (f, z) → ∀ MI', FaiC b OI OL f z MI' ML → Q (some (vI 0)) (MI', ML, GR d e nw th 1)) →
    wp cs mX10_readTag KD Q 103 [some (vR 10), some (vR b), some (vI l2), some (vI l3), some (vI l4), none] [] (KD, MI, ML, GR d e nw th 1) := by
  intro k
  induction k with
  | zero => intro pl ns h l4 N MI _ _ _ _ _ _ hk; omega
  | succ k ih =>
    intro pl ns h l4 N MI hc hD hI hcur hN hl hk hT hF
    have h0 := hc.2.2.2.2.1
    have hn := hc.2.1
    have hn6 := hc.2.2.1
    have hs := sk_le T n h
    rw [atsF_eq] at hT hF
    refine v_X10_readTag_103 hbd ⟨fun _ => ?_, fun z => by omega⟩
    refine lx_reachesName hc (fun hr MI1 c1 m1 => rI_mk ⟨fun z => by omega, fun _ => ?_⟩) (fun hr MI1 c1 m1 => rI_mk ⟨fun _ => ?_, fun z => absurd rfl z⟩)
    · rw [if_pos hr] at hT hF
      refine c_readAttribute hbd hby c1 (DocC_mv hbd hD m1) hI (by rw [m1 10 (by decide)]; exact hcur) (NmK_mono hN (by omega)) (fun pl' ns' y hy N2 MI2 c2 d2 t2 e2 x2 k2 => rI_mk ⟨fun z => by omega, fun _ => ⟨by omega, ?_⟩⟩) (fun f z hy MI2 f2 => rI_mk ⟨fun _ => hF f z (by rw [hy]; rfl) _ f2, fun z => absurd rfl z⟩)
      have hy1 : sk T n h < y := by
        have hp := hD.2.2.2.2.2.2.1
        rcases atS_le c1.2.2.2.2.1.1 hy with h1 | h1
        · exact h1.1
        · omega
      rw [hy, pb_r] at hT hF
      have h2 := c2.2.2.2.2.1
      have e10 : MI2 10 = MI 10 := by rw [e2, m1 10 (by decide)]
      exact ih pl' ns' y (l4 + 1) N2 MI2 c2 d2 t2 (by rw [e10]; exact hcur) k2 (by omega) (by omega) (fun p q z hz N' MI' l4' c' d' t' e' x' k' => hT p q z hz N' MI' l4' c' d' t' (by rw [e', e10]) (extN_tr x2 x') k') hF
    · rw [if_neg hr] at hT
      exact hT pl ns (sk T n h) rfl N MI1 l4 c1 (DocC_mv hbd hD m1) hI (m1 10 (by decide)) (extN_rfl N) (NmK_mono hN (by omega))
theorem TrI_leave {ec : Nat} {os : List Int} {dp : Int} (hI : TgI ns ec os) (h30 : os.length ≤ 30) (h6 : ns.length ≤ 600) : TrI (ns, os, dp) := ⟨OpW_pop hI.1, hI.2.1, hI.2.2.2.2.2, h30, h6⟩
theorem TrI_stay {ec : Nat} {os : List Int} {dp : Int} (hI : TgI ns ec os) (h30 : os.length < 30) (h6 : ns.length ≤ 600) : TrI (ns, (ec : Int) :: os, dp) := ⟨hI.1, hI.2.1, hI.2.2.2.2, by simp only [List.length_cons]; omega, h6⟩
/-- an ELEMENT's NODE: its name stays while attributes come -/
theorem dfF_pre {ec : Int} {o : By} : ∀ (l : List Rl) (ns ns' : List Nd), dfF ec o l ns = some ns' → ∃ s, ns' = ns ++ s
  | [], ns, ns', h => by simp only [dfF] at h; cases h; exact ⟨[], by simp⟩
  | r :: t, ns, ns', h => by
    rw [dfF] at h
    split at h
    · split at h
      · cases h
      · obtain ⟨s, hs⟩ := dfF_pre t _ _ h
        exact ⟨_ :: s, by rw [hs, List.append_assoc]; rfl⟩
    · exact dfF_pre t _ _ h
theorem atsF_pre (T : Nat → Int) (n ec : Int) : ∀ (k pl : Nat) (ns : List Nd) (h : Int) (pl' : Nat) (ns' : List Nd) (y : Int), atsF T n ec k pl ns h = .inr (pl', ns', y) → ∃ s, ns' = ns ++ s
  | 0, pl, ns, h, pl', ns', y, hy => by simp [atsF] at hy
  | k + 1, pl, ns, h, pl', ns', y, hy => by
    rw [atsF_eq] at hy
    split at hy
    · obtain ⟨q, h1, h2⟩ := pb_inr hy
      obtain ⟨s, hs⟩ := atsF_pre T n ec k _ _ _ _ _ _ h2
      have : ∃ z, q.2.1 = ns ++ [z] := by
        unfold atS at h1
        obtain ⟨g, _, h1⟩ := pb_inr h1
        split at h1
        · cases h1
        · split at h1
          · cases h1
          · obtain ⟨z, _, h1⟩ := pb_inr h1
            obtain ⟨w, _, h1⟩ := pb_inr h1
            injection h1 with h1
            exact ⟨_, (congrArg (fun z => z.2.1) h1).symm⟩
      obtain ⟨z, hz⟩ := this
      exact ⟨z :: s, by rw [hs, hz, List.append_assoc]; rfl⟩
    · cases hy; exact ⟨[], by simp⟩
theorem c_readTag (hbd : b = 38 ∨ b = 81) (hby : ∀ k, -128 ≤ T k ∧ T k < 128) (hG : RuG rs) {t : Tr} (hc : CurC b T n OI OL h MI ML) (hD : DocC b T n N pl (od, ds, rs) t.1 (t.2.1 ++ [0]) t.2.2 MI ML) (hI : TrI t) (hC : TrC t MI) (hk : NmK N (h - 1)) (h1 : 1 ≤ h)
    (hT : ∀ pl' t' y, tgS T n rs pl t h = .inr (pl', t', y) → ∀ N' MI', CurC b T n OI OL y MI' ML → DocC b T n N' pl' (od, ds, rs) t'.1 (t'.2.1 ++ [0]) t'.2.2 MI' ML → TrI t' → TrC t' MI' → NmK N' y → Q (some (vI 1)) (MI', ML, GR d e nw th 1))
    (hF : ∀ f z, tgS T n rs pl t h = .inl (f, z) → ∀ MI', FaiC b OI OL f z MI' ML → Q (some (vI 0)) (MI', ML, GR d e nw th 1)) :
    wp cs mX10_readTag KD Q 0 (padL [vR 10, vR b] 6) [] (KD, MI, ML, GR d e nw th 1) := by
  have h0 := hc.2.2.2.2.1
  have hn6 := hc.2.2.1
  obtain ⟨i1, i2, i3, i4, i5⟩ := hI
  unfold tgS at hT hF
  refine v_X10_readTag_0 hbd (lx_needName hc (fun g hg MI1 c1 m1 l1 => rI_mk ⟨fun z => by omega, fun _ => ?_⟩) (fun f z hg MI1 f1 => rI_mk ⟨fun _ => hF f z (by rw [hg]; rfl) _ f1, fun z => absurd rfl z⟩))
  have hg1 := nmS_ok hg
  rw [hg, pb_r] at hT hF
  rw [m1 10 (by decide), hC.1, hC.2, l1.1]
  have bad : ∀ (MI2 : Nat → Nat → Int), frC b OI OL MI2 ML → (30 ≤ t.2.1.length ∨ 600 ≤ t.1.length) → wp cs mX10_readTag KD Q 53 [some (vR 10), some (vR b), some (vI h), none, none, none] [vI (-1)] (KD, MI2, ML, GR d e nw th 1) := fun MI2 f2 hb => by
    rw [if_pos hb] at hF
    exact v_X10_readTag_53 hbd ⟨fun _ => lx_refuse f2 (fun MI' hf => rI_mk ⟨Or.inl rfl, hF _ _ rfl _ hf⟩), fun z => absurd rfl z⟩
  refine ⟨fun hlt => ?_, fun hge => bad MI1 c1.2.2.2.2.2 (Or.inl (by omega))⟩
  refine c_keepD hbd hby c1 l1 h0.1 hg (DocC_mv hbd hD m1) hk (fun N2 i MI2 d2 x2 id2 k2 c2 fr2 => rI_mk ?_)
  by_cases h6 : 600 ≤ t.1.length
  · refine v_X3_add_0 hbd ⟨fun z => by have := d2.2.2.2.2.1.1; omega, fun _ => rI_mk (bad MI2 c2.2.2.2.2.2 (Or.inr h6))⟩
  rw [if_neg (by omega)] at hT hF
  have hmem := headD_mem t.2.1
  have hup := i1.2.1 _ hmem
  obtain ⟨hne, _⟩ := nb_head hby h0.1 hg
  refine c_X3_add hbd (by omega) d2 (Or.inr id2) (Or.inr ⟨hup.1, hup.2.1⟩) (fun k y hy hk2 hop hes => i1.2.2 k y hy hk2 hop hes _ hmem) i2.1 (fun MI3 d3 f3 f3b _ => rI_mk ?_)
  refine v_X10_readTag_53 hbd ⟨fun z => by omega, fun _ => ?_⟩
  intro m72 e72
  have e310 : MI3 10 = MI 10 := by rw [f3 10 (by omega) (by omega), fr2 10 (by omega), m1 10 (by decide)]
  have q1 : m72 10 2 = (t.2.1.length : Nat) := by rw [e72, up2_nk (by decide), e310]; exact hC.2
  rw [q1]
  refine ⟨by omega, ?_⟩
  intro m82 e82
  have q2 : m82 10 2 = (t.2.1.length : Nat) + 1 := by rw [e82, up2_eq]
  have q3 : m82 b 18 = t.2.2 := by rw [e82, e72, up2_ne (by omega), up2_ne (by omega), f3b 18 (by decide)]; exact d2.2.2.2.2.2.2.2
  rw [q2, q3]
  intro m97 e97
  have fr : ∀ j, j ≠ 10 → j ≠ b → m97 j = MI3 j := fun j z1 z2 => by rw [e97, e82, e72]; funext k; rw [up2_ne z2, up2_ne z1, up2_ne z1]
  have frb : ∀ k, k ≠ 18 → m97 b k = MI3 b k := fun k hk => by rw [e97, up2_nk hk, e82, e72, up2_ne (by omega), up2_ne (by omega)]
  have c3 : CurC b T n OI OL g MI3 ML := CurC_fr c2 hbd (fun j z1 z2 => f3 j (by omega) (by omega)) (fun _ _ => rfl)
  have c4 := CurC_w10 hbd c3 fr
  have d4 : DocC b T n N2 pl (od, ds, rs) (t.1 ++ [(1, t.2.1.headD 0, nb T h g, [], 0, 0)]) (((t.1.length : Nat) : Int) :: t.2.1 ++ [0]) (if t.2.2 < (t.2.1.length : Nat) + 1 then (t.2.1.length : Nat) + 1 else t.2.2) m97 ML :=
    DocC_dp hbd (DocC_op (fun o ho => List.mem_cons_of_mem _ ho) d3) fr frb (by rw [e97, up2_eq])
  have tg : TgI (t.1 ++ [(1, t.2.1.headD 0, nb T h g, [], 0, 0)]) t.1.length t.2.1 := by
    refine ⟨OpW_push i1 (headD_max i1.1) hmem, AtW_other i2 (fun z => by simp at z) hup.2.1, by simp, ?_, ⟨(1, t.2.1.headD 0, nb T h g, [], 0, 0), by rw [Int.toNat_natCast]; exact last_get t.1 _, rfl, rfl⟩, OpU_app i3⟩
    rw [cntA_app, if_neg (by simp), cntA_out i2.1 (Nat.le_refl _)]; simp
  have e10 : m97 10 1 = ((t.1.length : Nat) : Int) := by rw [e97, up2_ne (by omega), e82, up2_nk (by decide), e72, up2_eq]
  have e102 : m97 10 2 = (t.2.1.length : Nat) + 1 := by rw [e97, up2_ne (by omega)]; exact q2
  refine c_tag_l hbd hby (n + 1).toNat pl _ g 0 N2 m97 c4 d4 tg e10 k2 (by omega) (by omega) (fun pl' ns' y hy N5 MI5 l4' c5 d5 t5 e5 x5 k5 => ?_) (fun f z hy MI5 f5 => hF f z (by rw [hy]; rfl) _ f5)
  rw [hy, pb_r] at hT hF
  simp only at hT hF
  obtain ⟨s, hs⟩ := atsF_pre T n _ _ _ _ _ _ _ _ hy
  have hel : ns'[t.1.length]? = some (1, t.2.1.headD 0, nb T h g, [], 0, 0) := by rw [hs, List.append_assoc, List.getElem?_append_right (Nat.le_refl _)]; simp
  have h5 := c5.2.2.2.2.1
  have hy1 : g ≤ y := by
    have := c5.2.2.2.1
    have hk5 := k5.1
    have : ∀ (k pl : Nat) (ns : List Nd) (h : Int) (pl' : Nat) (ns' : List Nd) (y : Int), 0 ≤ h → pl ≤ 2000 → atsF T n ((t.1.length : Nat) : Int) k pl ns h = .inr (pl', ns', y) → h ≤ y := by
      intro k
      induction k with
      | zero => intro pl ns h pl' ns' y _ _ hy; simp [atsF] at hy
      | succ k ih =>
        intro pl ns h pl' ns' y h0 hp hy
        have := sk_le T n h
        rw [atsF_eq] at hy
        split at hy
        · obtain ⟨q, z1, z2⟩ := pb_inr hy
          rcases atS_le (by omega) (show atS T n _ pl ns (sk T n h) = .inr (q.1, q.2.1, q.2.2) from z1) with z | z
          · have := ih _ _ _ _ _ _ (by omega) z.2 z2; omega
          · omega
        · cases hy; omega
    exact this _ _ _ _ _ _ _ (by omega) (by have := d4.2.2.2.2.2.2.1.2.2; exact this) hy
  have e510 : MI5 10 1 = ((t.1.length : Nat) : Int) ∧ MI5 10 2 = (t.2.1.length : Nat) + 1 := by rw [e5]; exact ⟨e10, e102⟩
  have e22 : MI5 2 2 = y := c5.2.2.2.1
  -- the defaults, and the end of the tag
  have tail : ∀ (cl : Bool) (z : Int) (MI6 : Nat → Nat → Int), y ≤ z → CurC b T n OI OL z MI6 ML → mvd MI5 MI6 → (∀ (r : PR (Nat × Tr × Int)), r = (match dfF ((t.1.length : Nat) : Int) (nb T h g) rs ns' with
      | none => .inl (-3, y)
      | some ns => .inr (pl', (ns, (if cl = true then t.2.1 else ((t.1.length : Nat) : Int) :: t.2.1), if t.2.2 < (t.2.1.length : Nat) + 1 then (t.2.1.length : Nat) + 1 else t.2.2), z)) →
        (∀ pl' t' y, r = .inr (pl', t', y) → ∀ N' MI', CurC b T n OI OL y MI' ML → DocC b T n N' pl' (od, ds, rs) t'.1 (t'.2.1 ++ [0]) t'.2.2 MI' ML → TrI t' → TrC t' MI' → NmK N' y → Q (some (vI 1)) (MI', ML, GR d e nw th 1)) → (∀ f z, r = .inl (f, z) → ∀ MI', FaiC b OI OL f z MI' ML → Q (some (vI 0)) (MI', ML, GR d e nw th 1)) →
      wp cs mX10_addDefaults KD (rI (GR d e nw th 1) fun x182 m182 n182 => ((x182 = 0 → wp cs mX1_refuse KD (rI (GR d e nw th 1) fun x196 m196 n196 => (x196 = 0 ∨ x196 = 1) ∧ Q (some (vI x196)) (m196, n196, (GR d e nw th 1))) 0 (padL [vR 2, vI (-3), vI (MI5 2 2)] 3) [] (KD, m182, n182, (GR d e nw th 1))) ∧ (x182 ≠ 0 → (((if cl = true then (1 : Int) else 0) = 0 → Q (some (vI 1)) (m182, n182, (GR d e nw th 1))) ∧ ((if cl = true then (1 : Int) else 0) ≠ 0 → wp cs mX10_leave KD (rV (GR d e nw th 1) fun m207 n207 => Q (some (vI 1)) (m207, n207, (GR d e nw th 1))) 0 (padL [vR 10, vR b] 2) [] (KD, m182, n182, (GR d e nw th 1))))))) 0 (padL [vR 10, vR b] 7) [] (KD, MI6, ML, (GR d e nw th 1))) := by
    intro cl z MI6 hyz c6 m6 r hr hT2 hF2
    have d6 := DocC_mv hbd d5 m6
    refine c_addDefaults hbd hG c6 d6 t5 (by rw [m6 10 (by decide)]; exact e510.1) hel rfl hne (fun ns2 hn2 MI7 c7 d7 t7 e7 => rI_mk ⟨fun z => by omega, fun _ => ?_⟩) (fun hno MI7 c7 => rI_mk ⟨fun _ => ?_, fun z => absurd rfl z⟩)
    · rw [hn2] at hr
      simp only at hr
      have e710 : MI7 10 = MI5 10 := by rw [e7, m6 10 (by decide)]
      have h600 := d7.2.2.2.2.1.2.1
      cases cl with
      | false =>
        refine ⟨fun _ => ?_, fun z => absurd rfl z⟩
        exact hT2 _ _ _ hr N5 MI7 c7 d7 (TrI_stay t7 (by omega) h600) ⟨by rw [e710]; exact e510.1, by rw [e710, e510.2]; simp⟩ (NmK_mono k5 hyz)
      | true =>
        refine ⟨fun z => by simp at z, fun _ => ?_⟩
        refine c_leave hbd c7 d7 t7.1 t7.2.2.2.2 (by rw [e710]; exact e510.1) (by rw [e710]; exact e510.2) (by omega) (fun MI8 c8 d8 e8 e8' => rV_mk ?_)
        exact hT2 _ _ _ hr N5 MI8 c8 d8 (TrI_leave (os := t.2.1) t7 i4 h600) ⟨e8, e8'⟩ (NmK_mono k5 hyz)
    · rw [hno] at hr
      rw [e22]
      exact lx_refuse c7.2.2.2.2.2 (fun MI' hf => rI_mk ⟨Or.inl rfl, hF2 _ _ hr _ hf⟩)
  refine v_X10_readTag_141 hbd (lx_takeIf (k := 29) (by decide) c5 (fun hs6 MI6 c6 m6 => rI_mk ⟨fun z => by omega, fun _ => ?_⟩) (fun hs6 => rI_mk ⟨fun _ => ?_, fun z => absurd rfl z⟩))
  · have s2 : sl 29 = 2 := by decide
    rw [s2] at c6
    rw [show stb T n y [47, 62] = true from hs6] at hT hF
    simp only [if_true, pb_r] at hT hF
    exact tail true (y + 2) MI6 (by omega) c6 m6 _ rfl hT hF
  · rw [show stb T n y [47, 62] = false from hs6] at hT hF
    simp only [Bool.false_eq_true, if_false] at hT hF
    refine lx_take1 (k := 2) (c := 62) (by decide) rfl c5 (fun z hz MI6 c6 m6 => rI_mk ⟨fun z => by omega, fun _ => ?_⟩) (fun f z hz MI6 f6 => rI_mk ⟨fun _ => hF f z (by rw [hz]; rfl) _ f6, fun z => absurd rfl z⟩)
    have hz1 := mbS_eq hz
    rw [hz, pb_r] at hT hF
    exact tail false z MI6 (by omega) c6 m6 _ rfl hT hF
end P78
