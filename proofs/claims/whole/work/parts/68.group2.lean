section P68
variable {cs : Cs} {Q : Option AV → Mm → Prop} {MI ML OI OL : Nat → Nat → Int} {b d e nw th : Nat} {T : Nat → Int} {n h hb : Int} {N : List By} {pl : Nat} {o : Option By} {ds : List Dc} {q : Dc} {rs : List Rl} {ns : List Nd} {op : List Int} {dp : Int}
theorem c_openGroup {gs : List Gp} (hG : GrF MI ML hb gs) (h46 : MI 4 6 = (gs.length : Nat)) (hl : gs.length < 6) (h0 : 0 ≤ hb)
    (hQ : ∀ MI' ML', GrF MI' ML' hb ((0, false, 0, 0, 0) :: gs) → MI' 4 6 = (gs.length : Nat) + 1 → (∀ j, ¬ (4 ≤ j ∧ j ≤ 9) → MI' j = MI j ∧ ML' j = ML j) → Q none (MI', ML', GR d e nw th 1)) :
    wp cs mX2_openGroup KD Q 0 (padL [vR 4] 1) [] (KD, MI, ML, GR d e nw th 1) := by
  refine v_X2_openGroup_0 ⟨by omega, ?_⟩
  rw [h46]
  simp only [Int.toNat_natCast]
  intro m9 e9
  have q1 : m9 4 6 = (gs.length : Nat) := by simp [e9, up2, h46]
  rw [q1]
  refine ⟨by omega, ?_⟩
  simp only [Int.toNat_natCast]
  intro m19 e19
  have q2 : m19 4 6 = (gs.length : Nat) := by simp [e19, up2, q1]
  rw [q2]
  refine ⟨by omega, ?_⟩
  simp only [Int.toNat_natCast]
  intro n29 f29 n39 f39 m49 e49
  have q3 : m49 4 6 = (gs.length : Nat) := by simp [e49, up2, q2]
  rw [q3]
  refine ⟨by omega, ?_⟩
  intro m57 e57
  refine hQ _ _ ⟨⟨?_, ?_, ?_, ?_, Or.inl rfl, ?_, ?_, fun _ => rfl⟩, GrF_fr hG (fun i hi => ⟨?_, ?_, ?_, ?_, ?_⟩) (Int.le_refl _)⟩ ?_ ?_
  · simp [e57, e49, e19, e9, up2]
  · simp [e57, e49, e19, e9, up2]
  · simp [e57, e49, e19, e9, up2, h0]
  · simp [e57, e49, e19, e9, up2]
  · simp [f39, f29, up2]
  · simp [f39, f29, up2]
  · simp [e57, e49, e19, e9, up2]; omega
  · simp [e57, e49, e19, e9, up2]; omega
  · simp [e57, e49, e19, e9, up2]; omega
  · simp [f39, f29, up2]; omega
  · simp [f39, f29, up2]; omega
  · simp [e57, up2]
  · intro j hj
    refine ⟨?_, ?_⟩ <;> funext k
    · simp only [e57, e49, e19, e9, up2]; repeat rw [if_neg (by omega)]
    · simp only [f39, f29, up2]; repeat rw [if_neg (by omega)]
theorem c_closeGroup {g : Gp} {t : List Gp} (hG : GrF MI ML hb (g :: t)) (h46 : MI 4 6 = (t.length : Nat) + 1) (hl : t.length < 6)
    (hQ : ∀ MI' ML', PtC g.2.2 MI' ML' → GrF MI' ML' hb t → MI' 4 6 = (t.length : Nat) → (∀ j, j ≠ 4 → MI' j = MI j ∧ ML' j = ML j) → Q none (MI', ML', GR d e nw th 1)) :
    wp cs mX2_closeGroup KD Q 0 (padL [vR 4] 1) [] (KD, MI, ML, GR d e nw th 1) := by
  obtain ⟨⟨a1, a2, a3, a4, a5, a6, a7, a8⟩, hGt⟩ := hG
  refine v_X2_closeGroup_0 ⟨by omega, ?_⟩
  rw [h46]
  intro m7 e7
  have q1 : m7 4 6 = (t.length : Nat) := by simp [e7, up2]
  rw [q1]
  refine ⟨by omega, ?_⟩
  simp only [Int.toNat_natCast]
  intro n20 f20 n33 f33
  have q2 : m7 9 t.length = g.2.2.1 := by simp [e7, up2, a4]
  rw [q2]
  refine ⟨by omega, ?_⟩
  intro m46 e46
  refine hQ _ _ ⟨by simp [e46, up2], a5, by simp [f33, f20, up2, a6], by simp [f33, f20, up2, a7]⟩ (GrF_fr hGt (fun i hi => ⟨?_, ?_, ?_, ?_, ?_⟩) (Int.le_refl _)) (by simp [e46, up2, q1]) ?_
  · simp [e46, e7, up2]
  · simp [e46, e7, up2]
  · simp [e46, e7, up2]
  · simp [f33, f20, up2]
  · simp [f33, f20, up2]
  · intro j hj
    refine ⟨?_, ?_⟩ <;> funext k
    · simp only [e46, e7, up2]; repeat rw [if_neg (by omega)]
    · simp only [f33, f20, up2]; repeat rw [if_neg (by omega)]
theorem c_readSign {g : Gp} {t : List Gp} (hb2 : b = 38 ∨ b = 81) (hc : CurC b T n OI OL h MI ML) (hG : GrF MI ML hb (g :: t)) (h46 : MI 4 6 = (t.length : Nat) + 1) (hl : t.length < 6)
    (hT : (ob T n h = 124 ∨ ob T n h = 44) ∧ (g.1 = 0 ∨ g.1 = ob T n h) → ∀ MI', CurC b T n OI OL (h + 1) MI' ML → GrF MI' ML hb ((ob T n h, g.2) :: t) → (∀ j, j ≠ 2 → j ≠ 5 → MI' j = MI j) → Q (some (vI 1)) (MI', ML, GR d e nw th 1))
    (hF : ¬ ((ob T n h = 124 ∨ ob T n h = 44) ∧ (g.1 = 0 ∨ g.1 = ob T n h)) → ∀ MI', FaiC b OI OL (-1) h MI' ML → Q (some (vI 0)) (MI', ML, GR d e nw th 1)) :
    wp cs mX2_readSign KD Q 0 (padL [vR 4] 3) [] (KD, MI, ML, GR d e nw th 1) := by
  have hGt := hG.2
  obtain ⟨a1, a2, a3, a4, a5, a6, a7, a8⟩ := hG.1
  have e2 : MI 2 2 = h := hc.2.2.2.1
  have hh := hc.2.2.2.2.1
  have hn := hc.2.2.1
  have ei : ((t.length : Nat) : Int) + 1 - 1 = (t.length : Nat) := by omega
  have good : (ob T n h = 124 ∨ ob T n h = 44) → (g.1 = 0 ∨ g.1 = ob T n h) → wp cs mX2_readSign KD Q 57 [some (vR 4), some (vI (ob T n h)), some (vI g.1)] [] (KD, MI, ML, GR d e nw th 1) := fun k1 k2 => by
    have hlt := ob_lt (T := T) (n := n) (h := h) (c := ob T n h) (by omega) rfl
    refine v_X2_readSign_57 ?_
    rw [h46, ei]
    refine ⟨by omega, by omega, ?_⟩
    simp only [Int.toNat_natCast]
    intro m68 e68
    have q1 : m68 2 2 = h := by simp [e68, up2, e2]
    rw [q1]
    refine ⟨by omega, ?_⟩
    intro m79 e79
    have fr : ∀ j, j ≠ 2 → j ≠ 5 → m79 j = MI j := fun j z1 z2 => by funext k; simp only [e79, e68, up2]; rw [if_neg (by omega), if_neg (by omega)]
    refine hT ⟨k1, k2⟩ _ ⟨?_, ?_, ⟨hn.1, hn.2.1, by simp [e79, e68, up2]; exact hn.2.2⟩, ?_, by omega, fun j hj => ?_⟩ ⟨⟨?_, ?_, ?_, ?_, a5, a6, a7, a8⟩, GrF_fr hGt (fun i hi => ⟨?_, ?_, ?_, rfl, rfl⟩) (Int.le_refl _)⟩ fr
    · rw [fr 1 (by decide) (by decide)]; exact hc.1
    · simp [e79, e68, up2]; exact hc.2.1
    · simp [e79, up2]
    · have hj1 : j ≠ 2 := fun z => hj (Or.inl z)
      have hj2 : ¬ (4 ≤ j ∧ j ≤ 10) := fun z => hj (Or.inr (Or.inl z))
      rw [fr j hj1 (by omega)]
      exact hc.2.2.2.2.2 j hj
    · simp [e79, e68, up2]
    · rw [fr 6 (by decide) (by decide)]; exact a2
    · rw [fr 6 (by decide) (by decide)]; exact a3
    · rw [fr 9 (by decide) (by decide)]; exact a4
    · simp [e79, e68, up2]; omega
    · rw [fr 6 (by decide) (by decide)]
    · rw [fr 9 (by decide) (by decide)]
  have bad : ¬ ((ob T n h = 124 ∨ ob T n h = 44) ∧ (g.1 = 0 ∨ g.1 = ob T n h)) → wp cs mX1_refuse KD (rI (GR d e nw th 1) fun x53 m53 n53 => (x53 = 0 ∨ x53 = 1) ∧ Q (some (vI x53)) (m53, n53, (GR d e nw th 1))) 0 (padL [vR 2, vI (-1), vI (MI 2 2)] 3) [] (KD, MI, ML, (GR d e nw th 1)) := fun k => by
    rw [e2]
    exact lx_refuse hc.2.2.2.2.2 (fun MI' hf => rI_mk ⟨Or.inl rfl, hF k MI' hf⟩)
  refine v_X2_readSign_0 (lx_peek hc (rI_mk ?_))
  rw [h46, ei]
  simp only [Int.toNat_natCast]
  rw [a1]
  refine ⟨by omega, by omega, fun z1 => ⟨fun z2 => good (Or.inl z1) (Or.inl z2), fun z2 => ⟨fun z3 => good (Or.inl z1) (Or.inr z3), fun z3 => bad (by omega)⟩⟩, fun z1 => ⟨fun z0 => ⟨fun z2 => good (Or.inr z0) (Or.inl z2), fun z2 => ⟨fun z3 => good (Or.inr z0) (Or.inr z3), fun z3 => bad (by omega)⟩⟩, fun z0 => bad (by omega)⟩⟩
/-- what mkS makes of a PART lies well -/
theorem mkS_pt {p : Pl} {pt : Pt} (hp : pt.1 = 0 ∨ pt.1 = 1) : (mkS T n h p pt).2.1.1 = 0 ∨ (mkS T n h p pt).2.1.1 = 1 := by
  unfold mkS
  repeat' split
  all_goals first | exact Or.inr rfl | exact hp
theorem mkS_h (p : Pl) (pt : Pt) : h ≤ (mkS T n h p pt).2.2 ∧ (mkS T n h p pt).2.2 ≤ h + 1 := by
  unfold mkS
  repeat' split
  all_goals simp only; omega
/-- behind the sign of a PART -/
def epS (T : Nat → Int) (n h : Int) (p : Pl) (pt : Pt) (gs : List Gp) : Pl × List Gp × Int :=
  let z := mkS T n h p pt
  match gs with
  | [] => (z.1, [], z.2.2)
  | g :: t => ((cmG z.1 z.2.1 g).1, (cmG z.1 z.2.1 g).2 :: t, z.2.2)
def EpP (b : Nat) (T : Nat → Int) (n : Int) (N : List By) (pl : Nat) (o : Option By) (ds : List Dc) (q : Dc) (rs : List Rl) (ns : List Nd) (op : List Int) (dp : Int) (p : Pl) (pt : Pt) (hb : Int) : List Gp → (Nat → Nat → Int) → (Nat → Nat → Int) → Prop
  | [], MI, ML => DocC b T n N pl (o, ds ++ [qPl q p], rs) ns op dp MI ML ∧ PtC pt MI ML
  | g :: t, MI, ML => DocC b T n N pl (o, ds ++ [qPl q (cmG p pt g).1], rs) ns op dp MI ML ∧ GrF MI ML (hb + 1) ((cmG p pt g).2 :: t)
theorem c_endPart_93 (hbd : b = 38 ∨ b = 81) {l3 l4 l5 : Int} {p : Pl} {pt : Pt} {gs : List Gp} (hl : gs.length ≤ 6) (hb0 : 0 ≤ hb ∧ hb ≤ 6000) (hc : CurC b T n OI OL h MI ML) (hD : DocC b T n N pl (o, ds ++ [qPl q p], rs) ns op dp MI ML) (hG : GrF MI ML hb gs) (h46 : MI 4 6 = (gs.length : Nat)) (hP : PtC pt MI ML)
    (hQ : ∀ MI' ML', CurC b T n OI OL h MI' ML' → EpP b T n N pl o ds q rs ns op dp p pt hb gs MI' ML' → MI' 4 6 = (gs.length : Nat) → Q none (MI', ML', GR d e nw th 1)) :
    wp cs mX2_endPart KD Q 93 [some (vR 4), some (vR (b + 9)), some (vI (ds.length : Nat)), some (vI l3), some (vI l4), some (vI l5)] [] (KD, MI, ML, GR d e nw th 1) := by
  refine v_X2_endPart_93 hbd ⟨fun h1 => ⟨by omega, ?_⟩, fun h1 => ?_⟩
  · cases gs with
    | nil => simp only [List.length_nil] at h46; omega
    | cons g t =>
      simp only [List.length_cons] at h46 hl
      rw [h46, show ((t.length + 1 : Nat) : Int) - 1 = (t.length : Nat) by omega]
      refine c_joinPart hbd (by omega) hb0 hD.2.2.1 hG hP (fun MI' ML' k1 k2 k3 k4 k5 k6 => rV_mk (hQ _ _ ?_ ⟨DocC_spc (q := qPl q p) hbd rfl hD k1 k3, k2⟩ ?_))
      · obtain ⟨a1, a2, a3, a4, a5, a6⟩ := hc
        refine ⟨by rw [(k3 1 (by omega)).1]; exact a1, by rw [k4]; exact a2, ⟨a3.1, a3.2.1, by rw [k4]; exact a3.2.2⟩, by rw [k4]; exact a4, a5, fun j hj => ?_⟩
        have z1 : j ≠ 2 := fun z => hj (Or.inl z)
        have z2 : ¬ (4 ≤ j ∧ j ≤ 10) := fun z => hj (Or.inr (Or.inl z))
        have z3 : ¬ (b ≤ j ∧ j ≤ b + 42) := fun z => hj (Or.inr (Or.inr z))
        have := k3 j (by omega)
        rw [this.1, this.2]; exact a6 j hj
      · rw [k5]; exact h46
  · cases gs with
    | nil => exact hQ MI ML hc ⟨hD, hP⟩ h46
    | cons g t => simp only [List.length_cons] at h46; omega
/-- a cell that only the declarations' reader holds is written -/
theorem CurC_w4 (hbd : b = 38 ∨ b = 81) (hc : CurC b T n OI OL h MI ML) {MI' ML' : Nat → Nat → Int} (hI : ∀ j, j ≠ 4 → MI' j = MI j) (hL : ∀ j, j ≠ 4 → ML' j = ML j) : CurC b T n OI OL h MI' ML' := by
  refine CurC_fr hc hbd (fun i h1 h2 => hI i (by omega)) (fun i hi => hL i (fun z => hi (Or.inr (Or.inl (by omega)))))
theorem DocC_w4 (hbd : b = 38 ∨ b = 81) {D : Dt} (hD : DocC b T n N pl D ns op dp MI ML) {MI' ML' : Nat → Nat → Int} (hI : ∀ j, b ≤ j → MI' j = MI j) (hL : ∀ j, b ≤ j → ML' j = ML j) : DocC b T n N pl D ns op dp MI' ML' :=
  DocC_fr hD (fun i h1 _ => hI i h1) (fun i h1 _ => hL i h1)
theorem c_endPart (hbd : b = 38 ∨ b = 81) {p : Pl} {pt : Pt} {gs : List Gp} (hl : gs.length ≤ 6) (hb0 : 0 ≤ hb ∧ hb ≤ 6000) (hc : CurC b T n OI OL h MI ML) (hD : DocC b T n N pl (o, ds ++ [qPl q p], rs) ns op dp MI ML) (hG : GrF MI ML hb gs) (h46 : MI 4 6 = (gs.length : Nat)) (hP : PtC pt MI ML)
    (hQ : ∀ MI' ML', CurC b T n OI OL (mkS T n h p pt).2.2 MI' ML' → EpP b T n N pl o ds q rs ns op dp (mkS T n h p pt).1 (mkS T n h p pt).2.1 hb gs MI' ML' → MI' 4 6 = (gs.length : Nat) → Q none (MI', ML', GR d e nw th 1)) :
    wp cs mX2_endPart KD Q 0 (padL [vR 4, vR (b + 9), vI (ds.length : Nat)] 6) [] (KD, MI, ML, GR d e nw th 1) := by
  have k63 : ∀ {h}, stb T n h (sB 14) = true ↔ ob T n h = 63 := stb1
  have k42 : ∀ {h}, stb T n h (sB 13) = true ↔ ob T n h = 42 := stb1
  have k43 : ∀ {h}, stb T n h (sB 15) = true ↔ ob T n h = 43 := stb1
  have mG : ∀ {MI' : Nat → Nat → Int}, mvd MI MI' → GrF MI' ML hb gs := fun hm => GrF_fr hG (fun i _ => ⟨by rw [hm 5 (by decide)], by rw [hm 6 (by decide)], by rw [hm 9 (by decide)], rfl, rfl⟩) (Int.le_refl _)
  have mD : ∀ {MI' : Nat → Nat → Int}, mvd MI MI' → DocC b T n N pl (o, ds ++ [qPl q p], rs) ns op dp MI' ML := fun hm => DocC_w4 hbd hD (fun j hj => hm j (by omega)) (fun _ _ => rfl)
  have mP : ∀ {MI' : Nat → Nat → Int}, mvd MI MI' → PtC pt MI' ML := fun hm => ⟨by rw [hm 4 (by decide)]; exact hP.1, hP.2⟩
  -- the link, then the mark, then the join
  have go : ∀ (MI1 ML1 : Nat → Nat → Int) (p1 : Pl) (pt1 : Pt) (h1 l3 l4 l5 : Int), CurC b T n OI OL h1 MI1 ML1 → DocC b T n N pl (o, ds ++ [qPl q p1], rs) ns op dp MI1 ML1 → GrF MI1 ML1 hb gs → MI1 4 6 = (gs.length : Nat) → PtC pt1 MI1 ML1 →
      mkS T n h p pt = (p1, (if l3 = 0 ∧ l4 = 0 then pt1 else (1, pt1.2)), h1) → wp cs mX2_endPart KD Q 79 [some (vR 4), some (vR (b + 9)), some (vI (ds.length : Nat)), some (vI l3), some (vI l4), some (vI l5)] [] (KD, MI1, ML1, GR d e nw th 1) := by
    intro MI1 ML1 p1 pt1 h1 l3 l4 l5 c1 c2 c3 c4 c5 hmk
    rw [hmk] at hQ
    simp only at hQ
    have put : ¬ (l3 = 0 ∧ l4 = 0) → ∀ m, m = up2 MI1 4 9 1 → wp cs mX2_endPart KD Q 93 [some (vR 4), some (vR (b + 9)), some (vI (ds.length : Nat)), some (vI l3), some (vI l4), some (vI l5)] [] (KD, m, ML1, GR d e nw th 1) := fun hz m em => by
      have fr : ∀ j, j ≠ 4 → m j = MI1 j := fun j hj => by rw [em]; funext k; exact up2_ne hj k
      rw [if_neg hz] at hQ
      refine c_endPart_93 hbd (pt := (1, pt1.2)) hl hb0 (CurC_w4 hbd c1 fr (fun _ _ => rfl)) (DocC_w4 hbd c2 (fun j hj => fr j (by omega)) (fun _ _ => rfl)) (GrF_fr c3 (fun i _ => ⟨by rw [fr 5 (by decide)], by rw [fr 6 (by decide)], by rw [fr 9 (by decide)], rfl, rfl⟩) (Int.le_refl _)) (by rw [em]; simp [up2]; exact c4) ⟨by rw [em]; simp [up2], Or.inr rfl, c5.2.2⟩ hQ
    refine v_X2_endPart_79 hbd ⟨fun z1 => ⟨fun z2 => ?_, fun z2 => put (fun y => z2 y.2)⟩, fun z1 => put (fun y => z1 y.1)⟩
    rw [if_pos ⟨z1, z2⟩] at hQ
    exact c_endPart_93 hbd hl hb0 c1 c2 c3 c4 c5 hQ
  -- the link
  have lk : ∀ (MI1 : Nat → Nat → Int) (h1 l4 : Int), CurC b T n OI OL h1 MI1 ML → mvd MI MI1 → mkS T n h p pt = ((p.1, lkL p.2 pt.2.2 pt.2.1), (if (0 : Int) = 0 ∧ l4 = 0 then pt else (1, pt.2)), h1) →
      wp cs mX2_endPart KD Q 59 [some (vR 4), some (vR (b + 9)), some (vI (ds.length : Nat)), some (vI 0), some (vI l4), none] [vI 1] (KD, MI1, ML, GR d e nw th 1) := by
    intro MI1 h1 l4 c1 hm hmk
    refine v_X2_endPart_59 hbd ⟨fun z => by omega, fun _ => ?_⟩
    rw [hP.2.2.1, hP.2.2.2]
    have hDm := mD hm
    refine c_link hbd hDm.2.2.1 (fun ML1 k1 k2 => rV_mk (go MI1 ML1 _ pt h1 0 l4 1 ?_ ?_ ?_ ?_ ?_ hmk))
    · exact CurC_fr c1 hbd (fun _ _ _ => rfl) (fun i hi => k2 i (fun z => hi (Or.inr (Or.inr (by omega)))))
    · exact DocC_spc (q := qPl q p) hbd rfl hDm k1 (fun j hj => ⟨rfl, k2 j (by omega)⟩)
    · exact GrF_fr (mG hm) (fun i _ => ⟨rfl, rfl, rfl, by rw [k2 7 (by omega)], by rw [k2 8 (by omega)]⟩) (Int.le_refl _)
    · rw [hm 4 (by decide)]; exact h46
    · exact ⟨(mP hm).1, hP.2.1, by rw [k2 4 (by omega)]; exact hP.2.2.1, by rw [k2 4 (by omega)]; exact hP.2.2.2⟩
  refine v_X2_endPart_0 hbd (lx_takeIf (k := 14) (by decide) hc (fun hs MI1 c1 hm => rI_mk ⟨fun z => by omega, fun _ => ?_⟩) (fun hs => rI_mk ⟨fun _ => ?_, fun z => absurd rfl z⟩))
  · -- ?
    have hob := k63.mp hs
    refine v_X2_endPart_31 hbd ⟨fun _ => ⟨fun z => by omega, fun _ => ?_⟩, fun z => absurd rfl z⟩
    refine v_X2_endPart_59 hbd ⟨fun _ => ?_, fun z => absurd rfl z⟩
    refine go MI1 ML p pt _ 1 0 0 c1 (mD hm) (mG hm) (by rw [hm 4 (by decide)]; exact h46) (mP hm) ?_
    unfold mkS; rw [if_pos hob]; rfl
  · have h63 : ob T n h ≠ 63 := fun z => by rw [k63.mpr z] at hs; cases hs
    refine lx_takeIf (k := 13) (by decide) hc (fun hs2 MI1 c1 hm => rI_mk ⟨fun z => by omega, fun _ => ?_⟩) (fun hs2 => rI_mk ⟨fun _ => ?_, fun z => absurd rfl z⟩)
    · have hob := k42.mp hs2
      refine v_X2_endPart_31 hbd ⟨fun z => by omega, fun _ => ?_⟩
      refine lk MI1 _ 1 c1 hm ?_
      unfold mkS; rw [if_neg h63, if_pos hob]; rfl
    · have h42 : ob T n h ≠ 42 := fun z => by rw [k42.mpr z] at hs2; cases hs2
      refine v_X2_endPart_31 hbd ⟨fun _ => ⟨fun _ => ?_, fun z => absurd rfl z⟩, fun z => absurd rfl z⟩
      refine lx_takeIf (k := 15) (by decide) hc (fun hs3 MI1 c1 hm => rI_mk ⟨fun z => by omega, fun _ => ?_⟩) (fun hs3 => rI_mk ⟨fun _ => ?_, fun z => absurd rfl z⟩)
      · have hob := k43.mp hs3
        refine lk MI1 _ 0 c1 hm ?_
        unfold mkS; rw [if_neg h63, if_neg h42, if_pos hob]; rfl
      · have h43 : ob T n h ≠ 43 := fun z => by rw [k43.mpr z] at hs3; cases hs3
        refine v_X2_endPart_59 hbd ⟨fun _ => ?_, fun z => absurd rfl z⟩
        refine go MI ML p pt h 0 0 0 hc hD hG h46 hP ?_
        unfold mkS; rw [if_neg h63, if_neg h42, if_neg h43]; rfl
end P68
