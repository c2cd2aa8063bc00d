section P70
variable {cs : Cs} {Q : Option AV → Mm → Prop} {MI ML OI OL : Nat → Nat → Int} {b d e nw th : Nat} {T : Nat → Int} {n h : Int} {N : List By} {pl : Nat} {o : Option By} {ds : List Dc} {q : Dc} {rs : List Rl} {ns : List Nd} {op : List Int} {dp : Int}
theorem sk_sk (T : Nat → Int) (n h : Int) : sk T n (sk T n h) = sk T n h := by
  have : ∀ (k : Nat) (h : Int), (n - h).toNat ≤ k → sk T n (sk T n h) = sk T n h := by
    intro k
    induction k with
    | zero => intro h hk; rw [sk_eq T n h, if_neg (by omega), sk_eq T n h, if_neg (by omega)]
    | succ k ih =>
      intro h hk
      by_cases hs : h < n ∧ isSp (ob T n h)
      · rw [sk_eq T n h, if_pos hs]; exact ih (h + 1) (by omega)
      · rw [sk_eq T n h, if_neg hs, sk_eq T n h, if_neg hs]
  exact this _ h (Nat.le_refl _)
def bW (w : Bool) : Int := if w = true then 0 else 1
theorem c_group_l (hbd : b = 38 ∨ b = 81) (hby : ∀ k, -128 ≤ T k ∧ T k < 128) : ∀ (k : Nat) (w : Bool) (p : Pl) (g : Gp) (t : List Gp) (h l4 : Int) (N : List By) (MI ML : Nat → Nat → Int), CurC b T n OI OL h MI ML → DocC b T n N pl (o, ds ++ [qPl q p], rs) ns op dp MI ML → GrF MI ML h (g :: t) → MI 4 6 = (t.length : Nat) + 1 → t.length < 6 → NmK N (if w = true then h - 1 else h) → 0 ≤ l4 ∧ l4 + 1 ≤ h → (n - h).toNat < k →
    (∀ p' pt y, grF T n k w p (g :: t) h = .inr (p', pt, y) → ∀ N' MI' ML', CurC b T n OI OL y MI' ML' → DocC b T n N' pl (o, ds ++ [qAll q p' pt], rs) ns op dp MI' ML' → NmK N' y → Q (some (vI 1)) (MI', ML', GR d e nw th 1)) →
    (∀ f z, grF T n k w p (g :: t) h = .inl (f, z) → ∀ MI' ML', FaiC b OI OL f z MI' ML' → Q (some (vI 0)) (MI', ML', GR d e nw th 1)) →
    wp cs mX2_readGroup KD Q 14 [some (vR 4), some (vR b), some (vI (ds.length : Nat)), some (vI (bW w)), some (vI l4), none] [] (KD, MI, ML, GR d e nw th 1) := by
  intro k
  induction k with
  | zero => intro w p g t h l4 N MI ML _ _ _ _ _ _ _ hk; omega
  | succ k ih =>
    intro w p g t h l4 N MI ML hc hD hG h46 hl6 hN hl hk hT hF
    have h0 := hc.2.2.2.2.1
    have hn := hc.2.1
    have hn6 := hc.2.2.1
    have hs := sk_le T n h
    have mG : ∀ {MI1 MI2 : Nat → Nat → Int} {gs : List Gp} {x y : Int}, GrF MI1 ML x gs → mvd MI1 MI2 → x ≤ y → GrF MI2 ML y gs := fun hg hm hxy => GrF_fr hg (fun i _ => ⟨by rw [hm 5 (by decide)], by rw [hm 6 (by decide)], by rw [hm 9 (by decide)], rfl, rfl⟩) hxy
    refine v_X2_readGroup_14 hbd ⟨fun _ => ⟨fun _ => ?_, fun z => by omega⟩, fun z => by omega⟩
    refine lx_skipSpace hc (fun MI1 c1 m1 => rV_mk ?_)
    have d1 := DocC_mv hbd hD m1
    have g1 : GrF MI1 ML (sk T n h) (g :: t) := mG hG m1 (by omega)
    have e46 : MI1 4 6 = (t.length : Nat) + 1 := by rw [m1 4 (by decide)]; exact h46
    have h1 := c1.2.2.2.2.1
    cases w with
    | true =>
      have hN1 : NmK N (h - 1) := hN
      refine ⟨fun _ => ?_, fun z => absurd rfl z⟩
      refine lx_takeIf (k := 9) (by decide) c1 (fun hs1 MI2 c2 m2 => rI_mk ⟨fun z => by omega, fun _ => ?_⟩) (fun hs1 => rI_mk ⟨fun _ => ?_, fun z => absurd rfl z⟩)
      · have hob : ob T n (sk T n h) = 40 := stbT rfl hs1
        have sl1 : sl 9 = 1 := by decide
        rw [sl1] at c2
        have h2 := c2.2.2.2.2.1
        rw [m2 4 (by decide), e46, c1.2.2.2.1]
        rw [grF, if_pos hob] at hT hF
        simp only [List.length_cons] at hT hF
        refine ⟨fun z => ?_, fun z => ?_⟩
        · rw [if_neg (by omega)] at hT hF
          refine c_openGroup (hb := sk T n h + 1) (gs := g :: t) (mG g1 m2 (by omega)) (by rw [m2 4 (by decide), e46]; simp) (by simp only [List.length_cons]; omega) (by omega) (fun MI3 ML3 g3 e3 fr3 => rV_mk ⟨by omega, ?_⟩)
          refine ih true p (0, false, 0, 0, 0) (g :: t) (sk T n h + 1) (l4 + 1) N MI3 ML3 ?_ ?_ g3 (by rw [e3]) (by simp only [List.length_cons]; omega) (NmK_mono hN1 (by simp; omega)) (by omega) (by omega) hT hF
          · exact CurC_fr c2 hbd (fun i z1 z2 => (fr3 i (by omega)).1) (fun i hi => (fr3 i (fun z => hi (Or.inr (Or.inl (by omega))))).2)
          · exact DocC_w4 hbd (DocC_mv hbd d1 m2) (fun j hj => (fr3 j (by omega)).1) (fun j hj => (fr3 j (by omega)).2)
        · rw [if_pos (by omega)] at hF
          exact lx_refuse c2.2.2.2.2.2 (fun MI' hf => rI_mk ⟨Or.inl rfl, hF _ _ rfl _ _ hf⟩)
      · have hob : ob T n (sk T n h) ≠ 40 := stbF rfl hs1
        rw [grF, if_neg hob] at hT hF
        refine c_readPlace hbd hby c1 d1 (NmK_mono hN1 (by omega)) (fun p' y hy N3 MI3 ML3 c3 d3 k3 pt3 fr3 e3 => rI_mk ⟨fun z => by omega, fun _ => ?_⟩) (fun f z hy MI3 ML3 f3 => rI_mk ⟨fun _ => hF f z (by rw [hy]; rfl) _ _ f3, fun z => absurd rfl z⟩)
        have hy2 := plS_le hy
        rw [hy, pb_r] at hT hF
        simp only at hT hF
        have h3 := c3.2.2.2.2.1
        have g3 : GrF MI3 ML3 (sk T n h) (g :: t) := GrF_fr g1 (fun i _ => ⟨by rw [(fr3 5 (by omega)).1], by rw [(fr3 6 (by omega)).1], by rw [(fr3 9 (by omega)).1], by rw [(fr3 7 (by omega)).2], by rw [(fr3 8 (by omega)).2]⟩) (Int.le_refl _)
        refine c_endPart hbd (hb := sk T n h) (gs := g :: t) (by simp only [List.length_cons]; omega) (by omega) c3 d3 g3 (by rw [e3, e46]; simp) pt3 (fun MI4 ML4 c4 ep4 e4 => rV_mk ⟨by omega, ?_⟩)
        have hm := mkS_h (T := T) (n := n) (h := y) p' (0, l_shl 1 (p.1.length : Nat), l_shl 1 (p.1.length : Nat))
        refine ih false _ _ t _ (l4 + 1) N3 MI4 ML4 c4 ep4.1 (GrF_fr ep4.2 (fun _ _ => ⟨rfl, rfl, rfl, rfl, rfl⟩) (by omega)) (by rw [e4]; simp) hl6 (NmK_mono k3 (by simp; omega)) (by omega) (by omega) hT hF
    | false =>
      have hN1 : NmK N h := hN
      refine ⟨fun z => by simp [bW] at z, fun _ => ?_⟩
      refine lx_takeIf (k := 12) (by decide) c1 (fun hs1 MI2 c2 m2 => rI_mk ⟨fun z => by omega, fun _ => ⟨fun z => by omega, fun _ => ?_⟩⟩) (fun hs1 => rI_mk ⟨fun _ => ?_, fun z => absurd rfl z⟩)
      · have hob : ob T n (sk T n h) = 41 := stbT rfl hs1
        have sl1 : sl 12 = 1 := by decide
        rw [sl1] at c2
        have h2 := c2.2.2.2.2.1
        rw [grF, if_pos hob] at hT hF
        simp only at hT hF
        refine c_closeGroup (hb := sk T n h) (mG g1 m2 (Int.le_refl _)) (by rw [m2 4 (by decide), e46]) hl6 (fun MI3 ML3 pt3 g3 e3 fr3 => rV_mk ?_)
        have c3 : CurC b T n OI OL (sk T n h + 1) MI3 ML3 := CurC_w4 hbd c2 (fun j hj => (fr3 j hj).1) (fun j hj => (fr3 j hj).2)
        have d3 := DocC_w4 hbd (DocC_mv hbd d1 m2) (fun j hj => (fr3 j (by omega)).1) (fun j hj => (fr3 j (by omega)).2)
        have hm := mkS_h (T := T) (n := n) (h := sk T n h + 1) p g.2.2
        refine c_endPart hbd (hb := sk T n h) (gs := t) (by omega) (by omega) c3 d3 g3 e3 pt3 (fun MI4 ML4 c4 ep4 e4 => rV_mk ⟨by omega, ?_⟩)
        have h4 := c4.2.2.2.2.1
        cases t with
        | nil =>
          simp only at hT hF
          have fin := c_group_164 (cs := cs) (Q := Q) (d := d) (e := e) (nw := nw) (th := th) hbd (l3 := 1) (l4 := l4 + 1) c4 ep4.1 ep4.2 (fun MI5 ML5 c5 d5 => hT (mkS T n (sk T n h + 1) p g.2.2).1 (mkS T n (sk T n h + 1) p g.2.2).2.1 (mkS T n (sk T n h + 1) p g.2.2).2.2 rfl N MI5 ML5 c5 d5 (NmK_mono hN1 (by omega)))
          refine v_X2_readGroup_14 hbd ⟨fun _ => ⟨fun z => ?_, fun _ => fin⟩, fun _ => fin⟩
          rw [e4] at z; simp at z
        | cons g' t' =>
          simp only [List.length_cons] at e4 hl6
          refine ih false _ _ t' _ (l4 + 1) N MI4 ML4 c4 ep4.1 (GrF_fr ep4.2 (fun _ _ => ⟨rfl, rfl, rfl, rfl, rfl⟩) (by omega)) (by rw [e4]; simp) (by omega) (NmK_mono hN1 (by simp; omega)) (by omega) (by omega) hT hF
      · have hob : ob T n (sk T n h) ≠ 41 := stbF rfl hs1
        rw [grF, if_neg hob] at hT hF
        refine c_readSign hbd c1 g1 e46 hl6 (fun hg MI2 c2 g2 fr2 => rI_mk ⟨fun z => by omega, fun _ => ⟨fun _ => ⟨by omega, ?_⟩, fun z => absurd rfl z⟩⟩) (fun hg MI2 f2 => rI_mk ⟨fun _ => hF _ _ (by rw [if_neg hg]) _ _ f2, fun z => absurd rfl z⟩)
        rw [if_pos hg] at hT hF
        have h2 := c2.2.2.2.2.1
        refine ih true p (ob T n (sk T n h), g.2) t (sk T n h + 1) (l4 + 1) N MI2 ML c2 (DocC_w4 hbd d1 (fun j hj => fr2 j (by omega) (by omega)) (fun _ _ => rfl)) (GrF_fr g2 (fun _ _ => ⟨rfl, rfl, rfl, rfl, rfl⟩) (by omega)) (by rw [fr2 4 (by decide) (by decide)]; exact e46) hl6 (NmK_mono hN1 (by simp; omega)) (by omega) (by omega) hT hF
theorem c_readGroup (hbd : b = 38 ∨ b = 81) (hby : ∀ k, -128 ≤ T k ∧ T k < 128) {p : Pl} (hc : CurC b T n OI OL h MI ML) (hD : DocC b T n N pl (o, ds ++ [qPl q p], rs) ns op dp MI ML) (hk : NmK N (h - 1)) (h1 : 1 ≤ h)
    (hT : ∀ p' pt y, grF T n (n + 1).toNat true p [(0, false, 0, 0, 0)] h = .inr (p', pt, y) → ∀ N' MI' ML', CurC b T n OI OL y MI' ML' → DocC b T n N' pl (o, ds ++ [qAll q p' pt], rs) ns op dp MI' ML' → NmK N' y → Q (some (vI 1)) (MI', ML', GR d e nw th 1))
    (hF : ∀ f z, grF T n (n + 1).toNat true p [(0, false, 0, 0, 0)] h = .inl (f, z) → ∀ MI' ML', FaiC b OI OL f z MI' ML' → Q (some (vI 0)) (MI', ML', GR d e nw th 1)) :
    wp cs mX2_readGroup KD Q 0 (padL [vR 4, vR b, vI (ds.length : Nat)] 6) [] (KD, MI, ML, GR d e nw th 1) := by
  have h0 := hc.2.2.2.2.1
  refine v_X2_readGroup_0 hbd ?_
  intro m4 e4
  have em : ∀ j, j ≠ 4 → m4 j = MI j := fun j hj => by rw [e4]; funext k; exact up2_ne hj k
  refine c_openGroup (hb := h) (gs := []) trivial (by rw [e4]; simp [up2]) (by decide) (by omega) (fun MI3 ML3 g3 e3 fr3 => rV_mk ?_)
  refine c_group_l hbd hby (n + 1).toNat true p (0, false, 0, 0, 0) [] h 0 N MI3 ML3 ?_ ?_ g3 (by rw [e3]) (by decide) hk (by omega) (by omega) hT hF
  · exact CurC_fr (CurC_w4 hbd hc em (fun _ _ => rfl)) hbd (fun i z1 z2 => (fr3 i (by omega)).1) (fun i hi => (fr3 i (fun z => hi (Or.inr (Or.inl (by omega))))).2)
  · exact DocC_w4 hbd (DocC_w4 hbd hD (fun j hj => em j (by omega)) (fun _ _ => rfl)) (fun j hj => (fr3 j (by omega)).1) (fun j hj => (fr3 j (by omega)).2)
/-- a SPEC of the last <!ELEMENT, and its > -/
def spR (T : Nat → Int) (n : Int) (z : Int) : PR ((Int × Pl × Pt) × Int) := pb (spS T n z) fun r => pb (mbS T n (sk T n r.2) 62) fun w => .inr (r.1, w)
def qSp (q : Dc) (r : Int × Pl × Pt) : Dc := (q.1, r.1, q.2.2.1, r.2.1.1, r.2.1.2, r.2.2.2.1, r.2.2.2.2, r.2.2.1)
theorem SpcC_kind {k : Int} {MI' : Nat → Nat → Int} (hS : SpcC b N (ds ++ [q]) MI ML) (e : MI' = up2 MI (b + 10) ds.length k) : SpcC b N (ds ++ [(q.1, k, q.2.2)]) MI' ML := by
  refine ⟨?_, ?_, fun j w hw => ?_⟩
  · have := hS.1; simp only [List.length_append, List.length_singleton] at this ⊢; rw [e, up2_ne (by omega)]; exact this
  · have := hS.2.1; simpa using this
  · rcases last_of hw with ⟨hj, hw⟩ | ⟨rfl, rfl⟩
    · refine SpcA_pt (hS.2.2 j w (last_mono hw)) ?_ ?_ ?_ ?_ ?_ ?_ ?_ ?_ ?_ ?_ <;> (try intro z hz) <;> simp [e, up2] <;> (try omega)
    · obtain ⟨a1, a2, a3, a4, a5, a6, a7, a8, a9, a10, a11⟩ := hS.2.2 _ _ (last_get ds q)
      refine ⟨by simp [e, up2], by simpa [e, up2] using a2, by simpa [e, up2] using a3, by simpa [e, up2] using a4, a5, a6, fun z y hy => ?_, a8, a9, a10, by simpa [e, up2] using a11⟩
      have := a7 z y hy; simpa [e, up2] using this
theorem c_elem_256 (hbd : b = 38 ∨ b = 81) {l2 l4 : Int} {D : Dt} {r : PR Int} (hc : CurC b T n OI OL h MI ML) (hD : DocC b T n N pl D ns op dp MI ML) (hk : NmK N h) (hr : r = mbS T n (sk T n h) 62)
    (hT : ∀ w, r = .inr w → ∀ N' MI' ML', CurC b T n OI OL w MI' ML' → DocC b T n N' pl D ns op dp MI' ML' → NmK N' w → Q (some (vI 1)) (MI', ML', GR d e nw th 1))
    (hF : ∀ f z, r = .inl (f, z) → ∀ MI' ML', FaiC b OI OL f z MI' ML' → Q (some (vI 0)) (MI', ML', GR d e nw th 1)) :
    wp cs mX2_readElement KD Q 256 [some (vR 4), some (vR b), some (vI l2), some (vR (b + 9)), some (vI l4), some (vI (ds.length : Nat)), none] [] (KD, MI, ML, GR d e nw th 1) := by
  have hs := sk_le T n h
  refine v_X2_readElement_256 hbd (lx_skipSpace hc (fun MI1 c1 m1 => rV_mk ?_))
  refine lx_take1 (k := 2) (c := 62) (by decide) rfl c1 (fun y hy MI2 c2 m2 => rI_mk ⟨Or.inr rfl, ?_⟩) (fun f z hy MI2 f2 => rI_mk ⟨Or.inl rfl, hF f z (by rw [hr, hy]) _ _ f2⟩)
  have : y = sk T n h + 1 := by unfold mbS at hy; split at hy <;> cases hy; rfl
  exact hT y (by rw [hr, hy]) N MI2 ML c2 (DocC_mv hbd hD (mvd_tr m1 m2)) (NmK_mono hk (by omega))
theorem c_elem_131 (hbd : b = 38 ∨ b = 81) (hby : ∀ k, -128 ≤ T k ∧ T k < 128) {l2 l4 : Int} (hq : q = (q.1, 0, q.2.2.1, [], [], 0, 0, 0)) (hc : CurC b T n OI OL h MI ML) (hD : DocC b T n N pl (o, ds ++ [q], rs) ns op dp MI ML) (hk : NmK N h)
    (hT : ∀ r w, spR T n h = .inr (r, w) → ∀ N' MI' ML', CurC b T n OI OL w MI' ML' → DocC b T n N' pl (o, ds ++ [qSp q r], rs) ns op dp MI' ML' → NmK N' w → Q (some (vI 1)) (MI', ML', GR d e nw th 1))
    (hF : ∀ f z, spR T n h = .inl (f, z) → ∀ MI' ML', FaiC b OI OL f z MI' ML' → Q (some (vI 0)) (MI', ML', GR d e nw th 1)) :
    wp cs mX2_readElement KD Q 131 [some (vR 4), some (vR b), some (vI l2), some (vR (b + 9)), some (vI l4), some (vI (ds.length : Nat)), none] [] (KD, MI, ML, GR d e nw th 1) := by
  have h0 := hc.2.2.2.2.1
  have hlen : ds.length < 30 := by have := hD.2.2.1.2.1; simp only [List.length_append, List.length_singleton] at this; omega
  -- the kind is written
  have kd : ∀ {MI1 m : Nat → Nat → Int} {h1 k : Int}, CurC b T n OI OL h1 MI1 ML → mvd MI MI1 → m = up2 MI1 (b + 10) ds.length k → CurC b T n OI OL h1 m ML ∧ DocC b T n N pl (o, ds ++ [(q.1, k, q.2.2)], rs) ns op dp m ML := by
    intro MI1 m h1 k c1 m1 em
    have fr : ∀ j, j ≠ b + 10 → m j = MI1 j := fun j hj => by rw [em]; funext i; exact up2_ne hj i
    have d1 := DocC_mv hbd hD m1
    exact ⟨CurC_fr c1 hbd (fun i z1 z2 => fr i (by omega)) (fun _ _ => rfl), DocC_spc (q := q) hbd rfl d1 (SpcC_kind d1.2.2.1 em) (fun j hj => ⟨fr j (by omega), rfl⟩)⟩
  have fin : ∀ {MI1 ML1 : Nat → Nat → Int} {N1 : List By} {h1 : Int} {r : Int × Pl × Pt}, spS T n h = .inr (r, h1) → CurC b T n OI OL h1 MI1 ML1 → DocC b T n N1 pl (o, ds ++ [qSp q r], rs) ns op dp MI1 ML1 → NmK N1 h1 →
      wp cs mX2_readElement KD Q 256 [some (vR 4), some (vR b), some (vI l2), some (vR (b + 9)), some (vI l4), some (vI (ds.length : Nat)), none] [] (KD, MI1, ML1, GR d e nw th 1) := by
    intro MI1 ML1 N1 h1 r e1 c1 d1 k1
    unfold spR at hT hF
    rw [e1, pb_r] at hT hF
    refine c_elem_256 hbd c1 d1 k1 rfl (fun w hw N' MI' ML' => hT r w (by rw [hw]; rfl) N' MI' ML') (fun f z hw => hF f z (by rw [hw]; rfl))
  have s7 : sl 7 = 5 := by decide
  have s8 : sl 8 = 3 := by decide
  have bad : ∀ {f z : Int}, spS T n h = .inl (f, z) → spR T n h = .inl (f, z) := fun e1 => by unfold spR; rw [e1]; rfl
  refine v_X2_readElement_131 hbd (lx_takeIf (k := 7) (by decide) hc (fun hs MI1 c1 m1 => rI_mk ⟨fun z => by omega, fun _ => ⟨by omega, ?_⟩⟩) (fun hs => rI_mk ⟨fun _ => ?_, fun z => absurd rfl z⟩))
  · simp only [Int.toNat_natCast]
    intro m em
    obtain ⟨c2, d2⟩ := kd c1 m1 em
    refine fin (r := (0, ([], []), (0, 0, 0))) (by unfold spS; exact if_pos hs) c2 ?_ (NmK_mono hk (by omega))
    rw [hq] at d2; exact d2
  have e1 : spS T n h = if stb T n h [65, 78, 89] = true then .inr ((1, ([], []), (0, 0, 0)), h + 3) else pb (mbS T n h 40) fun g => if stb T n (sk T n g) [35, 80, 67, 68, 65, 84, 65] = true then pb (mxF T n (n + 1).toNat ([], []) (sk T n (sk T n g + 7))) fun q => .inr ((2, q.1, (0, 0, 0)), q.2)
      else pb (grF T n (n + 1).toNat true ([], []) [(0, false, 0, 0, 0)] (sk T n g)) fun q => .inr ((3, q.1, q.2.1), q.2.2) := by
    unfold spS; exact if_neg (fun z => by rw [show sB 7 = [69, 77, 80, 84, 89] from rfl] at hs; rw [hs] at z; cases z)
  refine lx_takeIf (k := 8) (by decide) hc (fun hs2 MI1 c1 m1 => rI_mk ⟨fun z => by omega, fun _ => ⟨by omega, ?_⟩⟩) (fun hs2 => rI_mk ⟨fun _ => ?_, fun z => absurd rfl z⟩)
  · simp only [Int.toNat_natCast]
    intro m em
    obtain ⟨c2, d2⟩ := kd c1 m1 em
    refine fin (r := (1, ([], []), (0, 0, 0))) (by rw [e1]; exact if_pos hs2) c2 ?_ (NmK_mono hk (by omega))
    rw [hq] at d2; exact d2
  rw [if_neg (fun z => by rw [show sB 8 = [65, 78, 89] from rfl] at hs2; rw [hs2] at z; cases z)] at e1
  refine lx_take1 (k := 9) (c := 40) (by decide) rfl hc (fun y hy MI1 c1 m1 => rI_mk ⟨fun z => by omega, fun _ => ?_⟩) (fun f z hy MI1 f1 => rI_mk ⟨fun _ => hF f z (bad (by rw [e1, hy]; rfl)) _ _ f1, fun z => absurd rfl z⟩)
  have hy1 : y = h + 1 := by unfold mbS at hy; split at hy <;> cases hy; rfl
  rw [hy, pb_r] at e1
  have hsy := sk_le T n y
  refine lx_skipSpace c1 (fun MI2 c2 m2 => rV_mk ?_)
  have m12 := mvd_tr m1 m2
  refine lx_takeIf (k := 10) (by decide) c2 (fun hs3 MI3 c3 m3 => rI_mk ⟨fun z => by omega, fun _ => ⟨by omega, ?_⟩⟩) (fun hs3 => rI_mk ⟨fun _ => ⟨by omega, ?_⟩, fun z => absurd rfl z⟩)
  · simp only [Int.toNat_natCast]
    intro m em
    refine ⟨fun z => by omega, fun _ => ?_⟩
    obtain ⟨c4, d4⟩ := kd c3 (mvd_tr m12 m3) em
    have sl7 : sl 10 = 7 := by decide
    rw [sl7] at c4
    rw [if_pos (show stb T n (sk T n y) [35, 80, 67, 68, 65, 84, 65] = true from hs3)] at e1
    rw [hq] at d4
    refine c_readMixed hbd hby (p := ([], [])) (q := (q.1, 2, q.2.2.1, [], [], 0, 0, 0)) c4 d4 (NmK_mono hk (by omega)) (by omega) (fun p' w hw N' MI' ML' c5 d5 k5 => rI_mk ⟨fun z => by omega, fun _ => ?_⟩) (fun f z hw MI' ML' f5 => rI_mk ⟨fun _ => hF f z (bad (by rw [e1, hw]; rfl)) _ _ f5, fun z => absurd rfl z⟩)
    exact fin (r := (2, p', (0, 0, 0))) (by rw [e1, hw]; rfl) c5 d5 k5
  · simp only [Int.toNat_natCast]
    intro m em
    refine ⟨fun _ => ?_, fun z => absurd rfl z⟩
    obtain ⟨c4, d4⟩ := kd c2 m12 em
    rw [if_neg (fun z => by rw [show sB 10 = [35, 80, 67, 68, 65, 84, 65] from rfl] at hs3; rw [hs3] at z; cases z)] at e1
    rw [hq] at d4
    refine c_readGroup hbd hby (p := ([], [])) (q := (q.1, 3, q.2.2.1, [], [], 0, 0, 0)) c4 d4 (NmK_mono hk (by omega)) (by omega) (fun p' pt w hw N' MI' ML' c5 d5 k5 => rI_mk ⟨fun z => by omega, fun _ => ?_⟩) (fun f z hw MI' ML' f5 => rI_mk ⟨fun _ => hF f z (bad (by rw [e1, hw]; rfl)) _ _ f5, fun z => absurd rfl z⟩)
    exact fin (r := (3, p', pt)) (by rw [e1, hw]; rfl) c5 d5 k5
/-- <!ELEMENT: the cursor is behind it -/
theorem c_readElement (hbd : b = 38 ∨ b = 81) (hby : ∀ k, -128 ≤ T k ∧ T k < 128) (hh : 0 ≤ h) (hc : CurC b T n OI OL (h + 9) MI ML) (hD : DocC b T n N pl (o, ds, rs) ns op dp MI ML) (hk : NmK N h)
    (hT : ∀ ds' w, deS T n ds rs.length h = .inr (ds', w) → ∀ N' MI' ML', CurC b T n OI OL w MI' ML' → DocC b T n N' pl (o, ds', rs) ns op dp MI' ML' → NmK N' w → Q (some (vI 1)) (MI', ML', GR d e nw th 1))
    (hF : ∀ f z, deS T n ds rs.length h = .inl (f, z) → ∀ MI' ML', FaiC b OI OL f z MI' ML' → Q (some (vI 0)) (MI', ML', GR d e nw th 1)) :
    wp cs mX2_readElement KD Q 0 (padL [vR 4, vR b, vI h] 7) [] (KD, MI, ML, GR d e nw th 1) := by
  have hz := hD.2.2.1.1
  have h0 := hc.2.2.2.2.1
  refine v_X2_readElement_0 hbd ⟨fun hlt => ?_, fun hge => ?_⟩
  · have hlt' : ds.length < 30 := by simp only at hz; omega
    have e0 : deS T n ds rs.length h = pb (msS T n (h + 9)) fun g => pb (nmS T n g) fun y => pb (msS T n y) fun z => pb (spR T n z) fun r => .inr (ds ++ [qSp (nb T g y, 0, rs.length, [], [], 0, 0, 0) r.1], r.2) := by
      unfold deS
      rw [if_neg (by omega)]
      congr 1; funext g; congr 1; funext y; congr 1; funext z
      unfold spR
      cases spS T n z with
      | inl f => rfl
      | inr r =>
        rw [pb_r, pb_r]
        cases mbS T n (sk T n r.2) 62 with
        | inl f => rfl
        | inr w => rfl
    rw [e0] at hT hF
    refine lx_needSpace hc (fun g hg MI1 c1 m1 => rI_mk ⟨fun z => by omega, fun _ => ?_⟩) (fun f z hg MI1 f1 => rI_mk ⟨fun _ => hF f z (by rw [hg]; rfl) _ _ f1, fun z => absurd rfl z⟩)
    have hg1 : h + 9 < g := by
      unfold msS at hg
      split at hg
      · next hsp =>
        cases hg
        have hlt := isSp_lt hsp
        rw [sk_eq, if_pos ⟨hlt, hsp⟩]
        have := sk_le T n (h + 9 + 1); omega
      · cases hg
    rw [hg, pb_r] at hT hF
    refine lx_needName c1 (fun y hy MI2 c2 m2 l2 => rI_mk ⟨fun z => by omega, fun _ => ?_⟩) (fun f z hy MI2 f2 => rI_mk ⟨fun _ => hF f z (by rw [hy]; rfl) _ _ f2, fun z => absurd rfl z⟩)
    rw [hy, pb_r] at hT hF
    have hy1 := nmS_ok hy
    refine c_keepD hbd hby c2 l2 (by omega) hy (DocC_mv hbd hD (mvd_tr m1 m2)) (NmK_mono hk (by omega)) (fun N3 i MI3 d3 x3 i3 k3 c3 fr3 => rI_mk ?_)
    refine c_X9_add hbd d3.2.2.1 hlt' i3 d3.2.2.2.1.1 (fun MI4 ML4 s4 fr4 => rI_mk ⟨fun z => by omega, fun _ => ?_⟩)
    have c4 : CurC b T n OI OL y MI4 ML4 := CurC_fr c3 hbd (fun i z1 z2 => (fr4 i (by omega)).1) (fun i hi => (fr4 i (fun z => hi (Or.inr (Or.inr (by omega))))).2)
    refine lx_needSpace c4 (fun z hzz MI5 c5 m5 => rI_mk ⟨fun z => by omega, fun _ => ?_⟩) (fun f z hzz MI5 f5 => rI_mk ⟨fun _ => hF f z (by rw [hzz]; rfl) _ _ f5, fun z => absurd rfl z⟩)
    rw [hzz, pb_r] at hT hF
    have i3' := isId_lt i3
    have eI : ∀ j, ¬ (b + 9 ≤ j ∧ j ≤ b + 19) → j ≠ 2 → MI5 j = MI3 j := fun j z1 z2 => (m5 j z2).trans (fr4 j z1).1
    have hsz : MI5 (b + 1) 7 = (N3.length : Nat) := by rw [eI _ (by omega) (by omega)]; exact d3.1.1
    have h2020 := d3.1.2.1
    -- the DOCUMENT with the new SPEC
    have mkD : ∀ (m : Nat → Nat → Int), (∀ j, j ≠ b + 3 → m j = MI5 j) → (∀ k, m (b + 3) k = if k = i.toNat ∧ MI5 (b + 3) i.toNat = -1 then ((ds.length : Nat) : Int) else MI5 (b + 3) k) → DocC b T n N3 pl (o, ds ++ [(nb T g y, 0, rs.length, [], [], 0, 0, 0)], rs) ns op dp m ML4 := by
      intro m f1 f2
      have fI : ∀ j, ¬ (b + 9 ≤ j ∧ j ≤ b + 19) → j ≠ 2 → j ≠ b + 3 → m j = MI3 j := fun j z1 z2 z3 => (f1 j z3).trans (eI j z1 z2)
      have eb : m b = MI3 b := fI b (by omega) (by omega) (by omega)
      refine ⟨?_, ?_, ?_, ?_, ?_, ?_, ?_, ?_⟩
      · have := d3.1
        unfold NamC at *
        rw [fI (b + 1) (by omega) (by omega) (by omega), fI (b + 2) (by omega) (by omega) (by omega), fI (b + 5) (by omega) (by omega) (by omega), fI (b + 6) (by omega) (by omega) (by omega), fI (b + 7) (by omega) (by omega) (by omega), fI (b + 8) (by omega) (by omega) (by omega)]
        exact this
      · intro k x hx
        have h3 := d3.2.1 k x hx
        rw [fI (b + 4) (by omega) (by omega) (by omega), f2, eI (b + 3) (by omega) (by omega)]
        refine ⟨?_, h3.2⟩
        have hi3 := (d3.2.1 i.toNat _ i3.2).1
        simp only at h3 ⊢
        rw [fIdx_app]
        by_cases hki : k = i.toNat
        · subst hki
          have : x = nb T g y := by have := hx.symm.trans i3.2; cases this; rfl
          subst this
          rw [h3.1]
          by_cases hm : fIdx (clN (nb T g y)) ds 0 = -1
          · rw [if_pos ⟨rfl, hm⟩, if_pos hm, if_pos (by simp [clN])]; simp
          · rw [if_neg (fun z => hm z.2), if_neg hm]
        · have hxne : x ≠ nb T g y := fun z => hki (by
            have := (isId_eq d3.1.2.2.2.2.2 (i := (k : Int)) (j := i) ⟨by omega, by simpa using hx⟩ i3).mpr z
            omega)
          rw [if_neg (fun z => hki z.1), h3.1]
          have : clN x (nb T g y, 0, rs.length, [], [], 0, 0, 0) = false := by simp only [clN, decide_eq_false_iff_not]; exact fun z => hxne z.symm
          rw [this]
          split
          · next hm => rw [hm]; simp
          · rfl
      · exact SpcC_fr s4 (fun j z1 z2 => (f1 j (by omega)).trans (m5 j (by omega))) (fun _ _ _ => rfl)
      · exact RulC_fr d3.2.2.2.1 (fun j z1 z2 => fI j (by omega) (by omega) (by omega)) (fI _ (by omega) (by omega) (by omega)) (by rw [eb])
      · exact NodC_fr d3.2.2.2.2.1 (fun j z1 z2 => fI j (by omega) (by omega) (by omega)) (by rw [eb]) (by rw [eb]) (by rw [eb])
      · exact DtC_fr d3.2.2.2.2.2.1 (by rw [eb])
      · rw [eb]; exact d3.2.2.2.2.2.2.1
      · rw [eb]; exact d3.2.2.2.2.2.2.2
    have hz1 : y ≤ z := by
      unfold msS at hzz
      split at hzz
      · cases hzz; have := sk_le T n y; omega
      · cases hzz
    have go : ∀ (m : Nat → Nat → Int), (∀ j, j ≠ b + 3 → m j = MI5 j) → (∀ k, m (b + 3) k = if k = i.toNat ∧ MI5 (b + 3) i.toNat = -1 then ((ds.length : Nat) : Int) else MI5 (b + 3) k) →
        wp cs mX2_readElement KD Q 131 [some (vR 4), some (vR b), some (vI h), some (vR (b + 9)), some (vI i), some (vI (ds.length : Nat)), none] [] (KD, m, ML4, GR d e nw th 1) := fun m f1 f2 =>
      c_elem_131 hbd hby rfl (CurC_fr c5 hbd (fun j z1 z2 => f1 j (by omega)) (fun _ _ => rfl)) (mkD m f1 f2) (NmK_mono k3 hz1) (fun r w hw N' MI' ML' => hT _ w (by rw [hw]; rfl) N' MI' ML') (fun f z hw => hF f z (by rw [hw]; rfl))
    refine w_X5_has hbd (fun hs => rI_mk ⟨fun z => by omega, fun _ => ⟨by omega, fun hm => ?_, fun hm => ?_⟩⟩) (fun hs => absurd (by rw [hsz]; exact i3') hs)
    · intro m130 e130
      refine go m130 (fun j hj => by rw [e130]; funext k; exact up2_ne hj k) (fun k => ?_)
      rw [e130]; unfold up2
      by_cases hk : k = i.toNat
      · rw [if_pos ⟨rfl, hk⟩, if_pos ⟨hk, hm⟩]
      · rw [if_neg (fun z => hk z.2), if_neg (fun z => hk z.1)]
    · refine go MI5 (fun _ _ => rfl) (fun k => ?_)
      rw [if_neg (fun z => hm z.2)]
  · refine lx_refuse hc.2.2.2.2.2 (fun MI' hf => rI_mk ⟨Or.inl rfl, hF (-3) h ?_ _ _ hf⟩)
    unfold deS; exact if_pos (by simp only at hz; omega)
end P70
