section P69
variable {cs : Cs} {Q : Option AV → Mm → Prop} {MI ML OI OL : Nat → Nat → Int} {b d e nw th : Nat} {T : Nat → Int} {n h : Int} {N : List By} {pl : Nat} {o : Option By} {ds : List Dc} {q : Dc} {rs : List Rl} {ns : List Nd} {op : List Int} {dp : Int}
theorem DocC_mv (hbd : b = 38 ∨ b = 81) {D : Dt} {MI' : Nat → Nat → Int} (hD : DocC b T n N pl D ns op dp MI ML) (hm : mvd MI MI') : DocC b T n N pl D ns op dp MI' ML :=
  DocC_fr hD (fun i h1 _ => hm i (by omega)) (fun _ _ _ => rfl)
theorem stbF {c : Int} {l : By} (hk : l = [c]) (hs : stb T n h l = false) : ob T n h ≠ c := fun z => by rw [hk, stb1.mpr z] at hs; cases hs
theorem stbT {c : Int} {l : By} (hk : l = [c]) (hs : stb T n h l = true) : ob T n h = c := by rw [hk] at hs; exact stb1.mp hs
theorem c_readPlace (hbd : b = 38 ∨ b = 81) (hby : ∀ k, -128 ≤ T k ∧ T k < 128) {p : Pl} (hc : CurC b T n OI OL h MI ML) (hD : DocC b T n N pl (o, ds ++ [qPl q p], rs) ns op dp MI ML) (hk : NmK N (h - 1))
    (hT : ∀ p' y, plS T n p h = .inr (p', y) → ∀ N' MI' ML', CurC b T n OI OL y MI' ML' → DocC b T n N' pl (o, ds ++ [qPl q p'], rs) ns op dp MI' ML' → NmK N' y → PtC (0, l_shl 1 (p.1.length : Nat), l_shl 1 (p.1.length : Nat)) MI' ML' → (∀ j, 5 ≤ j ∧ j ≤ 9 → MI' j = MI j ∧ ML' j = ML j) → MI' 4 6 = MI 4 6 → Q (some (vI 1)) (MI', ML', GR d e nw th 1))
    (hF : ∀ f r, plS T n p h = .inl (f, r) → ∀ MI' ML', FaiC b OI OL f r MI' ML' → Q (some (vI 0)) (MI', ML', GR d e nw th 1)) :
    wp cs mX2_readPlace KD Q 0 (padL [vR 4, vR b, vI (ds.length : Nat)] 4) [] (KD, MI, ML, GR d e nw th 1) := by
  have h0 := hc.2.2.2.2.1
  refine v_X2_readPlace_0 hbd (lx_needName hc (fun y hy MI1 c1 m1 l1 => rI_mk ⟨fun z => by omega, fun _ => ?_⟩) (fun f r hy MI1 f1 => rI_mk ⟨fun _ => hF f r (by unfold plS; rw [hy]; rfl) _ _ f1, fun z => absurd rfl z⟩))
  refine c_keepD hbd hby c1 l1 h0.1 hy (DocC_mv hbd hD m1) hk (fun N2 i MI2 d2 x2 i2 k2 c2 fr2 => rI_mk ?_)
  refine c_addPlace hbd d2.1.2.2.2.2.2 d2.2.2.1 i2 (fun hlt MI3 ML3 s3 fr3 => rI_mk ⟨fun z => by omega, fun _ => ?_⟩) (fun hge => rI_mk ⟨fun _ => ?_, fun z => absurd rfl z⟩)
  · intro n58 f58 n66 f66 m71 e71
    have e3 : ∀ j, ¬ (b + 9 ≤ j ∧ j ≤ b + 19) → ¬ (b + 1 ≤ j ∧ j ≤ b + 8) → j ≠ 2 → MI3 j = MI j := fun j q1 q2 q3 => ((fr3 j q1).1.trans (fr2 j q2)).trans (m1 j q3)
    have em : ∀ j, j ≠ 4 → m71 j = MI3 j := fun j hj => by rw [e71]; funext k; exact up2_ne hj k
    have en : ∀ j, j ≠ 4 → n66 j = ML3 j := fun j hj => by rw [f66, f58]; funext k; rw [up2_ne hj, up2_ne hj]
    have c3 : CurC b T n OI OL y MI3 ML3 := CurC_fr c2 hbd (fun i q1 q2 => (fr3 i (by omega)).1) (fun i hi => (fr3 i (fun z => hi (Or.inr (Or.inr (by omega))))).2)
    have hlt' : p.1.length < 40 := hlt
    have d3 := DocC_spc (q := qPl q p) (q' := qPl q (p.1 ++ [nb T h y], p.2 ++ [0])) hbd rfl d2 s3 (fun j hj => fr3 j (by omega))
    refine hT (p.1 ++ [nb T h y], p.2 ++ [0]) y (by unfold plS; rw [hy, pb_r]; exact if_neg (by omega)) N2 m71 n66 (CurC_w4 hbd c3 em en) (DocC_w4 hbd d3 (fun j hj => em j (by omega)) (fun j hj => en j (by omega))) k2 ⟨by simp [e71, up2], Or.inl rfl, by simp [f66, f58, up2, qPl], by simp [f66, f58, up2, qPl]⟩ (fun j hj => ⟨?_, ?_⟩) ?_
    · rw [em j (by omega), e3 j (by omega) (by omega) (by omega)]
    · rw [en j (by omega)]; exact (fr3 j (by omega)).2
    · rw [e71]; simp [up2]; rw [e3 4 (by omega) (by omega) (by omega)]
  · have e23 : MI2 2 3 = h := by rw [fr2 2 (by omega)]; exact l1.1
    rw [e23]
    refine lx_refuse c2.2.2.2.2.2 (fun MI' hf => rI_mk ⟨Or.inl rfl, hF (-3) h ?_ _ _ hf⟩)
    have hge' : 40 ≤ p.1.length := hge
    unfold plS; rw [hy, pb_r]; exact if_pos hge'
theorem plS_le {p p' : Pl} {y : Int} (hy : plS T n p h = .inr (p', y)) : h < y ∧ (h ≤ n → y ≤ n) ∧ p' = (p.1 ++ [nb T h y], p.2 ++ [0]) := by
  unfold plS at hy
  obtain ⟨g, h1, h2⟩ := pb_inr hy
  have := nmS_ok h1
  split at h2
  · cases h2
  · cases h2; exact ⟨this.1, this.2.2.2, rfl⟩
/-- what stands behind #PCDATA -/
theorem c_mixed_63 (hbd : b = 38 ∨ b = 81) {l3 : Int} {p : Pl} {r : PR (Pl × Int)} (hc : CurC b T n OI OL h MI ML) (hD : DocC b T n N pl (o, ds ++ [qPl q p], rs) ns op dp MI ML) (hk : NmK N h)
    (hr : r = pb (mbS T n h 41) fun y => if ob T n y = 42 then .inr (p, y + 1) else if p.1 = [] then .inr (p, y) else .inl (-1, y))
    (hT : ∀ p' y, r = .inr (p', y) → ∀ N' MI' ML', CurC b T n OI OL y MI' ML' → DocC b T n N' pl (o, ds ++ [qPl q p'], rs) ns op dp MI' ML' → NmK N' y → Q (some (vI 1)) (MI', ML', GR d e nw th 1))
    (hF : ∀ f z, r = .inl (f, z) → ∀ MI' ML', FaiC b OI OL f z MI' ML' → Q (some (vI 0)) (MI', ML', GR d e nw th 1)) :
    wp cs mX2_readMixed KD Q 63 [some (vR 4), some (vR b), some (vI (ds.length : Nat)), some (vI l3)] [] (KD, MI, ML, GR d e nw th 1) := by
  have h0 := hc.2.2.2.2.1
  have hS := hD.2.2.1
  have hlen : ds.length < 30 := by have := hS.2.1; simp only [List.length_append, List.length_singleton] at this; omega
  refine v_X2_readMixed_63 hbd (lx_take1 (k := 12) (c := 41) (by decide) rfl hc (fun y hy MI1 c1 m1 => rI_mk ⟨fun z => by omega, fun _ => ?_⟩) (fun f z hy MI1 f1 => rI_mk ⟨fun _ => hF f z (by rw [hr, hy]; rfl) _ _ f1, fun z => absurd rfl z⟩))
  have hy2 : y = h + 1 := by unfold mbS at hy; split at hy <;> cases hy; rfl
  rw [hy, pb_r] at hr
  have d1 := DocC_mv hbd hD m1
  refine lx_takeIf (k := 13) (by decide) c1 (fun hs MI2 c2 m2 => rI_mk ⟨fun z => by omega, fun _ => ?_⟩) (fun hs => rI_mk ⟨fun _ => ⟨by omega, ?_, ?_⟩, fun z => absurd rfl z⟩)
  · refine hT p (y + 1) (by rw [hr, if_pos (stb1.mp hs)]) N MI2 ML c2 (DocC_mv hbd d1 m2) (NmK_mono hk (by omega))
  · simp only [Int.toNat_natCast]
    intro h13
    have hA := (d1.2.2.1.2.2 _ _ (last_get ds _)).2.2.2.1
    rw [h13] at hA
    have hp : p.1 = [] := List.length_eq_zero_iff.mp (by simp only [qPl] at hA; omega)
    refine hT p y (by rw [hr, if_neg (stbF (c := 42) rfl hs), if_pos hp]) N MI1 ML c1 d1 (NmK_mono hk (by omega))
  · simp only [Int.toNat_natCast]
    intro h13
    have hA := (d1.2.2.1.2.2 _ _ (last_get ds _)).2.2.2.1
    have hp : p.1 ≠ [] := fun z => h13 (by rw [hA]; simp [qPl, z])
    rw [c1.2.2.2.1]
    refine lx_refuse c1.2.2.2.2.2 (fun MI' hf => rI_mk ⟨fun _ => hF (-1) y ?_ _ _ hf, fun z => absurd rfl z⟩)
    rw [hr, if_neg (stbF (c := 42) rfl hs), if_neg hp]
theorem c_mixed_l (hbd : b = 38 ∨ b = 81) (hby : ∀ k, -128 ≤ T k ∧ T k < 128) : ∀ (k : Nat) (p : Pl) (h l3 : Int) (N : List By) (MI ML : Nat → Nat → Int), CurC b T n OI OL h MI ML → DocC b T n N pl (o, ds ++ [qPl q p], rs) ns op dp MI ML → NmK N h → 0 ≤ l3 ∧ l3 + 1 ≤ h → (n - h).toNat < k →
    (∀ p' y, mxF T n k p h = .inr (p', y) → ∀ N' MI' ML', CurC b T n OI OL y MI' ML' → DocC b T n N' pl (o, ds ++ [qPl q p'], rs) ns op dp MI' ML' → NmK N' y → Q (some (vI 1)) (MI', ML', GR d e nw th 1)) →
    (∀ f z, mxF T n k p h = .inl (f, z) → ∀ MI' ML', FaiC b OI OL f z MI' ML' → Q (some (vI 0)) (MI', ML', GR d e nw th 1)) →
    wp cs mX2_readMixed KD Q 9 [some (vR 4), some (vR b), some (vI (ds.length : Nat)), some (vI l3)] [] (KD, MI, ML, GR d e nw th 1) := by
  intro k
  induction k with
  | zero => intro p h l3 N MI ML _ _ _ _ hk; omega
  | succ k ih =>
    intro p h l3 N MI ML hc hD hN hl hk hT hF
    have h0 := hc.2.2.2.2.1
    have hn := hc.2.1
    have hn6 := hc.2.2.1
    refine v_X2_readMixed_9 hbd ⟨fun hlt => ?_, fun hge => by omega⟩
    refine lx_takeIf (k := 11) (by decide) hc (fun hs MI1 c1 m1 => rI_mk ⟨fun z => by omega, fun _ => ?_⟩) (fun hs => rI_mk ⟨fun _ => ?_, fun z => absurd rfl z⟩)
    · have hob : ob T n h = 124 := stb1.mp hs
      have sl1 : sl 11 = 1 := by decide
      rw [sl1] at c1
      have hs1 := sk_le T n (h + 1)
      have h1 := c1.2.2.2.2.1
      have e : mxF T n (k + 1) p h = pb (plS T n p (sk T n (h + 1))) fun q => mxF T n k q.1 (sk T n q.2) := by rw [mxF]; exact if_pos hob
      rw [e] at hT hF
      refine lx_skipSpace c1 (fun MI2 c2 m2 => rV_mk ?_)
      refine c_readPlace hbd hby c2 (DocC_mv hbd hD (mvd_tr m1 m2)) (NmK_mono hN (by omega)) (fun p' y hy N3 MI3 ML3 c3 d3 k3 _ _ _ => rI_mk ⟨fun z => by omega, fun _ => ?_⟩) (fun f z hy MI3 ML3 f3 => rI_mk ⟨fun _ => hF f z (by rw [hy]; rfl) _ _ f3, fun z => absurd rfl z⟩)
      have hy2 := plS_le hy
      have hs2 := sk_le T n y
      have h3 := c3.2.2.2.2.1
      rw [hy, pb_r] at hT hF
      refine lx_skipSpace c3 (fun MI4 c4 m4 => rV_mk ⟨by omega, ?_⟩)
      exact ih p' (sk T n y) (l3 + 1) N3 MI4 ML3 c4 (DocC_mv hbd d3 m4) (NmK_mono k3 (by omega)) (by omega) (by omega) hT hF
    · have hob : ob T n h ≠ 124 := fun z => by rw [show sB 11 = [124] from rfl, stb1.mpr z] at hs; cases hs
      exact c_mixed_63 hbd hc hD hN (r := mxF T n (k + 1) p h) (by rw [mxF]; exact if_neg hob) hT hF
theorem c_readMixed (hbd : b = 38 ∨ b = 81) (hby : ∀ k, -128 ≤ T k ∧ T k < 128) {p : Pl} (hc : CurC b T n OI OL h MI ML) (hD : DocC b T n N pl (o, ds ++ [qPl q p], rs) ns op dp MI ML) (hk : NmK N h) (h1 : 1 ≤ h)
    (hT : ∀ p' y, mxF T n (n + 1).toNat p (sk T n h) = .inr (p', y) → ∀ N' MI' ML', CurC b T n OI OL y MI' ML' → DocC b T n N' pl (o, ds ++ [qPl q p'], rs) ns op dp MI' ML' → NmK N' y → Q (some (vI 1)) (MI', ML', GR d e nw th 1))
    (hF : ∀ f z, mxF T n (n + 1).toNat p (sk T n h) = .inl (f, z) → ∀ MI' ML', FaiC b OI OL f z MI' ML' → Q (some (vI 0)) (MI', ML', GR d e nw th 1)) :
    wp cs mX2_readMixed KD Q 0 (padL [vR 4, vR b, vI (ds.length : Nat)] 4) [] (KD, MI, ML, GR d e nw th 1) := by
  have hs := sk_le T n h
  have h0 := hc.2.2.2.2.1
  refine v_X2_readMixed_0 hbd (lx_skipSpace hc (fun MI1 c1 m1 => rV_mk ?_))
  exact c_mixed_l hbd hby _ p _ 0 N MI1 ML c1 (DocC_mv hbd hD m1) (NmK_mono hk (by omega)) (by omega) (by omega) hT hF
def qAll (q : Dc) (p : Pl) (pt : Pt) : Dc := (q.1, q.2.1, q.2.2.1, p.1, p.2, pt.2.1, pt.2.2, pt.1)
theorem c_group_164 (hbd : b = 38 ∨ b = 81) {l3 l4 : Int} {p : Pl} {pt : Pt} (hc : CurC b T n OI OL h MI ML) (hD : DocC b T n N pl (o, ds ++ [qPl q p], rs) ns op dp MI ML) (hP : PtC pt MI ML)
    (hQ : ∀ MI' ML', CurC b T n OI OL h MI' ML' → DocC b T n N pl (o, ds ++ [qAll q p pt], rs) ns op dp MI' ML' → Q (some (vI 1)) (MI', ML', GR d e nw th 1)) :
    wp cs mX2_readGroup KD Q 164 [some (vR 4), some (vR b), some (vI (ds.length : Nat)), some (vI l3), some (vI l4), none] [] (KD, MI, ML, GR d e nw th 1) := by
  have hS := hD.2.2.1
  have hlen : ds.length < 30 := by have := hS.2.1; simp only [List.length_append, List.length_singleton] at this; omega
  obtain ⟨p1, p2, p3, p4⟩ := hP
  refine v_X2_readGroup_164 hbd ⟨by omega, ?_⟩
  simp only [Int.toNat_natCast]
  rw [p3]
  intro n176 f176
  have q8 : n176 4 8 = pt.2.2 := by rw [f176, up2_ne (by omega), p4]
  rw [q8, p1]
  intro n189 f189
  refine ⟨by omega, ?_⟩
  intro m202 e202
  have em : ∀ j, j ≠ b + 19 → m202 j = MI j := fun j hj => by rw [e202]; funext k; exact up2_ne hj k
  have en : ∀ j, j ≠ b + 17 → j ≠ b + 18 → n189 j = ML j := fun j z1 z2 => by rw [f189, f176]; funext k; rw [up2_ne z2, up2_ne z1]
  refine hQ _ _ (CurC_fr hc hbd (fun i z1 z2 => em i (by omega)) (fun i hi => en i (fun z => hi (Or.inr (Or.inr (by omega)))) (fun z => hi (Or.inr (Or.inr (by omega)))))) (DocC_spc (q := qPl q p) hbd rfl hD ⟨?_, ?_, fun j w hw => ?_⟩ (fun j hj => ⟨em j (by omega), en j (by omega) (by omega)⟩))
  · have := hS.1; simp only [List.length_append, List.length_singleton] at this ⊢; rw [em _ (by omega)]; exact this
  · have := hS.2.1; simpa using this
  · rcases last_of hw with ⟨hj, hw⟩ | ⟨rfl, rfl⟩
    · refine SpcA_pt (hS.2.2 j w (last_mono hw)) ?_ ?_ ?_ ?_ ?_ ?_ ?_ ?_ ?_ ?_ <;> (try intro z hz) <;> simp [e202, f189, f176, up2] <;> (try omega)
    · obtain ⟨a1, a2, a3, a4, a5, a6, a7, a8, a9, a10, a11⟩ := hS.2.2 _ _ (last_get ds _)
      refine ⟨by simpa [e202, up2, qPl, qAll] using a1, by simpa [e202, up2, qPl, qAll] using a2, by simpa [e202, up2, qPl, qAll] using a3, by simpa [e202, up2, qPl, qAll] using a4, a5, a6, fun z y hy => ?_, fun z y hy => ?_, ?_, ?_, ?_⟩
      · have := a7 z y hy; simpa [e202, f189, f176, up2, qPl, qAll] using this
      · have := a8 z y hy; simpa [f189, f176, up2, qPl, qAll] using this
      · simp [f189, f176, up2, qAll]
      · simp [f189, up2, qAll]
      · simp [e202, up2, qAll]
theorem grF_le (T : Nat → Int) (n : Int) : ∀ (k : Nat) (w : Bool) (p : Pl) (gs : List Gp) (h : Int) (p' : Pl) (pt : Pt) (y : Int), h ≤ n → grF T n k w p gs h = .inr (p', pt, y) → h < y
  | 0, w, p, gs, h, p', pt, y, _, hy => by simp [grF] at hy
  | k + 1, w, p, [], h, p', pt, y, _, hy => by cases w <;> simp [grF] at hy
  | k + 1, true, p, g :: gs, h, p', pt, y, hn, hy => by
    have hs := sk_le T n h
    rw [grF] at hy
    split at hy
    · next h1 =>
      have := ob_lt (c := 40) (by decide) h1
      split at hy
      · cases hy
      · have := grF_le T n k _ _ _ _ _ _ _ (by omega) hy; omega
    · obtain ⟨a, h1, h2⟩ := pb_inr hy
      have := plS_le h1
      have h3 := mkS_h (T := T) (n := n) (h := a.2) a.1 (0, l_shl 1 (p.1.length : Nat), l_shl 1 (p.1.length : Nat))
      have h4 := ob_lt (T := T) (n := n) (h := a.2) (c := ob T n a.2)
      simp only at h2
      by_cases hz : (mkS T n a.2 a.1 (0, l_shl 1 (p.1.length : Nat), l_shl 1 (p.1.length : Nat))).2.2 ≤ n
      · have := grF_le T n k _ _ _ _ _ _ _ hz h2; omega
      · exfalso
        revert hz
        unfold mkS
        repeat' split
        all_goals (simp only; intro hz)
        · next h5 => have := ob_lt (c := 63) (by decide) h5; omega
        · next h5 => have := ob_lt (c := 42) (by decide) h5; omega
        · next h5 => have := ob_lt (c := 43) (by decide) h5; omega
        · omega
  | k + 1, false, p, g :: gs, h, p', pt, y, hn, hy => by
    have hs := sk_le T n h
    rw [grF] at hy
    split at hy
    · next h1 =>
      have h0 := ob_lt (c := 41) (by decide) h1
      have h3 := mkS_h (T := T) (n := n) (h := sk T n h + 1) p g.2.2
      simp only at hy
      split at hy
      · injection hy with hy
        have := congrArg (fun z => z.2.2) hy
        simp only at this
        omega
      · by_cases hz : (mkS T n (sk T n h + 1) p g.2.2).2.2 ≤ n
        · have := grF_le T n k _ _ _ _ _ _ _ hz hy; omega
        · exfalso
          revert hz
          unfold mkS
          repeat' split
          all_goals (simp only; intro hz)
          · next h5 => have := ob_lt (c := 63) (by decide) h5; omega
          · next h5 => have := ob_lt (c := 42) (by decide) h5; omega
          · next h5 => have := ob_lt (c := 43) (by decide) h5; omega
          · omega
    · split at hy
      · next h1 =>
        have h0 := ob_lt (T := T) (n := n) (h := sk T n h) (c := ob T n (sk T n h)) (by omega) rfl
        have := grF_le T n k _ _ _ _ _ _ _ (by omega) hy; omega
      · cases hy
end P69
