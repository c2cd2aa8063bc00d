theorem mxF_le (T : Nat → Int) (n : Int) : ∀ (k : Nat) (p : Pl) (h : Int) (p' : Pl) (y : Int), mxF T n k p h = .inr (p', y) → h < y
  | 0, p, h, p', y, hy => by simp [mxF] at hy
  | k + 1, p, h, p', y, hy => by
    rw [mxF] at hy
    split at hy
    · obtain ⟨q, h1, h2⟩ := pb_inr hy
      have a1 := plS_le (show plS T n p (sk T n (h + 1)) = .inr (q.1, q.2) from h1)
      have a2 := sk_le T n (h + 1)
      have a3 := sk_le T n q.2
      have := mxF_le T n k _ _ _ _ h2
      omega
    · obtain ⟨z, h1, h2⟩ := pb_inr hy
      have := mbS_eq h1
      split at h2
      · cases h2; omega
      · split at h2
        · cases h2; omega
        · cases h2
theorem spS_le {T : Nat → Int} {n h : Int} {r : Int × Pl × Pt} {y : Int} (h1 : h ≤ n) (hy : spS T n h = .inr (r, y)) : h ≤ y := by
  unfold spS at hy
  split at hy
  · cases hy; omega
  · split at hy
    · cases hy; omega
    · obtain ⟨g, h2, h3⟩ := pb_inr hy
      have a1 := mbS_eq h2
      have a2 := sk_le T n g
      have a4 := ob_lt (c := 40) (by decide) a1.2
      split at h3
      · obtain ⟨q, h4, h5⟩ := pb_inr h3
        have a3 := sk_le T n (sk T n g + 7)
        have := mxF_le T n _ _ _ _ _ (show mxF T n (n + 1).toNat ([], []) (sk T n (sk T n g + 7)) = .inr (q.1, q.2) from h4)
        injection h5 with h5
        have := congrArg Prod.snd h5
        simp only at this
        omega
      · obtain ⟨q, h4, h5⟩ := pb_inr h3
        have := grF_le T n _ _ _ _ _ _ _ _ (by omega) (show grF T n (n + 1).toNat true ([], []) [(0, false, 0, 0, 0)] (sk T n g) = .inr (q.1, q.2.1, q.2.2) from h4)
        injection h5 with h5
        have := congrArg Prod.snd h5
        simp only at this
        omega
theorem deS_le {T : Nat → Int} {n h : Int} {ds ds' : List Dc} {nr : Nat} {w : Int} (h1 : h + 9 ≤ n) (hy : deS T n ds nr h = .inr (ds', w)) : h + 10 ≤ w ∧ ds'.length = ds.length + 1 := by
  unfold deS at hy
  split at hy
  · cases hy
  · obtain ⟨g, a1, hy⟩ := pb_inr hy
    obtain ⟨y, a2, hy⟩ := pb_inr hy
    obtain ⟨z, a3, hy⟩ := pb_inr hy
    obtain ⟨q, a4, hy⟩ := pb_inr hy
    obtain ⟨v, a5, hy⟩ := pb_inr hy
    have b1 := msS_lt a1
    have b2 := nmS_ok a2
    have b3 := msS_lt a3
    have b4 := spS_le (by omega) (show spS T n z = .inr (q.1, q.2) from a4)
    have b5 := mbS_eq a5
    have b6 := sk_le T n q.2
    cases hy
    exact ⟨by omega, by simp⟩
theorem rusF_le (T : Nat → Int) (n : Int) (w : By) : ∀ (k pl : Nat) (rs : List Rl) (h : Int) (pl' : Nat) (rs' : List Rl) (y : Int), 0 ≤ h → rusF T n w k pl rs h = .inr (pl', rs', y) → h < y
  | 0, pl, rs, h, pl', rs', y, _, hy => by simp [rusF] at hy
  | k + 1, pl, rs, h, pl', rs', y, h0, hy => by
    have hs := sk_le T n h
    rw [rusF] at hy
    split at hy
    · obtain ⟨q, h1, h2⟩ := pb_inr hy
      have a1 := ruS_le (by omega) (show ruS T n pl rs w (sk T n h) = .inr (q.1, q.2.1, q.2.2) from h1)
      have := rusF_le T n w k _ _ _ _ _ _ (by omega) h2
      omega
    · obtain ⟨z, h1, h2⟩ := pb_inr hy
      have := mbS_eq h1
      cases h2; omega
theorem alS_le {T : Nat → Int} {n h : Int} {pl pl' : Nat} {rs rs' : List Rl} {y : Int} (h0 : 0 ≤ h) (hy : alS T n pl rs h = .inr (pl', rs', y)) : h < y := by
  unfold alS at hy
  obtain ⟨g, a1, hy⟩ := pb_inr hy
  obtain ⟨z, a2, hy⟩ := pb_inr hy
  have b1 := msS_lt a1
  have b2 := nmS_ok a2
  have := rusF_le T n _ _ _ _ _ _ _ _ (by omega) hy
  omega
section P74
variable {cs : Cs} {Q : Option AV → Mm → Prop} {MI ML OI OL : Nat → Nat → Int} {b d e nw th : Nat} {T : Nat → Int} {n h : Int} {N : List By} {o : Option By} {ns : List Nd} {op : List Int} {dp : Int}
theorem c_dt_l (hbd : b = 38 ∨ b = 81) (hby : ∀ k, -128 ≤ T k ∧ T k < 128) : ∀ (k pl : Nat) (ds : List Dc) (rs : List Rl) (h l2 : Int) (N : List By) (MI ML : Nat → Nat → Int), CurC b T n OI OL h MI ML → DocC b T n N pl (o, ds, rs) ns op dp MI ML → NmK N h → RuK rs h → 0 ≤ l2 ∧ l2 + 1 ≤ h → (n - h).toNat < k →
    (∀ pl' D' y, (pb (dcF T n k pl ds rs h) fun q => pb (mbS T n (sk T n q.2.2.2) 62) fun v => pb (mcS T n v) fun u => (.inr (q.1, (o, q.2.1, q.2.2.1), u) : PR (Nat × Dt × Int))) = .inr (pl', D', y) → ∀ N' MI' ML', CurC b T n OI OL y MI' ML' → DocC b T n N' pl' D' ns op dp MI' ML' → NmK N' y → RuK D'.2.2 y → Q (some (vI 1)) (MI', ML', GR d e nw th 1)) →
    (∀ f z, (pb (dcF T n k pl ds rs h) fun q => pb (mbS T n (sk T n q.2.2.2) 62) fun v => pb (mcS T n v) fun u => (.inr (q.1, (o, q.2.1, q.2.2.1), u) : PR (Nat × Dt × Int))) = .inl (f, z) → ∀ MI' ML', FaiC b OI OL f z MI' ML' → Q (some (vI 0)) (MI', ML', GR d e nw th 1)) →
    wp cs mX2_readDoctype KD Q 84 [some (vR 4), some (vR b), some (vI l2), none, none] [] (KD, MI, ML, GR d e nw th 1) := by
  intro k
  induction k with
  | zero => intro pl ds rs h l2 N MI ML _ _ _ _ _ hk; omega
  | succ k ih =>
    intro pl ds rs h l2 N MI ML hc hD hN hR hl hk hT hF
    have h0 := hc.2.2.2.2.1
    have hn := hc.2.1
    have hn6 := hc.2.2.1
    rw [dcF] at hT hF
    refine v_X2_readDoctype_84 hbd ⟨fun _ => ?_, fun z => by omega⟩
    refine lx_takeIf (k := 5) (by decide) hc (fun hs MI1 c1 m1 => rI_mk ⟨fun z => by omega, fun _ => ?_⟩) (fun hs => rI_mk ⟨fun _ => ?_, fun z => absurd rfl z⟩)
    · have hob : ob T n h = 93 := stbT rfl hs
      have s1 : sl 5 = 1 := by decide
      rw [s1] at c1
      rw [if_pos hob, pb_r] at hT hF
      simp only at hT hF
      have hs1 := sk_le T n (h + 1)
      refine lx_skipSpace c1 (fun MI2 c2 m2 => rV_mk (lx_take1 (k := 2) (c := 62) (by decide) rfl c2 (fun y hy MI3 c3 m3 => rI_mk ⟨fun z => by omega, fun _ => ?_⟩) (fun f z hy MI3 f3 => rI_mk ⟨fun _ => hF f z (by rw [hy]; rfl) _ _ f3, fun z => absurd rfl z⟩)))
      have hy1 := mbS_eq hy
      rw [hy, pb_r] at hT hF
      refine lx_skipComments c3 (fun u hu MI4 c4 m4 => rI_mk ⟨fun z => by omega, fun _ => ?_⟩) (fun f z hu MI4 f4 => rI_mk ⟨fun _ => hF f z (by rw [hu]; rfl) _ _ f4, fun z => absurd rfl z⟩)
      have hu1 := mcS_le (by omega) c3.2.2.2.2.1.2 hu
      exact hT _ _ u (by rw [hu]; rfl) N MI4 ML c4 (DocC_mv hbd hD (mvd_tr m1 (mvd_tr m2 (mvd_tr m3 m4)))) (NmK_mono hN (by omega)) (RuK_mono hR (by omega))
    · have hob : ob T n h ≠ 93 := stbF rfl hs
      rw [if_neg hob] at hT hF
      have e22 : MI 2 2 = h := hc.2.2.2.1
      rw [e22]
      -- behind a declaration
      have nxt : ∀ (pl1 : Nat) (ds1 : List Dc) (rs1 : List Rl) (y : Int) (N1 : List By) (MI1 ML1 : Nat → Nat → Int), h < y → CurC b T n OI OL y MI1 ML1 → DocC b T n N1 pl1 (o, ds1, rs1) ns op dp MI1 ML1 → NmK N1 y → RuK rs1 y →
          (∀ pl' D' z, (pb (pb (mcS T n y) fun y => dcF T n k pl1 ds1 rs1 y) fun q => pb (mbS T n (sk T n q.2.2.2) 62) fun v => pb (mcS T n v) fun u => (.inr (q.1, (o, q.2.1, q.2.2.1), u) : PR (Nat × Dt × Int))) = .inr (pl', D', z) → ∀ N' MI' ML', CurC b T n OI OL z MI' ML' → DocC b T n N' pl' D' ns op dp MI' ML' → NmK N' z → RuK D'.2.2 z → Q (some (vI 1)) (MI', ML', GR d e nw th 1)) →
          (∀ f z, (pb (pb (mcS T n y) fun y => dcF T n k pl1 ds1 rs1 y) fun q => pb (mbS T n (sk T n q.2.2.2) 62) fun v => pb (mcS T n v) fun u => (.inr (q.1, (o, q.2.1, q.2.2.1), u) : PR (Nat × Dt × Int))) = .inl (f, z) → ∀ MI' ML', FaiC b OI OL f z MI' ML' → Q (some (vI 0)) (MI', ML', GR d e nw th 1)) →
          wp cs mX2_readDoctype KD Q 161 [some (vR 4), some (vR b), some (vI l2), some (vI h), none] [vI 1] (KD, MI1, ML1, GR d e nw th 1) := by
        intro pl1 ds1 rs1 y N1 MI1 ML1 hy c1 d1 k1 r1 hT1 hF1
        refine v_X2_readDoctype_161 hbd ⟨fun z => by omega, fun _ => ?_⟩
        refine lx_skipComments c1 (fun u hu MI2 c2 m2 => rI_mk ⟨fun z => by omega, fun _ => ⟨by omega, ?_⟩⟩) (fun f z hu MI2 f2 => rI_mk ⟨fun _ => hF1 f z (by rw [hu]; rfl) _ _ f2, fun z => absurd rfl z⟩)
        have hu1 := mcS_le (by omega) c1.2.2.2.2.1.2 hu
        rw [hu, pb_r] at hT1 hF1
        exact ih pl1 ds1 rs1 u (l2 + 1) N1 MI2 ML1 c2 (DocC_mv hbd d1 m2) (NmK_mono k1 (by omega)) (RuK_mono r1 (by omega)) (by omega) (by omega) hT1 hF1
      have bad : ∀ (MI1 ML1 : Nat → Nat → Int), Q (some (vI 0)) (MI1, ML1, GR d e nw th 1) → wp cs mX2_readDoctype KD Q 161 [some (vR 4), some (vR b), some (vI l2), some (vI h), none] [vI 0] (KD, MI1, ML1, GR d e nw th 1) := fun MI1 ML1 hq => v_X2_readDoctype_161 hbd ⟨fun _ => hq, fun z => absurd rfl z⟩
      refine lx_takeIf (k := 6) (by decide) hc (fun hs2 MI1 c1 m1 => rI_mk ⟨fun z => by omega, fun _ => ?_⟩) (fun hs2 => rI_mk ⟨fun _ => ?_, fun z => absurd rfl z⟩)
      · have s9 : sl 6 = 9 := by decide
        rw [s9] at c1
        have h1 := c1.2.2.2.2.1
        rw [if_pos (show stb T n h [60, 33, 69, 76, 69, 77, 69, 78, 84] = true from hs2)] at hT hF
        refine c_readElement hbd hby (by omega) c1 (DocC_mv hbd hD m1) hN (fun ds' y hy N2 MI2 ML2 c2 d2 k2 => rI_mk ?_) (fun f z hy MI2 ML2 f2 => rI_mk (bad _ _ (hF f z (by rw [hy]; rfl) _ _ f2)))
        have hy1 := deS_le (by omega) hy
        rw [hy, pb_r] at hT hF
        exact nxt pl ds' rs y N2 MI2 ML2 (by omega) c2 d2 k2 (RuK_mono hR (by omega)) hT hF
      · rw [if_neg (fun z : stb T n h [60, 33, 69, 76, 69, 77, 69, 78, 84] = true => by rw [show sB 6 = [60, 33, 69, 76, 69, 77, 69, 78, 84] from rfl] at hs2; rw [hs2] at z; cases z)] at hT hF
        refine lx_take (k := 16) (by decide) hc (fun hs3 MI1 c1 m1 => rI_mk ⟨fun z => by omega, fun _ => ?_⟩) (fun hs3 MI1 f1 => rI_mk ⟨fun _ => bad _ _ (hF (-1) h ?_ _ _ f1), fun z => absurd rfl z⟩)
        · have s9 : sl 16 = 9 := by decide
          rw [s9] at c1
          have h1 := c1.2.2.2.2.1
          rw [if_pos (show stb T n h [60, 33, 65, 84, 84, 76, 73, 83, 84] = true from hs3)] at hT hF
          refine c_readAttlist hbd hby c1 (DocC_mv hbd hD m1) (NmK_mono hN (by omega)) (RuK_mono hR (by omega)) (fun pl' rs' y hy N2 MI2 ML2 c2 d2 k2 r2 => rI_mk ⟨fun z => by omega, fun _ => ?_⟩) (fun f z hy MI2 ML2 f2 => rI_mk ⟨fun _ => bad _ _ (hF f z (by rw [hy]; rfl) _ _ f2), fun z => absurd rfl z⟩)
          have hy1 := alS_le (by omega) hy
          rw [hy, pb_r] at hT hF
          exact nxt pl' ds rs' y N2 MI2 ML2 (by omega) c2 d2 k2 r2 hT hF
        · rw [if_neg (fun z : stb T n h [60, 33, 65, 84, 84, 76, 73, 83, 84] = true => by rw [show sB 16 = [60, 33, 65, 84, 84, 76, 73, 83, 84] from rfl] at hs3; rw [hs3] at z; cases z)]; rfl
/-- a DOCTYPE, if there is one -/
theorem c_readDoctype (hbd : b = 38 ∨ b = 81) (hby : ∀ k, -128 ≤ T k ∧ T k < 128) (hc : CurC b T n OI OL h MI ML) (hD : DocC b T n N 0 (none, [], []) ns op dp MI ML) (hN : NmK N h)
    (hT : ∀ pl' D' y, dtS T n h = .inr (pl', D', y) → ∀ N' MI' ML', CurC b T n OI OL y MI' ML' → DocC b T n N' pl' D' ns op dp MI' ML' → NmK N' y → RuK D'.2.2 y → Q (some (vI 1)) (MI', ML', GR d e nw th 1))
    (hF : ∀ f z, dtS T n h = .inl (f, z) → ∀ MI' ML', FaiC b OI OL f z MI' ML' → Q (some (vI 0)) (MI', ML', GR d e nw th 1)) :
    wp cs mX2_readDoctype KD Q 0 (padL [vR 4, vR b] 5) [] (KD, MI, ML, GR d e nw th 1) := by
  have h0 := hc.2.2.2.2.1
  unfold dtS at hT hF
  have r0 : ∀ {y : Int}, 0 ≤ y → RuK [] y := fun hy => ⟨by simpa using hy, by simpa [tkA] using hy⟩
  refine v_X2_readDoctype_0 hbd (lx_takeIf (k := 3) (by decide) hc (fun hs MI1 c1 m1 => rI_mk ⟨fun z => by omega, fun _ => ?_⟩) (fun hs => rI_mk ⟨fun _ => ?_, fun z => absurd rfl z⟩))
  · have s9 : sl 3 = 9 := by decide
    rw [s9] at c1
    have h1 := c1.2.2.2.2.1
    rw [if_pos (show stb T n h [60, 33, 68, 79, 67, 84, 89, 80, 69] = true from hs)] at hT hF
    refine lx_needSpace c1 (fun g hg MI2 c2 m2 => rI_mk ⟨fun z => by omega, fun _ => ?_⟩) (fun f z hg MI2 f2 => rI_mk ⟨fun _ => hF f z (by rw [hg]; rfl) _ _ f2, fun z => absurd rfl z⟩)
    have hg1 := msS_lt hg
    rw [hg, pb_r] at hT hF
    refine lx_needName c2 (fun y hy MI3 c3 m3 l3 => rI_mk ⟨fun z => by omega, fun _ => ?_⟩) (fun f z hy MI3 f3 => rI_mk ⟨fun _ => hF f z (by rw [hy]; rfl) _ _ f3, fun z => absurd rfl z⟩)
    have hy1 := nmS_ok hy
    rw [hy, pb_r] at hT hF
    refine c_keepD hbd hby c3 l3 (by omega) hy (DocC_mv hbd hD (mvd_tr m1 (mvd_tr m2 m3))) (NmK_mono hN (by omega)) (fun N4 i MI4 d4 x4 i4 k4 c4 fr4 => rI_mk ?_)
    intro m48 e48
    have fr : ∀ j, j ≠ b → m48 j = MI4 j := fun j hj => by rw [e48]; funext k; exact up2_ne hj k
    have frb : ∀ k, k ≠ 17 → m48 b k = MI4 b k := fun k hk => by rw [e48]; exact up2_nk hk _
    have c5 : CurC b T n OI OL y m48 ML := CurC_fr c4 hbd (fun i z1 z2 => fr i (by omega)) (fun _ _ => rfl)
    have d5 : DocC b T n N4 0 (some (nb T g y), [], []) ns op dp m48 ML := by
      refine ⟨NamC_fr d4.1 (fun j z1 z2 => fr j (by omega)), IdxC_fr d4.2.1 (fun j z1 z2 => fr j (by omega)), SpcC_fr d4.2.2.1 (fun j z1 z2 => fr j (by omega)) (fun _ _ _ => rfl), RulC_fr d4.2.2.2.1 (fun j z1 z2 => fr j (by omega)) (fr _ (by omega)) (frb 14 (by decide)), NodC_fr d4.2.2.2.2.1 (fun j z1 z2 => fr j (by omega)) (frb 14 (by decide)) (frb 15 (by decide)) (frb 16 (by decide)), ?_, ?_, ?_⟩
      · show isId N4 (m48 b 17) (nb T g y)
        rw [e48, up2_eq]; exact i4
      · rw [frb 14 (by decide), frb 15 (by decide)]; exact d4.2.2.2.2.2.2.1
      · rw [frb 18 (by decide)]; exact d4.2.2.2.2.2.2.2
    have hsy := sk_le T n y
    refine lx_skipSpace c5 (fun MI6 c6 m6 => rV_mk (lx_take1 (k := 4) (c := 91) (by decide) rfl c6 (fun z hz MI7 c7 m7 => rI_mk ⟨fun z => by omega, fun _ => ?_⟩) (fun f z hz MI7 f7 => rI_mk ⟨fun _ => hF f z (by rw [hz]; rfl) _ _ f7, fun z => absurd rfl z⟩)))
    have hz1 := mbS_eq hz
    rw [hz, pb_r] at hT hF
    refine lx_skipComments c7 (fun u hu MI8 c8 m8 => rI_mk ⟨fun z => by omega, fun _ => ?_⟩) (fun f z hu MI8 f8 => rI_mk ⟨fun _ => hF f z (by rw [hu]; rfl) _ _ f8, fun z => absurd rfl z⟩)
    have hu1 := mcS_le (by omega) c7.2.2.2.2.1.2 hu
    rw [hu, pb_r] at hT hF
    exact c_dt_l hbd hby (n + 1).toNat 0 [] [] u 0 N4 MI8 ML c8 (DocC_mv hbd d5 (mvd_tr m6 (mvd_tr m7 m8))) (NmK_mono k4 (by omega)) (r0 (by omega)) (by omega) (by omega) hT hF
  · rw [if_neg (fun z : stb T n h [60, 33, 68, 79, 67, 84, 89, 80, 69] = true => by rw [show sB 3 = [60, 33, 68, 79, 67, 84, 89, 80, 69] from rfl] at hs; rw [hs] at z; cases z)] at hT
    exact hT 0 (none, [], []) h rfl N MI ML hc hD hN (r0 (by omega))
end P74
