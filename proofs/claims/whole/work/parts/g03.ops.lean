/-! The law's calls that change something: feed, set, select. -/
section Pg03
variable {cs : Cs} {a1 a2 a3 a4 a5 : Int}
theorem b_feed : Both cs mX11_feed 6 mX12_feed 8 [vI a1, vI a2, vI a3, vI a4, vI a5] := by
  intro M hI
  obtain ⟨D, l, L, pg, d, e, nw, th, x, MI, ML, rfl, hde, hnt, hC, hR, hL, hP⟩ := hI
  have ht := hC.2.2.2.2.2
  obtain ⟨l1, l2, l3⟩ := hL
  refine w_X11_feed ht (fun h => ⟨_, rfl, ?_⟩) (fun h => ⟨_, rfl, ?_⟩)
  · obtain ⟨M1, hM1⟩ : ∃ M1, M1 = fed MI 1 0 10 (MI 0 10) (gF a1 a2 a3 a4 a5) 20 := ⟨_, rfl⟩
    rw [← hM1]
    have r0 : ∀ i, i ≠ 0 → i ≠ 1 → M1 i = MI i := fun i i0 i1 => by
      rw [hM1]; funext k; unfold fed; rw [if_neg (fun z => i0 z.1), if_neg (fun z => i1 z.1)]
    have r0k : ∀ k, k ≠ 10 → M1 0 k = MI 0 k := fun k hk => by
      rw [hM1]; unfold fed; rw [if_neg (fun z => hk z.2), if_neg (fun z => by omega)]
    have r010 : M1 0 10 = MI 0 10 + 20 := by rw [hM1]; unfold fed; rw [if_pos ⟨rfl, rfl⟩]; rfl
    have r1 : ∀ k : Nat, M1 1 k = if MI 0 10 ≤ (k : Int) ∧ (k : Int) < MI 0 10 + 20 then gF a1 a2 a3 a4 a5 ((k : Int) - MI 0 10).toNat else MI 1 k := fun k => by
      rw [hM1]; unfold fed; rw [if_neg (fun z => by omega)]
      by_cases hk : MI 0 10 ≤ (k : Int) ∧ (k : Int) < MI 0 10 + 20
      · rw [if_pos hk, if_pos ⟨rfl, hk.1, hk.2⟩]
      · rw [if_neg hk, if_neg (fun z => hk ⟨z.2.1, z.2.2⟩)]
    clear hM1
    have h1 : M1 124 1 = MI 0 10 := by rw [r0 124 (by decide) (by decide)]; exact l1
    refine w_X12_feed (by rw [h1]; exact ht) (fun h' => ⟨by rw [h1], ?_⟩) (fun h' => absurd h (by rw [h1] at h'; omega))
    rw [h1]
    obtain ⟨M2, hM2⟩ : ∃ M2, M2 = fed M1 125 124 1 (MI 0 10) (gR a1 a2 a3 a4 a5) 20 := ⟨_, rfl⟩
    rw [← hM2]
    have s0 : ∀ i, i ≠ 124 → i ≠ 125 → M2 i = M1 i := fun i i0 i1 => by
      rw [hM2]; funext k; unfold fed; rw [if_neg (fun z => i0 z.1), if_neg (fun z => i1 z.1)]
    have s0k : ∀ k, k ≠ 1 → M2 124 k = M1 124 k := fun k hk => by
      rw [hM2]; unfold fed; rw [if_neg (fun z => hk z.2), if_neg (fun z => by omega)]
    have s010 : M2 124 1 = MI 0 10 + 20 := by rw [hM2]; unfold fed; rw [if_pos ⟨rfl, rfl⟩]; rfl
    have s1 : ∀ k : Nat, M2 125 k = if MI 0 10 ≤ (k : Int) ∧ (k : Int) < MI 0 10 + 20 then gR a1 a2 a3 a4 a5 ((k : Int) - MI 0 10).toNat else MI 125 k := fun k => by
      rw [hM2]; unfold fed; rw [if_neg (fun z => by omega)]
      by_cases hk : MI 0 10 ≤ (k : Int) ∧ (k : Int) < MI 0 10 + 20
      · rw [if_pos hk, if_pos ⟨rfl, hk.1, hk.2⟩]
      · rw [if_neg hk, if_neg (fun z => hk ⟨z.2.1, z.2.2⟩), r0 125 (by decide) (by decide)]
    clear hM2
    have q : ∀ i, i ≠ 0 → i ≠ 1 → i ≠ 124 → i ≠ 125 → M2 i = MI i := fun i i0 i1 i2 i3 => by rw [s0 i i2 i3, r0 i i0 i1]
    have q124 : ∀ k, k ≠ 1 → M2 124 k = MI 124 k := fun k hk => by rw [s0k k hk, r0 124 (by decide) (by decide)]
    obtain ⟨⟨T, n, N, pl, c0, c1⟩, c2, c3, c4, c5, c6⟩ := hC
    obtain ⟨k1, k2, k3, k4, k5, k6, k7, k8⟩ := hR
    refine ⟨D, l, L, pg, d, e, nw, th, x, M2, ML, rfl, hde, hnt, ⟨⟨T, n, N, pl, c0, DocC_fr c1 (fun i a c => q i (by omega) (by omega) (by omega) (by omega)) (fun _ _ _ => rfl)⟩, JuC_rw c2 (by rw [q 11 (by decide) (by decide) (by decide) (by decide)]) (q 12 (by decide) (by decide) (by decide) (by decide)), ChoC_rw c3 (by rw [q 23 (by decide) (by decide) (by decide) (by decide)]) (q 24 (by decide) (by decide) (by decide) (by decide)), LinC_rw c4 (fun i a c => q i (by omega) (by omega) (by omega) (by omega)), fun k => ?_, ?_⟩, ⟨RefH_rw k1 (fun i a c => ⟨q i (by omega) (by omega) (by omega) (by omega), rfl⟩) (q124 7 (by decide)) (q124 9 (by decide)), by rw [q124 7 (by decide)]; exact k2, by rw [q124 9 (by decide)]; exact k3, JuR_rw k4 (q124 65 (by decide)) (q 174 (by decide) (by decide) (by decide) (by decide)) (q 175 (by decide) (by decide) (by decide) (by decide)), ToldR_rw k5 (q124 68 (by decide)) (q 176 (by decide) (by decide) (by decide) (by decide)), LinR_rw k6 (q124 86 (by decide)) (q124 87 (by decide)) (fun i a c => q i (by omega) (by omega) (by omega) (by omega)), fun k => ?_, by rw [q 126 (by decide) (by decide) (by decide) (by decide)]; exact k8⟩, ⟨?_, ?_, fun k hk => ?_⟩, hP⟩
    · rw [s0 1 (by decide) (by decide), r1 k]
      split
      · exact b_2b _
      · exact c5 k
    · rw [s0 0 (by decide) (by decide), r010]; omega
    · rw [s1 k]
      split
      · exact b_2b _
      · exact k7 k
    · rw [s010, s0 0 (by decide) (by decide), r010]
    · rw [q124 6 (by decide), s0 0 (by decide) (by decide), r0k 11 (by decide)]; exact l2
    · rw [s0 0 (by decide) (by decide), r010] at hk
      rw [s1 k, s0 1 (by decide) (by decide), r1 k]
      by_cases hk2 : MI 0 10 ≤ (k : Int) ∧ (k : Int) < MI 0 10 + 20
      · rw [if_pos hk2, if_pos hk2, g_same]
      · rw [if_neg hk2, if_neg hk2]; exact l3 k (by omega)
  · have h1 : MI 124 1 = MI 0 10 := l1
    refine w_X12_feed (by rw [h1]; exact ht) (fun h' => absurd h (by rw [h1] at h'; omega)) (fun h' => ⟨rfl, D, l, L, pg, d, e, nw, th, x, MI, ML, rfl, hde, hnt, hC, hR, ⟨l1, l2, l3⟩, hP⟩)
theorem tle_le {D : Dm} {l : List Nat} {L : List Ln} {pg : List (Nat × Nat)} {d : Nat} {MI ML : Nat → Nat → Int} (h : CI D l L pg d MI ML) : tle D.2.1 ≤ 2000 := by
  obtain ⟨T, n, N, pl, c0, c1⟩ := h.1
  have hp := c1.2.2.2.2.2.2.1
  have h15 := c1.2.2.2.2.1.2.2.1
  omega
theorem b_set : Both cs mX11_set 3 mX12_set 6 [vI a1, vI a2] := by
  intro M hI
  obtain ⟨D, l, L, pg, d, e, nw, th, x, MI, ML, rfl, hde, hnt, hC, hR, hL, hP⟩ := hI
  have htl := tle_le hC
  have hCC := hC
  have hRR := hR
  obtain ⟨⟨T, n, N, pl, c0, c1⟩, c2, c3, c4, c5, c6⟩ := hC
  obtain ⟨k1, k2, k3, k4, k5, k6, k7, k8⟩ := hR
  refine c_set (by omega) c0 hP c1 (fun hz => ⟨_, rfl, ?_⟩) (fun z1 z2 z3 M1 hl1 f1 => ⟨_, rfl, ?_⟩)
  · exact c_rset (fun z => ⟨(hP z).1, (hP z).2.1⟩) htl k1 (fun _ => ⟨rfl, D, l, L, pg, d, e, nw, th, x, MI, ML, rfl, hde, hnt, hCC, hRR, hL, hP⟩) (fun z1 z2 z3 => by rcases hz with z | z | z; exact absurd z z1; exact absurd z2 z; exact absurd z3 z) k3
  · have r : ∀ i, ¬ (28 ≤ i ∧ i ≤ 37) → M1 i = MI i := fun i hi => frP_row f1 (fun k z => hi z)
    have hR1 : RI D l L pg M1 ML := RI_rw hRR (fun i a c => ⟨r i (by omega), rfl⟩)
    refine c_rset (fun z => ⟨(hP z).1, (hP z).2.1⟩) htl hR1.1 (fun hz => by rcases hz with z | z | z; exact absurd z z1; exact absurd z2 z; exact absurd z3 z) (fun _ _ _ M2 hl2 f2 => ⟨rfl, ?_⟩) hR1.2.2.1
    have s : ∀ i, i ≤ 190 → i ≠ 124 → M2 i = M1 i := fun i hi h4 => frP_row f2 (fun k z => by unfold chSR at z; omega)
    have s124 : ∀ k, k < 86 → M2 124 k = M1 124 k := fun k hk => f2 124 k (by unfold chSR; omega)
    have q : ∀ i, i ≤ 190 → i ≠ 124 → ¬ (28 ≤ i ∧ i ≤ 37) → M2 i = MI i := fun i a c g => by rw [s i a c, r i g]
    have q124 : ∀ k, k < 86 → M2 124 k = MI 124 k := fun k hk => by rw [s124 k hk, r 124 (by decide)]
    refine ⟨D, l, setL D.2.1 a1.toNat, setP D.2.1 a1.toNat a2.toNat, d, e, nw, th, x, M2, ML, rfl, hde, hnt, ⟨⟨T, n, N, pl, c0, DocC_fr c1 (fun i a c => q i (by omega) (by omega) (by omega)) (fun _ _ _ => rfl)⟩, JuC_rw c2 (by rw [q 11 (by decide) (by decide) (by decide)]) (q 12 (by decide) (by decide) (by decide)), ChoC_rw c3 (by rw [q 23 (by decide) (by decide) (by decide)]) (q 24 (by decide) (by decide) (by decide)), LinC_rw hl1 (fun i a c => s i (by omega) (by omega)), by rw [q 1 (by decide) (by decide) (by decide)]; exact c5, by rw [q 0 (by decide) (by decide) (by decide)]; exact c6⟩, ⟨RefH_rw k1 (fun i a c => ⟨q i (by omega) (by omega) (by omega), rfl⟩) (q124 7 (by decide)) (q124 9 (by decide)), by rw [q124 7 (by decide)]; exact k2, by rw [q124 9 (by decide)]; exact k3, JuR_rw k4 (q124 65 (by decide)) (q 174 (by decide) (by decide) (by decide)) (q 175 (by decide) (by decide) (by decide)), ToldR_rw k5 (q124 68 (by decide)) (q 176 (by decide) (by decide) (by decide)), hl2, by rw [q 125 (by decide) (by decide) (by decide)]; exact k7, by rw [q 126 (by decide) (by decide) (by decide)]; exact k8⟩, ?_, hP⟩
    unfold LkI
    rw [q124 1 (by decide), q124 6 (by decide), q 0 (by decide) (by decide) (by decide), q 125 (by decide) (by decide) (by decide), q 1 (by decide) (by decide) (by decide)]
    exact hL
theorem b_select : Both cs mX11_select 4 mX12_select 4 [vI a1, vI a2] := by
  intro M hI
  obtain ⟨D, l, L, pg, d, e, nw, th, x, MI, ML, rfl, hde, hnt, hC, hR, hL, hP⟩ := hI
  have hCC := hC
  have hRR := hR
  obtain ⟨⟨T, n, N, pl, c0, c1⟩, c2, c3, c4, c5, c6⟩ := hC
  obtain ⟨k1, k2, k3, k4, k5, k6, k7, k8⟩ := hR
  obtain ⟨l1, l2, l3⟩ := hL
  have hd : d = 38 ∨ d = 81 := by omega
  -- the reference's side after the class's
  have cong : ∀ M1 : Nat → Nat → Int, M1 125 = MI 125 → 0 ≤ a2 ∧ a2 ≤ MI 0 10 → paS (M1 125) a2 = paS (MI 1) a2 := fun M1 h1 h2 => by
    rw [h1]; exact paS_cong h2.1 (fun j hj => l3 j (by omega))
  -- the end: memories M1 (behind the class's call), M2 (behind the reference's)
  have fin : ∀ (l' : List Nat) (nw th x : Nat) (M1 M2 : Nat → Nat → Int), (nw = 25 ∧ th = 26 ∨ nw = 26 ∧ th = 25) → frP chST MI M1 → frP chRT M1 M2 → M1 0 10 = 0 → M2 124 1 = 0 → M2 124 6 = M1 0 11 → (∀ k, -128 ≤ M2 126 k ∧ M2 126 k < 128) → ChoC l' M1 → ToldR l' M2 → InvM (M2, ML, GR d e nw th x) := by
    intro l' nw th x M1 M2 hnt f1 f2 h10 h1 h6 hb6 hch hto
    have r : ∀ i, i ≤ 200 → ¬ (i = 0 ∨ i = 2 ∨ (4 ≤ i ∧ i ≤ 10) ∨ (14 ≤ i ∧ i ≤ 27)) → M1 i = MI i := fun i a hi => frP_row f1 (fun k z => by unfold chST chSF chP at z; omega)
    have s : ∀ i, ¬ (i = 124 ∨ i = 126 ∨ (176 ≤ i ∧ i ≤ 190)) → M2 i = M1 i := fun i hi => frP_row f2 (fun k z => by unfold chRT chRF chPR ch5 at z; omega)
    have s124 : ∀ k, ¬ (k = 1 ∨ k = 3 ∨ k = 4 ∨ k = 5 ∨ k = 6 ∨ k = 51 ∨ k = 52 ∨ k = 68 ∨ k = 84 ∨ k = 85) → M2 124 k = MI 124 k := fun k hk => by
      rw [f2 124 k (by unfold chRT chRF chPR ch5; omega), r 124 (by decide) (by decide)]
    have q : ∀ i, i ≤ 200 → ¬ (i = 0 ∨ i = 2 ∨ (4 ≤ i ∧ i ≤ 10) ∨ (14 ≤ i ∧ i ≤ 27)) → ¬ (i = 124 ∨ i = 126 ∨ (176 ≤ i ∧ i ≤ 190)) → M2 i = MI i := fun i a c g => by rw [s i g, r i a c]
    refine ⟨D, l', L, pg, d, e, nw, th, x, M2, ML, rfl, hde, hnt, ⟨⟨T, n, N, pl, c0, DocC_fr c1 (fun i a c => q i (by omega) (by omega) (by omega)) (fun _ _ _ => rfl)⟩, JuC_rw c2 (by rw [q 11 (by decide) (by decide) (by decide)]) (q 12 (by decide) (by decide) (by decide)), ChoC_rw hch (by rw [s 23 (by decide)]) (s 24 (by decide)), LinC_rw c4 (fun i a c => q i (by omega) (by omega) (by omega)), by rw [q 1 (by decide) (by decide) (by decide)]; exact c5, by rw [s 0 (by decide), h10]; omega⟩, ⟨RefH_rw k1 (fun i a c => ⟨q i (by omega) (by omega) (by omega), rfl⟩) (s124 7 (by decide)) (s124 9 (by decide)), by rw [s124 7 (by decide)]; exact k2, by rw [s124 9 (by decide)]; exact k3, JuR_rw k4 (s124 65 (by decide)) (q 174 (by decide) (by decide) (by decide)) (q 175 (by decide) (by decide) (by decide)), hto, LinR_rw k6 (s124 86 (by decide)) (s124 87 (by decide)) (fun i a c => q i (by omega) (by omega) (by omega)), by rw [q 125 (by decide) (by decide) (by decide)]; exact k7, hb6⟩, ⟨by rw [h1, s 0 (by decide), h10], by rw [h6, s 0 (by decide)], fun k hk => by rw [s 0 (by decide), h10] at hk; omega⟩, hP⟩
  refine c_select hd hnt (fun z => ⟨(hP z).1, (hP z).2.1⟩) c0 c6 c1 (fun hz => ⟨_, rfl, ?_⟩) (fun z1 z2 f p hp M1 f1 t1 t2 => ⟨_, rfl, ?_⟩) (fun z1 z2 fr lp hp nw' th' M1 hnt' f1 t1 t2 hch => ⟨_, rfl, ?_⟩)
  · refine c_rselect k1 (fun z => (hP z).1) (by rw [l1]; exact c6) k7 k8 (fun _ => ⟨rfl, D, l, L, pg, d, e, nw, th, x, MI, ML, rfl, hde, hnt, hCC, hRR, ⟨l1, l2, l3⟩, hP⟩) (fun z1 z2 => ?_) (fun z1 z2 => ?_)
    · rw [l1] at z2
      rcases hz with w | w | w
      · exact absurd z1 w
      · omega
      · omega
    · rw [l1] at z2
      rcases hz with w | w | w
      · exact absurd z1 w
      · omega
      · omega
  · have r : ∀ i, 124 ≤ i → i ≤ 200 → M1 i = MI i := fun i a c => frP_row f1 (fun k z => by unfold chSF chP at z; omega)
    have hR1 : RI D l L pg M1 ML := RI_rw hRR (fun i a c => ⟨r i a c, rfl⟩)
    have e1 : M1 124 1 = MI 0 10 := by rw [r 124 (by decide) (by decide)]; exact l1
    refine c_rselect hR1.1 (fun z => (hP z).1) (by rw [e1]; exact c6) hR1.2.2.2.2.2.2.1 hR1.2.2.2.2.2.2.2 (fun hz => ?_) (fun y1 y2 f' p' hp' M2 f2 u1 u2 hb6 => ?_) (fun y1 y2 fr lp hp' => ?_)
    · rw [e1] at hz
      rcases hz with w | w | w
      · exact absurd z1 w
      · omega
      · omega
    · rw [cong M1 (r 125 (by decide) (by decide)) z2, hp] at hp'
      cases hp'
      have hch1 : ChoC l M1 := ChoC_rw c3 (f1 23 1 (by unfold chSF chP; omega)) (frP_row f1 (fun k z => by unfold chSF chP at z; omega))
      have hto2 : ToldR l M2 := ToldR_rw hR1.2.2.2.2.1 (f2 124 68 (by unfold chRF chPR ch5; omega)) (frP_row f2 (fun k z => by unfold chRF chPR ch5 at z; omega))
      exact ⟨rfl, fin l nw th 1 M1 M2 hnt (frP_mono f1 (fun i k z => Or.inl z)) (frP_mono f2 (fun i k z => Or.inl z)) t1 u1 (by rw [u2, t2]) hb6 hch1 hto2⟩
    · rw [cong M1 (r 125 (by decide) (by decide)) z2, hp] at hp'
      cases hp'
  · have r : ∀ i, 124 ≤ i → i ≤ 200 → M1 i = MI i := fun i a c => frP_row f1 (fun k z => by unfold chST chSF chP at z; omega)
    have hR1 : RI D l L pg M1 ML := RI_rw hRR (fun i a c => ⟨r i a c, rfl⟩)
    have e1 : M1 124 1 = MI 0 10 := by rw [r 124 (by decide) (by decide)]; exact l1
    refine c_rselect hR1.1 (fun z => (hP z).1) (by rw [e1]; exact c6) hR1.2.2.2.2.2.2.1 hR1.2.2.2.2.2.2.2 (fun hz => ?_) (fun y1 y2 f' p' hp' => ?_) (fun y1 y2 fr' lp' hp' M2 f2 u1 u2 hb6 hto => ?_)
    · rw [e1] at hz
      rcases hz with w | w | w
      · exact absurd z1 w
      · omega
      · omega
    · rw [cong M1 (r 125 (by decide) (by decide)) z2, hp] at hp'
      cases hp'
    · rw [cong M1 (r 125 (by decide) (by decide)) z2, hp] at hp'
      cases hp'
      exact ⟨rfl, fin _ nw' th' 1 M1 M2 hnt' f1 f2 t1 u1 (by rw [u2, t2]) hb6 hch hto⟩
end Pg03
