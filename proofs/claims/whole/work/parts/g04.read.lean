/-! The law's read. -/
section Pg04
variable {cs : Cs} {a1 : Int}
theorem b_read : Both cs mX11_read 4 mX12_read 3 [vI a1] := by
  intro M hI
  obtain ⟨D, l, L, pg, d, e, nw, th, x, MI, ML, rfl, hde, hnt, hC, hR, hL, hP⟩ := hI
  have hCC := hC
  have hRR := hR
  obtain ⟨⟨T, n, N, pl, c0, c1⟩, c2, c3, c4, c5, c6⟩ := hC
  obtain ⟨k1, k2, k3, k4, k5, k6, k7, k8⟩ := hR
  obtain ⟨l1, l2, l3⟩ := hL
  have hd : d = 38 ∨ d = 81 := by omega
  have he : e = 38 ∨ e = 81 := by omega
  obtain ⟨bk, hbk, hb1⟩ : ∃ bk : Nat, MI 124 7 = 1 - (bk : Int) ∧ bk ≤ 1 := ⟨(1 - MI 124 7).toNat, by omega, by omega⟩
  have cong : ∀ M1 : Nat → Nat → Int, M1 125 = MI 125 → 0 ≤ a1 ∧ a1 ≤ MI 0 10 → rdS (M1 125) a1 = rdS (MI 1) a1 := fun M1 h1 h2 => by
    rw [h1]; exact rdS_cong (fun j hj => l3 j (by omega))
  refine c_read he hd c5 c6 (fun hz => ⟨_, rfl, ?_⟩) (fun hn f p hp M1 N1 f1 f10 f1l t1 t2 => ⟨_, rfl, ?_⟩) (fun hn D' hp N' pl' M1 N1 hD1 hV f1 f10 f1l t1 t2 => ?_)
  · refine c_rread hb1 hbk (by rw [l1]; exact c6) k7 k8 (fun _ => ⟨rfl, D, l, L, pg, d, e, nw, th, x, MI, ML, rfl, hde, hnt, hCC, hRR, ⟨l1, l2, l3⟩, hP⟩) (fun z => ?_) (fun z => ?_)
    · rw [l1] at z; omega
    · rw [l1] at z; omega
  · -- refused by both
    have r : ∀ i, 124 ≤ i → M1 i = MI i ∧ N1 i = ML i := fun i a => f1 i (by omega) (by unfold regC; omega)
    have hR1 : RI D l L pg M1 N1 := RI_rw hRR (fun i a c => r i a)
    have e1 : M1 124 1 = MI 0 10 := by rw [(r 124 (by decide)).1]; exact l1
    have e7 : M1 124 7 = 1 - (bk : Int) := by rw [(r 124 (by decide)).1]; exact hbk
    refine c_rread hb1 e7 (by rw [e1]; exact c6) hR1.2.2.2.2.2.2.1 hR1.2.2.2.2.2.2.2 (fun hz => ?_) (fun hn' f' p' hp' M2 N2 g u1 u2 hb6 => ?_) (fun hn' D' hp' => ?_)
    · rw [e1] at hz; omega
    · rw [cong M1 (r 125 (by decide)).1 hn, hp] at hp'
      cases hp'
      refine ⟨rfl, D, l, L, pg, d, e, nw, th, 1, M2, N2, rfl, hde, hnt, ?_, ?_, ?_, hP⟩
      · have s : ∀ i, i ≤ 123 → M2 i = M1 i ∧ N2 i = N1 i := fun i a => g.1 i (by omega) (by omega)
        have q : ∀ i, i ≤ 123 → i ≠ 0 → ¬ regC e i → M2 i = MI i ∧ N2 i = ML i := fun i a c h => by rw [(s i a).1, (s i a).2]; exact f1 i c h
        refine ⟨⟨T, n, N, pl, c0, DocC_fr c1 (fun i a c => (q i (by omega) (by omega) (by unfold regC; omega)).1) (fun i a c => (q i (by omega) (by omega) (by unfold regC; omega)).2)⟩, JuC_rw c2 (by rw [(q 11 (by decide) (by decide) (by unfold regC; omega)).1]) (q 12 (by decide) (by decide) (by unfold regC; omega)).1, ChoC_rw c3 (by rw [(q 23 (by decide) (by decide) (by unfold regC; omega)).1]) (q 24 (by decide) (by decide) (by unfold regC; omega)).1, LinC_rw c4 (fun i a c => (q i (by omega) (by omega) (by unfold regC; omega)).1), by rw [(q 1 (by decide) (by decide) (by unfold regC; omega)).1]; exact c5, by rw [(s 0 (by decide)).1, t1]; omega⟩
      · have g124 : ∀ k, ¬ fldB k → k ≠ 1 → k ≠ 3 → k ≠ 8 → M2 124 k = M1 124 k := fun k a c d h => (g.2.1 k a c d h).1
        have go : ∀ i, 174 ≤ i → M2 i = M1 i := fun i a => (g.1 i (by omega) (by omega)).1
        obtain ⟨j1, j2, j3, j4, j5, j6, j7, j8⟩ := hR1
        have n7 : ¬ fldB 7 := by unfold fldB fldR; omega
        have n9 : ¬ fldB 9 := by unfold fldB fldR; omega
        have h7 := g124 7 n7 (by decide) (by decide) (by decide)
        have h9 := g124 9 n9 (by decide) (by decide) (by decide)
        refine ⟨?_, by rw [h7]; exact j2, by rw [h9]; exact j3, JuR_rw j4 (g124 65 (by unfold fldB fldR; omega) (by decide) (by decide) (by decide)) (go 174 (by decide)) (go 175 (by decide)), ToldR_rw j5 (g124 68 (by unfold fldB fldR; omega) (by decide) (by decide) (by decide)) (go 176 (by decide)), LinR_rw j6 (g124 86 (by unfold fldB fldR; omega) (by decide) (by decide) (by decide)) (g124 87 (by unfold fldB fldR; omega) (by decide) (by decide) (by decide)) (fun i a c => go i (by omega)), by rw [(g.1 125 (by decide) (by decide)).1]; exact j7, hb6⟩
        rcases j1 with ⟨h1, h2⟩ | ⟨h1, bk0, T0, n0, pl0, h2, h3, h4⟩
        · exact Or.inl ⟨h1, by rw [h9]; exact h2⟩
        · have hne : (bk0 : Int) = 1 - (bk : Int) := by rw [← h3]; exact e7
          refine Or.inr ⟨by rw [h9]; exact h1, bk0, T0, n0, pl0, PicR_bk h2 (fun i k a c w1 w2 => g.2.2 i k a c (fun z => ?_)), by rw [h7]; exact h3, ⟨_, rfl⟩⟩
          rcases (by omega : bk0 = 0 ∧ bk = 1 ∨ bk0 = 1 ∧ bk = 0) with ⟨z1, z2⟩ | ⟨z1, z2⟩
          · subst z1; subst z2; simp only [Nat.zero_add, Nat.mul_one] at w2 z; omega
          · subst z1; subst z2; simp only [Nat.zero_add, Nat.mul_one] at w1 z; omega
      · have s0 := (g.1 0 (by decide) (by decide)).1
        refine ⟨by rw [u1, s0, t1], by rw [u2, s0, t2], fun k hk => by rw [s0, t1] at hk; omega⟩
    · rw [cong M1 (r 125 (by decide)).1 hn, hp] at hp'
      cases hp'
  · -- read by both
    have hn6 : a1 ≤ 6000 := by omega
    have hrd := rdS_V c5 hn.1 hp
    obtain ⟨v1, v2, v3, v4, v5, v6⟩ := hrd
    have hNB := rdS_N c5 hn.1 hp
    have h600 := hD1.2.2.2.2.1.2.1
    have hjl := judgeS_len c5 ⟨hn.1, hn6⟩ hp hV.2.1 hV.1 h600
    refine c_judge he hn6 hV.1 hV.2.1 v5 v6 (fun q hq => (v1.1 q hq).2) v3 hD1 hjl (fun M2 j2 f2 => rV_mk (v_X8_forget_0 ?_))
    rintro _ rfl
    refine rV_mk (v_X0_forget_0 ?_)
    rintro _ rfl _ rfl
    refine rV_mk ⟨_, rfl, ?_⟩
    obtain ⟨M3, hM3⟩ : ∃ M3, M3 = up2 (up2 (up2 M2 23 1 0) 28 16 0) 28 17 0 := ⟨_, rfl⟩
    rw [← hM3]
    have r3 : ∀ i, i ≠ 23 → i ≠ 28 → M3 i = M2 i := fun i a c => by rw [hM3]; funext k; rw [up2_ne c, up2_ne c, up2_ne a]
    have r23 : M3 23 1 = 0 := by rw [hM3, up2_ne (by decide), up2_ne (by decide), up2_eq]
    have r28 : M3 28 16 = 0 ∧ M3 28 17 = 0 := by rw [hM3]; exact ⟨by rw [up2_nk (by decide), up2_eq], by rw [up2_eq]⟩
    clear hM3
    have r : ∀ i, 124 ≤ i → M3 i = MI i ∧ N1 i = ML i := fun i a => by
      rw [r3 i (by omega) (by omega), f2 i (by omega) (by omega) (by omega)]; exact f1 i (by omega) (by unfold regC; omega)
    have hR3 : RI D l L pg M3 N1 := RI_rw hRR (fun i a c => r i a)
    have e1 : M3 124 1 = MI 0 10 := by rw [(r 124 (by decide)).1]; exact l1
    have e7 : M3 124 7 = 1 - (bk : Int) := by rw [(r 124 (by decide)).1]; exact hbk
    refine c_rread hb1 e7 (by rw [e1]; exact c6) hR3.2.2.2.2.2.2.1 hR3.2.2.2.2.2.2.2 (fun hz => ?_) (fun hn' f' p' hp' => ?_) (fun hn' D'' hp' T5 pl5 M5 N5 m1 m2 m3 m4 e1' e2' e3' e4' hPic h8 g u1 u2 hb6 hWA => ?_)
    · rw [e1] at hz; omega
    · rw [cong M3 (r 125 (by decide)).1 hn, hp] at hp'
      cases hp'
    · rw [cong M3 (r 125 (by decide)).1 hn, hp] at hp'
      cases hp'
      have w4 : ∀ i, i ≠ 124 → m4 i = M5 i := fun i hi => by rw [e4', e3', e2', e1']; funext k; rw [up2_ne hi, up2_ne hi, up2_ne hi, up2_ne hi]
      have w124 : ∀ k, k ≠ 7 → k ≠ 9 → k ≠ 86 → k ≠ 68 → m4 124 k = M5 124 k := fun k a c h j => by rw [e4', e3', e2', e1', up2_nk j, up2_nk h, up2_nk c, up2_nk a]
      have x7 : m4 124 7 = (bk : Int) := by rw [e4', e3', e2', e1', up2_nk (by decide), up2_nk (by decide), up2_nk (by decide), up2_eq]
      have x9 : m4 124 9 = 1 := by rw [e4', e3', e2', up2_nk (by decide), up2_nk (by decide), up2_eq]
      have x86 : m4 124 86 = 0 := by rw [e4', e3', up2_nk (by decide), up2_eq]
      have x68 : m4 124 68 = 0 := by rw [e4', up2_eq]
      clear e1' e2' e3' e4'
      have hPic4 : PicR bk T5 a1 pl5 D' m4 N5 := PicR_rw hPic (fun i a c => ⟨w4 i (by omega), rfl⟩)
      have hH : HldJ bk T5 a1 pl5 D' m4 N5 := ⟨hPic4, x7, by rw [w124 8 (by decide) (by decide) (by decide) (by decide)]; exact h8⟩
      refine c_rjudge hH hV.1 hV.2.1 v3 (fun q hq => (v1.1 q hq).1) (fun i j q q' hij hi hj => ?_) hjl (fun M6 j6 g6 => rV_mk ?_)
      · rcases Nat.lt_or_ge i j with h | h
        · have hil := (List.getElem?_eq_some_iff.mp hi)
          have hjl' := (List.getElem?_eq_some_iff.mp hj)
          obtain ⟨a, ha⟩ := hil
          obtain ⟨b, hb⟩ := hjl'
          have := (List.pairwise_iff_getElem.mp v1.2) i j a b h
          rw [ha, hb] at this; exact this
        · have : i = j := by omega
          subst this
          rw [hi] at hj; cases hj; exact Nat.le_refl _
      · have y8 : M6 124 8 = (bk : Int) := by rw [g6.2 8 (by decide)]; exact hH.2.2
        have hPic6 : PicR bk T5 a1 pl5 D' M6 N5 := PicR_rw hPic4 (fun i a c => ⟨g6.1 i (by omega) (by omega) (by omega), rfl⟩)
        rw [y8, Int.toNat_natCast, hPic6.2.1.1]
        have ans : M3 e 16 = (D'.2.1.length : Nat) := by
          rw [r3 e (by omega) (by omega), f2 e (by omega) (by omega) (by omega)]; exact hD1.2.2.2.2.1.1
        refine ⟨by omega, by rw [ans], ?_⟩
        have hne : D'.2.1 ≠ [] := fun z => by obtain ⟨y, hy, _⟩ := v3; rw [z] at hy; simp at hy
        -- rows of the class
        have s : ∀ i, i ≤ 123 → M6 i = M3 i ∧ N5 i = N1 i := fun i a => by
          rw [g6.1 i (by omega) (by omega) (by omega), w4 i (by omega)]; exact g.1 i (by omega) (by omega)
        have q2 : ∀ i, i ≤ 123 → i ≠ 23 → i ≠ 28 → M6 i = M2 i := fun i a c h => by rw [(s i a).1, r3 i c h]
        have q1 : ∀ i, i ≤ 123 → i ≠ 23 → i ≠ 28 → i ≠ 11 → i ≠ 12 → i ≠ 13 → M6 i = M1 i := fun i a c h b1 b2 b3 => by rw [q2 i a c h, f2 i b1 b2 b3]
        have z0 : ∀ k, M6 0 k = M1 0 k := fun k => by rw [q1 0 (by decide) (by decide) (by decide) (by decide) (by decide) (by decide)]
        have y124 : ∀ k, k ≠ 65 → M6 124 k = m4 124 k := fun k hk => g6.2 k hk
        refine ⟨D', [], [], [], e, d, nw, th, 1, M6, N5, rfl, by omega, hnt, ⟨⟨MI 1, a1, N', pl', hn6, DocC_fr hD1 (fun i a c => q1 i (by omega) (by omega) (by omega) (by omega) (by omega) (by omega)) (fun i a c => (s i (by omega)).2)⟩, JuC_rw j2 (by rw [q2 11 (by decide) (by decide) (by decide)]) (q2 12 (by decide) (by decide) (by decide)), ⟨by rw [(s 23 (by decide)).1]; exact r23, by simp, fun i a h => by simp at h⟩, ⟨by rw [(s 28 (by decide)).1]; exact r28.1, by simp [sumL], by simp, rfl, fun i y h => by simp at h, fun j c h => by simp at h, ⟨fun i q h => by simp at h, by rw [(s 28 (by decide)).1]; exact r28.2⟩⟩, fun k => ?_, by rw [z0, t1]; omega⟩, ⟨Or.inr ⟨by rw [y124 9 (by decide)]; exact x9, bk, T5, a1, pl5, hPic6, by rw [y124 7 (by decide)]; exact x7, ⟨_, rfl⟩⟩, by rw [y124 7 (by decide), x7]; omega, fun _ => hne, j6, ⟨by rw [y124 68 (by decide)]; exact x68, by simp, fun i a h => by simp at h⟩, ⟨by rw [y124 86 (by decide)]; exact x86, by simp, rfl, fun z hz => (by cases hz), fun i y h => (by simp at h), ⟨fun i q h => (by simp at h), fun z => absurd rfl z⟩⟩, fun k => ?_, fun k => ?_⟩, ⟨?_, ?_, fun k hk => by rw [z0, t1] at hk; omega⟩, fun _ => ⟨hV.1, hV.2.1, hNB⟩⟩
        · rw [q1 1 (by decide) (by decide) (by decide) (by decide) (by decide) (by decide), (f1 1 (by decide) (by unfold regC; omega)).1]; exact c5 k
        · rw [g6.1 125 (by decide) (by decide) (by decide), w4 125 (by decide), (g.1 125 (by decide) (by decide)).1]; exact hR3.2.2.2.2.2.2.1 k
        · rw [g6.1 126 (by decide) (by decide) (by decide), w4 126 (by decide)]; exact hb6 k
        · rw [y124 1 (by decide), w124 1 (by decide) (by decide) (by decide) (by decide), u1, z0, t1]
        · rw [y124 6 (by decide), w124 6 (by decide) (by decide) (by decide) (by decide), u2, z0, t2]
end Pg04
