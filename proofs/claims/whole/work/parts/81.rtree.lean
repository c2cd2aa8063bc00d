section P81
variable {cs : Cs} {Q : Option AV → Mm → Prop} {MI ML OI OL : Nat → Nat → Int} {b d e nw th : Nat} {T : Nat → Int} {n h : Int} {N : List By} {pl : Nat} {ns : List Nd} {op : List Int} {dp : Int} {D : Dt}
/-- the byte c of a PIECE at h is kept -/
theorem c_text_88 (hbd : b = 38 ∨ b = 81) {u z c l3 s0 y : Int} {s : By} (hcl : ∀ (k : Nat) (y : Nd), ns[k]? = some y → y.1 ≠ 2 → (k : Int) ∉ op → eS ns k = ns.length → u < (k : Int)) (hc : CurC b T n OI OL y MI ML) (hD : DocC b T n N pl D (ns ++ [(3, u, [], s, 0, z)]) op dp MI ML) (hz : z = 0 ∨ z = 1) (hch : isCh c) (hl : 0 ≤ l3 ∧ l3 ≤ 6000) (hs0 : s0 ≠ 0 ↔ ob T n h = 38)
    (hT : pl < 2000 → ∀ z' MI', CurC b T n OI OL y MI' ML → DocC b T n N (pl + 1) D (ns ++ [(3, u, [], s ++ [c], 0, z')]) op dp MI' ML → MI' 10 = MI 10 → (z' = 0 ∨ z' = 1) → z' = (if ob T n h = 38 ∨ ¬ isSp c then 1 else z) → wp cs mX10_readText KD Q 4 [some (vR 10), some (vR b), some (vI (ns.length : Nat)), some (vI (l3 + 1)), none, none, none] [] (KD, MI', ML, GR d e nw th 1))
    (hF : 2000 ≤ pl → ∀ MI', FaiC b OI OL (-3) h MI' ML → Q (some (vI 0)) (MI', ML, GR d e nw th 1)) :
    wp cs mX10_readText KD Q 88 [some (vR 10), some (vR b), some (vI (ns.length : Nat)), some (vI l3), some (vI h), some (vI s0), some (vI c)] [] (KD, MI, ML, GR d e nw th 1) := by
  have hN := hD.2.2.2.2.1
  have hlen := hN.2.1
  simp only [List.length_append, List.length_singleton] at hlen
  have hp := hD.2.2.2.2.2.2.1
  have h15 := hN.2.2.1
  refine v_X10_readText_88 hbd ⟨fun zz => by omega, fun _ => w_X3_addTextByte hbd (by omega) (by omega) (fun hlt => rI_mk ⟨fun zz => by omega, fun _ => ?_⟩) (fun hge => rI_mk ⟨fun _ => ?_, fun zz => absurd rfl zz⟩)⟩
  · rw [i_2b_id (by omega)]
    have fin : ∀ (m : Nat → Nat → Int) (z' l5 : Int), (∀ j, j ≠ b → j ≠ b + 37 → j ≠ b + 42 → m j = MI j) → (∀ k, k ≠ 15 → m b k = MI b k) → m b 15 = MI b 15 + 1 → (m (b + 42) = fun k => if k = (MI b 15).toNat then c else MI (b + 42) k) → (∀ k, k ≠ ns.length → m (b + 37) k = MI (b + 37) k) → m (b + 37) ns.length = 2 * z' → (z' = 0 ∨ z' = 1) → z' = (if ob T n h = 38 ∨ ¬ isSp c then 1 else z) →
        wp cs mX10_readText KD Q 134 [some (vR 10), some (vR b), some (vI (ns.length : Nat)), some (vI l3), some (vI h), some (vI l5), some (vI c)] [] (KD, m, ML, GR d e nw th 1) := by
      intro m z' l5 g1 g2 g3 g4 g5 g6 g7 g8
      refine v_X10_readText_134 hbd ⟨by omega, ?_⟩
      simp only [Int.toNat_natCast]
      rw [g3]
      intro m143 e143
      refine ⟨by omega, ?_⟩
      have fr : ∀ j, j ≠ b + 40 → m143 j = m j := fun j hj => by rw [e143]; funext k; exact up2_ne hj k
      refine hT (by omega) z' m143 (CurC_fr hc hbd (fun j z1 z2 => by rw [fr j (by omega)]; exact g1 j (by omega) (by omega) (by omega)) (fun _ _ => rfl)) ?_ (by rw [fr 10 (by omega), g1 10 (by omega) (by omega) (by omega)]) g7 g8
      refine DocC_text hbd hD (fun k y hy h2 hop => ?_) (by omega) (fun j z1 z2 z3 z4 => by rw [fr j z3]; exact g1 j z1 z2 z4) (fun k hk => by rw [fr b (by omega)]; exact g2 k hk) (by rw [fr b (by omega), g3]) (by rw [fr _ (by omega), g4]) (fun k hk => by rw [fr _ (by omega)]; exact g5 k hk) (by rw [fr _ (by omega)]; exact g6) (fun k hk => by rw [e143, up2_nk hk, g1 (b + 40) (by omega) (by omega) (by omega)]) (by rw [e143, up2_eq])
      have hkl := (List.getElem?_eq_some_iff.mp hy).1
      rw [eS_app hkl]
      split
      · next hc2 => have := hcl k y hy h2 hop hc2.1; simp only at hc2; omega
      · exact (eS_le hkl).2
    have n37 := (hN.2.2.2 _ _ (last_get ns _)).2.2.2.2.2.1
    simp only at n37
    have A1 : ∀ j, j ≠ b → j ≠ b + 42 → up2 (up2 MI (b + 42) (MI b 15).toNat c) b 15 (MI b 15 + 1) j = MI j := fun j z1 z2 => by funext k; rw [up2_ne z1, up2_ne z2]
    have A2 : ∀ k, k ≠ 15 → up2 (up2 MI (b + 42) (MI b 15).toNat c) b 15 (MI b 15 + 1) b k = MI b k := fun k hk => by rw [up2_nk hk, up2_ne (by omega)]
    have A3 : up2 (up2 MI (b + 42) (MI b 15).toNat c) b 15 (MI b 15 + 1) (b + 42) = fun k => if k = (MI b 15).toNat then c else MI (b + 42) k := by
      funext k; rw [up2_ne (by omega)]; unfold up2; simp
    have solid : ∀ (m : Nat → Nat → Int) (l5 : Int), m = up2 (up2 (up2 MI (b + 42) (MI b 15).toNat c) b 15 (MI b 15 + 1)) (b + 37) ns.length 2 → (ob T n h = 38 ∨ ¬ isSp c) → wp cs mX10_readText KD Q 134 [some (vR 10), some (vR b), some (vI (ns.length : Nat)), some (vI l3), some (vI h), some (vI l5), some (vI c)] [] (KD, m, ML, GR d e nw th 1) := fun m l5 em hq => by
      refine fin m 1 l5 (fun j z1 z2 z3 => by rw [em]; funext k; rw [up2_ne z2]; exact congrFun (A1 j z1 z3) k) (fun k hk => by rw [em, up2_ne (by omega)]; exact A2 k hk) (by rw [em, up2_ne (by omega), up2_eq]) (by rw [em]; funext k; rw [up2_ne (by omega)]; exact congrFun A3 k) (fun k hk => by rw [em, up2_nk hk, up2_ne (by omega), up2_ne (by omega)]) (by rw [em, up2_eq]; rfl) (Or.inr rfl) (by rw [if_pos hq])
    have plain : ∀ l5 : Int, ¬ (ob T n h = 38 ∨ ¬ isSp c) → wp cs mX10_readText KD Q 134 [some (vR 10), some (vR b), some (vI (ns.length : Nat)), some (vI l3), some (vI h), some (vI l5), some (vI c)] [] (KD, up2 (up2 MI (b + 42) (MI b 15).toNat c) b 15 (MI b 15 + 1), ML, GR d e nw th 1) := fun l5 hq => by
      refine fin _ z l5 (fun j z1 z2 z3 => A1 j z1 z3) A2 up2_eq A3 (fun k hk => by rw [up2_ne (by omega), up2_ne (by omega)]) (by rw [up2_ne (by omega), up2_ne (by omega), n37]; omega) hz (by rw [if_neg hq])
    refine ⟨fun z0 => ?_, fun z0 => ⟨by omega, ?_⟩⟩
    · have h38 : ob T n h ≠ 38 := fun q => (hs0.mpr q) z0
      refine w_X1_isSpace (rI_mk ⟨fun zs => ⟨by omega, ?_⟩, fun zs => ?_⟩)
      · simp only [Int.toNat_natCast]
        intro m em
        have : ¬ isSp c := fun q => by rw [show bI (isSp c) = 1 from if_pos q] at zs; omega
        exact solid m _ em (Or.inr this)
      · have : isSp c := Classical.byContradiction fun q => zs (if_neg q)
        exact plain _ (fun q => by rcases q with q | q; exact h38 q; exact q this)
    · simp only [Int.toNat_natCast]
      intro m em
      exact solid m _ em (Or.inl (hs0.mp z0))
  · exact lx_refuse hc.2.2.2.2.2 (fun MI' hf => rI_mk ⟨Or.inl rfl, hF (by omega) _ hf⟩)
theorem c_readText (hbd : b = 38 ∨ b = 81) {t : Tr} (h60 : ob T n h ≠ 60) (hc : CurC b T n OI OL h MI ML) (hD : DocC b T n N pl D t.1 (t.2.1 ++ [0]) t.2.2 MI ML) (hI : TrI t) (hC : TrC t MI)
    (hT : ∀ pl' t' y, teS T n pl t h = .inr (pl', t', y) → ∀ MI', CurC b T n OI OL y MI' ML → DocC b T n N pl' D t'.1 (t'.2.1 ++ [0]) t'.2.2 MI' ML → TrC t' MI' → Q (some (vI 1)) (MI', ML, GR d e nw th 1))
    (hF : ∀ f z, teS T n pl t h = .inl (f, z) → ∀ MI', FaiC b OI OL f z MI' ML → Q (some (vI 0)) (MI', ML, GR d e nw th 1)) :
    wp cs mX10_readText KD Q 0 (padL [vR 10, vR b] 7) [] (KD, MI, ML, GR d e nw th 1) := by
  have h0 := hc.2.2.2.2.1
  have hn := hc.2.1
  have hn6 := hc.2.2.1
  obtain ⟨i1, i2, i3, i4, i5⟩ := hI
  have hmem := headD_mem t.2.1
  have hup := i1.2.1 _ hmem
  have hcl : ∀ (k : Nat) (y : Nd), t.1[k]? = some y → y.1 ≠ 2 → (k : Int) ∉ t.2.1 ++ [0] → eS t.1 k = t.1.length → t.2.1.headD 0 < (k : Int) := fun k y hy hk2 hop hes => i1.2.2 k y hy hk2 hop hes _ hmem
  have hp := hD.2.2.2.2.2.2.1
  unfold teS at hT hF
  refine v_X10_readText_0 (v_X10_readText_4 hbd ⟨fun zz => by omega, fun _ => lx_peek hc (rI_mk ⟨fun q => absurd q h60, fun _ => ?_⟩)⟩)
  rw [hc.2.2.2.1]
  have go : ∀ s0 : Int, (s0 ≠ 0 ↔ ob T n h = 38) → wp cs mX10_readText KD Q 53 [some (vR 10), some (vR b), some (vI (-1)), some (vI 0), some (vI h), none, none] [vI s0] (KD, MI, ML, GR d e nw th 1) := by
    intro s0 hs0
    refine v_X10_readText_53 hbd (lx_takePiece hc (fun c y hy MI1 c1 m1 => rI_mk ⟨fun zz => ?_, fun _ => ⟨fun _ => ?_, fun zz => absurd rfl zz⟩⟩) (fun f y hy MI1 f1 => rI_mk ⟨fun _ => hF f y (by rw [hy]; rfl) _ f1, fun zz => absurd rfl zz⟩))
    · have := (pcS_ok h0.1 hy).1; omega
    · have hpc := pcS_ok h0.1 hy
      rw [hy, pb_r] at hT hF
      have d1 := DocC_mv hbd hD m1
      rw [m1 10 (by decide), hC.1]
      by_cases h6 : 600 ≤ t.1.length
      · rw [if_pos h6] at hF
        refine v_X3_add_0 hbd ⟨fun zz => by have := d1.2.2.2.2.1.1; omega, fun _ => rI_mk ?_⟩
        exact v_X10_readText_88 hbd ⟨fun _ => lx_refuse c1.2.2.2.2.2 (fun MI' hf => rI_mk ⟨Or.inl rfl, hF _ _ rfl _ hf⟩), fun zz => absurd rfl zz⟩
      · rw [if_neg h6] at hT hF
        obtain ⟨k, hk⟩ : ∃ k, (n + 1).toNat = k + 1 := ⟨n.toNat, by omega⟩
        rw [hk, txF, if_neg h60, hy, pb_r] at hT hF
        simp only at hT hF
        refine c_X3_add hbd (by omega) d1 (Or.inl ⟨rfl, rfl⟩) (Or.inr ⟨hup.1, hup.2.1⟩) hcl i2.1 (fun MI2 d2 f2 f2b _ => rI_mk ?_)
        have c2 : CurC b T n OI OL y MI2 ML := CurC_fr c1 hbd (fun j z1 z2 => f2 j (by omega) (by omega)) (fun _ _ => rfl)
        have e10 : MI2 10 = MI 10 := by rw [f2 10 (by omega) (by omega), m1 10 (by decide)]
        refine c_text_88 hbd hcl c2 d2 (Or.inl rfl) hpc.1 (by omega) hs0 (fun hlt z' MI3 c3 d3 e3 hz' ez' => ?_) (fun hge MI3 f3 => hF (-3) h ?_ _ f3)
        · rw [if_neg (show ¬ (2000 - pl = 0) by omega)] at hT hF
          refine c_text_l hbd hcl k (pl + 1) [c] z' y (0 + 1) MI3 c3 d3 hz' (by omega) (by omega) (fun s' w y' hy' MI4 c4 d4 e4 => ?_) (fun f y' hy' MI4 f4 => hF f y' (by rw [show 2000 - pl - 1 = 2000 - (pl + 1) by omega, hy']; rfl) _ f4)
          have e2 : (if z' = 1 then 1 else w) = if ob T n h = 38 ∨ ¬ isSp c then 1 else w := by
            rw [ez']
            by_cases hq : ob T n h = 38 ∨ ¬ isSp c
            · rw [if_pos hq, if_pos hq]; rfl
            · rw [if_neg hq, if_neg hq]; rfl
          rw [e2, show pl + 1 + s'.length = pl + (c :: s').length by simp only [List.length_cons]; omega] at d4
          refine hT (pl + (c :: s').length) (t.1 ++ [(3, t.2.1.headD 0, [], c :: s', 0, if ob T n h = 38 ∨ ¬ isSp c then 1 else w)], t.2) y' (by rw [show 2000 - pl - 1 = 2000 - (pl + 1) by omega, hy']; rfl) MI4 c4 d4 ⟨?_, ?_⟩
          · rw [e4, e3, e10]; exact hC.1
          · rw [e4, e3, e10]; exact hC.2
        · rw [if_pos (show 2000 - pl = 0 by omega)]; rfl
  exact lx_peek hc (rI_mk ⟨fun q => go 1 ⟨fun _ => q, fun _ => by decide⟩, fun q => go 0 ⟨fun zz => absurd rfl zz, fun zz => absurd zz q⟩⟩)
/-- the root is closed: nothing is open -/
theorem c_closeRoot (hbd : b = 38 ∨ b = 81) (hc : CurC b T n OI OL h MI ML) (hD : DocC b T n N pl D ns [0] dp MI ML) (hW : OpW ns [0]) (h0r : ∃ y, ns[0]? = some y ∧ y.1 = 0)
    (hQ : ∀ MI', CurC b T n OI OL h MI' ML → DocC b T n N pl D ns [] dp MI' ML → Q none (MI', ML, GR d e nw th 1)) :
    wp cs mX3_close KD Q 0 (padL [vR b, vI 0] 2) [] (KD, MI, ML, GR d e nw th 1) := by
  have hN := hD.2.2.2.2.1
  have h600 := hN.2.1
  obtain ⟨w1, w2, w3⟩ := hW.2.1 0 (by simp)
  obtain ⟨y, hy, hy1⟩ := h0r
  refine w_X3_close hbd (by omega) ?_
  have fr : ∀ j, j ≠ b + 38 → j ≠ b + 40 → up2 (up2 MI (b + 38) (0 : Int).toNat (MI b 16)) (b + 40) (0 : Int).toNat (MI b 15) j = MI j := fun j z2 z3 => by funext k; rw [up2_ne z3, up2_ne z2]
  have o38 : ∀ k, k ≠ 0 → up2 (up2 MI (b + 38) (0 : Int).toNat (MI b 16)) (b + 40) (0 : Int).toNat (MI b 15) (b + 38) k = MI (b + 38) k := fun k hk => by rw [up2_ne (by omega), up2_nk (by simpa using hk)]
  have o40 : ∀ k, k ≠ 0 → up2 (up2 MI (b + 38) (0 : Int).toNat (MI b 16)) (b + 40) (0 : Int).toNat (MI b 15) (b + 40) k = MI (b + 40) k := fun k hk => by rw [up2_nk (by simpa using hk), up2_ne (by omega)]
  have n38 : up2 (up2 MI (b + 38) (0 : Int).toNat (MI b 16)) (b + 40) (0 : Int).toNat (MI b 15) (b + 38) 0 = MI b 16 := by rw [up2_ne (by omega)]; exact up2_eq
  have n40 : up2 (up2 MI (b + 38) (0 : Int).toNat (MI b 16)) (b + 40) (0 : Int).toNat (MI b 15) (b + 40) 0 = MI b 15 := up2_eq
  have eb := fr b (by omega) (by omega)
  refine hQ _ (CurC_fr hc hbd (fun j z1 z2 => fr j (by omega) (by omega)) (fun _ _ => rfl)) ⟨NamC_fr hD.1 (fun j z1 z2 => fr j (by omega) (by omega)), IdxC_fr hD.2.1 (fun j z1 z2 => fr j (by omega) (by omega)), SpcC_fr hD.2.2.1 (fun j z1 z2 => fr j (by omega) (by omega)) (fun _ _ _ => rfl), RulC_fr hD.2.2.2.1 (fun j z1 z2 => fr j (by omega) (by omega)) (fr _ (by omega) (by omega)) (by rw [eb]), ⟨by rw [eb]; exact hN.1, h600, by rw [eb]; exact hN.2.2.1, fun k z hz => ?_⟩, DtC_fr hD.2.2.2.2.2.1 (by rw [eb]), by rw [eb]; exact hD.2.2.2.2.2.2.1, by rw [eb]; exact hD.2.2.2.2.2.2.2⟩
  obtain ⟨a1, a2, a3, a4, a5, a6, a7, a8, a9, a10⟩ := hN.2.2.2 k z hz
  have f := fun c (h1 : 32 ≤ c) (h2 : c ≠ 38) (h3 : c ≠ 40) => fr (b + c) (by omega) (by omega)
  refine ⟨by rw [f 32 (by decide) (by decide) (by decide)]; exact a1, by rw [f 33 (by decide) (by decide) (by decide)]; exact a2, by rw [f 34 (by decide) (by decide) (by decide)]; exact a3, by rw [f 35 (by decide) (by decide) (by decide)]; exact a4, by rw [f 36 (by decide) (by decide) (by decide)]; exact a5, by rw [f 37 (by decide) (by decide) (by decide)]; exact a6, fun h2 => ?_, fun h2 => by rw [f 39 (by decide) (by decide) (by decide)]; exact a8 h2, fun h3 => by rw [f 42 (by decide) (by decide) (by decide)]; exact a9 h3, fun h2 hop => ?_⟩
  · have hke : k ≠ 0 := fun hk => by subst hk; rw [hy] at hz; cases hz; omega
    rw [f 41 (by decide) (by decide) (by decide), eb, f 39 (by decide) (by decide) (by decide), o40 k hke, o38 k hke]; exact a7 h2
  · by_cases hke : k = 0
    · subst hke
      have w3' : eS ns 0 = ns.length := w3
      rw [n38, n40, w3', hN.1, hN.2.2.1, tl_all]; exact ⟨rfl, rfl⟩
    · rw [o38 k hke, o40 k hke]
      exact a10 h2 (fun z => by simp at z; omega)
end P81
