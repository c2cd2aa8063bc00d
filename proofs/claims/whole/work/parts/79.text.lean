section P79
variable {cs : Cs} {Q : Option AV → Mm → Prop} {MI ML OI OL : Nat → Nat → Int} {b d e nw th : Nat} {T : Nat → Int} {n h : Int} {N : List By} {pl : Nat} {ns : List Nd} {op : List Int} {dp : Int} {D : Dt}
theorem c_readEndTag (hbd : b = 38 ∨ b = 81) {t : Tr} {ec : Int} {os : List Int} (ht : t.2.1 = ec :: os) (hh : 0 ≤ h) (hc : CurC b T n OI OL (h + 2) MI ML) (hD : DocC b T n N pl D t.1 (t.2.1 ++ [0]) t.2.2 MI ML) (hI : TrI t) (hC : TrC t MI) (hk : NmK N h) (hne : ∀ (k : Nat) (y : Nd), t.1[k]? = some y → y.1 = 1 → y.2.2.1 ≠ [])
    (hT : ∀ t' y, enS T n t h = .inr (t', y) → ∀ MI', CurC b T n OI OL y MI' ML → DocC b T n N pl D t'.1 (t'.2.1 ++ [0]) t'.2.2 MI' ML → TrI t' → TrC t' MI' → NmK N y → Q (some (vI 1)) (MI', ML, GR d e nw th 1))
    (hF : ∀ f z, enS T n t h = .inl (f, z) → ∀ MI', FaiC b OI OL f z MI' ML → Q (some (vI 0)) (MI', ML, GR d e nw th 1)) :
    wp cs mX10_readEndTag KD Q 0 (padL [vR 10, vR b] 2) [] (KD, MI, ML, GR d e nw th 1) := by
  have h0 := hc.2.2.2.2.1
  have hn6 := hc.2.2.1
  obtain ⟨i1, i2, i3, i4, i5⟩ := hI
  rw [ht] at i1 i3
  obtain ⟨w1, w2, w3⟩ := i1.2.1 ec (by simp)
  obtain ⟨y0, hy0, hy1, hy2⟩ := i3.1
  have hcur : MI 10 1 = ec := by rw [hC.1, ht]; rfl
  have hN := hD.2.2.2.2.1
  have h600 := hN.2.1
  have hid : isId N (MI (b + 34) ec.toNat) y0.2.2.1 := by
    rcases (hN.2.2.2 _ y0 hy0).2.2.1 with h3 | h3
    · exact absurd h3.1 (hne _ y0 hy0 hy1)
    · exact h3
  unfold enS at hT hF
  have egd : (t.1.getD (t.2.1.headD 0).toNat (0, 0, [], [], 0, 0)).2.2.1 = y0.2.2.1 := by rw [ht, List.headD_cons, List.getD_eq_getElem?_getD, hy0]; rfl
  rw [egd] at hT hF
  refine v_X10_readEndTag_0 hbd (lx_needName hc (fun g hg MI1 c1 m1 l1 => rI_mk ⟨fun z => by omega, fun _ => ?_⟩) (fun f z hg MI1 f1 => rI_mk ⟨fun _ => hF f z (by rw [hg]; rfl) _ f1, fun z => absurd rfl z⟩))
  have hg1 := nmS_ok hg
  rw [hg, pb_r] at hT hF
  have d1 := DocC_mv hbd hD m1
  have hs : slc (MI1 1) n (MI1 2 3) (MI1 2 4) (nb T (h + 2) g) := by
    rw [c1.1, l1.1, l1.2]; exact slc_nb (by omega) (by omega) c1.2.2.2.2.1.2
  have e101 : MI1 10 1 = ec := by rw [m1 10 (by decide)]; exact hcur
  have e34 : MI1 (b + 34) = MI (b + 34) := m1 _ (by omega)
  have bad : nb T (h + 2) g ≠ y0.2.2.1 → wp cs mX1_refuse KD (rI (GR d e nw th 1) fun x48 m48 n48 => (x48 = 0 ∨ x48 = 1) ∧ Q (some (vI x48)) (m48, n48, (GR d e nw th 1))) 0 (padL [vR 2, vI (-2), vI (MI1 2 3)] 3) [] (KD, MI1, ML, (GR d e nw th 1)) := fun hb => by
    rw [if_pos hb] at hF
    rw [l1.1]
    exact lx_refuse c1.2.2.2.2.2 (fun MI' hf => rI_mk ⟨Or.inl rfl, hF _ _ rfl _ hf⟩)
  refine c_find hbd hs (by omega) (by omega) d1.1 (fun i hi => rI_mk ?_) (fun hno => rI_mk ?_)
  · rw [e101, e34]
    refine ⟨by omega, fun he => ?_, fun he => bad (fun z => he ((isId_eq hD.1.2.2.2.2.2 hi hid).mpr z))⟩
    have hx := (isId_eq hD.1.2.2.2.2.2 hi hid).mp he
    rw [if_neg (fun z => z hx)] at hT hF
    have hsg := sk_le T n g
    refine lx_skipSpace c1 (fun MI2 c2 m2 => rV_mk (lx_take1 (k := 2) (c := 62) (by decide) rfl c2 (fun y hy MI3 c3 m3 => rI_mk ⟨fun z => by omega, fun _ => ?_⟩) (fun f z hy MI3 f3 => rI_mk ⟨fun _ => hF f z (by rw [hy]; rfl) _ f3, fun z => absurd rfl z⟩)))
    have hyy := mbS_eq hy
    have m13 : mvd MI MI3 := mvd_tr m1 (mvd_tr m2 m3)
    have d3 := DocC_mv hbd hD m13
    rw [ht] at d3
    have hos : t.2.1.length = os.length + 1 := by rw [ht]; rfl
    refine c_leave hbd c3 d3 i1 i3 (by rw [m13 10 (by decide)]; exact hcur) (by rw [m13 10 (by decide), hC.2, hos]; omega) (by omega) (fun MI4 c4 d4 e4 e4' => rV_mk ?_)
    have htl : t.2.1.tail = os := by rw [ht]; rfl
    rw [htl] at hT
    have hos2 : os.length ≤ 30 := by omega
    exact hT (t.1, os, t.2.2) y (by rw [hy]; rfl) MI4 c4 d4 ⟨OpW_pop i1, i2, i3.2, hos2, i5⟩ ⟨e4, e4'⟩ (NmK_mono hk (by omega))
  · rw [e101, e34]
    have hi0 := hid.1
    refine ⟨by omega, fun he => by omega, fun he => bad (fun z => hno (by rw [z]; exact List.mem_of_getElem? hid.2))⟩
/-- one byte more of the last NODE, a TEXT -/
theorem DocC_text (hbd : b = 38 ∨ b = 81) {u z z' c : Int} {s : By} {MI' : Nat → Nat → Int} (hD : DocC b T n N pl D (ns ++ [(3, u, [], s, 0, z)]) op dp MI ML) (hcl : ∀ (k : Nat) (y : Nd), ns[k]? = some y → y.1 ≠ 2 → (k : Int) ∉ op → eS (ns ++ [(3, u, [], s, 0, z)]) k ≤ ns.length)
    (hpl : pl < 2000) (hf : ∀ j, j ≠ b → j ≠ b + 37 → j ≠ b + 40 → j ≠ b + 42 → MI' j = MI j) (hb : ∀ k, k ≠ 15 → MI' b k = MI b k) (h15 : MI' b 15 = MI b 15 + 1) (h42 : MI' (b + 42) = fun k => if k = (MI b 15).toNat then c else MI (b + 42) k)
    (o37 : ∀ k, k ≠ ns.length → MI' (b + 37) k = MI (b + 37) k) (n37 : MI' (b + 37) ns.length = 2 * z') (o40 : ∀ k, k ≠ ns.length → MI' (b + 40) k = MI (b + 40) k) (n40 : MI' (b + 40) ns.length = MI b 15 + 1) : DocC b T n N (pl + 1) D (ns ++ [(3, u, [], s ++ [c], 0, z')]) op dp MI' ML := by
  obtain ⟨n1, n2, n3, n4⟩ := hD.2.2.2.2.1
  have hp := hD.2.2.2.2.2.2.1
  have t1 : tle (ns ++ [((3, u, [], s, 0, z) : Nd)]) = tle ns + s.length := by rw [tle_app]; rfl
  have t2 : tle (ns ++ [((3, u, [], s ++ [c], 0, z') : Nd)]) = tle ns + s.length + 1 := by rw [tle_app]; simp; omega
  have cA : ∀ e : Int, cntA (ns ++ [((3, u, [], s ++ [c], 0, z') : Nd)]) e = cntA (ns ++ [((3, u, [], s, 0, z) : Nd)]) e := fun e => by rw [cntA_app, cntA_app]
  have cI : ∀ e : Int, cntI (ns ++ [((3, u, [], s ++ [c], 0, z') : Nd)]) e = cntI (ns ++ [((3, u, [], s, 0, z) : Nd)]) e := fun e => by rw [cntI_app, cntI_app]
  have ce : ∀ k, k < ns.length → eS (ns ++ [((3, u, [], s ++ [c], 0, z') : Nd)]) k = eS (ns ++ [((3, u, [], s, 0, z) : Nd)]) k := fun k hk => by rw [eS_app hk, eS_app hk]
  have cl : ∀ k, k ≤ ns.length → tl (ns ++ [((3, u, [], s ++ [c], 0, z') : Nd)]) k = tl (ns ++ [((3, u, [], s, 0, z) : Nd)]) k := fun k hk => by rw [tl_app hk, tl_app hk]
  have ot : ∀ k : Nat, (k : Int) < ((tle ns + s.length : Nat) : Int) → MI' (b + 42) k = MI (b + 42) k := fun k hk => by
    rw [h42]
    simp only
    rw [if_neg (by rw [n3, t1]; omega)]
  refine ⟨NamC_fr hD.1 (fun j z1 z2 => hf j (by omega) (by omega) (by omega) (by omega)), IdxC_fr hD.2.1 (fun j z1 z2 => hf j (by omega) (by omega) (by omega) (by omega)), SpcC_fr hD.2.2.1 (fun j z1 z2 => hf j (by omega) (by omega) (by omega) (by omega)) (fun _ _ _ => rfl), RulC_fr hD.2.2.2.1 (fun j z1 z2 => hf j (by omega) (by omega) (by omega) (by omega)) (hf _ (by omega) (by omega) (by omega) (by omega)) (hb 14 (by decide)), ⟨by rw [hb 16 (by decide)]; simpa using n1, by simpa using n2, by rw [h15, n3, t1, t2]; omega, fun k y hy => ?_⟩, DtC_fr hD.2.2.2.2.2.1 (hb 17 (by decide)), by rw [hb 14 (by decide), h15]; omega, by rw [hb 18 (by decide)]; exact hD.2.2.2.2.2.2.2⟩
  have f := fun c (h1 : 32 ≤ c) (h2 : c ≠ 37) (h3 : c ≠ 40) (h4 : c ≠ 42) => hf (b + c) (by omega) (by omega) (by omega) (by omega)
  rcases last_of hy with ⟨hk, hy⟩ | ⟨rfl, rfl⟩
  · obtain ⟨a1, a2, a3, a4, a5, a6, a7, a8, a9, a10⟩ := n4 k y (last_mono hy)
    refine ⟨by rw [f 32 (by decide) (by decide) (by decide) (by decide)]; exact a1, by rw [f 33 (by decide) (by decide) (by decide) (by decide)]; exact a2, by rw [f 34 (by decide) (by decide) (by decide) (by decide)]; exact a3, by rw [f 35 (by decide) (by decide) (by decide) (by decide), cA]; exact a4, by rw [f 36 (by decide) (by decide) (by decide) (by decide), cI]; exact a5, by rw [o37 k (by omega)]; exact a6, fun h2 => ?_, fun h2 => by rw [f 39 (by decide) (by decide) (by decide) (by decide), cl k (by omega)]; exact a8 h2, fun h3 => ?_, fun h2 hop => ?_⟩
    · rw [f 41 (by decide) (by decide) (by decide) (by decide), hb 14 (by decide), f 39 (by decide) (by decide) (by decide) (by decide), o40 k (by omega), f 38 (by decide) (by decide) (by decide) (by decide)]; exact a7 h2
    · have := a9 h3
      rw [t1] at this
      rw [t2, cl k (by omega)]
      exact slc_grow this ot (by omega)
    · have hle := hcl k y hy h2 hop
      rw [f 38 (by decide) (by decide) (by decide) (by decide), o40 k (by omega), ce k hk, cl _ hle]; exact a10 h2 hop
  · obtain ⟨a1, a2, a3, a4, a5, a6, a7, a8, a9, a10⟩ := n4 _ _ (last_get ns _)
    refine ⟨by rw [f 32 (by decide) (by decide) (by decide) (by decide)]; exact a1, by rw [f 33 (by decide) (by decide) (by decide) (by decide)]; exact a2, by rw [f 34 (by decide) (by decide) (by decide) (by decide)]; exact a3, by rw [f 35 (by decide) (by decide) (by decide) (by decide), cA]; exact a4, by rw [f 36 (by decide) (by decide) (by decide) (by decide), cI]; exact a5, by rw [n37]; simp, fun h2 => by simp at h2, fun h2 => by rw [f 39 (by decide) (by decide) (by decide) (by decide), cl _ (Nat.le_refl _)]; exact a8 (fun z => by simp at z), fun h3 => ?_, fun h2 hop => ⟨?_, ?_⟩⟩
    · have h9 := a9 rfl
      rw [t1] at h9
      rw [t2, cl _ (Nat.le_refl _), tl_app (Nat.le_refl _), tl_all]
      rw [tl_app (Nat.le_refl _), tl_all] at h9
      refine ⟨by omega, rfl, by simp; omega, fun i y hy => ?_⟩
      simp only [Int.toNat_natCast]
      rcases last_of hy with ⟨hi, hy⟩ | ⟨rfl, rfl⟩
      · rw [ot _ (by omega)]
        have := h9.2.2.2 i y hy
        simpa using this
      · rw [h42]
        simp only
        rw [if_pos (by rw [n3, t1]; omega)]
    · rw [f 38 (by decide) (by decide) (by decide) (by decide), eS_last]
      by_cases ho : ((ns.length : Nat) : Int) ∉ op
      · have := (a10 (fun z => by simp at z) ho).1; rw [eS_last] at this; exact this
      · exact absurd hop ho
    · rw [n40, eS_last, n3, t1]
      have : tl (ns ++ [((3, u, [], s ++ [c], 0, z') : Nd)]) (ns.length + 1) = tle (ns ++ [((3, u, [], s ++ [c], 0, z') : Nd)]) := by rw [← tl_all]; simp
      rw [this, t2]; omega
/-- the rest of a TEXT; behind k bytes of it -/
theorem c_text_l (hbd : b = 38 ∨ b = 81) {u : Int} (hcl : ∀ (k : Nat) (y : Nd), ns[k]? = some y → y.1 ≠ 2 → (k : Int) ∉ op → eS ns k = ns.length → u < (k : Int)) : ∀ (k pl : Nat) (s : By) (z h l3 : Int) (MI : Nat → Nat → Int), CurC b T n OI OL h MI ML → DocC b T n N pl D (ns ++ [(3, u, [], s, 0, z)]) op dp MI ML → (z = 0 ∨ z = 1) → 0 ≤ l3 ∧ l3 ≤ h → (n - h).toNat < k →
    (∀ s' z' y, txF T n k (2000 - pl) h = .inr (s', z', y) → ∀ MI', CurC b T n OI OL y MI' ML → DocC b T n N (pl + s'.length) D (ns ++ [(3, u, [], s ++ s', 0, if z = 1 then 1 else z')]) op dp MI' ML → MI' 10 = MI 10 → Q (some (vI 1)) (MI', ML, GR d e nw th 1)) →
    (∀ f y, txF T n k (2000 - pl) h = .inl (f, y) → ∀ MI', FaiC b OI OL f y MI' ML → Q (some (vI 0)) (MI', ML, GR d e nw th 1)) →
    wp cs mX10_readText KD Q 4 [some (vR 10), some (vR b), some (vI (ns.length : Nat)), some (vI l3), none, none, none] [] (KD, MI, ML, GR d e nw th 1) := by
  intro k
  induction k with
  | zero => intro pl s z h l3 MI _ _ _ _ hk; omega
  | succ k ih =>
    intro pl s z h l3 MI hc hD hz hl hk hT hF
    have h0 := hc.2.2.2.2.1
    have hn := hc.2.1
    have hn6 := hc.2.2.1
    have hN := hD.2.2.2.2.1
    have hlen := hN.2.1
    simp only [List.length_append, List.length_singleton] at hlen
    rw [txF] at hT hF
    refine v_X10_readText_4 hbd ⟨fun zz => by omega, fun _ => lx_peek hc (rI_mk ⟨fun h60 => ?_, fun h60 => ?_⟩)⟩
    · rw [if_pos h60] at hT
      have := hT [] 0 h rfl MI hc (by
        have e : (if z = 1 then (1 : Int) else 0) = z := by rcases hz with rfl | rfl <;> rfl
        rw [e, List.append_nil]; exact hD) rfl
      exact this
    · rw [if_neg h60] at hT hF
      rw [hc.2.2.2.1]
      have hp := hD.2.2.2.2.2.2.1
      have h15 := hN.2.2.1
      -- the piece
      have go : ∀ (s0 : Int), (s0 ≠ 0 ↔ ob T n h = 38) → wp cs mX10_readText KD Q 53 [some (vR 10), some (vR b), some (vI (ns.length : Nat)), some (vI l3), some (vI h), none, none] [vI s0] (KD, MI, ML, GR d e nw th 1) := by
        intro s0 hs0
        refine v_X10_readText_53 hbd (lx_takePiece hc (fun c y hy MI1 c1 m1 => rI_mk ⟨fun zz => ?_, fun _ => ⟨fun zz => by omega, fun _ => ?_⟩⟩) (fun f y hy MI1 f1 => rI_mk ⟨fun _ => hF f y (by rw [hy]; rfl) _ f1, fun zz => absurd rfl zz⟩))
        · have := (pcS_ok h0.1 hy).1; omega
        · have hpc := pcS_ok h0.1 hy
          have d1 := DocC_mv hbd hD m1
          have eb : MI1 b = MI b := m1 b (by omega)
          rw [hy, pb_r] at hT hF
          simp only at hT hF
          refine v_X10_readText_88 hbd ⟨fun zz => by omega, fun _ => w_X3_addTextByte hbd (by rw [eb]; omega) (by rw [eb]; omega) (fun hlt => rI_mk ⟨fun zz => by omega, fun _ => ?_⟩) (fun hge => rI_mk ⟨fun _ => ?_, fun zz => absurd rfl zz⟩)⟩
          · rw [eb] at hlt ⊢
            rw [i_2b_id (by omega)]
            have hr : ¬ (2000 - pl = 0) := by omega
            rw [if_neg hr] at hT hF
            -- behind the byte and the flag
            have fin : ∀ (m : Nat → Nat → Int) (z' l5 : Int), (∀ j, j ≠ b → j ≠ b + 37 → j ≠ b + 42 → m j = MI1 j) → (∀ k, k ≠ 15 → m b k = MI1 b k) → m b 15 = MI b 15 + 1 → (m (b + 42) = fun k => if k = (MI b 15).toNat then c else MI1 (b + 42) k) → (∀ k, k ≠ ns.length → m (b + 37) k = MI1 (b + 37) k) → m (b + 37) ns.length = 2 * z' → (z' = 0 ∨ z' = 1) → z' = (if ob T n h = 38 ∨ ¬ isSp c then 1 else z) →
                wp cs mX10_readText KD Q 134 [some (vR 10), some (vR b), some (vI (ns.length : Nat)), some (vI l3), some (vI h), some (vI l5), some (vI c)] [] (KD, m, ML, GR d e nw th 1) := by
              intro m z' l5 g1 g2 g3 g4 g5 g6 g7 g8
              refine v_X10_readText_134 hbd ⟨by omega, ?_⟩
              simp only [Int.toNat_natCast]
              rw [g3]
              intro m143 e143
              refine ⟨by omega, ?_⟩
              have fr : ∀ j, j ≠ b + 40 → m143 j = m j := fun j hj => by rw [e143]; funext k; exact up2_ne hj k
              have d2 : DocC b T n N (pl + 1) D (ns ++ [(3, u, [], s ++ [c], 0, z')]) op dp m143 ML := by
                refine DocC_text hbd d1 (fun k y hy h2 hop => ?_) (by omega) (fun j z1 z2 z3 z4 => by rw [fr j z3]; exact g1 j z1 z2 z4) (fun k hk => by rw [fr b (by omega)]; exact g2 k hk) (by rw [fr b (by omega), g3, eb]) (by rw [fr _ (by omega), g4, eb]) (fun k hk => by rw [fr _ (by omega)]; exact g5 k hk) (by rw [fr _ (by omega)]; exact g6) (fun k hk => by rw [e143, up2_nk hk, g1 (b + 40) (by omega) (by omega) (by omega)]) (by rw [e143, up2_eq, eb])
                have hkl := (List.getElem?_eq_some_iff.mp hy).1
                rw [eS_app hkl]
                split
                · next hc2 => have := hcl k y hy h2 hop hc2.1; simp only at hc2; omega
                · exact (eS_le hkl).2
              refine ih (pl + 1) (s ++ [c]) z' y (l3 + 1) m143 (CurC_fr c1 hbd (fun j z1 z2 => by rw [fr j (by omega)]; exact g1 j (by omega) (by omega) (by omega)) (fun _ _ => rfl)) d2 g7 (by omega) (by omega) (fun s' w y' hy' MI' c' d' e' => ?_) (fun f y' hy' => hF f y' (by rw [show 2000 - pl - 1 = 2000 - (pl + 1) by omega, hy']; rfl))
              refine hT (c :: s') (if ob T n h = 38 ∨ ¬ isSp c then 1 else w) y' (by rw [show 2000 - pl - 1 = 2000 - (pl + 1) by omega, hy']; rfl) MI' c' ?_ (by rw [e', fr 10 (by omega), g1 10 (by omega) (by omega) (by omega), m1 10 (by decide)])
              have e1 : pl + (c :: s').length = pl + 1 + s'.length := by simp only [List.length_cons]; omega
              have e2 : s ++ c :: s' = s ++ [c] ++ s' := by simp
              have e3 : (if z = 1 then 1 else if ob T n h = 38 ∨ ¬ isSp c then 1 else w) = if z' = 1 then 1 else w := by
                rw [g8]
                by_cases hq : ob T n h = 38 ∨ ¬ isSp c
                · rw [if_pos hq, if_pos hq]; split <;> rfl
                · rw [if_neg hq, if_neg hq]
              rw [e1, e2, e3]; exact d'
            have n37 := (d1.2.2.2.2.1.2.2.2 _ _ (last_get ns _)).2.2.2.2.2.1
            simp only at n37
            -- memory behind addTextByte
            have A1 : ∀ j, j ≠ b → j ≠ b + 42 → up2 (up2 MI1 (b + 42) (MI b 15).toNat c) b 15 (MI b 15 + 1) j = MI1 j := fun j z1 z2 => by funext k; rw [up2_ne z1, up2_ne z2]
            have A2 : ∀ k, k ≠ 15 → up2 (up2 MI1 (b + 42) (MI b 15).toNat c) b 15 (MI b 15 + 1) b k = MI1 b k := fun k hk => by rw [up2_nk hk, up2_ne (by omega)]
            have A3 : up2 (up2 MI1 (b + 42) (MI b 15).toNat c) b 15 (MI b 15 + 1) (b + 42) = fun k => if k = (MI b 15).toNat then c else MI1 (b + 42) k := by
              funext k; rw [up2_ne (by omega)]; unfold up2; simp
            have solid : ∀ (m : Nat → Nat → Int) (l5 : Int), m = up2 (up2 (up2 MI1 (b + 42) (MI b 15).toNat c) b 15 (MI b 15 + 1)) (b + 37) ns.length 2 → (ob T n h = 38 ∨ ¬ isSp c) → wp cs mX10_readText KD Q 134 [some (vR 10), some (vR b), some (vI (ns.length : Nat)), some (vI l3), some (vI h), some (vI l5), some (vI c)] [] (KD, m, ML, GR d e nw th 1) := fun m l5 em hq => by
              refine fin m 1 l5 (fun j z1 z2 z3 => by rw [em]; funext k; rw [up2_ne z2]; exact congrFun (A1 j z1 z3) k) (fun k hk => by rw [em, up2_ne (by omega)]; exact A2 k hk) (by rw [em, up2_ne (by omega), up2_eq]) (by rw [em]; funext k; rw [up2_ne (by omega)]; exact congrFun A3 k) (fun k hk => by rw [em, up2_nk hk, up2_ne (by omega), up2_ne (by omega)]) (by rw [em, up2_eq]; rfl) (Or.inr rfl) (by rw [if_pos hq])
            have plain : ∀ l5 : Int, ¬ (ob T n h = 38 ∨ ¬ isSp c) → wp cs mX10_readText KD Q 134 [some (vR 10), some (vR b), some (vI (ns.length : Nat)), some (vI l3), some (vI h), some (vI l5), some (vI c)] [] (KD, up2 (up2 MI1 (b + 42) (MI b 15).toNat c) b 15 (MI b 15 + 1), ML, GR d e nw th 1) := fun l5 hq => by
              refine fin _ z l5 (fun j z1 z2 z3 => A1 j z1 z3) A2 up2_eq A3 (fun k hk => by rw [up2_ne (by omega), up2_ne (by omega)]) (by rw [up2_ne (by omega), up2_ne (by omega), n37]; omega) hz (by rw [if_neg hq])
            refine ⟨fun z0 => ?_, fun z0 => ⟨by omega, ?_⟩⟩
            · have h38 : ob T n h ≠ 38 := fun q => (hs0.mpr q) z0
              refine w_X1_isSpace (rI_mk ⟨fun zs => ⟨by omega, ?_⟩, fun zs => ?_⟩)
              · simp only [Int.toNat_natCast]
                intro m em
                have : ¬ isSp c := fun q => by rw [show bI (isSp c) = 1 from if_pos q] at zs; omega
                exact solid m _ em (Or.inr this)
              · have : isSp c := Classical.byContradiction fun q => zs (if_neg q)
                exact plain _ (fun q => by rcases q with q | q; exact h38 q; exact q this)
            · simp only [Int.toNat_natCast]
              intro m em
              exact solid m _ em (Or.inl (hs0.mp z0))
          · rw [eb] at hge
            rw [if_pos (by omega)] at hF
            exact lx_refuse c1.2.2.2.2.2 (fun MI' hf => rI_mk ⟨Or.inl rfl, hF _ _ rfl _ hf⟩)
      exact lx_peek hc (rI_mk ⟨fun q => go 1 ⟨fun _ => q, fun _ => by decide⟩, fun q => go 0 ⟨fun zz => absurd rfl zz, fun zz => absurd zz q⟩⟩)
end P79
