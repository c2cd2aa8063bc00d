theorem msS_lt {T : Nat → Int} {n h y : Int} (hy : msS T n h = .inr y) : h < y ∧ (h ≤ n → y ≤ n) := by
  unfold msS at hy
  split at hy
  · next hs =>
    cases hy
    have hl := isSp_lt hs
    have h1 := sk_le T n (h + 1)
    have h2 := sk_le T n h
    have e : sk T n h = sk T n (h + 1) := by rw [sk_eq T n h, if_pos ⟨hl, hs⟩]
    exact ⟨by rw [e]; omega, h2.2⟩
  · cases hy
theorem mbS_eq {T : Nat → Int} {n h c y : Int} (hy : mbS T n h c = .inr y) : y = h + 1 ∧ ob T n h = c := by
  unfold mbS at hy
  split at hy
  · next hs => cases hy; exact ⟨rfl, hs⟩
  · cases hy
theorem slc_grow {A A' : Nat → Int} {v v' f l : Int} {x : By} (h : slc A v f l x) (hA : ∀ k : Nat, (k : Int) < v → A' k = A k) (hv : v ≤ v') : slc A' v' f l x := slc_mono (slc_copy h hA) hv
section P72
variable {cs : Cs} {Q : Option AV → Mm → Prop} {MI ML OI OL : Nat → Nat → Int} {b d e nw th x : Nat} {T : Nat → Int} {n h : Int} {N : List By} {pl : Nat} {o : Option By} {ds : List Dc} {rs : List Rl} {ns : List Nd} {op : List Int} {dp : Int} {w : By} {a : By}
/-- the RULES with the one that is being read, if it counts -/
def rsC (c : Bool) (rs : List Rl) (x : Rl) : List Rl := if c = true then rs ++ [x] else rs
def riC (c : Bool) (rs : List Rl) : Int := if c = true then (rs.length : Nat) else -1
theorem RulC_last {y y' : Rl} {MI' : Nat → Nat → Int} (hR : RulC b T n N (rs ++ [y]) MI) (ho : y'.1 = y.1) (h11 : MI' (b + 20) 11 = MI (b + 20) 11) (h12 : MI' (b + 20) 12 = (tkA (rs ++ [y']) : Nat)) (hle : tkA (rs ++ [y']) ≤ 3000) (hold : ∀ c, 21 ≤ c → c ≤ 29 → ∀ r, r ≠ rs.length → MI' (b + c) r = MI (b + c) r) (h29 : MI' (b + 29) = MI (b + 29))
    (htk : ∀ j, j < tkA rs → MI' (b + 30) j = MI (b + 30) j ∧ MI' (b + 31) j = MI (b + 31) j) (e41 : MI' (b + 41) = MI (b + 41)) (e14 : MI' b 14 = MI b 14) (hA : RulA b T n N (rs ++ [y']) MI' rs.length y') : RulC b T n N (rs ++ [y']) MI' := by
  refine ⟨by rw [h11]; have := hR.1; simpa using this, by have := hR.2.1; simpa using this, h12, hle, fun r q hq => ?_⟩
  rcases last_of hq with ⟨hr, hq⟩ | ⟨rfl, rfl⟩
  · have hA0 := hR.2.2.2.2 r q (last_mono hq)
    have hle2 := tkA_le hq
    have et : tkA ((rs ++ [y']).take r) = tkA ((rs ++ [y]).take r) := by rw [List.take_append_of_le_length (by omega), List.take_append_of_le_length (by omega)]
    have et2 : tkA ((rs ++ [y]).take r) = tkA (rs.take r) := by rw [List.take_append_of_le_length (by omega)]
    refine RulA_pt hA0 et (hold 21 (by decide) (by decide) r (by omega)) (hold 22 (by decide) (by decide) r (by omega)) (hold 23 (by decide) (by decide) r (by omega)) (hold 24 (by decide) (by decide) r (by omega)) (hold 25 (by decide) (by decide) r (by omega)) (hold 26 (by decide) (by decide) r (by omega)) (hold 27 (by decide) (by decide) r (by omega)) (hold 28 (by decide) (by decide) r (by omega)) (fun j hj => (htk j (by omega)).1) (fun j hj => (htk j (by omega)).2) e41 e14 ?_
    rw [h29, hA0.2.2.2.2.2.2.2.2, List.drop_append_of_le_length (by omega), List.drop_append_of_le_length (by omega), fIdx_app, fIdx_app]
    have : ofN q.1 y' = ofN q.1 y := by simp only [ofN, ho]
    rw [this]
  · exact hA
theorem IdxC_r {y y' : Rl} (hq : y'.1 = y.1) (hI : IdxC b N ds (rs ++ [y]) MI) : IdxC b N ds (rs ++ [y']) MI := by
  intro k z hz
  have := hI k z hz
  have e : ofN z y' = ofN z y := by simp only [ofN, hq]
  rw [fIdx_app] at this ⊢
  rw [e]; exact this
theorem DocC_rul (hbd : b = 38 ∨ b = 81) {y y' : Rl} {MI' : Nat → Nat → Int} (hq : y'.1 = y.1) (hD : DocC b T n N pl (o, ds, rs ++ [y]) ns op dp MI ML) (hR : RulC b T n N (rs ++ [y']) MI') (hf : ∀ j, ¬ (b + 20 ≤ j ∧ j ≤ b + 31) → MI' j = MI j) : DocC b T n N pl (o, ds, rs ++ [y']) ns op dp MI' ML := by
  have eb : MI' b = MI b := hf b (by omega)
  refine ⟨NamC_fr hD.1 (fun i h1 h2 => hf i (by omega)), IdxC_fr (IdxC_r hq hD.2.1) (fun i h1 h2 => hf i (by omega)), SpcC_fr hD.2.2.1 (fun i h1 h2 => hf i (by omega)) (fun _ _ _ => rfl), hR, NodC_fr hD.2.2.2.2.1 (fun i h1 h2 => hf i (by omega)) (by rw [eb]) (by rw [eb]) (by rw [eb]), DtC_fr hD.2.2.2.2.2.1 (by rw [eb]), ?_, ?_⟩
  · rw [eb]; exact hD.2.2.2.2.2.2.1
  · rw [eb]; exact hD.2.2.2.2.2.2.2
/-- bytes come behind the values -/
theorem DocC_val (hbd : b = 38 ∨ b = 81) {D : Dt} {l : By} {MI' : Nat → Nat → Int} (hD : DocC b T n N pl D ns op dp MI ML) (hv : valA b l MI MI') (hl : pl + l.length ≤ 2000) : DocC b T n N (pl + l.length) D ns op dp MI' ML := by
  obtain ⟨v1, v2, v3, v4, v5⟩ := hv
  have hI : ∀ j, b < j → j ≤ b + 42 → j ≠ b + 41 → MI' j = MI j := fun j h1 h2 h3 => v1 j (by omega) (by omega) h3
  have hp := hD.2.2.2.2.2.2.1
  have hge : MI b 14 ≤ MI' b 14 := by rw [v3]; omega
  refine ⟨NamC_fr hD.1 (fun i h1 h2 => hI i (by omega) (by omega) (by omega)), IdxC_fr hD.2.1 (fun i h1 h2 => hI i (by omega) (by omega) (by omega)), SpcC_fr hD.2.2.1 (fun i h1 h2 => hI i (by omega) (by omega) (by omega)) (fun _ _ _ => rfl), ?_, ?_, DtC_fr hD.2.2.2.2.2.1 (v2 17 (by decide)), ?_, ?_⟩
  · obtain ⟨r1, r2, r3, r4, r5⟩ := hD.2.2.2.1
    refine ⟨by rw [hI (b + 20) (by omega) (by omega) (by omega)]; exact r1, r2, by rw [hI (b + 20) (by omega) (by omega) (by omega)]; exact r3, r4, fun r q hq => ?_⟩
    obtain ⟨a1, a2, a3, a4, a5, a6, a7, a8, a9⟩ := r5 r q hq
    refine ⟨?_, ?_, ?_, ?_, ?_, ?_, ?_, ?_, ?_⟩
    · rw [hI (b + 21) (by omega) (by omega) (by omega)]; exact a1
    · rw [hI (b + 22) (by omega) (by omega) (by omega)]; exact a2
    · rw [hI (b + 23) (by omega) (by omega) (by omega)]; exact a3
    · rw [hI (b + 24) (by omega) (by omega) (by omega)]; exact a4
    · rw [hI (b + 25) (by omega) (by omega) (by omega)]; exact a5
    · rw [hI (b + 30) (by omega) (by omega) (by omega), hI (b + 31) (by omega) (by omega) (by omega)]; exact a6
    · rw [hI (b + 26) (by omega) (by omega) (by omega)]; exact a7
    · rw [hI (b + 27) (by omega) (by omega) (by omega), hI (b + 28) (by omega) (by omega) (by omega)]; exact slc_grow a8 v5 hge
    · rw [hI (b + 29) (by omega) (by omega) (by omega)]; exact a9
  · obtain ⟨r1, r2, r3, r4⟩ := hD.2.2.2.2.1
    refine ⟨by rw [v2 16 (by decide)]; exact r1, r2, by rw [v2 15 (by decide)]; exact r3, fun k y hy => ?_⟩
    obtain ⟨a1, a2, a3, a4, a5, a6, a7, a8, a9, a10⟩ := r4 k y hy
    refine ⟨?_, ?_, ?_, ?_, ?_, ?_, fun q => ⟨?_, ?_⟩, ?_, ?_, ?_⟩
    · rw [hI (b + 32) (by omega) (by omega) (by omega)]; exact a1
    · rw [hI (b + 33) (by omega) (by omega) (by omega)]; exact a2
    · rw [hI (b + 34) (by omega) (by omega) (by omega)]; exact a3
    · rw [hI (b + 35) (by omega) (by omega) (by omega)]; exact a4
    · rw [hI (b + 36) (by omega) (by omega) (by omega)]; exact a5
    · rw [hI (b + 37) (by omega) (by omega) (by omega)]; exact a6
    · rw [hI (b + 39) (by omega) (by omega) (by omega), hI (b + 40) (by omega) (by omega) (by omega)]; exact slc_grow (a7 q).1 v5 hge
    · rw [hI (b + 38) (by omega) (by omega) (by omega)]; exact (a7 q).2
    · rw [hI (b + 39) (by omega) (by omega) (by omega)]; exact a8
    · rw [hI (b + 42) (by omega) (by omega) (by omega)]; exact a9
    · rw [hI (b + 38) (by omega) (by omega) (by omega), hI (b + 40) (by omega) (by omega) (by omega)]; exact a10
  · rw [v3, v2 15 (by decide)]; omega
  · rw [v2 18 (by decide)]; exact hD.2.2.2.2.2.2.2
theorem c_addToken (hbd : b = 38 ∨ b = 81) {y : Rl} {f l : Int} {z : By} (hR : RulC b T n N (rs ++ [y]) MI) (hs : slc T n f l z) (hlt : tkA (rs ++ [y]) < 3000)
    (hQ : ∀ MI', RulC b T n N (rs ++ [(y.1, y.2.1, y.2.2.1, y.2.2.2.1 ++ [z], y.2.2.2.2)]) MI' → (∀ j, ¬ (b + 20 ≤ j ∧ j ≤ b + 31) → MI' j = MI j) → Q none (MI', ML, GR d e nw th x)) :
    wp cs mX7_addToken KD Q 0 (padL [vR (b + 20), vI (rs.length : Nat), vI f, vI l] 4) [] (KD, MI, ML, GR d e nw th x) := by
  have h12 := hR.2.2.1
  have hlen := hR.2.1
  simp only [List.length_append, List.length_singleton] at hlen
  obtain ⟨a1, a2, a3, a4, a5, a6, a7, a8, a9⟩ := hR.2.2.2.2 _ _ (last_get rs y)
  have et : tkA ((rs ++ [y]).take rs.length) = tkA rs := by rw [List.take_append_of_le_length (Nat.le_refl _), List.take_length]
  have ey := tkA_app rs y
  rw [et] at a4 a6
  refine v_X7_addToken_0 hbd ⟨fun _ => ⟨by omega, ?_⟩, fun q => by omega⟩
  rw [h12]
  simp only [Int.toNat_natCast]
  intro m19 e19
  have q1 : m19 (b + 20) 12 = (tkA (rs ++ [y]) : Nat) := by simp [e19, up2, h12]
  rw [q1]
  refine ⟨by omega, ?_⟩
  simp only [Int.toNat_natCast]
  intro m29 e29
  have q2 : m29 (b + 20) 12 = (tkA (rs ++ [y]) : Nat) := by simp [e29, up2, q1]
  rw [q2]
  refine ⟨by omega, ?_⟩
  intro m37 e37
  refine ⟨by omega, ?_⟩
  have q3 : m37 (b + 25) rs.length = (y.2.2.2.1.length : Nat) := by simp [e37, e29, e19, up2, a5]
  rw [q3]
  refine ⟨by omega, ?_⟩
  intro m49 e49
  have fr : ∀ j, ¬ (b + 20 ≤ j ∧ j ≤ b + 31) → m49 j = MI j := fun j hj => by
    funext k; simp only [e49, e37, e29, e19, up2]; repeat rw [if_neg (by omega)]
  have et' : tkA ((rs ++ [((y.1, y.2.1, y.2.2.1, y.2.2.2.1 ++ [z], y.2.2.2.2) : Rl)]).take rs.length) = tkA rs := by rw [List.take_append_of_le_length (Nat.le_refl _), List.take_length]
  refine hQ m49 (RulC_last hR rfl ?_ ?_ ?_ (fun c h1 h2 r hr => ?_) ?_ (fun j hj => ⟨?_, ?_⟩) (fr _ (by omega)) (by rw [fr b (by omega)]) ⟨?_, ?_, ?_, ?_, ?_, fun t u hu => ?_, ?_, ?_, ?_⟩) fr
  · simp [e49, e37, e29, e19, up2]
  · rw [tkA_app]; simp [e49, e37, up2]; omega
  · rw [tkA_app]; simp; omega
  · simp only [e49, e37, e29, e19, up2]; repeat rw [if_neg (by omega)]
  · funext k; simp [e49, e37, e29, e19, up2]
  · simp [e49, e37, e29, e19, up2]; omega
  · simp [e49, e37, e29, e19, up2]; omega
  · simp [e49, e37, e29, e19, up2]; exact a1
  · simp [e49, e37, e29, e19, up2]; exact a2
  · simp [e49, e37, e29, e19, up2]; exact a3
  · rw [et']; simp [e49, e37, e29, e19, up2]; exact a4
  · simp [e49, up2]
  · rw [et']
    rcases last_of hu with ⟨ht, hu⟩ | ⟨rfl, rfl⟩
    · have := a6 t u hu
      simpa [e49, e37, e29, e19, up2, show tkA rs + t ≠ tkA (rs ++ [y]) by omega] using this
    · rw [← ey]
      simpa [e49, e37, e29, e19, up2] using hs
  · simp [e49, e37, e29, e19, up2]; exact a7
  · rw [fr (b + 41) (by omega), fr b (by omega)]
    simpa [e49, e37, e29, e19, up2] using a8
  · have := a9
    rw [List.drop_eq_nil_of_le (by simp)] at this ⊢
    simpa [e49, e37, e29, e19, up2] using this
/-- what a RULE's reading holds: c: it counts -/
theorem c_tokens_l (hbd : b = 38 ∨ b = 81) {c : Bool} : ∀ (k : Nat) (l : List By) (h : Int) (MI : Nat → Nat → Int), k + l.length = 9 → CurC b T n OI OL h MI ML → DocC b T n N pl (o, ds, rsC c rs (w, a, 2, l, 0, [])) ns op dp MI ML → (c = true → 2 * (tkA rs + l.length : Nat) + 1 ≤ h) → (1 ≤ k) →
    (∀ l' y, tkF T n k h l = .inr (l', y) → ∀ MI', CurC b T n OI OL y MI' ML → DocC b T n N pl (o, ds, rsC c rs (w, a, 2, l', 0, [])) ns op dp MI' ML → (c = true → 2 * (tkA rs + l'.length : Nat) ≤ y) → Q (some (vI 1)) (MI', ML, GR d e nw th 1)) →
    (∀ f z, tkF T n k h l = .inl (f, z) → ∀ MI', FaiC b OI OL f z MI' ML → Q (some (vI 0)) (MI', ML, GR d e nw th 1)) →
    wp cs mX2_readTokens KD Q 2 [some (vR 4), some (vR (b + 20)), some (vI (riC c rs)), some (vI (l.length : Nat))] [] (KD, MI, ML, GR d e nw th 1) := by
  intro k
  induction k with
  | zero => intro l h MI _ _ _ _ hk; omega
  | succ k ih =>
    intro l h MI hkl hc hD hn _ hT hF
    have hs := sk_le T n h
    have h0 := hc.2.2.2.2.1
    have hn6 := hc.2.2.1
    rw [tkF] at hT hF
    refine v_X2_readTokens_2 hbd ⟨fun z => by omega, fun _ => lx_skipSpace hc (fun MI1 c1 m1 => rV_mk ?_)⟩
    refine lx_needToken c1 (fun g hg MI2 c2 m2 l2 => rI_mk ⟨fun z => by omega, fun _ => ⟨fun hlt => ?_, fun hge => ?_⟩⟩) (fun f z hg MI2 f2 => rI_mk ⟨fun _ => hF f z (by rw [hg]; rfl) _ f2, fun z => absurd rfl z⟩)
    · rw [hg, pb_r, if_neg (by omega)] at hT hF
      have hg1 := tokS_ok hg
      have hsg := sk_le T n g
      have h2 := c2.2.2.2.2.1
      have d2 := DocC_mv hbd hD (mvd_tr m1 m2)
      have hsl : slc T n (sk T n h) (g - sk T n h) (nb T (sk T n h) g) := slc_nb (by omega) (by omega) (by omega)
      have hll : (l ++ [nb T (sk T n h) g]).length = l.length + 1 := by simp
      -- behind the token
      have rest : ∀ (MI3 : Nat → Nat → Int), CurC b T n OI OL g MI3 ML → DocC b T n N pl (o, ds, rsC c rs (w, a, 2, l ++ [nb T (sk T n h) g], 0, [])) ns op dp MI3 ML →
          wp cs mX1_skipSpace KD (rV (GR d e nw th 1) fun m78 n78 => wp cs mX1_takeIf KD (rI (GR d e nw th 1) fun x87 m87 n87 => ((x87 = 0 → wp cs mX1_take KD (rI (GR d e nw th 1) fun x99 m99 n99 => (x99 = 0 ∨ x99 = 1) ∧ Q (some (vI x99)) (m99, n99, (GR d e nw th 1))) 0 (padL [vR 2, vR 1000015] 2) [] (KD, m87, n87, (GR d e nw th 1))) ∧ (x87 ≠ 0 → (-2147483648 ≤ ((l.length : Nat) : Int) + 1 ∧ ((l.length : Nat) : Int) + 1 < 2147483648) ∧ wp cs mX2_readTokens KD Q 2 [some (vR 4), some (vR (b + 20)), some (vI (riC c rs)), some (vI (((l.length : Nat) : Int) + 1))] [] (KD, m87, n87, (GR d e nw th 1))))) 0 (padL [vR 2, vR 1000014] 4) [] (KD, m78, n78, (GR d e nw th 1))) 0 (padL [vR 2] 1) [] (KD, MI3, ML, (GR d e nw th 1)) := by
        intro MI3 c3 d3
        refine lx_skipSpace c3 (fun MI4 c4 m4 => rV_mk (lx_takeIf (k := 11) (by decide) c4 (fun hs5 MI5 c5 m5 => rI_mk ⟨fun z => by omega, fun _ => ⟨by omega, ?_⟩⟩) (fun hs5 => rI_mk ⟨fun _ => ?_, fun z => absurd rfl z⟩)))
        · have hob : ob T n (sk T n g) = 124 := stbT rfl hs5
          rw [if_pos hob] at hT hF
          have s11 : sl 11 = 1 := by decide
          rw [s11] at c5
          rw [show ((l.length : Nat) : Int) + 1 = (((l ++ [nb T (sk T n h) g]).length : Nat) : Int) by rw [hll]; omega]
          refine ih _ _ MI5 (by rw [hll]; omega) c5 (DocC_mv hbd d3 (mvd_tr m4 m5)) (fun hcc => ?_) (by omega) hT hF
          have := hn hcc
          rw [hll]; omega
        · have hob : ob T n (sk T n g) ≠ 124 := stbF rfl hs5
          rw [if_neg hob] at hT hF
          refine lx_take1 (k := 12) (c := 41) (by decide) rfl c4 (fun y hy MI5 c5 m5 => rI_mk ⟨Or.inr rfl, ?_⟩) (fun f z hy MI5 f5 => rI_mk ⟨Or.inl rfl, hF f z (by rw [hy]; rfl) _ f5⟩)
          have hy1 := mbS_eq hy
          refine hT _ y (by rw [hy]; rfl) MI5 c5 (DocC_mv hbd d3 (mvd_tr m4 m5)) (fun hcc => ?_)
          have := hn hcc
          rw [hll]; omega
      cases c with
      | false =>
        refine ⟨fun _ => rest MI2 c2 ?_, fun z => absurd rfl z⟩
        exact d2
      | true =>
        refine ⟨fun z => by simp only [riC, if_true] at z; omega, fun _ => ?_⟩
        rw [l2.1, l2.2]
        have hntk := hn rfl
        have d2' : DocC b T n N pl (o, ds, rs ++ [(w, a, 2, l, 0, [])]) ns op dp MI2 ML := d2
        refine c_addToken hbd (rs := rs) d2'.2.2.2.1 hsl (by rw [tkA_app]; simp only; omega) (fun MI3 r3 fr3 => rV_mk (rest MI3 ?_ ?_))
        · exact CurC_fr c2 hbd (fun i z1 z2 => fr3 i (by omega)) (fun _ _ => rfl)
        · exact DocC_rul (y := (w, a, 2, l, 0, [])) hbd rfl d2' r3 fr3
    · rw [hg, pb_r, if_pos (by omega)] at hF
      rw [l2.1]
      exact lx_refuse c2.2.2.2.2.2 (fun MI' hf => rI_mk ⟨Or.inl rfl, hF _ _ rfl _ hf⟩)
theorem tkF_le (T : Nat → Int) (n : Int) : ∀ (k : Nat) (h : Int) (l l' : List By) (y : Int), tkF T n k h l = .inr (l', y) → h + 2 ≤ y
  | 0, h, l, l', y, hy => by simp [tkF] at hy
  | k + 1, h, l, l', y, hy => by
    have hs := sk_le T n h
    rw [tkF] at hy
    obtain ⟨g, h1, h2⟩ := pb_inr hy
    have hg := tokS_ok h1
    have hsg := sk_le T n g
    split at h2
    · cases h2
    · split at h2
      · have := tkF_le T n k _ _ _ _ h2; omega
      · obtain ⟨z, h3, h4⟩ := pb_inr h2
        have := mbS_eq h3
        cases h4; omega
/-- a TYPE -/
theorem c_readType (hbd : b = 38 ∨ b = 81) {c : Bool} (hc : CurC b T n OI OL h MI ML) (hD : DocC b T n N pl (o, ds, rsC c rs (w, a, 0, [], 0, [])) ns op dp MI ML) (hk : c = true → 2 * (tkA rs : Nat) ≤ h)
    (hT : ∀ t l' y, tyS T n h = .inr (t, l', y) → ∀ MI', CurC b T n OI OL y MI' ML → DocC b T n N pl (o, ds, rsC c rs (w, a, t, l', 0, [])) ns op dp MI' ML → (c = true → 2 * (tkA rs + l'.length : Nat) ≤ y) → Q (some (vI 1)) (MI', ML, GR d e nw th 1))
    (hF : ∀ f z, tyS T n h = .inl (f, z) → ∀ MI', FaiC b OI OL f z MI' ML → Q (some (vI 0)) (MI', ML, GR d e nw th 1)) :
    wp cs mX2_readType KD Q 0 (padL [vR 4, vR (b + 20), vI (riC c rs)] 4) [] (KD, MI, ML, GR d e nw th 1) := by
  have h0 := hc.2.2.2.2.1
  -- the type is written
  have put : ∀ (MI1 : Nat → Nat → Int) (g t : Int), CurC b T n OI OL g MI1 ML → DocC b T n N pl (o, ds, rsC c rs (w, a, 0, [], 0, [])) ns op dp MI1 ML →
      (∀ MI2, CurC b T n OI OL g MI2 ML → DocC b T n N pl (o, ds, rsC c rs (w, a, t, [], 0, [])) ns op dp MI2 ML → wp cs mX2_readType KD Q 56 [some (vR 4), some (vR (b + 20)), some (vI (riC c rs)), some (vI t)] [] (KD, MI2, ML, GR d e nw th 1)) →
      wp cs mX2_readType KD Q 44 [some (vR 4), some (vR (b + 20)), some (vI (riC c rs)), some (vI t)] [] (KD, MI1, ML, GR d e nw th 1) := by
    intro MI1 g t c1 d1 hgo
    cases c with
    | false => exact v_X2_readType_44 hbd ⟨fun _ => hgo MI1 c1 d1, fun z => absurd rfl z⟩
    | true =>
      have d1' : DocC b T n N pl (o, ds, rs ++ [(w, a, 0, [], 0, [])]) ns op dp MI1 ML := d1
      have hR := d1'.2.2.2.1
      have hlen := hR.2.1
      simp only [List.length_append, List.length_singleton] at hlen
      refine v_X2_readType_44 hbd ⟨fun z => by simp only [riC, if_true] at z; omega, fun _ => ⟨by simp only [riC, if_true]; omega, ?_⟩⟩
      simp only [riC, if_true, Int.toNat_natCast]
      intro m em
      have fr : ∀ j, j ≠ b + 23 → m j = MI1 j := fun j hj => by rw [em]; funext k; exact up2_ne hj k
      refine hgo m (CurC_fr c1 hbd (fun i z1 z2 => fr i (by omega)) (fun _ _ => rfl)) ?_
      obtain ⟨a1, a2, a3, a4, a5, a6, a7, a8, a9⟩ := hR.2.2.2.2 _ _ (last_get rs _)
      have et : ∀ y : Rl, tkA ((rs ++ [y]).take rs.length) = tkA rs := fun y => by rw [List.take_append_of_le_length (Nat.le_refl _), List.take_length]
      refine DocC_rul (y := (w, a, 0, [], 0, [])) (y' := (w, a, t, [], 0, [])) hbd rfl d1' (RulC_last hR rfl (by rw [fr _ (by omega)]) ?_ ?_ (fun q h1 h2 r hr => ?_) (fr _ (by omega)) (fun j hj => ⟨by rw [fr _ (by omega)], by rw [fr _ (by omega)]⟩) (fr _ (by omega)) (by rw [fr _ (by omega)]) ⟨?_, ?_, ?_, ?_, ?_, fun t y hy => by simp at hy, ?_, ?_, ?_⟩) (fun j hj => fr j (by omega))
      · rw [fr _ (by omega), tkA_app]; have := hR.2.2.1; rw [tkA_app] at this; exact this
      · rw [tkA_app]; have := hR.2.2.2.1; rw [tkA_app] at this; exact this
      · rw [em]; exact up2_nk hr _
      · rw [fr _ (by omega)]; exact a1
      · rw [fr _ (by omega)]; exact a2
      · rw [em]; simp [up2]
      · rw [fr _ (by omega), et]; rw [et] at a4; exact a4
      · rw [fr _ (by omega)]; exact a5
      · rw [fr _ (by omega)]; exact a7
      · rw [fr (b + 27) (by omega), fr (b + 28) (by omega), fr (b + 41) (by omega), fr b (by omega)]; exact a8
      · have := a9
        rw [List.drop_eq_nil_of_le (by simp)] at this ⊢
        rw [fr _ (by omega)]; exact this
  refine v_X2_readType_0 hbd (lx_needSpace hc (fun g hg MI1 c1 m1 => rI_mk ⟨fun z => by omega, fun _ => ?_⟩) (fun f z hg MI1 f1 => rI_mk ⟨fun _ => hF f z (by unfold tyS; rw [hg]; rfl) _ f1, fun z => absurd rfl z⟩))
  have hg1 := msS_lt hg
  have d1 := DocC_mv hbd hD m1
  unfold tyS at hT hF
  rw [hg, pb_r] at hT hF
  refine lx_takeIf (k := 17) (by decide) c1 (fun hs MI2 c2 m2 => rI_mk ⟨fun z => by omega, fun _ => ?_⟩) (fun hs => rI_mk ⟨fun _ => ?_, fun z => absurd rfl z⟩)
  · have s5 : sl 17 = 5 := by decide
    rw [s5] at c2
    rw [if_pos (show stb T n g [67, 68, 65, 84, 65] = true from hs)] at hT
    refine put MI2 _ 0 c2 (DocC_mv hbd d1 m2) (fun MI3 c3 d3 => v_X2_readType_56 hbd ⟨fun z => by omega, fun _ => hT 0 [] (g + 5) rfl MI3 c3 d3 (fun hcc => by have := hk hcc; simp only [List.length_nil]; omega)⟩)
  rw [if_neg (fun z : stb T n g [67, 68, 65, 84, 65] = true => by rw [show sB 17 = [67, 68, 65, 84, 65] from rfl] at hs; rw [hs] at z; cases z)] at hT hF
  refine lx_takeIf (k := 18) (by decide) c1 (fun hs2 MI2 c2 m2 => rI_mk ⟨fun z => by omega, fun _ => ?_⟩) (fun hs2 => rI_mk ⟨fun _ => ?_, fun z => absurd rfl z⟩)
  · have s2 : sl 18 = 2 := by decide
    rw [s2] at c2
    rw [if_pos (show stb T n g [73, 68] = true from hs2)] at hT
    refine put MI2 _ 1 c2 (DocC_mv hbd d1 m2) (fun MI3 c3 d3 => v_X2_readType_56 hbd ⟨fun z => by omega, fun _ => hT 1 [] (g + 2) rfl MI3 c3 d3 (fun hcc => by have := hk hcc; simp only [List.length_nil]; omega)⟩)
  rw [if_neg (fun z : stb T n g [73, 68] = true => by rw [show sB 18 = [73, 68] from rfl] at hs2; rw [hs2] at z; cases z)] at hT hF
  refine put MI1 g 2 c1 d1 (fun MI3 c3 d3 => v_X2_readType_56 hbd ⟨fun _ => ?_, fun z => absurd rfl z⟩)
  refine lx_take1 (k := 9) (c := 40) (by decide) rfl c3 (fun y hy MI4 c4 m4 => rI_mk ⟨fun z => by omega, fun _ => ?_⟩) (fun f z hy MI4 f4 => rI_mk ⟨fun _ => hF f z (by rw [hy]; rfl) _ f4, fun z => absurd rfl z⟩)
  have hy1 := mbS_eq hy
  rw [hy, pb_r] at hT hF
  refine v_X2_readTokens_0 (c_tokens_l hbd 9 [] y MI4 rfl c4 (DocC_mv hbd d3 m4) (fun hcc => by have := hk hcc; simp only [List.length_nil]; omega) (by decide) (fun l' z hz MI5 c5 d5 k5 => rI_mk ⟨fun z => by omega, fun _ => hT 2 l' z (by rw [hz]; rfl) MI5 c5 d5 k5⟩) (fun f z hz MI5 f5 => rI_mk ⟨fun _ => hF f z (by rw [hz]; rfl) _ f5, fun z => absurd rfl z⟩))
end P72
