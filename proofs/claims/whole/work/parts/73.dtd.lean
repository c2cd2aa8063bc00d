theorem tyS_le {T : Nat → Int} {n h : Int} {t : Int} {l : List By} {y : Int} (hy : tyS T n h = .inr (t, l, y)) : h + 3 ≤ y := by
  unfold tyS at hy
  obtain ⟨g, h1, h2⟩ := pb_inr hy
  have := msS_lt h1
  split at h2
  · cases h2; omega
  · split at h2
    · cases h2; omega
    · obtain ⟨z, h3, h4⟩ := pb_inr h2
      obtain ⟨q, h5, h6⟩ := pb_inr h4
      have := mbS_eq h3
      have := tkF_le T n _ _ _ _ _ (show tkF T n 9 z [] = .inr (q.1, q.2) from h5)
      cases h6; omega
theorem dfS_le {T : Nat → Int} {n h : Int} {r : Nat} {t : Int} {v : By} {y : Int} (h0 : 0 ≤ h) (hy : dfS T n r h = .inr (t, v, y)) : h + 3 ≤ y ∧ v.length ≤ r := by
  unfold dfS at hy
  obtain ⟨g, h1, h2⟩ := pb_inr hy
  have := msS_lt h1
  split at h2
  · cases h2; exact ⟨by omega, Nat.zero_le _⟩
  · split at h2
    · cases h2; exact ⟨by omega, Nat.zero_le _⟩
    · split at h2
      · obtain ⟨z, h3, h4⟩ := pb_inr h2
        obtain ⟨q, h5, h6⟩ := pb_inr h4
        have := msS_lt h3
        have := vlS_le (by omega) (show vlS T n r z = .inr (q.1, q.2) from h5)
        cases h6; exact ⟨by omega, this.2.2⟩
      · obtain ⟨q, h5, h6⟩ := pb_inr h2
        have := vlS_le (by omega) (show vlS T n r g = .inr (q.1, q.2) from h5)
        cases h6; exact ⟨by omega, this.2.2⟩
section P73
variable {cs : Cs} {Q : Option AV → Mm → Prop} {MI ML OI OL : Nat → Nat → Int} {b d e nw th x : Nat} {T : Nat → Int} {n h : Int} {N : List By} {pl : Nat} {o : Option By} {ds : List Dc} {rs : List Rl} {ns : List Nd} {op : List Int} {dp : Int} {w : By} {a : By}
/-- the RULE's end is written: how, and the value that was kept last -/
theorem c_df_95 (hbd : b = 38 ∨ b = 81) {c : Bool} {t us f : Int} {l : List By} {v : By} (hc : CurC b T n OI OL h MI ML) (hD : DocC b T n N pl (o, ds, rsC c rs (w, a, t, l, 0, [])) ns op dp MI ML) (hv : slc (MI (b + 41)) (MI b 14) f (MI b 14 - f) v)
    (hQ : ∀ MI', CurC b T n OI OL h MI' ML → DocC b T n N pl (o, ds, rsC c rs (w, a, t, l, us, v)) ns op dp MI' ML → Q (some (vI 1)) (MI', ML, GR d e nw th 1)) :
    wp cs mX2_readDefault KD Q 95 [some (vR 4), some (vR b), some (vI (riC c rs)), some (vI us), some (vI f)] [] (KD, MI, ML, GR d e nw th 1) := by
  cases c with
  | false => exact v_X2_readDefault_95 hbd ⟨fun _ => hQ MI hc hD, fun z => absurd rfl z⟩
  | true =>
    have hD' : DocC b T n N pl (o, ds, rs ++ [(w, a, t, l, 0, [])]) ns op dp MI ML := hD
    have hR := hD'.2.2.2.1
    have hlen := hR.2.1
    simp only [List.length_append, List.length_singleton] at hlen
    refine v_X2_readDefault_95 hbd ⟨fun z => by simp only [riC, if_true] at z; omega, fun _ => ⟨by simp only [riC, if_true]; omega, ?_⟩⟩
    simp only [riC, if_true, Int.toNat_natCast]
    intro m109 e109 m120 e120
    have q14 : m120 b 14 = MI b 14 := by simp [e120, e109, up2]
    rw [q14]
    intro m em
    have fr : ∀ j, j ≠ b + 26 → j ≠ b + 27 → j ≠ b + 28 → m j = MI j := fun j z1 z2 z3 => by rw [em, e120, e109]; funext k; rw [up2_ne z3, up2_ne z2, up2_ne z1]
    refine hQ m (CurC_fr hc hbd (fun i z1 z2 => fr i (by omega) (by omega) (by omega)) (fun _ _ => rfl)) ?_
    obtain ⟨a1, a2, a3, a4, a5, a6, a7, a8, a9⟩ := hR.2.2.2.2 _ _ (last_get rs _)
    have et : ∀ y : Rl, tkA ((rs ++ [y]).take rs.length) = tkA rs := fun y => by rw [List.take_append_of_le_length (Nat.le_refl _), List.take_length]
    refine DocC_rul (y := (w, a, t, l, 0, [])) (y' := (w, a, t, l, us, v)) hbd rfl hD' (RulC_last hR rfl (by rw [fr _ (by omega) (by omega) (by omega)]) ?_ ?_ (fun q h1 h2 r hr => ?_) (fr _ (by omega) (by omega) (by omega)) (fun j hj => ⟨by rw [fr _ (by omega) (by omega) (by omega)], by rw [fr _ (by omega) (by omega) (by omega)]⟩) (fr _ (by omega) (by omega) (by omega)) (by rw [fr _ (by omega) (by omega) (by omega)]) ⟨?_, ?_, ?_, ?_, ?_, ?_, ?_, ?_, ?_⟩) (fun j hj => fr j (by omega) (by omega) (by omega))
    · rw [fr _ (by omega) (by omega) (by omega), tkA_app]; have := hR.2.2.1; rw [tkA_app] at this; exact this
    · rw [tkA_app]; have := hR.2.2.2.1; rw [tkA_app] at this; exact this
    · rw [em, e120, e109, up2_nk hr, up2_nk hr, up2_nk hr]
    · rw [fr _ (by omega) (by omega) (by omega)]; exact a1
    · rw [fr _ (by omega) (by omega) (by omega)]; exact a2
    · rw [fr _ (by omega) (by omega) (by omega)]; exact a3
    · rw [fr _ (by omega) (by omega) (by omega), et]; rw [et] at a4; exact a4
    · rw [fr _ (by omega) (by omega) (by omega)]; exact a5
    · rw [et] at a6 ⊢; rw [fr (b + 30) (by omega) (by omega) (by omega), fr (b + 31) (by omega) (by omega) (by omega)]; exact a6
    · rw [em, e120, e109]; simp [up2]
    · rw [fr (b + 41) (by omega) (by omega) (by omega), fr b (by omega) (by omega) (by omega)]
      have e27 : m (b + 27) rs.length = f := by rw [em, e120]; simp [up2]
      have e28 : m (b + 28) rs.length = MI b 14 := by rw [em]; simp [up2]
      rw [e27, e28]; exact hv
    · have := a9
      rw [List.drop_eq_nil_of_le (by simp)] at this ⊢
      rw [fr _ (by omega) (by omega) (by omega)]; exact this
/-- a DEFAULT -/
theorem c_readDefault (hbd : b = 38 ∨ b = 81) {c : Bool} {t : Int} {l : List By} (hc : CurC b T n OI OL h MI ML) (hD : DocC b T n N pl (o, ds, rsC c rs (w, a, t, l, 0, [])) ns op dp MI ML)
    (hT : ∀ us v y, dfS T n (2000 - pl) h = .inr (us, v, y) → ∀ MI', CurC b T n OI OL y MI' ML → DocC b T n N (pl + v.length) (o, ds, rsC c rs (w, a, t, l, us, v)) ns op dp MI' ML → Q (some (vI 1)) (MI', ML, GR d e nw th 1))
    (hF : ∀ f z, dfS T n (2000 - pl) h = .inl (f, z) → ∀ MI', FaiC b OI OL f z MI' ML → Q (some (vI 0)) (MI', ML, GR d e nw th 1)) :
    wp cs mX2_readDefault KD Q 0 (padL [vR 4, vR b, vI (riC c rs)] 5) [] (KD, MI, ML, GR d e nw th 1) := by
  have h0 := hc.2.2.2.2.1
  have hp := hD.2.2.2.2.2.2.1
  have h15 := hD.2.2.2.2.1.2.2.1
  have nov : ∀ {M : Nat → Nat → Int}, 0 ≤ M b 14 → slc (M (b + 41)) (M b 14) (M b 14) (M b 14 - M b 14) [] := fun hm => ⟨hm, by simp, by omega, fun i y hy => by simp at hy⟩
  refine v_X2_readDefault_0 hbd (lx_needSpace hc (fun g hg MI1 c1 m1 => rI_mk ⟨fun z => by omega, fun _ => ?_⟩) (fun f z hg MI1 f1 => rI_mk ⟨fun _ => hF f z (by unfold dfS; rw [hg]; rfl) _ f1, fun z => absurd rfl z⟩))
  have hg1 := msS_lt hg
  have d1 := DocC_mv hbd hD m1
  have eb : MI1 b = MI b := m1 b (by omega)
  rw [eb]
  unfold dfS at hT hF
  rw [hg, pb_r] at hT hF
  refine lx_takeIf (k := 19) (by decide) c1 (fun hs MI2 c2 m2 => rI_mk ⟨fun z => by omega, fun _ => ?_⟩) (fun hs => rI_mk ⟨fun _ => ?_, fun z => absurd rfl z⟩)
  · have s9 : sl 19 = 9 := by decide
    rw [s9] at c2
    rw [if_pos (show stb T n g [35, 82, 69, 81, 85, 73, 82, 69, 68] = true from hs)] at hT
    have eb2 : MI2 b = MI b := (m2 b (by omega)).trans eb
    refine v_X2_readDefault_50 hbd ⟨fun z => by omega, fun _ => c_df_95 hbd (v := []) c2 (DocC_mv hbd d1 m2) ?_ (fun MI3 c3 d3 => hT 1 [] (g + 9) rfl MI3 c3 d3)⟩
    rw [← eb2]; exact nov (by rw [eb2]; omega)
  rw [if_neg (fun z : stb T n g [35, 82, 69, 81, 85, 73, 82, 69, 68] = true => by rw [show sB 19 = [35, 82, 69, 81, 85, 73, 82, 69, 68] from rfl] at hs; rw [hs] at z; cases z)] at hT hF
  refine lx_takeIf (k := 20) (by decide) c1 (fun hs2 MI2 c2 m2 => rI_mk ⟨fun z => by omega, fun _ => ?_⟩) (fun hs2 => rI_mk ⟨fun _ => ?_, fun z => absurd rfl z⟩)
  · have s8 : sl 20 = 8 := by decide
    rw [s8] at c2
    rw [if_pos (show stb T n g [35, 73, 77, 80, 76, 73, 69, 68] = true from hs2)] at hT
    have eb2 : MI2 b = MI b := (m2 b (by omega)).trans eb
    refine v_X2_readDefault_50 hbd ⟨fun z => by omega, fun _ => c_df_95 hbd (v := []) c2 (DocC_mv hbd d1 m2) ?_ (fun MI3 c3 d3 => hT 0 [] (g + 8) rfl MI3 c3 d3)⟩
    rw [← eb2]; exact nov (by rw [eb2]; omega)
  rw [if_neg (fun z : stb T n g [35, 73, 77, 80, 76, 73, 69, 68] = true => by rw [show sB 20 = [35, 73, 77, 80, 76, 73, 69, 68] from rfl] at hs2; rw [hs2] at z; cases z)] at hT hF
  -- a VALUE
  have val : ∀ (MI2 : Nat → Nat → Int) (g2 us : Int), CurC b T n OI OL g2 MI2 ML → mvd MI MI2 → (∀ v y, vlS T n (2000 - pl) g2 = .inr (v, y) → ∀ MI', CurC b T n OI OL y MI' ML → DocC b T n N (pl + v.length) (o, ds, rsC c rs (w, a, t, l, us, v)) ns op dp MI' ML → Q (some (vI 1)) (MI', ML, GR d e nw th 1)) → (∀ f z, vlS T n (2000 - pl) g2 = .inl (f, z) → ∀ MI', FaiC b OI OL f z MI' ML → Q (some (vI 0)) (MI', ML, GR d e nw th 1)) →
      wp cs mX1_takeValue KD (rI (GR d e nw th 1) fun x87 m87 n87 => ((x87 = 0 → Q (some (vI 0)) (m87, n87, (GR d e nw th 1))) ∧ (x87 ≠ 0 → wp cs mX2_readDefault KD Q 95 [some (vR 4), some (vR b), some (vI (riC c rs)), some (vI us), some (vI (MI b 14))] [] (KD, m87, n87, (GR d e nw th 1))))) 0 (padL [vR 2, vR b] 7) [] (KD, MI2, ML, GR d e nw th 1) := by
    intro MI2 g2 us c2 m2 hT2 hF2
    have eb2 : MI2 b = MI b := m2 b (by omega)
    have d2 := DocC_mv hbd hD m2
    refine lx_takeValue hbd (r := 2000 - pl) (by rw [eb2]; omega) (by rw [eb2]; omega) c2 (fun v y hy MI3 c3 v3 => rI_mk ⟨fun z => by omega, fun _ => ?_⟩) (fun f z hy MI3 f3 => rI_mk ⟨fun _ => hF2 f z hy _ f3, fun z => absurd rfl z⟩)
    have hv := vlS_le c2.2.2.2.2.1.1 hy
    have h2 := v3.2.2.2.1
    have h1 := v3.2.2.1
    rw [eb2] at h2 h1
    refine c_df_95 hbd (v := v) c3 (DocC_val hbd d2 v3 (by omega)) ?_ (fun MI4 c4 d4 => hT2 v y hy MI4 c4 d4)
    have : MI3 b 14 - MI b 14 = (v.length : Nat) := by omega
    rw [this]; exact h2
  refine v_X2_readDefault_50 hbd ⟨fun _ => ?_, fun z => absurd rfl z⟩
  refine lx_takeIf (k := 21) (by decide) c1 (fun hs3 MI2 c2 m2 => rI_mk ⟨fun z => by omega, fun _ => ?_⟩) (fun hs3 => rI_mk ⟨fun _ => ?_, fun z => absurd rfl z⟩)
  · have s6 : sl 21 = 6 := by decide
    rw [s6] at c2
    rw [if_pos (show stb T n g [35, 70, 73, 88, 69, 68] = true from hs3)] at hT hF
    refine lx_needSpace c2 (fun y hy MI3 c3 m3 => rI_mk ⟨fun z => by omega, fun _ => ?_⟩) (fun f z hy MI3 f3 => rI_mk ⟨fun _ => hF f z (by rw [hy]; rfl) _ f3, fun z => absurd rfl z⟩)
    rw [hy, pb_r] at hT hF
    exact val MI3 y 2 c3 (mvd_tr m1 (mvd_tr m2 m3)) (fun v z hz => hT 2 v z (by rw [hz]; rfl)) (fun f z hz => hF f z (by rw [hz]; rfl))
  · rw [if_neg (fun z : stb T n g [35, 70, 73, 88, 69, 68] = true => by rw [show sB 21 = [35, 70, 73, 88, 69, 68] from rfl] at hs3; rw [hs3] at z; cases z)] at hT hF
    exact val MI1 g 3 c1 m1 (fun v z hz => hT 3 v z (by rw [hz]; rfl)) (fun f z hz => hF f z (by rw [hz]; rfl))
/-- how many RULES and tokens there can be -/
def RuK (rs : List Rl) (h : Int) : Prop := 8 * (rs.length : Nat) ≤ h ∧ 2 * (tkA rs : Nat) ≤ h
theorem RuK_mono {h' : Int} (hk : RuK rs h) (hh : h ≤ h') : RuK rs h' := ⟨by have := hk.1; omega, by have := hk.2; omega⟩
theorem ruS_le {pl' : Nat} {rs' : List Rl} {y : Int} (h0 : 0 ≤ h) (hy : ruS T n pl rs w h = .inr (pl', rs', y)) : h + 7 ≤ y := by
  unfold ruS at hy
  obtain ⟨g, h1, h2⟩ := pb_inr hy
  have := nmS_ok h1
  split at h2
  · cases h2
  · obtain ⟨q, h3, h4⟩ := pb_inr h2
    obtain ⟨z, h5, h6⟩ := pb_inr h4
    have t1 := tyS_le (show tyS T n g = .inr (q.1, q.2.1, q.2.2) from h3)
    have t2 := dfS_le (by omega) (show dfS T n (2000 - pl) q.2.2 = .inr (z.1, z.2.1, z.2.2) from h5)
    injection h6 with h6
    have := congrArg (fun z => z.2.2) h6
    simp only at this
    omega
theorem c_al_150 (hbd : b = 38 ∨ b = 81) {i j l3 l5 : Int} {g : Int} {c : Bool} (hc : CurC b T n OI OL g MI ML) (hD : DocC b T n N pl (o, ds, rs) ns op dp MI ML) (hi : isId N i w) (hj : isId N j a) (hk : RuK rs (g - 2)) (hl : 0 ≤ l3 ∧ l3 < 10000)
    (hT : ∀ t l y us v z, tyS T n g = .inr (t, l, y) → dfS T n (2000 - pl) y = .inr (us, v, z) → ∀ MI', CurC b T n OI OL z MI' ML → DocC b T n N (pl + v.length) (o, ds, rsC c rs (w, a, t, l, us, v)) ns op dp MI' ML → (c = true → 2 * (tkA rs + l.length : Nat) ≤ z) →
      wp cs mX2_readAttlist KD Q 36 [some (vR 4), some (vR b), some (vI i), some (vI (l3 + 1)), none, none, none, none] [] (KD, MI', ML, GR d e nw th 1))
    (hF : ∀ f z, pb (tyS T n g) (fun q => dfS T n (2000 - pl) q.2.2) = .inl (f, z) → ∀ MI', FaiC b OI OL f z MI' ML → Q (some (vI 0)) (MI', ML, GR d e nw th 1)) :
    wp cs mX2_readAttlist KD Q 150 [some (vR 4), some (vR b), some (vI i), some (vI l3), some (vI j), some (vI l5), some (vI (if c = true then 1 else 0)), none] [] (KD, MI, ML, GR d e nw th 1) := by
  have h0 := hc.2.2.2.2.1
  have hn6 := hc.2.2.1
  have go : ∀ MI1, CurC b T n OI OL g MI1 ML → DocC b T n N pl (o, ds, rsC c rs (w, a, 0, [], 0, [])) ns op dp MI1 ML →
      wp cs mX2_readType KD (rI (GR d e nw th 1) fun x182 m182 n182 => ((x182 = 0 → Q (some (vI 0)) (m182, n182, (GR d e nw th 1))) ∧ (x182 ≠ 0 → wp cs mX2_readDefault KD (rI (GR d e nw th 1) fun x192 m192 n192 => ((x192 = 0 → Q (some (vI 0)) (m192, n192, (GR d e nw th 1))) ∧ (x192 ≠ 0 → (-2147483648 ≤ l3 + 1 ∧ l3 + 1 < 2147483648) ∧ wp cs mX2_readAttlist KD Q 36 [some (vR 4), some (vR b), some (vI i), some (vI (l3 + 1)), none, none, none, none] [] (KD, m192, n192, (GR d e nw th 1))))) 0 (padL [vR 4, vR b, vI (riC c rs)] 5) [] (KD, m182, n182, (GR d e nw th 1))))) 0 (padL [vR 4, vR (b + 20), vI (riC c rs)] 4) [] (KD, MI1, ML, (GR d e nw th 1)) := by
    intro MI1 c1 d1
    refine c_readType hbd c1 d1 (fun _ => by have := hk.2; omega) (fun t l y hy MI2 c2 d2 k2 => rI_mk ⟨fun z => by omega, fun _ => ?_⟩) (fun f z hy MI2 f2 => rI_mk ⟨fun _ => hF f z (by rw [hy]; rfl) _ f2, fun z => absurd rfl z⟩)
    refine c_readDefault hbd c2 d2 (fun us v z hz MI3 c3 d3 => rI_mk ⟨fun z => by omega, fun _ => ⟨by omega, hT t l y us v z hy hz MI3 c3 d3 (fun hcc => ?_)⟩⟩) (fun f z hz MI3 f3 => rI_mk ⟨fun _ => hF f z (by rw [hy, pb_r]; exact hz) _ f3, fun z => absurd rfl z⟩)
    have := k2 hcc
    have := dfS_le c2.2.2.2.2.1.1 hz
    omega
  cases c with
  | false => exact v_X2_readAttlist_150 hbd ⟨fun _ => go MI hc hD, fun z => absurd rfl z⟩
  | true =>
    refine v_X2_readAttlist_150 hbd ⟨fun z => by simp at z, fun _ => ?_⟩
    have hp := hD.2.2.2.2.2.2.1
    refine c_radd (rs := rs) (ds := ds) hbd (by have := hk.1; omega) hD.1 hD.2.1 hD.2.2.2.1 hp.1 hi hj (fun MI1 i1 r1 fr1 => rI_mk (go MI1 ?_ ?_))
    · exact CurC_fr hc hbd (fun i z1 z2 => fr1 i (by omega) (by omega)) (fun _ _ => rfl)
    · have eb : MI1 b = MI b := fr1 b (by omega) (by omega)
      refine ⟨?_, i1, SpcC_fr hD.2.2.1 (fun i h1 h2 => fr1 i (by omega) (by omega)) (fun _ _ _ => rfl), r1, NodC_fr hD.2.2.2.2.1 (fun i h1 h2 => fr1 i (by omega) (by omega)) (by rw [eb]) (by rw [eb]) (by rw [eb]), DtC_fr hD.2.2.2.2.2.1 (by rw [eb]), ?_, ?_⟩
      · have := hD.1
        unfold NamC at *
        rw [fr1 (b + 1) (by omega) (by omega), fr1 (b + 2) (by omega) (by omega), fr1 (b + 5) (by omega) (by omega), fr1 (b + 6) (by omega) (by omega), fr1 (b + 7) (by omega) (by omega), fr1 (b + 8) (by omega) (by omega)]
        exact this
      · rw [eb]; exact hp
      · rw [eb]; exact hD.2.2.2.2.2.2.2
theorem c_al_l (hbd : b = 38 ∨ b = 81) (hby : ∀ k, -128 ≤ T k ∧ T k < 128) : ∀ (k : Nat) (pl : Nat) (rs : List Rl) (h l3 i : Int) (N : List By) (MI ML : Nat → Nat → Int), CurC b T n OI OL h MI ML → DocC b T n N pl (o, ds, rs) ns op dp MI ML → isId N i w → NmK N h → RuK rs h → 0 ≤ l3 ∧ l3 + 1 ≤ h → (n - h).toNat < k →
    (∀ pl' rs' y, rusF T n w k pl rs h = .inr (pl', rs', y) → ∀ N' MI' ML', CurC b T n OI OL y MI' ML' → DocC b T n N' pl' (o, ds, rs') ns op dp MI' ML' → NmK N' y → RuK rs' y → Q (some (vI 1)) (MI', ML', GR d e nw th 1)) →
    (∀ f z, rusF T n w k pl rs h = .inl (f, z) → ∀ MI' ML', FaiC b OI OL f z MI' ML' → Q (some (vI 0)) (MI', ML', GR d e nw th 1)) →
    wp cs mX2_readAttlist KD Q 36 [some (vR 4), some (vR b), some (vI i), some (vI l3), none, none, none, none] [] (KD, MI, ML, GR d e nw th 1) := by
  intro k
  induction k with
  | zero => intro pl rs h l3 i N MI ML _ _ _ _ _ _ hk; omega
  | succ k ih =>
    intro pl rs h l3 i N MI ML hc hD hi hN hR hl hk hT hF
    have h0 := hc.2.2.2.2.1
    have hn := hc.2.1
    have hn6 := hc.2.2.1
    have hs := sk_le T n h
    rw [rusF] at hT hF
    refine v_X2_readAttlist_36 hbd ⟨fun _ => ?_, fun z => by omega⟩
    refine lx_reachesName hc (fun hr MI1 c1 m1 => rI_mk ⟨fun z => by omega, fun _ => ?_⟩) (fun hr MI1 c1 m1 => rI_mk ⟨fun _ => ?_, fun z => absurd rfl z⟩)
    · rw [if_pos hr] at hT hF
      unfold ruS at hT hF
      refine lx_needName c1 (fun g hg MI2 c2 m2 l2 => rI_mk ⟨fun z => by omega, fun _ => ?_⟩) (fun f z hg MI2 f2 => rI_mk ⟨fun _ => hF f z (by rw [hg]; rfl) _ _ f2, fun z => absurd rfl z⟩)
      have hg1 := nmS_ok hg
      rw [hg, pb_r] at hT hF
      refine c_keepD hbd hby c2 l2 (by omega) hg (DocC_mv hbd hD (mvd_tr m1 m2)) (NmK_mono hN (by omega)) (fun N3 j MI3 d3 x3 i3 k3 c3 fr3 => rI_mk ?_)
      have hi3 := extN_id x3 hi
      have hi3l := isId_lt hi3
      have hz3 := d3.1.1
      have e23 : MI3 2 3 = sk T n h := by rw [fr3 2 (by omega)]; exact l2.1
      refine w_X5_ruleOf hbd (by have := d3.1.2.1; omega) (fun _ => rI_mk ?_) (fun q => absurd (by rw [hz3]; exact hi3l) q)
      have e4 : MI3 (b + 4) i.toNat = fIdx (ofN w) rs 0 := (d3.2.1 i.toNat w hi3.2).2
      rw [e4]
      -- behind the type and the default
      have fin : ∀ (c : Bool), hasR rs w (nb T (sk T n h) g) = !c → ¬ (hasR rs w (nb T (sk T n h) g) = false ∧ 10 ≤ cntO rs w) → wp cs mX2_readAttlist KD Q 150 [some (vR 4), some (vR b), some (vI i), some (vI l3), some (vI j), some (vI (fIdx (ofN w) rs 0)), some (vI (if c = true then 1 else 0)), none] [] (KD, MI3, ML, GR d e nw th 1) := by
        intro c hcc hcn
        rw [if_neg hcn] at hT hF
        refine c_al_150 hbd c3 d3 hi3 i3 (RuK_mono hR (by omega)) (by omega) (fun t l y us v z h1 h2 MI4 c4 d4 k4 => ?_) (fun f z hz MI4 f4 => hF f z ?_ _ _ f4)
        · have t1 := tyS_le h1
          have t2 := dfS_le (by omega) h2
          rw [h1, pb_r, h2, pb_r] at hT hF
          have erc : (if hasR rs w (nb T (sk T n h) g) = true then rs else rs ++ [(w, nb T (sk T n h) g, t, l, us, v)]) = rsC c rs (w, nb T (sk T n h) g, t, l, us, v) := by
            rw [hcc]; cases c <;> rfl
          rw [erc, pb_r] at hT hF
          refine ih _ _ z (l3 + 1) i N3 MI4 ML c4 d4 hi3 (NmK_mono k3 (by omega)) ?_ (by omega) (by omega) hT hF
          cases c with
          | false => exact RuK_mono hR (by omega)
          | true =>
            refine ⟨?_, ?_⟩
            · have := hR.1; simp only [rsC, if_true, List.length_append, List.length_singleton]; omega
            · have := k4 rfl; simp only [rsC, if_true, tkA_app]; omega
        · cases h1 : tyS T n g with
          | inl q => rw [h1] at hz; rw [pb_l]; cases hz; rfl
          | inr q =>
            rw [h1, pb_r] at hz
            rw [pb_r, hz]; rfl
      refine c_rfind hbd d3.1.2.2.2.2.2 d3.2.2.2.1 (Or.inl i3) (rI_mk ⟨fun hm => ?_, fun hm => ?_⟩)
      · have hnot := ruI_has.mp hm
        refine v_X2_readAttlist_112 hbd ⟨fun z => by omega, fun _ => ?_⟩
        refine c_chain hbd d3.2.2.2.1 (rI_mk ⟨fun hlt => ?_, fun hge => ?_⟩)
        · exact fin true (by rw [hnot]; rfl) (fun z => by omega)
        · rw [if_pos ⟨hnot, by omega⟩] at hF
          rw [e23]
          exact lx_refuse c3.2.2.2.2.2 (fun MI' hf => rI_mk ⟨Or.inl rfl, hF _ _ rfl _ _ hf⟩)
      · have hhas : hasR rs w (nb T (sk T n h) g) = true := by
          cases hq : hasR rs w (nb T (sk T n h) g) with
          | true => rfl
          | false => exact absurd (ruI_has.mpr hq) hm
        refine v_X2_readAttlist_112 hbd ⟨fun _ => fin false (by rw [hhas]; rfl) (fun z => by rw [hhas] at z; cases z.1), fun z => absurd rfl z⟩
    · rw [if_neg hr] at hT hF
      refine lx_take1 (k := 2) (c := 62) (by decide) rfl c1 (fun y hy MI2 c2 m2 => rI_mk ⟨Or.inr rfl, ?_⟩) (fun f z hy MI2 f2 => rI_mk ⟨Or.inl rfl, hF f z (by rw [hy]; rfl) _ _ f2⟩)
      have := mbS_eq hy
      exact hT pl rs y (by rw [hy]; rfl) N MI2 ML c2 (DocC_mv hbd hD (mvd_tr m1 m2)) (NmK_mono hN (by omega)) (RuK_mono hR (by omega))
/-- what stands behind <!ATTLIST -/
theorem c_readAttlist (hbd : b = 38 ∨ b = 81) (hby : ∀ k, -128 ≤ T k ∧ T k < 128) (hc : CurC b T n OI OL h MI ML) (hD : DocC b T n N pl (o, ds, rs) ns op dp MI ML) (hN : NmK N h) (hR : RuK rs h)
    (hT : ∀ pl' rs' y, alS T n pl rs h = .inr (pl', rs', y) → ∀ N' MI' ML', CurC b T n OI OL y MI' ML' → DocC b T n N' pl' (o, ds, rs') ns op dp MI' ML' → NmK N' y → RuK rs' y → Q (some (vI 1)) (MI', ML', GR d e nw th 1))
    (hF : ∀ f z, alS T n pl rs h = .inl (f, z) → ∀ MI' ML', FaiC b OI OL f z MI' ML' → Q (some (vI 0)) (MI', ML', GR d e nw th 1)) :
    wp cs mX2_readAttlist KD Q 0 (padL [vR 4, vR b] 8) [] (KD, MI, ML, GR d e nw th 1) := by
  have h0 := hc.2.2.2.2.1
  unfold alS at hT hF
  refine v_X2_readAttlist_0 hbd (lx_needSpace hc (fun g hg MI1 c1 m1 => rI_mk ⟨fun z => by omega, fun _ => ?_⟩) (fun f z hg MI1 f1 => rI_mk ⟨fun _ => hF f z (by rw [hg]; rfl) _ _ f1, fun z => absurd rfl z⟩))
  have hg1 := msS_lt hg
  rw [hg, pb_r] at hT hF
  refine lx_needName c1 (fun y hy MI2 c2 m2 l2 => rI_mk ⟨fun z => by omega, fun _ => ?_⟩) (fun f z hy MI2 f2 => rI_mk ⟨fun _ => hF f z (by rw [hy]; rfl) _ _ f2, fun z => absurd rfl z⟩)
  have hy1 := nmS_ok hy
  rw [hy, pb_r] at hT hF
  refine c_keepD hbd hby c2 l2 (by omega) hy (DocC_mv hbd hD (mvd_tr m1 m2)) (NmK_mono hN (by omega)) (fun N3 j MI3 d3 x3 i3 k3 c3 fr3 => rI_mk ?_)
  exact c_al_l hbd hby (n + 1).toNat pl rs y 0 j N3 MI3 ML c3 d3 i3 k3 (RuK_mono hR (by omega)) (by omega) (by omega) hT hF
end P73
