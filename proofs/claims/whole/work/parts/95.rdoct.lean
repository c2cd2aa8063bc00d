/-! The reference's DOCTYPE. -/
theorem stb_hd {T : Nat → Int} {n h b : Int} {l : List Int} (z : stb T n h (b :: l) = true) : ob T n h = b := by
  unfold stb at z
  rw [Bool.and_eq_true] at z
  exact of_decide_eq_true z.1
theorem mcS_eq {T : Nat → Int} {n h : Int} (h0 : 0 ≤ h) (h1 : h ≤ n) : mcS T n h = if stb T n (sk T n h) [60, 33, 45, 45] = true then pb (cmS T n (sk T n h + 4)) (mcS T n) else .inr (sk T n h) := by
  have hk : (n + 1).toNat = n.toNat + 1 := by omega
  have e : ∀ y, mcS T n y = mcF T n (n.toNat + 1) y := fun y => by unfold mcS; rw [hk]
  rw [e h, mcF]
  split
  · cases hc : cmS T n (sk T n h + 4) with
    | inl f => rfl
    | inr y =>
      have := sk_le T n h
      have hy := cmS_le (by omega) hc
      rw [pb_r, e y]
      exact mcF_more T n _ _ y (by omega) (by omega) (by omega)
  · rfl
theorem wbl_ELE : wbl 4332820510389650766 8 = [60, 33, 69, 76, 69, 77, 69, 78] := by decide +kernel
theorem wbl_ATT : wbl 4332816146954471763 8 = [60, 33, 65, 84, 84, 76, 73, 83] := by decide +kernel
theorem wbl_DOC : wbl 4332819423729834320 8 = [60, 33, 68, 79, 67, 84, 89, 80] := by decide +kernel
theorem wbl_T : wbl 84 1 = [84] := by decide +kernel
theorem wbl_E : wbl 69 1 = [69] := by decide +kernel
theorem wbl_CMT : wbl 1008807213 4 = [60, 33, 45, 45] := by decide +kernel
/-- what a DOCTYPE changes -/
def chDt (bk i k : Nat) : Prop := inB bk i k ∧ ((i = 124 ∧ fldR k) ∨ i = 127 ∨ i = 138 ∨ i = 139 ∨ (141 ≤ i ∧ i ≤ 172))
def chDl (bk i k : Nat) : Prop := inB bk i k ∧ ((i = 124 ∧ fldR k) ∨ i = 138 ∨ i = 139 ∨ (143 ≤ i ∧ i ≤ 172))
theorem chDl_fld {bk k : Nat} (h : fldR k) : chDl bk 124 k := ⟨Or.inl ⟨rfl, Or.inl h⟩, Or.inl ⟨rfl, h⟩⟩
theorem chDt_Dl {bk i k : Nat} (h : chDl bk i k) : chDt bk i k := ⟨h.1, by rcases h.2 with w | w; exact Or.inl w; omega⟩
theorem chDt_fld {bk k : Nat} (h : fldR k) : chDt bk 124 k := ⟨Or.inl ⟨rfl, Or.inl h⟩, Or.inl ⟨rfl, h⟩⟩
theorem chDl_Dc {bk i k : Nat} (h : chDc bk i k) : chDl bk i k := ⟨h.1, by rcases h.2 with w | w; exact Or.inl w; omega⟩
theorem chDl_Ru {bk pl i k : Nat} (h : chRu bk pl i k) : chDl bk i k := ⟨h.1, by rcases h.2 with w | w; exact Or.inl w; omega⟩
theorem DecR_fr {bk : Nat} {T : Nat → Int} {n : Int} {ds : List Dc} {MI ML MI' ML' : Nat → Nat → Int} (h : DecR bk T n ds MI ML) (h1 : ∀ i, 143 ≤ i → i ≤ 153 → MI' i = MI i ∧ ML' i = ML i) : DecR bk T n ds MI' ML' :=
  ⟨by rw [(h1 143 (by omega) (by omega)).1]; exact h.1, h.2.1, fun j q hj => DecA_fr (h.2.2 j q hj) (fun i a b _ _ => ⟨by rw [(h1 i (by omega) (by omega)).1], by rw [(h1 i (by omega) (by omega)).2]⟩) (fun i k a _ _ => ⟨by rw [(h1 i (by omega) (by omega)).1], by rw [(h1 i (by omega) (by omega)).2]⟩)⟩
theorem DecR_mvr {bk : Nat} {T : Nat → Int} {n : Int} {ds : List Dc} {MI ML MI' : Nat → Nat → Int} (h : DecR bk T n ds MI ML) (m : mvr MI MI') : DecR bk T n ds MI' ML := DecR_fr h (fun i a b => ⟨m.1 i (by omega), rfl⟩)
theorem StoR_mvr {bk nr : Nat} {ds : List Dc} {MI MI' : Nat → Nat → Int} (h : StoR bk ds nr MI) (m : mvr MI MI') : StoR bk ds nr MI' := StoR_fr h (by rw [m.1 167 (by decide)]) (m.1 166 (by decide))
section P95
variable {cs : Cs} {Q : Option AV → Mm → Prop} {MI ML OI OL : Nat → Nat → Int} {bk d e nw th x pl : Nat} {T : Nat → Int} {n B : Int} {s : PR Int} {rs : List Rl} {ds : List Dc} {o : By}
theorem rx_bad {l1 l2 f q : Int} (hs : StR bk T n OI OL B (.inl (f, q)) MI ML) (hQ : ∀ MI', StR bk T n OI OL B (.inl (f, q)) MI' ML → mvr MI MI' → Q none (MI', ML, GR d e nw th x)) : wp cs mX12_doctype KD Q 73 [some (vR 124), some (vI l1), some (vI l2)] [] (KD, MI, ML, GR d e nw th x) := by
  refine v_X12_doctype_73 (ux_isGood hs (fun _ z => by cases z) (fun f' q' z => rI_mk ⟨fun _ => ?_, fun z => absurd rfl z⟩))
  refine ux_passes hs (fun y MI2 h => by cases h) (fun f' q' MI2 h s2 m2 _ => rI_mk ?_) (by decide)
  cases h
  refine ux_maybeS s2 (fun MI1 s1 m1 _ _ => rV_mk ?_)
  rw [pb_l] at s1
  refine ux_passes s1 (fun y MI3 h => by cases h) (fun f' q' MI3 h s3 m3 _ => rI_mk ?_) (by decide)
  cases h
  exact hQ MI3 s3 (mvr_tr m2 (mvr_tr m1 m3))
theorem c_rdt_l {l1 l2 : Int} (hB : B + 2 ≤ 60000) : ∀ (M k pl : Nat) (ds : List Dc) (rs : List Rl) (h : Int) (MI ML : Nat → Nat → Int), (n + 1 - h).toNat ≤ M → (n + 1 - h).toNat ≤ k → StR bk T n OI OL B (.inr h) MI ML → DecR bk T n ds MI ML → RuRR bk T n pl rs MI → StoR bk ds rs.length MI → (∀ o, cntO rs o ≤ 10) → 8 * ((rs.length : Nat) : Int) ≤ h → MI 139 bk = (pl : Nat) → pl ≤ 2000 →
    (∀ pl' ds' rs' y v MI' ML', (pb (mcS T n h) fun w => dcF T n k pl ds rs w) = .inr (pl', ds', rs', y) → mbS T n (sk T n y) 62 = .inr v → StR bk T n OI OL (B + 2) (.inr v) MI' ML' → DecR bk T n ds' MI' ML' → RuRR bk T n pl' rs' MI' → StoR bk ds' rs'.length MI' → (∀ o, cntO rs' o ≤ 10) → 8 * ((rs'.length : Nat) : Int) ≤ v → MI' 139 bk = (pl' : Nat) → pl' ≤ 2000 → frX (chDl bk) MI ML MI' ML' → Q none (MI', ML', GR d e nw th x)) →
    (∀ f q MI' ML', (pb (pb (mcS T n h) fun w => dcF T n k pl ds rs w) fun q => mbS T n (sk T n q.2.2.2) 62) = .inl (f, q) → StR bk T n OI OL (B + 2) (.inl (f, q)) MI' ML' → frX (chDl bk) MI ML MI' ML' → Q none (MI', ML', GR d e nw th x)) →
    wp cs mX12_doctype KD Q 73 [some (vR 124), some (vI l1), some (vI l2)] [] (KD, MI, ML, GR d e nw th x) := by
  intro M
  induction M with
  | zero =>
    intro k pl ds rs h MI ML hM hk hs
    have := hs.2.2.2.2.2
    omega
  | succ M ih =>
    intro k pl ds rs h MI ML hM hk hs hD hR hS hO hK hp hpl hT hF
    have hn := hs.1.2.2.1
    have hBB := hs.2.1
    obtain ⟨b1, b2, b3, b4, b5⟩ := hs.2.2
    obtain ⟨k, rfl⟩ : ∃ k', k = k' + 1 := ⟨k - 1, by omega⟩
    have fld : ∀ (k : Nat), fldR k → chDl bk 124 k := fun k h => chDl_fld h
    refine v_X12_doctype_73 (ux_isGood hs (fun _ _ => rI_mk ⟨fun z => by omega, fun _ => ?_⟩) (fun f q z => by cases z))
    rw [b1]
    have hm := mcS_eq (T := T) b4 b5
    -- behind S, or a COMMENT
    have again : ∀ (y : Int) (MI1 : Nat → Nat → Int), h < y → mcS T n h = mcS T n y → StR bk T n OI OL B (.inr y) MI1 ML → mvr MI MI1 → wp cs mX12_doctype KD Q 73 [some (vR 124), some (vI l1), some (vI l2)] [] (KD, MI1, ML, GR d e nw th x) := by
      intro y MI1 hy hmy s1 m1
      rw [hmy] at hT hF
      have up : ∀ {MI' ML' : Nat → Nat → Int}, frX (chDl bk) MI1 ML MI' ML' → frX (chDl bk) MI ML MI' ML' := fun hf => frX_tr (frX_mvr fld m1) hf
      exact ih (k + 1) pl ds rs y MI1 ML (by omega) (by omega) s1 (DecR_mvr hD m1) (RuRR_mvr hR m1) (StoR_mvr hS m1) hO (by omega) (by rw [m1.1 139 (by decide)]; exact hp) hpl (fun pl' ds' rs' y v MI' ML' h1 h2 h3 h4 h5 h6 h7 h8 h9 h10 h11 => hT pl' ds' rs' y v MI' ML' h1 h2 h3 h4 h5 h6 h7 h8 h9 h10 (up h11)) (fun f q MI' ML' h1 h2 h3 => hF f q MI' ML' h1 h2 (up h3))
    refine ux_octet hs b4 (rI_mk ⟨fun h93 => ?_, fun h93 => ?_⟩)
    · have hsk : sk T n h = h := by rw [sk_eq2, if_neg (by rw [h93]; unfold isSp; omega)]
      rw [hsk, if_neg (fun z => by have := stb_hd z; omega)] at hm
      rw [hm, pb_r, dcF, if_pos h93] at hT hF
      rw [pb_r] at hF
      refine ux_passes hs (fun y MI1 hy s1 m1 _ => rI_mk ?_) (fun f q MI1 hy => by exfalso; rw [pb_r] at hy; unfold mbS at hy; rw [if_pos h93] at hy; cases hy) (by decide)
      rw [pb_r] at hy
      have hy1 := mbS_eq hy
      rw [hy1.1] at s1
      refine ux_maybeS s1 (fun MI2 s2 m2 _ _ => rV_mk ?_)
      rw [pb_r] at s2
      refine ux_passes s2 (fun v MI3 hv s3 m3 _ => rI_mk ?_) (fun f q MI3 hv s3 m3 _ => rI_mk ?_) (by decide)
      · rw [pb_r] at hv
        have hv1 := mbS_eq hv
        have hs1 := sk_le T n (h + 1)
        have m13 := mvr_tr m1 (mvr_tr m2 m3)
        exact hT pl ds rs (h + 1) v MI3 ML rfl hv (StR_B s3 (by omega)) (DecR_mvr hD m13) (RuRR_mvr hR m13) (StoR_mvr hS m13) hO (by omega) (by rw [m13.1 139 (by decide)]; exact hp) hpl (frX_mvr fld m13)
      · rw [pb_r] at hv
        exact hF f q MI3 ML hv (StR_B s3 (by omega)) (frX_mvr fld (mvr_tr m1 (mvr_tr m2 m3)))
    rw [b1]
    refine ux_octet hs b4 (rI_mk (w_X12_isS (rI_mk ?_)))
    by_cases hsp : isSp (ob T n h)
    · rw [show bI (isSp (ob T n h)) = 1 from if_pos hsp]
      refine ⟨fun z => by omega, fun _ => ux_maybeS hs (fun MI1 s1 m1 _ _ => rV_mk ?_)⟩
      rw [pb_r] at s1
      have h1 : h < sk T n h := by
        have := sk_le T n (h + 1)
        rw [sk_eq2, if_pos hsp]; omega
      have h2 := sk_le T n h
      refine again (sk T n h) MI1 h1 ?_ s1 m1
      rw [mcS_eq b4 b5, mcS_eq (by omega) (h2.2 b5), sk_sk]
    rw [show bI (isSp (ob T n h)) = 0 from if_neg hsp]
    refine ⟨fun _ => ?_, fun z => absurd rfl z⟩
    have hsk : sk T n h = h := by rw [sk_eq2, if_neg hsp]
    rw [hsk] at hm
    refine ux_stands (m := 4) (by decide) hs (fun hC => rI_mk ⟨fun z => by omega, fun _ => ?_⟩) (fun hC => rI_mk ⟨fun _ => ?_, fun z => absurd rfl z⟩)
    · rw [wbl_CMT] at hC
      rw [if_pos hC] at hm
      refine ux_comment hs (fun MI1 s1 m1 => rV_mk ?_)
      cases hc : cmS T n (h + 4) with
      | inl w =>
        obtain ⟨f, q⟩ := w
        rw [hc] at s1 hm
        rw [hm, pb_l, pb_l, pb_l] at hF
        exact rx_bad s1 (fun MI2 s2 m2 => hF f q MI2 ML rfl (StR_B s2 (by omega)) (frX_mvr fld (mvr_tr m1 m2)))
      | inr y =>
        rw [hc] at s1 hm
        have hy := cmS_le (by omega) hc
        exact again y MI1 (by omega) hm s1 m1
    rw [wbl_CMT] at hC
    rw [if_neg (by rw [hC]; decide)] at hm
    rw [hm, pb_r, dcF, if_neg h93] at hT hF
    refine ux_stands2 (m := 1) (by decide) wbl_ELE (by decide) (by decide) hs (fun hE => rI_mk ⟨fun z => by omega, fun _ => ?_⟩) (fun hE => rI_mk ⟨fun _ => ?_, fun z => absurd rfl z⟩)
    · rw [wbl_T] at hE
      have hE' : stb T n h [60, 33, 69, 76, 69, 77, 69, 78, 84] = true := hE
      have hr := stb_room _ h (by omega) (by decide) (by decide) hE'
      simp only [List.length_cons, List.length_nil] at hr
      rw [if_pos hE'] at hT hF
      have hl := hR.2.1
      refine ux_declaration hs (by omega) (by omega) hD hS (fun ds' y MI1 ML1 hy s1 D1 S1 f1 => rV_mk ?_) (fun f q MI1 ML1 hy s1 f1 => rV_mk ?_)
      · have hle := deS_le (by omega) hy
        rw [hy, pb_r] at hT hF
        have fX := frX_mono f1 (fun i k z => chDl_Dc z)
        have up : ∀ {MI' ML' : Nat → Nat → Int}, frX (chDl bk) MI1 ML1 MI' ML' → frX (chDl bk) MI ML MI' ML' := fun hf => frX_tr fX hf
        have rw1 : ∀ i, 154 ≤ i → i ≤ 165 → MI1 i = MI i := fun i h1 h2 => (frX_row f1 (fun k z => by have := z.2; omega)).1
        exact ih k pl ds' rs y MI1 ML1 (by omega) (by omega) s1 D1 (RuRR_fr hR (by rw [rw1 154 (by omega) (by omega)]) (fun i h1 h2 => rw1 i (by omega) h2) (fun k _ => by rw [(frX_row f1 (i := 138) (fun k z => by have := z.2; omega)).1]) (Nat.le_refl _)) S1 hO (by omega) (by rw [(frX_row f1 (i := 139) (fun k z => by have := z.2; omega)).1]; exact hp) hpl (fun pl' ds' rs' y v MI' ML' h1 h2 h3 h4 h5 h6 h7 h8 h9 h10 h11 => hT pl' ds' rs' y v MI' ML' h1 h2 h3 h4 h5 h6 h7 h8 h9 h10 (up h11)) (fun f q MI' ML' h1 h2 h3 => hF f q MI' ML' h1 h2 (up h3))
      · rw [hy, pb_l, pb_l] at hF
        exact rx_bad s1 (fun MI2 s2 m2 => hF f q MI2 ML1 rfl (StR_B s2 (by omega)) (frX_tr (frX_mono f1 (fun i k z => chDl_Dc z)) (frX_mvr fld m2)))
    have hE' : ¬ stb T n h [60, 33, 69, 76, 69, 77, 69, 78, 84] = true := by rw [wbl_T] at hE; intro z; rw [show stb T n h [60, 33, 69, 76, 69, 77, 69, 78, 84] = false from hE] at z; cases z
    rw [if_neg hE'] at hT hF
    refine ux_stands2 (m := 1) (by decide) wbl_ATT (by decide) (by decide) hs (fun hA => rI_mk ⟨fun z => by omega, fun _ => ?_⟩) (fun hA => rI_mk ⟨fun _ => ?_, fun z => absurd rfl z⟩)
    · rw [wbl_T] at hA
      have hA' : stb T n h [60, 33, 65, 84, 84, 76, 73, 83, 84] = true := hA
      have hr := stb_room _ h (by omega) (by decide) (by decide) hA'
      simp only [List.length_cons, List.length_nil] at hr
      rw [if_pos hA'] at hT hF
      refine ux_attributeList (ds := ds) hs hB (by omega) hD.2.1 hR hO hK hp hpl hS (fun pl' rs' y MI1 hy s1 R1 O1 K1 p1 q1 q2 S1 f1 => rV_mk ?_) (fun f q MI1 hy s1 f1 => rV_mk ?_)
      · have hle := alS_le (by omega) hy
        rw [hy, pb_r] at hT hF
        have fX := frX_mono f1 (fun i k z => chDl_Ru z)
        have up : ∀ {MI' ML' : Nat → Nat → Int}, frX (chDl bk) MI1 ML MI' ML' → frX (chDl bk) MI ML MI' ML' := fun hf => frX_tr fX hf
        exact ih k pl' ds rs' y MI1 ML (by omega) (by omega) (StR_Bg s1 hBB) (DecR_fr hD (fun i h1 h2 => frX_row f1 (fun k z => by have := z.2; omega))) R1 S1 O1 K1 p1 q2 (fun pl' ds' rs' y v MI' ML' h1 h2 h3 h4 h5 h6 h7 h8 h9 h10 h11 => hT pl' ds' rs' y v MI' ML' h1 h2 h3 h4 h5 h6 h7 h8 h9 h10 (up h11)) (fun f q MI' ML' h1 h2 h3 => hF f q MI' ML' h1 h2 (up h3))
      · rw [hy, pb_l, pb_l] at hF
        exact rx_bad s1 (fun MI2 s2 m2 => hF f q MI2 ML rfl s2 (frX_tr (frX_mono f1 (fun i k z => chDl_Ru z)) (frX_mvr fld m2)))
    have hA' : ¬ stb T n h [60, 33, 65, 84, 84, 76, 73, 83, 84] = true := by rw [wbl_T] at hA; intro z; rw [show stb T n h [60, 33, 65, 84, 84, 76, 73, 83, 84] = false from hA] at z; cases z
    rw [if_neg hA', pb_l] at hF
    rw [b1]
    refine ux_fail (by decide) hs (fun MI1 s1 m1 => rV_mk ?_)
    exact rx_bad s1 (fun MI2 s2 m2 => hF (-1) h MI2 ML rfl (StR_B s2 (by omega)) (frX_mvr fld (mvr_tr m1 m2)))
def DtR (bk : Nat) (T : Nat → Int) (n : Int) (o : Option By) (MI : Nat → Nat → Int) : Prop := match o with
  | none => MI 127 bk = 0
  | some y => MI 127 bk = 1 ∧ nmR bk T n (MI 141 bk) (MI 142 bk) y
/-- the declarations -/
def DclR (bk : Nat) (T : Nat → Int) (n : Int) (pl : Nat) (D : Dt) (MI ML : Nat → Nat → Int) : Prop := DtR bk T n D.1 MI ∧ DecR bk T n D.2.1 MI ML ∧ RuRR bk T n pl D.2.2 MI ∧ StoR bk D.2.1 D.2.2.length MI
theorem DclR_fr {D : Dt} {pl' : Nat} {MI' ML' : Nat → Nat → Int} (h : DclR bk T n pl D MI ML) (h1 : ∀ i, i = 127 ∨ (141 ≤ i ∧ i ≤ 167) → MI' i = MI i ∧ ML' i = ML i) (h3 : ∀ k : Nat, k < pl → MI' 138 (2000 * bk + k) = MI 138 (2000 * bk + k)) (hp : pl ≤ pl') : DclR bk T n pl' D MI' ML' := by
  refine ⟨?_, DecR_fr h.2.1 (fun i a b => h1 i (by omega)), RuRR_fr h.2.2.1 (by rw [(h1 154 (by omega)).1]) (fun i a b => (h1 i (by omega)).1) h3 hp, StoR_fr h.2.2.2 (by rw [(h1 167 (by omega)).1]) (h1 166 (by omega)).1⟩
  have := h.1
  unfold DtR at this ⊢
  rw [(h1 127 (by omega)).1, (h1 141 (by omega)).1, (h1 142 (by omega)).1]
  exact this
/-- a DOCTYPE, up to its > -/
def dtT (T : Nat → Int) (n h : Int) : PR (Nat × Dt × Int) := pb (msS T n (h + 9)) fun g => pb (nmS T n g) fun y => pb (mbS T n (sk T n y) 91) fun z => pb (mcS T n z) fun w =>
    pb (dcF T n (n + 1).toNat 0 [] [] w) fun q => pb (mbS T n (sk T n q.2.2.2) 62) fun v => .inr (q.1, (some (nb T g y), q.2.1, q.2.2.1), v)
theorem ux_doctype {a : Int} (hs : StR bk T n OI OL B (.inr a) MI ML) (hB : B + 2 ≤ 60000) (h9 : a + 9 ≤ n) (h143 : MI 143 bk = 0) (h154 : MI 154 bk = 0) (h167 : MI 167 bk = 0) (h139 : MI 139 bk = 0)
    (hT : ∀ pl D v MI' ML', dtT T n a = .inr (pl, D, v) → StR bk T n OI OL (B + 2) (.inr v) MI' ML' → DclR bk T n pl D MI' ML' → (∀ o, cntO D.2.2 o ≤ 10) → 8 * ((D.2.2.length : Nat) : Int) ≤ v → MI' 139 bk = (pl : Nat) → pl ≤ 2000 → frX (chDt bk) MI ML MI' ML' → Q none (MI', ML', GR d e nw th x))
    (hF : ∀ f q MI' ML', dtT T n a = .inl (f, q) → StR bk T n OI OL (B + 2) (.inl (f, q)) MI' ML' → frX (chDt bk) MI ML MI' ML' → Q none (MI', ML', GR d e nw th x)) :
    wp cs mX12_doctype KD Q 0 (padL [vR 124] 3) [] (KD, MI, ML, GR d e nw th x) := by
  have a5 := hs.1.2.2.2.2.1
  have hn := hs.1.2.2.1
  have hBB := hs.2.1
  obtain ⟨b1, b2, b3, b4, b5⟩ := hs.2.2
  have e8 : MI 124 8 = (bk : Int) := hs.1.2.2.2.1
  have fld : ∀ (k : Nat), fldR k → chDt bk 124 k := fun k h => chDt_fld h
  have c1 : ∀ i, (i = 127 ∨ i = 141 ∨ i = 142) → chDt bk i bk := fun i h => ⟨Or.inr (Or.inr ⟨by omega, by omega, by omega, by
    have : wR i = 1 := by unfold wR; rcases h with z | z | z <;> subst z <;> decide
    rw [this]; omega⟩), by omega⟩
  unfold dtT at hT hF
  refine v_X12_doctype_0 ?_
  rw [e8]
  simp only [Int.toNat_natCast]
  refine ⟨by omega, fun m9 e9 => ?_⟩
  have r9 : ∀ i, i ≠ 127 → m9 i = MI i := fun i hi => by rw [e9]; funext k; exact up2_ne hi k
  have f9 : frX (chDt bk) MI ML m9 ML := by rw [e9]; exact frX_upI (c1 127 (by omega))
  have s0 := StR_frX (fun i k z => z.1) hs f9 (by rw [r9 124 (by decide)]) (by rw [r9 124 (by decide)]) (by rw [r9 124 (by decide)])
  rw [r9 124 (by decide), b1]
  refine ⟨by omega, fun m18 e18 => ?_⟩
  obtain ⟨s1, m1⟩ := StR_at s0 e18 (by omega)
  refine ux_mustS s1 (fun MI2 s2 m2 _ => rV_mk ?_)
  rw [pb_r] at s2
  have step : ∀ (X : Int) (MI3 : Nat → Nat → Int) (s3 : PR Int), StR bk T n OI OL B s3 MI3 ML → mvr m9 MI3 → 0 ≤ X ∧ X ≤ 60000 → (∀ m61 : Nat → Nat → Int, StR bk T n OI OL B s3 m61 ML → frX (chDt bk) MI ML m61 ML → (∀ i, i ≠ 127 → i ≠ 141 → i ≠ 142 → m61 i = MI3 i) → m61 127 bk = 1 → m61 141 bk = 6000 * (bk : Int) + X → m61 142 bk = MI3 124 51 → wp cs mX12_maybeS KD (rV (GR d e nw th x) fun m63 n63 => wp cs mX12_passes KD (rI (GR d e nw th x) fun x69 m69 n69 => wp cs mX12_doctype KD Q 73 [some (vR 124), some (vI X), some (vI x69)] [] (KD, m69, n69, (GR d e nw th x))) 0 (padL [vR 124, vI 91] 2) [] (KD, m63, n63, (GR d e nw th x))) 0 (padL [vR 124] 1) [] (KD, m61, ML, (GR d e nw th x))) →
      (-2147483648 ≤ 6000 * (MI3 124 8) ∧ 6000 * (MI3 124 8) < 2147483648) ∧ (-2147483648 ≤ (6000 * (MI3 124 8)) + X ∧ (6000 * (MI3 124 8)) + X < 2147483648) ∧ (0 ≤ (MI3 124 8) ∧ (MI3 124 8) < 2) ∧ ∀ m48, m48 = up2 MI3 141 (MI3 124 8).toNat ((6000 * (MI3 124 8)) + X) → (0 ≤ (m48 124 8) ∧ (m48 124 8) < 2) ∧ ∀ m61, m61 = up2 m48 142 (m48 124 8).toNat (m48 124 51) → wp cs mX12_maybeS KD (rV (GR d e nw th x) fun m63 n63 => wp cs mX12_passes KD (rI (GR d e nw th x) fun x69 m69 n69 => wp cs mX12_doctype KD Q 73 [some (vR 124), some (vI X), some (vI x69)] [] (KD, m69, n69, (GR d e nw th x))) 0 (padL [vR 124, vI 91] 2) [] (KD, m63, n63, (GR d e nw th x))) 0 (padL [vR 124] 1) [] (KD, m61, ML, (GR d e nw th x)) := by
    intro X MI3 s3 h3 m3 hX go
    have k8 : MI3 124 8 = (bk : Int) := h3.1.2.2.2.1
    rw [k8]
    simp only [Int.toNat_natCast]
    refine ⟨by omega, by omega, by omega, fun m48 e48 => ?_⟩
    have j8 : m48 124 8 = (bk : Int) := by rw [e48, up2_ne (by decide)]; exact k8
    rw [j8]
    simp only [Int.toNat_natCast]
    refine ⟨by omega, fun m61 e61 => ?_⟩
    have fX : frX (chDt bk) MI3 ML m61 ML := by rw [e61, e48]; exact frX_tr (frX_upI (c1 141 (by omega))) (frX_upI (c1 142 (by omega)))
    have r : ∀ i, i ≠ 141 → i ≠ 142 → m61 i = MI3 i := fun i h1 h2 => by rw [e61, e48]; funext k; rw [up2_ne h2, up2_ne h1]
    have r1 := r 124 (by decide) (by decide)
    refine go m61 (StR_frX (fun i k z => z.1) h3 fX (by rw [r1]) (by rw [r1]) (by rw [r1])) (frX_tr f9 (frX_tr (frX_mvr fld m3) fX)) (fun i h1 h2 h3 => r i h2 h3) ?_ ?_ ?_
    · rw [r 127 (by decide) (by decide), m3.1 127 (by decide), e9, up2_eq]
    · rw [e61, up2_ne (by decide), e48, up2_eq]
    · rw [e61, up2_eq, e48, up2_ne (by decide)]
  refine ux_takeName s2 (fun g y MI3 hg hy s3 m3 e51 => rI_mk ?_) (fun f q g MI3 hy hg s3 m3 => rI_mk ?_)
  · have hy1 := nmS_ok hy
    have hg1 := msS_lt hg
    rw [hg, pb_r, hy, pb_r] at hT hF
    have m13 := mvr_tr m1 (mvr_tr m2 m3)
    refine step g MI3 _ s3 m13 (by omega) (fun m61 s4 f4 r4 k127 k141 k142 => ?_)
    refine ux_maybeS s4 (fun MI5 s5 m5 _ _ => rV_mk ?_)
    rw [pb_r] at s5
    refine ux_passes s5 (fun z MI6 hz s6 m6 _ => rI_mk ?_) (fun f q MI6 hz s6 m6 _ => rI_mk ?_) (by decide)
    · rw [pb_r] at hz
      have hz1 := mbS_eq hz
      have hk1 := sk_le T n y
      rw [hz, pb_r] at hT hF
      have m56 := mvr_tr m5 m6
      have z0 : ∀ i, i ≠ 124 → i ≠ 127 → i ≠ 141 → i ≠ 142 → MI6 i = MI i := fun i h1 h2 h3 h4 => by rw [m56.1 i h1, r4 i h2 h3 h4, m13.1 i h1, r9 i h2]
      have f6 : frX (chDt bk) MI ML MI6 ML := frX_tr f4 (frX_mvr fld m56)
      refine c_rdt_l hB (n + 1).toNat (n + 1).toNat 0 [] [] z MI6 ML (by omega) (by omega) s6 ⟨by rw [z0 143 (by decide) (by decide) (by decide) (by decide)]; exact h143, by simp, fun j q hj => by simp at hj⟩ ⟨by rw [z0 154 (by decide) (by decide) (by decide) (by decide)]; exact h154, by simp, fun j q hj => by simp at hj⟩ ⟨by rw [z0 167 (by decide) (by decide) (by decide) (by decide)]; exact h167, fun j q hj => by simp at hj, fun r hr => by simp at hr⟩ (fun o => by simp [cntO]) (by simp; omega) (by rw [z0 139 (by decide) (by decide) (by decide) (by decide)]; exact h139) (by omega) (fun pl' ds' rs' y' v MI' ML' h1 h2 h3 h4 h5 h6 h7 h8 h9' h10 h11 => ?_) (fun f q MI' ML' h1 h2 h3 => ?_)
      · have rD : ∀ i, (i = 127 ∨ i = 141 ∨ i = 142) → MI' i = MI6 i := fun i hi => (frX_row h11 (fun k z => by have := z.2; omega)).1
        refine hT pl' (some (nb T g y), ds', rs') v MI' ML' ?_ h3 ⟨⟨?_, ?_⟩, h4, h5, h6⟩ h7 h8 h9' h10 (frX_tr f6 (frX_mono h11 (fun i k z => chDt_Dl z)))
        · cases hm : mcS T n z with
          | inl w => rw [hm] at h1; cases h1
          | inr w =>
            rw [hm, pb_r] at h1
            rw [pb_r, h1, pb_r]
            show pb (mbS T n (sk T n y') 62) _ = _
            rw [h2]; rfl
        · rw [rD 127 (by omega), m56.1 127 (by decide)]; exact k127
        · rw [rD 141 (by omega), rD 142 (by omega), m56.1 141 (by decide), m56.1 142 (by decide), k141, k142, e51]
          unfold nmR
          rw [show 6000 * (bk : Int) + g - 6000 * (bk : Int) = g by omega]
          exact slc_nb (by omega) (by omega) (by omega)
      · refine hF f q MI' ML' ?_ h2 (frX_tr f6 (frX_mono h3 (fun i k z => chDt_Dl z)))
        cases hm : mcS T n z with
        | inl w => rw [hm] at h1; cases h1; rfl
        | inr w =>
          rw [hm, pb_r] at h1
          rw [pb_r]
          cases hd : dcF T n (n + 1).toNat 0 [] [] w with
          | inl w2 => rw [hd] at h1; cases h1; rfl
          | inr w2 =>
            rw [hd, pb_r] at h1
            rw [pb_r, h1]; rfl
    · rw [pb_r] at hz
      exact rx_bad s6 (fun MI7 s7 m7 => hF f q MI7 ML (by rw [hz]; rfl) (StR_B s7 (by omega)) (frX_tr f4 (frX_mvr fld (mvr_tr m5 (mvr_tr m6 m7)))))
  · have hfp : ∀ (G : Int → Int → PR (Nat × Dt × Int)), (pb (msS T n (a + 9)) fun g => pb (nmS T n g) fun y => G g y) = .inl (f, q) := by
      intro G
      cases hm : msS T n (a + 9) with
      | inl w => rw [hm] at hy; cases hy; rfl
      | inr g0 =>
        rw [hm, pb_r] at hy
        rw [pb_r, hy]; rfl
    refine step g MI3 _ s3 (mvr_tr m1 (mvr_tr m2 m3)) hg (fun m61 s4 f4 r4 k127 k141 k142 => ?_)
    refine ux_maybeS s4 (fun MI5 s5 m5 _ _ => rV_mk ?_)
    rw [pb_l] at s5
    refine ux_passes s5 (fun z MI6 hz => by cases hz) (fun f' q' MI6 hz s6 m6 _ => rI_mk ?_) (by decide)
    cases hz
    exact rx_bad s6 (fun MI7 s7 m7 => hF f q MI7 ML (hfp _) (StR_B s7 (by omega)) (frX_tr f4 (frX_mvr fld (mvr_tr m5 (mvr_tr m6 m7)))))
end P95
