section P85
variable {cs : Cs} {Q : Option AV → Mm → Prop} {MI ML OI OL : Nat → Nat → Int} {bk d e nw th x : Nat} {T : Nat → Int} {n B : Int} {s : PR Int}
/-- at + 1, in any state -/
theorem StR_inc {m : Nat → Nat → Int} {y : Int} (hs : StR bk T n OI OL B s MI ML) (hB : B + 1 ≤ 60000) (em : m = up2 MI 124 4 (MI 124 4 + 1)) (hg : ∀ a, s = .inr a → a < n) : StR bk T n OI OL (B + 1) (pb s fun a => .inr (a + 1)) m ML ∧ mvr MI m := by
  have hm : mvr MI m := by rw [em]; exact ⟨fun i hi => funext fun k => up2_ne hi k, fun k h1 _ _ _ _ => up2_nk h1 _⟩
  have f : ∀ k, k ≠ 4 → m 124 k = MI 124 k := fun k hk => by rw [em]; exact up2_nk hk _
  have f4 : m 124 4 = MI 124 4 + 1 := by rw [em]; exact up2_eq
  refine ⟨⟨BasR_mvr hs.1 hm, by have := hs.2.1; omega, ?_⟩, hm⟩
  rcases s with ⟨g, p⟩ | a
  · obtain ⟨b1, b2, b3, b4, b5⟩ := hs.2.2
    exact ⟨by rw [f 5 (by decide)]; exact b1, b2, by rw [f 6 (by decide)]; exact b3, by rw [f4]; omega, by rw [f4]; omega⟩
  · obtain ⟨b1, b2, b3, b4, b5⟩ := hs.2.2
    have := hg a rfl
    exact ⟨by rw [f4, b1], by rw [f 5 (by decide)]; exact b2, by rw [f 6 (by decide)]; exact b3, by omega, by omega⟩
theorem StR_B {B' : Int} (hs : StR bk T n OI OL B s MI ML) (hB : B ≤ B' ∧ B' ≤ 60000) : StR bk T n OI OL B' s MI ML := by
  refine ⟨hs.1, by have := hs.2.1; omega, ?_⟩
  rcases s with ⟨g, p⟩ | a
  · obtain ⟨b1, b2, b3, b4, b5⟩ := hs.2.2
    exact ⟨b1, b2, b3, b4, by omega⟩
  · exact hs.2.2
/-- behind the loop of value() -/
theorem c_value_166 {q : Int} {pl plc : Nat} (hs : StR bk T n OI OL B s MI ML) (hB : B + 1 ≤ 60000) (hp : MI 139 bk = (plc : Nat)) (hpl : plc ≤ 2000) (hle : pl ≤ plc) (hg : ∀ a, s = .inr a → a < n)
    (hQ : ∀ MI', StR bk T n OI OL (B + 1) (pb s fun a => .inr (a + 1)) MI' ML → mvr MI MI' → MI' 124 51 = (plc : Int) - pl → Q (some (vI (2000 * (bk : Int) + pl))) (MI', ML, GR d e nw th x)) :
    wp cs mX12_value KD Q 166 [some (vR 124), some (vI q), some (vI (2000 * (bk : Int) + (pl : Nat))), none, none] [] (KD, MI, ML, GR d e nw th x) := by
  have ha : 0 ≤ MI 124 4 ∧ MI 124 4 ≤ 60000 := by
    have hB' := hs.2.1
    have h3 := hs.1.2.2.1
    rcases s with ⟨g, p⟩ | a
    · have := hs.2.2; omega
    · have := hs.2.2; omega
  have a4 := hs.1.2.2.2.1
  have a5 := hs.1.2.2.2.2.1
  refine v_X12_value_166 ⟨by omega, ?_⟩
  intro m em
  obtain ⟨s2, m2⟩ := StR_inc (y := 0) hs hB em hg
  have e8 : m 124 8 = (bk : Int) := s2.1.2.2.2.1
  have e139 : m 139 bk = (plc : Nat) := by rw [m2.1 139 (by decide)]; exact hp
  rw [e8]
  simp only [Int.toNat_natCast]
  rw [e139]
  refine ⟨by omega, by omega, by omega, by omega, ?_⟩
  intro m' em'
  have hm' : mvr m m' := by rw [em']; exact ⟨fun i hi => funext fun k => up2_ne hi k, fun k _ _ _ h1 _ => up2_nk h1 _⟩
  refine hQ m' ⟨BasR_mvr s2.1 hm', s2.2.1, ?_⟩ (mvr_tr m2 hm') (by rw [em', up2_eq]; omega)
  have f : ∀ k, k ≠ 51 → m' 124 k = m 124 k := fun k hk => by rw [em']; exact up2_nk hk _
  have := s2.2.2
  rcases s with ⟨g, p⟩ | a
  · simp only [pb_l] at this ⊢
    rw [f 5 (by decide), f 6 (by decide), f 4 (by decide)]; exact this
  · simp only [pb_r] at this ⊢
    rw [f 5 (by decide), f 6 (by decide), f 4 (by decide)]; exact this
theorem c_value_l {q : Int} {pl : Nat} (hB : B + 1 ≤ 60000) (hq : q = 34 ∨ q = 39) {MI0 : Nat → Nat → Int} : ∀ (k : Nat) (l0 : By) (h : Int) (MI : Nat → Nat → Int), StR bk T n OI OL B (.inr h) MI ML → valR bk pl MI0 MI → MI 139 bk = (pl : Nat) + (l0.length : Nat) → pl + l0.length ≤ 2000 → poR bk MI ((pl : Nat) + (l0.length : Nat)) (2000 * (bk : Int) + (pl : Nat)) (l0.length : Nat) l0 → (n - h).toNat < k →
    (∀ l y MI', vlF T n q k (2000 - (pl + l0.length)) h = .inr (l, y) → StR bk T n OI OL (B + 1) (.inr y) MI' ML → valR bk pl MI0 MI' → MI' 139 bk = (pl : Nat) + ((l0 ++ l).length : Nat) → MI' 124 51 = ((l0 ++ l).length : Nat) → poR bk MI' ((pl : Nat) + ((l0 ++ l).length : Nat)) (2000 * (bk : Int) + (pl : Nat)) ((l0 ++ l).length : Nat) (l0 ++ l) → Q (some (vI (2000 * (bk : Int) + pl))) (MI', ML, GR d e nw th x)) →
    (∀ f p MI', vlF T n q k (2000 - (pl + l0.length)) h = .inl (f, p) → StR bk T n OI OL (B + 1) (.inl (f, p)) MI' ML → valR bk pl MI0 MI' → (pl : Int) ≤ MI' 139 bk ∧ MI' 139 bk ≤ 2000 → Q (some (vI (2000 * (bk : Int) + pl))) (MI', ML, GR d e nw th x)) →
    wp cs mX12_value KD Q 66 [some (vR 124), some (vI q), some (vI (2000 * (bk : Int) + (pl : Nat))), none, none] [] (KD, MI, ML, GR d e nw th x) := by
  intro k
  induction k with
  | zero => intro l0 h MI hs hv hp hpl hpo hk; omega
  | succ k ih =>
    intro l0 h MI hs hv hp hpl hpo hk hT hF
    have h4 : MI 124 4 = h := hs.2.2.1
    have hh := hs.2.2.2.2.2
    have a5 := hs.1.2.2.2.2.1
    rw [vlF] at hT hF
    -- a bad end
    have bad : ∀ (f p : Int) (MI1 : Nat → Nat → Int), StR bk T n OI OL B (.inl (f, p)) MI1 ML → mvr MI MI1 → (∀ MI', StR bk T n OI OL (B + 1) (.inl (f, p)) MI' ML → valR bk pl MI0 MI' → (pl : Int) ≤ MI' 139 bk ∧ MI' 139 bk ≤ 2000 → Q (some (vI (2000 * (bk : Int) + pl))) (MI', ML, GR d e nw th x)) →
        wp cs mX12_value KD Q 66 [some (vR 124), some (vI q), some (vI (2000 * (bk : Int) + (pl : Nat))), none, none] [] (KD, MI1, ML, GR d e nw th x) := by
      intro f p MI1 s1 m1 hq1
      have e139 : MI1 139 bk = ((pl + l0.length : Nat) : Int) := by rw [m1.1 139 (by decide), hp]; omega
      refine v_X12_value_66 (ux_isGood s1 (fun a z => by cases z) (fun f' p' z => rI_mk ⟨fun _ => ?_, fun z => absurd rfl z⟩))
      refine c_value_166 s1 hB e139 hpl (by omega) (fun a z => by cases z) (fun MI' s2 m2 e2 => ?_)
      refine hq1 MI' s2 (valR_tr hv (valR_mvr (pl := pl) (mvr_tr m1 m2)) (Nat.le_refl _)) ?_
      rw [m2.1 139 (by decide), e139]; omega
    refine v_X12_value_66 (ux_isGood hs (fun a z => rI_mk ⟨fun z => by omega, fun _ => ?_⟩) (fun f p z => by cases z))
    rw [h4]
    refine ux_octet hs hh.1 (rI_mk ⟨fun he => ?_, fun he => ?_⟩)
    · rw [if_pos he] at hT
      have hlt := ob_lt (c := q) (by omega) he
      refine c_value_166 hs hB (plc := pl + l0.length) (by rw [hp]; omega) hpl (by omega) (fun a z => by cases z; exact hlt) (fun MI' s2 m2 e2 => ?_)
      refine hT [] (h + 1) MI' rfl s2 (valR_tr hv (valR_mvr (pl := pl) m2) (Nat.le_refl _)) ?_ ?_ ?_
      · rw [m2.1 139 (by decide), hp]; simp
      · rw [e2]; simp; omega
      · rw [List.append_nil]; unfold poR; rw [m2.1 138 (by decide)]; exact hpo
    · rw [if_neg he] at hT hF
      rw [h4]
      refine ux_octet hs hh.1 (rI_mk ⟨fun h60 => ?_, fun h60 => ?_⟩)
      · rw [if_pos h60] at hF
        refine ux_fail (by decide) hs (fun MI1 s1 m1 => rV_mk (ux_isGood s1 (fun a z => by cases z) (fun f p z => rI_mk ⟨fun _ => ?_, fun z => absurd rfl z⟩)))
        refine v_X12_value_127 (ux_isGood s1 (fun a z => by cases z) (fun f p z => rI_mk ⟨fun _ => ?_, fun z => absurd rfl z⟩))
        rw [h4] at s1
        exact bad (-1) h MI1 s1 m1 (fun MI' s2 v2 => hF (-1) h MI' rfl s2 v2)
      · rw [if_neg h60] at hT hF
        refine ux_isGood hs (fun a z => rI_mk ⟨fun z => by omega, fun _ => ?_⟩) (fun f p z => by cases z)
        refine ux_takePiece hs (fun c y MI1 hy s1 m1 b1 => rI_mk ?_) (fun f p MI1 hy s1 m1 => rI_mk ?_)
        · have hpc := pcS_ok hh.1 hy
          rw [hy] at hT hF
          simp only at hT hF
          have e139 : MI1 139 bk = ((pl + l0.length : Nat) : Int) := by rw [m1.1 139 (by decide), hp]; omega
          have po1 : poR bk MI1 ((pl : Nat) + (l0.length : Nat)) (2000 * (bk : Int) + (pl : Nat)) (l0.length : Nat) l0 := by unfold poR; rw [m1.1 138 (by decide)]; exact hpo
          -- the byte that is kept
          have kp : ∀ v : Int, v = (if isSp (ob T n h) then 32 else c) → wp cs mX12_keep KD (rV (GR d e nw th x) fun m160 n160 => wp cs mX12_value KD Q 66 [some (vR 124), some (vI q), some (vI (2000 * (bk : Int) + (pl : Nat))), none, none] [] (KD, m160, n160, (GR d e nw th x))) 0 (padL [vR 124, vI v, vI h] 3) [] (KD, MI1, ML, (GR d e nw th x)) := by
            intro v ev
            have hvr : -128 ≤ v ∧ v < 128 := by rw [ev]; split <;> omega
            refine ux_keep s1 e139 hpl hvr (fun hlt MI2 s2 v2 p2 b2 o2 e2 => rV_mk ?_) (fun hge MI2 s2 m2 => rV_mk ?_)
            · have hr : ¬ (2000 - (pl + l0.length) = 0) := by omega
              rw [if_neg hr] at hT hF
              have hl1 : (l0 ++ [v]).length = l0.length + 1 := by simp
              have po2 : poR bk MI2 ((pl : Nat) + ((l0 ++ [v]).length : Nat)) (2000 * (bk : Int) + (pl : Nat)) ((l0 ++ [v]).length : Nat) (l0 ++ [v]) := by
                have g := poR_grow (P' := (pl : Nat) + ((l0 ++ [v]).length : Nat)) po1 (MI' := MI2) (fun k hk => o2 _ (by omega)) (by rw [hl1]; omega)
                refine ⟨g.1, rfl, by rw [hl1]; omega, fun i y hy => ?_⟩
                rcases last_of hy with ⟨hi, hy⟩ | ⟨rfl, rfl⟩
                · exact g.2.2.2 i y hy
                · have : (2000 * (bk : Int) + (pl : Nat) - 2000 * (bk : Int)).toNat + l0.length = pl + l0.length := by omega
                  simp only
                  rw [this]; exact b2
              have e1 : 2000 - (pl + l0.length) - 1 = 2000 - (pl + (l0 ++ [v]).length) := by rw [hl1]; omega
              rw [e1] at hT hF
              refine ih (l0 ++ [v]) y MI2 s2 (valR_tr hv (valR_tr (valR_mvr (pl := pl) m1) v2 (by omega)) (Nat.le_refl _)) (by rw [p2, hl1]; omega) (by rw [hl1]; omega) po2 (by omega) (fun l z MI' hz s' v' p' e' o' => ?_) (fun f p MI' hz => hF f p MI' (by rw [hz]))
              have ea : l0 ++ [v] ++ l = l0 ++ (v :: l) := by simp
              rw [ea] at p' e' o'
              exact hT (v :: l) z MI' (by rw [hz, ev]) s' v' p' e' o'
            · rw [if_pos (by omega)] at hF
              refine bad (-3) h MI2 s2 (mvr_tr m1 m2) (fun MI' s3 v3 => hF (-3) h MI' rfl s3 v3)
          refine v_X12_value_127 (ux_isGood s1 (fun a z => rI_mk ⟨fun z => by omega, fun _ => ?_⟩) (fun f p z => by cases z))
          rw [b1]
          by_cases h38 : ob T n h = 38
          · rw [show bI (ob T n h = 38) = 1 from if_pos h38]
            exact ⟨fun z => by omega, fun _ => kp c (by rw [if_neg (by omega)])⟩
          · rw [show bI (ob T n h = 38) = 0 from if_neg h38]
            have hco := pcS_raw hy h38
            refine ⟨fun _ => w_X12_isS (rI_mk ⟨fun zs => kp c ?_, fun zs => kp 32 ?_⟩), fun z => absurd rfl z⟩
            · rw [← hco, if_neg (fun qq => by rw [show bI (isSp c) = 1 from if_pos qq] at zs; omega)]
            · rw [← hco, if_pos (Classical.byContradiction fun qq => zs (if_neg qq))]
        · rw [hy] at hF
          refine v_X12_value_127 (ux_isGood s1 (fun a z => by cases z) (fun f' p' z => rI_mk ⟨fun _ => ?_, fun z => absurd rfl z⟩))
          exact bad f p MI1 s1 m1 (fun MI' s2 v2 => hF f p MI' rfl s2 v2)
/-- a VALUE, in any state -/
theorem ux_value {pl : Nat} (hs : StR bk T n OI OL B s MI ML) (hB : B + 2 ≤ 60000) (hp : MI 139 bk = (pl : Nat)) (hpl : pl ≤ 2000)
    (hT : ∀ l y MI', (pb s fun a => vlS T n (2000 - pl) a) = .inr (l, y) → StR bk T n OI OL (B + 2) (.inr y) MI' ML → valR bk pl MI MI' → MI' 139 bk = (pl : Nat) + (l.length : Nat) → MI' 124 51 = (l.length : Nat) → poR bk MI' ((pl : Nat) + (l.length : Nat)) (2000 * (bk : Int) + (pl : Nat)) (l.length : Nat) l → Q (some (vI (2000 * (bk : Int) + pl))) (MI', ML, GR d e nw th x))
    (hF : ∀ f p MI', (pb s fun a => vlS T n (2000 - pl) a) = .inl (f, p) → StR bk T n OI OL (B + 2) (.inl (f, p)) MI' ML → valR bk pl MI MI' → (pl : Int) ≤ MI' 139 bk ∧ MI' 139 bk ≤ 2000 → Q (some (vI (2000 * (bk : Int) + pl))) (MI', ML, GR d e nw th x)) :
    wp cs mX12_value KD Q 0 (padL [vR 124] 5) [] (KD, MI, ML, GR d e nw th x) := by
  have ha : 0 ≤ MI 124 4 ∧ MI 124 4 ≤ 60000 := by
    have hB' := hs.2.1
    have h3 := hs.1.2.2.1
    rcases s with ⟨g, p⟩ | a
    · have := hs.2.2; omega
    · have := hs.2.2; omega
  have a5 := hs.1.2.2.2.2.1
  -- behind the quote
  have go : ∀ (MI1 : Nat → Nat → Int) (s1 : PR Int) (q : Int), StR bk T n OI OL B s1 MI1 ML → mvr MI MI1 → 0 ≤ MI1 124 4 ∧ MI1 124 4 ≤ 60000 → (∀ a, s1 = .inr a → a < n) →
      (∀ m, StR bk T n OI OL (B + 1) (pb s1 fun a => .inr (a + 1)) m ML → mvr MI m → wp cs mX12_value KD Q 66 [some (vR 124), some (vI q), some (vI (2000 * (bk : Int) + (pl : Nat))), none, none] [] (KD, m, ML, GR d e nw th x)) →
      wp cs mX12_value KD Q 37 [some (vR 124), some (vI q), none, none, none] [] (KD, MI1, ML, GR d e nw th x) := by
    intro MI1 s1 q st1 m1 ha1 hg hgo
    refine v_X12_value_37 ⟨by omega, ?_⟩
    intro m em
    obtain ⟨st2, m2⟩ := StR_inc (y := 0) st1 (by omega) em hg
    have e8 : m 124 8 = (bk : Int) := st2.1.2.2.2.1
    have e139 : m 139 bk = (pl : Nat) := by rw [m2.1 139 (by decide), m1.1 139 (by decide)]; exact hp
    rw [e8]
    simp only [Int.toNat_natCast]
    rw [e139]
    exact ⟨by omega, by omega, by omega, hgo m st2 (mvr_tr m1 m2)⟩
  -- bad from here on
  have badgo : ∀ (MI1 : Nat → Nat → Int) (f p q : Int), StR bk T n OI OL B (.inl (f, p)) MI1 ML → mvr MI MI1 → (pb s fun a => vlS T n (2000 - pl) a) = .inl (f, p) → wp cs mX12_value KD Q 37 [some (vR 124), some (vI q), none, none, none] [] (KD, MI1, ML, GR d e nw th x) := by
    intro MI1 f p q st1 m1 hfp
    have h12 := st1.2.2
    have hB' := st1.2.1
    refine go MI1 _ q st1 m1 (by omega) (fun a z => by cases z) (fun m st2 m2 => ?_)
    refine v_X12_value_66 (ux_isGood st2 (fun a z => by cases z) (fun f' p' z => rI_mk ⟨fun _ => ?_, fun z => absurd rfl z⟩))
    refine c_value_166 st2 (by omega) (plc := pl) (by rw [m2.1 139 (by decide)]; exact hp) hpl (Nat.le_refl _) (fun a z => by cases z) (fun MI' st3 m3 e3 => ?_)
    rw [show B + 1 + 1 = B + 2 by omega] at st3
    refine hF f p MI' hfp st3 (valR_mvr (mvr_tr m2 m3)) ?_
    rw [m3.1 139 (by decide), m2.1 139 (by decide), hp]; omega
  refine v_X12_value_0 (ux_octet hs ha.1 (rI_mk ?_))
  rcases s with ⟨f, p⟩ | a
  · exact ux_isGood hs (fun a z => by cases z) (fun f' p' z => rI_mk ⟨fun _ => badgo MI f p _ hs (mvr_rfl _) rfl, fun z => absurd rfl z⟩)
  · obtain ⟨b1, b2, b3, b4, b5⟩ := hs.2.2
    rw [pb_r] at hT hF
    rw [b1]
    have good : ob T n a = 34 ∨ ob T n a = 39 → wp cs mX12_value KD Q 37 [some (vR 124), some (vI (ob T n a)), none, none, none] [] (KD, MI, ML, GR d e nw th x) := fun hq => by
      have hlt := ob_lt (T := T) (n := n) (h := a) (c := ob T n a) (by omega) rfl
      refine go MI _ _ hs (mvr_rfl _) ha (fun a' z => by cases z; exact hlt) (fun m st2 m2 => ?_)
      simp only [pb_r] at st2
      unfold vlS at hT hF
      rw [if_pos hq] at hT hF
      refine c_value_l (by omega) hq (n - a).toNat [] (a + 1) m st2 (valR_mvr (pl := pl) m2) (by rw [m2.1 139 (by decide), hp]; simp) (by simpa using hpl) ⟨by omega, by simp, by simp; omega, fun i y hy => by simp at hy⟩ (by omega) (fun l y MI' hl s' v' p' e' o' => ?_) (fun f p MI' hl s' v' => hF f p MI' (by simpa using hl) (by rw [show B + 2 = B + 1 + 1 by omega]; exact s') v')
      simp only [List.nil_append] at p' e' o'
      exact hT l y MI' (by simpa using hl) (by rw [show B + 2 = B + 1 + 1 by omega]; exact s') v' p' e' o'
    refine ux_isGood hs (fun a' z => rI_mk ⟨fun z => by omega, fun _ => ⟨fun h34 => good (Or.inl h34), fun h34 => ⟨fun h39 => good (Or.inr h39), fun h39 => ?_⟩⟩⟩) (fun f p z => by cases z)
    rw [b1]
    refine ux_fail (by decide) hs (fun MI1 st1 m1 => rV_mk (badgo MI1 (-1) a _ st1 m1 ?_))
    rw [pb_r]; unfold vlS; rw [if_neg (by omega)]
end P85
