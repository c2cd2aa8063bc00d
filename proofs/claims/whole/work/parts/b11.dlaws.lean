/-! Laws of a DOCUMENT that has been read: its declarations, how much there can be to find. -/
theorem spS_kd {T : Nat → Int} {n h : Int} {k : Int} {p : Pl} {pt : Pt} {y : Int} (hy : spS T n h = .inr ((k, p, pt), y)) : 0 ≤ k ∧ k ≤ 3 := by
  unfold spS at hy
  split at hy
  · cases hy; omega
  · split at hy
    · cases hy; omega
    · obtain ⟨g, _, hy⟩ := pb_inr hy
      split at hy
      · obtain ⟨q, _, hy⟩ := pb_inr hy
        cases hy; omega
      · obtain ⟨q, _, hy⟩ := pb_inr hy
        cases hy; omega
def DsV (ds : List Dc) (R : Nat) : Prop := (∀ q ∈ ds, (0 ≤ q.2.1 ∧ q.2.1 ≤ 3) ∧ q.2.2.1 ≤ R) ∧ ds.Pairwise (fun a b => a.2.2.1 ≤ b.2.2.1)
theorem deS_V {T : Nat → Int} {n h : Int} {ds ds' : List Dc} {nr : Nat} {w : Int} (hV : DsV ds nr) (hl : ds.length ≤ 30) (hy : deS T n ds nr h = .inr (ds', w)) : DsV ds' nr ∧ ds'.length ≤ 30 := by
  unfold deS at hy
  split at hy
  · cases hy
  · obtain ⟨g, _, hy⟩ := pb_inr hy
    obtain ⟨y, _, hy⟩ := pb_inr hy
    obtain ⟨z, _, hy⟩ := pb_inr hy
    obtain ⟨q, hq, hy⟩ := pb_inr hy
    obtain ⟨v, _, hy⟩ := pb_inr hy
    cases hy
    have hk := spS_kd (show spS T n z = .inr ((q.1.1, q.1.2.1, q.1.2.2), q.2) from hq)
    refine ⟨⟨fun x hx => ?_, ?_⟩, by simp; omega⟩
    · rw [List.mem_append, List.mem_singleton] at hx
      rcases hx with hx | hx
      · exact hV.1 x hx
      · subst hx; exact ⟨hk, Nat.le_refl _⟩
    · rw [List.pairwise_append]
      refine ⟨hV.2, List.pairwise_singleton _ _, fun a ha b hb => ?_⟩
      rw [List.mem_singleton] at hb
      subst hb
      exact (hV.1 a ha).2
theorem ruS_len {T : Nat → Int} {n h : Int} {pl pl' : Nat} {rs rs' : List Rl} {o : By} {y : Int} (hy : ruS T n pl rs o h = .inr (pl', rs', y)) : rs.length ≤ rs'.length ∧ rs'.length ≤ rs.length + 1 := by
  unfold ruS at hy
  obtain ⟨g, _, hy⟩ := pb_inr hy
  split at hy
  · cases hy
  · obtain ⟨q, _, hy⟩ := pb_inr hy
    obtain ⟨z, _, hy⟩ := pb_inr hy
    cases hy
    split
    · omega
    · simp
theorem rusF_len (T : Nat → Int) (n : Int) (o : By) : ∀ (k pl : Nat) (rs : List Rl) (h : Int) (pl' : Nat) (rs' : List Rl) (y : Int), 0 ≤ h → rusF T n o k pl rs h = .inr (pl', rs', y) → 8 * ((rs.length : Nat) : Int) ≤ h → rs.length ≤ rs'.length ∧ 8 * ((rs'.length : Nat) : Int) ≤ y
  | 0, pl, rs, h, pl', rs', y, _, hy, _ => by simp [rusF] at hy
  | k + 1, pl, rs, h, pl', rs', y, h0, hy, hk => by
    have hs := sk_le T n h
    rw [rusF] at hy
    split at hy
    · rename_i hc
      obtain ⟨q, h1, h2⟩ := pb_inr hy
      have a1 := ruS_le (by omega) (show ruS T n pl rs o (sk T n h) = .inr (q.1, q.2.1, q.2.2) from h1)
      have a2 := ruS_len (show ruS T n pl rs o (sk T n h) = .inr (q.1, q.2.1, q.2.2) from h1)
      have := rusF_len T n o k _ _ _ _ _ _ (by omega) h2 (by omega)
      omega
    · obtain ⟨z, h1, h2⟩ := pb_inr hy
      have := mbS_eq h1
      cases h2; omega
theorem alS_len {T : Nat → Int} {n h : Int} {pl pl' : Nat} {rs rs' : List Rl} {y : Int} (h0 : 0 ≤ h) (hy : alS T n pl rs h = .inr (pl', rs', y)) (hk : 8 * ((rs.length : Nat) : Int) ≤ h) : rs.length ≤ rs'.length ∧ 8 * ((rs'.length : Nat) : Int) ≤ y := by
  unfold alS at hy
  obtain ⟨g, a1, hy⟩ := pb_inr hy
  obtain ⟨z, a2, hy⟩ := pb_inr hy
  have b1 := msS_lt a1
  have b2 := nmS_ok a2
  exact rusF_len T n _ _ _ _ _ _ _ _ (by omega) hy (by omega)
theorem rusF_n (T : Nat → Int) (n : Int) (o : By) : ∀ (k pl : Nat) (rs : List Rl) (h : Int) (pl' : Nat) (rs' : List Rl) (y : Int), rusF T n o k pl rs h = .inr (pl', rs', y) → y ≤ n
  | 0, pl, rs, h, pl', rs', y, hy => by simp [rusF] at hy
  | k + 1, pl, rs, h, pl', rs', y, hy => by
    rw [rusF] at hy
    split at hy
    · obtain ⟨q, h1, h2⟩ := pb_inr hy
      exact rusF_n T n o k _ _ _ _ _ _ h2
    · obtain ⟨z, h1, h2⟩ := pb_inr hy
      have hb := mbS_eq h1
      have := ob_lt (c := 62) (by decide) hb.2
      cases h2; omega
theorem alS_n {T : Nat → Int} {n h : Int} {pl pl' : Nat} {rs rs' : List Rl} {y : Int} (hy : alS T n pl rs h = .inr (pl', rs', y)) : y ≤ n := by
  unfold alS at hy
  obtain ⟨g, a1, hy⟩ := pb_inr hy
  obtain ⟨z, a2, hy⟩ := pb_inr hy
  exact rusF_n T n _ _ _ _ _ _ _ _ hy
theorem DsV_mono {ds : List Dc} {R R' : Nat} (h : DsV ds R) (hr : R ≤ R') : DsV ds R' := ⟨fun q hq => ⟨(h.1 q hq).1, by have := (h.1 q hq).2; omega⟩, h.2⟩
theorem dcF_V {T : Nat → Int} {n : Int} : ∀ (k pl : Nat) (ds : List Dc) (rs : List Rl) (h : Int) (pl' : Nat) (ds' : List Dc) (rs' : List Rl) (y : Int), 0 ≤ h → h ≤ n → dcF T n k pl ds rs h = .inr (pl', ds', rs', y) → DsV ds rs.length → ds.length ≤ 30 → 8 * ((rs.length : Nat) : Int) ≤ h → DsV ds' rs'.length ∧ ds'.length ≤ 30 ∧ 8 * ((rs'.length : Nat) : Int) ≤ y
  | 0, pl, ds, rs, h, pl', ds', rs', y, _, _, hy, _, _, _ => by simp [dcF] at hy
  | k + 1, pl, ds, rs, h, pl', ds', rs', y, h0, h1, hy, hV, hl, hk => by
    rw [dcF] at hy
    split at hy
    · cases hy; exact ⟨hV, hl, by omega⟩
    · split at hy
      · rename_i hs
        have hr := stb_room _ h h0 (by decide) (by decide) hs
        simp only [List.length_cons, List.length_nil] at hr
        obtain ⟨q, h2, hy⟩ := pb_inr hy
        obtain ⟨z, h3, hy⟩ := pb_inr hy
        have a1 := deS_V hV hl (show deS T n ds rs.length h = .inr (q.1, q.2) from h2)
        have a2 := deS_le (by omega) (show deS T n ds rs.length h = .inr (q.1, q.2) from h2)
        have hqn : q.2 ≤ n := by
          unfold deS at h2
          split at h2
          · cases h2
          · obtain ⟨g', _, h2⟩ := pb_inr h2
            obtain ⟨y', _, h2⟩ := pb_inr h2
            obtain ⟨z', _, h2⟩ := pb_inr h2
            obtain ⟨q', _, h2⟩ := pb_inr h2
            obtain ⟨v', hv, h2⟩ := pb_inr h2
            have hb := mbS_eq hv
            have := ob_lt (c := 62) (by decide) hb.2
            cases h2
            simp only
            omega
        have a3 := mcS_le (by omega) hqn h3
        exact dcF_V k _ _ _ _ _ _ _ _ (by omega) a3.2 hy a1.1 a1.2 (by omega)
      · split at hy
        · rename_i hs
          have hr := stb_room _ h h0 (by decide) (by decide) hs
          simp only [List.length_cons, List.length_nil] at hr
          obtain ⟨q, h2, hy⟩ := pb_inr hy
          obtain ⟨z, h3, hy⟩ := pb_inr hy
          have a1 := alS_len (by omega) (show alS T n pl rs (h + 9) = .inr (q.1, q.2.1, q.2.2) from h2) (by omega)
          have a2 := alS_le (by omega) (show alS T n pl rs (h + 9) = .inr (q.1, q.2.1, q.2.2) from h2)
          have hqn : q.2.2 ≤ n := alS_n (show alS T n pl rs (h + 9) = .inr (q.1, q.2.1, q.2.2) from h2)
          have a3 := mcS_le (by omega) hqn h3
          exact dcF_V k _ _ _ _ _ _ _ _ (by omega) a3.2 hy (DsV_mono hV a1.1) hl (by omega)
        · cases hy
theorem dtS_V {T : Nat → Int} {n h : Int} {pl : Nat} {D : Dt} {y : Int} (h0 : 0 ≤ h) (h1 : h ≤ n) (hy : dtS T n h = .inr (pl, D, y)) : DsV D.2.1 D.2.2.length ∧ D.2.1.length ≤ 30 ∧ 8 * ((D.2.2.length : Nat) : Int) ≤ y ∧ y ≤ n := by
  unfold dtS at hy
  split at hy
  · rename_i hs
    have hr := stb_room _ h h0 (by decide) (by decide) hs
    simp only [List.length_cons, List.length_nil] at hr
    obtain ⟨g, g1, hy⟩ := pb_inr hy
    obtain ⟨z, g2, hy⟩ := pb_inr hy
    obtain ⟨v, g3, hy⟩ := pb_inr hy
    obtain ⟨w, g4, hy⟩ := pb_inr hy
    obtain ⟨q, g5, hy⟩ := pb_inr hy
    obtain ⟨u, g6, hy⟩ := pb_inr hy
    obtain ⟨t, g7, hy⟩ := pb_inr hy
    have b1 := msS_lt g1
    have b2 := nmS_ok g2
    have b3 := mbS_eq g3
    have b3' := ob_lt (c := 91) (by decide) b3.2
    have b4 := sk_le T n z
    have b5 := mcS_le (by omega) (by omega) g4
    have b6 := dcF_V (n + 1).toNat 0 [] [] w q.1 q.2.1 q.2.2.1 q.2.2.2 (by omega) b5.2 g5 ⟨fun q hq => (by cases hq), List.Pairwise.nil⟩ (by simp) (by simp; omega)
    have b7 := mbS_eq g6
    have b7' := ob_lt (c := 62) (by decide) b7.2
    have b8 := sk_le T n q.2.2.2
    have h8 : 0 ≤ q.2.2.2 := by have := b6.2.2; omega
    have b9 := mcS_le (by omega) (by omega) g7
    cases hy
    exact ⟨b6.1, b6.2.1, by simp only; have := b6.2.2; omega, b9.2⟩
  · cases hy
    exact ⟨⟨fun q hq => (by cases hq), List.Pairwise.nil⟩, by simp, by simp; omega, h1⟩
/-- how many ELEMENTS -/
def eN (ns : List Nd) : Nat := (ns.filter fun y => decide (y.1 = 1)).length
theorem eN_app (a c : List Nd) : eN (a ++ c) = eN a + eN c := by unfold eN; rw [List.filter_append, List.length_append]
theorem eN_0 {l : List Nd} (h : ∀ y ∈ l, y.1 ≠ 1) : eN l = 0 := by
  unfold eN
  rw [List.length_eq_zero_iff, List.filter_eq_nil_iff]
  intro y hy
  simpa using h y hy
theorem atsF_2 (T : Nat → Int) (n ec : Int) : ∀ (k pl : Nat) (ns : List Nd) (h : Int) (pl' : Nat) (ns' : List Nd) (y : Int), 0 ≤ h → pl ≤ 2000 → atsF T n ec k pl ns h = .inr (pl', ns', y) → (∃ s, ns' = ns ++ s ∧ ∀ z ∈ s, z.1 = 2) ∧ h ≤ y
  | 0, pl, ns, h, pl', ns', y, _, _, hy => by simp [atsF] at hy
  | k + 1, pl, ns, h, pl', ns', y, h0, hp, hy => by
    have hs := sk_le T n h
    rw [atsF_eq] at hy
    split at hy
    · obtain ⟨q, h1, hy⟩ := pb_inr hy
      have h1' : atS T n ec pl ns (sk T n h) = .inr (q.1, q.2.1, q.2.2) := h1
      have a1 := atS_le (by omega) h1'
      have hq : ∃ w, q.2.1 = ns ++ [w] ∧ w.1 = 2 := by
        unfold atS at h1'
        obtain ⟨g, _, h1'⟩ := pb_inr h1'
        split at h1'
        · cases h1'
        · split at h1'
          · cases h1'
          · obtain ⟨z, _, h1'⟩ := pb_inr h1'
            obtain ⟨v, _, h1'⟩ := pb_inr h1'
            injection h1' with h1'
            exact ⟨_, (congrArg (fun z => z.2.1) h1').symm, rfl⟩
      obtain ⟨w, hw, hw2⟩ := hq
      rcases a1 with a1 | a1
      · obtain ⟨⟨s, e1, e2⟩, e3⟩ := atsF_2 T n ec k _ _ _ _ _ _ (by omega) a1.2 hy
        refine ⟨⟨w :: s, by rw [e1, hw, List.append_assoc]; rfl, fun z hz => ?_⟩, by omega⟩
        rcases List.mem_cons.mp hz with hz | hz
        · subst hz; exact hw2
        · exact e2 z hz
      · omega
    · cases hy
      exact ⟨⟨[], by simp, fun z hz => by cases hz⟩, by omega⟩
theorem dfF_2 {ec : Int} {o : By} : ∀ (l : List Rl) (ns ns' : List Nd), dfF ec o l ns = some ns' → ∃ s, ns' = ns ++ s ∧ ∀ z ∈ s, z.1 = 2
  | [], ns, ns', h => by cases h; exact ⟨[], by simp, fun z hz => by cases hz⟩
  | r :: l, ns, ns', h => by
    rw [dfF] at h
    split at h
    · split at h
      · cases h
      · obtain ⟨s, e1, e2⟩ := dfF_2 l _ _ h
        refine ⟨_ :: s, by rw [e1, List.append_assoc]; rfl, fun z hz => ?_⟩
        rcases List.mem_cons.mp hz with hz | hz
        · subst hz; rfl
        · exact e2 z hz
    · exact dfF_2 l _ _ h
theorem tgS_2 {T : Nat → Int} {n h : Int} {rs : List Rl} {pl pl' : Nat} {t t' : Tr} {y : Int} (h0 : 0 ≤ h) (hp : pl ≤ 2000) (hy : tgS T n rs pl t h = .inr (pl', t', y)) : (∃ w s, t'.1 = t.1 ++ w :: s ∧ w.1 = 1 ∧ ∀ z ∈ s, z.1 = 2) ∧ ((t'.2.1.length = t.2.1.length ∧ h + 3 ≤ y) ∨ (t'.2.1.length = t.2.1.length + 1 ∧ h + 2 ≤ y)) := by
  rw [tgS_E] at hy
  obtain ⟨g, g1, hy⟩ := pb_inr hy
  have hg := nmS_ok g1
  split at hy
  · cases hy
  · obtain ⟨q, g2, hy⟩ := pb_inr hy
    obtain ⟨⟨s, e1, e2⟩, e3⟩ := atsF_2 T n _ _ _ _ _ _ _ _ (by omega) hp (show atsF T n ((t.1.length : Nat) : Int) (n + 1).toNat pl _ g = .inr (q.1, q.2.1, q.2.2) from g2)
    unfold tgE at hy
    obtain ⟨v, g3, hy⟩ := pb_inr hy
    split at hy
    · cases hy
    · rename_i ns2 hd
      obtain ⟨s2, e4, e5⟩ := dfF_2 _ _ _ hd
      cases hy
      refine ⟨⟨(1, t.2.1.headD 0, nb T h g, [], 0, 0), s ++ s2, by simp only; rw [e4, e1, List.append_assoc, List.append_assoc]; rfl, rfl, fun z hz => ?_⟩, ?_⟩
      · rcases List.mem_append.mp hz with hz | hz
        · exact e2 z hz
        · exact e5 z hz
      · simp only
        split at g3
        · rename_i hc
          rw [if_pos hc]
          cases g3
          exact Or.inl ⟨rfl, by omega⟩
        · rename_i hc
          rw [if_neg hc]
          have := mbS_eq g3
          exact Or.inr ⟨by simp, by omega⟩
theorem txF_n {T : Nat → Int} {n : Int} : ∀ {k r : Nat} {h : Int} {l : By} {z y : Int}, 0 ≤ h → txF T n k r h = .inr (l, z, y) → y ≤ n
  | 0, r, h, l, z, y, _, hy => by simp [txF] at hy
  | k + 1, r, h, l, z, y, h0, hy => by
    rw [txF] at hy
    split at hy
    · rename_i h6
      have := ob_lt (c := 60) (by decide) h6
      cases hy; omega
    · obtain ⟨q, g1, hy⟩ := pb_inr hy
      have := pcS_ok h0 (show pcS T n h = .inr (q.1, q.2) from g1)
      split at hy
      · cases hy
      · obtain ⟨w, g2, hy⟩ := pb_inr hy
        have h2 := txF_n (by omega) (show txF T n k (r - 1) q.2 = .inr (w.1, w.2.1, w.2.2) from g2)
        cases hy; exact h2
/-- CONTENT: what was there stays; four bytes go to an ELEMENT -/
theorem ctF_2 {T : Nat → Int} {n : Int} {rs : List Rl} (hb : ∀ k, -128 ≤ T k ∧ T k < 128) (hV : RuV rs) : ∀ (k pl : Nat) (t : Tr) (h : Int) (pl' : Nat) (t' : Tr) (y c : Int), 0 ≤ h → h ≤ n → pl ≤ 2000 → TrV t → ctF T n rs k pl t h = .inr (pl', t', y) → c + 4 * ((eN t.1 : Nat) : Int) ≤ h + (t.2.1.length : Nat) → (∃ s, t'.1 = t.1 ++ s) ∧ c + 4 * ((eN t'.1 : Nat) : Int) ≤ y ∧ y ≤ n
  | 0, pl, t, h, pl', t', y, c, _, _, _, _, hy, _ => by simp [ctF] at hy
  | k + 1, pl, t, h, pl', t', y, c, h0, h1, hp, hI, hy, hc => by
    rw [ctF] at hy
    split at hy
    · rename_i hn
      cases hy
      rw [hn] at hc
      exact ⟨⟨[], by simp⟩, by simp only [List.length_nil] at hc; omega, h1⟩
    · rename_i hne
      split at hy
      · obtain ⟨q, g1, hy⟩ := pb_inr hy
        have g1' : enS T n t h = .inr (q.1, q.2) := g1
        have wf := enS_wf g1' hne hI
        have hq : q.1.1 = t.1 ∧ q.1.2.1 = t.2.1.tail := by
          unfold enS at g1'
          obtain ⟨g, _, g1'⟩ := pb_inr g1'
          split at g1'
          · cases g1'
          · obtain ⟨z, _, g1'⟩ := pb_inr g1'
            injection g1' with g1'
            exact ⟨(congrArg (fun z => z.1.1) g1').symm, (congrArg (fun z => z.1.2.1) g1').symm⟩
        have hlen : t.2.1.length = q.1.2.1.length + 1 := by
          rw [hq.2]
          cases hh : t.2.1 with
          | nil => exact absurd hh hne
          | cons a l => simp
        have := ctF_2 hb hV k _ _ _ _ _ _ c (by omega) wf.2.2 hp wf.1 hy (by rw [hq.1]; omega)
        rw [hq.1] at this
        exact this
      · split at hy
        · obtain ⟨v, g1, hy⟩ := pb_inr hy
          have := cmS_le (by omega) g1
          exact ctF_2 hb hV k _ _ _ _ _ _ c (by omega) (by omega) hp hI hy (by omega)
        · split at hy
          · obtain ⟨q, g1, hy⟩ := pb_inr hy
            have g1' : tgS T n rs pl t (h + 1) = .inr (q.1, q.2.1, q.2.2) := g1
            have wf := tgS_wf hb hV (by omega) hp g1' hI
            obtain ⟨⟨w, s, e1, e2, e3⟩, e4⟩ := tgS_2 (by omega) hp g1'
            have he : eN q.2.1.1 = eN t.1 + 1 := by
              rw [e1, eN_app]
              have : eN (w :: s) = 1 := by
                have hs0 : eN s = 0 := eN_0 (fun z hz => by have := e3 z hz; omega)
                rw [show w :: s = [w] ++ s from rfl, eN_app, hs0]
                simp [eN, e2]
              omega
            obtain ⟨⟨s', e5⟩, e6, e7⟩ := ctF_2 hb hV k _ _ _ _ _ _ c (by omega) wf.2.2.1 wf.2.2.2 wf.1 hy (by omega)
            exact ⟨⟨w :: s ++ s', by rw [e5, e1, List.append_assoc]⟩, e6, e7⟩
          · rename_i h60
            obtain ⟨q, g1, hy⟩ := pb_inr hy
            have g1' : teS T n pl t h = .inr (q.1, q.2.1, q.2.2) := g1
            have wf := teS_wf h0 h60 hp g1' hI
            have hq : (∃ w : Nd, q.2.1.1 = t.1 ++ [w] ∧ w.1 = 3) ∧ q.2.1.2.1 = t.2.1 ∧ q.2.2 ≤ n := by
              unfold teS at g1'
              obtain ⟨c', hc', g1'⟩ := pb_inr g1'
              split at g1'
              · cases g1'
              · obtain ⟨z, hz, g1'⟩ := pb_inr g1'
                injection g1' with g1'
                refine ⟨⟨_, (congrArg (fun z => z.2.1.1) g1').symm, rfl⟩, (congrArg (fun z => z.2.1.2.1) g1').symm, ?_⟩
                have := txF_n (by omega) (show txF T n (n + 1).toNat (2000 - pl) h = .inr (z.1, z.2.1, z.2.2) from hz)
                have h2 := congrArg (fun z => z.2.2) g1'
                simp only at h2
                omega
            obtain ⟨⟨w, e1, e2⟩, e3, e4⟩ := hq
            have he : eN q.2.1.1 = eN t.1 := by
              have hw0 : eN [w] = 0 := eN_0 (fun z hz => by rw [List.mem_singleton] at hz; subst hz; omega)
              rw [e1, eN_app, hw0]; rfl
            obtain ⟨⟨s', e5⟩, e6, e7⟩ := ctF_2 hb hV k _ _ _ _ _ _ c (by omega) e4 wf.2.2 wf.1 hy (by rw [he, e3]; omega)
            exact ⟨⟨[w] ++ s', by rw [e5, e1, List.append_assoc]⟩, e6, e7⟩
