/-! The reference's frames, and its declarations. -/
def inB (bk i k : Nat) : Prop := (i = 124 ∧ fldB k) ∨ (168 ≤ i ∧ i ≤ 173) ∨ (127 ≤ i ∧ i ≤ 167 ∧ i ≠ 128 ∧ wR i * bk ≤ k ∧ k < wR i * (bk + 1))
def frX (C : Nat → Nat → Prop) (MI ML MI' ML' : Nat → Nat → Int) : Prop := ∀ i k, ¬ C i k → MI' i k = MI i k ∧ ML' i k = ML i k
theorem frX_rfl {C : Nat → Nat → Prop} (MI ML : Nat → Nat → Int) : frX C MI ML MI ML := fun _ _ _ => ⟨rfl, rfl⟩
theorem frX_tr {C : Nat → Nat → Prop} {A AL B BL D DL : Nat → Nat → Int} (h : frX C A AL B BL) (k : frX C B BL D DL) : frX C A AL D DL := fun i j hj => ⟨(k i j hj).1.trans (h i j hj).1, (k i j hj).2.trans (h i j hj).2⟩
theorem frX_mono {C D : Nat → Nat → Prop} {A AL B BL : Nat → Nat → Int} (h : frX C A AL B BL) (hC : ∀ i k, C i k → D i k) : frX D A AL B BL := fun i j hj => h i j (fun z => hj (hC i j z))
theorem frX_upI {C : Nat → Nat → Prop} {i k : Nat} {v : Int} {MI ML : Nat → Nat → Int} (h : C i k) : frX C MI ML (up2 MI i k v) ML := fun a c hc => ⟨by
  unfold up2
  rw [if_neg (fun z => hc (by rw [z.1, z.2]; exact h))], rfl⟩
theorem frX_upL {C : Nat → Nat → Prop} {i k : Nat} {v : Int} {MI ML : Nat → Nat → Int} (h : C i k) : frX C MI ML MI (up2 ML i k v) := fun a c hc => ⟨rfl, by
  unfold up2
  rw [if_neg (fun z => hc (by rw [z.1, z.2]; exact h))]⟩
theorem frX_row {C : Nat → Nat → Prop} {i : Nat} {A AL B BL : Nat → Nat → Int} (h : frX C A AL B BL) (hi : ∀ k, ¬ C i k) : B i = A i ∧ BL i = AL i := ⟨funext fun k => (h i k (hi k)).1, funext fun k => (h i k (hi k)).2⟩
theorem frX_mvr {C : Nat → Nat → Prop} {MI MI' ML : Nat → Nat → Int} (hC : ∀ k, fldR k → C 124 k) (h : mvr MI MI') : frX C MI ML MI' ML := fun i k hk => ⟨by
  by_cases hi : i = 124
  · subst hi
    have : ¬ fldR k := fun z => hk (hC k z)
    unfold fldR at this
    exact h.2 k (by omega) (by omega) (by omega) (by omega) (by omega)
  · rw [h.1 i hi], rfl⟩
/-- what a declaration at dI changes -/
def chE (dI i k : Nat) : Prop := chS dI i k ∨ ((i = 144 ∨ i = 145) ∧ k = dI)
theorem inB_chE {bk dI i k : Nat} (hd : 30 * bk ≤ dI ∧ dI < 30 * bk + 30) (h : chE dI i k) : inB bk i k := by
  rcases h with h | h
  · rcases h with h | h | h | h
    · exact Or.inl ⟨h.1, Or.inl h.2⟩
    · exact Or.inr (Or.inl (by omega))
    · refine Or.inr (Or.inr ⟨by omega, by omega, by omega, ?_⟩)
      have : wR i = 30 := by unfold wR; rcases h.1 with z | z | z | z | z <;> subst z <;> decide
      rw [this]; omega
    · refine Or.inr (Or.inr ⟨by omega, by omega, by omega, ?_⟩)
      have : wR i = 1200 := by unfold wR; rcases h.1 with z | z | z <;> subst z <;> decide
      rw [this]; omega
  · refine Or.inr (Or.inr ⟨by omega, by omega, by omega, ?_⟩)
    have : wR i = 30 := by unfold wR; rcases h.1 with z | z <;> subst z <;> decide
    rw [this]; omega
section P89
variable {cs : Cs} {Q : Option AV → Mm → Prop} {MI ML OI OL : Nat → Nat → Int} {bk d e nw th x dI : Nat} {T : Nat → Int} {n B : Int} {s : PR Int} {p : Pl} {pt : Pt}
theorem frR_frX {C : Nat → Nat → Prop} {MI' ML' : Nat → Nat → Int} (hC : ∀ i k, C i k → inB bk i k) (hf : frR bk OI OL MI ML) (h : frX C MI ML MI' ML') : frR bk OI OL MI' ML' := by
  refine ⟨fun i h1 h2 => ?_, fun k hk => ?_, fun i k h1 h2 h3 => ?_⟩
  · have := frX_row h (i := i) (fun k z => by have := hC i k z; unfold inB at this; omega)
    rw [this.1, this.2]; exact hf.1 i h1 h2
  · have := h 124 k (fun z => by
      rcases hC 124 k z with z | z | z
      · exact hk z.2
      · omega
      · omega)
    rw [this.1, this.2]; exact hf.2.1 k hk
  · have := h i k (fun z => by
      rcases hC i k z with z | z | z
      · omega
      · omega
      · exact h3 z.2.2.2)
    rw [this.1, this.2]; exact hf.2.2 i k h1 h2 h3
theorem BasR_frX {C : Nat → Nat → Prop} {MI' ML' : Nat → Nat → Int} (hC : ∀ i k, C i k → inB bk i k) (hb : BasR bk T n OI OL MI ML) (h : frX C MI ML MI' ML') : BasR bk T n OI OL MI' ML' := by
  obtain ⟨a1, a2, a3, a4, a5, a6, a7⟩ := hb
  have f : ∀ k, ¬ fldB k → MI' 124 k = MI 124 k := fun k hk => (h 124 k (fun z => by
    rcases hC 124 k z with z | z | z
    · exact hk z.2
    · omega
    · omega)).1
  have r126 := (frX_row h (i := 126) (fun k z => by have := hC 126 k z; unfold inB at this; omega)).1
  have r128 := (frX_row h (i := 128) (fun k z => by have := hC 128 k z; unfold inB at this; omega)).1
  exact ⟨by rw [r126]; exact a1, by rw [f 3 (by unfold fldB fldR; omega)]; exact a2, a3, by rw [f 8 (by unfold fldB fldR; omega)]; exact a4, a5, by rw [r128]; exact a6, frR_frX hC a7 h⟩
theorem StR_frX {C : Nat → Nat → Prop} {MI' ML' : Nat → Nat → Int} (hC : ∀ i k, C i k → inB bk i k) (hs : StR bk T n OI OL B s MI ML) (h : frX C MI ML MI' ML') (e4 : MI' 124 4 = MI 124 4) (e5 : MI' 124 5 = MI 124 5) (e6 : MI' 124 6 = MI 124 6) : StR bk T n OI OL B s MI' ML' := by
  refine ⟨BasR_frX hC hs.1 h, hs.2.1, ?_⟩
  have := hs.2.2
  rcases s with ⟨g, q⟩ | a
  · simp only at this ⊢; rw [e4, e5, e6]; exact this
  · simp only at this ⊢; rw [e4, e5, e6]; exact this
/-- (#PCDATA at its # -/
theorem ux_mixed {a : Int} (hd : 30 * bk ≤ dI ∧ dI < 30 * bk + 30) (hs : StR bk T n OI OL B (.inr a) MI ML) (h7 : a + 7 ≤ n) (hP : PlR bk T n dI ([], []) MI ML)
    (hT : ∀ p' y MI' ML', mxF T n (n + 1).toNat ([], []) (sk T n (a + 7)) = .inr (p', y) → StR bk T n OI OL B (.inr y) MI' ML' → PlR bk T n dI p' MI' ML' → frS dI MI ML MI' ML' → MI' 146 dI = 2 → Q none (MI', ML', GR d e nw th x))
    (hF : ∀ f q MI' ML', mxF T n (n + 1).toNat ([], []) (sk T n (a + 7)) = .inl (f, q) → StR bk T n OI OL B (.inl (f, q)) MI' ML' → frS dI MI ML MI' ML' → Q none (MI', ML', GR d e nw th x)) :
    wp cs mX12_mixed KD Q 0 (padL [vR 124, vI (dI : Nat)] 3) [] (KD, MI, ML, GR d e nw th x) := by
  obtain ⟨b1, b2, b3, b4, b5⟩ := hs.2.2
  have a5 := hs.1.2.2.2.2.1
  have hn := hs.1.2.2.1
  refine v_X12_mixed_0 ⟨by omega, ?_⟩
  simp only [Int.toNat_natCast]
  intro m6 e6
  have r : ∀ i, i ≠ 146 → m6 i = MI i := fun i hi => by rw [e6]; funext k; exact up2_ne hi k
  have q4 : m6 124 4 = a := by rw [r 124 (by decide)]; exact b1
  rw [q4]
  refine ⟨by omega, fun m15 e15 => ?_⟩
  have fS : frS dI MI ML m6 ML := by rw [e6]; exact frS_upI (Or.inr (Or.inr (Or.inl ⟨by omega, rfl⟩)))
  have s1 := StR_frS hd hs fS (by rw [r 124 (by decide)]) (by rw [r 124 (by decide)]) (by rw [r 124 (by decide)])
  obtain ⟨s2, m2⟩ := StR_at s1 e15 (by omega)
  refine ux_maybeS s2 (fun MI3 s3 m3 _ _ => rV_mk ?_)
  rw [pb_r] at s3
  have hb := s3.2.2.2.2.2
  exact c_rmixed_l hd _ ([], []) _ MI3 ML s3 (PlR_mvr (PlR_fr hP (r 147 (by decide)) (r 148 (by decide)) (r 149 (by decide)) rfl) (mvr_tr m2 m3)) (frS_tr fS (frS_mvr (mvr_tr m2 m3))) (by rw [(mvr_tr m2 m3).1 146 (by decide), e6, up2_eq]) (by omega) hT hF
/-- a GROUP behind its ( and S -/
theorem ux_group {a : Int} (hd : 30 * bk ≤ dI ∧ dI < 30 * bk + 30) (hs : StR bk T n OI OL B (.inr a) MI ML) (ha : sk T n a = a) (hP : PlR bk T n dI ([], []) MI ML)
    (hT : ∀ p' pt y MI' ML', grF T n (n + 1).toNat true ([], []) [(0, false, 0, 0, 0)] a = .inr (p', pt, y) → StR bk T n OI OL B (.inr y) MI' ML' → PlR bk T n dI p' MI' ML' → MI' 152 dI = pt.1 → ML' 150 dI = pt.2.1 → ML' 151 dI = pt.2.2 → frS dI MI ML MI' ML' → MI' 146 dI = 3 → Q none (MI', ML', GR d e nw th x))
    (hF : ∀ f q MI' ML', grF T n (n + 1).toNat true ([], []) [(0, false, 0, 0, 0)] a = .inl (f, q) → StR bk T n OI OL B (.inl (f, q)) MI' ML' → frS dI MI ML MI' ML' → Q none (MI', ML', GR d e nw th x)) :
    wp cs mX12_group KD Q 0 (padL [vR 124, vI (dI : Nat)] 5) [] (KD, MI, ML, GR d e nw th x) := by
  obtain ⟨b1, b2, b3, b4, b5⟩ := hs.2.2
  have a5 := hs.1.2.2.2.2.1
  have hn := hs.1.2.2.1
  refine v_X12_group_0 ⟨by omega, ?_⟩
  simp only [Int.toNat_natCast]
  intro m6 e6
  refine v_X12_openGroup_0 ⟨by omega, fun m7 e7 m13 e13 => rV_mk ?_⟩
  rw [show (0 : Int).toNat = 0 from rfl] at e7 e13
  have fS : frS dI MI ML m13 ML := by rw [e13, e7, e6]; exact frS_tr (frS_tr (frS_upI (Or.inr (Or.inr (Or.inl ⟨by omega, rfl⟩)))) (frS_upI (Or.inr (Or.inl (by omega))))) (frS_upI (Or.inr (Or.inl (by omega))))
  have r : ∀ i, i ≠ 146 → i ≠ 168 → i ≠ 169 → m13 i = MI i := fun i h1 h2 h3 => by rw [e13, e7, e6]; funext k; rw [up2_ne h3, up2_ne h2, up2_ne h1]
  have r1 := r 124 (by decide) (by decide) (by decide)
  have s1 := StR_frS hd hs fS (by rw [r1]) (by rw [r1]) (by rw [r1])
  refine c_rgroup_l hd _ true ([], []) (0, false, 0, 0, 0) [] a m13 ML s1 (PlR_fr hP (r 147 (by decide) (by decide) (by decide)) (r 148 (by decide) (by decide) (by decide)) (r 149 (by decide) (by decide) (by decide)) rfl) ⟨⟨?_, ?_, fun z => by cases z⟩, trivial⟩ (by simp) (fun _ => ha) (fun z => by cases z) fS ?_ (by omega) hT hF
  · show m13 168 0 = 0
    rw [e13, up2_ne (by decide), e7, up2_eq]
  · show m13 169 0 = 0 ↔ _
    rw [e13, up2_eq]; simp
  · rw [e13, e7, up2_ne (by decide), up2_ne (by decide), e6, up2_eq]
end P89
/-- the <!ELEMENTs -/
def DecA (bk : Nat) (T : Nat → Int) (n : Int) (MI ML : Nat → Nat → Int) (dI : Nat) (q : Dc) : Prop :=
  nmR bk T n (MI 144 dI) (MI 145 dI) q.1 ∧ MI 146 dI = q.2.1 ∧ PlR bk T n dI (q.2.2.2.1, q.2.2.2.2.1) MI ML ∧ (q.2.1 = 3 → MI 152 dI = q.2.2.2.2.2.2.2 ∧ ML 150 dI = q.2.2.2.2.2.1 ∧ ML 151 dI = q.2.2.2.2.2.2.1)
def DecR (bk : Nat) (T : Nat → Int) (n : Int) (ds : List Dc) (MI ML : Nat → Nat → Int) : Prop := MI 143 bk = (ds.length : Nat) ∧ ds.length ≤ 30 ∧ ∀ (j : Nat) (q : Dc), ds[j]? = some q → DecA bk T n MI ML (30 * bk + j) q
def cntD (ds : List Dc) (r : Nat) : Nat := (ds.filter fun q => decide (q.2.2.1 ≤ r)).length
/-- the order in which they stand -/
def StoR (bk : Nat) (ds : List Dc) (nr : Nat) (MI : Nat → Nat → Int) : Prop := MI 167 bk = ((ds.length + nr : Nat) : Int) ∧ (∀ (j : Nat) (q : Dc), ds[j]? = some q → q.2.2.1 ≤ nr ∧ MI 166 (850 * bk + (q.2.2.1 + j)) = 2 * (j : Int)) ∧ ∀ r : Nat, r < nr → MI 166 (850 * bk + (r + cntD ds r)) = 2 * (r : Int) + 1
theorem DecA_fr {bk dI : Nat} {T : Nat → Int} {n : Int} {MI ML MI' ML' : Nat → Nat → Int} {q : Dc} (h : DecA bk T n MI ML dI q) (h1 : ∀ i, 144 ≤ i → i ≤ 152 → i ≠ 148 → i ≠ 149 → MI' i dI = MI i dI ∧ ML' i dI = ML i dI) (h2 : ∀ i k, (i = 148 ∨ i = 149 ∨ i = 153) → 40 * dI ≤ k → k < 40 * dI + 40 → MI' i k = MI i k ∧ ML' i k = ML i k) : DecA bk T n MI' ML' dI q := by
  obtain ⟨c1, c2, ⟨p1, p2, p3, p4, p5⟩, c4⟩ := h
  refine ⟨by rw [(h1 144 (by omega) (by omega) (by omega) (by omega)).1, (h1 145 (by omega) (by omega) (by omega) (by omega)).1]; exact c1, by rw [(h1 146 (by omega) (by omega) (by omega) (by omega)).1]; exact c2, ⟨by rw [(h1 147 (by omega) (by omega) (by omega) (by omega)).1]; exact p1, p2, p3, fun k y hk => ?_, fun k y hk => ?_⟩, fun z => ?_⟩
  · have := (List.getElem?_eq_some_iff.mp hk).1
    simp only at p2 this
    rw [(h2 148 _ (by omega) (by omega) (by omega)).1, (h2 149 _ (by omega) (by omega) (by omega)).1]; exact p4 k y hk
  · have := (List.getElem?_eq_some_iff.mp hk).1
    simp only at p2 p3 this
    rw [(h2 153 _ (by omega) (by omega) (by omega)).2]; exact p5 k y hk
  · rw [(h1 152 (by omega) (by omega) (by omega) (by omega)).1, (h1 150 (by omega) (by omega) (by omega) (by omega)).2, (h1 151 (by omega) (by omega) (by omega) (by omega)).2]; exact c4 z
