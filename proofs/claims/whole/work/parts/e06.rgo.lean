/-! The reference's selection: filterMine, goStep. -/
theorem pf_s {k : Nat} : ∀ {l : List Nat}, l.Pairwise (· < ·) → l.filter (fun a => decide (a < k + 1)) = l.filter (fun a => decide (a < k)) ++ (if k ∈ l then [k] else [])
  | [], _ => by simp
  | a :: t, h => by
    rw [List.pairwise_cons] at h
    have ih := pf_s (k := k) h.2
    by_cases h1 : a < k
    · rw [List.filter_cons_of_pos (by simp; omega), List.filter_cons_of_pos (by simp; omega), ih]
      have : (k ∈ a :: t) ↔ k ∈ t := by
        rw [List.mem_cons]; constructor
        · rintro (z | z)
          · omega
          · exact z
        · exact Or.inr
      by_cases hk : k ∈ t
      · rw [if_pos hk, if_pos (this.mpr hk)]; rfl
      · rw [if_neg hk, if_neg (fun z => hk (this.mp z))]; rfl
    · have e1 : t.filter (fun a => decide (a < k + 1)) = [] := by
        rw [List.filter_eq_nil_iff]
        intro b hb
        have := h.1 b hb
        simp; omega
      have e2 : t.filter (fun a => decide (a < k)) = [] := by
        rw [List.filter_eq_nil_iff]
        intro b hb
        have := h.1 b hb
        simp; omega
      rw [List.filter_cons_of_neg (p := fun a => decide (a < k)) (by simp; omega), e2]
      by_cases h2 : a = k
      · subst h2
        rw [List.filter_cons_of_pos (by simp), e1, if_pos List.mem_cons_self]; rfl
      · rw [List.filter_cons_of_neg (by simp; omega), e1, if_neg]
        · rfl
        · intro z
          rcases List.mem_cons.mp z with w | w
          · exact h2 w.symm
          · have := h.1 k w; omega
theorem pf_all {l : List Nat} {n : Nat} (h : ∀ a ∈ l, a < n) : l.filter (fun a => decide (a < n)) = l := List.filter_eq_self.mpr (fun a ha => by simpa using h a ha)
theorem sfF_sl (p : Nat → Nat → Bool) : ∀ (i : Nat) (l : List Nat), (sfF p i l).Sublist l
  | _, [] => List.Sublist.slnil
  | i, a :: t => by
    unfold sfF
    split
    · exact (sfF_sl p (i + 1) t).cons₂ a
    · exact (sfF_sl p (i + 1) t).cons a
def MinR (n : Nat) (l : List Nat) (MI : Nat → Nat → Int) : Prop := ∀ i, i < n → MI 179 i = (if i ∈ l then 1 else 0)
def SetB (n r : Nat) (S : Nat → Bool) (MI : Nat → Nat → Int) : Prop := ∀ i, i < n → MI r i = (if S i = true then 1 else 0)
def chG (i _k : Nat) : Prop := i = 177 ∨ i = 178 ∨ i = 179
theorem sprS_eq {ns : List Nd} {S : Nat → Bool} {k : Nat} : sprS ns S k = (List.range (k + 1)).any fun p => S p && (decide (p = k) || (decide ((ndA ns k).1 = 1) && decide (p ≤ k ∧ k < eS ns p))) := by
  unfold sprS
  rw [List.range_succ, List.any_append, Bool.eq_iff_iff]
  simp only [Bool.or_eq_true, Bool.and_eq_true, List.any_eq_true, List.mem_range, decide_eq_true_eq, List.any_cons, List.any_nil, Bool.or_false, true_or, and_true]
  constructor
  · rintro (h | ⟨h1, p, h2, h3, h4⟩)
    · exact Or.inr (by simpa using h)
    · exact Or.inl ⟨p, h2, h3, Or.inr ⟨h1, by omega, h4⟩⟩
  · rintro (⟨p, h2, h3, h4⟩ | h)
    · rcases h4 with h4 | ⟨h4, h5, h6⟩
      · omega
      · exact Or.inr ⟨h4, p, h2, h3, h6⟩
    · exact Or.inl (by simpa using h)
section Pe06
variable {cs : Cs} {Q : Option AV → Mm → Prop} {MI ML OI : Nat → Nat → Int} {bk d e nw th x pl : Nat} {T TD : Nat → Int} {n nD : Int} {D : Dm} {S : Nat → Bool} {s : StM}
theorem HldR_g {MI' : Nat → Nat → Int} {P : Nat → Nat → Prop} (h : HldR bk TD nD pl D MI ML) (f : frP P MI MI') (hp : ∀ i k, P i k → i ≠ 124 ∧ ¬ (126 ≤ i ∧ i ≤ 173)) : HldR bk TD nD pl D MI' ML :=
  HldR_P h (fun i h1 h2 => frP_row f (fun k z => (hp i k z).2 (by omega))) (f 124 7 (fun z => (hp _ _ z).1 rfl)) (f 124 8 (fun z => (hp _ _ z).1 rfl))
theorem c_filterMine {f : Nat} {q : BrM} {l : List Nat} (hH : HldR bk TD nD pl D MI ML) (hW : WfN D.2.1) (hn : n ≤ 6000) (hT : MI 126 = T) (hby : ∀ k : Nat, (k : Int) < n → -128 ≤ T k ∧ T k < 128) (hf : f < 48) (hB : BrkR T n f q MI) (hV : BrV q) (hs : l.Pairwise (· < ·)) (hla : ∀ a ∈ l, a < D.2.1.length) (hM : MinR D.2.1.length l MI)
    (hQ : ∀ MI', MinR D.2.1.length (siftL D.2.1 q l) MI' → frP (fun i _ => i = 179) MI MI' → Q none (MI', ML, GR d e nw th x)) :
    wp cs mX12_filterMine KD Q 0 (padL [vR 124, vI (f : Nat)] 5) [] (KD, MI, ML, GR d e nw th x) := by
  have p7 := hH.1.2.2.2.2.2.2
  have h600 := hH.1.2.1.2.1
  have e7 := hH.2.1
  have e29 := hH.1.2.1.1
  obtain ⟨N, hN⟩ : ∃ N, N = D.2.1.length := ⟨_, rfl⟩
  have pfl : ∀ k, (l.filter (fun a => decide (a < k))).length ≤ k := by
    intro k
    induction k with
    | zero => rw [show l.filter (fun a => decide (a < 0)) = [] from List.filter_eq_nil_iff.mpr (fun a _ => by simp)]; simp
    | succ k ih => rw [pf_s hs, List.length_append]; split <;> simp <;> omega
  have fin : ∀ (m k : Nat) (M : Nat → Nat → Int), k + m = D.2.1.length → frP (fun i _ => i = 179) MI M → (∀ i, i < D.2.1.length → M 179 i = (if i < k then (if i ∈ sfF (sfP D.2.1 q l.length) 0 (l.filter (fun a => decide (a < k))) then 1 else 0) else (if i ∈ l then 1 else 0))) →
      wp cs mX12_filterMine KD Q 45 [some (vR 124), some (vI (f : Nat)), some (vI (l.length : Nat)), some (vI ((l.filter (fun a => decide (a < k))).length : Nat)), some (vI (k : Nat))] [] (KD, M, ML, GR d e nw th x) := by
    intro m
    induction m with
    | zero =>
      intro k M hk hfr hMk
      have hH' : HldR bk TD nD pl D M ML := HldR_g hH hfr (fun i k z => by omega)
      refine v_X12_filterMine_45 ?_
      rw [hH'.2.1]
      simp only [Int.toNat_natCast]
      rw [hH'.1.2.1.1]
      refine ⟨by omega, fun z => by omega, fun _ => hQ M (fun i hi => ?_) hfr⟩
      rw [hMk i hi, if_pos (by omega), pf_all (fun a ha => by have := hla a ha; omega)]
      rfl
    | succ m ih =>
      intro k M hk hfr hMk
      have hH' : HldR bk TD nD pl D M ML := HldR_g hH hfr (fun i k z => by omega)
      have hB' : BrkR T n f q M := BrkR_fr hB (fun i h1 h2 => hfr i f (by omega))
      have hT' : M 126 = T := by rw [frP_row hfr (fun k z => by omega)]; exact hT
      have ek : ((k : Nat) : Int) + 1 = ((k + 1 : Nat) : Int) := by omega
      have hMkk := hMk k (by omega)
      rw [if_neg (by omega)] at hMkk
      have hps := pf_s (k := k) hs
      have hpl := pfl k
      refine v_X12_filterMine_45 ?_
      rw [hH'.2.1]
      simp only [Int.toNat_natCast]
      rw [hH'.1.2.1.1, hMkk, ek]
      -- the next one
      have nx : ∀ (M' : Nat → Nat → Int), (k ∈ l → M' 179 k = (if sfP D.2.1 q l.length (l.filter (fun a => decide (a < k))).length k = true then 1 else 0)) → (k ∉ l → M' 179 k = 0) → (∀ i, i ≠ k → M' 179 i = M 179 i) → ∀ i, i < D.2.1.length → M' 179 i = (if i < k + 1 then (if i ∈ sfF (sfP D.2.1 q l.length) 0 (l.filter (fun a => decide (a < k + 1))) then 1 else 0) else (if i ∈ l then 1 else 0)) := by
        intro M' g1 g2 g3 i hi
        have hlow : ∀ a ∈ sfF (sfP D.2.1 q l.length) 0 (l.filter (fun a => decide (a < k))), a < k := fun a ha => by
          have := sfF_sub _ _ _ _ ha
          rw [List.mem_filter] at this
          simpa using this.2
        have hspl : sfF (sfP D.2.1 q l.length) 0 (l.filter (fun a => decide (a < k + 1))) = sfF (sfP D.2.1 q l.length) 0 (l.filter (fun a => decide (a < k))) ++ (if k ∈ l ∧ sfP D.2.1 q l.length (l.filter (fun a => decide (a < k))).length k = true then [k] else []) := by
          rw [hps]
          by_cases hkl : k ∈ l
          · rw [if_pos hkl, sfF_app, Nat.zero_add]
            by_cases hp : sfP D.2.1 q l.length (l.filter (fun a => decide (a < k))).length k = true
            · rw [if_pos hp, if_pos ⟨hkl, hp⟩]
            · rw [if_neg hp, if_neg (fun z => hp z.2)]
          · rw [if_neg hkl, if_neg (fun z => hkl z.1), List.append_nil, List.append_nil]
        by_cases hik : i = k
        · subst hik
          rw [if_pos (by omega), hspl]
          have hno : ¬ i ∈ sfF (sfP D.2.1 q l.length) 0 (l.filter (fun a => decide (a < i))) := fun z => by have := hlow i z; omega
          by_cases hkl : i ∈ l
          · rw [g1 hkl]
            by_cases hp : sfP D.2.1 q l.length (l.filter (fun a => decide (a < i))).length i = true
            · rw [if_pos hp, if_pos]
              rw [if_pos ⟨hkl, hp⟩]; simp
            · rw [if_neg hp, if_neg]
              rw [if_neg (fun z => hp z.2), List.append_nil]; exact hno
          · rw [g2 hkl, if_neg]
            rw [if_neg (fun z => hkl z.1), List.append_nil]; exact hno
        · rw [g3 i hik, hMk i hi]
          by_cases hlt : i < k
          · rw [if_pos hlt, if_pos (show i < k + 1 by omega), hspl]
            have : (i ∈ sfF (sfP D.2.1 q l.length) 0 (l.filter (fun a => decide (a < k))) ++ (if k ∈ l ∧ sfP D.2.1 q l.length (l.filter (fun a => decide (a < k))).length k = true then [k] else [])) ↔ i ∈ sfF (sfP D.2.1 q l.length) 0 (l.filter (fun a => decide (a < k))) := by
              rw [List.mem_append]
              constructor
              · rintro (z | z)
                · exact z
                · split at z
                  · rw [List.mem_singleton] at z; omega
                  · simp at z
              · exact Or.inl
            by_cases hm : i ∈ sfF (sfP D.2.1 q l.length) 0 (l.filter (fun a => decide (a < k)))
            · rw [if_pos hm, if_pos (this.mpr hm)]
            · rw [if_neg hm, if_neg (fun z => hm (this.mp z))]
          · rw [if_neg hlt, if_neg (show ¬ i < k + 1 by omega)]
      refine ⟨by omega, fun _ => ⟨by omega, fun h0 => ⟨by omega, ?_⟩, fun h0 => ?_⟩, fun z => by omega⟩
      · have hkl : k ∉ l := fun z => by rw [if_pos z] at h0; omega
        have := ih (k + 1) M (by omega) hfr (nx M (fun z => absurd z hkl) (fun _ => by rw [hMkk, if_neg hkl]) (fun _ _ => rfl))
        rw [hps, if_neg hkl, List.append_nil] at this
        exact this
      · have hkl : k ∈ l := Decidable.byContradiction fun z => h0 (by rw [if_neg z])
        have el : (((l.filter (fun a => decide (a < k))).length : Nat) : Int) + 1 = ((l.filter (fun a => decide (a < k + 1))).length : Nat) := by rw [hps, if_pos hkl]; simp
        have go : ∀ v : Int, v = (if sfP D.2.1 q l.length (l.filter (fun a => decide (a < k))).length k = true then 1 else 0) → wp cs mX12_filterMine KD Q 45 [some (vR 124), some (vI (f : Nat)), some (vI (l.length : Nat)), some (vI ((((l.filter (fun a => decide (a < k))).length : Nat) : Int) + 1)), some (vI ((k + 1 : Nat) : Int))] [] (KD, up2 M 179 k v, ML, GR d e nw th x) := by
          intro v hv
          rw [el]
          exact ih (k + 1) _ (by omega) (frP_tr hfr (frP_up rfl)) (nx _ (fun _ => by rw [up2_eq]; exact hv) (fun z => absurd hkl z) (fun i hi => up2_nk hi _))
        refine ⟨by omega, by omega, fun h85 => ?_, fun h85 => ⟨fun h1 => ?_, fun h1 => ?_⟩⟩
        · have hq0 : q.1 = 0 := by
            refine Decidable.byContradiction fun w => ?_
            have hb := hV.1
            have hb4 := hV.2.1
            by_cases w1 : q.1 = 1
            · rw [hB'.2.1 w1] at h85; omega
            · by_cases w2 : q.1 = 2
              · rw [(hB'.2.2.1 w2).1] at h85; omega
              · have := (hB'.2.2.2 (by omega)).2.2
                unfold quR at this
                split at this
                · omega
                · omega
          rw [(hB'.1 hq0).2]
          have hsp : sfP D.2.1 q l.length (l.filter (fun a => decide (a < k))).length k = decide ((((l.filter (fun a => decide (a < k))).length : Nat) : Int) + 1 = q.2.1) := by unfold sfP; rw [if_pos hq0]
          refine ⟨fun he => ?_, fun he => ?_⟩
          · rintro _ rfl
            exact ⟨by omega, go 1 (by rw [hsp, decide_eq_true he, if_pos rfl])⟩
          · rintro _ rfl
            exact ⟨by omega, go 0 (by rw [hsp, decide_eq_false he, if_neg (by decide)])⟩
        · have hq1 : q.1 = 1 := by
            refine Decidable.byContradiction fun w => ?_
            have hb := hV.1
            have hb4 := hV.2.1
            by_cases w1 : q.1 = 0
            · rw [(hB'.1 w1).1] at h85; exact h85 rfl
            · by_cases w2 : q.1 = 2
              · rw [(hB'.2.2.1 w2).1] at h1; omega
              · have := (hB'.2.2.2 (by omega)).2.2
                unfold quR at this
                split at this
                · omega
                · omega
          have hsp : sfP D.2.1 q l.length (l.filter (fun a => decide (a < k))).length k = decide ((l.filter (fun a => decide (a < k))).length + 1 = l.length) := by unfold sfP; rw [if_neg (by omega), if_pos hq1]
          refine ⟨fun he => ?_, fun he => ?_⟩
          · rintro _ rfl
            exact ⟨by omega, go 1 (by rw [hsp, decide_eq_true (by omega), if_pos rfl])⟩
          · rintro _ rfl
            exact ⟨by omega, go 0 (by rw [hsp, decide_eq_false (by omega), if_neg (by decide)])⟩
        · have hq2 : 2 ≤ q.1 := by
            refine Decidable.byContradiction fun w => ?_
            have hb := hV.1
            by_cases w1 : q.1 = 0
            · rw [(hB'.1 w1).1] at h85; exact h85 rfl
            · have := hB'.2.1 (by omega)
              exact h1 this
          have hsp : sfP D.2.1 q l.length (l.filter (fun a => decide (a < k))).length k = pasB D.2.1 q k := by unfold sfP; rw [if_neg (by omega), if_neg (by omega)]
          refine c_passesFilter hH' hW hn hT' hby hf hB' hV hq2 (by omega) (rI_mk ⟨by split <;> simp, ?_⟩)
          rintro _ rfl
          exact ⟨by omega, go _ (by rw [hsp])⟩
  have cnt : ∀ (m k : Nat), k + m = D.2.1.length → wp cs mX12_filterMine KD Q 4 [some (vR 124), some (vI (f : Nat)), some (vI ((l.filter (fun a => decide (a < k))).length : Nat)), some (vI (k : Nat)), none] [] (KD, MI, ML, GR d e nw th x) := by
    intro m
    induction m with
    | zero =>
      intro k hk
      refine v_X12_filterMine_4 ?_
      rw [e7]
      simp only [Int.toNat_natCast]
      rw [e29, pf_all (fun a ha => by have := hla a ha; omega)]
      refine ⟨by omega, fun z => by omega, fun _ => ?_⟩
      have := fin D.2.1.length 0 MI (by omega) (frP_rfl _ _) (fun i hi => by rw [if_neg (by omega)]; exact hM i hi)
      rw [show l.filter (fun a => decide (a < 0)) = [] from List.filter_eq_nil_iff.mpr (fun a _ => by simp)] at this
      exact this
    | succ m ih =>
      intro k hk
      have ek : ((k : Nat) : Int) + 1 = ((k + 1 : Nat) : Int) := by omega
      have hps := pf_s (k := k) hs
      have hpl := pfl k
      refine v_X12_filterMine_4 ?_
      rw [e7]
      simp only [Int.toNat_natCast]
      rw [e29, hM k (by omega), ek]
      refine ⟨by omega, fun _ => ⟨by omega, fun h0 => ⟨by omega, ?_⟩, fun h0 => ⟨by omega, by omega, ?_⟩⟩, fun z => by omega⟩
      · have hkl : k ∉ l := fun z => by rw [if_pos z] at h0; omega
        have := ih (k + 1) (by omega)
        rw [hps, if_neg hkl, List.append_nil] at this
        exact this
      · have hkl : k ∈ l := Decidable.byContradiction fun z => h0 (by rw [if_neg z])
        have := ih (k + 1) (by omega)
        rw [hps, if_pos hkl, List.length_append, List.length_singleton] at this
        exact this
  refine v_X12_filterMine_0 ?_
  have := cnt D.2.1.length 0 (by omega)
  rw [show l.filter (fun a => decide (a < 0)) = [] from List.filter_eq_nil_iff.mpr (fun a _ => by simp)] at this
  exact this
end Pe06
