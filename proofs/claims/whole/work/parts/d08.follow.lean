/-! The class's selection: a STEP, all STEPS. -/
def BrV (q : BrM) : Prop := 0 ≤ q.1 ∧ q.1 ≤ 4 ∧ (q.1 = 2 → ∃ v, q.2.2.2 = some v)
def StV (s : StM) : Prop := (0 ≤ s.1 ∧ s.1 ≤ 4) ∧ (s.1 = 2 → s.2.2.1 = none) ∧ ∀ q ∈ s.2.2.2, BrV q
def chX (th i k : Nat) : Prop := i = 27 ∨ (i = 23 ∧ k = 5) ∨ i = th
theorem sftL_sub (ns : List Nd) : ∀ (bs : List BrM) (l : List Nat) (a : Nat), a ∈ sftL ns bs l → a ∈ l
  | [], l, a, h => h
  | q :: t, l, a, h => sfF_sub _ _ _ _ (sftL_sub ns t (siftL ns q l) a h)
section Pd08
variable {cs : Cs} {Q : Option AV → Mm → Prop} {MI ML OI : Nat → Nat → Int} {b d e nw th pl : Nat} {T TD : Nat → Int} {n nD : Int} {N : List By} {D : Dt} {ns : List Nd} {dp : Int} {S : Nat → Bool} {s : StM}
theorem DocC_X {MI' : Nat → Nat → Int} (hbd : b = 38 ∨ b = 81) (hth : th = 25 ∨ th = 26) (hD : DocC b TD nD N pl D ns [] dp MI ML) (hf : frP (chX th) MI MI') : DocC b TD nD N pl D ns [] dp MI' ML :=
  DocC_fr hD (fun i h1 h2 => frP_row hf (fun k z => by unfold chX at z; omega)) (fun _ _ _ => rfl)
theorem StpC_X {MI' : Nat → Nat → Int} {j : Nat} (hth : th = 25 ∨ th = 26) (hS : StpC N T n j s MI) (hf : frP (chX th) MI MI') : StpC N T n j s MI' :=
  StpC_fr hS (fun i h1 h2 => hf i j (by unfold chX; omega)) (fun i k h1 h2 h3 h4 => hf i k (by unfold chX; omega))
theorem c_ts74 {j : Nat} {k : Nat} {B : Nat → Prop} {l : List Nat} (hbd : b = 38 ∨ b = 81) (hnw : nw = 25 ∨ nw = 26) (hth : th = 25 ∨ th = 26) (hl : l.length ≤ 600) (hla : ∀ a ∈ l, a < ns.length) (hn6 : ns.length ≤ 600) (hk6 : k < ns.length)
    (hQ : ∀ MI', (∀ to, to < ns.length → (MI' th to ≠ 0 ↔ B to ∨ to ∈ l)) → frP (chX th) OI MI' → wp cs mX8_takeStep KD Q 11 [some (vR 23), some (vR b), some (vR 14), some (vI (j : Nat)), some (vI ((k + 1 : Nat) : Int)), none] [] (KD, MI', ML, GR d e nw th 1)) :
    ∀ (r : List Nat) (i : Nat) (MI : Nat → Nat → Int), l.drop i = r → i ≤ l.length → RowC l MI → (∀ to, to < ns.length → (MI th to ≠ 0 ↔ B to ∨ to ∈ l.take i)) → frP (chX th) OI MI →
    wp cs mX8_takeStep KD Q 74 [some (vR 23), some (vR b), some (vR 14), some (vI (j : Nat)), some (vI (k : Nat)), some (vI (i : Nat))] [] (KD, MI, ML, GR d e nw th 1) := by
  intro r
  induction r with
  | nil =>
    intro i MI hdr hil hR hB hfr
    have hge : l.length ≤ i := List.drop_eq_nil_iff.mp hdr
    refine v_X8_takeStep_74 hbd hnw hth ?_
    rw [hR.1, show ((k : Nat) : Int) + 1 = ((k + 1 : Nat) : Int) by omega]
    refine ⟨fun z => by omega, fun _ => ⟨by omega, hQ MI (fun to ht => ?_) hfr⟩⟩
    rw [hB to ht, List.take_of_length_le hge]
  | cons a r ih =>
    intro i MI hdr hil hR hB hfr
    have hlt : i < l.length := by
      refine Decidable.byContradiction fun w => ?_
      rw [List.drop_eq_nil_of_le (by omega)] at hdr; cases hdr
    have ha : l[i]? = some a := by
      have hz := List.getElem?_drop (xs := l) (i := i) (j := 0)
      rw [hdr] at hz
      simpa using hz.symm
    have hdr' : l.drop (i + 1) = r := by rw [← List.drop_drop, hdr]; rfl
    have haN := hla a (List.mem_of_getElem? ha)
    have h27 := hR.2 i a ha
    refine v_X8_takeStep_74 hbd hnw hth ?_
    simp only [Int.toNat_natCast]
    rw [hR.1, h27, show ((i : Nat) : Int) + 1 = ((i + 1 : Nat) : Int) by omega]
    simp only [Int.toNat_natCast]
    refine ⟨fun _ => ⟨by omega, by omega, ?_⟩, fun z => by omega⟩
    rintro _ rfl
    refine ⟨by omega, ih (i + 1) _ hdr' (by omega) ⟨?_, fun i' c hc => ?_⟩ (fun to ht => ?_) (frP_tr hfr (frP_up (Or.inr (Or.inr rfl))))⟩
    · rw [up2_ne (by omega)]; exact hR.1
    · rw [up2_ne (by omega)]; exact hR.2 i' c hc
    · rw [List.take_succ, ha]
      simp only [Option.toList_some, List.mem_append, List.mem_singleton]
      by_cases h : to = a
      · subst h
        rw [up2_eq]
        exact ⟨fun _ => Or.inr (Or.inr rfl), fun _ => by decide⟩
      · rw [up2_nk h, hB to ht]
        exact ⟨fun w => w.elim Or.inl (fun w => Or.inr (Or.inl w)), fun w => w.elim Or.inl (fun w => w.elim Or.inr (fun w => absurd w h))⟩
theorem c_ts42 {j k : Nat} {F : List Nat} (hbd : b = 38 ∨ b = 81) (hnw : nw = 25 ∨ nw = 26) (hth : th = 25 ∨ th = 26) (hW : WfN ns) (hAt : AtW ns) (hj : j < 12) (hn : n ≤ 6000) (hk6 : k < ns.length) (hV : StV s)
    (hQ : ∀ MI', RowC F MI' → frP chRw OI MI' → wp cs mX8_takeStep KD Q 74 [some (vR 23), some (vR b), some (vR 14), some (vI (j : Nat)), some (vI (k : Nat)), some (vI 0)] [] (KD, MI', ML, GR d e nw th 1)) :
    ∀ (r : List BrM) (t : Nat) (l : List Nat) (MI : Nat → Nat → Int), s.2.2.2.drop t = r → t ≤ s.2.2.2.length → l.length ≤ 600 → (∀ a ∈ l, a < ns.length) → F = sftL ns r l → RowC l MI → MI 1 = T → DocC b TD nD N pl D ns [] dp MI ML → StpC N T n j s MI → frP chRw OI MI →
    wp cs mX8_takeStep KD Q 42 [some (vR 23), some (vR b), some (vR 14), some (vI (j : Nat)), some (vI (k : Nat)), some (vI (t : Nat))] [] (KD, MI, ML, GR d e nw th 1) := by
  intro r
  induction r with
  | nil =>
    intro t l MI hdr htl hl hla hF hR hT1 hD hS hfr
    have hge : s.2.2.2.length ≤ t := List.drop_eq_nil_iff.mp hdr
    refine v_X8_takeStep_42 hbd hnw hth ?_
    simp only [Int.toNat_natCast]
    rw [hS.2.2.2.1]
    refine ⟨by omega, fun z => by omega, fun _ => hQ MI ?_ hfr⟩
    rw [hF]; exact hR
  | cons q r ih =>
    intro t l MI hdr htl hl hla hF hR hT1 hD hS hfr
    have hlt : t < s.2.2.2.length := by
      refine Decidable.byContradiction fun w => ?_
      rw [List.drop_eq_nil_of_le (by omega)] at hdr; cases hdr
    have hq : s.2.2.2[t]? = some q := by
      have hz := List.getElem?_drop (xs := s.2.2.2) (i := t) (j := 0)
      rw [hdr] at hz
      simpa using hz.symm
    have hdr' : s.2.2.2.drop (t + 1) = r := by rw [← List.drop_drop, hdr]; rfl
    have h4 := hS.2.2.2.2.1
    refine v_X8_takeStep_42 hbd hnw hth ?_
    simp only [Int.toNat_natCast]
    rw [hS.2.2.2.1, show ((j : Nat) : Int) * 4 + ((t : Nat) : Int) = ((4 * j + t : Nat) : Int) by omega, show ((t : Nat) : Int) + 1 = ((t + 1 : Nat) : Int) by omega]
    refine ⟨by omega, fun _ => ⟨by omega, by omega, c_sift hbd hW hAt (by omega) hn hl hla (hV.2.2 q (List.mem_of_getElem? hq)).1 hT1 hD (hS.2.2.2.2.2 t q hq) hR (fun M r' f' => rV_mk ⟨by omega, ?_⟩)⟩, fun z => by omega⟩
    refine ih (t + 1) (siftL ns q l) M hdr' (by omega) (Nat.le_trans (sfF_len _ _ _) hl) (fun a ha => hla a (sfF_sub _ _ _ _ ha)) hF r' ?_ (DocC_rw hbd hD f') ?_ (frP_tr hfr f')
    · rw [frP_row f' (fun k z => by unfold chRw at z; omega)]; exact hT1
    · exact StpC_fr hS (fun i h1 h2 => f' i j (by unfold chRw; omega)) (fun i k h1 h2 h3 h4 => f' i k (by unfold chRw; omega))
theorem c_takeStep_l {j : Nat} (hbd : b = 38 ∨ b = 81) (hnt : nw = 25 ∧ th = 26 ∨ nw = 26 ∧ th = 25) (hW : WfN ns) (hAt : AtW ns) (hj : j < 12) (hn : n ≤ 6000) (hV : StV s)
    (hQ : ∀ MI', (∀ to, to < ns.length → (MI' th to ≠ 0 ↔ stpS ns s S to = true)) → frP (chX th) OI MI' → Q none (MI', ML, GR d e th nw 1)) :
    ∀ (m k : Nat) (MI : Nat → Nat → Int), k + m = ns.length → MI 1 = T → DocC b TD nD N pl D ns [] dp MI ML → StpC N T n j s MI → (∀ i, i < ns.length → (MI nw i ≠ 0 ↔ S i = true)) → (∀ to, to < ns.length → (MI th to ≠ 0 ↔ ∃ i, i < k ∧ S i = true ∧ to ∈ sftL ns s.2.2.2 (leadL ns s i))) → frP (chX th) OI MI →
    wp cs mX8_takeStep KD Q 11 [some (vR 23), some (vR b), some (vR 14), some (vI (j : Nat)), some (vI (k : Nat)), none] [] (KD, MI, ML, GR d e nw th 1) := by
  have hnw : nw = 25 ∨ nw = 26 := by omega
  have hth : th = 25 ∨ th = 26 := by omega
  intro m
  induction m with
  | zero =>
    intro k MI hk hT1 hD hS hN hB hfr
    refine v_X8_takeStep_11 hbd hnw hth ?_
    rw [hD.2.2.2.2.1.1]
    refine ⟨fun z => by omega, fun _ => hQ MI (fun to ht => ?_) hfr⟩
    rw [hB to ht]
    unfold stpS
    rw [List.any_eq_true]
    constructor
    · rintro ⟨i, h1, h2, h3⟩
      exact ⟨i, List.mem_range.mpr (by omega), by rw [h2, Bool.true_and]; exact decide_eq_true h3⟩
    · rintro ⟨i, h1, h2⟩
      rw [List.mem_range] at h1
      rw [Bool.and_eq_true] at h2
      exact ⟨i, by omega, h2.1, of_decide_eq_true h2.2⟩
  | succ m ih =>
    intro k MI hk hT1 hD hS hN hB hfr
    have h600 := hD.2.2.2.2.1.2.1
    have ek : ((k : Nat) : Int) + 1 = ((k + 1 : Nat) : Int) := by omega
    refine v_X8_takeStep_11 hbd hnw hth ?_
    simp only [Int.toNat_natCast]
    rw [hD.2.2.2.2.1.1, ek]
    have hNk := hN k (by omega)
    refine ⟨fun _ => ⟨by omega, fun h0 => ⟨by omega, ?_⟩, fun h0 => ?_⟩, fun z => by omega⟩
    · have hSk : S k = false := by
        cases hz : S k with
        | false => rfl
        | true => exact absurd h0 (hNk.mpr hz)
      refine ih (k + 1) MI (by omega) hT1 hD hS hN (fun to ht => ?_) hfr
      rw [hB to ht]
      constructor
      · rintro ⟨i, h1, h2⟩; exact ⟨i, by omega, h2⟩
      · rintro ⟨i, h1, h2, h3⟩
        by_cases hik : i = k
        · subst hik; rw [hSk] at h2; cases h2
        · exact ⟨i, by omega, h2, h3⟩
    · have hSk := hNk.mp h0
      have hlen : (leadL ns s k).length ≤ 600 := by
        have := List.length_filter_le (leadB ns s k) (List.range ns.length)
        rw [List.length_range] at this
        unfold leadL; omega
      have hmem : ∀ a ∈ leadL ns s k, a < ns.length := fun a ha => List.mem_range.mp (List.mem_filter.mp ha).1
      refine c_lead hbd hW hAt (by omega) hj hD hS hV.2.1 hV.1 (fun M1 r1 f1 => rV_mk ?_)
      have d1 := DocC_rw hbd hD f1
      have s1 : StpC N T n j s M1 := StpC_fr hS (fun i h1 h2 => f1 i j (by unfold chRw; omega)) (fun i k h1 h2 h3 h4 => f1 i k (by unfold chRw; omega))
      refine c_ts42 (F := sftL ns s.2.2.2 (leadL ns s k)) (OI := MI) hbd hnw hth hW hAt hj hn (by omega) hV (fun M2 r2 f2 => ?_) s.2.2.2 0 (leadL ns s k) M1 rfl (by omega) hlen hmem rfl r1 ?_ d1 s1 f1
      · refine c_ts74 (OI := MI) (B := fun to => ∃ i, i < k ∧ S i = true ∧ to ∈ sftL ns s.2.2.2 (leadL ns s i)) (ns := ns) hbd hnw hth ?_ (fun a ha => hmem a (sftL_sub ns _ _ a ha)) h600 (by omega) (fun M3 b3 f3 => ?_) _ 0 M2 rfl (by omega) r2 (fun to ht => ?_) (frP_mono f2 (fun i k hp => by unfold chRw at hp; unfold chX; omega))
        · have hl2 : ∀ (bs : List BrM) (l : List Nat), (sftL ns bs l).length ≤ l.length := by
            intro bs
            induction bs with
            | nil => intro l; exact Nat.le_refl _
            | cons q t iht => intro l; exact Nat.le_trans (iht (siftL ns q l)) (sfF_len _ _ _)
          exact Nat.le_trans (hl2 _ _) hlen
        · refine ih (k + 1) M3 (by omega) ?_ (DocC_X hbd hth hD f3) (StpC_X hth hS f3) (fun i hi => ?_) (fun to ht => ?_) (frP_tr hfr f3)
          · rw [frP_row f3 (fun k z => by unfold chX at z; omega)]; exact hT1
          · rw [frP_row f3 (i := nw) (fun k z => by unfold chX at z; omega)]; exact hN i hi
          · rw [b3 to ht]
            constructor
            · rintro (⟨i, h1, h2⟩ | h)
              · exact ⟨i, by omega, h2⟩
              · exact ⟨k, by omega, hSk, h⟩
            · rintro ⟨i, h1, h2, h3⟩
              by_cases hik : i = k
              · subst hik; exact Or.inr h3
              · exact Or.inl ⟨i, by omega, h2, h3⟩
        · rw [frP_row f2 (i := th) (fun k z => by unfold chRw at z; omega), hB to ht, List.take_zero]
          simp
      · rw [frP_row f1 (fun k z => by unfold chRw at z; omega)]; exact hT1
theorem c_takeStep {j : Nat} (hbd : b = 38 ∨ b = 81) (hnt : nw = 25 ∧ th = 26 ∨ nw = 26 ∧ th = 25) (hW : WfN ns) (hAt : AtW ns) (hj : j < 12) (hn : n ≤ 6000) (hV : StV s) (hT1 : MI 1 = T) (hD : DocC b TD nD N pl D ns [] dp MI ML) (hS : StpC N T n j s MI) (hN : ∀ i, i < ns.length → (MI nw i ≠ 0 ↔ S i = true))
    (hQ : ∀ MI', (∀ to, to < ns.length → (MI' th to ≠ 0 ↔ stpS ns s S to = true)) → frP (chX th) MI MI' → Q none (MI', ML, GR d e th nw 1)) :
    wp cs mX8_takeStep KD Q 0 (padL [vR 23, vR b, vR 14, vI (j : Nat)] 6) [] (KD, MI, ML, GR d e nw th 1) := by
  have hnw : nw = 25 ∨ nw = 26 := by omega
  have hth : th = 25 ∨ th = 26 := by omega
  have h600 := hD.2.2.2.2.1.2.1
  have f1 : frP (chX th) MI (fl MI th 600 0) := fun i k hp => by
    unfold fl; rw [if_neg (fun z => hp (Or.inr (Or.inr z.1)))]
  refine v_X8_takeStep_0 hbd hnw hth (w_fillB (kd_nt hth) (by omega) (by decide) (by decide) (rV_mk ?_))
  refine c_takeStep_l (OI := MI) hbd hnt hW hAt hj hn hV hQ ns.length 0 _ (by omega) ?_ (DocC_X hbd hth hD f1) (StpC_X hth hS f1) (fun i hi => ?_) (fun to ht => ?_) f1
  · rw [frP_row f1 (fun k z => by unfold chX at z; omega)]; exact hT1
  · rw [frP_row f1 (i := nw) (fun k z => by unfold chX at z; omega)]; exact hN i hi
  · unfold fl
    rw [if_pos ⟨rfl, by omega⟩]
    constructor
    · intro z; exact absurd rfl z
    · rintro ⟨i, h1, _⟩; omega
theorem c_spread_l (hbd : b = 38 ∨ b = 81) (hnw : nw = 25 ∨ nw = 26) (hW : WfN ns)
    (hQ : ∀ MI', (∀ i, i < ns.length → (MI' nw i ≠ 0 ↔ sprS ns S i = true)) → frP (fun i _ => i = nw) OI MI' → Q none (MI', ML, GR d e nw th 1)) :
    ∀ (m k : Nat) (re : Int) (MI : Nat → Nat → Int), k + m = ns.length → DocC b TD nD N pl D ns [] dp MI ML → (∀ i, i < ns.length → (MI nw i ≠ 0 ↔ (if i < k then sprS ns S i else S i) = true)) → (∀ c : Nat, (c : Int) < re ↔ ∃ p, p < k ∧ S p = true ∧ c < eS ns p) → frP (fun i _ => i = nw) OI MI →
    wp cs mX8_spread KD Q 4 [some (vR 23), some (vR b), some (vI re), some (vI (k : Nat))] [] (KD, MI, ML, GR d e nw th 1) := by
  intro m
  induction m with
  | zero =>
    intro k re MI hk hD hN hre hfr
    refine v_X8_spread_4 hbd hnw ?_
    rw [hD.2.2.2.2.1.1]
    refine ⟨fun z => by omega, fun _ => hQ MI (fun i hi => ?_) hfr⟩
    rw [hN i hi, if_pos (by omega)]
  | succ m ih =>
    intro k re MI hk hD hN hre hfr
    have h600 := hD.2.2.2.2.1.2.1
    have ek : ((k : Nat) : Int) + 1 = ((k + 1 : Nat) : Int) := by omega
    obtain ⟨y, hy⟩ : ∃ y, ns[k]? = some y := ⟨_, List.getElem?_eq_getElem (by omega)⟩
    have hA := hD.2.2.2.2.1.2.2.2 k y hy
    have hNk := hN k (by omega)
    rw [if_neg (by omega)] at hNk
    refine v_X8_spread_4 hbd hnw ?_
    simp only [Int.toNat_natCast]
    rw [hD.2.2.2.2.1.1, hA.1, end_at hD hW hy, ek]
    -- what is next
    have hspr : sprS ns S k = (S k || (decide (y.1 = 1) && decide ((k : Int) < re))) := by
      unfold sprS
      rw [ndA_at hy]
      congr 2
      rw [Bool.eq_iff_iff, List.any_eq_true, decide_eq_true_iff, hre k]
      constructor
      · rintro ⟨p, h1, h2⟩
        rw [Bool.and_eq_true] at h2
        exact ⟨p, List.mem_range.mp h1, h2.1, of_decide_eq_true h2.2⟩
      · rintro ⟨p, h1, h2, h3⟩
        exact ⟨p, List.mem_range.mpr h1, by rw [h2, Bool.true_and]; exact decide_eq_true h3⟩
    have nx : ∀ (M : Nat → Nat → Int), (M nw k ≠ 0 ↔ sprS ns S k = true) → (∀ i, i ≠ k → M nw i = MI nw i) → ∀ i, i < ns.length → (M nw i ≠ 0 ↔ (if i < k + 1 then sprS ns S i else S i) = true) := by
      intro M h1 h2 i hi
      by_cases hik : i = k
      · subst hik; rw [if_pos (by omega)]; exact h1
      · rw [h2 i hik, hN i hi]
        by_cases hlt : i < k
        · rw [if_pos hlt, if_pos (by omega)]
        · rw [if_neg hlt, if_neg (by omega)]
    refine ⟨fun _ => ⟨by omega, fun h0 => ?_, fun h0 => ⟨by omega, ?_⟩⟩, fun z => by omega⟩
    · have hSk : S k = false := by
        cases hz : S k with
        | false => rfl
        | true => exact absurd h0 (hNk.mpr hz)
      rw [hSk, Bool.false_or] at hspr
      have hre' : ∀ c : Nat, (c : Int) < re ↔ ∃ p, p < k + 1 ∧ S p = true ∧ c < eS ns p := fun c => by
        rw [hre c]
        constructor
        · rintro ⟨p, h1, h2⟩; exact ⟨p, by omega, h2⟩
        · rintro ⟨p, h1, h2, h3⟩
          by_cases hpk : p = k
          · subst hpk; rw [hSk] at h2; cases h2
          · exact ⟨p, by omega, h2, h3⟩
      have stay : sprS ns S k = false → wp cs mX8_spread KD Q 4 [some (vR 23), some (vR b), some (vI re), some (vI ((k + 1 : Nat) : Int))] [] (KD, MI, ML, GR d e nw th 1) := by
        intro hz
        exact ih (k + 1) re MI (by omega) hD (nx MI (by rw [hz, h0]; simp) (fun _ _ => rfl)) hre' hfr
      refine ⟨fun hlt => ⟨fun h1 => ?_, fun h1 => ⟨by omega, stay (by rw [hspr, decide_eq_false h1, Bool.false_and])⟩⟩, fun hge => ⟨by omega, stay (by rw [hspr, decide_eq_false (by omega : ¬ ((k : Int) < re)), Bool.and_false])⟩⟩
      rintro _ rfl
      have hf2 : frP (fun i _ => i = nw) MI (up2 MI nw k 1) := frP_up rfl
      refine ⟨by omega, ih (k + 1) re _ (by omega) (DocC_fr hD (fun i z1 z2 => frP_row hf2 (fun k z => by omega)) (fun _ _ _ => rfl)) (nx _ ?_ (fun i hi => up2_nk hi _)) hre' (frP_tr hfr hf2)⟩
      rw [up2_eq, hspr, decide_eq_true h1, decide_eq_true hlt]
      simp
    · have hSk := hNk.mp h0
      rw [hSk, Bool.true_or] at hspr
      refine ih (k + 1) _ MI (by omega) hD (nx MI (by rw [hspr]; simp [h0]) (fun _ _ => rfl)) (fun c => ?_) hfr
      have h1 := hre c
      constructor
      · intro hlt
        by_cases hc : (c : Int) < re
        · obtain ⟨p, h2, h3⟩ := h1.mp hc
          exact ⟨p, by omega, h3⟩
        · refine ⟨k, by omega, hSk, ?_⟩
          split at hlt <;> omega
      · rintro ⟨p, h2, h3, h4⟩
        by_cases hpk : p = k
        · subst hpk; split <;> omega
        · have := h1.mpr ⟨p, by omega, h3, h4⟩
          split <;> omega
theorem c_spread (hbd : b = 38 ∨ b = 81) (hnw : nw = 25 ∨ nw = 26) (hW : WfN ns) (hD : DocC b TD nD N pl D ns [] dp MI ML) (hN : ∀ i, i < ns.length → (MI nw i ≠ 0 ↔ S i = true))
    (hQ : ∀ MI', (∀ i, i < ns.length → (MI' nw i ≠ 0 ↔ sprS ns S i = true)) → frP (fun i _ => i = nw) MI MI' → Q none (MI', ML, GR d e nw th 1)) :
    wp cs mX8_spread KD Q 0 (padL [vR 23, vR b] 4) [] (KD, MI, ML, GR d e nw th 1) :=
  v_X8_spread_0 (c_spread_l (OI := MI) hbd hnw hW hQ ns.length 0 0 MI (by omega) hD (fun i hi => by rw [if_neg (by omega)]; exact hN i hi) (fun c => ⟨fun z => by omega, fun ⟨p, h1, _⟩ => by omega⟩) (frP_rfl _ _))
end Pd08
