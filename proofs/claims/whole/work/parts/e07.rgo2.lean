/-! The reference's selection: goStep, select. -/
section Pe07
variable {cs : Cs} {Q : Option AV → Mm → Prop} {MI ML OI : Nat → Nat → Int} {bk d e nw th x pl : Nat} {T TD : Nat → Int} {n nD : Int} {D : Dm} {S : Nat → Bool} {s : StM}
theorem chG_H : ∀ i k, chG i k → i ≠ 124 ∧ ¬ (126 ≤ i ∧ i ≤ 173) := fun i k z => by unfold chG at z; omega
theorem StpR_g {MI' : Nat → Nat → Int} {j : Nat} (hS : StpR T n j s MI) (f : frP chG MI MI') : StpR T n j s MI' :=
  StpR_fr hS (fun i h1 h2 => f i j (by unfold chG; omega)) (fun i k h1 h2 h3 h4 => f i k (by unfold chG; omega))
/-- so becomes then -/
theorem c_gs298 {j : Nat} {S' : Nat → Bool} {N : Nat} (hN6 : N ≤ 600) (hQ : ∀ MI', SetB N 177 S' MI' → frP chG OI MI' → Q none (MI', ML, GR d e nw th x)) :
    ∀ (m k : Nat) (MI : Nat → Nat → Int), k + m = N → SetB N 178 S' MI → (∀ i, i < k → MI 177 i = (if S' i = true then 1 else 0)) → frP chG OI MI →
    wp cs mX12_goStep KD Q 298 [some (vR 124), some (vI (j : Nat)), some (vI (N : Nat)), some (vI (k : Nat)), none] [] (KD, MI, ML, GR d e nw th x) := by
  intro m
  induction m with
  | zero =>
    intro k MI hk h178 h177 hfr
    exact v_X12_goStep_298 ⟨fun z => by omega, fun _ => hQ MI (fun i hi => h177 i (by omega)) hfr⟩
  | succ m ih =>
    intro k MI hk h178 h177 hfr
    refine v_X12_goStep_298 ?_
    simp only [Int.toNat_natCast]
    rw [h178 k (by omega), show ((k : Nat) : Int) + 1 = ((k + 1 : Nat) : Int) by omega]
    refine ⟨fun _ => ⟨by omega, by split <;> simp, ?_⟩, fun z => by omega⟩
    rintro _ rfl
    refine ⟨by omega, ih (k + 1) _ (by omega) (fun i hi => by rw [up2_ne (by decide)]; exact h178 i hi) (fun i hi => ?_) (frP_tr hfr (frP_up (by unfold chG; omega)))⟩
    by_cases h : i = k
    · subst h; exact up2_eq
    · rw [up2_nk h]; exact h177 i (by omega)
theorem c_gs246 {j k : Nat} {B : Nat → Bool} {F : List Nat} {N : Nat} (hN6 : N ≤ 600) (hkN : k < N)
    (hQ : ∀ MI', SetB N 178 (fun i => B i || decide (i ∈ F)) MI' → frP (fun i _ => i = 178) OI MI' → wp cs mX12_goStep KD Q 166 [some (vR 124), some (vI (j : Nat)), some (vI (N : Nat)), some (vI ((k + 1 : Nat) : Int)), none] [] (KD, MI', ML, GR d e nw th x)) :
    ∀ (m t : Nat) (MI : Nat → Nat → Int), t + m = N → MinR N F MI → (∀ i, i < N → MI 178 i = (if (if i < t then (B i || decide (i ∈ F)) else B i) = true then 1 else 0)) → frP (fun i _ => i = 178) OI MI →
    wp cs mX12_goStep KD Q 246 [some (vR 124), some (vI (j : Nat)), some (vI (N : Nat)), some (vI (k : Nat)), some (vI (t : Nat))] [] (KD, MI, ML, GR d e nw th x) := by
  intro m
  induction m with
  | zero =>
    intro t MI ht hM h178 hfr
    refine v_X12_goStep_246 ⟨fun z => by omega, fun _ => ⟨by omega, ?_⟩⟩
    rw [show ((k : Nat) : Int) + 1 = ((k + 1 : Nat) : Int) by omega]
    refine hQ MI (fun i hi => ?_) hfr
    rw [h178 i hi, if_pos (show i < t by omega)]
  | succ m ih =>
    intro t MI ht hM h178 hfr
    have ht178 := h178 t (by omega)
    rw [if_neg (show ¬ t < t by omega)] at ht178
    have go : ∀ v : Int, v = (if (B t || decide (t ∈ F)) = true then 1 else 0) → wp cs mX12_goStep KD Q 246 [some (vR 124), some (vI (j : Nat)), some (vI (N : Nat)), some (vI (k : Nat)), some (vI ((t + 1 : Nat) : Int))] [] (KD, up2 MI 178 t v, ML, GR d e nw th x) := by
      intro v hv
      refine ih (t + 1) _ (by omega) (fun i hi => by rw [up2_ne (by decide)]; exact hM i hi) (fun i hi => ?_) (frP_tr hfr (frP_up rfl))
      by_cases h : i = t
      · subst h; rw [up2_eq, if_pos (show i < i + 1 by omega)]; exact hv
      · rw [up2_nk h, h178 i hi]
        by_cases hlt : i < t
        · rw [if_pos hlt, if_pos (show i < t + 1 by omega)]
        · rw [if_neg hlt, if_neg (show ¬ i < t + 1 by omega)]
    refine v_X12_goStep_246 ?_
    simp only [Int.toNat_natCast]
    rw [ht178, hM t (by omega), show ((t : Nat) : Int) + 1 = ((t + 1 : Nat) : Int) by omega]
    refine ⟨fun _ => ⟨by omega, fun h0 => ⟨fun h1 => ?_, fun h1 => ?_⟩, fun h0 => ?_⟩, fun z => by omega⟩
    · have hb : B t = false := by
        cases hz : B t with
        | false => rfl
        | true => rw [hz, if_pos rfl] at h0; omega
      have hf : ¬ t ∈ F := fun z => by rw [if_pos z] at h1; omega
      rintro _ rfl
      exact ⟨by omega, go 0 (by rw [hb, decide_eq_false hf]; rfl)⟩
    · have hf : t ∈ F := Decidable.byContradiction fun z => h1 (by rw [if_neg z])
      rintro _ rfl
      exact ⟨by omega, go 1 (by rw [decide_eq_true hf, Bool.or_true, if_pos rfl])⟩
    · have hb : B t = true := by
        cases hz : B t with
        | true => rfl
        | false => rw [hz, if_neg (by decide)] at h0; exact absurd rfl h0
      rintro _ rfl
      exact ⟨by omega, go 1 (by rw [hb, Bool.true_or, if_pos rfl])⟩
theorem c_gs216 {j k : Nat} {F : List Nat} (hW : WfN D.2.1) (hn : n ≤ 6000) (hby : ∀ k : Nat, (k : Int) < n → -128 ≤ T k ∧ T k < 128) (hj : j < 12) (hV : StV s) {N : Nat} (hN : N = D.2.1.length)
    (hQ : ∀ MI', MinR D.2.1.length F MI' → frP (fun i _ => i = 179) OI MI' → wp cs mX12_goStep KD Q 246 [some (vR 124), some (vI (j : Nat)), some (vI (N : Nat)), some (vI (k : Nat)), some (vI 0)] [] (KD, MI', ML, GR d e nw th x)) :
    ∀ (r : List BrM) (t : Nat) (l : List Nat) (MI : Nat → Nat → Int), s.2.2.2.drop t = r → t ≤ s.2.2.2.length → l.Pairwise (· < ·) → (∀ a ∈ l, a < D.2.1.length) → F = sftL D.2.1 r l → MinR D.2.1.length l MI → MI 126 = T → HldR bk TD nD pl D MI ML → StpR T n j s MI → frP (fun i _ => i = 179) OI MI →
    wp cs mX12_goStep KD Q 216 [some (vR 124), some (vI (j : Nat)), some (vI (N : Nat)), some (vI (k : Nat)), some (vI (t : Nat))] [] (KD, MI, ML, GR d e nw th x) := by
  intro r
  induction r with
  | nil =>
    intro t l MI hdr htl hs hla hF hM hT hH hS hfr
    have hge : s.2.2.2.length ≤ t := List.drop_eq_nil_iff.mp hdr
    refine v_X12_goStep_216 ?_
    simp only [Int.toNat_natCast]
    rw [hS.2.2.2.1]
    refine ⟨by omega, fun z => by omega, fun _ => hQ MI ?_ hfr⟩
    rw [hF]; exact hM
  | cons q r ih =>
    intro t l MI hdr htl hs hla hF hM hT hH hS hfr
    have hlt : t < s.2.2.2.length := by
      refine Decidable.byContradiction fun w => ?_
      rw [List.drop_eq_nil_of_le (by omega)] at hdr; cases hdr
    have hq : s.2.2.2[t]? = some q := by
      have hz := List.getElem?_drop (xs := s.2.2.2) (i := t) (j := 0)
      rw [hdr] at hz
      simpa using hz.symm
    have hdr' : s.2.2.2.drop (t + 1) = r := by rw [← List.drop_drop, hdr]; rfl
    have h4 := hS.2.2.2.2.1
    refine v_X12_goStep_216 ?_
    simp only [Int.toNat_natCast]
    rw [hS.2.2.2.1, show 4 * ((j : Nat) : Int) + ((t : Nat) : Int) = ((4 * j + t : Nat) : Int) by omega, show ((t : Nat) : Int) + 1 = ((t + 1 : Nat) : Int) by omega]
    refine ⟨by omega, fun _ => ⟨by omega, by omega, c_filterMine hH hW hn hT hby (by omega) (hS.2.2.2.2.2 t q hq) (hV.2.2 q (List.mem_of_getElem? hq)) hs hla hM (fun M m' f' => rV_mk ⟨by omega, ?_⟩)⟩, fun z => by omega⟩
    have g' : frP chG MI M := frP_mono f' (fun i k z => Or.inr (Or.inr z))
    refine ih (t + 1) (siftL D.2.1 q l) M hdr' (by omega) (hs.sublist (sfF_sl _ _ _)) (fun a ha => hla a (sfF_sub _ _ _ _ ha)) hF m' ?_ (HldR_g hH g' chG_H) (StpR_g hS g') (frP_tr hfr f')
    rw [frP_row f' (fun k z => by omega)]; exact hT
theorem c_gs186 {j k : Nat} (hW : WfN D.2.1) (hn : n ≤ 6000) (hj : j < 12) (hV : StV s) (hk : k < D.2.1.length) {N : Nat} (hN : N = D.2.1.length)
    (hQ : ∀ MI', MinR D.2.1.length (leadL D.2.1 s k) MI' → frP (fun i _ => i = 179) OI MI' → wp cs mX12_goStep KD Q 216 [some (vR 124), some (vI (j : Nat)), some (vI (N : Nat)), some (vI (k : Nat)), some (vI 0)] [] (KD, MI', ML, GR d e nw th x)) :
    ∀ (m t : Nat) (MI : Nat → Nat → Int), t + m = D.2.1.length → MI 126 = T → HldR bk TD nD pl D MI ML → StpR T n j s MI → (∀ i, i < t → MI 179 i = (if leadB D.2.1 s k i = true then 1 else 0)) → frP (fun i _ => i = 179) OI MI →
    wp cs mX12_goStep KD Q 186 [some (vR 124), some (vI (j : Nat)), some (vI (N : Nat)), some (vI (k : Nat)), some (vI (t : Nat))] [] (KD, MI, ML, GR d e nw th x) := by
  intro m
  induction m with
  | zero =>
    intro t MI ht hT hH hS h179 hfr
    refine v_X12_goStep_186 ⟨fun z => by omega, fun _ => hQ MI (fun i hi => ?_) hfr⟩
    rw [h179 i (by omega)]
    by_cases hl : leadB D.2.1 s k i = true
    · rw [if_pos hl, if_pos (show i ∈ leadL D.2.1 s k from List.mem_filter.mpr ⟨List.mem_range.mpr hi, hl⟩)]
    · rw [if_neg hl, if_neg (show ¬ i ∈ leadL D.2.1 s k from fun z => hl (List.mem_filter.mp z).2)]
  | succ m ih =>
    intro t MI ht hT hH hS h179 hfr
    have h600 := hH.1.2.1.2.1
    refine v_X12_goStep_186 ?_
    rw [show ((t : Nat) : Int) + 1 = ((t + 1 : Nat) : Int) by omega]
    refine ⟨fun _ => c_leads hH hW hn hT hj hS hV hk (by omega) (rI_mk ⟨by omega, by split <;> simp, ?_⟩), fun z => by omega⟩
    rintro _ rfl
    simp only [Int.toNat_natCast]
    have f' : frP (fun i _ => i = 179) MI (up2 MI 179 t (if leadB D.2.1 s k t = true then 1 else 0)) := frP_up rfl
    have g' : frP chG MI (up2 MI 179 t (if leadB D.2.1 s k t = true then 1 else 0)) := frP_mono f' (fun i k z => Or.inr (Or.inr z))
    refine ⟨by omega, ih (t + 1) _ (by omega) (by rw [frP_row f' (fun k z => by omega)]; exact hT) (HldR_g hH g' chG_H) (StpR_g hS g') (fun i hi => ?_) (frP_tr hfr f')⟩
    by_cases h : i = t
    · subst h; exact up2_eq
    · rw [up2_nk h]; exact h179 i (by omega)
theorem c_gs166 {j : Nat} (hW : WfN D.2.1) (hn : n ≤ 6000) (hby : ∀ k : Nat, (k : Int) < n → -128 ≤ T k ∧ T k < 128) (hj : j < 12) (hV : StV s) {N : Nat} (hN : N = D.2.1.length)
    (hQ : ∀ MI', SetB N 178 (stpS D.2.1 s S) MI' → frP chG OI MI' → wp cs mX12_goStep KD Q 298 [some (vR 124), some (vI (j : Nat)), some (vI (N : Nat)), some (vI 0), none] [] (KD, MI', ML, GR d e nw th x)) :
    ∀ (m k : Nat) (MI : Nat → Nat → Int), k + m = N → MI 126 = T → HldR bk TD nD pl D MI ML → StpR T n j s MI → SetB N 177 S MI → SetB N 178 (fun i => (List.range k).any fun p => S p && decide (i ∈ sftL D.2.1 s.2.2.2 (leadL D.2.1 s p))) MI → frP chG OI MI →
    wp cs mX12_goStep KD Q 166 [some (vR 124), some (vI (j : Nat)), some (vI (N : Nat)), some (vI (k : Nat)), none] [] (KD, MI, ML, GR d e nw th x) := by
  intro m
  induction m with
  | zero =>
    intro k MI hk hT hH hS h177 h178 hfr
    refine v_X12_goStep_166 ⟨fun z => by omega, fun _ => hQ MI (fun i hi => ?_) hfr⟩
    rw [h178 i hi]
    unfold stpS
    rw [show k = D.2.1.length by omega]
  | succ m ih =>
    intro k MI hk hT hH hS h177 h178 hfr
    have h600 := hH.1.2.1.2.1
    refine v_X12_goStep_166 ?_
    simp only [Int.toNat_natCast]
    rw [h177 k (by omega), show ((k : Nat) : Int) + 1 = ((k + 1 : Nat) : Int) by omega]
    refine ⟨fun _ => ⟨by omega, fun h0 => ⟨by omega, ?_⟩, fun h0 => ?_⟩, fun z => by omega⟩
    · have hb : S k = false := by
        cases hz : S k with
        | false => rfl
        | true => rw [hz, if_pos rfl] at h0; omega
      refine ih (k + 1) MI (by omega) hT hH hS h177 (fun i hi => ?_) hfr
      rw [h178 i hi]
      simp [List.range_succ, hb]
    · have hb : S k = true := by
        cases hz : S k with
        | true => rfl
        | false => rw [hz, if_neg (by decide)] at h0; exact absurd rfl h0
      have hmem : ∀ a ∈ leadL D.2.1 s k, a < D.2.1.length := fun a ha => List.mem_range.mp (List.mem_filter.mp ha).1
      have hsort : (leadL D.2.1 s k).Pairwise (· < ·) := List.pairwise_lt_range.filter _
      refine c_gs186 (OI := MI) hW hn hj hV (by omega) hN (fun M1 m1 f1 => ?_) D.2.1.length 0 MI (by omega) hT hH hS (fun i hi => by omega) (frP_rfl _ _)
      have g1 : frP chG MI M1 := frP_mono f1 (fun i k z => Or.inr (Or.inr z))
      refine c_gs216 (OI := M1) (F := sftL D.2.1 s.2.2.2 (leadL D.2.1 s k)) hW hn hby hj hV hN (fun M2 m2 f2 => ?_) s.2.2.2 0 (leadL D.2.1 s k) M1 rfl (by omega) hsort hmem rfl m1 (by rw [frP_row f1 (fun k z => by omega)]; exact hT) (HldR_g hH g1 chG_H) (StpR_g hS g1) (frP_rfl _ _)
      have f12 := frP_tr f1 f2
      have g2 : frP chG MI M2 := frP_mono f12 (fun i k z => Or.inr (Or.inr z))
      refine c_gs246 (OI := M2) (B := fun i => (List.range k).any fun p => S p && decide (i ∈ sftL D.2.1 s.2.2.2 (leadL D.2.1 s p))) (F := sftL D.2.1 s.2.2.2 (leadL D.2.1 s k)) (by omega) (by omega) (fun M3 b3 f3 => ?_) N 0 M2 (by omega) (by rw [hN]; exact m2) (fun i hi => ?_) (frP_rfl _ _)
      · have g3 : frP chG MI M3 := frP_tr g2 (frP_mono f3 (fun i k z => Or.inr (Or.inl z)))
        refine ih (k + 1) M3 (by omega) (by rw [frP_row g3 (fun k z => by unfold chG at z; omega)]; exact hT) (HldR_g hH g3 chG_H) (StpR_g hS g3) (fun i hi => ?_) (fun i hi => ?_) (frP_tr hfr g3)
        · rw [f3 177 i (show ¬ (177 : Nat) = 178 by decide), f12 177 i (show ¬ (177 : Nat) = 179 by decide)]; exact h177 i hi
        · rw [b3 i hi]
          simp [List.range_succ, hb]
      · rw [if_neg (show ¬ i < 0 by omega), f12 178 i (show ¬ (178 : Nat) = 179 by decide)]; exact h178 i hi
theorem c_gs146 {j : Nat} {N : Nat} (hN6 : N ≤ 600)
    (hQ : ∀ MI', SetB N 178 (fun _ => false) MI' → frP (fun i _ => i = 178) OI MI' → wp cs mX12_goStep KD Q 166 [some (vR 124), some (vI (j : Nat)), some (vI (N : Nat)), some (vI 0), none] [] (KD, MI', ML, GR d e nw th x)) :
    ∀ (m k : Nat) (MI : Nat → Nat → Int), k + m = N → (∀ i, i < k → MI 178 i = 0) → frP (fun i _ => i = 178) OI MI →
    wp cs mX12_goStep KD Q 146 [some (vR 124), some (vI (j : Nat)), some (vI (N : Nat)), some (vI (k : Nat)), none] [] (KD, MI, ML, GR d e nw th x) := by
  intro m
  induction m with
  | zero =>
    intro k MI hk h178 hfr
    exact v_X12_goStep_146 ⟨fun z => by omega, fun _ => hQ MI (fun i hi => by rw [h178 i (by omega)]; rfl) hfr⟩
  | succ m ih =>
    intro k MI hk h178 hfr
    refine v_X12_goStep_146 ?_
    simp only [Int.toNat_natCast]
    rw [show ((k : Nat) : Int) + 1 = ((k + 1 : Nat) : Int) by omega]
    refine ⟨fun _ => ⟨by omega, ?_⟩, fun z => by omega⟩
    rintro _ rfl
    refine ⟨by omega, ih (k + 1) _ (by omega) (fun i hi => ?_) (frP_tr hfr (frP_up rfl))⟩
    by_cases h : i = k
    · subst h; exact up2_eq
    · rw [up2_nk h]; exact h178 i (by omega)
theorem c_gs121 {j : Nat} {S' : Nat → Bool} {N : Nat} (hN6 : N ≤ 600) (hQ : ∀ MI', SetB N 177 S' MI' → frP chG OI MI' → wp cs mX12_goStep KD Q 146 [some (vR 124), some (vI (j : Nat)), some (vI (N : Nat)), some (vI 0), none] [] (KD, MI', ML, GR d e nw th x)) :
    ∀ (m k : Nat) (MI : Nat → Nat → Int), k + m = N → SetB N 178 S' MI → (∀ i, i < k → MI 177 i = (if S' i = true then 1 else 0)) → frP chG OI MI →
    wp cs mX12_goStep KD Q 121 [some (vR 124), some (vI (j : Nat)), some (vI (N : Nat)), some (vI (k : Nat)), none] [] (KD, MI, ML, GR d e nw th x) := by
  intro m
  induction m with
  | zero =>
    intro k MI hk h178 h177 hfr
    exact v_X12_goStep_121 ⟨fun z => by omega, fun _ => hQ MI (fun i hi => h177 i (by omega)) hfr⟩
  | succ m ih =>
    intro k MI hk h178 h177 hfr
    refine v_X12_goStep_121 ?_
    simp only [Int.toNat_natCast]
    rw [h178 k (by omega), show ((k : Nat) : Int) + 1 = ((k + 1 : Nat) : Int) by omega]
    refine ⟨fun _ => ⟨by omega, by split <;> simp, ?_⟩, fun z => by omega⟩
    rintro _ rfl
    refine ⟨by omega, ih (k + 1) _ (by omega) (fun i hi => by rw [up2_ne (by decide)]; exact h178 i hi) (fun i hi => ?_) (frP_tr hfr (frP_up (by unfold chG; omega)))⟩
    by_cases h : i = k
    · subst h; exact up2_eq
    · rw [up2_nk h]; exact h177 i (by omega)
/-- those within -/
theorem c_gs21 {j : Nat} (hW : WfN D.2.1) {N : Nat} (hN : N = D.2.1.length)
    (hQ : ∀ MI', SetB N 178 (sprS D.2.1 S) MI' → frP (fun i _ => i = 178) OI MI' → wp cs mX12_goStep KD Q 121 [some (vR 124), some (vI (j : Nat)), some (vI (N : Nat)), some (vI 0), none] [] (KD, MI', ML, GR d e nw th x)) :
    ∀ (m k : Nat) (MI : Nat → Nat → Int), k + m = N → HldR bk TD nD pl D MI ML → SetB N 177 S MI → (∀ i, i < k → MI 178 i = (if sprS D.2.1 S i = true then 1 else 0)) → frP (fun i _ => i = 178) OI MI →
    wp cs mX12_goStep KD Q 21 [some (vR 124), some (vI (j : Nat)), some (vI (N : Nat)), some (vI (k : Nat)), none] [] (KD, MI, ML, GR d e nw th x) := by
  intro m
  induction m with
  | zero =>
    intro k MI hk hH h177 h178 hfr
    exact v_X12_goStep_21 ⟨fun z => by omega, fun _ => hQ MI (fun i hi => h178 i (by omega)) hfr⟩
  | succ m ih =>
    intro k MI hk hH h177 h178 hfr
    have h600 := hH.1.2.1.2.1
    have p7 := hH.1.2.2.2.2.2.2
    refine v_X12_goStep_21 ?_
    simp only [Int.toNat_natCast]
    refine ⟨fun _ => ⟨by omega, ?_⟩, fun z => by omega⟩
    rintro _ rfl
    -- over those ahead
    have inner : ∀ (c p : Nat) (M : Nat → Nat → Int), p + c = k + 1 → HldR bk TD nD pl D M ML → SetB N 177 S M → (∀ i, i < k → M 178 i = (if sprS D.2.1 S i = true then 1 else 0)) → M 178 k = (if ((List.range p).any fun p => S p && (decide (p = k) || (decide ((ndA D.2.1 k).1 = 1) && decide (p ≤ k ∧ k < eS D.2.1 p)))) = true then 1 else 0) → frP (fun i _ => i = 178) OI M →
        wp cs mX12_goStep KD Q 36 [some (vR 124), some (vI (j : Nat)), some (vI (N : Nat)), some (vI (k : Nat)), some (vI (p : Nat))] [] (KD, M, ML, GR d e nw th x) := by
      intro c
      induction c with
      | zero =>
        intro p M hp hHM g177 g178 gk gfr
        refine v_X12_goStep_36 ⟨fun _ => ⟨by omega, ?_⟩, fun z => by omega⟩
        rw [show ((k : Nat) : Int) + 1 = ((k + 1 : Nat) : Int) by omega]
        refine ih (k + 1) M (by omega) hHM g177 (fun i hi => ?_) gfr
        by_cases h : i = k
        · subst h; rw [gk, sprS_eq, show p = i + 1 by omega]
        · exact g178 i (by omega)
      | succ c ihc =>
        intro p M hp hHM g177 g178 gk gfr
        obtain ⟨y, hy⟩ : ∃ y, D.2.1[k]? = some y := ⟨_, List.getElem?_eq_getElem (by omega)⟩
        have hA := hHM.1.2.1.2.2 k y hy
        have ei : (600 * (bk : Int) + ((k : Nat) : Int)).toNat = 600 * bk + k := by omega
        have fin : ∀ v : Int, v = (if ((List.range (p + 1)).any fun p => S p && (decide (p = k) || (decide ((ndA D.2.1 k).1 = 1) && decide (p ≤ k ∧ k < eS D.2.1 p)))) = true then 1 else 0) → wp cs mX12_goStep KD Q 106 [some (vR 124), some (vI (j : Nat)), some (vI (N : Nat)), some (vI (k : Nat)), some (vI (p : Nat))] [vI v, vI (k : Nat), vR 178] (KD, M, ML, GR d e nw th x) := by
          intro v hv
          refine v_X12_goStep_106 ?_
          simp only [Int.toNat_natCast]
          refine ⟨by omega, by rw [hv]; split <;> simp, ?_⟩
          rintro _ rfl
          rw [show ((p : Nat) : Int) + 1 = ((p + 1 : Nat) : Int) by omega]
          have f' : frP (fun i _ => i = 178) M (up2 M 178 k v) := frP_up rfl
          refine ⟨by omega, ihc (p + 1) _ (by omega) (HldR_g hHM f' (fun i k z => by omega)) (fun i hi => by rw [up2_ne (by decide)]; exact g177 i hi) (fun i hi => by rw [up2_nk (by omega)]; exact g178 i hi) (by rw [up2_eq]; exact hv) (frP_tr gfr f')⟩
        refine v_X12_goStep_36 ?_
        simp only [Int.toNat_natCast]
        rw [hHM.2.1, ei, hA.1, gk, g177 p (by omega)]
        have hran : ((List.range (p + 1)).any fun p => S p && (decide (p = k) || (decide ((ndA D.2.1 k).1 = 1) && decide (p ≤ k ∧ k < eS D.2.1 p)))) = (((List.range p).any fun p => S p && (decide (p = k) || (decide ((ndA D.2.1 k).1 = 1) && decide (p ≤ k ∧ k < eS D.2.1 p)))) || (S p && (decide (p = k) || (decide ((ndA D.2.1 k).1 = 1) && decide (p ≤ k ∧ k < eS D.2.1 p))))) := by
          rw [List.range_succ, List.any_append]; simp
        rw [hran, ndA_at hy] at fin
        rw [ndA_at hy]
        obtain ⟨A, hA0⟩ : ∃ A, A = ((List.range p).any fun p => S p && (decide (p = k) || (decide (y.1 = 1) && decide (p ≤ k ∧ k < eS D.2.1 p)))) := ⟨_, rfl⟩
        rw [← hA0] at fin ⊢
        refine ⟨fun z => by omega, fun _ => ⟨by omega, fun h0 => ⟨by omega, fun h1 => ?_, fun h1 => ⟨fun h2 => ?_, fun h2 => ⟨by omega, by omega, by omega, fun h3 => ?_, fun h3 => ?_⟩⟩⟩, fun h0 => ?_⟩⟩
        · have ha : A = false := by cases hz : A with | false => rfl | true => rw [hz, if_pos rfl] at h0; omega
          have hs : S p = false := by cases hz : S p with | false => rfl | true => rw [hz, if_pos rfl] at h1; omega
          exact fin 0 (by rw [ha, hs]; rfl)
        · have hs : S p = true := by cases hz : S p with | true => rfl | false => rw [hz, if_neg (by decide)] at h1; exact absurd rfl h1
          have hpk : p = k := by omega
          exact fin 1 (by rw [hs, decide_eq_true hpk]; simp)
        · have ha : A = false := by cases hz : A with | false => rfl | true => rw [hz, if_pos rfl] at h0; omega
          have hs : S p = true := by cases hz : S p with | true => rfl | false => rw [hz, if_neg (by decide)] at h1; exact absurd rfl h1
          refine c_isWithin hHM hW (by omega) (by omega) (rI_mk ?_)
          have hpk : ¬ p = k := by omega
          by_cases hin : p ≤ k ∧ k < eS D.2.1 p
          · rw [if_pos hin]
            exact ⟨fun z => by omega, fun _ => fin 1 (by rw [hs, decide_eq_true h3, decide_eq_true hin]; simp)⟩
          · rw [if_neg hin]
            exact ⟨fun _ => fin 0 (by rw [ha, hs, decide_eq_false hpk, decide_eq_false hin]; simp), fun z => absurd rfl z⟩
        · have ha : A = false := by cases hz : A with | false => rfl | true => rw [hz, if_pos rfl] at h0; omega
          have hpk : ¬ p = k := by omega
          exact fin 0 (by rw [ha, decide_eq_false h3, decide_eq_false hpk]; simp)
        · have ha : A = true := by cases hz : A with | true => rfl | false => rw [hz, if_neg (by decide)] at h0; exact absurd rfl h0
          exact fin 1 (by rw [ha]; simp)
    have f' : frP (fun i _ => i = 178) MI (up2 MI 178 k 0) := frP_up rfl
    exact inner (k + 1) 0 _ (by omega) (HldR_g hH f' (fun i k z => by omega)) (fun i hi => by rw [up2_ne (by decide)]; exact h177 i hi) (fun i hi => by rw [up2_nk (by omega)]; exact h178 i hi) (by rw [up2_eq]; rfl) (frP_tr hfr f')
theorem c_goStep {j : Nat} (hH : HldR bk TD nD pl D MI ML) (hW : WfN D.2.1) (hn : n ≤ 6000) (hT : MI 126 = T) (hby : ∀ k : Nat, (k : Int) < n → -128 ≤ T k ∧ T k < 128) (hj : j < 12) (hS : StpR T n j s MI) (hV : StV s) (h177 : SetB D.2.1.length 177 S MI)
    (hQ : ∀ MI', SetB D.2.1.length 177 (goS D.2.1 s S) MI' → frP chG MI MI' → Q none (MI', ML, GR d e nw th x)) :
    wp cs mX12_goStep KD Q 0 (padL [vR 124, vI (j : Nat)] 5) [] (KD, MI, ML, GR d e nw th x) := by
  have p7 := hH.1.2.2.2.2.2.2
  have h600 := hH.1.2.1.2.1
  have e7 := hH.2.1
  have e29 := hH.1.2.1.1
  have rest : ∀ (S' : Nat → Bool) (M : Nat → Nat → Int), goS D.2.1 s S = stpS D.2.1 s S' → SetB D.2.1.length 177 S' M → frP chG MI M → wp cs mX12_goStep KD Q 146 [some (vR 124), some (vI (j : Nat)), some (vI (D.2.1.length : Nat)), some (vI 0), none] [] (KD, M, ML, GR d e nw th x) := by
    intro S' M hgo hM hfr
    rw [hgo] at hQ
    refine c_gs146 (OI := M) h600 (fun M1 b1 f1 => ?_) D.2.1.length 0 M (by omega) (fun i hi => by omega) (frP_rfl _ _)
    have g1 : frP chG MI M1 := frP_tr hfr (frP_mono f1 (fun i k z => Or.inr (Or.inl z)))
    refine c_gs166 (OI := MI) (S := S') hW hn hby hj hV rfl (fun M2 b2 f2 => ?_) D.2.1.length 0 M1 (by omega) (by rw [frP_row g1 (fun k z => by unfold chG at z; omega)]; exact hT) (HldR_g hH g1 chG_H) (StpR_g hS g1) (fun i hi => by rw [f1 177 i (show ¬ (177 : Nat) = 178 by decide)]; exact hM i hi) (fun i hi => by rw [b1 i hi]; simp) g1
    exact c_gs298 (OI := MI) h600 hQ D.2.1.length 0 M2 (by omega) b2 (fun i hi => by omega) f2
  refine v_X12_goStep_0 ?_
  rw [e7]
  simp only [Int.toNat_natCast]
  rw [e29, hS.2.1]
  refine ⟨by omega, by omega, fun h0 => ?_, fun h0 => ?_⟩
  · have hdp : s.2.1 = false := by
      cases hz : s.2.1 with
      | false => rfl
      | true => rw [hz, if_pos rfl] at h0; omega
    exact rest S MI (by unfold goS; rw [hdp, if_neg (by decide)]) h177 (frP_rfl _ _)
  · have hdp : s.2.1 = true := by
      cases hz : s.2.1 with
      | true => rfl
      | false => rw [hz, if_neg (by decide)] at h0; exact absurd rfl h0
    refine c_gs21 (OI := MI) (S := S) hW rfl (fun M1 b1 f1 => ?_) D.2.1.length 0 MI (by omega) hH h177 (fun i hi => by omega) (frP_rfl _ _)
    refine c_gs121 (OI := MI) h600 (fun M2 b2 f2 => rest (sprS D.2.1 S) M2 (by unfold goS; rw [hdp, if_pos rfl]) b2 f2) D.2.1.length 0 M1 (by omega) b1 (fun i hi => by omega) (frP_mono f1 (fun i k z => Or.inr (Or.inl z)))
end Pe07
