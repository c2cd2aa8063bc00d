/-! The reference's reading: bank bk; a state is a place (good) or a failure. -/
def wR (i : Nat) : Nat := if i = 128 then 6000 else if 130 ≤ i ∧ i ≤ 137 then 600 else if i = 138 then 2000 else if (144 ≤ i ∧ i ≤ 147) ∨ (150 ≤ i ∧ i ≤ 152) then 30 else if i = 148 ∨ i = 149 ∨ i = 153 then 1200 else if 155 ≤ i ∧ i ≤ 163 then 800 else if i = 164 ∨ i = 165 then 6400 else if i = 166 then 850 else 1
def fldR (k : Nat) : Prop := k = 4 ∨ k = 5 ∨ k = 6 ∨ k = 51 ∨ k = 52 ∨ k = 53 ∨ k = 59 ∨ k = 60 ∨ k = 61 ∨ k = 62
def fldB (k : Nat) : Prop := fldR k ∨ k = 64
def frR (bk : Nat) (OI OL MI ML : Nat → Nat → Int) : Prop := (∀ i, i ≠ 124 → ¬ (127 ≤ i ∧ i ≤ 173) → MI i = OI i ∧ ML i = OL i) ∧ (∀ k, ¬ fldB k → MI 124 k = OI 124 k ∧ ML 124 k = OL 124 k) ∧
  ∀ i k, 127 ≤ i → i ≤ 167 → ¬ (wR i * bk ≤ k ∧ k < wR i * (bk + 1)) → MI i k = OI i k ∧ ML i k = OL i k
def BasR (bk : Nat) (T : Nat → Int) (n : Int) (OI OL MI ML : Nat → Nat → Int) : Prop := MI 126 = T ∧ MI 124 3 = n ∧ (0 ≤ n ∧ n ≤ 6000) ∧ MI 124 8 = (bk : Int) ∧ bk ≤ 1 ∧ (∀ k : Nat, (k : Int) < n → MI 128 (6000 * bk + k) = T k) ∧ frR bk OI OL MI ML
def StR (bk : Nat) (T : Nat → Int) (n : Int) (OI OL : Nat → Nat → Int) (B : Int) (s : PR Int) (MI ML : Nat → Nat → Int) : Prop := BasR bk T n OI OL MI ML ∧ (20000 ≤ B ∧ B ≤ 60000) ∧ match s with
  | .inr a => MI 124 4 = a ∧ MI 124 5 = 0 ∧ MI 124 6 = -1 ∧ 0 ≤ a ∧ a ≤ n
  | .inl (f, p) => MI 124 5 = f ∧ f ≠ 0 ∧ MI 124 6 = p ∧ 0 ≤ MI 124 4 ∧ MI 124 4 ≤ B
/-- only the reading's five fields have changed -/
def mvr (MI MI' : Nat → Nat → Int) : Prop := (∀ i, i ≠ 124 → MI' i = MI i) ∧ ∀ k, k ≠ 4 → k ≠ 5 → k ≠ 6 → k ≠ 51 → k ≠ 52 → MI' 124 k = MI 124 k
theorem mvr_tr {A B C : Nat → Nat → Int} (h : mvr A B) (k : mvr B C) : mvr A C := ⟨fun i hi => (k.1 i hi).trans (h.1 i hi), fun j a b c d e => (k.2 j a b c d e).trans (h.2 j a b c d e)⟩
theorem mvr_rfl (A : Nat → Nat → Int) : mvr A A := ⟨fun _ _ => rfl, fun _ _ _ _ _ _ => rfl⟩
theorem rs_r {MI : Nat → Nat → Int} {a w pl sz br : Int} : rs MI a w pl sz br 124 4 = a ∧ rs MI a w pl sz br 124 5 = w ∧ rs MI a w pl sz br 124 6 = pl ∧ rs MI a w pl sz br 124 51 = sz ∧ rs MI a w pl sz br 124 52 = br := by simp [rs]
theorem rs_row {MI : Nat → Nat → Int} {a w pl sz br : Int} {i : Nat} (hi : i ≠ 124) : rs MI a w pl sz br i = MI i := funext fun k => rs_off hi k
theorem mvr_rs {MI : Nat → Nat → Int} {a w pl sz br : Int} : mvr MI (rs MI a w pl sz br) := ⟨fun i hi => rs_row hi, fun k h1 h2 h3 h4 h5 => by simp [rs, h1, h2, h3, h4, h5]⟩
section P83
variable {cs : Cs} {Q : Option AV → Mm → Prop} {MI ML OI OL : Nat → Nat → Int} {bk d e nw th x : Nat} {T : Nat → Int} {n B : Int} {s : PR Int}
theorem frR_mvr {MI' : Nat → Nat → Int} (hf : frR bk OI OL MI ML) (hm : mvr MI MI') : frR bk OI OL MI' ML := by
  refine ⟨fun i h1 h2 => by rw [hm.1 i h1]; exact hf.1 i h1 h2, fun k hk => ?_, fun i k h1 h2 h3 => by rw [hm.1 i (by omega)]; exact hf.2.2 i k h1 h2 h3⟩
  unfold fldB fldR at hk
  rw [hm.2 k (by omega) (by omega) (by omega) (by omega) (by omega)]
  exact hf.2.1 k (by unfold fldB fldR; exact hk)
theorem BasR_mvr {MI' : Nat → Nat → Int} (hb : BasR bk T n OI OL MI ML) (hm : mvr MI MI') : BasR bk T n OI OL MI' ML := by
  obtain ⟨a1, a2, a3, a4, a5, a6, a7⟩ := hb
  exact ⟨by rw [hm.1 126 (by decide)]; exact a1, by rw [hm.2 3 (by decide) (by decide) (by decide) (by decide) (by decide)]; exact a2, a3, by rw [hm.2 8 (by decide) (by decide) (by decide) (by decide) (by decide)]; exact a4, a5, by rw [hm.1 128 (by decide)]; exact a6, frR_mvr a7 hm⟩
theorem StR_good {a sz br : Int} (hs : StR bk T n OI OL B s MI ML) (ha : 0 ≤ a ∧ a ≤ n) : StR bk T n OI OL B (.inr a) (rs MI a 0 (-1) sz br) ML :=
  ⟨BasR_mvr hs.1 mvr_rs, hs.2.1, rs_r.1, rs_r.2.1, rs_r.2.2.1, ha.1, ha.2⟩
theorem StR_bad {g f p sz br : Int} (hs : StR bk T n OI OL B s MI ML) (hg : 0 ≤ g ∧ g ≤ B) (hf : f ≠ 0) : StR bk T n OI OL B (.inl (f, p)) (rs MI g f p sz br) ML :=
  ⟨BasR_mvr hs.1 mvr_rs, hs.2.1, rs_r.2.1, hf, rs_r.2.2.1, by rw [rs_r.1]; exact hg.1, by rw [rs_r.1]; exact hg.2⟩
theorem wp_rs {mt : Mth} {L : Lc} (hw : wp cs mt KD Q 0 L [] (KD, Mr MI ML d e nw th x (MI 124 4) (MI 124 5) (MI 124 6) (MI 124 51) (MI 124 52))) : wp cs mt KD Q 0 L [] (KD, MI, ML, GR d e nw th x) := by
  unfold Mr at hw; rw [rs_id] at hw; exact hw
theorem ux_isGood (hs : StR bk T n OI OL B s MI ML) (hT : ∀ a, s = .inr a → Q (some (vI 1)) (MI, ML, GR d e nw th x)) (hF : ∀ f p, s = .inl (f, p) → Q (some (vI 0)) (MI, ML, GR d e nw th x)) : wp cs mX12_isGood KD Q 0 (padL [vR 124] 1) [] (KD, MI, ML, GR d e nw th x) := by
  refine wp_rs (w_X12_isGood ?_)
  unfold Mr; rw [rs_id]
  rcases s with ⟨f, p⟩ | a
  · have := hs.2.2
    rw [show bI (MI 124 5 = 0) = 0 from if_neg (by rw [this.1]; exact this.2.1)]
    exact hF f p rfl
  · have := hs.2.2
    rw [show bI (MI 124 5 = 0) = 1 from if_pos this.2.1]
    exact hT a rfl
theorem ux_octet {i : Int} (hs : StR bk T n OI OL B s MI ML) (hi : 0 ≤ i) (hQ : Q (some (vI (ob T n i))) (MI, ML, GR d e nw th x)) : wp cs mX12_octet KD Q 0 (padL [vR 124, vI i] 2) [] (KD, MI, ML, GR d e nw th x) := by
  obtain ⟨a1, a2, a3, -⟩ := hs.1
  refine wp_rs (w_X12_octet (by omega) (by omega) hi ?_)
  unfold Mr; rw [rs_id, a1, a2]; exact hQ
theorem ux_stands {z : Int} {m : Nat} {a : Int} (hm : m ≤ 8) (hs : StR bk T n OI OL B (.inr a) MI ML) (hT : stb T n a (wbl z m) = true → Q (some (vI 1)) (MI, ML, GR d e nw th x)) (hF : stb T n a (wbl z m) = false → Q (some (vI 0)) (MI, ML, GR d e nw th x)) : wp cs mX12_stands KD Q 0 (padL [vR 124, vL z, vI (m : Int)] 6) [] (KD, MI, ML, GR d e nw th x) := by
  obtain ⟨a1, a2, a3, -⟩ := hs.1
  obtain ⟨b1, b2, b3, b4, b5⟩ := hs.2.2
  refine wp_rs (w_X12_stands hm (by omega) (by omega) (by omega) (fun q => ?_) (fun q => ?_))
  · unfold Mr; rw [rs_id]; rw [a1, a2, b1] at q; exact hT q
  · unfold Mr; rw [rs_id]; rw [a1, a2, b1] at q; exact hF q
theorem ux_fail {f p : Int} (hf : f ≠ 0) {a : Int} (hs : StR bk T n OI OL B (.inr a) MI ML) (hQ : ∀ MI', StR bk T n OI OL B (.inl (f, p)) MI' ML → mvr MI MI' → Q none (MI', ML, GR d e nw th x)) : wp cs mX12_fail KD Q 0 (padL [vR 124, vI f, vI p] 3) [] (KD, MI, ML, GR d e nw th x) := by
  obtain ⟨a1, a2, a3, -⟩ := hs.1
  obtain ⟨b1, b2, b3, b4, b5⟩ := hs.2.2
  have hB := hs.2.1
  exact wp_rs (w_X12_fail (fun _ => hQ _ (StR_bad hs (by omega) hf) mvr_rs) (fun q => absurd b2 q))
theorem ux_maybeS (hs : StR bk T n OI OL B s MI ML) (hQ : ∀ MI', StR bk T n OI OL B (pb s fun a => .inr (sk T n a)) MI' ML → mvr MI MI' → MI' 124 51 = MI 124 51 → MI' 124 52 = MI 124 52 → Q none (MI', ML, GR d e nw th x)) : wp cs mX12_maybeS KD Q 0 (padL [vR 124] 1) [] (KD, MI, ML, GR d e nw th x) := by
  obtain ⟨a1, a2, a3, -⟩ := hs.1
  refine wp_rs ?_
  rcases s with ⟨f, p⟩ | a
  · obtain ⟨b1, b2, b3, b4, b5⟩ := hs.2.2
    rw [b1]
    refine w_maybeS_b b2 ?_
    rw [← b1]; unfold Mr; rw [rs_id]; exact hQ MI hs (mvr_rfl _) rfl rfl
  · obtain ⟨b1, b2, b3, b4, b5⟩ := hs.2.2
    have hl := sk_le T n a
    rw [b2, b3, b1]
    refine w_maybeS_g (by omega) (by omega) (by omega) ?_
    rw [a1, a2]
    exact hQ _ (StR_good hs (by omega)) mvr_rs rs_r.2.2.2.1 rs_r.2.2.2.2
theorem ux_mustS (hs : StR bk T n OI OL B s MI ML) (hQ : ∀ MI', StR bk T n OI OL B (pb s (msS T n)) MI' ML → mvr MI MI' → MI' 124 51 = MI 124 51 → Q none (MI', ML, GR d e nw th x)) : wp cs mX12_mustS KD Q 0 (padL [vR 124] 1) [] (KD, MI, ML, GR d e nw th x) := by
  obtain ⟨a1, a2, a3, -⟩ := hs.1
  have hB := hs.2.1
  refine wp_rs ?_
  rcases s with ⟨f, p⟩ | a
  · obtain ⟨b1, b2, b3, b4, b5⟩ := hs.2.2
    rw [b1]
    refine w_mustS_b b2 ?_
    rw [← b1]; unfold Mr; rw [rs_id]; exact hQ MI hs (mvr_rfl _) rfl
  · obtain ⟨b1, b2, b3, b4, b5⟩ := hs.2.2
    have hl := sk_le T n a
    rw [pb_r] at hQ
    rw [b2, b3, b1]
    refine w_mustS_g (by omega) (by omega) (by omega) (fun q => ?_) (fun q => ?_)
    · rw [a1, a2] at q ⊢
      unfold msS at hQ; rw [if_pos q] at hQ
      exact hQ _ (StR_good hs (by omega)) mvr_rs rs_r.2.2.2.1
    · rw [a1, a2] at q
      unfold msS at hQ; rw [if_neg q] at hQ
      exact hQ _ (StR_bad hs (by omega) (by decide)) mvr_rs rs_r.2.2.2.1
theorem ux_passes {c : Int} (hs : StR bk T n OI OL B s MI ML) (hT : ∀ y MI', pb s (fun a => mbS T n a c) = .inr y → StR bk T n OI OL B (.inr y) MI' ML → mvr MI MI' → MI' 124 51 = MI 124 51 → Q (some (vI 1)) (MI', ML, GR d e nw th x))
    (hF : ∀ f p MI', pb s (fun a => mbS T n a c) = .inl (f, p) → StR bk T n OI OL B (.inl (f, p)) MI' ML → mvr MI MI' → MI' 124 51 = MI 124 51 → Q (some (vI 0)) (MI', ML, GR d e nw th x)) (hc : c ≠ -1) : wp cs mX12_passes KD Q 0 (padL [vR 124, vI c] 2) [] (KD, MI, ML, GR d e nw th x) := by
  obtain ⟨a1, a2, a3, -⟩ := hs.1
  have hB := hs.2.1
  refine wp_rs ?_
  rcases s with ⟨f, p⟩ | a
  · obtain ⟨b1, b2, b3, b4, b5⟩ := hs.2.2
    rw [b1]
    refine w_passes_b b2 (by omega) ?_
    rw [← b1]; unfold Mr; rw [rs_id]; exact hF f p MI rfl hs (mvr_rfl _) rfl
  · obtain ⟨b1, b2, b3, b4, b5⟩ := hs.2.2
    rw [pb_r] at hT hF
    rw [b2, b3, b1]
    refine w_passes_g (by omega) (by omega) (by omega) (fun q => ?_) (fun q => ?_)
    · rw [a1, a2] at q
      have := ob_lt hc q
      exact hT (a + 1) _ (by unfold mbS; rw [if_pos q]) (StR_good hs (by omega)) mvr_rs rs_r.2.2.2.1
    · rw [a1, a2] at q
      exact hF (-1) a _ (by unfold mbS; rw [if_neg q]) (StR_bad hs (by omega) (by decide)) mvr_rs rs_r.2.2.2.1
/-- takeName: where it began; how long it is -/
theorem ux_takeName (hs : StR bk T n OI OL B s MI ML) (hT : ∀ a y MI', s = .inr a → nmS T n a = .inr y → StR bk T n OI OL B (.inr y) MI' ML → mvr MI MI' → MI' 124 51 = y - a → Q (some (vI a)) (MI', ML, GR d e nw th x))
    (hF : ∀ f p g MI', pb s (nmS T n) = .inl (f, p) → 0 ≤ g ∧ g ≤ 60000 → StR bk T n OI OL B (.inl (f, p)) MI' ML → mvr MI MI' → Q (some (vI g)) (MI', ML, GR d e nw th x)) : wp cs mX12_takeName KD Q 0 (padL [vR 124] 2) [] (KD, MI, ML, GR d e nw th x) := by
  obtain ⟨a1, a2, a3, -⟩ := hs.1
  have hB := hs.2.1
  refine wp_rs ?_
  rcases s with ⟨f, p⟩ | a
  · obtain ⟨b1, b2, b3, b4, b5⟩ := hs.2.2
    rw [b1, b3]
    refine w_takeName_b b2 (by omega) ?_
    exact hF f p _ _ rfl (by omega) (StR_bad hs (by omega) b2) mvr_rs
  · obtain ⟨b1, b2, b3, b4, b5⟩ := hs.2.2
    rw [b2, b3, b1]
    refine w_takeName_g (by omega) (by omega) (by omega) (fun y q => ?_) (fun f p g z hg q hf => ?_)
    · rw [a1, a2] at q
      have := nmS_ok q
      exact hT a y _ rfl q (StR_good hs (by omega)) mvr_rs rs_r.2.2.2.1
    · rw [a1, a2] at q
      exact hF f p a _ (by rw [pb_r]; exact q) (by omega) (StR_bad hs (by omega) hf) mvr_rs
theorem ux_comment {a : Int} (hs : StR bk T n OI OL B (.inr a) MI ML) (hQ : ∀ MI', StR bk T n OI OL B (cmS T n (a + 4)) MI' ML → mvr MI MI' → Q none (MI', ML, GR d e nw th x)) : wp cs mX12_comment KD Q 0 (padL [vR 124] 2) [] (KD, MI, ML, GR d e nw th x) := by
  obtain ⟨a1, a2, a3, -⟩ := hs.1
  have hB := hs.2.1
  obtain ⟨b1, b2, b3, b4, b5⟩ := hs.2.2
  refine wp_rs ?_
  rw [b2, b3, b1]
  refine w_comment_g (by omega) (by omega) (by omega) (fun y q => ?_) (fun f p g hg q hf => ?_)
  · rw [a1, a2] at q
    have := cmS_le (by omega) q
    rw [q] at hQ
    exact hQ _ (StR_good hs (by omega)) mvr_rs
  · rw [a1, a2] at q
    rw [q] at hQ
    exact hQ _ (StR_bad hs (by omega) hf) mvr_rs
theorem ux_misc (hs : StR bk T n OI OL B s MI ML) (hQ : ∀ MI', StR bk T n OI OL B (pb s (mcS T n)) MI' ML → mvr MI MI' → Q none (MI', ML, GR d e nw th x)) : wp cs mX12_misc KD Q 0 (padL [vR 124] 1) [] (KD, MI, ML, GR d e nw th x) := by
  obtain ⟨a1, a2, a3, -⟩ := hs.1
  have hB := hs.2.1
  refine wp_rs ?_
  rcases s with ⟨f, p⟩ | a
  · obtain ⟨b1, b2, b3, b4, b5⟩ := hs.2.2
    rw [b1]
    refine w_misc_b b2 ?_
    rw [← b1]; unfold Mr; rw [rs_id]; exact hQ MI hs (mvr_rfl _)
  · obtain ⟨b1, b2, b3, b4, b5⟩ := hs.2.2
    rw [pb_r] at hQ
    rw [b2, b3, b1]
    refine w_misc_g (by omega) (by omega) (by omega) (fun y q => ?_) (fun f p g hg q hf => ?_)
    · rw [a1, a2] at q
      have := mcS_le b4 b5 q
      rw [q] at hQ
      exact hQ _ (StR_good hs (by omega)) mvr_rs
    · rw [a1, a2] at q
      rw [q] at hQ
      exact hQ _ (StR_bad hs (by omega) hf) mvr_rs
theorem ux_takePiece {a : Int} (hs : StR bk T n OI OL B (.inr a) MI ML) (hT : ∀ c y MI', pcS T n a = .inr (c, y) → StR bk T n OI OL B (.inr y) MI' ML → mvr MI MI' → MI' 124 52 = bI (ob T n a = 38) → Q (some (vI c)) (MI', ML, GR d e nw th x))
    (hF : ∀ f p MI', pcS T n a = .inl (f, p) → StR bk T n OI OL B (.inl (f, p)) MI' ML → mvr MI MI' → Q (some (vI (-1))) (MI', ML, GR d e nw th x)) : wp cs mX12_takePiece KD Q 0 (padL [vR 124] 5) [] (KD, MI, ML, GR d e nw th x) := by
  obtain ⟨a1, a2, a3, -⟩ := hs.1
  have hB := hs.2.1
  obtain ⟨b1, b2, b3, b4, b5⟩ := hs.2.2
  refine wp_rs ?_
  rw [b2, b3, b1]
  refine w_takePiece_g (by omega) (by omega) (by omega) (fun c y q => ?_) (fun f p g z hg q hf => ?_)
  · rw [a1, a2] at q ⊢
    have := pcS_ok b4 q
    exact hT c y _ q (StR_good hs (by omega)) mvr_rs rs_r.2.2.2.2
  · rw [a1, a2] at q
    exact hF f p _ q (StR_bad hs (by omega) hf) mvr_rs
end P83
