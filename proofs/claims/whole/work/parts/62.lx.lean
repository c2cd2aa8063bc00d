/-! The class's reading: the cursor stands at h; outside of what a reading writes nothing has changed since OI, OL. -/
def regC (b i : Nat) : Prop := i = 2 ∨ (4 ≤ i ∧ i ≤ 10) ∨ (b ≤ i ∧ i ≤ b + 42)
def frC (b : Nat) (OI OL MI ML : Nat → Nat → Int) : Prop := ∀ i, ¬ regC b i → MI i = OI i ∧ ML i = OL i
def CurC (b : Nat) (T : Nat → Int) (n : Int) (OI OL : Nat → Nat → Int) (h : Int) (MI ML : Nat → Nat → Int) : Prop :=
  MI 1 = T ∧ MI 2 1 = n ∧ (0 ≤ n ∧ n ≤ 6000 ∧ MI 2 6 = -1) ∧ MI 2 2 = h ∧ (0 ≤ h ∧ h ≤ n) ∧ frC b OI OL MI ML
def FaiC (b : Nat) (OI OL : Nat → Nat → Int) (f p : Int) (MI ML : Nat → Nat → Int) : Prop := MI 2 5 = f ∧ MI 2 6 = p ∧ frC b OI OL MI ML
def mvd (MI MI' : Nat → Nat → Int) : Prop := ∀ i, i ≠ 2 → MI' i = MI i
theorem mvd_tr {A B C : Nat → Nat → Int} (h : mvd A B) (k : mvd B C) : mvd A C := fun i hi => (k i hi).trans (h i hi)
theorem cu_r2 {MI : Nat → Nat → Int} {h nf nl ft fa : Int} : cu MI h nf nl ft fa 2 2 = h ∧ cu MI h nf nl ft fa 2 1 = MI 2 1 ∧ cu MI h nf nl ft fa 2 3 = nf ∧ cu MI h nf nl ft fa 2 4 = nl ∧ cu MI h nf nl ft fa 2 5 = ft ∧ cu MI h nf nl ft fa 2 6 = fa := by simp [cu]
theorem cu_row {MI : Nat → Nat → Int} {h nf nl ft fa : Int} {i : Nat} (hi : i ≠ 2) : cu MI h nf nl ft fa i = MI i := funext fun k => cu_off hi k
section P62
variable {cs : Cs} {Q : Option AV → Mm → Prop} {MI ML OI OL : Nat → Nat → Int} {b d e nw th : Nat} {T : Nat → Int} {n h : Int}
theorem CurC_cu (hc : CurC b T n OI OL h MI ML) {h' nf nl ft : Int} (hh : 0 ≤ h' ∧ h' ≤ n) : CurC b T n OI OL h' (cu MI h' nf nl ft (MI 2 6)) ML := by
  obtain ⟨a1, a2, a3, a4, a5, a6⟩ := hc
  refine ⟨by rw [cu_row (by decide)]; exact a1, by rw [cu_r2.2.1]; exact a2, ⟨a3.1, a3.2.1, by rw [cu_r2.2.2.2.2.2]; exact a3.2.2⟩, cu_r2.1, hh, fun i hi => ?_⟩
  have : i ≠ 2 := fun q => hi (Or.inl q)
  rw [cu_row this]
  exact a6 i hi
theorem FaiC_cu (hc : CurC b T n OI OL h MI ML) {h' nf nl ft fa : Int} : FaiC b OI OL ft fa (cu MI h' nf nl ft fa) ML := by
  refine ⟨cu_r2.2.2.2.2.1, cu_r2.2.2.2.2.2, fun i hi => ?_⟩
  have : i ≠ 2 := fun q => hi (Or.inl q)
  rw [cu_row this]
  exact hc.2.2.2.2.2 i hi
theorem mvd_cu {h' nf nl ft fa : Int} : mvd MI (cu MI h' nf nl ft fa) := fun i hi => cu_row hi
/-- memory as the cursor's words see it -/
theorem wp_cu {mt : Mth} {L : Lc} (hw : wp cs mt KD Q 0 L [] (KD, Mc MI ML d e nw th (MI 2 2) (MI 2 3) (MI 2 4) (MI 2 5) (MI 2 6))) : wp cs mt KD Q 0 L [] (KD, MI, ML, GR d e nw th 1) := by
  unfold Mc at hw; rw [cu_id] at hw; exact hw
theorem lx_peek (hc : CurC b T n OI OL h MI ML) (hQ : Q (some (vI (ob T n h))) (MI, ML, GR d e nw th 1)) : wp cs mX1_peek KD Q 0 (padL [vR 2] 1) [] (KD, MI, ML, GR d e nw th 1) := by
  obtain ⟨a1, a2, a3, a4, a5, a6⟩ := hc
  refine wp_cu (w_X1_peek (by omega) ?_)
  rw [cu_id, a1, a2, a4]; exact hQ
theorem lx_takeIf {k : Nat} (hk : k < strB.length) (hc : CurC b T n OI OL h MI ML)
    (hT : stb T n h (sB k) = true → ∀ MI', CurC b T n OI OL (h + sl k) MI' ML → mvd MI MI' → Q (some (vI 1)) (MI', ML, GR d e nw th 1)) (hF : stb T n h (sB k) = false → Q (some (vI 0)) (MI, ML, GR d e nw th 1)) :
    wp cs mX1_takeIf KD Q 0 (padL [vR 2, vR (1000003 + k)] 4) [] (KD, MI, ML, GR d e nw th 1) := by
  have hc' := hc
  obtain ⟨a1, a2, a3, a4, a5, a6⟩ := hc
  refine wp_cu (w_X1_takeIf hk (by omega) (by omega) (by omega) (fun hs => ?_) (fun hs => ?_))
  · rw [a1, a2, a4] at hs
    have hr := stb_room _ _ a5.1 (sB_nn hk) (sB_ne k hk) hs
    rw [a4]
    exact hT hs _ (CurC_cu hc' (by unfold sl sB at *; omega)) mvd_cu
  · rw [a1, a2, a4] at hs
    unfold Mc; rw [cu_id]; exact hF hs
theorem lx_take {k : Nat} (hk : k < strB.length) (hc : CurC b T n OI OL h MI ML)
    (hT : stb T n h (sB k) = true → ∀ MI', CurC b T n OI OL (h + sl k) MI' ML → mvd MI MI' → Q (some (vI 1)) (MI', ML, GR d e nw th 1)) (hF : stb T n h (sB k) = false → ∀ MI', FaiC b OI OL (-1) h MI' ML → Q (some (vI 0)) (MI', ML, GR d e nw th 1)) :
    wp cs mX1_take KD Q 0 (padL [vR 2, vR (1000003 + k)] 2) [] (KD, MI, ML, GR d e nw th 1) := by
  have hc' := hc
  obtain ⟨a1, a2, a3, a4, a5, a6⟩ := hc
  refine wp_cu (w_X1_take hk (by omega) (by omega) (by omega) (fun hs => ?_) (fun hs => ?_))
  · rw [a1, a2, a4] at hs
    have hr := stb_room _ _ a5.1 (sB_nn hk) (sB_ne k hk) hs
    rw [a4]
    exact hT hs _ (CurC_cu hc' (by unfold sl sB at *; omega)) mvd_cu
  · rw [a1, a2, a4] at hs
    rw [a4]
    exact hF hs _ (FaiC_cu hc')
/-- a byte must stand -/
theorem lx_take1 {k : Nat} {c : Int} (hk : k < strB.length) (hb : sB k = [c]) (hc : CurC b T n OI OL h MI ML)
    (hT : ∀ y, mbS T n h c = .inr y → ∀ MI', CurC b T n OI OL y MI' ML → mvd MI MI' → Q (some (vI 1)) (MI', ML, GR d e nw th 1)) (hF : ∀ f p, mbS T n h c = .inl (f, p) → ∀ MI', FaiC b OI OL f p MI' ML → Q (some (vI 0)) (MI', ML, GR d e nw th 1)) :
    wp cs mX1_take KD Q 0 (padL [vR 2, vR (1000003 + k)] 2) [] (KD, MI, ML, GR d e nw th 1) := by
  have hl : sl k = 1 := by unfold sl; rw [show strB.getD k [] = [c] from hb]; rfl
  refine lx_take hk hc (fun hs => ?_) (fun hs => ?_)
  · rw [hb, stb1] at hs
    rw [hl]
    exact hT _ (by unfold mbS; rw [if_pos hs])
  · rw [hb] at hs
    exact hF _ _ (by unfold mbS; rw [if_neg (fun q => by rw [stb1.mpr q] at hs; cases hs)])
theorem lx_skipSpace (hc : CurC b T n OI OL h MI ML) (hQ : ∀ MI', CurC b T n OI OL (sk T n h) MI' ML → mvd MI MI' → Q none (MI', ML, GR d e nw th 1)) : wp cs mX1_skipSpace KD Q 0 (padL [vR 2] 1) [] (KD, MI, ML, GR d e nw th 1) := by
  have hc' := hc
  obtain ⟨a1, a2, a3, a4, a5, a6⟩ := hc
  have hl := sk_le T n h
  refine wp_cu (w_X1_skipSpace (by omega) (by omega) ?_)
  rw [a1, a2, a4]
  exact hQ _ (CurC_cu hc' (by omega)) mvd_cu
theorem lx_needSpace (hc : CurC b T n OI OL h MI ML)
    (hT : ∀ y, msS T n h = .inr y → ∀ MI', CurC b T n OI OL y MI' ML → mvd MI MI' → Q (some (vI 1)) (MI', ML, GR d e nw th 1)) (hF : ∀ f p, msS T n h = .inl (f, p) → ∀ MI', FaiC b OI OL f p MI' ML → Q (some (vI 0)) (MI', ML, GR d e nw th 1)) :
    wp cs mX1_needSpace KD Q 0 (padL [vR 2] 1) [] (KD, MI, ML, GR d e nw th 1) := by
  have hc' := hc
  obtain ⟨a1, a2, a3, a4, a5, a6⟩ := hc
  have hl := sk_le T n h
  refine wp_cu (w_X1_needSpace (by omega) (by omega) (by omega) (fun hs => ?_) (fun hs => ?_))
  · rw [a1, a2, a4] at hs ⊢
    exact hT _ (by unfold msS; rw [if_pos hs]) _ (CurC_cu hc' (by omega)) mvd_cu
  · rw [a1, a2, a4] at hs
    rw [a4]
    exact hF _ _ (by unfold msS; rw [if_neg hs]) _ (FaiC_cu hc')
theorem lx_reachesName (hc : CurC b T n OI OL h MI ML)
    (hT : h < sk T n h ∧ isNs (ob T n (sk T n h)) → ∀ MI', CurC b T n OI OL (sk T n h) MI' ML → mvd MI MI' → Q (some (vI 1)) (MI', ML, GR d e nw th 1))
    (hF : ¬ (h < sk T n h ∧ isNs (ob T n (sk T n h))) → ∀ MI', CurC b T n OI OL (sk T n h) MI' ML → mvd MI MI' → Q (some (vI 0)) (MI', ML, GR d e nw th 1)) :
    wp cs mX1_reachesName KD Q 0 (padL [vR 2] 2) [] (KD, MI, ML, GR d e nw th 1) := by
  have hc' := hc
  obtain ⟨a1, a2, a3, a4, a5, a6⟩ := hc
  have hl := sk_le T n h
  refine wp_cu (w_X1_reachesName (by omega) (by omega) (by omega) (fun hs => ?_) (fun hs => ?_))
  · rw [a1, a2, a4] at hs ⊢
    exact hT hs _ (CurC_cu hc' (by omega)) mvd_cu
  · rw [a1, a2, a4] at hs ⊢
    exact hF hs _ (CurC_cu hc' (by omega)) mvd_cu
theorem tokS_ok {T : Nat → Int} {n h y : Int} (hy : tokS T n h = .inr y) : h < y ∧ y - h ≤ 20 ∧ y = nme T n h ∧ (h ≤ n → y ≤ n) := by
  have hl := nme_le T n h
  unfold tokS at hy
  split at hy
  · cases hy
  · next h1 =>
    split at hy
    · next h2 => cases hy; exact ⟨by omega, h2, rfl, hl.2⟩
    · cases hy
theorem nmS_ok {T : Nat → Int} {n h y : Int} (hy : nmS T n h = .inr y) : h < y ∧ y - h ≤ 20 ∧ y = nme T n h ∧ (h ≤ n → y ≤ n) := by
  unfold nmS at hy
  split at hy
  · exact tokS_ok hy
  · cases hy
/-- the NAME that was read last -/
def lastN (MI : Nat → Nat → Int) (f l : Int) : Prop := MI 2 3 = f ∧ MI 2 4 = l
theorem lx_needName (hc : CurC b T n OI OL h MI ML)
    (hT : ∀ y, nmS T n h = .inr y → ∀ MI', CurC b T n OI OL y MI' ML → mvd MI MI' → lastN MI' h (y - h) → Q (some (vI 1)) (MI', ML, GR d e nw th 1)) (hF : ∀ f p, nmS T n h = .inl (f, p) → ∀ MI', FaiC b OI OL f p MI' ML → Q (some (vI 0)) (MI', ML, GR d e nw th 1)) :
    wp cs mX1_needName KD Q 0 (padL [vR 2] 1) [] (KD, MI, ML, GR d e nw th 1) := by
  have hc' := hc
  obtain ⟨a1, a2, a3, a4, a5, a6⟩ := hc
  refine wp_cu (w_X1_needName (by omega) (by omega) (by omega) (fun y hs => ?_) (fun f p u v w hs => ?_))
  · rw [a1, a2, a4] at hs
    have hl := nmS_ok hs
    rw [a4]
    exact hT y hs _ (CurC_cu hc' (by omega)) mvd_cu ⟨cu_r2.2.2.1, cu_r2.2.2.2.1⟩
  · rw [a1, a2, a4] at hs
    exact hF f p hs _ (FaiC_cu hc')
theorem lx_needToken (hc : CurC b T n OI OL h MI ML)
    (hT : ∀ y, tokS T n h = .inr y → ∀ MI', CurC b T n OI OL y MI' ML → mvd MI MI' → lastN MI' h (y - h) → Q (some (vI 1)) (MI', ML, GR d e nw th 1)) (hF : ∀ f p, tokS T n h = .inl (f, p) → ∀ MI', FaiC b OI OL f p MI' ML → Q (some (vI 0)) (MI', ML, GR d e nw th 1)) :
    wp cs mX1_needToken KD Q 0 (padL [vR 2] 1) [] (KD, MI, ML, GR d e nw th 1) := by
  have hc' := hc
  obtain ⟨a1, a2, a3, a4, a5, a6⟩ := hc
  refine wp_cu (w_X1_needToken (by omega) (by omega) (by omega) (fun y hs => ?_) (fun f p u v w hs => ?_))
  · rw [a1, a2, a4] at hs
    have hl := tokS_ok hs
    rw [a4]
    exact hT y hs _ (CurC_cu hc' (by omega)) mvd_cu ⟨cu_r2.2.2.1, cu_r2.2.2.2.1⟩
  · rw [a1, a2, a4] at hs
    exact hF f p hs _ (FaiC_cu hc')
theorem lx_refuse {f p : Int} (hc : frC b OI OL MI ML) (hQ : ∀ MI', FaiC b OI OL f p MI' ML → Q (some (vI 0)) (MI', ML, GR d e nw th 1)) : wp cs mX1_refuse KD Q 0 (padL [vR 2, vI f, vI p] 3) [] (KD, MI, ML, GR d e nw th 1) := by
  refine wp_cu (w_X1_refuse (hQ _ ⟨cu_r2.2.2.2.2.1, cu_r2.2.2.2.2.2, fun i hi => ?_⟩))
  have : i ≠ 2 := fun q => hi (Or.inl q)
  rw [cu_row this]
  exact hc i hi
end P62
theorem mcF_le (T : Nat → Int) (n : Int) : ∀ (k : Nat) (h y : Int), 0 ≤ h → h ≤ n → mcF T n k h = .inr y → h ≤ y ∧ y ≤ n
  | 0, h, y, h0, h1, hy => by simp only [mcF] at hy; cases hy; omega
  | k + 1, h, y, h0, h1, hy => by
    have hl := sk_le T n h
    unfold mcF at hy
    split at hy
    · split at hy
      · cases hy
      · next w hw =>
        have a := cmS_le (by omega) hw
        have c := mcF_le T n k w y (by omega) (by omega) hy
        omega
    · cases hy; omega
theorem mcS_le {T : Nat → Int} {n h y : Int} (h0 : 0 ≤ h) (h1 : h ≤ n) (hy : mcS T n h = .inr y) : h ≤ y ∧ y ≤ n := mcF_le T n _ h y h0 h1 hy
section P62b
variable {cs : Cs} {Q : Option AV → Mm → Prop} {MI ML OI OL : Nat → Nat → Int} {b d e nw th : Nat} {T : Nat → Int} {n h : Int}
theorem lx_skipComments (hc : CurC b T n OI OL h MI ML)
    (hT : ∀ y, mcS T n h = .inr y → ∀ MI', CurC b T n OI OL y MI' ML → mvd MI MI' → Q (some (vI 1)) (MI', ML, GR d e nw th 1)) (hF : ∀ f p, mcS T n h = .inl (f, p) → ∀ MI', FaiC b OI OL f p MI' ML → Q (some (vI 0)) (MI', ML, GR d e nw th 1)) :
    wp cs mX1_skipComments KD Q 0 (padL [vR 2] 2) [] (KD, MI, ML, GR d e nw th 1) := by
  have hc' := hc
  obtain ⟨a1, a2, a3, a4, a5, a6⟩ := hc
  refine wp_cu (w_X1_skipComments (by omega) (by omega) (by omega) (fun y hs => ?_) (fun f p u hs => ?_))
  · rw [a1, a2, a4] at hs
    have hl := mcS_le a5.1 a5.2 hs
    exact hT y hs _ (CurC_cu hc' (by omega)) mvd_cu
  · rw [a1, a2, a4] at hs
    exact hF f p hs _ (FaiC_cu hc')
theorem lx_finishComment (hc : CurC b T n OI OL h MI ML)
    (hT : ∀ y, cmS T n h = .inr y → ∀ MI', CurC b T n OI OL y MI' ML → mvd MI MI' → Q (some (vI 1)) (MI', ML, GR d e nw th 1)) (hF : ∀ f p, cmS T n h = .inl (f, p) → ∀ MI', FaiC b OI OL f p MI' ML → Q (some (vI 0)) (MI', ML, GR d e nw th 1)) :
    wp cs mX1_finishComment KD Q 0 (padL [vR 2] 1) [] (KD, MI, ML, GR d e nw th 1) := by
  have hc' := hc
  obtain ⟨a1, a2, a3, a4, a5, a6⟩ := hc
  refine wp_cu (w_X1_finishComment (by omega) (by omega) (by omega) (fun y hs => ?_) (fun f p u hs => ?_))
  · rw [a1, a2, a4] at hs
    have hl := cmS_le a5.1 hs
    exact hT y hs _ (CurC_cu hc' (by omega)) mvd_cu
  · rw [a1, a2, a4] at hs
    exact hF f p hs _ (FaiC_cu hc')
theorem lx_takePiece (hc : CurC b T n OI OL h MI ML)
    (hT : ∀ c y, pcS T n h = .inr (c, y) → ∀ MI', CurC b T n OI OL y MI' ML → mvd MI MI' → Q (some (vI c)) (MI', ML, GR d e nw th 1)) (hF : ∀ f p, pcS T n h = .inl (f, p) → ∀ MI', FaiC b OI OL f p MI' ML → Q (some (vI (-1))) (MI', ML, GR d e nw th 1)) :
    wp cs mX1_takePiece KD Q 0 (padL [vR 2] 2) [] (KD, MI, ML, GR d e nw th 1) := by
  have hc' := hc
  obtain ⟨a1, a2, a3, a4, a5, a6⟩ := hc
  refine wp_cu (w_X1_takePiece (by omega) (by omega) (by omega) (by omega) (fun c y hs => ?_) (fun f p u hs => ?_))
  · rw [a1, a2, a4] at hs
    have hl := pcS_ok a5.1 hs
    exact hT c y hs _ (CurC_cu hc' (by omega)) mvd_cu
  · rw [a1, a2, a4] at hs
    exact hF f p hs _ (FaiC_cu hc')
theorem lx_needEnd (hc : CurC b T n OI OL h MI ML)
    (hT : n ≤ h → Q (some (vI 1)) (MI, ML, GR d e nw th 1)) (hF : h < n → ∀ MI', FaiC b OI OL (-1) h MI' ML → Q (some (vI 0)) (MI', ML, GR d e nw th 1)) :
    wp cs mX1_needEnd KD Q 0 (padL [vR 2] 1) [] (KD, MI, ML, GR d e nw th 1) := by
  have hc' := hc
  obtain ⟨a1, a2, a3, a4, a5, a6⟩ := hc
  refine wp_cu (w_X1_needEnd (by omega) (by omega) (by omega) (fun hs => ?_) (fun hs => ?_))
  · unfold Mc; rw [cu_id]; exact hT (by omega)
  · rw [a4]; exact hF (by omega) _ (FaiC_cu hc')
/-- the bytes l, kept behind the document's values -/
def valA (b : Nat) (l : By) (MI MI' : Nat → Nat → Int) : Prop :=
  (∀ i, i ≠ 2 → i ≠ b → i ≠ b + 41 → MI' i = MI i) ∧ (∀ k, k ≠ 14 → MI' b k = MI b k) ∧ MI' b 14 = MI b 14 + (l.length : Nat) ∧ slc (MI' (b + 41)) (MI' b 14) (MI b 14) (l.length : Nat) l ∧ ∀ k : Nat, (k : Int) < MI b 14 → MI' (b + 41) k = MI (b + 41) k
theorem vlF_le (T : Nat → Int) (n q : Int) (hq : 0 ≤ q) : ∀ (k r : Nat) (h : Int) (l : By) (y : Int), 0 ≤ h → vlF T n q k r h = .inr (l, y) → h < y ∧ y ≤ n ∧ l.length ≤ r
  | 0, r, h, l, y, h0, hy => by simp [vlF] at hy
  | k + 1, r, h, l, y, h0, hy => by
    unfold vlF at hy
    split at hy
    · next h1 =>
      cases hy
      have := ob_lt (c := q) (by omega) h1
      exact ⟨by omega, by omega, Nat.zero_le _⟩
    · split at hy
      · cases hy
      · split at hy
        · cases hy
        · next c z hc =>
          have hp := pcS_ok h0 hc
          split at hy
          · cases hy
          · next hr =>
            split at hy
            · cases hy
            · next l' z' hl =>
              have := vlF_le T n q hq k (r - 1) z l' z' (by omega) hl
              cases hy
              simp only [List.length_cons]
              omega
theorem vlS_le {T : Nat → Int} {n : Int} {r : Nat} {h : Int} {l : By} {y : Int} (h0 : 0 ≤ h) (hy : vlS T n r h = .inr (l, y)) : h + 1 < y ∧ y ≤ n ∧ l.length ≤ r := by
  unfold vlS at hy
  split at hy
  · next hq => have := vlF_le T n _ (by omega) _ _ _ _ _ (by omega) hy; omega
  · cases hy
theorem lx_takeValue (hbd : b = 38 ∨ b = 81) {r : Nat} (hv : 0 ≤ MI b 14 ∧ 0 ≤ MI b 15) (hr : MI b 14 + MI b 15 + r = 2000) (hc : CurC b T n OI OL h MI ML)
    (hT : ∀ l y, vlS T n r h = .inr (l, y) → ∀ MI', CurC b T n OI OL y MI' ML → valA b l MI MI' → Q (some (vI 1)) (MI', ML, GR d e nw th 1)) (hF : ∀ f p, vlS T n r h = .inl (f, p) → ∀ MI', FaiC b OI OL f p MI' ML → Q (some (vI 0)) (MI', ML, GR d e nw th 1)) :
    wp cs mX1_takeValue KD Q 0 (padL [vR 2, vR b] 7) [] (KD, MI, ML, GR d e nw th 1) := by
  have hc' := hc
  obtain ⟨a1, a2, a3, a4, a5, a6⟩ := hc
  have hfr : ∀ (l : By) (g nf nl ft fa : Int) (i : Nat), i ≠ 2 → i ≠ b → i ≠ b + 41 → cu (fed MI (b + 41) b 14 (MI b 14) (gl l) l.length) g nf nl ft fa i = MI i := fun l g nf nl ft fa i h1 h2 h3 => by
    rw [cu_row h1]; funext k; unfold fed; rw [if_neg (by omega), if_neg (by omega)]
  have hfc : ∀ (l : By) (g nf nl ft fa : Int), frC b OI OL (cu (fed MI (b + 41) b 14 (MI b 14) (gl l) l.length) g nf nl ft fa) ML := fun l g nf nl ft fa i hi => by
    have h1 : i ≠ 2 := fun q => hi (Or.inl q)
    have h2 : ¬ (b ≤ i ∧ i ≤ b + 42) := fun q => hi (Or.inr (Or.inr q))
    rw [hfr l g nf nl ft fa i h1 (by omega) (by omega)]
    exact a6 i hi
  refine wp_cu (w_X1_takeValue hbd (by omega) (by omega) (by omega) hv hr (fun l y hs => ?_) (fun f p u l hs => ?_))
  · rw [a1, a2, a4] at hs
    have hl := vlS_le a5.1 hs
    refine hT l y hs _ ⟨?_, ?_, ⟨a3.1, a3.2.1, by rw [cu_r2.2.2.2.2.2]; exact a3.2.2⟩, cu_r2.1, by omega, hfc _ _ _ _ _ _⟩ ⟨fun i h1 h2 h3 => hfr l _ _ _ _ _ i h1 h2 h3, fun k hk => ?_, ?_, ?_, fun k hk => ?_⟩
    · rw [hfr _ _ _ _ _ _ 1 (by decide) (by omega) (by omega)]; exact a1
    · rw [cu_r2.2.1]; unfold fed; rw [if_neg (by omega), if_neg (by omega)]; exact a2
    · rw [cu_row (by omega)]; unfold fed; rw [if_neg (by omega), if_neg (by omega)]
    · rw [cu_row (by omega)]; unfold fed; rw [if_pos ⟨rfl, rfl⟩]
    · have e14 : cu (fed MI (b + 41) b 14 (MI b 14) (gl l) l.length) y (MI 2 3) (MI 2 4) (MI 2 5) (MI 2 6) b 14 = MI b 14 + (l.length : Nat) := by
        rw [cu_row (by omega)]; unfold fed; rw [if_pos ⟨rfl, rfl⟩]
      refine ⟨hv.1, rfl, by rw [e14]; exact Int.le_refl _, fun i z hz => ?_⟩
      have hi := (List.getElem?_eq_some_iff.mp hz).1
      rw [cu_row (by omega)]; unfold fed; rw [if_neg (by omega), if_pos ⟨rfl, by omega, by omega⟩]
      unfold gl
      rw [show (((((MI b 14).toNat + i : Nat) : Int)) - MI b 14).toNat = i by omega, List.getD_eq_getElem?_getD, hz]; rfl
    · rw [cu_row (by omega)]; unfold fed; rw [if_neg (by omega), if_neg (by omega)]
  · rw [a1, a2, a4] at hs
    exact hF f p hs _ ⟨cu_r2.2.2.2.2.1, cu_r2.2.2.2.2.2, hfc _ _ _ _ _ _⟩
end P62b
