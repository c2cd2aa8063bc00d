/-! The reference's NAMES and kept bytes. -/
/-- a NAME at F, L bytes, in the texts of bank bk -/
def nmR (bk : Nat) (T : Nat → Int) (n F L : Int) (x : By) : Prop := slc T n (F - 6000 * (bk : Int)) L x
/-- bytes kept at F, L of them, among the first P of bank bk -/
def poR (bk : Nat) (MI : Nat → Nat → Int) (P F L : Int) (x : By) : Prop := slc (fun j => MI 138 (2000 * bk + j)) P (F - 2000 * (bk : Int)) L x
theorem poR_grow {bk : Nat} {MI MI' : Nat → Nat → Int} {P P' F L : Int} {y : By} (h : poR bk MI P F L y) (hM : ∀ k : Nat, (k : Int) < P → MI' 138 (2000 * bk + k) = MI 138 (2000 * bk + k)) (hP : P ≤ P') : poR bk MI' P' F L y := slc_mono (slc_copy h hM) hP
/-- only the reading's fields and kept bytes from pl on have changed -/
def valR (bk pl : Nat) (MI MI' : Nat → Nat → Int) : Prop := (∀ i, i ≠ 124 → i ≠ 138 → i ≠ 139 → MI' i = MI i) ∧ (∀ k, k ≠ 4 → k ≠ 5 → k ≠ 6 → k ≠ 51 → k ≠ 52 → MI' 124 k = MI 124 k) ∧ (∀ k, k ≠ bk → MI' 139 k = MI 139 k) ∧ ∀ k, ¬ (2000 * bk + pl ≤ k ∧ k < 2000 * bk + 2000) → MI' 138 k = MI 138 k
theorem valR_mvr {bk pl : Nat} {MI MI' : Nat → Nat → Int} (h : mvr MI MI') : valR bk pl MI MI' := ⟨fun i h1 _ _ => h.1 i h1, h.2, fun k _ => by rw [h.1 139 (by decide)], fun k _ => by rw [h.1 138 (by decide)]⟩
theorem valR_tr {bk pl pl' : Nat} {A B C : Nat → Nat → Int} (h : valR bk pl A B) (k : valR bk pl' B C) (hp : pl ≤ pl') : valR bk pl A C := ⟨fun i h1 h2 h3 => (k.1 i h1 h2 h3).trans (h.1 i h1 h2 h3), fun j a b c d e => (k.2.1 j a b c d e).trans (h.2.1 j a b c d e), fun j hj => (k.2.2.1 j hj).trans (h.2.2.1 j hj), fun j hj => (k.2.2.2 j (by omega)).trans (h.2.2.2 j hj)⟩
section P84
variable {cs : Cs} {Q : Option AV → Mm → Prop} {MI ML OI OL : Nat → Nat → Int} {bk d e nw th x : Nat} {T : Nat → Int} {n B : Int} {s : PR Int}
theorem frR_valR {pl : Nat} {MI' : Nat → Nat → Int} (hb : bk ≤ 1) (hf : frR bk OI OL MI ML) (hm : valR bk pl MI MI') : frR bk OI OL MI' ML := by
  refine ⟨fun i h1 h2 => by rw [hm.1 i h1 (by omega) (by omega)]; exact hf.1 i h1 h2, fun k hk => ?_, fun i k h1 h2 h3 => ?_⟩
  · unfold fldB fldR at hk
    rw [hm.2.1 k (by omega) (by omega) (by omega) (by omega) (by omega)]
    exact hf.2.1 k (by unfold fldB fldR; exact hk)
  · have := hf.2.2 i k h1 h2 h3
    refine ⟨?_, this.2⟩
    by_cases h138 : i = 138
    · subst h138
      rw [show wR 138 = 2000 by decide] at h3
      rw [hm.2.2.2 k (by omega)]; exact this.1
    · by_cases h139 : i = 139
      · subst h139
        rw [show wR 139 = 1 by decide] at h3
        rw [hm.2.2.1 k (by omega)]; exact this.1
      · rw [hm.1 i (by omega) h138 h139]; exact this.1
theorem BasR_valR {pl : Nat} {MI' : Nat → Nat → Int} (hb : BasR bk T n OI OL MI ML) (hm : valR bk pl MI MI') : BasR bk T n OI OL MI' ML := by
  obtain ⟨a1, a2, a3, a4, a5, a6, a7⟩ := hb
  exact ⟨by rw [hm.1 126 (by decide) (by decide) (by decide)]; exact a1, by rw [hm.2.1 3 (by decide) (by decide) (by decide) (by decide) (by decide)]; exact a2, a3, by rw [hm.2.1 8 (by decide) (by decide) (by decide) (by decide) (by decide)]; exact a4, a5, by rw [hm.1 128 (by decide) (by decide) (by decide)]; exact a6, frR_valR a5 a7 hm⟩
/-- two NAMES of a bank -/
theorem c_isSame_l {F L G : Int} {y z : By} (hb : bk ≤ 1) (hn : n ≤ 6000) (htx : ∀ k : Nat, (k : Int) < n → MI 128 (6000 * bk + k) = T k) (hy : nmR bk T n F L y) (hz : nmR bk T n G L z) (hQ : ∀ r : Int, r = (if y = z then 1 else 0) → Q (some (vI r)) (MI, ML, GR d e nw th x)) {M : Int} :
    ∀ (k i : Nat), (i : Int) + k = L → (∀ q : Nat, q < i → T ((F - 6000 * (bk : Int)).toNat + q) = T ((G - 6000 * (bk : Int)).toNat + q)) →
    wp cs mX12_isSame KD Q 16 [some (vR 124), some (vI F), some (vI L), some (vI G), some (vI M), some (vI 1), some (vI (i : Nat))] [] (KD, MI, ML, GR d e nw th x) := by
  obtain ⟨y1, y2, y3, y4⟩ := hy
  obtain ⟨z1, z2, z3, z4⟩ := hz
  intro k
  induction k with
  | zero =>
    intro i hi hq
    refine v_X12_isSame_16 ⟨fun q => by omega, fun _ => ⟨Or.inr rfl, hQ 1 ?_⟩⟩
    rw [if_pos (slc_eq ⟨y1, y2, y3, y4⟩ ⟨z1, z2, z3, z4⟩ (fun q hq' => hq q (by omega)))]
  | succ k ih =>
    intro i hi hq
    have e1 : MI 128 (F + (i : Int)).toNat = T ((F - 6000 * (bk : Int)).toNat + i) := by
      rw [← htx _ (by omega)]; congr 1; omega
    have e2 : MI 128 (G + (i : Int)).toNat = T ((G - 6000 * (bk : Int)).toNat + i) := by
      rw [← htx _ (by omega)]; congr 1; omega
    refine v_X12_isSame_16 ⟨fun _ => ⟨fun q => by omega, fun _ => ⟨by omega, by omega, by omega, by omega, fun he => ⟨by omega, ?_⟩, fun he => ⟨by omega, ?_⟩⟩⟩, fun q => by omega⟩
    · rw [show ((i : Nat) : Int) + 1 = ((i + 1 : Nat) : Int) by omega]
      refine ih (i + 1) (by omega) (fun q hq' => ?_)
      by_cases hqi : q < i
      · exact hq q hqi
      · rw [show q = i by omega, ← e1, ← e2]; exact he
    · have hne : y ≠ z := fun q => he (by
        subst q
        rw [e1, e2, slc_at (x := y) ⟨y1, y2, y3, y4⟩ (i := i) (by omega), slc_at (x := y) ⟨z1, z2, z3, z4⟩ (i := i) (by omega)])
      have h0 := hQ 0 (by rw [if_neg hne])
      exact v_X12_isSame_16 ⟨fun _ => ⟨fun _ => ⟨Or.inl rfl, h0⟩, fun q => absurd rfl q⟩, fun _ => ⟨Or.inl rfl, h0⟩⟩
theorem c_isSame {F L G M : Int} {y z : By} (hb : bk ≤ 1) (hn : n ≤ 6000) (htx : ∀ k : Nat, (k : Int) < n → MI 128 (6000 * bk + k) = T k) (hy : nmR bk T n F L y) (hz : nmR bk T n G M z) (hQ : ∀ r : Int, r = (if y = z then 1 else 0) → Q (some (vI r)) (MI, ML, GR d e nw th x)) :
    wp cs mX12_isSame KD Q 0 (padL [vR 124, vI F, vI L, vI G, vI M] 7) [] (KD, MI, ML, GR d e nw th x) := by
  refine v_X12_isSame_0 ⟨fun hl => ?_, fun hl => ?_⟩
  · subst hl
    exact c_isSame_l hb hn htx hy hz hQ y.length 0 (by have := hy.2.1; omega) (fun q hq => by omega)
  · have hne : y ≠ z := fun q => hl (by rw [hy.2.1, hz.2.1, q])
    have h0 := hQ 0 (by rw [if_neg hne])
    exact v_X12_isSame_16 ⟨fun _ => ⟨fun _ => ⟨Or.inl rfl, h0⟩, fun q => absurd rfl q⟩, fun _ => ⟨Or.inl rfl, h0⟩⟩
/-- a byte is kept -/
theorem ux_keep {v p a : Int} {pl : Nat} (hs : StR bk T n OI OL B (.inr a) MI ML) (hp : MI 139 bk = (pl : Nat)) (hpl : pl ≤ 2000) (hv : -128 ≤ v ∧ v < 128)
    (hT : pl < 2000 → ∀ MI', StR bk T n OI OL B (.inr a) MI' ML → valR bk pl MI MI' → MI' 139 bk = (pl : Nat) + 1 → MI' 138 (2000 * bk + pl) = v → (∀ k, k ≠ 2000 * bk + pl → MI' 138 k = MI 138 k) → MI' 124 = MI 124 → Q none (MI', ML, GR d e nw th x))
    (hF : 2000 ≤ pl → ∀ MI', StR bk T n OI OL B (.inl (-3, p)) MI' ML → mvr MI MI' → Q none (MI', ML, GR d e nw th x)) :
    wp cs mX12_keep KD Q 0 (padL [vR 124, vI v, vI p] 3) [] (KD, MI, ML, GR d e nw th x) := by
  obtain ⟨b1, b2, b3, b4, b5⟩ := hs.2.2
  obtain ⟨a1, a2, a3, a4, a5, a6, a7⟩ := hs.1
  have hB := hs.2.1
  have ebk : (MI 124 8).toNat = bk := by rw [a4]; simp
  refine wp_rs ?_
  rw [b2]
  refine w_keep_g (by rw [a4]; omega) (by rw [ebk, hp]; omega) (fun hlt => ?_) (fun hge => ?_)
  · rw [ebk, hp] at hlt ⊢
    rw [a4, i_2b_id hv, show (2000 * (bk : Int) + ((pl : Nat) : Int)).toNat = 2000 * bk + pl by omega]
    have er : rs (up2 (up2 MI 138 (2000 * bk + pl) v) 139 bk ((pl : Nat) + 1)) (MI 124 4) 0 (MI 124 6) (MI 124 51) (MI 124 52) = up2 (up2 MI 138 (2000 * bk + pl) v) 139 bk ((pl : Nat) + 1) := by
      have := rs_id (MI := up2 (up2 MI 138 (2000 * bk + pl) v) 139 bk ((pl : Nat) + 1))
      have f : ∀ k, up2 (up2 MI 138 (2000 * bk + pl) v) 139 bk ((pl : Nat) + 1) 124 k = MI 124 k := fun k => by rw [up2_ne (by decide), up2_ne (by decide)]
      rw [f, f, f, f, f, b2] at this
      exact this
    unfold Mr
    rw [er]
    have hval : valR bk pl MI (up2 (up2 MI 138 (2000 * bk + pl) v) 139 bk ((pl : Nat) + 1)) := by
      refine ⟨fun i h1 h2 h3 => by funext k; rw [up2_ne h3, up2_ne h2], fun k _ _ _ _ _ => by rw [up2_ne (by decide), up2_ne (by decide)], fun k hk => by rw [up2_nk hk, up2_ne (by decide)], fun k hk => by rw [up2_ne (by decide), up2_nk (by omega)]⟩
    refine hT (by omega) _ ⟨BasR_valR hs.1 hval, hB, ?_⟩ hval (by rw [up2_eq]) (by rw [up2_ne (by decide), up2_eq]) (fun k hk => by rw [up2_ne (by decide), up2_nk hk]) (by funext k; rw [up2_ne (by decide), up2_ne (by decide)])
    rw [up2_ne (by decide), up2_ne (by decide), up2_ne (by decide), up2_ne (by decide), up2_ne (by decide), up2_ne (by decide)]
    exact ⟨b1, b2, b3, b4, b5⟩
  · rw [ebk, hp] at hge
    exact hF (by omega) _ (StR_bad hs (by omega) (by decide)) mvr_rs
theorem pcS_raw {h c y : Int} (hy : pcS T n h = .inr (c, y)) (h38 : ob T n h ≠ 38) : c = ob T n h := by
  unfold pcS at hy
  rw [if_pos h38] at hy
  split at hy
  · cases hy; rfl
  · cases hy
end P84
