/-! The class's lines: append, finishLine, endWord. -/
def allB (s : SM) : By := (s.1.map fun x => x.1).flatten ++ s.2.1.1
def ComC (wd : Nat) (s : SM) (MI : Nat → Nat → Int) : Prop :=
  MI 28 10 = (tot s : Nat) ∧ MI 28 11 = (s.2.1.1.length : Nat) ∧ MI 28 13 = (s.2.2.2 : Nat) ∧ (0 < s.2.2.2 → MI 28 12 = (s.2.2.1 : Nat)) ∧ MI 28 14 = (wd : Nat) ∧ MI 28 16 = (s.1.length : Nat) ∧
  (∀ (i : Nat) (x : Ln), s.1[i]? = some x → MI 30 i = (sumL (s.1.take i) : Nat) ∧ MI 31 i = (x.1.length : Nat) ∧ MI 34 i = (x.2 : Nat)) ∧ (s.2.1.1 ≠ [] → MI 30 s.1.length = (sumL s.1 : Nat) ∧ MI 34 s.1.length = (s.2.1.2 : Nat)) ∧
  ∀ (j : Nat) (c : Int), (allB s)[j]? = some c → MI 29 j = c
def chLn (i k : Nat) : Prop := (i = 28 ∧ (k = 10 ∨ k = 11 ∨ k = 12 ∨ k = 13 ∨ k = 16)) ∨ i = 29 ∨ i = 30 ∨ i = 31 ∨ i = 34
def TxX (b : Nat) (X : By) (MI : Nat → Nat → Int) : Prop := (∀ (i : Nat) (c : Int), X[i]? = some c → MI (b + 42) i = c) ∧ (∀ c ∈ X, 0 ≤ c ∧ c < 128) ∧ X.length ≤ 2000
theorem flat_len : ∀ l : List Ln, ((l.map fun x => x.1).flatten).length = sumL l
  | [] => rfl
  | x :: t => by
    have := flat_len t
    unfold sumL at *
    simp only [List.map_cons, List.flatten_cons, List.length_append, List.sum_cons, this]
theorem allB_len (s : SM) : (allB s).length = tot s := by unfold allB tot; rw [List.length_append, flat_len]
theorem slX_get {X : By} {f l j : Nat} : (slX X f l)[j]? = if j < l then X[f + j]? else none := by
  unfold slX
  rw [List.getElem?_take]
  split
  · rw [List.getElem?_drop]
  · rfl
theorem sumL_take_le (l : List Ln) (i : Nat) : sumL (l.take i) ≤ sumL l := by
  conv => rhs; rw [← List.take_append_drop i l]
  unfold sumL
  rw [List.map_append, List.sum_append]; omega
theorem allB_fin (s : SM) : allB (finL s) = allB s := by
  unfold finL allB
  split
  · rfl
  · simp
theorem allB_app {X : By} {l : Nat} (s : SM) : allB (appL X l s) = allB s ++ ((if s.2.1.1 = [] then [] else [32]) ++ slX X s.2.2.1 l) := by
  unfold appL allB
  simp only
  by_cases h : s.2.1.1 = []
  · rw [if_pos h, if_pos h, h]; simp
  · rw [if_neg h, if_neg h]; simp
section Pf03
variable {cs : Cs} {Q : Option AV → Mm → Prop} {MI ML OI : Nat → Nat → Int} {b d e nw th x : Nat} {X : By} {wd pos : Nat} {s : SM}
theorem TxX_fr {MI' : Nat → Nat → Int} {P : Nat → Nat → Prop} (h : TxX b X MI) (f : frP P MI MI') (hp : ∀ k, ¬ P (b + 42) k) : TxX b X MI' := ⟨fun i c hc => by rw [f (b + 42) i (hp i)]; exact h.1 i c hc, h.2⟩
theorem c_finishLine' (hC : ComC wd s MI) (hp : tot s ≤ 2000) (hlv : LnV wd s.1) (hQ : ∀ MI', ComC wd (finL s) MI' → frP chLn MI MI' → MI' 28 12 = MI 28 12 → Q none (MI', ML, GR d e nw th x)) :
    wp cs mX0_finishLine KD Q 0 (padL [vR 28] 1) [] (KD, MI, ML, GR d e nw th x) := by
  obtain ⟨c1, c2, c3, c4, c5, c6, c7, c8, c9⟩ := hC
  have hge := sumL_ge hlv
  have htot : tot s = sumL s.1 + s.2.1.1.length := rfl
  refine v_X0_finishLine_0 ?_
  rw [c2, c6]
  refine ⟨fun h0 => ⟨fun hlt => ⟨by omega, ?_⟩, fun z => ?_⟩, fun h0 => ?_⟩
  · have hne : s.2.1.1 ≠ [] := fun z => by rw [z] at h0; simp at h0
    simp only [Int.toNat_natCast]
    rintro _ rfl
    rw [up2_ne (by decide), c6]
    refine ⟨by omega, ?_⟩
    rintro _ rfl _ rfl
    have hf : finL s = (s.1 ++ [s.2.1], ([], 0), s.2.2) := by unfold finL; rw [if_neg hne]
    obtain ⟨d1, d2⟩ := c8 hne
    have g30 : ∀ i, up2 (up2 (up2 MI 31 s.1.length (s.2.1.1.length : Nat)) 28 16 ((s.1.length : Nat) + 1)) 28 11 0 30 i = MI 30 i := fun i => by rw [up2_ne (by decide), up2_ne (by decide), up2_ne (by decide)]
    have g34 : ∀ i, up2 (up2 (up2 MI 31 s.1.length (s.2.1.1.length : Nat)) 28 16 ((s.1.length : Nat) + 1)) 28 11 0 34 i = MI 34 i := fun i => by rw [up2_ne (by decide), up2_ne (by decide), up2_ne (by decide)]
    have g31 : ∀ i, up2 (up2 (up2 MI 31 s.1.length (s.2.1.1.length : Nat)) 28 16 ((s.1.length : Nat) + 1)) 28 11 0 31 i = (if i = s.1.length then ((s.2.1.1.length : Nat) : Int) else MI 31 i) := fun i => by
      rw [up2_ne (by decide), up2_ne (by decide)]
      split
      · next w => rw [w]; exact up2_eq
      · next w => exact up2_nk w _
    have g28 : ∀ i, i ≠ 11 → i ≠ 16 → up2 (up2 (up2 MI 31 s.1.length (s.2.1.1.length : Nat)) 28 16 ((s.1.length : Nat) + 1)) 28 11 0 28 i = MI 28 i := fun i h1 h2 => by rw [up2_nk h1, up2_nk h2, up2_ne (by decide)]
    refine hQ _ ⟨?_, ?_, ?_, fun z => ?_, ?_, ?_, fun i y hy => ?_, fun z => ?_, fun j c hc => ?_⟩ (frP_tr (frP_up (by unfold chLn; omega)) (frP_tr (frP_up (by unfold chLn; omega)) (frP_up (by unfold chLn; omega)))) (g28 12 (by decide) (by decide))
    · rw [g28 10 (by decide) (by decide), (finL_w s).2.2.1]; exact c1
    · rw [up2_eq, hf]; rfl
    · rw [g28 13 (by decide) (by decide), hf]; exact c3
    · rw [g28 12 (by decide) (by decide), hf]; rw [hf] at z; exact c4 z
    · rw [g28 14 (by decide) (by decide)]; exact c5
    · rw [up2_nk (by decide), up2_eq, hf]; simp
    · rw [hf] at hy ⊢
      simp only at hy ⊢
      rw [g30, g31, g34]
      by_cases hil : i < s.1.length
      · rw [List.getElem?_append_left hil] at hy
        rw [if_neg (by omega), List.take_append_of_le_length (by omega)]
        exact c7 i y hy
      · have h2 := (List.getElem?_eq_some_iff.mp hy).1
        simp only [List.length_append, List.length_singleton] at h2
        have h3 : i = s.1.length := by omega
        subst h3
        rw [List.getElem?_append_right (Nat.le_refl _)] at hy
        simp at hy
        subst hy
        rw [if_pos rfl, List.take_append_of_le_length (Nat.le_refl _), List.take_length]
        exact ⟨d1, rfl, d2⟩
    · exfalso; rw [hf] at z; exact z rfl
    · rw [allB_fin] at hc
      rw [up2_ne (by decide), up2_ne (by decide), up2_ne (by decide)]
      exact c9 j c hc
  · exfalso
    have hne : s.2.1.1 ≠ [] := fun z => by rw [z] at h0; simp at h0
    omega
  · have he : s.2.1.1 = [] := List.eq_nil_of_length_eq_zero (by omega)
    rintro _ rfl
    have hf : finL s = s := by unfold finL; rw [if_pos he]
    rw [hf] at hQ
    have hid : up2 MI 28 11 0 = MI := up2_self (by rw [c2, he]; rfl)
    rw [hid]
    exact hQ MI ⟨c1, c2, c3, c4, c5, c6, c7, c8, c9⟩ (frP_rfl _ _) rfl
theorem c_finishLine (hC : ComC wd s MI) (hI : SmI X wd pos s) (hp : pos ≤ 2000) (hQ : ∀ MI', ComC wd (finL s) MI' → frP chLn MI MI' → MI' 28 12 = MI 28 12 → Q none (MI', ML, GR d e nw th x)) :
    wp cs mX0_finishLine KD Q 0 (padL [vR 28] 1) [] (KD, MI, ML, GR d e nw th x) := c_finishLine' hC (by have := hI.1; omega) hI.2.2.2.2 hQ
theorem c_append {l : Nat} (hbd : b = 38 ∨ b = 81) (hT : TxX b X MI) (hC : ComC wd s MI) (hI : SmI X wd pos s) (hl : 0 < l ∧ l ≤ s.2.2.2) (hw : s.2.1.1.length + (if s.2.1.1 = [] then 0 else 1) + l ≤ wd) (hQ : ∀ MI', ComC wd (appL X l s) MI' → frP chLn MI MI' → Q none (MI', ML, GR d e nw th x)) :
    wp cs mX0_append KD Q 0 (padL [vR 28, vR b, vI (l : Nat)] 4) [] (KD, MI, ML, GR d e nw th x) := by
  have ha := appL_ok (l := l) hI hl hw
  obtain ⟨c1, c2, c3, c4, c5, c6, c7, c8, c9⟩ := hC
  have hi1 := hI.1
  have hi2 := hI.2.1
  have hlv := hI.2.2.2.2
  have hge := sumL_ge hlv
  have htot : tot s = sumL s.1 + s.2.1.1.length := rfl
  have h12 := c4 (by omega)
  have hX6 := hT.2.2
  obtain ⟨a1, a2, a3, a4, a5⟩ := ha
  have hbytes : ∀ (k : Nat), s.2.2.1 ≤ k → k < s.2.2.1 + l → -128 ≤ MI (b + 42) k ∧ MI (b + 42) k < 128 := fun k h1 h2 => by
    have hk : k < X.length := by omega
    rw [hT.1 k X[k] (List.getElem?_eq_getElem hk)]
    have := hT.2.1 X[k] (List.getElem_mem hk)
    omega
  -- memory as it must be in the end
  have fin : ∀ (M : Nat → Nat → Int), M 28 10 = ((tot (appL X l s) : Nat) : Int) → M 28 11 = (((appL X l s).2.1.1.length : Nat) : Int) → (∀ k, k ≠ 10 → k ≠ 11 → M 28 k = MI 28 k) → (∀ i, i ≠ s.1.length → M 30 i = MI 30 i ∧ M 34 i = MI 34 i) → (∀ i, M 31 i = MI 31 i) → (s.2.1.1 ≠ [] → M 30 s.1.length = MI 30 s.1.length ∧ M 34 s.1.length = MI 34 s.1.length) → (s.2.1.1 = [] → M 30 s.1.length = (tot s : Nat) ∧ M 34 s.1.length = (s.2.2.1 : Nat)) →
      (∀ j, j < tot s → M 29 j = MI 29 j) → (s.2.1.1 ≠ [] → M 29 (tot s) = 32) → (∀ j, j < l → M 29 (tot s + (if s.2.1.1 = [] then 0 else 1) + j) = MI (b + 42) (s.2.2.1 + j)) → ComC wd (appL X l s) M := by
    intro M m10 m11 m28 m30 m31 mo mn m29 mb mw
    have hlines : (appL X l s).1 = s.1 := rfl
    refine ⟨m10, m11, by rw [m28 13 (by decide) (by decide)]; exact c3, fun z => by rw [m28 12 (by decide) (by decide)]; exact c4 z, by rw [m28 14 (by decide) (by decide)]; exact c5, by rw [m28 16 (by decide) (by decide)]; exact c6, fun i y hy => ?_, fun _ => ?_, fun j c hc => ?_⟩
    · rw [hlines] at hy ⊢
      have hil := (List.getElem?_eq_some_iff.mp hy).1
      rw [(m30 i (by omega)).1, (m30 i (by omega)).2, m31]
      exact c7 i y hy
    · rw [hlines]
      by_cases hc : s.2.1.1 = []
      · have e2 : (appL X l s).2.1.2 = s.2.2.1 := by unfold appL; simp only; rw [if_pos hc]
        rw [(mn hc).1, (mn hc).2, e2]
        refine ⟨?_, rfl⟩
        rw [htot, hc]; simp
      · have e2 : (appL X l s).2.1.2 = s.2.1.2 := by unfold appL; simp only; rw [if_neg hc]
        rw [(mo hc).1, (mo hc).2, e2]
        exact c8 hc
    · rw [allB_app] at hc
      have hlen := allB_len s
      by_cases h1 : j < tot s
      · rw [List.getElem?_append_left (by omega)] at hc
        rw [m29 j h1]; exact c9 j c hc
      · rw [List.getElem?_append_right (by omega), hlen] at hc
        by_cases hcu : s.2.1.1 = []
        · rw [if_pos hcu, List.nil_append, slX_get] at hc
          have hjl : j - tot s < l := by
            refine Decidable.byContradiction fun w => ?_
            rw [if_neg w] at hc; cases hc
          rw [if_pos hjl] at hc
          have := mw (j - tot s) hjl
          rw [if_pos hcu, show tot s + 0 + (j - tot s) = j by omega] at this
          rw [this]; exact hT.1 _ c hc
        · rw [if_neg hcu] at hc
          by_cases h2 : j = tot s
          · rw [show j - tot s = 0 by omega] at hc
            simp at hc
            rw [h2, mb hcu, hc]
          · rw [show j - tot s = (j - tot s - 1) + 1 by omega] at hc
            simp only [List.singleton_append, List.getElem?_cons_succ] at hc
            rw [slX_get] at hc
            have hjl : j - tot s - 1 < l := by
              refine Decidable.byContradiction fun w => ?_
              rw [if_neg w] at hc; cases hc
            rw [if_pos hjl] at hc
            have := mw (j - tot s - 1) hjl
            rw [if_neg hcu, show tot s + 1 + (j - tot s - 1) = j by omega] at this
            rw [this]; exact hT.1 _ c hc
  refine v_X0_append_0 hbd ?_
  rw [c2]
  refine ⟨fun h0 => ?_, fun h0 => ?_⟩
  · have hcu : s.2.1.1 = [] := List.eq_nil_of_length_eq_zero (by omega)
    rw [hcu, if_pos rfl] at a1 a3 hi1 hw
    refine v_X0_append_12b hbd ?_
    rw [c6, c1]
    refine ⟨fun _ => ⟨by omega, by omega, fun z => by omega, fun _ => ⟨fun _ => ⟨by omega, ?_⟩, fun z => absurd rfl z⟩⟩, fun z => by omega⟩
    simp only [Int.toNat_natCast]
    rintro _ rfl
    rw [up2_ne (by decide), up2_ne (by decide), c6, h12]
    simp only [Int.toNat_natCast]
    refine ⟨by omega, ?_⟩
    rintro _ rfl
    have e12 : up2 (up2 MI 30 s.1.length (tot s : Nat)) 34 s.1.length (s.2.2.1 : Nat) 28 12 = (s.2.2.1 : Nat) := by rw [up2_ne (by decide), up2_ne (by decide)]; exact h12
    have e10 : up2 (up2 MI 30 s.1.length (tot s : Nat)) 34 s.1.length (s.2.2.1 : Nat) 28 10 = (tot s : Nat) := by rw [up2_ne (by decide), up2_ne (by decide)]; exact c1
    have e42 : ∀ k, up2 (up2 MI 30 s.1.length (tot s : Nat)) 34 s.1.length (s.2.2.1 : Nat) (b + 42) k = MI (b + 42) k := fun k => by rw [up2_ne (by omega), up2_ne (by omega)]
    rw [e12, e10]
    simp only [Int.toNat_natCast]
    refine ⟨⟨by omega, by omega, by omega, by omega, by omega, fun k h1 h2 => by rw [e42]; exact hbytes k h1 h2⟩, ?_⟩
    rintro _ rfl
    have p28 : ∀ k, cpy (up2 (up2 MI 30 s.1.length (tot s : Nat)) 34 s.1.length (s.2.2.1 : Nat)) (b + 42) s.2.2.1 29 (tot s) l 28 k = MI 28 k := fun k => by
      unfold cpy; rw [if_neg (by omega), up2_ne (by decide), up2_ne (by decide)]
    rw [p28, c1]
    refine ⟨by omega, ?_⟩
    rintro _ rfl
    rw [up2_nk (by decide), p28, c2]
    refine ⟨by omega, ?_⟩
    rintro _ rfl
    refine hQ _ (fin _ ?_ ?_ ?_ ?_ ?_ ?_ ?_ ?_ ?_ ?_) ?_
    · rw [up2_nk (by decide), up2_eq, a1]; omega
    · rw [up2_eq, a3, hcu]; simp
    · intro k k1 k2; rw [up2_nk k2, up2_nk k1, p28]
    · intro i hi
      constructor
      · rw [up2_ne (by decide), up2_ne (by decide)]; unfold cpy; rw [if_neg (by omega), up2_ne (by decide), up2_nk hi]
      · rw [up2_ne (by decide), up2_ne (by decide)]; unfold cpy; rw [if_neg (by omega), up2_nk hi, up2_ne (by decide)]
    · intro i; rw [up2_ne (by decide), up2_ne (by decide)]; unfold cpy; rw [if_neg (by omega), up2_ne (by decide), up2_ne (by decide)]
    · intro z; exact absurd hcu z
    · intro _
      constructor
      · rw [up2_ne (by decide), up2_ne (by decide)]; unfold cpy; rw [if_neg (by omega), up2_ne (by decide), up2_eq]
      · rw [up2_ne (by decide), up2_ne (by decide)]; unfold cpy; rw [if_neg (by omega), up2_eq]
    · intro j hj; rw [up2_ne (by decide), up2_ne (by decide)]; unfold cpy; rw [if_neg (by omega), up2_ne (by decide), up2_ne (by decide)]
    · intro z; exact absurd hcu z
    · intro j hj
      rw [if_pos hcu, up2_ne (by decide), up2_ne (by decide)]; unfold cpy; rw [if_pos ⟨rfl, by omega, by omega⟩, e42]
      congr 1; omega
    · intro i k hn
      unfold chLn at hn
      by_cases i28 : i = 28
      · subst i28
        rw [up2_nk (by omega), up2_nk (by omega), p28]
      · rw [up2_ne i28, up2_ne i28]; unfold cpy; rw [if_neg (by omega), up2_ne (by omega), up2_ne (by omega)]
  · have hcu : s.2.1.1 ≠ [] := fun z => by rw [z] at h0; simp at h0
    rw [if_neg hcu] at a1 a3 hi1 hw
    refine v_X0_append_12b hbd ?_
    rw [c6, c1]
    refine ⟨fun _ => ⟨by omega, by omega, fun z => by omega, fun _ => ⟨fun z => by omega, fun _ => ⟨by omega, ?_⟩⟩⟩, fun z => by omega⟩
    simp only [Int.toNat_natCast]
    rintro _ rfl
    rw [up2_ne (by decide), c1]
    refine ⟨by omega, ?_⟩
    rintro _ rfl
    rw [up2_nk (by decide), up2_ne (by decide), c2]
    refine ⟨by omega, ?_⟩
    rintro _ rfl
    obtain ⟨M3, hM3⟩ : ∃ M3, M3 = up2 (up2 (up2 MI 29 (tot s) 32) 28 10 ((tot s : Nat) + 1)) 28 11 ((s.2.1.1.length : Nat) + 1) := ⟨_, rfl⟩
    rw [← hM3]
    have e12 : M3 28 12 = (s.2.2.1 : Nat) := by rw [hM3, up2_nk (by decide), up2_nk (by decide), up2_ne (by decide)]; exact h12
    have e10 : M3 28 10 = ((tot s + 1 : Nat) : Int) := by rw [hM3, up2_nk (by decide), up2_eq]; omega
    have e11 : M3 28 11 = ((s.2.1.1.length + 1 : Nat) : Int) := by rw [hM3, up2_eq]; omega
    have e42 : ∀ k, M3 (b + 42) k = MI (b + 42) k := fun k => by rw [hM3, up2_ne (by omega), up2_ne (by omega), up2_ne (by omega)]
    have e28 : ∀ k, k ≠ 10 → k ≠ 11 → M3 28 k = MI 28 k := fun k k1 k2 => by rw [hM3, up2_nk k2, up2_nk k1, up2_ne (by decide)]
    have eo : ∀ i, i ≠ 28 → i ≠ 29 → M3 i = MI i := fun i i1 i2 => by rw [hM3]; funext k; rw [up2_ne i1, up2_ne i1, up2_ne i2]
    have e29 : ∀ j, j ≠ tot s → M3 29 j = MI 29 j := fun j hj => by rw [hM3, up2_ne (by decide), up2_ne (by decide), up2_nk hj]
    have e29b : M3 29 (tot s) = 32 := by rw [hM3, up2_ne (by decide), up2_ne (by decide), up2_eq]
    clear hM3
    rw [e12, e10]
    simp only [Int.toNat_natCast]
    refine ⟨⟨by omega, by omega, by omega, by omega, by omega, fun k h1 h2 => by rw [e42]; exact hbytes k h1 h2⟩, ?_⟩
    rintro _ rfl
    have p28 : ∀ k, cpy M3 (b + 42) s.2.2.1 29 (tot s + 1) l 28 k = M3 28 k := fun k => by unfold cpy; rw [if_neg (by omega)]
    rw [p28, e10]
    refine ⟨by omega, ?_⟩
    rintro _ rfl
    rw [up2_nk (by decide), p28, e11]
    refine ⟨by omega, ?_⟩
    rintro _ rfl
    have po : ∀ i k, i ≠ 28 → i ≠ 29 → up2 (up2 (cpy M3 (b + 42) s.2.2.1 29 (tot s + 1) l) 28 10 (((tot s + 1 : Nat) : Int) + (l : Nat))) 28 11 (((s.2.1.1.length + 1 : Nat) : Int) + (l : Nat)) i k = MI i k := fun i k i1 i2 => by
      rw [up2_ne i1, up2_ne i1]; unfold cpy; rw [if_neg (by omega), eo i i1 i2]
    refine hQ _ (fin _ ?_ ?_ ?_ ?_ ?_ ?_ ?_ ?_ ?_ ?_) ?_
    · rw [up2_nk (by decide), up2_eq, a1]; omega
    · rw [up2_eq, a3]; omega
    · intro k k1 k2; rw [up2_nk k2, up2_nk k1, p28, e28 k k1 k2]
    · intro i hi; exact ⟨po 30 i (by decide) (by decide), po 34 i (by decide) (by decide)⟩
    · intro i; exact po 31 i (by decide) (by decide)
    · intro _; exact ⟨po 30 _ (by decide) (by decide), po 34 _ (by decide) (by decide)⟩
    · intro z; exact absurd z hcu
    · intro j hj; rw [up2_ne (by decide), up2_ne (by decide)]; unfold cpy; rw [if_neg (by omega), e29 j (by omega)]
    · intro _; rw [up2_ne (by decide), up2_ne (by decide)]; unfold cpy; rw [if_neg (by omega), e29b]
    · intro j hj
      rw [if_neg hcu, up2_ne (by decide), up2_ne (by decide)]; unfold cpy; rw [if_pos ⟨rfl, by omega, by omega⟩, e42]
      congr 1; omega
    · intro i k hn
      unfold chLn at hn
      by_cases i28 : i = 28
      · subst i28
        rw [up2_nk (by omega), up2_nk (by omega), p28, e28 k (by omega) (by omega)]
      · exact po i k i28 (by omega)
theorem ComC_w {M : Nat → Nat → Int} {s' : SM} (hC : ComC wd s MI) (h1 : s'.1 = s.1) (h2 : s'.2.1 = s.2.1) (f : frP (fun i k => i = 28 ∧ (k = 12 ∨ k = 13)) MI M) (h13 : M 28 13 = (s'.2.2.2 : Nat)) (h12 : 0 < s'.2.2.2 → M 28 12 = (s'.2.2.1 : Nat)) : ComC wd s' M := by
  obtain ⟨c1, c2, c3, c4, c5, c6, c7, c8, c9⟩ := hC
  have ht : tot s' = tot s := by unfold tot; rw [h1, h2]
  have hb : allB s' = allB s := by unfold allB; rw [h1, h2]
  have e : ∀ i k, ¬ (i = 28 ∧ (k = 12 ∨ k = 13)) → M i k = MI i k := f
  refine ⟨by rw [ht, e 28 10 (by decide)]; exact c1, by rw [h2, e 28 11 (by decide)]; exact c2, h13, h12, by rw [e 28 14 (by decide)]; exact c5, by rw [h1, e 28 16 (by decide)]; exact c6, fun i y hy => ?_, fun z => ?_, fun j c hc => ?_⟩
  · rw [h1] at hy ⊢
    rw [e 30 i (by omega), e 31 i (by omega), e 34 i (by omega)]; exact c7 i y hy
  · rw [h2] at z ⊢
    rw [h1, e 30 _ (by omega), e 34 _ (by omega)]; exact c8 z
  · rw [hb] at hc
    rw [e 29 j (by omega)]; exact c9 j c hc
theorem c_endWord_80 {l2 : Int} (hbd : b = 38 ∨ b = 81) (hT : TxX b X MI) (hC : ComC wd s MI) (hI : SmI X wd pos s) (hp : pos ≤ 2000) (hw : 0 < wd) (hl : s.2.2.2 ≤ wd) (hw6 : wd ≤ 60) (hQ : ∀ MI', ComC wd (noW (putW X wd s)) MI' → frP chLn MI MI' → Q none (MI', ML, GR d e nw th x)) :
    wp cs mX0_endWord KD Q 80 [some (vR 28), some (vR b), some (vI l2)] [] (KD, MI, ML, GR d e nw th x) := by
  have hCC := hC
  obtain ⟨c1, c2, c3, c4, c5, c6, c7, c8, c9⟩ := hC
  have hcw := hI.2.2.2.1
  have fw : ∀ {A : Nat → Nat → Int}, frP (fun i k => i = 28 ∧ (k = 12 ∨ k = 13)) A (up2 A 28 13 0) := fun {_} => frP_up ⟨rfl, Or.inr rfl⟩
  have fl : ∀ {A : Nat → Nat → Int}, frP chLn A (up2 A 28 13 0) := fun {_} => frP_up (by unfold chLn; omega)
  refine v_X0_endWord_80 hbd ?_
  rw [c3, c2, c5]
  refine ⟨fun h0 => ⟨by omega, by omega, fun hf => ?_, fun hf => ?_⟩, fun h0 => ?_⟩
  · have hput : putW X wd s = appL X s.2.2.2 (finL s) := by unfold putW; rw [if_pos (by omega), if_pos (by omega)]
    rw [hput] at hQ
    obtain ⟨w1, w2, w3, w4⟩ := finL_w s
    refine c_finishLine hCC hI hp (fun M1 k1 f1 _ => rV_mk ?_)
    rw [k1.2.2.1, w1]
    refine c_append hbd (TxX_fr hT f1 (fun k z => by unfold chLn at z; omega)) k1 (finL_I hI) ⟨by omega, by rw [w1]; exact Nat.le_refl _⟩ (by rw [w2, if_pos rfl]; simp; omega) (fun M2 k2 f2 => rV_mk ?_)
    rintro _ rfl
    exact hQ _ (ComC_w k2 rfl rfl fw up2_eq (fun z => absurd z (Nat.lt_irrefl _))) (frP_tr f1 (frP_tr f2 fl))
  · have hput : putW X wd s = appL X s.2.2.2 s := by unfold putW; rw [if_pos (by omega), if_neg (by omega)]
    rw [hput] at hQ
    refine c_append hbd hT hCC hI ⟨by omega, Nat.le_refl _⟩ (by split <;> omega) (fun M2 k2 f2 => rV_mk ?_)
    rintro _ rfl
    exact hQ _ (ComC_w k2 rfl rfl fw up2_eq (fun z => absurd z (Nat.lt_irrefl _))) (frP_tr f2 fl)
  · have hput : putW X wd s = s := by unfold putW; rw [if_neg (by omega)]
    rw [hput] at hQ
    rintro _ rfl
    exact hQ _ (ComC_w hCC rfl rfl fw up2_eq (fun z => absurd z (Nat.lt_irrefl _))) fl
theorem c_endWord (hbd : b = 38 ∨ b = 81) (hT : TxX b X MI) (hC : ComC wd s MI) (hI : SmI X wd pos s) (hp : pos ≤ 2000) (hw : 0 < wd) (hw6 : wd ≤ 60) (hQ : ∀ MI', ComC wd (endW X wd s) MI' → frP chLn MI MI' → Q none (MI', ML, GR d e nw th x)) :
    wp cs mX0_endWord KD Q 0 (padL [vR 28, vR b] 3) [] (KD, MI, ML, GR d e nw th x) := by
  have hi1 := hI.1
  have loop : ∀ (k : Nat) (s1 : SM) (l2 : Nat) (M : Nat → Nat → Int), ComC wd s1 M → SmI X wd pos s1 → s1.2.1.1 = [] → 0 < s1.2.2.2 → s1.2.2.2 ≤ k → l2 + s1.2.2.2 ≤ 2000 → frP chLn MI M → endW X wd s = noW (putW X wd (chkF X wd k s1)) →
      wp cs mX0_endWord KD Q 17 [some (vR 28), some (vR b), some (vI (l2 : Nat))] [] (KD, M, ML, GR d e nw th x) := by
    intro k
    induction k with
    | zero => intro s1 l2 M _ _ _ h0 hk; omega
    | succ k ih =>
      intro s1 l2 M hC1 hI1 hc h0 hk hl2 hfr heq
      have c3 := hC1.2.2.1
      have c5 := hC1.2.2.2.2.1
      refine v_X0_endWord_17 hbd ?_
      rw [c3, c5]
      refine ⟨fun _ => ⟨fun hlt => ?_, fun hge => ?_⟩, fun z => by omega⟩
      · have hlt' : wd < s1.2.2.2 := by omega
        rw [chkF, if_pos hlt'] at heq
        obtain ⟨i1, i2, i3⟩ := chk_I hI1 hc hw hlt'
        have hT1 := TxX_fr hT hfr (fun k z => by unfold chLn at z; omega)
        refine c_append hbd hT1 hC1 hI1 ⟨hw, by omega⟩ (by rw [hc, if_pos rfl]; simp) (fun M2 k2 f2 => rV_mk ?_)
        have hap := appL_ok (l := wd) hI1 ⟨hw, by omega⟩ (by rw [hc, if_pos rfl]; simp)
        rw [hc, if_pos rfl] at hap
        have hap5 : (appL X wd s1).2.2 = s1.2.2 := rfl
        have hsm := hI1.1
        rw [hc, if_pos rfl] at hsm
        obtain ⟨w1, w2, w3, w4⟩ := finL_w (appL X wd s1)
        refine c_finishLine' k2 (by rw [hap.1]; omega) hI1.2.2.2.2 (fun M3 k3 f3 e3 => rV_mk ?_)
        have d13 : M3 28 13 = (s1.2.2.2 : Nat) := by rw [k3.2.2.1, w1]; rfl
        have d14 : M3 28 14 = (wd : Nat) := k3.2.2.2.2.1
        have d12 : M3 28 12 = (s1.2.2.1 : Nat) := by have := k3.2.2.2.1 (by rw [w1]; show 0 < s1.2.2.2; exact h0); rw [w1] at this; exact this
        rw [d12, d14]
        have hb12 := hI1.2.2.1 (by omega)
        have hXl := hI1.2.1
        have hX6 := hT.2.2
        refine ⟨by omega, ?_⟩
        rintro _ rfl
        rw [up2_nk (by decide), up2_nk (by decide), d13, d14]
        refine ⟨by omega, ?_⟩
        rintro _ rfl
        rw [show ((l2 : Nat) : Int) + 1 = ((l2 + 1 : Nat) : Int) by omega]
        refine ⟨by omega, ih (movW wd (finL (appL X wd s1))) (l2 + 1) _ ?_ i1 i2 (by rw [i3]; omega) (by rw [i3]; omega) (by rw [i3]; omega) (frP_tr hfr (frP_tr f2 (frP_tr f3 (frP_tr (frP_up (by unfold chLn; omega)) (frP_up (by unfold chLn; omega)))))) heq⟩
        refine ComC_w k3 rfl rfl (frP_tr (frP_up ⟨rfl, Or.inl rfl⟩) (frP_up ⟨rfl, Or.inr rfl⟩)) ?_ (fun _ => ?_)
        · rw [up2_eq, i3]; omega
        · rw [up2_nk (by decide), up2_eq]
          show _ = (((finL (appL X wd s1)).2.2.1 + wd : Nat) : Int)
          rw [w1]; show _ = ((s1.2.2.1 + wd : Nat) : Int); omega
      · have hlt' : ¬ wd < s1.2.2.2 := by omega
        rw [chkF, if_neg hlt'] at heq
        exact c_endWord_80 hbd (TxX_fr hT hfr (fun k z => by unfold chLn at z; omega)) hC1 hI1 hp hw (by omega) hw6 (fun M2 k2 f2 => hQ M2 (by rw [heq]; exact k2) (frP_tr hfr f2))
  have hX6 := hT.2.2
  refine v_X0_endWord_0 hbd ?_
  rw [hC.2.2.1, hC.2.2.2.2.1]
  refine ⟨fun hlt => ?_, fun hge => ?_⟩
  · have hlt' : wd < s.2.2.2 := by omega
    obtain ⟨w1, w2, w3, w4⟩ := finL_w s
    refine c_finishLine hC hI hp (fun M1 k1 f1 _ => rV_mk ?_)
    refine loop s.2.2.2 (finL s) 0 M1 k1 (finL_I hI) w2 (by rw [w1]; omega) (by rw [w1]; exact Nat.le_refl _) (by rw [w1]; have := hI.2.1; omega) f1 ?_
    unfold endW; rw [if_pos hlt']
  · have hlt' : ¬ wd < s.2.2.2 := by omega
    refine v_X0_endWord_17 hbd ?_
    rw [hC.2.2.1, hC.2.2.2.2.1]
    refine ⟨fun _ => ⟨fun z => by omega, fun _ => ?_⟩, fun z => by omega⟩
    exact c_endWord_80 hbd hT hC hI hp hw (by omega) hw6 (fun M2 k2 f2 => hQ M2 (by unfold endW; rw [if_neg hlt']; exact k2) f2)
theorem c_endLine (hbd : b = 38 ∨ b = 81) (hT : TxX b X MI) (hC : ComC wd s MI) (hI : SmI X wd pos s) (hp : pos ≤ 2000) (hw : 0 < wd) (hw6 : wd ≤ 60) (hQ : ∀ MI', ComC wd (endL X wd s) MI' → frP chLn MI MI' → Q none (MI', ML, GR d e nw th x)) :
    wp cs mX0_endLine KD Q 0 (padL [vR 28, vR b] 2) [] (KD, MI, ML, GR d e nw th x) := by
  obtain ⟨e1, e2, e3, e4, e5⟩ := endW_ok hw hI
  refine v_X0_endLine_0 hbd (c_endWord hbd hT hC hI hp hw hw6 (fun M1 k1 f1 => rV_mk (c_finishLine' k1 (by omega) e4 (fun M2 k2 f2 _ => rV_mk (hQ M2 k2 (frP_tr f1 f2))))))
end Pf03
