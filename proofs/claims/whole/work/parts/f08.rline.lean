/-! The reference's lines: toLine, endLine, endWord. -/
def CurR (ln : Nat) (c : By) (MI : Nat → Nat → Int) : Prop := MI 192 ln = (c.length : Nat) ∧ ∀ (j : Nat) (v : Int), c[j]? = some v → MI 191 (60 * ln + j) = v
def LnsR (ns : List Nd) (l : List Ln) (MI : Nat → Nat → Int) : Prop := ∀ (i : Nat) (x : Ln), l[i]? = some x → CurR i x.1 MI ∧ MI 195 i = txN ns x.2
def WrdR (ns : List Nd) (X : By) (fr wf wl : Nat) (MI : Nat → Nat → Int) : Prop := MI 124 98 = ((fr + wl : Nat) : Int) ∧ ∀ j, j < wl → MI 198 (fr + j) = X.getD (wf + j) 0 ∧ MI 199 (fr + j) = txN ns (wf + j)
def ComR (ns : List Nd) (X : By) (wd fr : Nat) (s : SM) (MI : Nat → Nat → Int) : Prop := MI 124 86 = (s.1.length : Nat) ∧ MI 124 99 = (if s.2.1.1 = [] then 0 else 1) ∧ MI 124 100 = (wd : Nat) ∧ LnsR ns s.1 MI ∧ CurR s.1.length s.2.1.1 MI ∧ (s.2.1.1 ≠ [] → MI 195 s.1.length = txN ns s.2.1.2) ∧ WrdR ns X fr s.2.2.1 s.2.2.2 MI
def chTL (ln i k : Nat) : Prop := (i = 191 ∧ 60 * ln ≤ k ∧ k < 60 * ln + 60) ∨ (i = 192 ∧ k = ln) ∨ (i = 195 ∧ k = ln) ∨ (i = 124 ∧ k = 99)
def chLR (i k : Nat) : Prop := i = 191 ∨ i = 192 ∨ i = 195 ∨ (i = 124 ∧ (k = 86 ∨ k = 98 ∨ k = 99))
theorem endW_else {X : By} {wd : Nat} {s : SM} (h0 : 0 < s.2.2.2) (hno : ¬ (s.2.1.1 ≠ [] ∧ s.2.1.1.length + 1 + s.2.2.2 ≤ wd)) (hc : (chkF X wd s.2.2.2 (finL s)).2.1.1 = []) (hp : 0 < (chkF X wd s.2.2.2 (finL s)).2.2.2) : endW X wd s = noW (appL X (chkF X wd s.2.2.2 (finL s)).2.2.2 (chkF X wd s.2.2.2 (finL s))) := by
  unfold endW
  by_cases hl : wd < s.2.2.2
  · rw [if_pos hl]
    unfold putW
    rw [if_pos hp]
    congr 2
    split
    · exact (finL_w _).2.2.2 (by rw [hc]; simp)
    · rfl
  · rw [if_neg hl]
    have e1 : chkF X wd s.2.2.2 (finL s) = finL s := by
      obtain ⟨k, hk⟩ : ∃ k, s.2.2.2 = k + 1 := ⟨s.2.2.2 - 1, by omega⟩
      rw [hk, chkF, if_neg]
      rw [(finL_w s).1]; exact hl
    rw [e1]
    unfold putW
    rw [if_pos h0, (finL_w s).1]
    congr 2
    by_cases hcu : s.2.1.1 = []
    · have : finL s = s := by unfold finL; rw [if_pos hcu]
      rw [this]; split <;> rfl
    · rw [if_pos (Decidable.byContradiction fun w => hno ⟨hcu, by omega⟩)]
section Pf08
variable {cs : Cs} {Q : Option AV → Mm → Prop} {MI ML OI : Nat → Nat → Int} {d e nw th x : Nat} {ns : List Nd} {X : By} {wd pos fr : Nat} {s : SM}
theorem LnsR_fr {l : List Ln} {ln : Nat} {M : Nat → Nat → Int} (h : LnsR ns l MI) (hV : LnV wd l) (hw : wd ≤ 60) (hl : l.length ≤ ln) (f : frP (chTL ln) MI M) : LnsR ns l M := fun i y hy => by
  have hil := (List.getElem?_eq_some_iff.mp hy).1
  obtain ⟨⟨a1, a2⟩, a3⟩ := h i y hy
  have hv := hV y (List.mem_of_getElem? hy)
  refine ⟨⟨by rw [f 192 i (by unfold chTL; omega)]; exact a1, fun j v hj => ?_⟩, by rw [f 195 i (by unfold chTL; omega)]; exact a3⟩
  have hjl := (List.getElem?_eq_some_iff.mp hj).1
  rw [f 191 _ (by unfold chTL; omega)]; exact a2 j v hj
theorem c_toLine {ln wf wl l : Nat} {c : By} (hln : ln < 4000) (h86 : MI 124 86 = (ln : Nat)) (hC : CurR ln c MI) (hWd : WrdR ns X fr wf wl MI) (hl : l ≤ wl) (hfr : fr + wl ≤ 2000) (hX : wf + wl ≤ X.length) (hch : ∀ v ∈ X, 0 ≤ v ∧ v < 128) (hlen : c.length + l ≤ 60)
    (hQ : ∀ MI', CurR ln (c ++ slX X wf l) MI' → (0 < l → c = [] → MI' 195 ln = txN ns wf) → (c ≠ [] → MI' 195 ln = MI 195 ln) → MI' 124 99 = 1 → frP (chTL ln) MI MI' → Q none (MI', ML, GR d e nw th x)) :
    wp cs mX12_toLine KD Q 0 (padL [vR 124, vI (fr : Nat), vI (l : Nat)] 4) [] (KD, MI, ML, GR d e nw th x) := by
  have loop : ∀ (m i : Nat) (M : Nat → Nat → Int), i + m = l → CurR ln (c ++ slX X wf i) M → (0 < i → c = [] → M 195 ln = txN ns wf) → (c ≠ [] → M 195 ln = MI 195 ln) → frP (chTL ln) MI M →
      wp cs mX12_toLine KD Q 2 [some (vR 124), some (vI (fr : Nat)), some (vI (l : Nat)), some (vI ((fr + i : Nat) : Int))] [] (KD, M, ML, GR d e nw th x) := by
    intro m
    induction m with
    | zero =>
      intro i M hi hCM h1 h2 hf
      have hil : i = l := by omega
      subst hil
      refine v_X12_toLine_2 ⟨by omega, fun z => by omega, fun _ => ?_⟩
      rintro _ rfl
      refine hQ _ ⟨by rw [up2_ne (by decide)]; exact hCM.1, fun j v hj => by rw [up2_ne (by decide)]; exact hCM.2 j v hj⟩ (fun z1 z2 => by rw [up2_ne (by decide)]; exact h1 z1 z2) (fun z => by rw [up2_ne (by decide)]; exact h2 z) up2_eq (frP_tr hf (frP_up (by unfold chTL; omega)))
    | succ m ih =>
      intro i M hi hCM h1 h2 hf
      have g86 : M 124 86 = (ln : Nat) := by rw [hf 124 86 (by unfold chTL; omega)]; exact h86
      have hsl : (slX X wf i).length = i := slX_len (by omega)
      have hcl : (c ++ slX X wf i).length = c.length + i := by rw [List.length_append, hsl]
      have g192 : M 192 ln = ((c.length + i : Nat) : Int) := by rw [hCM.1, hcl]
      obtain ⟨w1, w2⟩ := hWd.2 i (by omega)
      have g198 : M 198 (fr + i) = X.getD (wf + i) 0 := by rw [hf 198 _ (by unfold chTL; omega)]; exact w1
      have g199 : M 199 (fr + i) = txN ns (wf + i) := by rw [hf 199 _ (by unfold chTL; omega)]; exact w2
      have hxi : wf + i < X.length := by omega
      have hgd : X.getD (wf + i) 0 = X[wf + i] := by rw [List.getD_eq_getElem?_getD, List.getElem?_eq_getElem hxi]; rfl
      have hby := hch X[wf + i] (List.getElem_mem hxi)
      -- the byte is put
      have put : ∀ (M1 : Nat → Nat → Int), frP (fun i k => i = 195 ∧ k = ln) M M1 → (c = [] → M1 195 ln = txN ns wf) → (c ≠ [] → M1 195 ln = MI 195 ln) → wp cs mX12_toLine KD Q 36 [some (vR 124), some (vI (fr : Nat)), some (vI (l : Nat)), some (vI ((fr + i : Nat) : Int))] [] (KD, M1, ML, GR d e nw th x) := by
        intro M1 f1 k1 k2
        have q86 : M1 124 86 = (ln : Nat) := by rw [f1 124 86 (by omega)]; exact g86
        have q192 : M1 192 ln = ((c.length + i : Nat) : Int) := by rw [f1 192 ln (by omega)]; exact g192
        have q198 : M1 198 (fr + i) = X[wf + i] := by rw [f1 198 _ (by omega), g198, hgd]
        refine v_X12_toLine_36 ?_
        rw [q86]
        simp only [Int.toNat_natCast]
        rw [q192, q198, show 60 * ((ln : Nat) : Int) + ((c.length + i : Nat) : Int) = ((60 * ln + (c.length + i) : Nat) : Int) by omega]
        simp only [Int.toNat_natCast]
        refine ⟨by omega, by omega, by omega, by omega, by omega, by omega, ?_⟩
        rintro _ rfl
        rw [up2_ne (by decide), q86]
        simp only [Int.toNat_natCast]
        rw [up2_ne (by decide), q192]
        refine ⟨by omega, by omega, ?_⟩
        rintro _ rfl
        rw [show ((fr + i : Nat) : Int) + 1 = ((fr + (i + 1) : Nat) : Int) by omega]
        have hsx : slX X wf (i + 1) = slX X wf i ++ [X[wf + i]] := by
          unfold slX
          rw [List.take_succ, List.getElem?_drop, List.getElem?_eq_getElem hxi]; rfl
        refine ⟨by omega, ih (i + 1) _ (by omega) ⟨?_, fun j v hj => ?_⟩ (fun _ z => ?_) (fun z => ?_) (frP_tr hf (frP_tr (frP_mono f1 (fun i k z => Or.inr (Or.inr (Or.inl z)))) (frP_tr (frP_up (Or.inl ⟨rfl, by omega, by omega⟩)) (frP_up (Or.inr (Or.inl ⟨rfl, rfl⟩))))))⟩
        · rw [up2_eq, hsx, ← List.append_assoc, List.length_append, hcl]; simp
        · rw [hsx, ← List.append_assoc] at hj
          rw [up2_ne (by decide)]
          by_cases hjl : j < c.length + i
          · rw [List.getElem?_append_left (by omega)] at hj
            rw [up2_nk (by omega), f1 191 _ (by omega)]
            exact hCM.2 j v hj
          · have h2' := (List.getElem?_eq_some_iff.mp hj).1
            rw [List.length_append, hcl] at h2'
            simp only [List.length_singleton] at h2'
            have hje : j = c.length + i := by omega
            rw [List.getElem?_append_right (by omega), hcl, hje] at hj
            simp at hj
            rw [hje, up2_eq, hj]
        · rw [up2_ne (by decide), up2_ne (by decide)]; exact k1 z
        · rw [up2_ne (by decide), up2_ne (by decide)]; exact k2 z
      refine v_X12_toLine_2 ?_
      rw [g86]
      simp only [Int.toNat_natCast]
      rw [g192, g199]
      refine ⟨by omega, fun _ => ⟨by omega, fun h0 => ⟨by omega, ?_⟩, fun h0 => put M (frP_rfl _ _) (fun z => ?_) h2⟩, fun z => by omega⟩
      · have hc0 : c = [] := List.eq_nil_of_length_eq_zero (by omega)
        have hi0 : i = 0 := by omega
        rintro _ rfl
        refine put _ (frP_up ⟨rfl, rfl⟩) (fun _ => ?_) (fun z => absurd hc0 z)
        rw [up2_eq, hi0, Nat.add_zero]
      · refine h1 ?_ z
        rw [z] at h0; simp at h0; omega
  refine v_X12_toLine_0 ?_
  have := loop l 0 MI (by omega) (by unfold slX; rw [List.take_zero, List.append_nil]; exact hC) (fun z => absurd z (Nat.lt_irrefl _)) (fun _ => rfl) (frP_rfl _ _)
  rw [Nat.add_zero] at this
  exact this
theorem CurR_0 {ln : Nat} (h : MI 192 ln = 0) : CurR ln [] MI := ⟨h, fun j v hj => by simp at hj⟩
theorem c_rendLine (hC : ComR ns X wd fr s MI) (hL : s.1.length + 1 < 4000) (hQ : ∀ MI', ComR ns X wd fr (finL s) MI' → frP chLR MI MI' → Q none (MI', ML, GR d e nw th x)) :
    wp cs mX12_endLine KD Q 0 (padL [vR 124] 1) [] (KD, MI, ML, GR d e nw th x) := by
  obtain ⟨c1, c2, c3, c4, c5, c6, c7⟩ := hC
  refine v_X12_endLine_0 ?_
  rw [c2, c1]
  by_cases he : s.2.1.1 = []
  · have hf : finL s = s := by unfold finL; rw [if_pos he]
    rw [hf] at hQ
    rw [if_pos he]
    simp only [Int.toNat_natCast]
    refine ⟨fun _ => ⟨by omega, ?_⟩, fun z => absurd rfl z⟩
    rintro _ rfl
    have hid : up2 MI 192 s.1.length 0 = MI := up2_self (by rw [c5.1, he]; rfl)
    rw [hid]
    exact hQ MI ⟨c1, c2, c3, c4, c5, c6, c7⟩ (frP_rfl _ _)
  · have hf : finL s = (s.1 ++ [s.2.1], ([], 0), s.2.2) := by unfold finL; rw [if_neg he]
    rw [if_neg he]
    refine ⟨fun z => by omega, fun _ => ⟨by omega, ?_⟩⟩
    rintro _ rfl _ rfl
    rw [up2_nk (by decide), up2_eq]
    refine ⟨by omega, ?_⟩
    rintro _ rfl
    rw [show (((s.1.length : Nat) : Int) + 1).toNat = s.1.length + 1 by omega]
    obtain ⟨M, hM⟩ : ∃ M, M = up2 (up2 (up2 MI 124 86 (((s.1.length : Nat) : Int) + 1)) 124 99 0) 192 (s.1.length + 1) 0 := ⟨_, rfl⟩
    rw [← hM]
    have g86 : M 124 86 = ((s.1.length + 1 : Nat) : Int) := by rw [hM, up2_ne (by decide), up2_nk (by decide), up2_eq]; omega
    have g99 : M 124 99 = 0 := by rw [hM, up2_ne (by decide), up2_eq]
    have gk : ∀ k, k ≠ 86 → k ≠ 99 → M 124 k = MI 124 k := fun k k1 k2 => by rw [hM, up2_ne (by decide), up2_nk k2, up2_nk k1]
    have g192 : ∀ i, i ≠ s.1.length + 1 → M 192 i = MI 192 i := fun i hi => by rw [hM, up2_nk hi, up2_ne (by decide), up2_ne (by decide)]
    have g192b : M 192 (s.1.length + 1) = 0 := by rw [hM, up2_eq]
    have go : ∀ i, i ≠ 124 → i ≠ 192 → M i = MI i := fun i i1 i2 => by rw [hM]; funext k; rw [up2_ne i2, up2_ne i1, up2_ne i1]
    have hfr : frP chLR MI M := by rw [hM]; exact frP_tr (frP_up (by unfold chLR; omega)) (frP_tr (frP_up (by unfold chLR; omega)) (frP_up (by unfold chLR; omega)))
    clear hM
    rw [hf] at hQ
    refine hQ M ⟨by rw [g86]; simp, by rw [g99]; rfl, by rw [gk 100 (by decide) (by decide)]; exact c3, fun i y hy => ?_, ?_, fun z => absurd rfl z, ⟨by rw [gk 98 (by decide) (by decide)]; exact c7.1, fun j hj => by rw [go 198 (by decide) (by decide), go 199 (by decide) (by decide)]; exact c7.2 j hj⟩⟩ hfr
    · simp only at hy
      by_cases hil : i < s.1.length
      · rw [List.getElem?_append_left hil] at hy
        obtain ⟨⟨a1, a2⟩, a3⟩ := c4 i y hy
        exact ⟨⟨by rw [g192 i (by omega)]; exact a1, fun j v hj => by rw [go 191 (by decide) (by decide)]; exact a2 j v hj⟩, by rw [go 195 (by decide) (by decide)]; exact a3⟩
      · have h2 := (List.getElem?_eq_some_iff.mp hy).1
        simp only [List.length_append, List.length_singleton] at h2
        have h3 : i = s.1.length := by omega
        subst h3
        rw [List.getElem?_append_right (Nat.le_refl _)] at hy
        simp at hy
        subst hy
        exact ⟨⟨by rw [g192 _ (by omega)]; exact c5.1, fun j v hj => by rw [go 191 (by decide) (by decide)]; exact c5.2 j v hj⟩, by rw [go 195 (by decide) (by decide)]; exact c6 he⟩
    · show CurR (s.1 ++ [s.2.1]).length [] M
      rw [List.length_append, List.length_singleton]
      exact CurR_0 g192b
/-- toLine over a state -/
theorem c_rapp {l : Nat} (hC : ComR ns X wd fr s MI) (hI : SmI X wd pos s) (hp : pos ≤ 2000) (hw6 : wd ≤ 60) (hch : ∀ v ∈ X, 0 ≤ v ∧ v < 128) (he : s.2.1.1 = []) (hl : 0 < l ∧ l ≤ s.2.2.2) (hlw : l ≤ wd) (hfr : fr + s.2.2.2 ≤ 2000) (hQ : ∀ MI', ComR ns X wd fr (appL X l s) MI' → frP chLR MI MI' → Q none (MI', ML, GR d e nw th x)) :
    wp cs mX12_toLine KD Q 0 (padL [vR 124, vI (fr : Nat), vI (l : Nat)] 4) [] (KD, MI, ML, GR d e nw th x) := by
  obtain ⟨c1, c2, c3, c4, c5, c6, c7⟩ := hC
  have ha := appL_ok (l := l) hI hl (by rw [he, if_pos rfl]; simp; exact hlw)
  have hi1 := hI.1
  have hge := sumL_ge hI.2.2.2.2
  have htot : tot s = sumL s.1 + s.2.1.1.length := rfl
  have h3 := hI.2.2.1 (by omega)
  have hx := hI.2.1
  have hap : appL X l s = (s.1, (slX X s.2.2.1 l, s.2.2.1), s.2.2) := by unfold appL; rw [if_pos he]
  rw [he] at c5
  refine c_toLine (by omega) c1 c5 c7 hl.2 hfr (by omega) hch (by simp; omega) (fun M k1 k2 k3 k4 f => hQ M ?_ (frP_mono f (fun i k z => by unfold chTL at z; unfold chLR; omega)))
  have hne := ha.2.1
  rw [hap] at hne ⊢
  refine ⟨by rw [f 124 86 (by unfold chTL; omega)]; exact c1, by rw [k4, if_neg hne], by rw [f 124 100 (by unfold chTL; omega)]; exact c3, LnsR_fr c4 hI.2.2.2.2 hw6 (Nat.le_refl _) f, by simpa using k1, fun _ => k2 hl.1 rfl, ⟨by rw [f 124 98 (by unfold chTL; omega)]; exact c7.1, fun j hj => by rw [f 198 _ (by unfold chTL; omega), f 199 _ (by unfold chTL; omega)]; exact c7.2 j hj⟩⟩
theorem ComR_0 (hC : ComR ns X wd fr s MI) : ComR ns X wd 0 (noW s) (up2 MI 124 98 0) := by
  obtain ⟨c1, c2, c3, c4, c5, c6, c7⟩ := hC
  exact ⟨by rw [up2_nk (by decide)]; exact c1, by rw [up2_nk (by decide)]; exact c2, by rw [up2_nk (by decide)]; exact c3, fun i y hy => by obtain ⟨⟨a1, a2⟩, a3⟩ := c4 i y hy; exact ⟨⟨by rw [up2_ne (by decide)]; exact a1, fun j v hj => by rw [up2_ne (by decide)]; exact a2 j v hj⟩, by rw [up2_ne (by decide)]; exact a3⟩, ⟨by rw [up2_ne (by decide)]; exact c5.1, fun j v hj => by rw [up2_ne (by decide)]; exact c5.2 j v hj⟩, fun z => by rw [up2_ne (by decide)]; exact c6 z, ⟨by rw [up2_eq]; rfl, fun j hj => absurd hj (Nat.not_lt_zero _)⟩⟩
theorem c_rendWord (hC : ComR ns X wd 0 s MI) (hI : SmI X wd pos s) (hp : pos ≤ 2000) (hw : 0 < wd) (hw6 : wd ≤ 60) (hch : ∀ v ∈ X, 0 ≤ v ∧ v < 128) (hQ : ∀ MI', ComR ns X wd 0 (endW X wd s) MI' → frP chLR MI MI' → Q none (MI', ML, GR d e nw th x)) :
    wp cs mX12_endWord KD Q 0 (padL [vR 124] 2) [] (KD, MI, ML, GR d e nw th x) := by
  have hCC := hC
  obtain ⟨c1, c2, c3, c4, c5, c6, c7⟩ := hC
  have hi1 := hI.1
  have hge := sumL_ge hI.2.2.2.2
  have htot : tot s = sumL s.1 + s.2.1.1.length := rfl
  have h98 : MI 124 98 = (s.2.2.2 : Nat) := by rw [c7.1, Nat.zero_add]
  have f98 : ∀ {A : Nat → Nat → Int}, frP chLR A (up2 A 124 98 0) := fun {_} => frP_up (by unfold chLR; omega)
  have loop : ∀ (k : Nat) (s1 : SM) (fr : Nat) (M : Nat → Nat → Int), ComR ns X wd fr s1 M → SmI X wd pos s1 → s1.2.1.1 = [] → 0 < s1.2.2.2 → s1.2.2.2 ≤ k → fr + s1.2.2.2 ≤ 2000 → frP chLR MI M → endW X wd s = noW (appL X (chkF X wd k s1).2.2.2 (chkF X wd k s1)) →
      wp cs mX12_endWord KD Q 96 [some (vR 124), some (vI (fr : Nat))] [] (KD, M, ML, GR d e nw th x) := by
    intro k
    induction k with
    | zero => intro s1 fr M _ _ _ h0 hk; omega
    | succ k ih =>
      intro s1 fr M hC1 hI1 hc h0 hk hfr2 hfr heq
      have g98 := hC1.2.2.2.2.2.2.1
      have g100 := hC1.2.2.1
      have hge1 := sumL_ge hI1.2.2.2.2
      have htot1 : tot s1 = sumL s1.1 + s1.2.1.1.length := rfl
      have hi11 := hI1.1
      refine v_X12_endWord_96 ?_
      rw [g98, g100, show ((fr + s1.2.2.2 : Nat) : Int) - ((fr : Nat) : Int) = ((s1.2.2.2 : Nat) : Int) by omega]
      refine ⟨by omega, fun hlt => ?_, fun hge' => ?_⟩
      · have hlt' : wd < s1.2.2.2 := by omega
        rw [chkF, if_pos hlt'] at heq
        obtain ⟨i1, i2, i3⟩ := chk_I hI1 hc hw hlt'
        refine c_rapp hC1 hI1 hp hw6 hch hc ⟨hw, by omega⟩ (Nat.le_refl _) hfr2 (fun M2 k2 f2 => rV_mk ?_)
        refine c_rendLine k2 (by show s1.1.length + 1 < 4000; omega) (fun M3 k3 f3 => rV_mk ?_)
        obtain ⟨w1, w2, w3, w4⟩ := finL_w (appL X wd s1)
        rw [k3.2.2.1, show ((fr : Nat) : Int) + ((wd : Nat) : Int) = ((fr + wd : Nat) : Int) by omega]
        refine ⟨by omega, ih (movW wd (finL (appL X wd s1))) (fr + wd) M3 ?_ i1 i2 (by rw [i3]; omega) (by rw [i3]; omega) (by rw [i3]; omega) (frP_tr hfr (frP_tr f2 f3)) heq⟩
        obtain ⟨d1, d2, d3, d4, d5, d6, d7⟩ := k3
        have e22 : (finL (appL X wd s1)).2.2 = s1.2.2 := w1
        refine ⟨d1, d2, d3, d4, d5, d6, ?_, fun j hj => ?_⟩
        · rw [d7.1, e22]
          show _ = ((fr + wd + ((finL (appL X wd s1)).2.2.2 - wd) : Nat) : Int)
          rw [e22]; omega
        · have hj' : j < (finL (appL X wd s1)).2.2.2 - wd := hj
          rw [e22] at hj'
          have := d7.2 (wd + j) (by rw [e22]; omega)
          show M3 198 (fr + wd + j) = X.getD ((finL (appL X wd s1)).2.2.1 + wd + j) 0 ∧ M3 199 (fr + wd + j) = txN ns ((finL (appL X wd s1)).2.2.1 + wd + j)
          rw [show fr + wd + j = fr + (wd + j) by omega, show (finL (appL X wd s1)).2.2.1 + wd + j = (finL (appL X wd s1)).2.2.1 + (wd + j) by omega]
          exact this
      · have hlt' : ¬ wd < s1.2.2.2 := by omega
        rw [chkF, if_neg hlt'] at heq
        refine c_rapp hC1 hI1 hp hw6 hch hc ⟨h0, Nat.le_refl _⟩ (by omega) hfr2 (fun M2 k2 f2 => rV_mk ?_)
        rintro _ rfl
        exact hQ _ (by rw [heq]; exact ComR_0 k2) (frP_tr hfr (frP_tr f2 f98))
  have els : ¬ (s.2.1.1 ≠ [] ∧ s.2.1.1.length + 1 + s.2.2.2 ≤ wd) → 0 < s.2.2.2 → wp cs mX12_endLine KD (rV (GR d e nw th x) fun m91 n91 => wp cs mX12_endWord KD Q 96 [some (vR 124), some (vI 0)] [] (KD, m91, n91, (GR d e nw th x))) 0 (padL [vR 124] 1) [] (KD, MI, ML, (GR d e nw th x)) := by
    intro hno h0
    obtain ⟨w1, w2, w3, w4⟩ := finL_w s
    have hck := chkF_I (X := X) (pos := pos) hw s.2.2.2 (finL s) (finL_I hI) w2 (by rw [w1]; omega) (by rw [w1]; exact Nat.le_refl _)
    refine c_rendLine hCC (by omega) (fun M1 k1 f1 => rV_mk ?_)
    exact loop s.2.2.2 (finL s) 0 M1 k1 (finL_I hI) w2 (by rw [w1]; omega) (by rw [w1]; exact Nat.le_refl _) (by rw [w1]; omega) f1 (endW_else h0 hno hck.2.1 hck.2.2.1)
  refine v_X12_endWord_0 ?_
  rw [h98, c2, c1, c3]
  simp only [Int.toNat_natCast]
  rw [c5.1]
  have hcw := hI.2.2.2.1
  refine ⟨fun h0 => ?_, fun h0 => ⟨fun hop => ?_, fun hop => ⟨by omega, by omega, by omega, fun hnf => ?_, fun hfit => ?_⟩⟩⟩
  · have h00 : s.2.2.2 = 0 := by omega
    have heq : endW X wd s = s := by
      unfold endW
      rw [if_neg (by omega)]
      unfold putW
      rw [if_neg (by omega)]
      unfold noW
      obtain ⟨a1, a2, a3, a4⟩ := s
      simp only at h00 ⊢
      rw [h00]
    rw [heq] at hQ
    exact hQ MI hCC (frP_rfl _ _)
  · exact els (fun z => by rw [if_neg z.1] at hop; omega) (by omega)
  · exact els (fun z => by omega) (by omega)
  · have hne : s.2.1.1 ≠ [] := fun z => hop (by rw [if_pos z])
    have h0' : 0 < s.2.2.2 := by omega
    have hfit' : s.2.1.1.length + 1 + s.2.2.2 ≤ wd := by omega
    have hput : endW X wd s = noW (appL X s.2.2.2 s) := by
      unfold endW; rw [if_neg (by omega)]; unfold putW; rw [if_pos h0', if_neg (by omega)]
    rw [hput] at hQ
    have ha := appL_ok (l := s.2.2.2) hI ⟨h0', Nat.le_refl _⟩ (by rw [if_neg hne]; omega)
    have h3 := hI.2.2.1 h0'
    have hx := hI.2.1
    rw [show 60 * ((s.1.length : Nat) : Int) + ((s.2.1.1.length : Nat) : Int) = ((60 * s.1.length + s.2.1.1.length : Nat) : Int) by omega]
    simp only [Int.toNat_natCast]
    refine ⟨by omega, by omega, by omega, ?_⟩
    rintro _ rfl
    rw [up2_ne (by decide), c1]
    simp only [Int.toNat_natCast]
    rw [up2_ne (by decide), c5.1]
    refine ⟨by omega, by omega, ?_⟩
    rintro _ rfl
    obtain ⟨M1, hM1⟩ : ∃ M1, M1 = up2 (up2 MI 191 (60 * s.1.length + s.2.1.1.length) 32) 192 s.1.length (((s.2.1.1.length : Nat) : Int) + 1) := ⟨_, rfl⟩
    rw [← hM1]
    have f1 : frP (chTL s.1.length) MI M1 := by rw [hM1]; exact frP_tr (frP_up (Or.inl ⟨rfl, by omega, by omega⟩)) (frP_up (Or.inr (Or.inl ⟨rfl, rfl⟩)))
    have g98 : M1 124 98 = (s.2.2.2 : Nat) := by rw [f1 124 98 (by unfold chTL; omega)]; exact h98
    have cur1 : CurR s.1.length (s.2.1.1 ++ [32]) M1 := by
      refine ⟨by rw [hM1, up2_eq, List.length_append]; simp, fun j v hj => ?_⟩
      rw [hM1, up2_ne (by decide)]
      by_cases hjl : j < s.2.1.1.length
      · rw [List.getElem?_append_left hjl] at hj
        rw [up2_nk (by omega)]; exact c5.2 j v hj
      · have h2' := (List.getElem?_eq_some_iff.mp hj).1
        rw [List.length_append, List.length_singleton] at h2'
        have hje : j = s.2.1.1.length := by omega
        rw [hje, List.getElem?_append_right (Nat.le_refl _)] at hj
        simp at hj
        rw [hje, up2_eq, hj]
    have u195 : M1 195 s.1.length = MI 195 s.1.length := by rw [hM1, up2_ne (by decide), up2_ne (by decide)]
    clear hM1
    rw [g98]
    have hwr : WrdR ns X 0 s.2.2.1 s.2.2.2 M1 := ⟨by rw [f1 124 98 (by unfold chTL; omega)]; exact c7.1, fun j hj => by rw [f1 198 _ (by unfold chTL; omega), f1 199 _ (by unfold chTL; omega)]; exact c7.2 j hj⟩
    refine c_toLine (ln := s.1.length) (fr := 0) (by omega) (by rw [f1 124 86 (by unfold chTL; omega)]; exact c1) cur1 hwr (Nat.le_refl _) (by omega) (by omega) hch (by rw [List.length_append]; simp; omega) (fun M2 k1 k2 k3 k4 f2 => rV_mk ?_)
    rintro _ rfl
    have f12 := frP_tr f1 f2
    refine hQ _ (ComR_0 (fr := 0) ?_) (frP_tr (frP_mono f12 (fun i k z => by unfold chTL at z; unfold chLR; omega)) f98)
    have hap : appL X s.2.2.2 s = (s.1, (s.2.1.1 ++ 32 :: slX X s.2.2.1 s.2.2.2, s.2.1.2), s.2.2) := by unfold appL; rw [if_neg hne]
    rw [hap]
    refine ⟨by rw [f12 124 86 (by unfold chTL; omega)]; exact c1, by rw [k4, if_neg (by simp)], by rw [f12 124 100 (by unfold chTL; omega)]; exact c3, LnsR_fr c4 hI.2.2.2.2 hw6 (Nat.le_refl _) f12, ?_, fun _ => ?_, ⟨by rw [f12 124 98 (by unfold chTL; omega)]; exact c7.1, fun j hj => by rw [f12 198 _ (by unfold chTL; omega), f12 199 _ (by unfold chTL; omega)]; exact c7.2 j hj⟩⟩
    · rw [List.append_assoc] at k1; exact k1
    · rw [k3 (by simp)]
      rw [u195]; exact c6 hne
end Pf08
