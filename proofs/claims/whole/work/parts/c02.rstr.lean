/-! The reference's node, name, string; findings and finding on both sides. -/
theorem and255_l : ∀ k : Nat, k < 128 → i_and (k : Int) 255 = (k : Int) := by decide +kernel
theorem and255 {c : Int} (h : 0 ≤ c ∧ c < 128) : i_and c 255 = c := by
  have := and255_l c.toNat (by omega)
  rw [show ((c.toNat : Nat) : Int) = c by omega] at this
  exact this
def D0 : Dm := ((none, [], []), [], 0)
/-- the reference holds D in bank bk -/
def HldR (bk : Nat) (T : Nat → Int) (n : Int) (pl : Nat) (D : Dm) (MI ML : Nat → Nat → Int) : Prop := PicR bk T n pl D MI ML ∧ MI 124 7 = (bk : Int) ∧ ∃ v, MI 124 8 = v
/-- the reference holds D (or nothing yet) -/
def RefH (D : Dm) (MI ML : Nat → Nat → Int) : Prop := (D = D0 ∧ MI 124 9 = 0) ∨ (MI 124 9 = 1 ∧ ∃ bk T n pl, HldR bk T n pl D MI ML)
theorem cT_pre {ns : List Nd} {k : Nat} : ∀ (c m : Nat), k ≤ m → m + c ≤ ns.length → ∃ r, cT ns k (m + c) = cT ns k m ++ r
  | 0, m, _, _ => ⟨[], by simp⟩
  | c + 1, m, h1, h2 => by
    obtain ⟨r, hr⟩ := cT_pre (ns := ns) (k := k) c m h1 (by omega)
    obtain ⟨y, hy⟩ : ∃ y, ns[m + c]? = some y := ⟨_, List.getElem?_eq_getElem (by omega)⟩
    refine ⟨r ++ tB y, ?_⟩
    rw [show m + (c + 1) = (m + c) + 1 by omega, cT_s (by omega) hy, hr, List.append_assoc]
section Pc02
variable {cs : Cs} {Q : Option AV → Mm → Prop} {MI ML : Nat → Nat → Int} {bk b d e nw th x pl : Nat} {T : Nat → Int} {n : Int} {D : Dm}
theorem c_isNode {k : Int} (hH : RefH D MI ML) (hQ : Q (some (vI (if 0 ≤ k ∧ k < (D.2.1.length : Nat) then 1 else 0))) (MI, ML, GR d e nw th x)) :
    wp cs mX12_isNode KD Q 0 (padL [vR 124, vI k] 2) [] (KD, MI, ML, GR d e nw th x) := by
  rcases hH with ⟨h1, h2⟩ | ⟨h1, bk, T, n, pl, hH⟩
  · refine v_X12_isNode_0 ⟨fun _ => ?_, fun z => absurd h2 z⟩
    rw [if_neg (fun w => by rw [h1] at w; have h2 : k < 0 := w.2; omega)] at hQ; exact hQ
  · have p7 := hH.1.2.2.2.2.2.2
    have h600 := hH.1.2.1.2.1
    refine v_X12_isNode_0 ⟨fun z => by omega, fun _ => ?_⟩
    rw [hH.2.1]
    simp only [Int.toNat_natCast]
    rw [hH.1.2.1.1]
    refine ⟨by omega, by omega, w_X12_in (rI_mk ?_)⟩
    by_cases hin : 0 ≤ k ∧ k < (D.2.1.length : Nat)
    · rw [if_pos hin] at hQ
      rw [show bI (0 ≤ k ∧ k ≤ ((D.2.1.length : Nat) : Int) - 1) = 1 from if_pos (by omega)]
      exact ⟨fun z => by omega, fun _ => hQ⟩
    · rw [if_neg hin] at hQ
      rw [show bI (0 ≤ k ∧ k ≤ ((D.2.1.length : Nat) : Int) - 1) = 0 from if_neg (by omega)]
      exact ⟨fun _ => hQ, fun z => absurd rfl z⟩
theorem c_isWithin {t k : Nat} (hH : HldR bk T n pl D MI ML) (hW : WfN D.2.1) (ht : t < D.2.1.length) (hk : k < D.2.1.length) (hQ : Q (some (vI (if k ≤ t ∧ t < eS D.2.1 k then 1 else 0))) (MI, ML, GR d e nw th x)) :
    wp cs mX12_isWithin KD Q 0 (padL [vR 124, vI (t : Nat), vI (k : Nat)] 5) [] (KD, MI, ML, GR d e nw th x) := by
  have p7 := hH.1.2.2.2.2.2.2
  have h600 := hH.1.2.1.2.1
  have hle := eS_le hk
  have key : ∀ (c : Nat) (hit : Bool), c < D.2.1.length → ((hit || decide (k ≤ c ∧ c < eS D.2.1 k)) = decide (k ≤ t ∧ t < eS D.2.1 k)) → wp cs mX12_isWithin KD Q 5 [some (vR 124), some (vI (t : Nat)), some (vI (k : Nat)), some (vI (if hit = true then 1 else 0)), some (vI (c : Nat))] [] (KD, MI, ML, GR d e nw th x) := by
    intro c
    induction c using Nat.strongRecOn with
    | _ c ih =>
      intro hit hc hinv
      obtain ⟨z, hz⟩ : ∃ z, D.2.1[c]? = some z := ⟨_, List.getElem?_eq_getElem hc⟩
      have hNz := hH.1.2.1.2.2 c z hz
      have s25 : ∀ (l3 : Int) (hit' : Bool), hit' = (hit || decide (c = k)) → wp cs mX12_isWithin KD Q 25 [some (vR 124), some (vI (t : Nat)), some (vI (k : Nat)), some (vI l3), some (vI (c : Nat))] [vI (if hit' = true then 1 else 0)] (KD, MI, ML, GR d e nw th x) := by
        intro l3 hit' hh
        refine v_X12_isWithin_25 ?_
        rw [hH.2.1, show (600 * (bk : Int) + ((c : Nat) : Int)).toNat = 600 * bk + c by omega, hNz.2.1]
        refine ⟨by omega, by omega, by omega, ?_⟩
        by_cases h0 : c = 0
        · subst h0
          rw [hW.1] at hz
          cases hz
          refine v_X12_isWithin_5 ⟨fun _ => ⟨by split <;> simp, ?_⟩, fun w => absurd w (by decide)⟩
          have hv : hit' = decide (k ≤ t ∧ t < eS D.2.1 k) := by
            rw [hh, ← hinv]
            congr 1
            apply decide_eq_decide.mpr
            constructor
            · intro w; omega
            · intro w; omega
          rw [hv]
          by_cases hin : k ≤ t ∧ t < eS D.2.1 k
          · rw [if_pos hin] at hQ
            rw [if_pos (decide_eq_true hin)]; exact hQ
          · rw [if_neg hin] at hQ
            rw [if_neg (by rw [decide_eq_false hin]; decide)]; exact hQ
        · obtain ⟨w1, w2, w3, w4⟩ := hW.2 c z hz (by omega)
          have hup := in_up hW hk hz (by omega)
          have := ih z.2.1.toNat (by omega) hit' (by omega) (by
            rw [← hinv, hh, Bool.or_assoc]
            congr 1
            rw [Bool.eq_iff_iff, Bool.or_eq_true, decide_eq_true_iff, decide_eq_true_iff, decide_eq_true_iff]
            exact hup.symm)
          rw [show ((z.2.1.toNat : Nat) : Int) = z.2.1 by omega] at this
          exact this
      refine v_X12_isWithin_5 ⟨fun w => by omega, fun _ => ⟨fun h0 => ⟨fun he => ?_, fun he => ?_⟩, fun h0 => ?_⟩⟩
      · have := s25 (if hit = true then 1 else 0) true (by rw [decide_eq_true (by omega), Bool.or_true])
        rw [if_pos rfl] at this; exact this
      · have hf : hit = false := by
          cases hit with
          | false => rfl
          | true => rw [if_pos rfl] at h0; omega
        have := s25 (if hit = true then 1 else 0) false (by rw [hf, decide_eq_false (by omega)]; rfl)
        rw [if_neg (show ¬ false = true by decide)] at this; exact this
      · have hf : hit = true := by
          cases hit with
          | true => rfl
          | false => exact absurd rfl h0
        have := s25 (if hit = true then 1 else 0) true (by rw [hf, Bool.true_or])
        rw [if_pos rfl] at this; exact this
  exact v_X12_isWithin_0 (key t false ht (by rw [Bool.false_or]))
/-- how far a STRING's bytes reach ahead of t -/
def pS (ns : List Nd) (k : Nat) (y : Nd) (t : Nat) : Nat := if y.1 = 2 ∨ y.1 = 3 then (if t ≤ k then 0 else y.2.2.2.1.length) else (cT ns k (if t ≤ eS ns k then t else eS ns k)).length
/-- NODE t gives bytes to k's STRING -/
def gv (ns : List Nd) (k : Nat) (y : Nd) (t : Nat) (z : Nd) : Prop := (t = k ∧ (y.1 = 2 ∨ y.1 = 3)) ∨ (z.1 = 3 ∧ ¬ (y.1 = 2 ∨ y.1 = 3) ∧ t < eS ns k)
theorem pS_yes {ns : List Nd} {k t : Nat} {y z : Nd} (hW : WfN ns) (hy : ns[k]? = some y) (hz : ns[t]? = some z) (hkt : k ≤ t) (hg : gv ns k y t z) : pS ns k y (t + 1) = pS ns k y t + z.2.2.2.1.length ∧ ∀ i, i < z.2.2.2.1.length → (stS ns k y)[pS ns k y t + i]? = z.2.2.2.1[i]? := by
  have hkl := (List.getElem?_eq_some_iff.mp hy).1
  have htl := (List.getElem?_eq_some_iff.mp hz).1
  have hle := eS_le hkl
  unfold pS stS
  rcases hg with ⟨h1, h2⟩ | ⟨h1, h2, h3⟩
  · subst h1
    rw [hy] at hz
    cases hz
    rw [if_pos h2, if_pos h2, if_pos h2, if_neg (by omega), if_pos (Nat.le_refl _)]
    exact ⟨by omega, fun i _ => by rw [Nat.zero_add]⟩
  · rw [if_neg h2, if_neg h2, if_neg h2, if_pos (by omega), if_pos (by omega), cT_s hkt hz, List.length_append]
    have htb : tB z = z.2.2.2.1 := by unfold tB; rw [if_pos h1]
    rw [htb]
    refine ⟨rfl, fun i hi => ?_⟩
    obtain ⟨r, hr⟩ := cT_pre (ns := ns) (k := k) (eS ns k - (t + 1)) (t + 1) (by omega) (by omega)
    rw [show t + 1 + (eS ns k - (t + 1)) = eS ns k by omega, cT_s hkt hz, htb] at hr
    rw [hr, List.append_assoc, List.getElem?_append_right (by omega), Nat.add_sub_cancel_left, List.getElem?_append_left hi]
theorem pS_no {ns : List Nd} {k t : Nat} {y z : Nd} (hW : WfN ns) (hy : ns[k]? = some y) (hz : ns[t]? = some z) (hkt : k ≤ t) (hg : ¬ gv ns k y t z) : pS ns k y (t + 1) = pS ns k y t := by
  have hkl := (List.getElem?_eq_some_iff.mp hy).1
  have hle := eS_le hkl
  unfold gv at hg
  unfold pS
  by_cases h2 : y.1 = 2 ∨ y.1 = 3
  · rw [if_pos h2, if_pos h2]
    have : t ≠ k := fun w => hg (Or.inl ⟨w, h2⟩)
    rw [if_neg (by omega), if_neg (by omega)]
  · rw [if_neg h2, if_neg h2]
    by_cases h3 : t < eS ns k
    · rw [if_pos (by omega), if_pos (by omega), cT_s hkt hz]
      have : ¬ z.1 = 3 := fun w => hg (Or.inr ⟨w, h2, h3⟩)
      unfold tB
      rw [if_neg this]; simp
    · rw [if_neg (by omega)]
      split
      · rename_i h4
        have : t = eS ns k := by omega
        rw [this]
      · rfl
theorem pS_end {ns : List Nd} {k : Nat} {y : Nd} (hy : ns[k]? = some y) : pS ns k y ns.length = (stS ns k y).length ∧ pS ns k y k = 0 := by
  have hkl := (List.getElem?_eq_some_iff.mp hy).1
  have hle := eS_le hkl
  unfold pS stS
  by_cases h2 : y.1 = 2 ∨ y.1 = 3
  · rw [if_pos h2, if_pos h2, if_pos h2, if_neg (by omega), if_pos (Nat.le_refl _)]
    exact ⟨rfl, rfl⟩
  · rw [if_neg h2, if_neg h2, if_neg h2, if_pos (show k ≤ eS ns k by omega), cT_nil]
    refine ⟨?_, rfl⟩
    split
    · rw [show ns.length = eS ns k by omega]
    · rfl
theorem pS_le {ns : List Nd} {k t : Nat} {y : Nd} (hy : ns[k]? = some y) (hW : WfN ns) : ∀ (c : Nat), t + c = ns.length → k ≤ t → pS ns k y t ≤ (stS ns k y).length
  := fun c => by
    induction c generalizing t with
    | zero =>
      intro h1 _
      rw [show t = ns.length by omega, (pS_end hy).1]; omega
    | succ c ih =>
      intro h1 h2
      have := ih (t := t + 1) (by omega) (by omega)
      obtain ⟨z, hz⟩ : ∃ z, ns[t]? = some z := ⟨_, List.getElem?_eq_getElem (by omega)⟩
      by_cases hg : gv ns k y t z
      · have := (pS_yes hW hy hz h2 hg).1; omega
      · have := pS_no hW hy hz h2 hg; omega
theorem kinds {ns : List Nd} {k : Nat} {y : Nd} (hW : WfN ns) (hy : ns[k]? = some y) : y.1 = 0 ∨ y.1 = 1 ∨ y.1 = 2 ∨ y.1 = 3 := by
  by_cases h0 : k = 0
  · subst h0; rw [hW.1] at hy; cases hy; exact Or.inl rfl
  · rcases (hW.2 k y hy (by omega)).1.1 with w | w | w
    · exact Or.inr (Or.inl w.1)
    · exact Or.inr (Or.inr (Or.inl w.1))
    · exact Or.inr (Or.inr (Or.inr w.1))
theorem str_len {k : Nat} {y : Nd} (hH : HldR bk T n pl D MI ML) (hW : WfN D.2.1) (hy : D.2.1[k]? = some y) : (stS D.2.1 k y).length ≤ 1200000 := by
  have hkl := (List.getElem?_eq_some_iff.mp hy).1
  have h600 := hH.1.2.1.2.1
  have p6 := hH.1.2.2.2.2.2.1
  have key : ∀ (c t : Nat), t = k + c → t ≤ D.2.1.length → pS D.2.1 k y t ≤ 2000 * c := by
    intro c
    induction c with
    | zero => intro t ht _; rw [show t = k by omega, (pS_end hy).2]; omega
    | succ c ih =>
      intro t ht hl
      obtain ⟨t', rfl⟩ : ∃ t', t = t' + 1 := ⟨t - 1, by omega⟩
      have := ih t' (by omega) (by omega)
      obtain ⟨z, hz⟩ : ∃ z, D.2.1[t']? = some z := ⟨_, List.getElem?_eq_getElem (by omega)⟩
      by_cases hg : gv D.2.1 k y t' z
      · have h1 := (pS_yes hW hy hz (by omega) hg).1
        have hz23 : z.1 = 2 ∨ z.1 = 3 := by
          rcases hg with ⟨g1, g2⟩ | ⟨g1, _⟩
          · subst g1; rw [hy] at hz; cases hz; exact g2
          · exact Or.inr g1
        have hpo := (hH.1.2.1.2.2 t' z hz).2.2.2.1.2 hz23
        have q1 := hpo.1
        have q2 := hpo.2.1
        have q3 := hpo.2.2.1
        have : z.2.2.2.1.length ≤ 2000 := by omega
        omega
      · have h1 := pS_no hW hy hz (by omega) hg
        omega
  have := key (D.2.1.length - k) D.2.1.length (by omega) (Nat.le_refl _)
  rw [(pS_end hy).1] at this
  omega
theorem c_stringOf {k : Nat} {y : Nd} (hH : HldR bk T n pl D MI ML) (hW : WfN D.2.1) (hy : D.2.1[k]? = some y) (hQ : Q (some (vI ((stS D.2.1 k y).length : Nat))) (MI, ML, GR d e nw th x)) :
    wp cs mX12_stringOf KD Q 0 (padL [vR 124, vI (k : Nat)] 5) [] (KD, MI, ML, GR d e nw th x) := by
  have p7 := hH.1.2.2.2.2.2.2
  have h600 := hH.1.2.1.2.1
  have hkl := (List.getElem?_eq_some_iff.mp hy).1
  have hNy := hH.1.2.1.2.2 k y hy
  have hky := kinds hW hy
  have hsl := str_len hH hW hy
  have key : ∀ (m t : Nat), t + m = D.2.1.length → k ≤ t → wp cs mX12_stringOf KD Q 4 [some (vR 124), some (vI (k : Nat)), some (vI (pS D.2.1 k y t : Nat)), some (vI (t : Nat)), none] [] (KD, MI, ML, GR d e nw th x) := by
    intro m
    induction m with
    | zero =>
      intro t ht hkt
      refine v_X12_stringOf_4 ?_
      rw [hH.2.1]
      simp only [Int.toNat_natCast]
      rw [hH.1.2.1.1]
      refine ⟨by omega, fun z => by omega, fun _ => ?_⟩
      rw [show t = D.2.1.length by omega, (pS_end hy).1]; exact hQ
    | succ m ih =>
      intro t ht hkt
      obtain ⟨z, hz⟩ : ∃ z, D.2.1[t]? = some z := ⟨_, List.getElem?_eq_getElem (by omega)⟩
      have hNz := hH.1.2.1.2.2 t z hz
      have nxt := ih (t + 1) (by omega) (by omega)
      have hpl := pS_le (t := t + 1) hy hW m (by omega) (by omega)
      have hpl0 := pS_le (t := t) hy hW (m + 1) (by omega) (by omega)
      have yes : ∀ {l4 : Int}, gv D.2.1 k y t z → wp cs mX12_stringOf KD Q 96 [some (vR 124), some (vI (k : Nat)), some (vI (pS D.2.1 k y t : Nat)), some (vI (t : Nat)), some (vI l4)] [vI (z.2.2.2.1.length : Nat), vI (pS D.2.1 k y t : Nat)] (KD, MI, ML, GR d e nw th x) := fun {l4} hg => by
        have h1 := (pS_yes hW hy hz hkt hg).1
        refine v_X12_stringOf_96 ⟨by omega, by omega, ?_⟩
        rw [show ((pS D.2.1 k y t : Nat) : Int) + ((z.2.2.2.1.length : Nat) : Int) = ((pS D.2.1 k y (t + 1) : Nat) : Int) by omega, show ((t : Nat) : Int) + 1 = ((t + 1 : Nat) : Int) by omega]
        exact nxt
      have no : ∀ {l4 : Int}, ¬ gv D.2.1 k y t z → wp cs mX12_stringOf KD Q 96 [some (vR 124), some (vI (k : Nat)), some (vI (pS D.2.1 k y t : Nat)), some (vI (t : Nat)), some (vI l4)] [vI 0, vI (pS D.2.1 k y t : Nat)] (KD, MI, ML, GR d e nw th x) := fun {l4} hg => by
        have h1 := pS_no hW hy hz hkt hg
        refine v_X12_stringOf_96 ⟨by omega, by omega, ?_⟩
        rw [show ((pS D.2.1 k y t : Nat) : Int) + 0 = ((pS D.2.1 k y (t + 1) : Nat) : Int) by omega, show ((t : Nat) : Int) + 1 = ((t + 1 : Nat) : Int) by omega]
        exact nxt
      have s46 : ¬ (t = k ∧ (y.1 = 2 ∨ y.1 = 3)) → wp cs mX12_stringOf KD Q 46 [some (vR 124), some (vI (k : Nat)), some (vI (pS D.2.1 k y t : Nat)), some (vI (t : Nat)), some (vI (600 * (bk : Int) + ((t : Nat) : Int)))] [vI (pS D.2.1 k y t : Nat)] (KD, MI, ML, GR d e nw th x) := fun hn => by
        refine v_X12_stringOf_46 ?_
        rw [hH.2.1, show (600 * (bk : Int) + ((t : Nat) : Int)).toNat = 600 * bk + t by omega, show (600 * (bk : Int) + ((k : Nat) : Int)).toNat = 600 * bk + k by omega, hNz.1, hNy.1]
        refine ⟨by omega, fun h3 => ⟨by omega, by omega, by omega, fun hlt => c_isWithin hH hW (by omega) hkl (rI_mk ?_), fun hge => no (fun g => ?_)⟩, fun h3 => no (fun g => ?_)⟩
        · rw [hNz.2.2.2.1.1]
          by_cases hin : k ≤ t ∧ t < eS D.2.1 k
          · rw [if_pos hin]
            exact ⟨fun w => by omega, fun _ => yes (Or.inr ⟨h3, by omega, hin.2⟩)⟩
          · rw [if_neg hin]
            refine ⟨fun _ => no (fun g => ?_), fun w => absurd rfl w⟩
            rcases g with g | g
            · exact hn g
            · exact hin ⟨hkt, g.2.2⟩
        · rcases g with g | g
          · exact hn g
          · exact g.2.1 (by omega)
        · rcases g with g | g
          · exact hn g
          · exact h3 g.1
      refine v_X12_stringOf_4 ?_
      rw [hH.2.1]
      simp only [Int.toNat_natCast]
      rw [hH.1.2.1.1, show (600 * (bk : Int) + ((t : Nat) : Int)).toNat = 600 * bk + t by omega, hNz.1, hNz.2.2.2.1.1]
      refine ⟨by omega, fun _ => ⟨by omega, by omega, fun he => ⟨by omega, fun hlt => s46 (fun w => ?_), fun hge => yes (Or.inl ⟨by omega, ?_⟩)⟩, fun hne => s46 (fun w => hne (by omega))⟩, fun w => by omega⟩
      · have htk : t = k := by omega
        subst htk; rw [hy] at hz; cases hz; omega
      · have htk : t = k := by omega
        subst htk; rw [hy] at hz; cases hz; omega
  have := key (D.2.1.length - k) k (by omega) (Nat.le_refl _)
  rw [(pS_end hy).2] at this
  exact v_X12_stringOf_0 this
theorem c_stringAt {k : Nat} {y : Nd} {i : Int} (hi31 : -2147483648 ≤ i ∧ i < 2147483648) (hH : HldR bk T n pl D MI ML) (hW : WfN D.2.1) (hy : D.2.1[k]? = some y) (hQ : Q (some (vI (byS (stS D.2.1 k y) i))) (MI, ML, GR d e nw th x)) :
    wp cs mX12_stringAt KD Q 0 (padL [vR 124, vI (k : Nat), vI i] 7) [] (KD, MI, ML, GR d e nw th x) := by
  have p7 := hH.1.2.2.2.2.2.2
  have p6 := hH.1.2.2.2.2.2.1
  have h600 := hH.1.2.1.2.1
  have hkl := (List.getElem?_eq_some_iff.mp hy).1
  have hNy := hH.1.2.1.2.2 k y hy
  have hky := kinds hW hy
  unfold byS at hQ
  by_cases hi0 : i < 0
  · rw [if_neg (by omega)] at hQ
    refine v_X12_stringAt_0 (v_X12_stringAt_5 ?_)
    rw [hH.2.1]
    simp only [Int.toNat_natCast]
    rw [hH.1.2.1.1]
    exact ⟨by omega, fun _ => ⟨fun _ => hQ, fun w => by omega⟩, fun _ => hQ⟩
  obtain ⟨iN, rfl⟩ : ∃ j : Nat, i = (j : Int) := ⟨i.toNat, by omega⟩
  have key : ∀ (m t : Nat), t + m = D.2.1.length → k ≤ t → pS D.2.1 k y t ≤ iN → wp cs mX12_stringAt KD Q 5 [some (vR 124), some (vI (k : Nat)), some (vI (iN : Nat)), some (vI ((iN : Nat) - (pS D.2.1 k y t : Nat))), some (vI (t : Nat)), none, none] [] (KD, MI, ML, GR d e nw th x) := by
    intro m
    induction m with
    | zero =>
      intro t ht hkt hp
      refine v_X12_stringAt_5 ?_
      rw [hH.2.1]
      simp only [Int.toNat_natCast]
      rw [hH.1.2.1.1]
      refine ⟨by omega, fun z => by omega, fun _ => ?_⟩
      have he := (pS_end hy).1
      rw [show D.2.1.length = t by omega] at he
      rw [if_neg (by omega)] at hQ; exact hQ
    | succ m ih =>
      intro t ht hkt hp
      obtain ⟨z, hz⟩ : ∃ z, D.2.1[t]? = some z := ⟨_, List.getElem?_eq_getElem (by omega)⟩
      have hNz := hH.1.2.1.2.2 t z hz
      have no : ∀ {l5 l6 : Int}, l6 = 0 → ¬ gv D.2.1 k y t z → wp cs mX12_stringAt KD Q 135 [some (vR 124), some (vI (k : Nat)), some (vI (iN : Nat)), some (vI ((iN : Nat) - (pS D.2.1 k y t : Nat))), some (vI (t : Nat)), some (vI l5), some (vI l6)] [] (KD, MI, ML, GR d e nw th x) := fun {l5 l6} h0 hg => by
        have h1 := pS_no hW hy hz hkt hg
        have := ih (t + 1) (by omega) (by omega) (by omega)
        rw [h1, show ((t + 1 : Nat) : Int) = ((t : Nat) : Int) + 1 by omega] at this
        exact v_X12_stringAt_135 ⟨fun _ => ⟨by omega, this⟩, fun w => absurd h0 w⟩
      have s98 : ∀ (s0 : Int), (s0 ≠ 0 → gv D.2.1 k y t z) → (s0 = 0 → ¬ gv D.2.1 k y t z) → wp cs mX12_stringAt KD Q 98 [some (vR 124), some (vI (k : Nat)), some (vI (iN : Nat)), some (vI ((iN : Nat) - (pS D.2.1 k y t : Nat))), some (vI (t : Nat)), some (vI (600 * (bk : Int) + ((t : Nat) : Int))), none] [vI s0] (KD, MI, ML, GR d e nw th x) := by
        intro s0 hy' hn'
        refine v_X12_stringAt_98 ⟨fun h0 => no h0 (hn' h0), fun h0 => ?_⟩
        have hg := hy' h0
        obtain ⟨g1, g2⟩ := pS_yes hW hy hz hkt hg
        have hz23 : z.1 = 2 ∨ z.1 = 3 := by
          rcases hg with ⟨q1, q2⟩ | ⟨q1, _⟩
          · subst q1; rw [hy] at hz; cases hz; exact q2
          · exact Or.inr q1
        have hpo := hNz.2.2.2.1.2 hz23
        have q1 := hpo.1
        have q2 := hpo.2.1
        have q3 := hpo.2.2.1
        rw [show (600 * (bk : Int) + ((t : Nat) : Int)).toNat = 600 * bk + t by omega, hNz.2.2.2.1.1]
        refine ⟨by omega, fun hlt => ⟨by omega, by omega, ?_⟩, fun hge => ?_⟩
        · obtain ⟨w, hw⟩ : ∃ w : Nat, w = iN - pS D.2.1 k y t := ⟨_, rfl⟩
          have hwl : w < z.2.2.2.1.length := by omega
          have hpa := (poR_at hpo hwl).1
          rw [show MI 134 (600 * bk + t) + (((iN : Nat) : Int) - ((pS D.2.1 k y t : Nat) : Int)) = MI 134 (600 * bk + t) + (w : Nat) by omega, hpa]
          have hst := g2 w hwl
          rw [show pS D.2.1 k y t + w = iN by omega] at hst
          obtain ⟨c, hc⟩ : ∃ c, z.2.2.2.1[w]? = some c := ⟨_, List.getElem?_eq_getElem hwl⟩
          rw [hc] at hst
          have hil := (List.getElem?_eq_some_iff.mp hst).1
          have hch : isCh c := by
            have ht0 : t ≠ 0 := fun w0 => by subst w0; rw [hW.1] at hz; cases hz; simp at hz23
            exact (hW.2 t z hz (by omega)).1.2.2 c (List.mem_of_getElem? hc)
          rw [if_pos (by omega), Int.toNat_natCast, List.getD_eq_getElem?_getD, hst] at hQ
          rw [List.getD_eq_getElem?_getD, hc]
          show Q (some (vI (i_and c 255))) _
          rw [and255 (by unfold isCh at hch; omega)]
          exact hQ
        · have := ih (t + 1) (by omega) (by omega) (by omega)
          rw [show ((t + 1 : Nat) : Int) = ((t : Nat) : Int) + 1 by omega] at this
          refine v_X12_stringAt_135 ⟨fun w => absurd w h0, fun _ => ?_⟩
          rw [show (600 * (bk : Int) + ((t : Nat) : Int)).toNat = 600 * bk + t by omega, hNz.2.2.2.1.1]
          refine ⟨by omega, by omega, by omega, ?_⟩
          rw [show ((iN : Nat) : Int) - ((pS D.2.1 k y t : Nat) : Int) - ((z.2.2.2.1.length : Nat) : Int) = ((iN : Nat) : Int) - ((pS D.2.1 k y (t + 1) : Nat) : Int) by omega]
          exact this
      have s53 : ¬ (t = k ∧ (y.1 = 2 ∨ y.1 = 3)) → wp cs mX12_stringAt KD Q 53 [some (vR 124), some (vI (k : Nat)), some (vI (iN : Nat)), some (vI ((iN : Nat) - (pS D.2.1 k y t : Nat))), some (vI (t : Nat)), some (vI (600 * (bk : Int) + ((t : Nat) : Int))), none] [] (KD, MI, ML, GR d e nw th x) := fun hn => by
        refine v_X12_stringAt_53 ?_
        rw [hH.2.1, show (600 * (bk : Int) + ((t : Nat) : Int)).toNat = 600 * bk + t by omega, show (600 * (bk : Int) + ((k : Nat) : Int)).toNat = 600 * bk + k by omega, hNz.1, hNy.1]
        refine ⟨by omega, fun h3 => ⟨by omega, by omega, by omega, fun hlt => c_isWithin hH hW (by omega) hkl (rI_mk ?_), fun hge => s98 0 (fun w => absurd rfl w) (fun _ g => ?_)⟩, fun h3 => s98 0 (fun w => absurd rfl w) (fun _ g => ?_)⟩
        · by_cases hin : k ≤ t ∧ t < eS D.2.1 k
          · rw [if_pos hin]
            exact ⟨fun w => by omega, fun _ => s98 1 (fun _ => Or.inr ⟨h3, by omega, hin.2⟩) (fun w => by omega)⟩
          · rw [if_neg hin]
            refine ⟨fun _ => s98 0 (fun w => absurd rfl w) (fun _ g => ?_), fun w => absurd rfl w⟩
            rcases g with g | g
            · exact hn g
            · exact hin ⟨hkt, g.2.2⟩
        · rcases g with g | g
          · exact hn g
          · exact g.2.1 (by omega)
        · rcases g with g | g
          · exact hn g
          · exact h3 g.1
      refine v_X12_stringAt_5 ?_
      rw [hH.2.1]
      simp only [Int.toNat_natCast]
      rw [hH.1.2.1.1, show (600 * (bk : Int) + ((t : Nat) : Int)).toNat = 600 * bk + t by omega, hNz.1]
      refine ⟨by omega, fun _ => ⟨fun w => by omega, fun _ => ⟨by omega, by omega, fun he => ⟨by omega, fun hlt => s53 (fun w => ?_), fun hge => s98 1 (fun _ => Or.inl ⟨by omega, ?_⟩) (fun w => by omega)⟩, fun hne => s53 (fun w => hne (by omega))⟩⟩, fun w => by omega⟩
      · have htk : t = k := by omega
        subst htk; rw [hy] at hz; cases hz; omega
      · have htk : t = k := by omega
        subst htk; rw [hy] at hz; cases hz; omega
  have := key (D.2.1.length - k) k (by omega) (Nat.le_refl _) (by rw [(pS_end hy).2]; omega)
  rw [(pS_end hy).2, show ((iN : Nat) : Int) - ((0 : Nat) : Int) = (iN : Nat) by omega] at this
  exact v_X12_stringAt_0 this
end Pc02
