/-! The reference's lines: isBlock, isKept, setText. -/
theorem txN_at {ns : List Nd} {k p : Nat} {y : Nd} (hy : ns[k]? = some y) (h3 : y.1 = 3) (h1 : tl ns k ≤ p) (h2 : p < tl ns (k + 1)) : txN ns p = (k : Int) := by
  have hkl := (List.getElem?_eq_some_iff.mp hy).1
  have : (List.range ns.length).find? (txP ns p) = some k := by
    rw [List.find?_range_eq_some]
    refine ⟨?_, List.mem_range.mpr hkl, fun j hj => ?_⟩
    · unfold txP; rw [ndA_at hy]; exact decide_eq_true ⟨h3, h1, h2⟩
    · unfold txP
      have hm := tl_mono ns (k - (j + 1)) (j + 1) (by omega)
      rw [show j + 1 + (k - (j + 1)) = k by omega] at hm
      rw [decide_eq_false (by omega)]; rfl
  unfold txN
  rw [this]
theorem allX_at {ns : List Nd} {k i : Nat} {y : Nd} (hy : ns[k]? = some y) (h3 : y.1 = 3) (hi : i < y.2.2.2.1.length) : (allX ns).getD (tl ns k + i) 0 = y.2.2.2.1.getD i 0 := by
  have hkl := (List.getElem?_eq_some_iff.mp hy).1
  obtain ⟨r, hr⟩ := cT_pre (ns := ns) (k := 0) (ns.length - (k + 1)) (k + 1) (Nat.zero_le _) (by omega)
  rw [show k + 1 + (ns.length - (k + 1)) = ns.length by omega, cT_s (Nat.zero_le _) hy] at hr
  have hl := cT_len ns k (by omega)
  unfold allX
  rw [hr, List.getD_eq_getElem?_getD, List.getD_eq_getElem?_getD, List.append_assoc, List.getElem?_append_right (by omega), hl, show tl ns k + i - tl ns k = i by omega]
  have ht : tB y = y.2.2.2.1 := by unfold tB; rw [if_pos h3]
  rw [ht, List.getElem?_append_left hi]
theorem tl_3 {ns : List Nd} {k : Nat} {y : Nd} (hy : ns[k]? = some y) (h3 : y.1 = 3) : tl ns (k + 1) = tl ns k + y.2.2.2.1.length := by
  rw [tl_s hy]; unfold tB; rw [if_pos h3]
section Pf09
variable {cs : Cs} {Q : Option AV → Mm → Prop} {MI ML OI : Nat → Nat → Int} {bk d e nw th x pl : Nat} {TD : Nat → Int} {nD : Int} {D : Dm} {wd pos : Nat} {s : SM}
theorem HldR_ln {MI' : Nat → Nat → Int} {P : Nat → Nat → Prop} (h : HldR bk TD nD pl D MI ML) (f : frP P MI MI') (hp : ∀ i k, P i k → 191 ≤ i ∨ (i = 124 ∧ 86 ≤ k)) : HldR bk TD nD pl D MI' ML :=
  HldR_P h (fun i h1 h2 => frP_row f (fun k z => by have := hp i k z; omega)) (f 124 7 (fun z => by have := hp _ _ z; omega)) (f 124 8 (fun z => by have := hp _ _ z; omega))
theorem chLR_191 : ∀ i k, chLR i k → 191 ≤ i ∨ (i = 124 ∧ 86 ≤ k) := fun i k z => by unfold chLR at z; omega
theorem c_risBlock {k : Nat} (hH : HldR bk TD nD pl D MI ML) (hW : WfN D.2.1) (hk : k < D.2.1.length) (hQ : Q (some (vI (if blkB D.2.1 k = true then 1 else 0))) (MI, ML, GR d e nw th x)) :
    wp cs mX12_isBlock KD Q 0 (padL [vR 124, vI (k : Nat)] 3) [] (KD, MI, ML, GR d e nw th x) := by
  have p7 := hH.1.2.2.2.2.2.2
  have h600 := hH.1.2.1.2.1
  obtain ⟨y, hy⟩ : ∃ y, D.2.1[k]? = some y := ⟨_, List.getElem?_eq_getElem hk⟩
  have hA := hH.1.2.1.2.2 k y hy
  have htx := hH.1.2.2.2.2.1
  have hnD := hH.1.2.2.2.1
  have ei : (600 * (bk : Int) + ((k : Nat) : Int)).toNat = 600 * bk + k := by omega
  refine v_X12_isBlock_0 ?_
  rw [hH.2.1, ei, hA.1]
  unfold blkB at hQ
  rw [ndA_at hy] at hQ
  refine ⟨by omega, by omega, by omega, fun h1 => ?_, fun h1 => ?_⟩
  · have hnm := hA.2.2.1.2 (Or.inl h1)
    unfold nmR at hnm
    obtain ⟨m1, m2, m3, m4⟩ := hnm
    have hk0 : 0 < k := by
      rcases Nat.eq_zero_or_pos k with w | w
      · subst w; rw [hW.1] at hy; cases hy; exact absurd h1 (by decide)
      · exact w
    have hne : y.2.2.1 ≠ [] := by
      have := (hW.2 k y hy hk0).1.1
      rcases this with w | w | w
      · exact w.2.1
      · exact w.2.1
      · omega
    obtain ⟨c, t, hct⟩ : ∃ c t, y.2.2.1 = c :: t := by
      cases hh : y.2.2.1 with
      | nil => exact absurd hh hne
      | cons c t => exact ⟨c, t, rfl⟩
    rw [hct] at m2 m4 hQ
    simp only [List.length_cons] at m2
    have a1 : MI 128 (MI 132 (600 * bk + k)).toNat = c := by
      rw [← m4 0 c rfl, ← htx _ (by omega)]
      congr 1; omega
    rw [a1]
    refine ⟨by omega, w_X12_in (rI_mk ?_)⟩
    by_cases hc : 65 ≤ c ∧ c ≤ 90
    · rw [decide_eq_true (p := y.1 = 1 ∧ 65 ≤ (c :: t).headD 0 ∧ (c :: t).headD 0 ≤ 90) ⟨h1, hc.1, hc.2⟩, if_pos rfl] at hQ
      rw [bI, if_pos hc]; exact ⟨fun z => by omega, fun _ => hQ⟩
    · rw [decide_eq_false (p := y.1 = 1 ∧ 65 ≤ (c :: t).headD 0 ∧ (c :: t).headD 0 ≤ 90) (fun z => hc ⟨z.2.1, z.2.2⟩), if_neg (by decide)] at hQ
      rw [bI, if_neg hc]; exact ⟨fun _ => hQ, fun z => absurd rfl z⟩
  · rw [decide_eq_false (fun z => h1 z.1), if_neg (by decide)] at hQ; exact hQ
theorem c_risKept {k : Nat} (hH : HldR bk TD nD pl D MI ML) (hW : WfN D.2.1) (hAt : AtW D.2.1) (hk : k < D.2.1.length) (hQ : Q (some (vI (if kepB D.2.1 k = true then 1 else 0))) (MI, ML, GR d e nw th x)) :
    wp cs mX12_isKept KD Q 0 (padL [vR 124, vI (k : Nat)] 5) [] (KD, MI, ML, GR d e nw th x) := by
  have p7 := hH.1.2.2.2.2.2.2
  have h600 := hH.1.2.1.2.1
  have h29 := hH.1.2.1.1
  have htx := hH.1.2.2.2.2.1
  have hnD := hH.1.2.2.2.1
  have hpl := hH.1.2.2.2.2.2.1
  obtain ⟨P, hP⟩ : ∃ P : Nat → Bool, P = fun c => decide ((ndA D.2.1 c).1 = 2 ∧ (ndA D.2.1 c).2.1 = (k : Int) ∧ (ndA D.2.1 c).2.2.1 = [107, 101, 101, 112] ∧ (ndA D.2.1 c).2.2.2.1 = [49]) := ⟨_, rfl⟩
  have hK : kepB D.2.1 k = (List.range D.2.1.length).any P := by rw [hP]; rfl
  have loop : ∀ (m c : Nat), c + m = D.2.1.length → kepB D.2.1 k = (List.range' c (D.2.1.length - c)).any P → wp cs mX12_isKept KD Q 4 [some (vR 124), some (vI (k : Nat)), some (vI (c : Nat)), none, none] [] (KD, MI, ML, GR d e nw th x) := by
    intro m
    induction m with
    | zero =>
      intro c hc hRc
      refine v_X12_isKept_4 ?_
      rw [hH.2.1]
      simp only [Int.toNat_natCast]
      rw [h29]
      refine ⟨by omega, fun z => by omega, fun _ => ?_⟩
      rw [rga_nil (fun i a1 a2 => by omega)] at hRc
      rw [hRc, if_neg (by decide)] at hQ; exact hQ
    | succ m ih =>
      intro c hc hRc
      obtain ⟨y, hy⟩ : ∃ y, D.2.1[c]? = some y := ⟨_, List.getElem?_eq_getElem (by omega)⟩
      have hA := hH.1.2.1.2.2 c y hy
      have ei : (600 * (bk : Int) + ((c : Nat) : Int)).toNat = 600 * bk + c := by omega
      have ec : ((c : Nat) : Int) + 1 = ((c + 1 : Nat) : Int) := by omega
      rw [rg_cons (by omega), List.any_cons] at hRc
      have hPc : P c = decide (y.1 = 2 ∧ y.2.1 = (k : Int) ∧ y.2.2.1 = [107, 101, 101, 112] ∧ y.2.2.2.1 = [49]) := by rw [hP]; simp only; rw [ndA_at hy]
      have no : ¬ (y.1 = 2 ∧ y.2.1 = (k : Int) ∧ y.2.2.1 = [107, 101, 101, 112]) → wp cs mX12_isKept KD Q 133 [some (vR 124), some (vI (k : Nat)), some (vI (c : Nat)), some (vI (600 * (bk : Int) + (c : Nat))), none] [vI 0] (KD, MI, ML, GR d e nw th x) := by
        intro hp
        rw [hPc, decide_eq_false (fun z => hp ⟨z.1, z.2.1, z.2.2.1⟩), Bool.false_or] at hRc
        refine v_X12_isKept_133 ⟨fun _ => ?_, fun z => absurd rfl z⟩
        rw [ec]
        exact ⟨by omega, ih (c + 1) (by omega) hRc⟩
      have yes : y.1 = 2 → y.2.1 = (k : Int) → y.2.2.1 = [107, 101, 101, 112] → wp cs mX12_isKept KD Q 133 [some (vR 124), some (vI (k : Nat)), some (vI (c : Nat)), some (vI (600 * (bk : Int) + (c : Nat))), none] [vI 1] (KD, MI, ML, GR d e nw th x) := by
        intro y1 y2 y3
        have hrest : (List.range' (c + 1) (D.2.1.length - (c + 1))).any P = false := by
          refine rga_nil (fun i a1 a2 => ?_)
          obtain ⟨z, hz⟩ : ∃ z, D.2.1[i]? = some z := ⟨_, List.getElem?_eq_getElem a2⟩
          rw [hP]; simp only; rw [ndA_at hz]
          refine decide_eq_false (fun w => ?_)
          have := hAt.2.2 i c z y hz hy w.1 y1 (by rw [w.2.1, y2]) (by rw [w.2.2.1, y3])
          omega
        rw [hrest, Bool.or_false, hPc] at hRc
        rw [hRc] at hQ
        have hpo := hA.2.2.2.1.2 (Or.inl y1)
        unfold poR at hpo
        obtain ⟨q1, q2, q3, q4⟩ := hpo
        refine v_X12_isKept_133 ⟨fun z => absurd z (by decide), fun _ => ⟨by omega, ?_⟩⟩
        rw [ei, hA.2.2.2.1.1]
        refine ⟨fun z => ?_, fun z => ?_⟩
        · obtain ⟨v, hv⟩ : ∃ v, y.2.2.2.1 = [v] := by
            match hh : y.2.2.2.1, z with
            | [v], _ => exact ⟨v, rfl⟩
            | [], z => simp at z
            | _ :: _ :: _, z => simp at z; omega
          rw [hv] at q2 q4 hQ
          have a1 : MI 138 (MI 134 (600 * bk + c)).toNat = v := by
            rw [← q4 0 v rfl]
            simp only
            congr 1; omega
          simp only [List.length_singleton] at q2
          rw [a1]
          refine ⟨by omega, fun w => ?_, fun w => ?_⟩
          · rw [decide_eq_true ⟨y1, y2, y3, by rw [w]⟩, if_pos rfl] at hQ; exact hQ
          · rw [decide_eq_false (fun g => w (by have := g.2.2.2; simp at this; exact this)), if_neg (by decide)] at hQ; exact hQ
        · rw [decide_eq_false (fun g => z (by rw [g.2.2.2]; rfl)), if_neg (by decide)] at hQ; exact hQ
      refine v_X12_isKept_4 ?_
      rw [hH.2.1]
      simp only [Int.toNat_natCast]
      rw [h29, ei, hA.1, hA.2.1]
      refine ⟨by omega, fun _ => ⟨by omega, by omega, by omega, fun h2 => ⟨fun hu => ?_, fun z => no (fun w => z w.2.1)⟩, fun z => no (fun w => z w.1)⟩, fun z => by omega⟩
      have hnm := hA.2.2.1.2 (Or.inr h2)
      unfold nmR at hnm
      obtain ⟨m1, m2, m3, m4⟩ := hnm
      rw [hA.2.2.1.1]
      refine ⟨fun h4 => ?_, fun z => no (fun w => z (by rw [w.2.2]; rfl))⟩
      obtain ⟨v0, v1, v2, v3, hv⟩ : ∃ v0 v1 v2 v3, y.2.2.1 = [v0, v1, v2, v3] := by
        match hh : y.2.2.1, h4 with
        | [a, b, c, d], _ => exact ⟨a, b, c, d, rfl⟩
        | [], z => simp at z
        | [_], z => simp at z
        | [_, _], z => simp at z
        | [_, _, _], z => simp at z
        | _ :: _ :: _ :: _ :: _ :: _, z => simp at z; omega
      rw [hv] at m2 m4
      simp only [List.length_cons, List.length_nil] at m2
      have a0 : MI 128 (MI 132 (600 * bk + c)).toNat = v0 := by rw [← m4 0 v0 rfl, ← htx _ (by omega)]; congr 1; omega
      have a1 : MI 128 (MI 132 (600 * bk + c) + 1).toNat = v1 := by rw [← m4 1 v1 rfl, ← htx _ (by omega)]; congr 1; omega
      have a2 : MI 128 (MI 132 (600 * bk + c) + 2).toNat = v2 := by rw [← m4 2 v2 rfl, ← htx _ (by omega)]; congr 1; omega
      have a3 : MI 128 (MI 132 (600 * bk + c) + 3).toNat = v3 := by rw [← m4 3 v3 rfl, ← htx _ (by omega)]; congr 1; omega
      rw [a0, a1, a2, a3]
      have no' : ¬ (v0 = 107 ∧ v1 = 101 ∧ v2 = 101 ∧ v3 = 112) → ¬ (y.1 = 2 ∧ y.2.1 = (k : Int) ∧ y.2.2.1 = [107, 101, 101, 112]) := fun h w => by
        have := w.2.2
        rw [hv] at this
        simp only [List.cons.injEq, and_true] at this
        exact h this
      refine ⟨by omega, fun z0 => ⟨by omega, by omega, fun z1 => ⟨by omega, by omega, fun z2 => ⟨by omega, by omega, fun z3 => yes h2 hu (by rw [hv, z0, z1, z2, z3]), fun z => no (no' (fun w => z w.2.2.2))⟩, fun z => no (no' (fun w => z w.2.2.1))⟩, fun z => no (no' (fun w => z w.2.1))⟩, fun z => no (no' (fun w => z w.1))⟩
  refine v_X12_isKept_0 ?_
  rw [show ((k : Nat) : Int) + 1 = ((k + 1 : Nat) : Int) by omega]
  refine ⟨by omega, loop (D.2.1.length - (k + 1)) (k + 1) (by omega) ?_⟩
  rw [hK, rg_0]
  have := rga_skip (P := P) (n := D.2.1.length) (k + 1) 0 (by omega) (fun i h1 h2 => by
    obtain ⟨z, hz⟩ : ∃ z, D.2.1[i]? = some z := ⟨_, List.getElem?_eq_getElem (by omega)⟩
    rw [hP]; simp only; rw [ndA_at hz]
    refine decide_eq_false (fun w => ?_)
    have := hAt.1 i z hz
    omega)
  rw [this, Nat.zero_add]
theorem c_setText {k : Nat} {y : Nd} (hH : HldR bk TD nD pl D MI ML) (hW : WfN D.2.1) (htle : tle D.2.1 ≤ 2000) (hy : D.2.1[k]? = some y) (h3 : y.1 = 3) (hw : 0 < wd) (hw6 : wd ≤ 60) (hC : ComR D.2.1 (allX D.2.1) wd 0 s MI) (hI : SmI (allX D.2.1) wd (tl D.2.1 k) s)
    (hQ : ∀ MI', ComR D.2.1 (allX D.2.1) wd 0 (txF_ (allX D.2.1) wd (tl D.2.1 (k + 1) - tl D.2.1 k) (tl D.2.1 k) s) MI' → frP (fun i k => chLR i k ∨ i = 198 ∨ i = 199) MI MI' → Q none (MI', ML, GR d e nw th x)) :
    wp cs mX12_setText KD Q 0 (padL [vR 124, vI (k : Nat)] 4) [] (KD, MI, ML, GR d e nw th x) := by
  have p7 := hH.1.2.2.2.2.2.2
  have h600 := hH.1.2.1.2.1
  have hpl := hH.1.2.2.2.2.2.1
  have hkl := (List.getElem?_eq_some_iff.mp hy).1
  have hxl := allX_len D.2.1
  have hle := tl_le D.2.1 (m := k + 1) (by omega)
  have ht3 := tl_3 hy h3
  have ei : (600 * (bk : Int) + ((k : Nat) : Int)).toNat = 600 * bk + k := by omega
  have hch : ∀ v ∈ allX D.2.1, 0 ≤ v ∧ v < 128 := cT_ch hW _
  have hA0 := hH.1.2.1.2.2 k y hy
  obtain ⟨F, hF⟩ : ∃ F : Nat, MI 134 (600 * bk + k) = ((F : Nat) : Int) := by
    have := (hA0.2.2.2.1.2 (Or.inr h3)).1
    exact ⟨(MI 134 (600 * bk + k)).toNat, by omega⟩
  have f5 : ∀ i k', (chLR i k' ∨ i = 198 ∨ i = 199) → 191 ≤ i ∨ (i = 124 ∧ 86 ≤ k') := fun i k' z => by rcases z with z | z; exact chLR_191 i k' z; omega
  have loop : ∀ (m i : Nat) (s1 : SM) (M : Nat → Nat → Int), i + m = y.2.2.2.1.length → ComR D.2.1 (allX D.2.1) wd 0 s1 M → SmI (allX D.2.1) wd (tl D.2.1 k + i) s1 → frP (fun i k => chLR i k ∨ i = 198 ∨ i = 199) MI M → txF_ (allX D.2.1) wd (tl D.2.1 (k + 1) - tl D.2.1 k) (tl D.2.1 k) s = txF_ (allX D.2.1) wd m (tl D.2.1 k + i) s1 →
      wp cs mX12_setText KD Q 18 [some (vR 124), some (vI (k : Nat)), some (vI (600 * (bk : Int) + (k : Nat))), some (vI ((F + i : Nat) : Int))] [] (KD, M, ML, GR d e nw th x) := by
    intro m
    induction m with
    | zero =>
      intro i s1 M hi hC1 hI1 hfr heq
      have hH1 := HldR_ln hH hfr f5
      have hA := hH1.1.2.1.2.2 k y hy
      have gF : M 134 (600 * bk + k) = ((F : Nat) : Int) := by rw [hfr 134 _ (by unfold chLR; omega)]; exact hF
      refine v_X12_setText_18 ?_
      have hpo := hA.2.2.2.1.2 (Or.inr h3)
      unfold poR at hpo
      obtain ⟨q1, q2, q3, q4⟩ := hpo
      rw [ei, hA.2.2.2.1.1, gF]
      refine ⟨by omega, by omega, fun z => by omega, fun _ => hQ M (by rw [heq]; exact hC1) hfr⟩
    | succ m ih =>
      intro i s1 M hi hC1 hI1 hfr heq
      have hH1 := HldR_ln hH hfr f5
      have hA := hH1.1.2.1.2.2 k y hy
      have gF : M 134 (600 * bk + k) = ((F : Nat) : Int) := by rw [hfr 134 _ (by unfold chLR; omega)]; exact hF
      have hpo := hA.2.2.2.1.2 (Or.inr h3)
      unfold poR at hpo
      obtain ⟨q1, q2, q3, q4⟩ := hpo
      have hpx : tl D.2.1 k + i < (allX D.2.1).length := by omega
      have hgx := allX_at (i := i) hy h3 (by omega)
      have hil : i < y.2.2.2.1.length := by omega
      have hgy : y.2.2.2.1.getD i 0 = y.2.2.2.1[i] := by rw [List.getD_eq_getElem?_getD, List.getElem?_eq_getElem hil]; rfl
      rw [gF] at q1 q3 q4
      rw [hA.2.2.2.1.1] at q3
      have a1 : M 138 (F + i) = (allX D.2.1).getD (tl D.2.1 k + i) 0 := by
        rw [hgx, hgy, ← q4 i _ (List.getElem?_eq_getElem hil)]
        simp only
        congr 1; omega
      have hby : 0 ≤ (allX D.2.1).getD (tl D.2.1 k + i) 0 ∧ (allX D.2.1).getD (tl D.2.1 k + i) 0 < 128 := by
        have e1 : (allX D.2.1).getD (tl D.2.1 k + i) 0 = (allX D.2.1)[tl D.2.1 k + i] := by rw [List.getD_eq_getElem?_getD, List.getElem?_eq_getElem hpx]; rfl
        rw [e1]; exact hch _ (List.getElem_mem hpx)
      rw [txF_] at heq
      refine v_X12_setText_18 ?_
      rw [ei, hA.2.2.2.1.1, gF, show ((F + i : Nat) : Int) + 1 = ((F + (i + 1) : Nat) : Int) by omega]
      simp only [Int.toNat_natCast]
      rw [a1]
      refine ⟨by omega, by omega, fun _ => ⟨by omega, w_X12_isS (rI_mk ⟨fun z => ?_, fun z => ?_⟩)⟩, fun z => by omega⟩
      · have hns : ¬ isSp ((allX D.2.1).getD (tl D.2.1 k + i) 0) := fun w => by rw [bI, if_pos w] at z; omega
        rw [if_neg hns] at heq
        obtain ⟨c1, c2, c3, c4, c5, c6, c7⟩ := hC1
        have c71 : M 124 98 = ((s1.2.2.2 : Nat) : Int) := by rw [c7.1, Nat.zero_add]
        have hwl : s1.2.2.2 ≤ tl D.2.1 k + i := by have := hI1.1; omega
        have hI2 := byW_I hI1 hpx
        rw [c71, a1]
        simp only [Int.toNat_natCast]
        refine ⟨by omega, by omega, ?_⟩
        rintro _ rfl
        rw [up2_ne (by decide), c71]
        simp only [Int.toNat_natCast]
        refine ⟨by omega, ?_⟩
        rintro _ rfl
        rw [up2_ne (by decide), up2_ne (by decide), c71]
        refine ⟨by omega, ?_⟩
        rintro _ rfl
        refine ⟨by omega, ih (i + 1) (byW (tl D.2.1 k + i) s1) _ (by omega) ?_ hI2 (frP_tr hfr (frP_tr (frP_up (Or.inr (Or.inl rfl))) (frP_tr (frP_up (Or.inr (Or.inr rfl))) (frP_up (Or.inl (by unfold chLR; omega)))))) heq⟩
        obtain ⟨M2, hM2⟩ : ∃ M2, M2 = up2 (up2 (up2 M 198 s1.2.2.2 ((allX D.2.1).getD (tl D.2.1 k + i) 0)) 199 s1.2.2.2 ((k : Nat) : Int)) 124 98 (((s1.2.2.2 : Nat) : Int) + 1) := ⟨_, rfl⟩
        rw [← hM2]
        have g124 : ∀ j, j ≠ 98 → M2 124 j = M 124 j := fun j hj => by rw [hM2, up2_nk hj, up2_ne (by decide), up2_ne (by decide)]
        have g98 : M2 124 98 = ((s1.2.2.2 + 1 : Nat) : Int) := by rw [hM2, up2_eq]; omega
        have go : ∀ a j, a ≠ 124 → a ≠ 198 → a ≠ 199 → M2 a j = M a j := fun a j a1 a2 a3 => by rw [hM2, up2_ne a1, up2_ne a3, up2_ne a2]
        have g1 : ∀ j, j ≠ s1.2.2.2 → M2 198 j = M 198 j ∧ M2 199 j = M 199 j := fun j hj => by
          rw [hM2, up2_ne (by decide), up2_ne (by decide), up2_nk hj, up2_ne (by decide), up2_nk hj, up2_ne (by decide)]; exact ⟨rfl, rfl⟩
        have g2 : M2 198 s1.2.2.2 = (allX D.2.1).getD (tl D.2.1 k + i) 0 ∧ M2 199 s1.2.2.2 = ((k : Nat) : Int) := by
          rw [hM2, up2_ne (by decide), up2_ne (by decide), up2_eq, up2_ne (by decide), up2_eq]; exact ⟨rfl, rfl⟩
        clear hM2
        have htx : txN D.2.1 (tl D.2.1 k + i) = (k : Int) := txN_at hy h3 (by omega) (by omega)
        refine ⟨by rw [g124 86 (by decide)]; exact c1, by rw [g124 99 (by decide)]; exact c2, by rw [g124 100 (by decide)]; exact c3, fun j q hq => ?_, ⟨by rw [go 192 _ (by decide) (by decide) (by decide)]; exact c5.1, fun j v hj => by rw [go 191 _ (by decide) (by decide) (by decide)]; exact c5.2 j v hj⟩, fun z => by rw [go 195 _ (by decide) (by decide) (by decide)]; exact c6 z, ⟨?_, fun j hj => ?_⟩⟩
        · obtain ⟨⟨b1, b2⟩, b3⟩ := c4 j q hq
          exact ⟨⟨by rw [go 192 _ (by decide) (by decide) (by decide)]; exact b1, fun j v hj => by rw [go 191 _ (by decide) (by decide) (by decide)]; exact b2 j v hj⟩, by rw [go 195 _ (by decide) (by decide) (by decide)]; exact b3⟩
        · rw [g98, Nat.zero_add]; rfl
        · have hj' : j < s1.2.2.2 + 1 := hj
          rw [Nat.zero_add]
          show M2 198 j = (allX D.2.1).getD ((if s1.2.2.2 = 0 then tl D.2.1 k + i else s1.2.2.1) + j) 0 ∧ M2 199 j = txN D.2.1 ((if s1.2.2.2 = 0 then tl D.2.1 k + i else s1.2.2.1) + j)
          by_cases h0 : s1.2.2.2 = 0
          · rw [if_pos h0]
            have hj0 : j = 0 := by omega
            rw [h0] at g2
            rw [hj0, Nat.add_zero, g2.1, g2.2, htx]; exact ⟨rfl, rfl⟩
          · rw [if_neg h0]
            have h33 := hI1.2.2.1 (by omega)
            by_cases hjl : j = s1.2.2.2
            · rw [hjl, g2.1, g2.2, h33, htx]; exact ⟨rfl, rfl⟩
            · have := c7.2 j (by omega)
              rw [Nat.zero_add] at this
              rw [(g1 j hjl).1, (g1 j hjl).2]; exact this
      · have hsp : isSp ((allX D.2.1).getD (tl D.2.1 k + i) 0) := Decidable.byContradiction fun w => z (by rw [bI, if_neg w])
        rw [if_pos hsp] at heq
        refine c_rendWord hC1 hI1 (by omega) hw hw6 hch (fun M2 k2 f2 => rV_mk ⟨by omega, ?_⟩)
        exact ih (i + 1) _ M2 (by omega) k2 (endW_S hw hI1 hpx) (frP_tr hfr (frP_mono f2 (fun _ _ z => Or.inl z))) heq
  refine v_X12_setText_0 ?_
  rw [hH.2.1, ei, hF]
  exact ⟨by omega, by omega, by omega, loop y.2.2.2.1.length 0 s MI (by omega) hC (by rw [Nat.add_zero]; exact hI) (frP_rfl _ _) (by rw [show tl D.2.1 (k + 1) - tl D.2.1 k = y.2.2.2.1.length by omega]; rfl)⟩
end Pf09
