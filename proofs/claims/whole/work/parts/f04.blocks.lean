/-! The class's lines: texts, BLOCKS. -/
theorem cT_ch {ns : List Nd} (hW : WfN ns) (m : Nat) : ∀ c ∈ cT ns 0 m, 0 ≤ c ∧ c < 128 := by
  intro c hc
  unfold cT at hc
  obtain ⟨z, hz, hcz⟩ := List.mem_flatMap.mp hc
  have hz' : z ∈ ns := List.mem_of_mem_take (List.mem_of_mem_drop hz)
  obtain ⟨i, hi⟩ := List.getElem?_of_mem hz'
  unfold tB at hcz
  split at hcz
  · next h3 =>
    have hip : 0 < i := by
      rcases Nat.eq_zero_or_pos i with w | w
      · subst w
        rw [hW.1] at hi
        cases hi
        exact absurd h3 (by decide)
      · exact w
    have := (hW.2 i z hi hip).1.2.2 c hcz
    unfold isCh at this
    omega
  · simp at hcz
theorem tl_0 (ns : List Nd) : tl ns 0 = 0 := by unfold tl tle; simp
theorem cT_len (ns : List Nd) : ∀ m, m ≤ ns.length → (cT ns 0 m).length = tl ns m
  | 0, _ => by rw [cT_nil, tl_0]; rfl
  | m + 1, h => by
    obtain ⟨y, hy⟩ : ∃ y, ns[m]? = some y := ⟨_, List.getElem?_eq_getElem (by omega)⟩
    rw [cT_s (by omega) hy, List.length_append, cT_len ns m (by omega), tl_s hy]
theorem allX_len (ns : List Nd) : (allX ns).length = tle ns := by unfold allX; rw [cT_len ns _ (Nat.le_refl _), tl_all]
theorem tl_mono (ns : List Nd) : ∀ (c m : Nat), m + c ≤ ns.length → tl ns m ≤ tl ns (m + c)
  | 0, m, _ => Nat.le_refl _
  | c + 1, m, h => by
    have := tl_mono ns c m (by omega)
    obtain ⟨y, hy⟩ : ∃ y, ns[m + c]? = some y := ⟨_, List.getElem?_eq_getElem (by omega)⟩
    rw [show m + (c + 1) = m + c + 1 by omega, tl_s hy]; omega
theorem tl_le (ns : List Nd) {m : Nat} (h : m ≤ ns.length) : tl ns m ≤ tle ns := by
  have := tl_mono ns (ns.length - m) m (by omega)
  rw [show m + (ns.length - m) = ns.length by omega, tl_all] at this
  exact this
def togM (H i : Nat) : List (Nat × Nat) → Nat → Nat
  | [], a => a
  | q :: t, a => togM H i t (if q.1 = i ∧ q.2 - q.1 ≤ H ∧ a < q.2 - q.1 then q.2 - q.1 else a)
theorem togM_app (H i : Nat) (q : Nat × Nat) : ∀ (l : List (Nat × Nat)) (a : Nat), togM H i (l ++ [q]) a = if q.1 = i ∧ q.2 - q.1 ≤ H ∧ togM H i l a < q.2 - q.1 then q.2 - q.1 else togM H i l a
  | [], a => rfl
  | p :: t, a => by rw [List.cons_append, togM, togM_app H i q t, togM]
theorem togM_gt (H i u : Nat) : ∀ (l : List (Nat × Nat)) (a : Nat), H < u + togM H i l a ↔ H < u + a ∨ (l.any fun q => decide (q.1 = i ∧ q.2 - q.1 ≤ H ∧ H < u + (q.2 - q.1))) = true
  | [], a => by simp [togM]
  | q :: t, a => by
    rw [togM, togM_gt H i u t, List.any_cons, Bool.or_eq_true, decide_eq_true_iff]
    by_cases h : q.1 = i ∧ q.2 - q.1 ≤ H ∧ a < q.2 - q.1
    · rw [if_pos h]
      constructor
      · rintro (z | z)
        · exact Or.inr (Or.inl ⟨h.1, h.2.1, z⟩)
        · exact Or.inr (Or.inr z)
      · rintro (z | z | z)
        · exact Or.inl (by omega)
        · exact Or.inl z.2.2
        · exact Or.inr z
    · rw [if_neg h]
      constructor
      · rintro (z | z)
        · exact Or.inl z
        · exact Or.inr (Or.inr z)
      · rintro (z | z | z)
        · exact Or.inl z
        · exact Or.inl (by have h1 := z.1; have h2 := z.2.1; have h3 := z.2.2; have : ¬ a < q.2 - q.1 := fun w => h ⟨h1, h2, w⟩; omega)
        · exact Or.inr z
theorem togM_le (H i : Nat) : ∀ (l : List (Nat × Nat)) (a : Nat), a ≤ H → togM H i l a ≤ H
  | [], a, h => h
  | q :: t, a, h => by
    rw [togM]
    apply togM_le
    split <;> omega
theorem finL_len (s : SM) : s.1.length ≤ (finL s).1.length := by
  unfold finL
  split
  · exact Nat.le_refl _
  · simp
theorem chkF_len (X : By) (wd : Nat) : ∀ (k : Nat) (s : SM), s.1.length ≤ (chkF X wd k s).1.length
  | 0, s => Nat.le_refl _
  | k + 1, s => by
    unfold chkF
    split
    · have h1 := chkF_len X wd k (movW wd (finL (appL X wd s)))
      have h2 := finL_len (appL X wd s)
      have e1 : (movW wd (finL (appL X wd s))).1.length = (finL (appL X wd s)).1.length := rfl
      have e2 : (appL X wd s).1.length = s.1.length := rfl
      omega
    · exact Nat.le_refl _
theorem endW_len (X : By) (wd : Nat) (s : SM) : s.1.length ≤ (endW X wd s).1.length := by
  unfold endW
  have h1 : s.1.length ≤ (if wd < s.2.2.2 then chkF X wd s.2.2.2 (finL s) else s).1.length := by
    split
    · exact Nat.le_trans (finL_len s) (chkF_len X wd _ _)
    · exact Nat.le_refl _
  refine Nat.le_trans h1 ?_
  obtain ⟨s1, e1⟩ : ∃ s1, s1 = (if wd < s.2.2.2 then chkF X wd s.2.2.2 (finL s) else s) := ⟨_, rfl⟩
  rw [← e1]
  show s1.1.length ≤ (putW X wd s1).1.length
  unfold putW
  split
  · show s1.1.length ≤ (if wd < s1.2.1.1.length + 1 + s1.2.2.2 then finL s1 else s1).1.length
    split
    · exact finL_len s1
    · exact Nat.le_refl _
  · exact Nat.le_refl _
theorem endL_len (X : By) (wd : Nat) (s : SM) : s.1.length ≤ (endL X wd s).1.length := Nat.le_trans (endW_len X wd s) (finL_len _)
/-- the open BLOCKS, the innermost first -/
def StkC (st : List (Nat × Nat)) (MI : Nat → Nat → Int) : Prop := MI 28 9 = (st.length : Nat) ∧ ∀ (j : Nat) (q : Nat × Nat), st[j]? = some q → MI 36 (st.length - 1 - j) = (q.1 : Nat) ∧ MI 37 (st.length - 1 - j) = (q.2 : Nat)
def TogC (H : Nat) (ks : List (Nat × Nat)) (MI : Nat → Nat → Int) : Prop := MI 28 15 = (H : Nat) ∧ ∀ i, i < 2000 → MI 35 i = (togM H i ks 0 : Nat)
section Pf04
variable {cs : Cs} {Q : Option AV → Mm → Prop} {MI ML OI : Nat → Nat → Int} {b d e nw th x pl : Nat} {TD : Nat → Int} {nD : Int} {N : List By} {D : Dt} {ns : List Nd} {dp : Int} {wd pos H : Nat} {s : SM}
theorem DocC_ln {MI' : Nat → Nat → Int} {P : Nat → Nat → Prop} (hbd : b = 38 ∨ b = 81) (hD : DocC b TD nD N pl D ns [] dp MI ML) (hf : frP P MI MI') (hp : ∀ i k, P i k → 28 ≤ i ∧ i ≤ 37) : DocC b TD nD N pl D ns [] dp MI' ML :=
  DocC_fr hD (fun i h1 h2 => frP_row hf (fun k z => by have := hp i k z; omega)) (fun _ _ _ => rfl)
theorem chLn_28 : ∀ i k, chLn i k → 28 ≤ i ∧ i ≤ 37 := fun i k z => by unfold chLn at z; omega
theorem TxX_of (hD : DocC b TD nD N pl D ns [] dp MI ML) (hW : WfN ns) : TxX b (allX ns) MI := by
  have h := texts_at hD.2.2.2.2.1 (k := 0) ns.length ns.length (by omega) (Nat.le_refl _)
  have hp := hD.2.2.2.2.2.2.1
  have h15 := hD.2.2.2.2.1.2.2.1
  refine ⟨fun i c hc => ?_, cT_ch hW _, by rw [allX_len]; omega⟩
  have := h.2.2.2 i c hc
  rw [tl_0] at this
  simpa using this
theorem c_nbyte {id i : Int} {y : By} (hbd : b = 38 ∨ b = 81) (hn : nD ≤ 6000) (hD : DocC b TD nD N pl D ns [] dp MI ML) (hid : y = [] ∧ id = -1 ∨ isId N id y) (hQ : Q (some (vI (byS y i))) (MI, ML, GR d e nw th x)) :
    wp cs mX5_byteOf KD Q 0 (padL [vR (b + 1), vI id, vI i] 3) [] (KD, MI, ML, GR d e nw th x) := by
  have hNam := hD.1
  have hln : nLen MI b id = (y.length : Nat) := by
    unfold nLen
    rcases hid with ⟨z1, z2⟩ | z
    · rw [z1, z2, if_neg (by omega)]; rfl
    · have hidl := (List.getElem?_eq_some_iff.mp z.2).1
      have hz0 := z.1
      rw [if_pos (by rw [hNam.1]; omega)]
      exact (hNam.2.2.2.1 _ _ z.2).1.2.1
  have fact : 0 ≤ i ∧ i < nLen MI b id → (0 ≤ id ∧ id < MI (b + 1) 7) ∧ 0 ≤ MI (b + 5) id.toNat ∧ MI (b + 5) id.toNat + i < 6000 ∧ MI (b + 2) (MI (b + 5) id.toNat + i).toNat = y.getD i.toNat 0 := by
    intro hi
    rw [hln] at hi
    rcases hid with ⟨z1, z2⟩ | z
    · rw [z1] at hi; simp at hi; omega
    · have hidl := (List.getElem?_eq_some_iff.mp z.2).1
      have hz0 := z.1
      have hsl := (hNam.2.2.2.1 _ _ z.2).1
      have q1 := hsl.1
      have q2 := hsl.2.1
      have q3 := hsl.2.2.1
      refine ⟨by rw [hNam.1]; omega, q1, by omega, ?_⟩
      rw [← slc_at hsl (i := i.toNat) (by omega), ← hNam.2.2.1 _ (by omega)]
      congr 1; omega
  unfold byS at hQ
  refine w_X5_byteOf hbd (by rw [hNam.1]; have := hNam.2.1; omega) (fun hi => ⟨(fact hi).1, (fact hi).2.1, (fact hi).2.2.1⟩) (fun hi => ?_) (fun hi => ?_)
  · rw [(fact hi).2.2.2]
    rw [hln] at hi
    rw [if_pos hi] at hQ; exact hQ
  · rw [hln] at hi
    rw [if_neg hi] at hQ; exact hQ
theorem c_isNamedKeep {id : Int} {y : By} (hbd : b = 38 ∨ b = 81) (hn : nD ≤ 6000) (hD : DocC b TD nD N pl D ns [] dp MI ML) (hid : isId N id y) (hQ : Q (some (vI (if y = [107, 101, 101, 112] then 1 else 0))) (MI, ML, GR d e nw th x)) :
    wp cs mX0_isNamedKeep KD Q 0 (padL [vR (b + 1), vI id] 2) [] (KD, MI, ML, GR d e nw th x) := by
  have hNam := hD.1
  have hidl := (List.getElem?_eq_some_iff.mp hid.2).1
  have hz0 := hid.1
  have hl := (hNam.2.2.2.1 _ _ hid.2).1.2.1
  refine v_X0_isNamedKeep_0 hbd (w_X5_lengthOf hbd (by rw [hNam.1]; have := hNam.2.1; omega) (fun _ => rI_mk ?_) (fun h => absurd (by rw [hNam.1]; omega) h))
  rw [hl]
  refine ⟨fun h4 => ?_, fun h4 => ?_⟩
  · have hy4 : y.length = 4 := by omega
    match y, hy4 with
    | [c0, c1, c2, c3], _ =>
      have no : ¬ ([c0, c1, c2, c3] = [107, 101, 101, 112]) → Q (some (vI 0)) (MI, ML, GR d e nw th x) := fun w => by rw [if_neg w] at hQ; exact hQ
      refine c_nbyte hbd hn hD (Or.inr hid) (rI_mk ⟨fun e0 => ?_, fun e0 => no (fun w => e0 (by cases w; rfl))⟩)
      refine c_nbyte hbd hn hD (Or.inr hid) (rI_mk ⟨fun e1 => ?_, fun e1 => no (fun w => e1 (by cases w; rfl))⟩)
      refine c_nbyte hbd hn hD (Or.inr hid) (rI_mk ⟨fun e2 => ?_, fun e2 => no (fun w => e2 (by cases w; rfl))⟩)
      refine c_nbyte hbd hn hD (Or.inr hid) (rI_mk ⟨fun e3 => ?_, fun e3 => no (fun w => e3 (by cases w; rfl))⟩)
      have z0 : c0 = 107 := e0
      have z1 : c1 = 101 := e1
      have z2 : c2 = 101 := e2
      have z3 : c3 = 112 := e3
      rw [if_pos (by rw [z0, z1, z2, z3])] at hQ; exact hQ
  · rw [if_neg (fun w => h4 (by rw [w]; rfl))] at hQ; exact hQ
theorem c_isKept {k : Nat} (hbd : b = 38 ∨ b = 81) (hn : nD ≤ 6000) (hW : WfN ns) (hAt : AtW ns) (hD : DocC b TD nD N pl D ns [] dp MI ML) (hk : k < ns.length) (hQ : Q (some (vI (if kepB ns k = true then 1 else 0))) (MI, ML, GR d e nw th x)) :
    wp cs mX0_isKept KD Q 0 (padL [vR b, vI (k : Nat)] 4) [] (KD, MI, ML, GR d e nw th x) := by
  have h600 := hD.2.2.2.2.1.2.1
  obtain ⟨yk, hyk⟩ : ∃ y, ns[k]? = some y := ⟨_, List.getElem?_eq_getElem hk⟩
  have e35 := (hD.2.2.2.2.1.2.2.2 k yk hyk).2.2.2.1
  have hat := hAt.2.1 k hk
  obtain ⟨P, hP⟩ : ∃ P : Nat → Bool, P = fun c => decide ((ndA ns c).1 = 2 ∧ (ndA ns c).2.1 = (k : Int) ∧ (ndA ns c).2.2.1 = [107, 101, 101, 112] ∧ (ndA ns c).2.2.2.1 = [49]) := ⟨_, rfl⟩
  have hkp : kepB ns k = (List.range ns.length).any P := by unfold kepB; rw [hP]
  rw [hkp] at hQ
  obtain ⟨R, hR⟩ : ∃ R, R = (List.range ns.length).any P := ⟨_, rfl⟩
  rw [← hR] at hQ
  have loop : ∀ (m c : Nat), k + cntA ns (k : Int) + 1 - c = m → k < c → c ≤ k + cntA ns (k : Int) + 1 → R = (List.range' c (ns.length - c)).any P → wp cs mX0_isKept KD Q 4 [some (vR b), some (vI (k : Nat)), some (vI (c : Nat)), none] [] (KD, MI, ML, GR d e nw th x) := by
    intro m
    induction m with
    | zero =>
      intro c hm hkc hcl hRc
      refine v_X0_isKept_4 hbd ?_
      simp only [Int.toNat_natCast]
      rw [e35]
      refine ⟨by omega, by omega, fun _ => ?_, fun z => by omega⟩
      rw [rga_nil (fun i a1 a2 => ?_)] at hRc
      · rw [hRc, if_neg (by decide)] at hQ; exact hQ
      · obtain ⟨z, hz⟩ : ∃ z, ns[i]? = some z := ⟨_, List.getElem?_eq_getElem a2⟩
        rw [hP]; simp only; rw [ndA_at hz]
        refine decide_eq_false ?_
        rintro ⟨z1, z2, z3⟩
        have := ((hat.2 i z hz).mp ⟨z1, z2⟩).2
        omega
    | succ m ih =>
      intro c hm hkc hcl hRc
      obtain ⟨y, hy⟩ : ∃ z, ns[c]? = some z := ⟨_, List.getElem?_eq_getElem (by omega)⟩
      have hya := (hat.2 c y hy).mpr ⟨hkc, by omega⟩
      have hcn := (List.getElem?_eq_some_iff.mp hy).1
      have hA := hD.2.2.2.2.1.2.2.2 c y hy
      rw [rg_cons hcn, List.any_cons] at hRc
      have hPc : P c = decide (y.2.2.1 = [107, 101, 101, 112] ∧ y.2.2.2.1 = [49]) := by
        rw [hP]; simp only; rw [ndA_at hy]
        apply decide_eq_decide.mpr
        exact ⟨fun w => w.2.2, fun w => ⟨hya.1, hya.2, w⟩⟩
      have ec : ((c : Nat) : Int) + 1 = ((c + 1 : Nat) : Int) := by omega
      have no : P c = false → wp cs mX0_isKept KD Q 4 [some (vR b), some (vI (k : Nat)), some (vI ((c + 1 : Nat) : Int)), none] [] (KD, MI, ML, GR d e nw th x) := by
        intro hp
        rw [hp, Bool.false_or] at hRc
        exact ih (c + 1) (by omega) (by omega) (by omega) hRc
      have hsl := (hA.2.2.2.2.2.2.1 hya.1).1
      have s1 := hsl.1
      have s2 := hsl.2.1
      have s3 := hsl.2.2.1
      have hp14 := hD.2.2.2.2.2.2.1
      have h15 := hD.2.2.2.2.1.2.2.1
      have no49 : ¬ y.2.2.2.1 = [49] → wp cs mX0_isKept KD Q 49 [some (vR b), some (vI (k : Nat)), some (vI (c : Nat)), none] [vI 0] (KD, MI, ML, GR d e nw th x) := fun w => by
        refine v_X0_isKept_49 hbd ⟨fun _ => ⟨by omega, ?_⟩, fun z => absurd rfl z⟩
        rw [ec]
        exact no (by rw [hPc]; exact decide_eq_false (fun z => w z.2))
      refine v_X0_isKept_4 hbd ?_
      simp only [Int.toNat_natCast]
      rw [e35, s2]
      refine ⟨by omega, by omega, fun z => by omega, fun _ => ⟨by omega, by omega, fun h1 => ?_, fun h1 => no49 (fun w => h1 (by rw [w]; rfl))⟩⟩
      have hl1 : y.2.2.2.1.length = 1 := by omega
      obtain ⟨v, hv⟩ : ∃ v, y.2.2.2.1 = [v] := by
        match hh : y.2.2.2.1, hl1 with
        | [v], _ => exact ⟨v, rfl⟩
      have hval : MI (b + 41) (MI (b + 39) c + 0).toNat = v := by
        have := hsl.2.2.2 0 v (by rw [hv]; rfl)
        rw [← this]; congr 1; omega
      refine w_X3_stringByte hbd (by omega) (by simp only [Int.toNat_natCast]; omega) (fun hi h2 => rI_mk ?_) (fun hi h2 => ?_) (fun hi => ?_)
      · simp only [Int.toNat_natCast]
        rw [hval]
        refine ⟨fun h49 => ?_, fun h49 => no49 (fun w => h49 (by rw [hv] at w; cases w; rfl))⟩
        refine v_X0_isKept_49 hbd ?_
        simp only [Int.toNat_natCast]
        refine ⟨fun z => by omega, fun _ => ⟨by omega, ?_⟩⟩
        have hvv : y.2.2.2.1 = [49] := by rw [hv, h49]
        refine c_isNamedKeep hbd hn hD (nd_id hD hW hy (Or.inr hya.1)) (rI_mk ?_)
        rw [ec]
        by_cases hnm : y.2.2.1 = [107, 101, 101, 112]
        · rw [if_pos hnm]
          refine ⟨fun z => by omega, fun _ => ?_⟩
          rw [hPc, decide_eq_true ⟨hnm, hvv⟩, Bool.true_or] at hRc
          rw [hRc, if_pos rfl] at hQ; exact hQ
        · rw [if_neg hnm]
          exact ⟨fun _ => ⟨by omega, no (by rw [hPc]; exact decide_eq_false (fun z => hnm z.1))⟩, fun z => absurd rfl z⟩
      · exfalso
        simp only [Int.toNat_natCast] at h2
        exact h2 (by rw [hA.1]; exact hya.1)
      · exfalso
        simp only [Int.toNat_natCast] at hi
        omega
  refine v_X0_isKept_0 ⟨by omega, ?_⟩
  rw [show ((k : Nat) : Int) + 1 = ((k + 1 : Nat) : Int) by omega]
  refine loop _ (k + 1) rfl (by omega) (by omega) ?_
  rw [hR, rg_0]
  have := rga_skip (P := P) (n := ns.length) (k + 1) 0 (by omega) (fun i a1 a2 => by
    obtain ⟨z, hz⟩ : ∃ z, ns[i]? = some z := ⟨_, List.getElem?_eq_getElem (by omega)⟩
    rw [hP]; simp only; rw [ndA_at hz]
    refine decide_eq_false ?_
    rintro ⟨w1, w2, w3⟩
    have := hAt.1 i z hz
    omega)
  rw [Nat.zero_add] at this
  exact this
theorem c_isBlock {k : Nat} (hbd : b = 38 ∨ b = 81) (hn : nD ≤ 6000) (hW : WfN ns) (hD : DocC b TD nD N pl D ns [] dp MI ML) (hk : k < ns.length) (hQ : Q (some (vI (if blkB ns k = true then 1 else 0))) (MI, ML, GR d e nw th x)) :
    wp cs mX0_isBlock KD Q 0 (padL [vR b, vI (k : Nat)] 3) [] (KD, MI, ML, GR d e nw th x) := by
  have h600 := hD.2.2.2.2.1.2.1
  obtain ⟨y, hy⟩ : ∃ y, ns[k]? = some y := ⟨_, List.getElem?_eq_getElem hk⟩
  have hA := hD.2.2.2.2.1.2.2.2 k y hy
  have hbb : blkB ns k = decide (y.1 = 1 ∧ 65 ≤ y.2.2.1.headD 0 ∧ y.2.2.1.headD 0 ≤ 90) := by unfold blkB; rw [ndA_at hy]
  rw [hbb] at hQ
  refine v_X0_isBlock_0 hbd ?_
  simp only [Int.toNat_natCast]
  refine ⟨by omega, c_nbyte hbd hn hD hA.2.2.1 (rI_mk ?_)⟩
  rw [hA.1]
  refine ⟨fun h1 => ?_, fun h1 => ?_⟩
  · have hne := WfN_ne hW k y hy h1
    have hby : byS y.2.2.1 0 = y.2.2.1.headD 0 := by
      cases hz : y.2.2.1 with
      | nil => exact absurd hz hne
      | cons c t => unfold byS; rw [if_pos (by simp)]; rfl
    rw [hby]
    refine ⟨fun h2 => ?_, fun h2 => ⟨fun h3 => ?_, fun h3 => ?_⟩⟩
    · rw [decide_eq_false (fun w => by omega), if_neg (by decide)] at hQ; exact hQ
    · rw [decide_eq_false (fun w => by omega), if_neg (by decide)] at hQ; exact hQ
    · rw [decide_eq_true ⟨h1, h2, h3⟩, if_pos rfl] at hQ; exact hQ
  · rw [decide_eq_false (fun w => h1 w.1), if_neg (by decide)] at hQ; exact hQ
theorem c_takeText {k : Nat} {y : Nd} (hbd : b = 38 ∨ b = 81) (hW : WfN ns) (hD : DocC b TD nD N pl D ns [] dp MI ML) (hy : ns[k]? = some y) (h3 : y.1 = 3) (hw : 0 < wd) (hw6 : wd ≤ 60) (hC : ComC wd s MI) (hI : SmI (allX ns) wd (tl ns k) s)
    (hQ : ∀ MI', ComC wd (txF_ (allX ns) wd (tl ns (k + 1) - tl ns k) (tl ns k) s) MI' → frP chLn MI MI' → Q none (MI', ML, GR d e nw th x)) :
    wp cs mX0_takeText KD Q 0 (padL [vR 28, vR b, vI (k : Nat)] 4) [] (KD, MI, ML, GR d e nw th x) := by
  have h600 := hD.2.2.2.2.1.2.1
  have hkl := (List.getElem?_eq_some_iff.mp hy).1
  have hxl := allX_len ns
  have htle : tle ns ≤ 2000 := by have hp := hD.2.2.2.2.2.2.1; have h15 := hD.2.2.2.2.1.2.2.1; omega
  have hmon := tl_mono ns 1 k (by omega)
  have hle := tl_le ns (m := k + 1) (by omega)
  have fromto : ∀ {M : Nat → Nat → Int}, DocC b TD nD N pl D ns [] dp M ML → M (b + 39) k = (tl ns k : Nat) ∧ M (b + 40) k = (tl ns (k + 1) : Nat) := fun hd => by
    have hA := hd.2.2.2.2.1.2.2.2 k y hy
    refine ⟨hA.2.2.2.2.2.2.2.1 (by omega), ?_⟩
    have := (hA.2.2.2.2.2.2.2.2.2 (by omega) (by simp)).2
    rw [eS_text hW hy (by omega) (by omega)] at this
    exact this
  have loop : ∀ (m p : Nat) (s1 : SM) (M : Nat → Nat → Int), p + m = tl ns (k + 1) → tl ns k ≤ p → ComC wd s1 M → SmI (allX ns) wd p s1 → frP chLn MI M → txF_ (allX ns) wd (tl ns (k + 1) - tl ns k) (tl ns k) s = txF_ (allX ns) wd m p s1 →
      wp cs mX0_takeText KD Q 7 [some (vR 28), some (vR b), some (vI (k : Nat)), some (vI (p : Nat))] [] (KD, M, ML, GR d e nw th x) := by
    intro m
    induction m with
    | zero =>
      intro p s1 M hp hpk hC1 hI1 hfr heq
      have hD1 := DocC_ln hbd hD hfr chLn_28
      refine v_X0_takeText_7 hbd ?_
      simp only [Int.toNat_natCast]
      rw [(fromto hD1).2]
      refine ⟨by omega, fun z => by omega, fun _ => hQ M (by rw [heq]; exact hC1) hfr⟩
    | succ m ih =>
      intro p s1 M hp hpk hC1 hI1 hfr heq
      have hD1 := DocC_ln hbd hD hfr chLn_28
      have hTx := TxX_of hD1 hW
      have hpx : p < (allX ns).length := by omega
      have hgx : (allX ns).getD p 0 = M (b + 42) p := by
        rw [hTx.1 p (allX ns)[p] (List.getElem?_eq_getElem hpx), List.getD_eq_getElem?_getD, List.getElem?_eq_getElem hpx]; rfl
      rw [txF_] at heq
      refine v_X0_takeText_7 hbd ?_
      simp only [Int.toNat_natCast]
      rw [(fromto hD1).2, show ((p : Nat) : Int) + 1 = ((p + 1 : Nat) : Int) by omega]
      refine ⟨by omega, fun _ => ⟨by omega, w_X1_isSpace (rI_mk ⟨fun z => ?_, fun z => ?_⟩)⟩, fun z => by omega⟩
      · have hns : ¬ isSp ((allX ns).getD p 0) := fun w => by rw [hgx] at w; rw [bI, if_pos w] at z; omega
        rw [if_neg hns] at heq
        have c13 := hC1.2.2.1
        have hwl : s1.2.2.2 ≤ 2000 := by have := hI1.1; omega
        have hI2 := byW_I hI1 hpx
        rw [c13]
        refine ⟨fun h0 => ?_, fun h0 => ⟨by omega, ?_⟩⟩
        · rintro _ rfl
          rw [up2_nk (by decide), c13]
          refine ⟨by omega, ?_⟩
          rintro _ rfl
          refine ⟨by omega, ih (p + 1) (byW p s1) _ (by omega) (by omega) (ComC_w hC1 rfl rfl (frP_tr (frP_up ⟨rfl, Or.inl rfl⟩) (frP_up ⟨rfl, Or.inr rfl⟩)) ?_ (fun _ => ?_)) hI2 (frP_tr hfr (frP_tr (frP_up (by unfold chLn; omega)) (frP_up (by unfold chLn; omega)))) heq⟩
          · rw [up2_eq]; show _ = ((s1.2.2.2 + 1 : Nat) : Int); omega
          · rw [up2_nk (by decide), up2_eq]
            show _ = (((if s1.2.2.2 = 0 then p else s1.2.2.1) : Nat) : Int)
            rw [if_pos (by omega)]
        · rintro _ rfl
          refine ⟨by omega, ih (p + 1) (byW p s1) _ (by omega) (by omega) (ComC_w hC1 rfl rfl (frP_up ⟨rfl, Or.inr rfl⟩) ?_ (fun _ => ?_)) hI2 (frP_tr hfr (frP_up (by unfold chLn; omega))) heq⟩
          · rw [up2_eq]; show _ = ((s1.2.2.2 + 1 : Nat) : Int); omega
          · rw [up2_nk (by decide)]
            show _ = (((if s1.2.2.2 = 0 then p else s1.2.2.1) : Nat) : Int)
            rw [if_neg (by omega)]
            exact hC1.2.2.2.1 (by omega)
      · have hsp : isSp ((allX ns).getD p 0) := by rw [hgx]; exact Decidable.byContradiction fun w => z (by rw [bI, if_neg w])
        rw [if_pos hsp] at heq
        refine c_endWord hbd hTx hC1 hI1 (by omega) hw hw6 (fun M2 k2 f2 => rV_mk ⟨by omega, ?_⟩)
        exact ih (p + 1) _ M2 (by omega) (by omega) k2 (endW_S hw hI1 hpx) (frP_tr hfr f2) heq
  refine v_X0_takeText_0 hbd ?_
  simp only [Int.toNat_natCast]
  rw [(fromto hD).1]
  exact ⟨by omega, loop _ (tl ns k) s MI (by omega) (Nat.le_refl _) hC hI (frP_rfl _ _) rfl⟩
end Pf04
