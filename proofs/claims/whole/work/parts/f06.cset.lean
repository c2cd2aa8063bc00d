/-! The class's set, line, at. -/
theorem tl_n3 {ns : List Nd} {k : Nat} {y : Nd} (hy : ns[k]? = some y) (h3 : y.1 ≠ 3) : tl ns (k + 1) = tl ns k := by
  rw [tl_s hy]; unfold tB; rw [if_neg h3]; rfl
theorem nodS_I {ns : List Nd} {wd k : Nat} {c : SB} (hw : 0 < wd) (hk : k < ns.length) (hI : SbI ns wd (tl ns k) c) (hlt : ∀ q ∈ c.2.1, q.1 < k) : SbI ns wd (tl ns (k + 1)) (nodS ns (allX ns) wd k c) ∧ ∀ q ∈ (nodS ns (allX ns) wd k c).2.1, q.1 < k + 1 := by
  obtain ⟨y, hy⟩ : ∃ y, ns[k]? = some y := ⟨_, List.getElem?_eq_getElem hk⟩
  obtain ⟨h1, h2, h3⟩ := clsS_I (k := k) hw c.2.1 c.1 c.2.2 hI
  obtain ⟨c', hc'⟩ : ∃ c', c' = clsS ns (allX ns) wd k c.2.1 c.1 c.2.2 := ⟨_, rfl⟩
  rw [← hc'] at h1 h2 h3
  unfold nodS
  rw [← hc']
  unfold opnS
  rw [ndA_at hy]
  by_cases hk3 : y.1 = 3
  · rw [if_pos hk3]
    have hm := tl_mono ns 1 k (by omega)
    have hl := tl_le ns (m := k + 1) (by omega)
    have hx := allX_len ns
    have := txF_I hw (tl ns (k + 1) - tl ns k) (tl ns k) c'.1 h1.1 (by omega)
    rw [show tl ns k + (tl ns (k + 1) - tl ns k) = tl ns (k + 1) by omega] at this
    refine ⟨⟨this, h1.2.1, fun q hq => ?_⟩, fun q hq => Nat.lt_succ_of_lt (hlt q (h2 q hq))⟩
    refine Nat.le_trans (h1.2.2 q hq) ?_
    have mono : ∀ (m p : Nat) (s : SM), s.1.length ≤ (txF_ (allX ns) wd m p s).1.length := by
      intro m
      induction m with
      | zero => intro p s; exact Nat.le_refl _
      | succ m ih =>
        intro p s
        rw [txF_]
        refine Nat.le_trans ?_ (ih (p + 1) _)
        split
        · exact endW_len _ _ _
        · exact Nat.le_refl _
    exact mono _ _ _
  · rw [if_neg hk3, tl_n3 hy hk3]
    split
    · next hb =>
      have hI2 := endL_I hw h1.1
      have hkd : (ndA ns k).1 = 1 := (of_decide_eq_true hb).1
      refine ⟨⟨hI2.1, ?_, fun q hq => ?_⟩, fun q hq => ?_⟩
      · show Nest ns (k :: c'.2.1.map fun q => q.1)
        refine Nest_push ⟨hk, hkd⟩ h1.2.1 (fun a ha => ?_)
        rw [List.head?_map] at ha
        cases hh : c'.2.1.head? with
        | none => rw [hh] at ha; cases ha
        | some q =>
          rw [hh] at ha
          simp only [Option.map_some, Option.some.injEq] at ha
          subst ha
          exact ⟨hlt q (h2 q (List.mem_of_mem_head? hh)), h3 q hh⟩
      · rcases List.mem_cons.mp hq with z | z
        · rw [z]; exact Nat.le_refl _
        · exact Nat.le_trans (h1.2.2 q z) (endL_len _ _ _)
      · rcases List.mem_cons.mp hq with z | z
        · rw [z]; exact Nat.lt_succ_self _
        · exact Nat.lt_succ_of_lt (hlt q (h2 q z))
    · exact ⟨h1, fun q hq => Nat.lt_succ_of_lt (hlt q (h2 q hq))⟩
theorem pgF_len (ks : List (Nat × Nat)) (H : Nat) : ∀ (m i p u : Nat), (pgF ks H m i p u).length = m
  | 0, _, _, _ => rfl
  | m + 1, i, p, u => by
    rw [pgF]
    split <;> simp [pgF_len ks H m]
def PagC (pg : List (Nat × Nat)) (MI : Nat → Nat → Int) : Prop := (∀ (i : Nat) (q : Nat × Nat), pg[i]? = some q → MI 32 i = (q.1 : Nat) ∧ MI 33 i = (q.2 : Nat)) ∧ MI 28 17 = (pgN pg : Nat)
def LinC (L : List Ln) (pg : List (Nat × Nat)) (MI : Nat → Nat → Int) : Prop := MI 28 16 = (L.length : Nat) ∧ sumL L ≤ 2000 ∧ L.length ≤ 2000 ∧ pg.length = L.length ∧
  (∀ (i : Nat) (x : Ln), L[i]? = some x → MI 30 i = (sumL (L.take i) : Nat) ∧ MI 31 i = (x.1.length : Nat) ∧ MI 34 i = (x.2 : Nat)) ∧ (∀ (j : Nat) (c : Int), ((L.map fun x => x.1).flatten)[j]? = some c → MI 29 j = c) ∧ PagC pg MI
def chSet (i k : Nat) : Prop := 28 ≤ i ∧ i ≤ 37
section Pf06
variable {cs : Cs} {Q : Option AV → Mm → Prop} {MI ML OI : Nat → Nat → Int} {b d e nw th x pl : Nat} {TD : Nat → Int} {nD : Int} {N : List By} {D : Dt} {ns : List Nd} {dp : Int} {wd H : Nat}
theorem c_layPages {L : List Ln} {ks : List (Nat × Nat)} (hH : 1 ≤ H ∧ H ≤ 50) (hL : L.length ≤ 2000) (h16 : MI 28 16 = (L.length : Nat)) (hT : TogC H ks MI)
    (hQ : ∀ MI', PagC (pgF ks H L.length 0 0 0) MI' → frP (fun i k => i = 32 ∨ i = 33 ∨ (i = 28 ∧ k = 17)) MI MI' → Q none (MI', ML, GR d e nw th x)) :
    wp cs mX0_layPages KD Q 0 (padL [vR 28] 4) [] (KD, MI, ML, GR d e nw th x) := by
  have loop : ∀ (m i p u : Nat) (pre : List (Nat × Nat)) (M : Nat → Nat → Int), i + m = L.length → pre.length = i → p ≤ i → u ≤ H → (∀ q, pre.getLast? = some q → p = q.1) → (pre = [] → p = 0) → pre ++ pgF ks H m i p u = pgF ks H L.length 0 0 0 → (∀ (j : Nat) (q : Nat × Nat), pre[j]? = some q → M 32 j = (q.1 : Nat) ∧ M 33 j = (q.2 : Nat)) → frP (fun i k => i = 32 ∨ i = 33 ∨ (i = 28 ∧ k = 17)) MI M →
      wp cs mX0_layPages KD Q 6 [some (vR 28), some (vI (p : Nat)), some (vI (u : Nat)), some (vI (i : Nat))] [] (KD, M, ML, GR d e nw th x) := by
    intro m
    induction m with
    | zero =>
      intro i p u pre M hi hpl hp hu hlast hnil heq hM hfr
      have g16 : M 28 16 = (L.length : Nat) := by rw [hfr 28 16 (by decide)]; exact h16
      rw [pgF, List.append_nil] at heq
      refine v_X0_layPages_6 ?_
      rw [g16]
      refine ⟨fun z => by omega, fun _ => ⟨fun h0 => ?_, fun h0 => ⟨by omega, ?_⟩⟩⟩
      · rintro _ rfl
        refine hQ _ ⟨fun j q hq => ?_, ?_⟩ (frP_tr hfr (frP_up (Or.inr (Or.inr ⟨rfl, rfl⟩))))
        · rw [← heq] at hq
          rw [up2_ne (by decide), up2_ne (by decide)]; exact hM j q hq
        · have : pre = [] := List.eq_nil_of_length_eq_zero (by omega)
          rw [up2_eq, ← heq, this]; rfl
      · rintro _ rfl
        refine hQ _ ⟨fun j q hq => ?_, ?_⟩ (frP_tr hfr (frP_up (Or.inr (Or.inr ⟨rfl, rfl⟩))))
        · rw [← heq] at hq
          rw [up2_ne (by decide), up2_ne (by decide)]; exact hM j q hq
        · rw [up2_eq, ← heq]
          unfold pgN
          cases hg : pre.getLast? with
          | none => exact absurd (List.getLast?_eq_none_iff.mp hg) (fun z => by rw [z] at hpl; simp at hpl; omega)
          | some q => rw [hlast q hg]; simp
    | succ m ih =>
      intro i p u pre M hi hpl hp hu hlast hnil heq hM hfr
      have g16 : M 28 16 = (L.length : Nat) := by rw [hfr 28 16 (by decide)]; exact h16
      have g15 : M 28 15 = (H : Nat) := by rw [hfr 28 15 (by decide)]; exact hT.1
      have g35 : M 35 i = (togM H i ks 0 : Nat) := by rw [hfr 35 i (by omega)]; exact hT.2 i (by omega)
      have htm := togM_le H i ks 0 (Nat.zero_le _)
      have hgt := togM_gt H i u ks 0
      rw [pgF] at heq
      have ei : ((i : Nat) : Int) + 1 = ((i + 1 : Nat) : Int) := by omega
      -- a line is laid
      have lay : ∀ (p' u' : Nat), p' ≤ i + 1 → u' < H → pre ++ (p', u') :: pgF ks H m (i + 1) p' (u' + 1) = pgF ks H L.length 0 0 0 → wp cs mX0_layPages KD Q 42 [some (vR 28), some (vI (p' : Nat)), some (vI (u' : Nat)), some (vI (i : Nat))] [] (KD, M, ML, GR d e nw th x) := by
        intro p' u' hp' hu' heq'
        refine v_X0_layPages_42 ?_
        simp only [Int.toNat_natCast]
        refine ⟨by omega, ?_⟩
        rintro _ rfl _ rfl
        rw [ei, show ((u' : Nat) : Int) + 1 = ((u' + 1 : Nat) : Int) by omega]
        refine ⟨by omega, by omega, ih (i + 1) p' (u' + 1) (pre ++ [(p', u')]) _ (by omega) (by simp; omega) hp' (by omega) (fun q hq => ?_) (fun z => by simp at z) (by rw [List.append_assoc]; exact heq') (fun j q hq => ?_) (frP_tr hfr (frP_tr (frP_up (Or.inl rfl)) (frP_up (Or.inr (Or.inl rfl)))))⟩
        · rw [List.getLast?_append] at hq
          simp at hq
          rw [← hq]
        · by_cases hj : j < pre.length
          · rw [List.getElem?_append_left hj] at hq
            rw [up2_ne (by decide), up2_nk (by omega), up2_nk (by omega), up2_ne (by decide)]
            exact hM j q hq
          · have h2 := (List.getElem?_eq_some_iff.mp hq).1
            simp only [List.length_append, List.length_singleton] at h2
            have h3 : j = pre.length := by omega
            subst h3
            rw [List.getElem?_append_right (Nat.le_refl _)] at hq
            simp at hq
            subst hq
            rw [hpl, up2_ne (by decide), up2_eq, up2_eq]
            exact ⟨rfl, rfl⟩
      have brk : brkB ks H i u = true → wp cs mX0_layPages KD Q 42 [some (vR 28), some (vI (((p : Nat) : Int) + 1)), some (vI 0), some (vI (i : Nat))] [] (KD, M, ML, GR d e nw th x) := by
        intro hb
        rw [if_pos hb] at heq
        have := lay (p + 1) 0 (by omega) (by omega) heq
        rw [show (((p + 1 : Nat) : Nat) : Int) = ((p : Nat) : Int) + 1 by omega] at this
        exact this
      refine v_X0_layPages_6 ?_
      simp only [Int.toNat_natCast]
      rw [g16, g15, g35]
      refine ⟨fun _ => ⟨fun hlt => ⟨by omega, by omega, fun hover => ⟨by omega, brk ?_⟩, fun hin => lay p u (by omega) (by omega) ?_⟩, fun hge => ⟨by omega, brk ?_⟩⟩, fun z => by omega⟩
      · unfold brkB
        rw [Bool.or_eq_true]
        rcases hgt.mp (by omega) with w | w
        · omega
        · exact Or.inr w
      · have hb : brkB ks H i u = false := by
          unfold brkB
          rw [Bool.or_eq_false_iff]
          refine ⟨decide_eq_false (by omega), ?_⟩
          cases hz : (ks.any fun q => decide (q.1 = i ∧ q.2 - q.1 ≤ H ∧ H < u + (q.2 - q.1))) with
          | false => rfl
          | true => exact absurd (hgt.mpr (Or.inr hz)) (by omega)
        rw [if_neg (by rw [hb]; decide)] at heq
        exact heq
      · unfold brkB
        rw [Bool.or_eq_true]
        exact Or.inl (decide_eq_true (by omega))
  exact v_X0_layPages_0 (loop L.length 0 0 0 [] MI (by omega) rfl (Nat.le_refl _) (Nat.zero_le _) (fun q hq => by cases hq) (fun _ => rfl) rfl (fun j q hq => by simp at hq) (frP_rfl _ _))
theorem c_compose_l {w1 h1 : Int} (hbd : b = 38 ∨ b = 81) (hn : nD ≤ 6000) (hW : WfN ns) (hAt : AtW ns) (hB : NestB ns) (hw : 0 < wd) (hw6 : wd ≤ 60) (hH : 1 ≤ H ∧ H ≤ 50)
    (hQ : ∀ MI', LinC (setL ns wd) (setP ns wd H) MI' → frP chSet OI MI' → Q none (MI', ML, GR d e nw th x)) :
    ∀ (m k : Nat) (c : SB) (MI : Nat → Nat → Int), k + m = ns.length → SbI ns wd (tl ns k) c → (∀ q ∈ c.2.1, q.1 < k) → runS ns wd = nodF ns (allX ns) wd m k c → DocC b TD nD N pl D ns [] dp MI ML → ComC wd c.1 MI → StkC c.2.1 MI → TogC H c.2.2 MI → frP chSet OI MI →
    wp cs mX0_compose KD Q 46 [some (vR 28), some (vR b), some (vI w1), some (vI h1), some (vI (k : Nat))] [] (KD, MI, ML, GR d e nw th x) := by
  have b2s : ∀ {A B : Nat → Nat → Int}, frP chBl A B → frP chSet A B := fun z => frP_mono z chBl_28
  have l2s : ∀ {A B : Nat → Nat → Int}, frP chLn A B → frP chSet A B := fun z => frP_mono z chLn_28
  intro m
  induction m with
  | zero =>
    intro k c MI hk hI hlt heq hD hC hS hT hfr
    have hkn : k = ns.length := by omega
    subst hkn
    have htle : tle ns ≤ 2000 := by have hp := hD.2.2.2.2.2.2.1; have h15 := hD.2.2.2.2.1.2.2.1; omega
    rw [tl_all] at hI
    rw [nodF] at heq
    refine v_X0_compose_46 hbd ?_
    rw [hD.2.2.2.2.1.1]
    refine ⟨fun z => by omega, fun _ => c_closeBlocks hbd hn hW hAt hB hw hw6 htle hH.2 c.2.1 c.1 c.2.2 MI hI hD hC hS hT (fun M1 k1 s1 t1 f1 => rV_mk ?_)⟩
    have hI1 := (clsS_I (k := ns.length) hw c.2.1 c.1 c.2.2 hI).1
    have hD1 := DocC_ln hbd hD f1 chBl_28
    refine c_endLine hbd (TxX_of hD1 hW) k1 hI1.1 htle hw hw6 (fun M2 k2 f2 => rV_mk ?_)
    have hsB : setB ns wd = clsS ns (allX ns) wd ns.length c.2.1 c.1 c.2.2 := by unfold setB; rw [heq]
    have hsL : setL ns wd = (endL (allX ns) wd (clsS ns (allX ns) wd ns.length c.2.1 c.1 c.2.2).1).1 := by unfold setL; rw [hsB]
    have hsP : setP ns wd H = pgF (clsS ns (allX ns) wd ns.length c.2.1 c.1 c.2.2).2.2 H (setL ns wd).length 0 0 0 := by unfold setP; rw [hsB]
    obtain ⟨s2, hs2⟩ : ∃ s2, s2 = endL (allX ns) wd (clsS ns (allX ns) wd ns.length c.2.1 c.1 c.2.2).1 := ⟨_, rfl⟩
    have hI2 := endL_I hw hI1.1
    rw [← hs2] at hI2 k2 hsL
    have htot : tot s2 = sumL s2.1 + s2.2.1.1.length := rfl
    have hge := sumL_ge hI2.1.2.2.2.2
    have hi21 := hI2.1.1
    have hL2 : s2.1.length ≤ 2000 := by omega
    refine c_layPages hH hL2 k2.2.2.2.2.2.1 (TogC_fr t1 f2) (fun M3 p3 f3 => rV_mk (hQ M3 ?_ (frP_tr hfr (frP_tr (b2s f1) (frP_tr (l2s f2) (frP_mono f3 (fun i k z => by unfold chSet; omega)))))))
    obtain ⟨c1, c2, c3, c4, c5, c6, c7, c8, c9⟩ := k2
    have ro : ∀ i k, i ≠ 32 → i ≠ 33 → ¬ (i = 28 ∧ k = 17) → M3 i k = M2 i k := fun i k z1 z2 z3 => f3 i k (by rintro (z | z | z); exact z1 z; exact z2 z; exact z3 z)
    rw [hsP, hsL]
    refine ⟨by rw [ro 28 16 (by decide) (by decide) (by decide)]; exact c6, by omega, hL2, pgF_len _ _ _ _ _ _, fun i y hy => ?_, fun j c hc => ?_, p3⟩
    · rw [ro 30 i (by decide) (by decide) (by omega), ro 31 i (by decide) (by decide) (by omega), ro 34 i (by decide) (by decide) (by omega)]; exact c7 i y hy
    · rw [ro 29 j (by decide) (by decide) (by omega)]
      refine c9 j c ?_
      unfold allB
      rw [hI2.2.1, List.append_nil]; exact hc
  | succ m ih =>
    intro k c MI hk hI hlt heq hD hC hS hT hfr
    have h600 := hD.2.2.2.2.1.2.1
    have hkl : k < ns.length := by omega
    have htle : tle ns ≤ 2000 := by have hp := hD.2.2.2.2.2.2.1; have h15 := hD.2.2.2.2.1.2.2.1; omega
    have hpos : tl ns k ≤ 2000 := Nat.le_trans (tl_le ns (by omega)) htle
    obtain ⟨y, hy⟩ : ∃ y, ns[k]? = some y := ⟨_, List.getElem?_eq_getElem hkl⟩
    rw [nodF] at heq
    obtain ⟨nI, nlt⟩ := nodS_I hw hkl hI hlt
    obtain ⟨h1', h2', h3'⟩ := clsS_I (k := k) hw c.2.1 c.1 c.2.2 hI
    have ek : ((k : Nat) : Int) + 1 = ((k + 1 : Nat) : Int) := by omega
    refine v_X0_compose_46 hbd ?_
    simp only [Int.toNat_natCast]
    rw [hD.2.2.2.2.1.1, ek]
    refine ⟨fun _ => c_closeBlocks hbd hn hW hAt hB hw hw6 hpos hH.2 c.2.1 c.1 c.2.2 MI hI hD hC hS hT (fun M1 k1 s1 t1 f1 => rV_mk ?_), fun z => by omega⟩
    have hD1 := DocC_ln hbd hD f1 chBl_28
    have hA1 := hD1.2.2.2.2.1.2.2.2 k y hy
    have hnod : nodS ns (allX ns) wd k c = opnS ns (allX ns) wd k (clsS ns (allX ns) wd k c.2.1 c.1 c.2.2) := rfl
    obtain ⟨c', hc'⟩ : ∃ c', c' = clsS ns (allX ns) wd k c.2.1 c.1 c.2.2 := ⟨_, rfl⟩
    rw [← hc'] at k1 s1 t1 hnod h1' h2' h3'
    rw [hA1.1]
    unfold opnS at hnod
    rw [ndA_at hy] at hnod
    refine ⟨by omega, fun hk3 => ?_, fun hk3 => ?_⟩
    · rw [if_pos hk3] at hnod
      refine c_takeText hbd hW hD1 hy hk3 hw hw6 k1 h1'.1 (fun M2 k2 f2 => rV_mk ⟨by omega, ?_⟩)
      refine ih (k + 1) (nodS ns (allX ns) wd k c) M2 (by omega) nI nlt heq (DocC_ln hbd hD1 f2 chLn_28) ?_ ?_ ?_ (frP_tr hfr (frP_tr (b2s f1) (l2s f2)))
      · rw [hnod]; exact k2
      · rw [hnod]; exact StkC_fr s1 f2
      · rw [hnod]; exact TogC_fr t1 f2
    · rw [if_neg hk3] at hnod
      refine c_isBlock hbd hn hW hD1 hkl (rI_mk ?_)
      by_cases hb : blkB ns k = true
      · rw [if_pos hb] at hnod ⊢
        refine ⟨fun z => by omega, fun _ => ?_⟩
        have hnk : Nest ns (k :: c'.2.1.map fun q => q.1) := by
          have := nI.2.1
          rw [hnod] at this
          exact this
        refine c_openBlock hbd hW hB hw hw6 hpos h1' hnk hkl hD1 k1 s1 t1 (fun M2 k2 s2 t2 f2 => rV_mk ⟨by omega, ?_⟩)
        refine ih (k + 1) (nodS ns (allX ns) wd k c) M2 (by omega) nI nlt heq (DocC_ln hbd hD1 f2 chBl_28) ?_ ?_ ?_ (frP_tr hfr (frP_tr (b2s f1) (b2s f2)))
        · rw [hnod]; exact k2
        · rw [hnod]; exact s2
        · rw [hnod]; exact t2
      · rw [if_neg hb] at hnod ⊢
        refine ⟨fun _ => ⟨by omega, ?_⟩, fun z => absurd rfl z⟩
        refine ih (k + 1) (nodS ns (allX ns) wd k c) M1 (by omega) nI nlt heq hD1 ?_ ?_ ?_ (frP_tr hfr (b2s f1))
        · rw [hnod]; exact k1
        · rw [hnod]; exact s1
        · rw [hnod]; exact t1
theorem c_set {w h : Int} (hbd : b = 38 ∨ b = 81) (hn : nD ≤ 6000) (hW : ns ≠ [] → WfN ns ∧ AtW ns ∧ NestB ns) (hD : DocC b TD nD N pl D ns [] dp MI ML)
    (hZ : ns = [] ∨ ¬ (1 ≤ w ∧ w ≤ 60) ∨ ¬ (1 ≤ h ∧ h ≤ 50) → Q (some (vI (-9))) (MI, ML, GR b e nw th x))
    (hT : ns ≠ [] → 1 ≤ w ∧ w ≤ 60 → 1 ≤ h ∧ h ≤ 50 → ∀ MI', LinC (setL ns w.toNat) (setP ns w.toNat h.toNat) MI' → frP chSet MI MI' → Q (some (vI ((setL ns w.toNat).length : Nat))) (MI', ML, GR b e nw th x)) :
    wp cs mX11_set KD Q 0 (padL [vR 0, vI w, vI h] 3) [] (KD, MI, ML, GR b e nw th x) := by
  have h16 := hD.2.2.2.2.1.1
  refine v_X11_set_0 hbd ?_
  rw [h16]
  refine ⟨fun h0 => hZ (Or.inl (List.eq_nil_of_length_eq_zero (by omega))), fun h0 => ⟨fun z => hZ (Or.inr (Or.inl (by omega))), fun z1 => ⟨fun z => hZ (Or.inr (Or.inl (by omega))), fun z2 => ⟨fun z => hZ (Or.inr (Or.inr (by omega))), fun z3 => ⟨fun z => hZ (Or.inr (Or.inr (by omega))), fun z4 => ?_⟩⟩⟩⟩⟩
  have hne : ns ≠ [] := fun z => h0 (by rw [z]; rfl)
  have hT' := hT hne ⟨z1, z2⟩ ⟨z3, z4⟩
  obtain ⟨hWf, hAt, hB⟩ := hW hne
  obtain ⟨wN, hwN⟩ : ∃ j : Nat, w = (j : Int) := ⟨w.toNat, by omega⟩
  obtain ⟨hN, hhN⟩ : ∃ j : Nat, h = (j : Int) := ⟨h.toNat, by omega⟩
  rw [hwN, hhN] at hT'
  simp only [Int.toNat_natCast] at hT'
  refine v_X0_compose_0 hbd ?_
  rw [hwN, hhN]
  rintro _ rfl _ rfl _ rfl _ rfl _ rfl _ rfl _ rfl
  refine w_fillI (n := 2000) rfl (by decide) (by decide) (rV_mk ?_)
  obtain ⟨M0, hM0⟩ : ∃ M0, M0 = fl (up2 (up2 (up2 (up2 (up2 (up2 (up2 MI 28 14 (wN : Nat)) 28 15 (hN : Nat)) 28 9 0) 28 10 0) 28 11 0) 28 13 0) 28 16 0) 35 2000 0 := ⟨_, rfl⟩
  rw [← hM0]
  have g28 : ∀ k, M0 28 k = up2 (up2 (up2 (up2 (up2 (up2 (up2 MI 28 14 (wN : Nat)) 28 15 (hN : Nat)) 28 9 0) 28 10 0) 28 11 0) 28 13 0) 28 16 0 28 k := fun k => by rw [hM0]; unfold fl; rw [if_neg (by omega)]
  have e14 : M0 28 14 = (wN : Nat) := by rw [g28]; simp [up2]
  have e15 : M0 28 15 = (hN : Nat) := by rw [g28]; simp [up2]
  have e9 : M0 28 9 = 0 := by rw [g28]; simp [up2]
  have e10 : M0 28 10 = 0 := by rw [g28]; simp [up2]
  have e11 : M0 28 11 = 0 := by rw [g28]; simp [up2]
  have e13 : M0 28 13 = 0 := by rw [g28]; simp [up2]
  have e16 : M0 28 16 = 0 := by rw [g28]; simp [up2]
  have e35 : ∀ i, i < 2000 → M0 35 i = 0 := fun i hi => by rw [hM0]; unfold fl; rw [if_pos ⟨rfl, hi⟩]
  have f0 : frP chSet MI M0 := fun i k hp => by
    unfold chSet at hp
    rw [hM0]; unfold fl; rw [if_neg (by omega), up2_ne (by omega), up2_ne (by omega), up2_ne (by omega), up2_ne (by omega), up2_ne (by omega), up2_ne (by omega), up2_ne (by omega)]
  clear hM0
  refine c_compose_l (OI := MI) (wd := wN) (H := hN) hbd hn hWf hAt hB (by omega) (by omega) (by omega) (fun M1 l1 f1 => rV_mk ?_) ns.length 0 (sm0, [], []) M0 (by omega) ?_ (fun q hq => by cases hq) rfl (DocC_ln hbd hD f0 (fun i k z => z)) ?_ ⟨e9, fun j q hq => by simp at hq⟩ ⟨e15, fun i hi => e35 i hi⟩ f0
  · rw [l1.1]; exact hT' M1 l1 f1
  · refine ⟨⟨by rw [tl_0]; exact Nat.le_refl _, by rw [tl_0]; exact Nat.zero_le _, fun z => absurd z (Nat.lt_irrefl _), Nat.zero_le _, fun y hy => by cases hy⟩, trivial, fun q hq => by cases hq⟩
  · exact ⟨e10, e11, e13, fun z => absurd z (Nat.lt_irrefl _), e14, e16, fun i y hy => by simp [sm0] at hy, fun z => absurd rfl z, fun j c hc => by simp [allB, sm0] at hc⟩
end Pf06
