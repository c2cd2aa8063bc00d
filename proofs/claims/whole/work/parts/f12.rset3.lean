/-! The reference's set, line, at: the calls. -/
section Pf12
variable {cs : Cs} {Q : Option AV → Mm → Prop} {MI ML OI : Nat → Nat → Int} {bk d e nw th x pl : Nat} {TD : Nat → Int} {nD : Int} {D : Dm} {wd H : Nat}
theorem c_rset_l (hW : WfN D.2.1) (hAt : AtW D.2.1) (htle : tle D.2.1 ≤ 2000) (hw : 0 < wd) (hw6 : wd ≤ 60) (hH5 : 1 ≤ H ∧ H ≤ 50)
    (hQ : ∀ MI', LinR D.2.1 (setL D.2.1 wd) (setP D.2.1 wd H) MI' → frP chSR OI MI' → Q (some (vI ((setL D.2.1 wd).length : Nat))) (MI', ML, GR d e nw th x)) :
    ∀ (m k : Nat) (c : SB) (B : List BkT) (MI : Nat → Nat → Int), k + m = D.2.1.length → 0 < k → SbI D.2.1 wd (tl D.2.1 k) c → (∀ q ∈ c.2.1, q.1 < k) → c.2.1.map (fun q => q.1) = uB D.2.1 (inK D.2.1 k) → nodF D.2.1 (allX D.2.1) wd m k c = runS D.2.1 wd → HldR bk TD nD pl D MI ML → ComR D.2.1 (allX D.2.1) wd 0 c.1 MI → BlR B MI → BlI D.2.1 k B c.2.1 c.2.2 → B.length ≤ k → frP chSR OI MI →
    wp cs mX12_set KD Q 71 [some (vR 124), some (vI (wd : Nat)), some (vI (H : Nat)), some (vI (inK D.2.1 k : Nat)), some (vI (k : Nat)), none] [] (KD, MI, ML, GR d e nw th x) := by
  intro m
  induction m with
  | zero =>
    intro k c B MI hk hk0 hI hlt hmap heq hHl hC hB hBI hBl hfr
    have p7 := hHl.1.2.2.2.2.2.2
    have h600 := hHl.1.2.1.2.1
    have hkn : k = D.2.1.length := by omega
    rw [nodF] at heq
    have hpos : tl D.2.1 k ≤ 2000 := Nat.le_trans (tl_le D.2.1 (by omega)) htle
    have hn0 := (List.getElem?_eq_some_iff.mp hW.1).1
    have hil := inK_lt hW hk0 (by omega)
    have hsB : setB D.2.1 wd = clsS D.2.1 (allX D.2.1) wd D.2.1.length c.2.1 c.1 c.2.2 := by unfold setB; rw [← heq]
    obtain ⟨h1', _, _⟩ := clsS_I (k := D.2.1.length) hw c.2.1 c.1 c.2.2 hI
    refine v_X12_set_71 ?_
    rw [hHl.2.1]
    simp only [Int.toNat_natCast]
    rw [hHl.1.2.1.1]
    refine ⟨by omega, fun z => by omega, fun _ => ?_⟩
    refine v_X12_leave_0 (c_rleave (p := 0) (to := 0) (kk := D.2.1.length) (K := k) (pos := tl D.2.1 k) hW hpos hw hw6 hn0 hn0 (by omega) (fun q h1 h2 h3 h4 => ?_) (fun q h1 h2 h3 h4 h5 => ?_) (fun q hq => ?_) (inK D.2.1 k) c.2.1 c.1 c.2.2 B MI hil (by omega) (Nat.zero_le _) (by rw [eS_0 hW]; omega) hmap hI hHl hC hB hBI hBl (fun M1 B1 k1 k2 k3 k4 k5 f1 => rI_mk ?_))
    · exact ⟨fun z => by omega, fun z => by omega⟩
    · exact (eS_le (by omega)).2
    · rw [uB_0] at hq; cases hq
    · rw [← hsB] at k1 k3 k5 h1'
      rw [uB_0] at k5
      have hst : (setB D.2.1 wd).2.1 = [] := by
        cases hh : (setB D.2.1 wd).2.1 with
        | nil => rfl
        | cons a t => rw [hh] at k5; simp at k5
      rw [hst] at k3
      refine c_rendL k1 h1'.1 hW hpos hw hw6 (fun M2 j1 f2 => rV_mk ?_)
      have hB2 := BlR_fr k2 f2 chLR_B
      have hIe := endL_I hw h1'.1
      have hLV := hIe.1.2.2.2.2
      have hL2 : (setL D.2.1 wd).length ≤ 2000 := by
        have h1 := hIe.1.1
        have h2 := sumL_ge hLV
        have : tot (endL (allX D.2.1) wd (setB D.2.1 wd).1) = sumL (endL (allX D.2.1) wd (setB D.2.1 wd).1).1 + (endL (allX D.2.1) wd (setB D.2.1 wd).1).2.1.1.length := rfl
        unfold setL
        omega
      refine c_toPages (L := (setL D.2.1 wd).length) (ks := (setB D.2.1 wd).2.2) (B := B1) hH5 hL2 j1.1 hB2 (by omega) (fun q => ⟨fun hq => ?_, fun hq => ?_⟩) (fun b hb => k3.2.2.2 b hb) (fun M3 p3 f3 => rV_mk ?_)
      · obtain ⟨b, hb, _, b2⟩ := k3.2.1 q hq
        exact ⟨b, hb, b2⟩
      · obtain ⟨b, hb, b2⟩ := hq
        rw [← b2]
        exact (k3.1 b hb).2.1 (by simp)
      · obtain ⟨c1, c2, c3, c4, c5, c6, c7⟩ := j1
        have g : ∀ i k, ¬ (i = 193 ∨ i = 194 ∨ (i = 124 ∧ k = 87)) → M3 i k = M2 i k := fun i k z => f3 i k z
        have g86 : M3 124 86 = ((setL D.2.1 wd).length : Nat) := by rw [g 124 86 (by omega)]; exact c1
        rw [g86]
        refine hQ M3 ⟨g86, hL2, pgF_len _ _ _ _ _ _, fun z hz => ⟨by have := hLV z hz; omega, setL_B hW wd z hz⟩, fun i y hy => ?_, p3⟩ (frP_tr hfr (frP_tr f1 (frP_tr (frP_mono f2 (fun i k z => chLR_191 i k z)) (frP_mono f3 (fun i k z => by unfold chSR; omega)))))
        obtain ⟨⟨a1, a2⟩, a3⟩ := c4 i y hy
        exact ⟨⟨by rw [g 192 _ (by omega)]; exact a1, fun j v hj => by rw [g 191 _ (by omega)]; exact a2 j v hj⟩, by rw [g 195 _ (by omega)]; exact a3⟩
  | succ m ih =>
    intro k c B MI hk hk0 hI hlt hmap heq hHl hC hB hBI hBl hfr
    have p7 := hHl.1.2.2.2.2.2.2
    have h600 := hHl.1.2.1.2.1
    have hkl : k < D.2.1.length := by omega
    have hpos : tl D.2.1 k ≤ 2000 := Nat.le_trans (tl_le D.2.1 (by omega)) htle
    obtain ⟨y, hy⟩ : ∃ y, D.2.1[k]? = some y := ⟨_, List.getElem?_eq_getElem hkl⟩
    have hA := hHl.1.2.1.2.2 k y hy
    have ei : (600 * (bk : Int) + ((k : Nat) : Int)).toNat = 600 * bk + k := by omega
    have ek : ((k : Nat) : Int) + 1 = ((k + 1 : Nat) : Int) := by omega
    obtain ⟨hNv, hu, ⟨pp, hpp, hpk⟩, _⟩ := hW.2 k y hy hk0
    have hil := inK_lt hW hk0 (by omega)
    have hin := inK_in hW hk0 hy
    have hplt : y.2.1.toNat < D.2.1.length := by omega
    have hkup := (in_up hW (k := y.2.1.toNat) hplt hy hk0)
    have hkind : y.1 = 1 ∨ y.1 = 2 ∨ y.1 = 3 := by rcases hNv.1 with w | w | w <;> omega
    rw [nodF] at heq
    obtain ⟨nI, nlt⟩ := nodS_I hw hkl hI hlt
    have eK : inK D.2.1 (k + 1) = if y.1 = 0 ∨ y.1 = 1 then k else y.2.1.toNat := by unfold inK; rw [Nat.add_sub_cancel, ndA_at hy]
    refine v_X12_set_71 ?_
    rw [hHl.2.1]
    simp only [Int.toNat_natCast]
    rw [hHl.1.2.1.1, ei, hA.1, ek]
    refine ⟨by omega, fun _ => ⟨by omega, by omega, by omega, fun h2 => ⟨by omega, ?_⟩, fun h2 => ?_⟩, fun z => by omega⟩
    · -- an attribute
      have hia := inK_at hW hAt hk0 hy h2
      have hne : inK D.2.1 (k + 1) = inK D.2.1 k := by rw [eK, if_neg (by omega), hia]
      have hid : nodS D.2.1 (allX D.2.1) wd k c = c := by
        unfold nodS
        rw [cls_id hW hk0 hy (by rw [hmap, hia])]
        unfold opnS
        have hb : ¬ blkB D.2.1 k = true := by unfold blkB; rw [ndA_at hy]; rw [decide_eq_false (fun z => by omega)]; decide
        rw [ndA_at hy, if_neg (by omega), if_neg hb]
      rw [hid] at nI nlt heq
      have := ih (k + 1) c B MI (by omega) (by omega) nI nlt (by rw [hne]; exact hmap) heq hHl hC hB (BlI_k hBI (by omega)) (by omega) hfr
      rw [hne] at this
      exact this
    · have hst : ∀ q, 0 < q → q < k → y.2.1.toNat ≤ q → q < eS D.2.1 y.2.1.toNat → (q ≤ k ∧ k < eS D.2.1 q ↔ q = y.2.1.toNat) := by
        intro q h1 h2 h3 h4
        rw [in_up hW (k := q) (by omega) hy hk0]
        constructor
        · rintro (z | z) <;> omega
        · intro z; subst z
          have := eS_le hplt
          exact Or.inr ⟨Nat.le_refl _, by omega⟩
      refine v_X12_leave_0 (c_rleave (p := y.2.1.toNat) (to := k) (kk := k) (K := k) (pos := tl D.2.1 k) hW hpos hw hw6 hplt hkl (by omega) hst (fun q h1 h2 h3 h4 h5 => ?_) (fun q hq => ?_) (inK D.2.1 k) c.2.1 c.1 c.2.2 B MI hil (by omega) hin.1 hin.2 hmap hI hHl hC hB hBI hBl (fun M1 B1 k1 k2 k3 k4 k5 f1 => rI_mk ?_))
      · have := hst q h1 h2 h3 h4
        refine Decidable.byContradiction fun w => h5 (this.mp ⟨by omega, by omega⟩)
      · have h3 := uB_in hW _ hplt _ hq
        exact ((in_up hW (k := q) (by omega) hy hk0).mpr (Or.inr h3.2)).2
      · have hH1 := HldR_ln (P := chSR) hHl f1 (fun i k z => z)
        have hA1 := hH1.1.2.1.2.2 k y hy
        have hnod : nodS D.2.1 (allX D.2.1) wd k c = opnS D.2.1 (allX D.2.1) wd k (clsS D.2.1 (allX D.2.1) wd k c.2.1 c.1 c.2.2) := rfl
        obtain ⟨h1', _, _⟩ := clsS_I (k := k) hw c.2.1 c.1 c.2.2 hI
        obtain ⟨c', hc'⟩ : ∃ c', c' = clsS D.2.1 (allX D.2.1) wd k c.2.1 c.1 c.2.2 := ⟨_, rfl⟩
        rw [← hc'] at k1 k3 k5 hnod h1'
        unfold opnS at hnod
        rw [ndA_at hy] at hnod
        rw [hA1.1]
        refine ⟨fun h1 => ?_, fun h1 => ?_⟩
        · rw [if_neg (by omega)] at hnod
          rw [if_pos (Or.inr h1)] at eK
          have hub := uB_s hW hy hk0
          refine c_beginElement (c := c') hW hAt hpos hw hw6 hkl h1'.1 hH1 k1 k2 k3 (by omega) (fun hb => rV_mk ⟨by omega, ?_⟩) (fun hb M2 B2 j1 j2 j3 j4 f2 => rV_mk ⟨by omega, ?_⟩)
          · rw [if_neg hb] at hnod hub
            rw [List.nil_append] at hub
            rw [hnod] at nI nlt heq
            have := ih (k + 1) c' B1 M1 (by omega) (by omega) nI nlt (by rw [eK, hub]; exact k5) heq hH1 k1 k2 (BlI_k k3 (by omega)) (by omega) (frP_tr hfr f1)
            rw [eK] at this
            exact this
          · rw [if_pos hb] at hnod hub
            rw [hnod] at nI nlt heq
            have := ih (k + 1) _ B2 M2 (by omega) (by omega) nI nlt (by rw [eK, hub, List.map_cons, k5]; rfl) heq (HldR_ln (P := chSR) hH1 f2 (fun i k z => z)) j1 j2 j3 j4 (frP_tr hfr (frP_tr f1 f2))
            rw [eK] at this
            exact this
        · have h3 : y.1 = 3 := by omega
          rw [if_pos h3] at hnod
          rw [if_neg (by omega)] at eK
          refine c_setText hH1 hW htle hy h3 hw hw6 k1 h1'.1 (fun M2 j1 f2 => rV_mk ⟨by omega, ?_⟩)
          rw [hnod] at nI nlt heq
          have f2' : frP chSR M1 M2 := frP_mono f2 (fun i k z => by rcases z with z | z; exact chLR_191 i k z; unfold chSR; omega)
          have := ih (k + 1) _ B1 M2 (by omega) (by omega) nI nlt (by rw [eK]; exact k5) heq (HldR_ln (P := chSR) hH1 f2' (fun i k z => z)) j1 (BlR_fr k2 f2 (fun i k z => by rcases z with z | z; exact chLR_B i k z; omega)) (BlI_k k3 (by omega)) (by omega) (frP_tr hfr (frP_tr f1 f2'))
          rw [eK] at this
          exact this
theorem c_rset {w h : Int} (hW : D.2.1 ≠ [] → WfN D.2.1 ∧ AtW D.2.1) (htle : tle D.2.1 ≤ 2000) (hR : RefH D MI ML)
    (hZ : D.2.1 = [] ∨ ¬ (1 ≤ w ∧ w ≤ 60) ∨ ¬ (1 ≤ h ∧ h ≤ 50) → Q (some (vI (-9))) (MI, ML, GR d e nw th x))
    (hT : D.2.1 ≠ [] → 1 ≤ w ∧ w ≤ 60 → 1 ≤ h ∧ h ≤ 50 → ∀ MI', LinR D.2.1 (setL D.2.1 w.toNat) (setP D.2.1 w.toNat h.toNat) MI' → frP chSR MI MI' → Q (some (vI ((setL D.2.1 w.toNat).length : Nat))) (MI', ML, GR d e nw th x))
    (hne : MI 124 9 = 1 → D.2.1 ≠ []) :
    wp cs mX12_set KD Q 0 (padL [vR 124, vI w, vI h] 6) [] (KD, MI, ML, GR d e nw th x) := by
  refine v_X12_set_0 ?_
  rcases hR with ⟨hD, h9⟩ | ⟨h9, bk, T, n, pl, hHl⟩
  · refine ⟨fun _ => hZ (Or.inl (by rw [hD]; rfl)), fun z => absurd h9 z⟩
  · rw [h9]
    refine ⟨fun z => by omega, fun _ => w_X12_in (rI_mk ?_)⟩
    by_cases hw : 1 ≤ w ∧ w ≤ 60
    · rw [bI, if_pos hw]
      refine ⟨fun z => by omega, fun _ => w_X12_in (rI_mk ?_)⟩
      by_cases hh : 1 ≤ h ∧ h ≤ 50
      · rw [bI, if_pos hh]
        refine ⟨fun z => by omega, fun _ => ?_⟩
        have hn := hne h9
        have hT := hT hn hw hh
        obtain ⟨hWf, hAt⟩ := hW hn
        obtain ⟨wN, hwN⟩ : ∃ j : Nat, w = (j : Int) := ⟨w.toNat, by omega⟩
        obtain ⟨hN, hhN⟩ : ∃ j : Nat, h = (j : Int) := ⟨h.toNat, by omega⟩
        rw [hwN, hhN] at hT
        simp only [Int.toNat_natCast] at hT
        rw [hwN, hhN]
        rintro _ rfl _ rfl _ rfl _ rfl _ rfl _ rfl
        obtain ⟨M0, hM0⟩ : ∃ M0, M0 = up2 (up2 (up2 (up2 (up2 (up2 MI 124 100 ((wN : Nat) : Int)) 124 86 0) 192 0 0) 124 99 0) 124 98 0) 124 95 0 := ⟨_, rfl⟩
        rw [← hM0]
        have e100 : M0 124 100 = (wN : Nat) := by rw [hM0]; simp [up2]
        have e86 : M0 124 86 = 0 := by rw [hM0]; simp [up2]
        have e99 : M0 124 99 = 0 := by rw [hM0]; simp [up2]
        have e98 : M0 124 98 = 0 := by rw [hM0]; simp [up2]
        have e95 : M0 124 95 = 0 := by rw [hM0]; simp [up2]
        have e192 : M0 192 0 = 0 := by rw [hM0]; simp [up2]
        have f0 : frP chSR MI M0 := by
          rw [hM0]
          exact frP_tr (frP_up (by unfold chSR; omega)) (frP_tr (frP_up (by unfold chSR; omega)) (frP_tr (frP_up (by unfold chSR; omega)) (frP_tr (frP_up (by unfold chSR; omega)) (frP_tr (frP_up (by unfold chSR; omega)) (frP_up (by unfold chSR; omega))))))
        clear hM0
        have hn0 := (List.getElem?_eq_some_iff.mp hWf.1).1
        have hK1 : inK D.2.1 1 = 0 := by
          unfold inK
          rw [show 1 - 1 = 0 from rfl, ndA_at hWf.1, if_pos (Or.inl rfl)]
        have hnod : nodS D.2.1 (allX D.2.1) wN 0 (sm0, [], []) = (sm0, [], []) := by
          unfold nodS clsS opnS
          have hb : ¬ blkB D.2.1 0 = true := by unfold blkB; rw [ndA_at hWf.1]; decide
          rw [if_neg (by rw [ndA_at hWf.1]; decide), if_neg hb]
        have heq : nodF D.2.1 (allX D.2.1) wN (D.2.1.length - 1) 1 (sm0, [], []) = runS D.2.1 wN := by
          unfold runS
          obtain ⟨j, hj⟩ : ∃ j, D.2.1.length = j + 1 := ⟨D.2.1.length - 1, by omega⟩
          rw [hj, nodF, hnod]; rfl
        have ht1 : tl D.2.1 1 = 0 := by rw [show (1 : Nat) = 0 + 1 from rfl, tl_n3 hWf.1 (by decide), tl_0]
        have := c_rset_l (cs := cs) (Q := Q) (OI := MI) (ML := ML) (d := d) (e := e) (nw := nw) (th := th) (x := x) (bk := bk) (TD := T) (nD := n) (pl := pl) (wd := wN) (H := hN) hWf hAt htle (by omega) (by omega) (by omega) hT (D.2.1.length - 1) 1 (sm0, [], []) [] M0 (by omega) (by omega) ?_ (fun q hq => by cases hq) (by rw [hK1, uB_0]; rfl) heq (HldR_ln (P := chSR) hHl f0 (fun i k z => z)) ?_ ⟨e95, fun j b hb => by simp at hb⟩ ⟨fun b hb => (by cases hb), fun q hq => (by cases hq), fun q hq => (by cases hq), fun b hb => (by cases hb)⟩ (Nat.zero_le _) f0
        · rw [hK1] at this
          exact this
        · rw [ht1]
          exact ⟨⟨Nat.le_refl _, Nat.zero_le _, fun z => absurd z (Nat.lt_irrefl _), Nat.zero_le _, fun y hy => by cases hy⟩, trivial, fun q hq => by cases hq⟩
        · exact ⟨e86, e99, e100, fun i y hy => by simp [sm0] at hy, CurR_0 e192, fun z => absurd rfl z, ⟨e98, fun j hj => absurd hj (Nat.not_lt_zero _)⟩⟩
      · rw [bI, if_neg hh]
        exact ⟨fun _ => hZ (Or.inr (Or.inr hh)), fun z => absurd rfl z⟩
    · rw [bI, if_neg hw]
      exact ⟨fun _ => hZ (Or.inr (Or.inl hw)), fun z => absurd rfl z⟩
theorem c_rline {ns : List Nd} {L : List Ln} {pg : List (Nat × Nat)} {i w : Int} (hL : LinR ns L pg MI) (hQ : Q (some (vI (linS ns L pg i w))) (MI, ML, GR d e nw th x)) :
    wp cs mX12_line KD Q 0 (padL [vR 124, vI i, vI w] 3) [] (KD, MI, ML, GR d e nw th x) := by
  obtain ⟨l1, l2, l3, l4, l5, l6⟩ := hL
  unfold linS at hQ
  refine v_X12_line_0 ?_
  rw [l1]
  refine ⟨by omega, w_X12_in (rI_mk ?_)⟩
  by_cases hi : 0 ≤ i ∧ i ≤ (L.length : Nat) - 1
  · rw [bI, if_pos hi]
    rw [if_pos (by omega)] at hQ
    obtain ⟨j, rfl⟩ : ∃ j : Nat, i = (j : Int) := ⟨i.toNat, by omega⟩
    obtain ⟨y, hy⟩ : ∃ y, L[j]? = some y := ⟨_, List.getElem?_eq_getElem (by omega)⟩
    obtain ⟨q, hq⟩ : ∃ q, pg[j]? = some q := ⟨_, List.getElem?_eq_getElem (by omega)⟩
    have ey : lnA L (j : Int) = y := by unfold lnA; rw [Int.toNat_natCast, List.getD_eq_getElem?_getD, hy]; rfl
    have eq : pgA pg (j : Int) = q := by unfold pgA; rw [Int.toNat_natCast, List.getD_eq_getElem?_getD, hq]; rfl
    rw [ey, eq] at hQ
    obtain ⟨⟨a1, a2⟩, a3⟩ := l5 j y hy
    obtain ⟨b1, b2⟩ := l6.1 j q hq
    simp only [Int.toNat_natCast]
    rw [a1, a3, b1, b2]
    refine ⟨fun z => by omega, fun _ => ⟨fun z => ⟨by omega, ?_⟩, fun z0 => ⟨fun z => ⟨by omega, ?_⟩, fun z1 => ⟨fun z => ⟨by omega, ?_⟩, fun z2 => ⟨fun z => ⟨by omega, ?_⟩, fun z3 => ?_⟩⟩⟩⟩⟩
    · rw [if_pos z] at hQ; exact hQ
    · rw [if_neg z0, if_pos z] at hQ; exact hQ
    · rw [if_neg z0, if_neg z1, if_pos z] at hQ; exact hQ
    · rw [if_neg z0, if_neg z1, if_neg z2, if_pos z] at hQ; exact hQ
    · rw [if_neg z0, if_neg z1, if_neg z2, if_neg z3] at hQ; exact hQ
  · rw [bI, if_neg hi]
    rw [if_neg (by omega)] at hQ
    exact ⟨fun _ => hQ, fun z => absurd rfl z⟩
theorem c_rat {ns : List Nd} {L : List Ln} {pg : List (Nat × Nat)} {i k : Int} (hL : LinR ns L pg MI) (hQ : Q (some (vI (lbS L i k))) (MI, ML, GR d e nw th x)) :
    wp cs mX12_at KD Q 0 (padL [vR 124, vI i, vI k] 3) [] (KD, MI, ML, GR d e nw th x) := by
  obtain ⟨l1, l2, l3, l4, l5, l6⟩ := hL
  unfold lbS at hQ
  refine v_X12_at_0 ?_
  rw [l1]
  refine ⟨by omega, w_X12_in (rI_mk ?_)⟩
  by_cases hi : 0 ≤ i ∧ i ≤ (L.length : Nat) - 1
  · rw [bI, if_pos hi]
    rw [if_pos (by omega)] at hQ
    refine ⟨fun z => by omega, fun _ => ?_⟩
    obtain ⟨j, rfl⟩ : ∃ j : Nat, i = (j : Int) := ⟨i.toNat, by omega⟩
    obtain ⟨y, hy⟩ : ∃ y, L[j]? = some y := ⟨_, List.getElem?_eq_getElem (by omega)⟩
    have ey : lnA L (j : Int) = y := by unfold lnA; rw [Int.toNat_natCast, List.getD_eq_getElem?_getD, hy]; rfl
    rw [ey] at hQ
    unfold byS at hQ
    obtain ⟨⟨a1, a2⟩, a3⟩ := l5 j y hy
    obtain ⟨v1, v2⟩ := l4 y (List.mem_of_getElem? hy)
    simp only [Int.toNat_natCast]
    rw [a1]
    refine ⟨by omega, by omega, w_X12_in (rI_mk ?_)⟩
    by_cases hk : 0 ≤ k ∧ k ≤ (y.1.length : Nat) - 1
    · rw [bI, if_pos hk]
      rw [if_pos (by omega)] at hQ
      refine ⟨fun z => by omega, fun _ => ⟨by omega, by omega, by omega, ?_⟩⟩
      have hkl : k.toNat < y.1.length := by omega
      have := a2 k.toNat y.1[k.toNat] (List.getElem?_eq_getElem hkl)
      rw [show (60 * ((j : Nat) : Int) + k).toNat = 60 * j + k.toNat by omega, this, and255 (v2 _ (List.getElem_mem hkl))]
      rw [List.getD_eq_getElem?_getD, List.getElem?_eq_getElem hkl] at hQ
      exact hQ
    · rw [bI, if_neg hk]
      rw [if_neg (by omega)] at hQ
      exact ⟨fun _ => hQ, fun z => absurd rfl z⟩
  · rw [bI, if_neg hi]
    rw [if_neg (by omega)] at hQ
    exact ⟨fun _ => hQ, fun z => absurd rfl z⟩
end Pf12
