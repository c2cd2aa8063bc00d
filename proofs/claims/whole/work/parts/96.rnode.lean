/-! The reference's NODES. -/
def NdRA (bk : Nat) (T : Nat → Int) (n : Int) (pl : Nat) (MI : Nat → Nat → Int) (kI : Nat) (y : Nd) : Prop :=
  MI 130 kI = y.1 ∧ MI 131 kI = y.2.1 ∧ (MI 133 kI = (y.2.2.1.length : Nat) ∧ (y.1 = 1 ∨ y.1 = 2 → nmR bk T n (MI 132 kI) (MI 133 kI) y.2.2.1)) ∧ (MI 135 kI = (y.2.2.2.1.length : Nat) ∧ (y.1 = 2 ∨ y.1 = 3 → poR bk MI (pl : Nat) (MI 134 kI) (MI 135 kI) y.2.2.2.1)) ∧ MI 136 kI = y.2.2.2.2.1 ∧ MI 137 kI = 1 - y.2.2.2.2.2
def NodR (bk : Nat) (T : Nat → Int) (n : Int) (pl : Nat) (ns : List Nd) (MI : Nat → Nat → Int) : Prop := MI 129 bk = (ns.length : Nat) ∧ ns.length ≤ 600 ∧ ∀ (k : Nat) (y : Nd), ns[k]? = some y → NdRA bk T n pl MI (600 * bk + k) y
/-- the open ELEMENTS, the innermost first -/
def OpnR (op : List Int) (MI : Nat → Nat → Int) : Prop := MI 124 64 = (op.length : Nat) ∧ op.length ≤ 30 ∧ ∀ (j : Nat) (y : Int), op[j]? = some y → MI 173 (op.length - 1 - j) = y
def TreR (bk : Nat) (T : Nat → Int) (n : Int) (pl : Nat) (D : Dt) (t : Tr) (MI ML : Nat → Nat → Int) : Prop := DclR bk T n pl D MI ML ∧ NodR bk T n pl t.1 MI ∧ OpnR t.2.1 MI ∧ MI 140 bk = t.2.2 ∧ MI 139 bk = (pl : Nat) ∧ pl ≤ 2000
def chA (bk pl len i k : Nat) : Prop := (i = 124 ∧ fldR k) ∨ (i = 129 ∧ k = bk) ∨ ((130 ≤ i ∧ i ≤ 137) ∧ 600 * bk + len ≤ k ∧ k < 600 * bk + 600) ∨ (i = 138 ∧ 2000 * bk + pl ≤ k ∧ k < 2000 * bk + 2000) ∨ (i = 139 ∧ k = bk)
theorem chA_fld {bk pl len k : Nat} (h : fldR k) : chA bk pl len 124 k := Or.inl ⟨rfl, h⟩
theorem chA_mono {bk pl len pl' len' i k : Nat} (hp : pl ≤ pl') (hl : len ≤ len') (h : chA bk pl' len' i k) : chA bk pl len i k := by
  rcases h with h | h | h | h | h
  · exact Or.inl h
  · exact Or.inr (Or.inl h)
  · exact Or.inr (Or.inr (Or.inl ⟨h.1, by omega, h.2.2⟩))
  · exact Or.inr (Or.inr (Or.inr (Or.inl ⟨h.1, by omega, h.2.2⟩)))
  · exact Or.inr (Or.inr (Or.inr (Or.inr h)))
theorem inB_chA {bk pl len i k : Nat} (h : chA bk pl len i k) : inB bk i k := by
  rcases h with h | h | h | h | h
  · exact Or.inl ⟨h.1, Or.inl h.2⟩
  · refine Or.inr (Or.inr ⟨by omega, by omega, by omega, ?_⟩)
    rw [h.1, show wR 129 = 1 by decide]; omega
  · refine Or.inr (Or.inr ⟨by omega, by omega, by omega, ?_⟩)
    have : wR i = 600 := by unfold wR; rw [if_neg (by omega), if_pos (by omega)]
    rw [this]; omega
  · refine Or.inr (Or.inr ⟨by omega, by omega, by omega, ?_⟩)
    rw [h.1, show wR 138 = 2000 by decide]; omega
  · refine Or.inr (Or.inr ⟨by omega, by omega, by omega, ?_⟩)
    rw [h.1, show wR 139 = 1 by decide]; omega
theorem chA_V {bk pl len i k : Nat} (h : chV bk pl i k) : chA bk pl len i k := by
  rcases h with h | h | h
  · exact Or.inl h
  · exact Or.inr (Or.inr (Or.inr (Or.inl h)))
  · exact Or.inr (Or.inr (Or.inr (Or.inr h)))
theorem NdRA_fr {bk pl pl' : Nat} {T : Nat → Int} {n : Int} {MI MI' : Nat → Nat → Int} {kI : Nat} {y : Nd} (h : NdRA bk T n pl MI kI y) (h1 : ∀ i, 130 ≤ i → i ≤ 137 → MI' i kI = MI i kI) (h3 : ∀ k : Nat, k < pl → MI' 138 (2000 * bk + k) = MI 138 (2000 * bk + k)) (hp : pl ≤ pl') : NdRA bk T n pl' MI' kI y := by
  obtain ⟨c1, c2, c3, c4, c5, c6⟩ := h
  unfold NdRA
  rw [h1 130 (by omega) (by omega), h1 131 (by omega) (by omega), h1 132 (by omega) (by omega), h1 133 (by omega) (by omega), h1 134 (by omega) (by omega), h1 135 (by omega) (by omega), h1 136 (by omega) (by omega), h1 137 (by omega) (by omega)]
  exact ⟨c1, c2, c3, ⟨c4.1, fun z => poR_grow (c4.2 z) (fun k hk => h3 k (by omega)) (by omega)⟩, c5, c6⟩
theorem OpnR_fr {op : List Int} {MI MI' : Nat → Nat → Int} (h : OpnR op MI) (h1 : MI' 124 64 = MI 124 64) (h2 : MI' 173 = MI 173) : OpnR op MI' := ⟨by rw [h1]; exact h.1, h.2.1, by rw [h2]; exact h.2.2⟩
/-- a fresh NODE -/
def NewA (MI : Nat → Nat → Int) (kI : Nat) (kd up : Int) : Prop := MI 130 kI = kd ∧ MI 131 kI = up ∧ MI 133 kI = 0 ∧ MI 135 kI = 0 ∧ MI 136 kI = 0 ∧ MI 137 kI = 1
section P96
variable {cs : Cs} {Q : Option AV → Mm → Prop} {MI ML OI OL : Nat → Nat → Int} {bk d e nw th x pl : Nat} {T : Nat → Int} {n B : Int} {s : PR Int} {D : Dt} {ns : List Nd}
theorem OpnR_mvr {op : List Int} {MI' : Nat → Nat → Int} (h : OpnR op MI) (m : mvr MI MI') : OpnR op MI' := OpnR_fr h (m.2 64 (by decide) (by decide) (by decide) (by decide) (by decide)) (m.1 173 (by decide))
theorem DclR_mvr {MI' : Nat → Nat → Int} (h : DclR bk T n pl D MI ML) (m : mvr MI MI') : DclR bk T n pl D MI' ML := DclR_fr h (fun i hi => ⟨m.1 i (by omega), rfl⟩) (fun k _ => by rw [m.1 138 (by decide)]) (Nat.le_refl _)
theorem NodR_mvr {MI' : Nat → Nat → Int} (h : NodR bk T n pl ns MI) (m : mvr MI MI') : NodR bk T n pl ns MI' := ⟨by rw [m.1 129 (by decide)]; exact h.1, h.2.1, fun k y hy => NdRA_fr (h.2.2 k y hy) (fun i a b => by rw [m.1 i (by omega)]) (fun k _ => by rw [m.1 138 (by decide)]) (Nat.le_refl _)⟩
theorem TreR_mvr {t : Tr} {MI' : Nat → Nat → Int} (h : TreR bk T n pl D t MI ML) (m : mvr MI MI') : TreR bk T n pl D t MI' ML := ⟨DclR_mvr h.1 m, NodR_mvr h.2.1 m, OpnR_mvr h.2.2.1 m, by rw [m.1 140 (by decide)]; exact h.2.2.2.1, by rw [m.1 139 (by decide)]; exact h.2.2.2.2.1, h.2.2.2.2.2⟩
theorem ux_newNode {kd w : Int} {len : Nat} {op : List Int} (hs : StR bk T n OI OL B s MI ML) (h129 : MI 129 bk = (len : Nat)) (hlen : len ≤ 600) (hop : OpnR op MI)
    (hT : ∀ a MI', s = .inr a → len < 600 → StR bk T n OI OL B (.inr a) MI' ML → frX (chA bk pl len) MI ML MI' ML → MI' 124 = MI 124 → MI' 138 = MI 138 → MI' 139 = MI 139 → MI' 129 bk = ((len + 1 : Nat) : Int) → NewA MI' (600 * bk + len) kd (if op = [] then (if kd = 0 then -1 else 0) else op.headD 0) → Q (some (vI (len : Nat))) (MI', ML, GR d e nw th x))
    (hF : ∀ f p MI', (pb s fun a => if 600 ≤ len then (.inl (-3, w) : PR Int) else .inr a) = .inl (f, p) → StR bk T n OI OL B (.inl (f, p)) MI' ML → mvr MI MI' → Q (some (vI (-1))) (MI', ML, GR d e nw th x)) :
    wp cs mX12_newNode KD Q 0 (padL [vR 124, vI kd, vI w] 4) [] (KD, MI, ML, GR d e nw th x) := by
  have a5 := hs.1.2.2.2.2.1
  have bad29 : ∀ f p MI1, StR bk T n OI OL B (.inl (f, p)) MI1 ML → Q (some (vI (-1))) (MI1, ML, GR d e nw th x) → wp cs mX12_newNode KD Q 29 [some (vR 124), some (vI kd), some (vI w), none] [] (KD, MI1, ML, GR d e nw th x) := fun f p MI1 s1 hq => v_X12_newNode_29 (ux_isGood s1 (fun _ z => by cases z) (fun _ _ _ => rI_mk ⟨fun _ => hq, fun z => absurd rfl z⟩))
  rcases s with ⟨f, p⟩ | a
  · exact v_X12_newNode_0 (ux_isGood hs (fun _ z => by cases z) (fun f' q' z => rI_mk ⟨fun _ => bad29 f p MI hs (hF f p MI rfl hs (mvr_rfl _)), fun z => absurd rfl z⟩))
  refine v_X12_newNode_0 (ux_isGood hs (fun _ _ => rI_mk ⟨fun z => by omega, fun _ => ?_⟩) (fun f q z => by cases z))
  have e8 : MI 124 8 = (bk : Int) := hs.1.2.2.2.1
  rw [e8]
  simp only [Int.toNat_natCast]
  rw [h129]
  refine ⟨by omega, fun h6 => ?_, fun h6 => ?_⟩
  · refine ux_fail (by decide) hs (fun MI1 s1 m1 => rV_mk (bad29 _ _ MI1 s1 (hF (-3) w MI1 ?_ s1 m1)))
    rw [pb_r, if_pos (by omega)]
  refine v_X12_newNode_29 (ux_isGood hs (fun _ _ => rI_mk ⟨fun z => by omega, fun _ => ?_⟩) (fun f q z => by cases z))
  rw [e8]
  simp only [Int.toNat_natCast]
  rw [h129]
  have ei : (600 * (bk : Int) + ((len : Nat) : Int)).toNat = 600 * bk + len := by omega
  obtain ⟨kI, hkI⟩ : ∃ kI, kI = 600 * bk + len := ⟨_, rfl⟩
  rw [ei, ← hkI]
  refine ⟨by omega, by omega, by omega, by omega, fun m63 e63 => ?_⟩
  have r63 : ∀ i, i ≠ 130 → m63 i = MI i := fun i hi => by rw [e63]; funext k; exact up2_ne hi k
  have c13 : ∀ i, 130 ≤ i → i ≤ 137 → chA bk pl len i kI := fun i h1 h2 => Or.inr (Or.inr (Or.inl ⟨⟨h1, h2⟩, by omega, by omega⟩))
  have go : ∀ U : Int, U = (if op = [] then (if kd = 0 then -1 else 0) else op.headD 0) → wp cs mX12_newNode KD Q 99 [some (vR 124), some (vI kd), some (vI w), some (vI (600 * (bk : Int) + ((len : Nat) : Int)))] [vI U, vI (600 * (bk : Int) + ((len : Nat) : Int)), vR 131] (KD, m63, ML, GR d e nw th x) := by
    intro U hU
    refine v_X12_newNode_99 ?_
    rw [ei, ← hkI]
    refine ⟨by omega, fun m99 e99 => ⟨by omega, fun m106 e106 m113 e113 m120 e120 m127 e127 m134 e134 m141 e141 => ?_⟩⟩
    have r141 : ∀ i, ¬ (131 ≤ i ∧ i ≤ 137) → m141 i = m63 i := fun i h => by rw [e141, e134, e127, e120, e113, e106, e99]; funext k; rw [up2_ne (by omega), up2_ne (by omega), up2_ne (by omega), up2_ne (by omega), up2_ne (by omega), up2_ne (by omega), up2_ne (by omega)]
    have k8 : m141 124 8 = (bk : Int) := by rw [r141 124 (by omega), r63 124 (by decide)]; exact e8
    have k129 : m141 129 bk = (len : Nat) := by rw [r141 129 (by omega), r63 129 (by decide)]; exact h129
    rw [k8]
    simp only [Int.toNat_natCast]
    rw [k129]
    refine ⟨by omega, by omega, fun m154 e154 => ?_⟩
    have j8 : m154 124 8 = (bk : Int) := by rw [e154, up2_ne (by decide)]; exact k8
    rw [j8]
    simp only [Int.toNat_natCast]
    have j129 : m154 129 bk = ((len : Nat) : Int) + 1 := by rw [e154, up2_eq]
    rw [j129]
    refine ⟨by omega, by omega, ?_⟩
    rw [show ((len : Nat) : Int) + 1 - 1 = (len : Nat) by omega]
    have r : ∀ i, ¬ (129 ≤ i ∧ i ≤ 137) → m154 i = MI i := fun i h => by rw [e154]; funext k; rw [up2_ne (by omega), r141 i (by omega), r63 i (by omega)]
    have fX : frX (chA bk pl len) MI ML m154 ML := by
      rw [e154, e141, e134, e127, e120, e113, e106, e99, e63]
      exact frX_tr (frX_tr (frX_tr (frX_tr (frX_tr (frX_tr (frX_tr (frX_tr (frX_upI (c13 130 (by omega) (by omega))) (frX_upI (c13 131 (by omega) (by omega)))) (frX_upI (c13 132 (by omega) (by omega)))) (frX_upI (c13 133 (by omega) (by omega)))) (frX_upI (c13 134 (by omega) (by omega)))) (frX_upI (c13 135 (by omega) (by omega)))) (frX_upI (c13 136 (by omega) (by omega)))) (frX_upI (c13 137 (by omega) (by omega)))) (frX_upI (Or.inr (Or.inl ⟨rfl, rfl⟩)))
    have r1 := r 124 (by omega)
    refine hT a m154 rfl (by omega) (StR_frX (fun i k z => inB_chA z) hs fX (by rw [r1]) (by rw [r1]) (by rw [r1])) fX r1 (r 138 (by omega)) (r 139 (by omega)) (by rw [j129]; omega) ?_
    rw [← hkI]
    refine ⟨?_, ?_, ?_, ?_, ?_, ?_⟩
    · rw [e154, up2_ne (by decide), r141 130 (by omega), e63, up2_eq]
    · rw [e154, up2_ne (by decide), e141, up2_ne (by decide), e134, up2_ne (by decide), e127, up2_ne (by decide), e120, up2_ne (by decide), e113, up2_ne (by decide), e106, up2_ne (by decide), e99, up2_eq]; exact hU
    · rw [e154, up2_ne (by decide), e141, up2_ne (by decide), e134, up2_ne (by decide), e127, up2_ne (by decide), e120, up2_ne (by decide), e113, up2_eq]
    · rw [e154, up2_ne (by decide), e141, up2_ne (by decide), e134, up2_ne (by decide), e127, up2_eq]
    · rw [e154, up2_ne (by decide), e141, up2_ne (by decide), e134, up2_eq]
    · rw [e154, up2_ne (by decide), e141, up2_eq]
  have q64 : m63 124 64 = (op.length : Nat) := by rw [r63 124 (by decide)]; exact hop.1
  have h30 := hop.2.1
  rw [q64, r63 173 (by decide)]
  refine ⟨fun h0 => ?_, fun h0 => ⟨by omega, by omega, go _ ?_⟩⟩
  · have hnil : op = [] := List.eq_nil_of_length_eq_zero (by omega)
    exact ⟨fun hk => go _ (by rw [if_pos hnil, if_pos hk]), fun hk => go _ (by rw [if_pos hnil, if_neg hk])⟩
  · cases op with
    | nil => exact absurd rfl h0
    | cons c op =>
      rw [if_neg (by simp)]
      have := hop.2.2 0 c rfl
      simp only [List.length_cons, List.headD_cons] at this ⊢
      rw [← this]; congr 1; omega
theorem hasA_app (ns : List Nd) (y : Nd) (e : Int) (a : By) : hasA (ns ++ [y]) e a = (hasA ns e a || (decide (y.1 = 2) && decide (y.2.1 = e) && decide (y.2.2.1 = a))) := by simp [hasA]
theorem c_hasAttr_l {F L ec : Int} {a : By} (e8 : MI 124 8 = (bk : Int)) (hb : bk ≤ 1) (hn : n ≤ 6000) (htx : ∀ k : Nat, (k : Int) < n → MI 128 (6000 * bk + k) = T k) (hR : NodR bk T n pl ns MI) (ha : nmR bk T n F L a)
    (hQ : Q (some (vI (if hasA ns ec a = true then 1 else 0))) (MI, ML, GR d e nw th x)) :
    ∀ (u pre : List Nd), pre ++ u = ns → wp cs mX12_hasAttribute KD Q 15 [some (vR 124), some (vI ec), some (vI F), some (vI L), some (vI (if hasA pre ec a = true then 1 else 0)), some (vI ((600 * bk + pre.length : Nat) : Int))] [] (KD, MI, ML, GR d e nw th x) := by
  intro u
  induction u with
  | nil =>
    intro pre hp
    rw [List.append_nil] at hp
    subst hp
    have hl := hR.2.1
    refine v_X12_hasAttribute_15 ?_
    rw [e8]
    simp only [Int.toNat_natCast]
    rw [hR.1]
    exact ⟨by omega, by omega, by omega, fun z => by omega, fun _ => ⟨by split <;> simp, hQ⟩⟩
  | cons q u ih =>
    intro pre hp
    have hl := hR.2.1
    have hlen : pre.length < ns.length := by rw [← hp]; simp
    have hq : ns[pre.length]? = some q := by rw [← hp]; simp
    obtain ⟨r1, r2, r3, -⟩ := hR.2.2 pre.length q hq
    have hp' : (pre ++ [q]) ++ u = ns := by rw [List.append_assoc]; exact hp
    have el : ((600 * bk + pre.length : Nat) : Int) + 1 = ((600 * bk + (pre ++ [q]).length : Nat) : Int) := by rw [List.length_append, List.length_singleton]; omega
    have nxt := ih (pre ++ [q]) hp'
    rw [hasA_app] at nxt
    refine v_X12_hasAttribute_15 ?_
    rw [e8]
    simp only [Int.toNat_natCast]
    rw [hR.1, r1, r2, el]
    refine ⟨by omega, by omega, by omega, fun _ => ⟨fun z0 => ⟨by omega, fun h2 => ⟨fun he => ?_, fun he => ⟨by omega, ?_⟩⟩, fun h2 => ⟨by omega, ?_⟩⟩, fun z1 => ⟨by omega, ?_⟩⟩, fun z => by omega⟩
    · have hf : hasA pre ec a = false := by
        cases hh : hasA pre ec a with
        | false => rfl
        | true => rw [hh, if_pos rfl] at z0; omega
      refine c_isSame hb hn htx (r3.2 (Or.inr h2)) ha (fun r hr => rI_mk ⟨fun z => ⟨by omega, ?_⟩, fun z => ⟨by omega, ?_⟩⟩)
      · have hne : q.2.2.1 ≠ a := fun w => by rw [if_pos w] at hr; omega
        rw [hf, decide_eq_false hne, Bool.and_false] at nxt
        exact nxt
      · have heq : q.2.2.1 = a := Decidable.byContradiction fun w => by rw [if_neg w] at hr; exact z hr
        rw [hf, decide_eq_true h2, decide_eq_true he, decide_eq_true heq] at nxt
        exact nxt
    · have hf : hasA pre ec a = false := by
        cases hh : hasA pre ec a with
        | false => rfl
        | true => rw [hh, if_pos rfl] at z0; omega
      rw [hf, decide_eq_false he, Bool.and_false, Bool.false_and] at nxt
      exact nxt
    · have hf : hasA pre ec a = false := by
        cases hh : hasA pre ec a with
        | false => rfl
        | true => rw [hh, if_pos rfl] at z0; omega
      rw [hf, decide_eq_false h2, Bool.false_and, Bool.false_and] at nxt
      exact nxt
    · have ht : hasA pre ec a = true := by
        cases hh : hasA pre ec a with
        | true => rfl
        | false => rw [hh] at z1; exact absurd rfl z1
      rw [ht, Bool.true_or] at nxt
      exact nxt
theorem hasA_take {a : By} {ec : Nat} (hE : ∀ (j : Nat) (y : Nd), ns[j]? = some y → y.2.1 < (j : Int)) (k : Nat) (hk : k ≤ ec) : hasA (ns.take k) (ec : Int) a = false ∧ cntA (ns.take k) (ec : Int) = 0 := by
  have key : ∀ y ∈ ns.take k, y.2.1 ≠ (ec : Int) := fun y hy => by
    obtain ⟨j, hj⟩ := List.getElem?_of_mem hy
    rw [List.getElem?_take] at hj
    split at hj
    · have := hE j y hj; omega
    · cases hj
  refine ⟨hasA_false.mpr (fun y hy _ h => absurd h (key y hy)), ?_⟩
  unfold cntA
  rw [List.length_eq_zero_iff, List.filter_eq_nil_iff]
  intro y hy
  simp [key y hy]
theorem c_hasAttr {F L : Int} {ec : Nat} {a : By} (hs : StR bk T n OI OL B s MI ML) (hE : ∀ (j : Nat) (y : Nd), ns[j]? = some y → y.2.1 < (j : Int)) (he : ec ≤ ns.length) (hR : NodR bk T n pl ns MI) (ha : nmR bk T n F L a)
    (hQ : Q (some (vI (if hasA ns (ec : Int) a = true then 1 else 0))) (MI, ML, GR d e nw th x)) :
    wp cs mX12_hasAttribute KD Q 0 (padL [vR 124, vI (ec : Nat), vI F, vI L] 6) [] (KD, MI, ML, GR d e nw th x) := by
  obtain ⟨a1, a2, a3, a4, a5, a6, a7⟩ := hs.1
  have h6 := hR.2.1
  have := c_hasAttr_l (cs := cs) (d := d) (e := e) (nw := nw) (th := th) (x := x) (ML := ML) a4 a5 a3.2 a6 hR ha hQ (ns.drop ec) (ns.take ec) (List.take_append_drop _ _)
  rw [(hasA_take hE ec (Nat.le_refl _)).1, List.length_take, Nat.min_eq_left he, if_neg (by decide)] at this
  refine v_X12_hasAttribute_0 ?_
  rw [a4]
  refine ⟨by omega, by omega, ?_⟩
  rw [show 600 * (bk : Int) + ((ec : Nat) : Int) = ((600 * bk + ec : Nat) : Int) by omega]
  exact this
theorem c_attrsOf_l {ec : Int} (e8 : MI 124 8 = (bk : Int)) (hb : bk ≤ 1) (hR : NodR bk T n pl ns MI)
    (hQ : Q (some (vI (cntA ns ec : Nat))) (MI, ML, GR d e nw th x)) :
    ∀ (u pre : List Nd), pre ++ u = ns → wp cs mX12_attributesOf KD Q 13 [some (vR 124), some (vI ec), some (vI (cntA pre ec : Nat)), some (vI ((600 * bk + pre.length : Nat) : Int))] [] (KD, MI, ML, GR d e nw th x) := by
  intro u
  induction u with
  | nil =>
    intro pre hp
    rw [List.append_nil] at hp
    subst hp
    have hl := hR.2.1
    refine v_X12_attributesOf_13 ?_
    rw [e8]
    simp only [Int.toNat_natCast]
    rw [hR.1]
    exact ⟨by omega, by omega, by omega, fun z => by omega, fun _ => hQ⟩
  | cons q u ih =>
    intro pre hp
    have hl := hR.2.1
    have hlen : pre.length < ns.length := by rw [← hp]; simp
    have hq : ns[pre.length]? = some q := by rw [← hp]; simp
    obtain ⟨r1, r2, r3, -⟩ := hR.2.2 pre.length q hq
    have hp' : (pre ++ [q]) ++ u = ns := by rw [List.append_assoc]; exact hp
    have el : ((600 * bk + pre.length : Nat) : Int) + 1 = ((600 * bk + (pre ++ [q]).length : Nat) : Int) := by rw [List.length_append, List.length_singleton]; omega
    have nxt := ih (pre ++ [q]) hp'
    have hc := (cnt_le pre ec).1
    rw [cntA_app] at nxt
    refine v_X12_attributesOf_13 ?_
    rw [e8]
    simp only [Int.toNat_natCast]
    rw [hR.1, r1, r2, el]
    refine ⟨by omega, by omega, by omega, fun _ => ⟨by omega, fun h2 => ⟨fun he => ⟨by omega, by omega, ?_⟩, fun he => ⟨by omega, ?_⟩⟩, fun h2 => ⟨by omega, ?_⟩⟩, fun z => by omega⟩
    · rw [if_pos ⟨h2, he⟩] at nxt; exact nxt
    · rw [if_neg (fun z => he z.2)] at nxt; exact nxt
    · rw [if_neg (fun z => h2 z.1)] at nxt; exact nxt
theorem c_attrsOf {ec : Nat} (hs : StR bk T n OI OL B s MI ML) (hE : ∀ (j : Nat) (y : Nd), ns[j]? = some y → y.2.1 < (j : Int)) (he : ec ≤ ns.length) (hR : NodR bk T n pl ns MI)
    (hQ : Q (some (vI (cntA ns (ec : Int) : Nat))) (MI, ML, GR d e nw th x)) :
    wp cs mX12_attributesOf KD Q 0 (padL [vR 124, vI (ec : Nat)] 4) [] (KD, MI, ML, GR d e nw th x) := by
  obtain ⟨a1, a2, a3, a4, a5, a6, a7⟩ := hs.1
  have h6 := hR.2.1
  have := c_attrsOf_l (cs := cs) (d := d) (e := e) (nw := nw) (th := th) (x := x) (ML := ML) a4 a5 hR hQ (ns.drop ec) (ns.take ec) (List.take_append_drop _ _)
  rw [(hasA_take (a := []) hE ec (Nat.le_refl _)).2, List.length_take, Nat.min_eq_left he] at this
  refine v_X12_attributesOf_0 ?_
  rw [a4]
  refine ⟨by omega, by omega, ?_⟩
  rw [show 600 * (bk : Int) + ((ec : Nat) : Int) = ((600 * bk + ec : Nat) : Int) by omega]
  exact this
end P96
