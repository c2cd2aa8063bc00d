/-! THE MODEL of a selection; the class's row. -/
def ndA (ns : List Nd) (i : Nat) : Nd := ns.getD i (0, 0, [], [], 0, 0)
theorem ndA_at {ns : List Nd} {i : Nat} {y : Nd} (h : ns[i]? = some y) : ndA ns i = y := by unfold ndA; rw [List.getD_eq_getElem?_getD, h]; rfl
def quB (ns : List Nd) (c : Nat) : Option By → Bool
  | none => true
  | some v => decide (stS ns c (ndA ns c) = v)
def nmB (o : Option By) (y : By) : Bool := match o with
  | none => true
  | some x => decide (y = x)
def leadB (ns : List Nd) (s : StM) (k to : Nat) : Bool :=
  if s.1 = 0 then decide (to = k) else if s.1 = 1 then decide ((ndA ns k).2.1 = (to : Int)) else if s.1 = 2 then decide ((ndA ns to).2.1 = (k : Int) ∧ (ndA ns to).1 = 3)
  else if s.1 = 3 then decide ((ndA ns to).2.1 = (k : Int) ∧ (ndA ns to).1 = 2) && nmB s.2.2.1 (ndA ns to).2.2.1 else decide ((ndA ns to).2.1 = (k : Int) ∧ (ndA ns to).1 = 1) && nmB s.2.2.1 (ndA ns to).2.2.1
def leadL (ns : List Nd) (s : StM) (k : Nat) : List Nat := (List.range ns.length).filter (leadB ns s k)
def pasB (ns : List Nd) (q : BrM) (k : Nat) : Bool := if q.1 = 2 then quB ns k q.2.2.2
  else (List.range ns.length).any fun c => decide ((ndA ns c).2.1 = (k : Int) ∧ (ndA ns c).1 = (if q.1 = 3 then 2 else 1) ∧ (ndA ns c).2.2.1 = q.2.2.1) && quB ns c q.2.2.2
def sfP (ns : List Nd) (q : BrM) (m i a : Nat) : Bool := if q.1 = 0 then decide ((i : Int) + 1 = q.2.1) else if q.1 = 1 then decide (i + 1 = m) else pasB ns q a
def sfF (p : Nat → Nat → Bool) : Nat → List Nat → List Nat
  | _, [] => []
  | i, a :: t => if p i a = true then a :: sfF p (i + 1) t else sfF p (i + 1) t
def siftL (ns : List Nd) (q : BrM) (l : List Nat) : List Nat := sfF (sfP ns q l.length) 0 l
def sftL (ns : List Nd) (bs : List BrM) (l : List Nat) : List Nat := bs.foldl (fun l q => siftL ns q l) l
def sprS (ns : List Nd) (S : Nat → Bool) : Nat → Bool := fun k => S k || (decide ((ndA ns k).1 = 1) && (List.range k).any fun p => S p && decide (k < eS ns p))
def stpS (ns : List Nd) (s : StM) (S : Nat → Bool) : Nat → Bool := fun to => (List.range ns.length).any fun k => S k && decide (to ∈ sftL ns s.2.2.2 (leadL ns s k))
def goS (ns : List Nd) (s : StM) (S : Nat → Bool) : Nat → Bool := stpS ns s (if s.2.1 = true then sprS ns S else S)
def selS (ns : List Nd) (fr : Bool) (l : List StM) (k : Nat) : List Nat := (List.range ns.length).filter (l.foldl (fun S s => goS ns s S) (fun i => decide (i = if fr = true then 0 else k)))
theorem sfF_sub (p : Nat → Nat → Bool) : ∀ (i : Nat) (l : List Nat) (a : Nat), a ∈ sfF p i l → a ∈ l
  | _, [], a, h => by simp [sfF] at h
  | i, c :: t, a, h => by
    unfold sfF at h
    split at h
    · rcases List.mem_cons.mp h with z | z
      · subst z; exact List.mem_cons_self
      · exact List.mem_cons_of_mem _ (sfF_sub p (i + 1) t a z)
    · exact List.mem_cons_of_mem _ (sfF_sub p (i + 1) t a h)
theorem sfF_len (p : Nat → Nat → Bool) : ∀ (i : Nat) (l : List Nat), (sfF p i l).length ≤ l.length
  | _, [] => Nat.le_refl _
  | i, c :: t => by
    unfold sfF
    have := sfF_len p (i + 1) t
    split <;> simp <;> omega
theorem sfF_app (p : Nat → Nat → Bool) (a : Nat) : ∀ (i : Nat) (l : List Nat), sfF p i (l ++ [a]) = sfF p i l ++ (if p (i + l.length) a = true then [a] else [])
  | i, [] => by simp [sfF]
  | i, c :: t => by
    rw [List.cons_append, sfF, sfF_app p a (i + 1) t, sfF]
    rw [show i + (c :: t).length = i + 1 + t.length by simp; omega]
    split <;> simp
theorem rg_cons {c n : Nat} (h : c < n) : List.range' c (n - c) = c :: List.range' (c + 1) (n - (c + 1)) := by
  rw [show n - c = (n - (c + 1)) + 1 by omega, List.range'_succ]
theorem rg_skip {P : Nat → Bool} {n : Nat} : ∀ (m c : Nat), c + m ≤ n → (∀ i, c ≤ i → i < c + m → P i = false) → (List.range' c (n - c)).filter P = (List.range' (c + m) (n - (c + m))).filter P
  | 0, c, _, _ => rfl
  | m + 1, c, h1, h2 => by
    rw [rg_cons (by omega), List.filter_cons_of_neg (by rw [h2 c (by omega) (by omega)]; decide), rg_skip m (c + 1) (by omega) (fun i a1 a2 => h2 i (by omega) (by omega)), show c + 1 + m = c + (m + 1) by omega]
theorem rg_nil {P : Nat → Bool} {c n : Nat} (h : ∀ i, c ≤ i → i < n → P i = false) : (List.range' c (n - c)).filter P = [] := by
  rw [List.filter_eq_nil_iff]
  intro a ha
  rw [List.mem_range'] at ha
  obtain ⟨i, h1, h2⟩ := ha
  rw [h a (by omega) (by omega)]; decide
theorem rg_0 (n : Nat) : List.range n = List.range' 0 (n - 0) := by rw [List.range_eq_range']; rfl
/-- the row -/
def RowC (l : List Nat) (MI : Nat → Nat → Int) : Prop := MI 23 5 = (l.length : Nat) ∧ ∀ (i a : Nat), l[i]? = some a → MI 27 i = (a : Int)
def chRw (i k : Nat) : Prop := i = 27 ∨ (i = 23 ∧ k = 5)
section Pd05
variable {cs : Cs} {Q : Option AV → Mm → Prop} {MI ML OI : Nat → Nat → Int} {b d e nw th pl : Nat} {T TD : Nat → Int} {n nD : Int} {N : List By} {D : Dt} {ns : List Nd} {dp : Int}
theorem c_push {a : Nat} {l : List Nat} (hl : l.length < 600) (hR : RowC l MI) (hQ : ∀ MI', RowC (l ++ [a]) MI' → frP chRw MI MI' → (∀ j, j ≠ l.length → MI' 27 j = MI 27 j) → Q none (MI', ML, GR d e nw th 1)) :
    wp cs mX8_push KD Q 0 (padL [vR 23, vI (a : Nat)] 2) [] (KD, MI, ML, GR d e nw th 1) := by
  refine v_X8_push_0 ?_
  rw [hR.1]
  refine ⟨fun _ => ⟨by omega, ?_⟩, fun z => by omega⟩
  simp only [Int.toNat_natCast]
  rintro _ rfl
  rw [up2_ne (by decide), hR.1]
  refine ⟨by omega, ?_⟩
  rintro _ rfl
  refine hQ _ ⟨by rw [up2_eq]; simp, fun i c hc => ?_⟩ (frP_tr (frP_up (Or.inl rfl)) (frP_up (Or.inr ⟨rfl, rfl⟩))) (fun j hj => by rw [up2_ne (by decide), up2_nk hj])
  rw [up2_ne (by decide)]
  by_cases hi : i < l.length
  · rw [List.getElem?_append_left hi] at hc
    rw [up2_nk (by omega)]; exact hR.2 i c hc
  · have ht2 := (List.getElem?_eq_some_iff.mp hc).1
    simp only [List.length_append, List.length_singleton] at ht2
    have ht3 : i = l.length := by omega
    subst ht3
    rw [List.getElem?_append_right (Nat.le_refl _)] at hc
    simp at hc
    subst hc
    exact up2_eq
theorem DocC_rw {MI' : Nat → Nat → Int} (hbd : b = 38 ∨ b = 81) (hD : DocC b TD nD N pl D ns [] dp MI ML) (hf : frP chRw MI MI') : DocC b TD nD N pl D ns [] dp MI' ML :=
  DocC_fr hD (fun i h1 h2 => frP_row hf (fun k z => by unfold chRw at z; omega)) (fun _ _ _ => rfl)
theorem end_at {k : Nat} {y : Nd} (hD : DocC b TD nD N pl D ns [] dp MI ML) (hW : WfN ns) (hy : ns[k]? = some y) : MI (b + 38) k = (eS ns k : Nat) := by
  have hA := hD.2.2.2.2.1.2.2.2 k y hy
  by_cases h2 : y.1 = 2
  · rw [(hA.2.2.2.2.2.2.1 h2).2, eS_text hW hy (by omega) (by omega)]; rfl
  · exact (hA.2.2.2.2.2.2.2.2.2 h2 (by simp)).1
theorem nd_id {k : Nat} {y : Nd} (hD : DocC b TD nD N pl D ns [] dp MI ML) (hW : WfN ns) (hy : ns[k]? = some y) (h12 : y.1 = 1 ∨ y.1 = 2) : isId N (MI (b + 34) k) y.2.2.1 := by
  have hA := hD.2.2.2.2.1.2.2.2 k y hy
  rcases hA.2.2.1 with h | h
  · exfalso
    have hk : 0 < k := by
      rcases Nat.eq_zero_or_pos k with z | z
      · subst z
        rw [hW.1] at hy
        cases hy
        rcases h12 with w | w <;> exact absurd w (by decide)
      · exact z
    rcases (hW.2 k y hy hk).1.1 with w | w | w
    · exact w.2.1 h.1
    · exact w.2.1 h.1
    · omega
  · exact h
theorem nd_eq {k : Nat} {y : Nd} {i : Int} {x : By} (hD : DocC b TD nD N pl D ns [] dp MI ML) (hW : WfN ns) (hy : ns[k]? = some y) (h12 : y.1 = 1 ∨ y.1 = 2) (hi : nmO N i (some x)) : (MI (b + 34) k = i ↔ y.2.2.1 = x) ∧ i ≠ -2 := by
  have hid := nd_id hD hW hy h12
  rcases hi with h | h
  · exact ⟨isId_eq hD.1.2.2.2.2.2 hid h, by have := h.1; omega⟩
  · refine ⟨⟨fun z => ?_, fun z => ?_⟩, by omega⟩
    · have := hid.1; omega
    · exfalso
      exact h.1 (z ▸ List.mem_of_getElem? hid.2)
theorem c_leadInto_l {k : Nat} {K i4 : Int} {o : Option By} {P : Nat → Bool} (hbd : b = 38 ∨ b = 81) (hW : WfN ns) (hAt : AtW ns) (hk : k < ns.length) (hK : K = 3 ∧ o = none ∨ K = 1) (hnm : nmO N i4 o)
    (hP : ∀ c, P c = (decide ((ndA ns c).2.1 = (k : Int) ∧ (ndA ns c).1 = K) && nmB o (ndA ns c).2.2.1)) :
    ∀ (m c : Nat) (pre : List Nat) (MI : Nat → Nat → Int), ns.length - c ≤ m → k < c → pre.length < c → bdy ns k c → DocC b TD nD N pl D ns [] dp MI ML → RowC pre MI →
    (∀ MI', RowC (pre ++ (List.range' c (ns.length - c)).filter P) MI' → frP chRw MI MI' → Q none (MI', ML, GR d e nw th 1)) →
    wp cs mX8_leadInto KD Q 7 [some (vR 23), some (vR b), some (vI (k : Nat)), some (vI K), some (vI i4), some (vI (c : Nat))] [] (KD, MI, ML, GR d e nw th 1) := by
  intro m
  obtain ⟨yk, hyk⟩ : ∃ y, ns[k]? = some y := ⟨_, List.getElem?_eq_getElem hk⟩
  have hlE := eS_le hk
  have base : ∀ (c : Nat) (pre : List Nat) (MI : Nat → Nat → Int), eS ns k ≤ c → k < c → DocC b TD nD N pl D ns [] dp MI ML → RowC pre MI →
      (∀ MI', RowC (pre ++ (List.range' c (ns.length - c)).filter P) MI' → frP chRw MI MI' → Q none (MI', ML, GR d e nw th 1)) →
      wp cs mX8_leadInto KD Q 7 [some (vR 23), some (vR b), some (vI (k : Nat)), some (vI K), some (vI i4), some (vI (c : Nat))] [] (KD, MI, ML, GR d e nw th 1) := by
    intro c pre MI hc hkc hD hR hQ
    have h600 := hD.2.2.2.2.1.2.1
    refine v_X8_leadInto_7 hbd ?_
    simp only [Int.toNat_natCast]
    rw [end_at hD hW hyk]
    refine ⟨by omega, fun z => by omega, fun _ => ?_⟩
    rw [rg_nil (fun i a1 a2 => ?_), List.append_nil] at hQ
    · exact hQ MI hR (frP_rfl _ _)
    · obtain ⟨z, hz⟩ : ∃ z, ns[i]? = some z := ⟨_, List.getElem?_eq_getElem a2⟩
      have hnil := ch_end hW hk (Nat.le_trans hc a1)
      unfold chR at hnil
      rw [List.filter_eq_nil_iff] at hnil
      have hzi := hnil z (List.mem_of_getElem? (i := 0) (by rw [List.getElem?_drop]; exact hz))
      rw [hP, ndA_at hz]
      rw [decide_eq_false, Bool.false_and]
      rintro ⟨z1, z2⟩
      apply hzi
      rw [Bool.and_eq_true]
      refine ⟨?_, decide_eq_true z1⟩
      rcases hK with w | w
      · simp [z2, w.1]
      · simp [z2, w]
  induction m with
  | zero =>
    intro c pre MI hm hkc hpl hcb hD hR hQ
    exact base c pre MI (by omega) hkc hD hR hQ
  | succ m ih =>
    intro c pre MI hm hkc hpl hcb hD hR hQ
    have h600 := hD.2.2.2.2.1.2.1
    by_cases hlt : c < eS ns k
    · obtain ⟨y, hy, hy2, hyu⟩ := hcb hlt
      have hcl := (List.getElem?_eq_some_iff.mp hy).1
      obtain ⟨s1, s2, s3⟩ := ch_step hW hAt hkc hy hy2 hyu
      have hlc := eS_le hcl
      have hAy := hD.2.2.2.2.1.2.2.2 c y hy
      have hskip : (List.range' (c + 1) (ns.length - (c + 1))).filter P = (List.range' (eS ns c) (ns.length - eS ns c)).filter P := by
        have := rg_skip (P := P) (n := ns.length) (eS ns c - (c + 1)) (c + 1) (by omega) (fun i a1 a2 => by
          obtain ⟨z, hz⟩ : ∃ z, ns[i]? = some z := ⟨_, List.getElem?_eq_getElem (by omega)⟩
          have hin := eS_in (k := c) (by omega) (by omega) hz
          rw [hP, ndA_at hz, decide_eq_false (by omega), Bool.false_and])
        rw [show c + 1 + (eS ns c - (c + 1)) = eS ns c by omega] at this
        exact this
      rw [rg_cons hcl] at hQ
      have hPc : P c = (decide (y.1 = K) && nmB o y.2.2.1) := by
        rw [hP, ndA_at hy]
        congr 1
        apply decide_eq_decide.mpr
        exact ⟨fun w => w.2, fun w => ⟨hyu, w⟩⟩
      -- on
      have nxt : ∀ (pre' : List Nat) (M : Nat → Nat → Int), pre'.length ≤ c → frP chRw MI M → RowC pre' M → (∀ MI', RowC (pre' ++ (List.range' (eS ns c) (ns.length - eS ns c)).filter P) MI' → frP chRw MI MI' → Q none (MI', ML, GR d e nw th 1)) →
          wp cs mX8_leadInto KD Q 54 [some (vR 23), some (vR b), some (vI (k : Nat)), some (vI K), some (vI i4), some (vI (c : Nat))] [] (KD, M, ML, GR d e nw th 1) := by
        intro pre' M hpl' hfr hR' hQ'
        have hD' := DocC_rw hbd hD hfr
        refine v_X8_leadInto_54 hbd ?_
        simp only [Int.toNat_natCast]
        rw [end_at hD' hW hy, show (if ((c : Nat) : Int) + 1 < (eS ns c : Nat) then ((eS ns c : Nat) : Int) else ((c : Nat) : Int) + 1) = ((eS ns c : Nat) : Int) by split <;> omega]
        exact ⟨by omega, by omega, ih (eS ns c) pre' M (by omega) (by omega) (by omega) s3 hD' hR' (fun MI' r f => hQ' MI' r (frP_tr hfr f))⟩
      have yes : P c = true → wp cs mX8_push KD (rV (GR d e nw th 1) fun m51 n51 => wp cs mX8_leadInto KD Q 54 [some (vR 23), some (vR b), some (vI (k : Nat)), some (vI K), some (vI i4), some (vI (c : Nat))] [] (KD, m51, n51, (GR d e nw th 1))) 0 (padL [vR 23, vI (c : Nat)] 2) [] (KD, MI, ML, (GR d e nw th 1)) := by
        intro hp
        rw [List.filter_cons_of_pos hp, hskip] at hQ
        refine c_push (by omega) hR (fun M r f _ => rV_mk (nxt (pre ++ [c]) M (by simp; omega) f r (fun MI' r' f' => hQ MI' (by rw [List.append_assoc] at r'; exact r') f')))
      have no : P c = false → wp cs mX8_leadInto KD Q 54 [some (vR 23), some (vR b), some (vI (k : Nat)), some (vI K), some (vI i4), some (vI (c : Nat))] [] (KD, MI, ML, GR d e nw th 1) := by
        intro hp
        rw [List.filter_cons_of_neg (by rw [hp]; decide), hskip] at hQ
        exact nxt pre MI (by omega) (frP_rfl _ _) hR hQ
      refine v_X8_leadInto_7 hbd ?_
      simp only [Int.toNat_natCast]
      rw [end_at hD hW hyk, hAy.1]
      refine ⟨by omega, fun _ => ⟨by omega, fun hk1 => ?_, fun hk1 => no (by rw [hPc, decide_eq_false hk1, Bool.false_and])⟩, fun z => by omega⟩
      rw [decide_eq_true hk1, Bool.true_and] at hPc
      cases o with
      | none =>
        have h4 : i4 = -2 := hnm
        exact ⟨fun _ => yes hPc, fun z => absurd h4 z⟩
      | some x =>
        have hK1 : y.1 = 1 := by
          rcases hK with w | w
          · cases w.2
          · rw [hk1, w]
        obtain ⟨g1, g2⟩ := nd_eq hD hW hy (Or.inl hK1) hnm
        refine ⟨fun z => absurd z g2, fun _ => ⟨fun z => yes ?_, fun z => no ?_⟩⟩
        · rw [hPc]; exact decide_eq_true (g1.mp z)
        · rw [hPc]; exact decide_eq_false (fun w => z (g1.mpr w))
    · exact base c pre MI (by omega) hkc hD hR hQ
theorem c_leadInto {k : Nat} {K i4 : Int} {o : Option By} {P : Nat → Bool} (hbd : b = 38 ∨ b = 81) (hW : WfN ns) (hAt : AtW ns) (hk : k < ns.length) (hK : K = 3 ∧ o = none ∨ K = 1) (hnm : nmO N i4 o)
    (hP : ∀ c, P c = (decide ((ndA ns c).2.1 = (k : Int) ∧ (ndA ns c).1 = K) && nmB o (ndA ns c).2.2.1)) (hD : DocC b TD nD N pl D ns [] dp MI ML) (hR : RowC [] MI)
    (hQ : ∀ MI', RowC ((List.range ns.length).filter P) MI' → frP chRw MI MI' → Q none (MI', ML, GR d e nw th 1)) :
    wp cs mX8_leadInto KD Q 0 (padL [vR 23, vR b, vI (k : Nat), vI K, vI i4] 6) [] (KD, MI, ML, GR d e nw th 1) := by
  obtain ⟨yk, hyk⟩ : ∃ y, ns[k]? = some y := ⟨_, List.getElem?_eq_getElem hk⟩
  have h600 := hD.2.2.2.2.1.2.1
  have hAk := hD.2.2.2.2.1.2.2.2 k yk hyk
  have e35 := hAk.2.2.2.1
  have hat := hAt.2.1 k hk
  have hf := ch_first hW hAt hk
  refine v_X8_leadInto_0 hbd (w_X3_firstIn hbd (by omega) (by simp only [Int.toNat_natCast]; rw [e35]; omega) (rI_mk ?_))
  simp only [Int.toNat_natCast]
  rw [e35, show ((k : Nat) : Int) + 1 + (cntA ns (k : Nat) : Nat) = ((k + 1 + cntA ns (k : Nat) : Nat) : Int) by omega]
  refine c_leadInto_l hbd hW hAt hk hK hnm hP ns.length _ [] MI (by omega) (by omega) (by simp; omega) hf.2 hD hR (fun MI' r f => hQ MI' ?_ f)
  rw [List.nil_append] at r
  rw [rg_0]
  have := rg_skip (P := P) (n := ns.length) (k + 1 + cntA ns (k : Int)) 0 (by omega) (fun i a1 a2 => by
    obtain ⟨z, hz⟩ : ∃ z, ns[i]? = some z := ⟨_, List.getElem?_eq_getElem (by omega)⟩
    rw [hP, ndA_at hz, decide_eq_false, Bool.false_and]
    rintro ⟨z1, z2⟩
    have h3 := hAt.1 i z hz
    have h4 := (hat.2 i z hz).mpr ⟨by omega, by omega⟩
    rcases hK with w | w
    · have := h4.1; omega
    · have := h4.1; omega)
  rw [Nat.zero_add] at this
  rw [this]
  exact r
end Pd05
