/-! The reference's set, line, at. -/
def byOk (l : By) : Prop := ∀ c ∈ l, (0 : Int) ≤ c ∧ c < 128
def SmB (s : SM) : Prop := (∀ z ∈ s.1, byOk z.1) ∧ byOk s.2.1.1
theorem slX_B {X : By} (h : byOk X) (f l : Nat) : byOk (slX X f l) := fun c hc => h c (List.mem_of_mem_drop (List.mem_of_mem_take hc))
theorem finL_B {s : SM} (h : SmB s) : SmB (finL s) := by
  unfold finL
  split
  · exact h
  · refine ⟨fun z hz => ?_, fun c hc => by cases hc⟩
    rcases List.mem_append.mp hz with w | w
    · exact h.1 z w
    · rw [List.mem_singleton] at w; rw [w]; exact h.2
theorem appL_B {X : By} {l : Nat} {s : SM} (hX : byOk X) (h : SmB s) : SmB (appL X l s) := by
  refine ⟨h.1, ?_⟩
  unfold appL
  simp only
  split
  · exact slX_B hX _ _
  · intro c hc
    rcases List.mem_append.mp hc with w | w
    · exact h.2 c w
    · rcases List.mem_cons.mp w with w | w
      · rw [w]; omega
      · exact slX_B hX _ _ c w
theorem chkF_B {X : By} {wd : Nat} (hX : byOk X) : ∀ (k : Nat) (s : SM), SmB s → SmB (chkF X wd k s)
  | 0, s, h => h
  | k + 1, s, h => by
    unfold chkF
    split
    · exact chkF_B hX k _ (finL_B (appL_B hX h))
    · exact h
theorem endW_B {X : By} {wd : Nat} {s : SM} (hX : byOk X) (h : SmB s) : SmB (endW X wd s) := by
  unfold endW
  have h1 : SmB (if wd < s.2.2.2 then chkF X wd s.2.2.2 (finL s) else s) := by
    split
    · exact chkF_B hX _ _ (finL_B h)
    · exact h
  obtain ⟨s1, e1⟩ : ∃ s1, s1 = (if wd < s.2.2.2 then chkF X wd s.2.2.2 (finL s) else s) := ⟨_, rfl⟩
  rw [← e1] at h1 ⊢
  show SmB (putW X wd s1)
  unfold putW
  split
  · refine appL_B hX ?_
    split
    · exact finL_B h1
    · exact h1
  · exact h1
theorem endL_B {X : By} {wd : Nat} {s : SM} (hX : byOk X) (h : SmB s) : SmB (endL X wd s) := finL_B (endW_B hX h)
theorem txF_B {X : By} {wd : Nat} (hX : byOk X) : ∀ (m p : Nat) (s : SM), SmB s → SmB (txF_ X wd m p s)
  | 0, _, s, h => h
  | m + 1, p, s, h => by
    unfold txF_
    refine txF_B hX m _ _ ?_
    split
    · exact endW_B hX h
    · exact h
theorem clsS_B {ns : List Nd} {X : By} {wd k : Nat} (hX : byOk X) : ∀ (st : List (Nat × Nat)) (m : SM) (ks : List (Nat × Nat)), SmB m → SmB (clsS ns X wd k st m ks).1
  | [], m, ks, h => h
  | eo :: t, m, ks, h => by
    unfold clsS
    split
    · exact clsS_B hX t _ _ (endL_B hX h)
    · exact h
theorem nodF_B {ns : List Nd} {X : By} {wd : Nat} (hX : byOk X) : ∀ (m k : Nat) (c : SB), SmB c.1 → SmB (nodF ns X wd m k c).1
  | 0, _, c, h => h
  | m + 1, k, c, h => by
    unfold nodF
    refine nodF_B hX m _ _ ?_
    unfold nodS opnS
    have h1 := clsS_B (ns := ns) (wd := wd) (k := k) hX c.2.1 c.1 c.2.2 h
    split
    · exact txF_B hX _ _ _ h1
    · split
      · exact endL_B hX h1
      · exact h1
theorem setL_B {ns : List Nd} (hW : WfN ns) (wd : Nat) : ∀ z ∈ setL ns wd, byOk z.1 := by
  have hX : byOk (allX ns) := cT_ch hW _
  have h0 : SmB sm0 := ⟨fun z hz => (by cases hz), fun c hc => (by cases hc)⟩
  have h1 := nodF_B (ns := ns) (wd := wd) hX ns.length 0 (sm0, [], []) h0
  have h2 := clsS_B (ns := ns) (wd := wd) (k := ns.length) hX (runS ns wd).2.1 (runS ns wd).1 (runS ns wd).2.2 h1
  exact (endL_B (wd := wd) hX h2).1
def PagR (pg : List (Nat × Nat)) (MI : Nat → Nat → Int) : Prop := (∀ (i : Nat) (q : Nat × Nat), pg[i]? = some q → MI 193 i = (q.1 : Nat) ∧ MI 194 i = (q.2 : Nat)) ∧ (pg ≠ [] → MI 124 87 = (pgN pg : Nat))
def LinR (ns : List Nd) (L : List Ln) (pg : List (Nat × Nat)) (MI : Nat → Nat → Int) : Prop := MI 124 86 = (L.length : Nat) ∧ L.length ≤ 2000 ∧ pg.length = L.length ∧ (∀ z ∈ L, z.1.length ≤ 60 ∧ byOk z.1) ∧ LnsR ns L MI ∧ PagR pg MI
/-- the ELEMENT in which the setting stands ahead of k -/
def inK (ns : List Nd) (k : Nat) : Nat := if (ndA ns (k - 1)).1 = 0 ∨ (ndA ns (k - 1)).1 = 1 then k - 1 else (ndA ns (k - 1)).2.1.toNat
theorem inK_lt {ns : List Nd} (hW : WfN ns) {k : Nat} (h0 : 0 < k) (hk : k ≤ ns.length) : inK ns k < k := by
  unfold inK
  split
  · omega
  · next h =>
    obtain ⟨y, hy⟩ : ∃ y, ns[k - 1]? = some y := ⟨_, List.getElem?_eq_getElem (by omega)⟩
    rw [ndA_at hy] at h ⊢
    rcases Nat.eq_zero_or_pos (k - 1) with w | w
    · rw [w, hW.1] at hy; cases hy; exact absurd (Or.inl rfl) h
    · have := (hW.2 _ y hy w).2.1; omega
theorem inK_in {ns : List Nd} (hW : WfN ns) {k : Nat} {y : Nd} (h0 : 0 < k) (hy : ns[k]? = some y) : y.2.1.toNat ≤ inK ns k ∧ inK ns k < eS ns y.2.1.toNat := by
  have hkl := (List.getElem?_eq_some_iff.mp hy).1
  obtain ⟨_, hu, ⟨p, hp, hpk⟩, _⟩ := hW.2 k y hy h0
  have hle := eS_le (ns := ns) (k := y.2.1.toNat) (by omega)
  have hin := (in_up hW (k := y.2.1.toNat) (by omega) hy h0).mpr (Or.inr ⟨Nat.le_refl _, by omega⟩)
  obtain ⟨z, hz⟩ : ∃ z, ns[k - 1]? = some z := ⟨_, List.getElem?_eq_getElem (by omega)⟩
  unfold inK
  rw [ndA_at hz]
  split
  · omega
  · next h =>
    rcases Nat.eq_zero_or_pos (k - 1) with w | w
    · rw [w, hW.1] at hz; cases hz; exact absurd (Or.inl rfl) h
    · rcases (in_up hW (k := y.2.1.toNat) (by omega) hz w).mp (by omega) with e | e
      · rw [← e, hz] at hp; cases hp; exact absurd hpk h
      · exact e
theorem inK_at {ns : List Nd} (hW : WfN ns) (hA : AtW ns) {k : Nat} {y : Nd} (h0 : 0 < k) (hy : ns[k]? = some y) (h2 : y.1 = 2) : inK ns k = y.2.1.toNat := by
  have hkl := (List.getElem?_eq_some_iff.mp hy).1
  obtain ⟨_, hu, ⟨p, hp, hpk⟩, _⟩ := hW.2 k y hy h0
  obtain ⟨z, hz⟩ : ∃ z, ns[k - 1]? = some z := ⟨_, List.getElem?_eq_getElem (by omega)⟩
  have ha := (hA.2.1 y.2.1.toNat (by omega)).2
  have h1 := (ha k y hy).mp ⟨h2, by omega⟩
  unfold inK
  rw [ndA_at hz]
  by_cases he : k - 1 = y.2.1.toNat
  · rw [← he, hz] at hp; cases hp
    rw [if_pos hpk]; exact he
  · have := (ha (k - 1) z hz).mpr (by omega)
    rw [if_neg (by omega)]
    omega
/-- the BLOCKS that are open ahead of k stay open at k -/
theorem cls_id {ns : List Nd} (hW : WfN ns) {X : By} {wd k : Nat} {y : Nd} {st ks : List (Nat × Nat)} {m : SM} (h0 : 0 < k) (hy : ns[k]? = some y) (hm : st.map (fun q => q.1) = uB ns y.2.1.toNat) : clsS ns X wd k st m ks = (m, st, ks) := by
  have hkl := (List.getElem?_eq_some_iff.mp hy).1
  have hu := (hW.2 k y hy h0).2.1
  cases st with
  | nil => rfl
  | cons eo t =>
    have hq : eo.1 ∈ uB ns y.2.1.toNat := by rw [← hm, List.map_cons]; exact List.mem_cons_self
    have h3 := uB_in hW _ (by omega) _ hq
    have := (in_up hW (k := eo.1) (by omega) hy h0).mpr (Or.inr h3.2)
    rw [clsS, if_neg (by omega)]
section Pf11
variable {cs : Cs} {Q : Option AV → Mm → Prop} {MI ML OI : Nat → Nat → Int} {bk d e nw th x pl : Nat} {TD : Nat → Int} {nD : Int} {D : Dm} {wd H : Nat}
theorem c_toPages {L : Nat} {ks : List (Nat × Nat)} {B : List BkT} (hH : 1 ≤ H ∧ H ≤ 50) (hL : L ≤ 2000) (h86 : MI 124 86 = (L : Nat)) (hB : BlR B MI) (hBl : B.length ≤ 600) (hBI : ∀ q, q ∈ ks ↔ ∃ b ∈ B, (b.2.1, b.2.2) = q) (hB2 : ∀ b ∈ B, b.2.1 ≤ 2000 ∧ b.2.2 ≤ 2000)
    (hQ : ∀ MI', PagR (pgF ks H L 0 0 0) MI' → frP (fun i k => i = 193 ∨ i = 194 ∨ (i = 124 ∧ k = 87)) MI MI' → Q none (MI', ML, GR d e nw th x)) :
    wp cs mX12_toPages KD Q 0 (padL [vR 124, vI (H : Nat)] 7) [] (KD, MI, ML, GR d e nw th x) := by
  have loop : ∀ (m i p u : Nat) (pre : List (Nat × Nat)) (M : Nat → Nat → Int), i + m = L → pre.length = i → p ≤ i → u ≤ H → (∀ q, pre.getLast? = some q → p = q.1) → pre ++ pgF ks H m i p u = pgF ks H L 0 0 0 → (∀ (j : Nat) (q : Nat × Nat), pre[j]? = some q → M 193 j = (q.1 : Nat) ∧ M 194 j = (q.2 : Nat)) → frP (fun i k => i = 193 ∨ i = 194 ∨ (i = 124 ∧ k = 87)) MI M →
      wp cs mX12_toPages KD Q 7 [some (vR 124), some (vI (H : Nat)), some (vI (p : Nat)), some (vI (u : Nat)), some (vI (i : Nat)), none, none] [] (KD, M, ML, GR d e nw th x) := by
    intro m
    induction m with
    | zero =>
      intro i p u pre M hi hpl hp hu hlast heq hM hfr
      have g86 : M 124 86 = (L : Nat) := by rw [hfr 124 86 (by omega)]; exact h86
      rw [pgF, List.append_nil] at heq
      refine v_X12_toPages_7 ?_
      rw [g86]
      refine ⟨fun z => by omega, fun _ => ⟨fun h0 => ?_, fun h0 => ⟨by omega, ?_⟩⟩⟩
      · rintro _ rfl
        refine hQ _ ⟨fun j q hq => ?_, ?_⟩ (frP_tr hfr (frP_up (Or.inr (Or.inr ⟨rfl, rfl⟩))))
        · rw [← heq] at hq
          rw [up2_ne (by decide), up2_ne (by decide)]; exact hM j q hq
        · intro _
          have : pre = [] := List.eq_nil_of_length_eq_zero (by omega)
          rw [up2_eq, ← heq, this]; rfl
      · rintro _ rfl
        refine hQ _ ⟨fun j q hq => ?_, ?_⟩ (frP_tr hfr (frP_up (Or.inr (Or.inr ⟨rfl, rfl⟩))))
        · rw [← heq] at hq
          rw [up2_ne (by decide), up2_ne (by decide)]; exact hM j q hq
        · intro _
          rw [up2_eq, ← heq]
          unfold pgN
          cases hg : pre.getLast? with
          | none => exact absurd (List.getLast?_eq_none_iff.mp hg) (fun z => by rw [z] at hpl; simp at hpl; omega)
          | some q => rw [hlast q hg]; simp
    | succ m ih =>
      intro i p u pre M hi hpl hp hu hlast heq hM hfr
      have g86 : M 124 86 = (L : Nat) := by rw [hfr 124 86 (by omega)]; exact h86
      have g95 : M 124 95 = (B.length : Nat) := by rw [hfr 124 95 (by omega)]; exact hB.1
      rw [pgF] at heq
      have ei : ((i : Nat) : Int) + 1 = ((i + 1 : Nat) : Int) := by omega
      -- the pairs that ask for a page
      obtain ⟨hit, hhit⟩ : ∃ hit : BkT → Bool, hit = fun b => decide (b.2.1 = i ∧ b.2.2 - b.2.1 ≤ H ∧ H < u + (b.2.2 - b.2.1)) := ⟨_, rfl⟩
      have hany : (ks.any fun q => decide (q.1 = i ∧ q.2 - q.1 ≤ H ∧ H < u + (q.2 - q.1))) = B.any hit := by
        rw [Bool.eq_iff_iff, List.any_eq_true, List.any_eq_true]
        constructor
        · rintro ⟨q, hq, hd⟩
          obtain ⟨b, hb, rfl⟩ := (hBI q).mp hq
          exact ⟨b, hb, by rw [hhit]; exact hd⟩
        · rintro ⟨b, hb, hd⟩
          exact ⟨(b.2.1, b.2.2), (hBI _).mpr ⟨b, hb, rfl⟩, by rw [hhit] at hd; exact hd⟩
      have lay : ∀ (p' u' : Nat) (l2 l3 : Int), p' ≤ i + 1 → u' < H → pre ++ (p', u') :: pgF ks H m (i + 1) p' (u' + 1) = pgF ks H L 0 0 0 → (l3 = (H : Nat) ∧ l2 + 1 = (p' : Nat) ∧ u' = 0 ∨ l3 ≠ (H : Nat) ∧ l2 = (p' : Nat) ∧ l3 = (u' : Nat)) → ∀ j : Int, ((B.length : Nat) : Int) ≤ j → wp cs mX12_toPages KD Q 19 [some (vR 124), some (vI (H : Nat)), some (vI l2), some (vI l3), some (vI (i : Nat)), some (vI j), none] [] (KD, M, ML, GR d e nw th x) := by
        intro p' u' l2 l3 hp' hu' heq' hor j hj
        have nxt : wp cs mX12_toPages KD Q 7 [some (vR 124), some (vI (H : Nat)), some (vI (p' : Nat)), some (vI ((u' + 1 : Nat) : Int)), some (vI ((i + 1 : Nat) : Int)), none, none] [] (KD, up2 (up2 M 193 i (p' : Nat)) 194 i (u' : Nat), ML, GR d e nw th x) := by
          refine ih (i + 1) p' (u' + 1) (pre ++ [(p', u')]) _ (by omega) (by simp; omega) hp' (by omega) (fun q hq => ?_) (by rw [List.append_assoc]; exact heq') (fun j q hq => ?_) (frP_tr hfr (frP_tr (frP_up (Or.inl rfl)) (frP_up (Or.inr (Or.inl rfl)))))
          · rw [List.getLast?_append] at hq
            simp at hq
            rw [← hq]
          · by_cases hj : j < pre.length
            · rw [List.getElem?_append_left hj] at hq
              rw [up2_ne (by decide), up2_nk (by omega), up2_nk (by omega), up2_ne (by decide)]
              exact hM j q hq
            · have h2 := (List.getElem?_eq_some_iff.mp hq).1
              simp only [List.length_append, List.length_singleton] at h2
              have h3 : j = pre.length := by omega
              subst h3
              rw [List.getElem?_append_right (Nat.le_refl _)] at hq
              simp at hq
              subst hq
              rw [← hpl, up2_ne (by decide), up2_eq, up2_eq]
              exact ⟨rfl, rfl⟩
        refine v_X12_toPages_19 ?_
        rw [g95]
        simp only [Int.toNat_natCast]
        refine ⟨fun z => by omega, fun _ => ⟨fun he => ?_, fun he => ?_⟩⟩
        · rcases hor with ⟨o1, o2, o3⟩ | ⟨o1, _⟩
          · rw [o2, ei]
            refine ⟨by omega, by omega, ?_⟩
            rintro _ rfl _ rfl
            subst o3
            exact ⟨by omega, nxt⟩
          · exact absurd he o1
        · rcases hor with ⟨o1, _⟩ | ⟨o1, o2, o3⟩
          · exact absurd o1 he
          · rw [o2, o3, ei, show ((u' : Nat) : Int) + 1 = ((u' + 1 : Nat) : Int) by omega]
            refine ⟨by omega, ?_⟩
            rintro _ rfl _ rfl
            exact ⟨by omega, by omega, nxt⟩
      -- the BLOCKS, after one has asked for a page
      have aft : ∀ (c j : Nat), j + c = B.length → B.any hit = true → wp cs mX12_toPages KD Q 19 [some (vR 124), some (vI (H : Nat)), some (vI ((p + 1 : Nat) : Int)), some (vI 0), some (vI (i : Nat)), some (vI (j : Nat)), none] [] (KD, M, ML, GR d e nw th x) := by
        intro c
        induction c with
        | zero =>
          intro j hj ha
          refine lay (p + 1) 0 _ _ (by omega) (by omega) ?_ (Or.inr ⟨by omega, rfl, rfl⟩) _ (by omega)
          have hbk : brkB ks H i u = true := by unfold brkB; rw [hany, ha, Bool.or_true]
          rw [if_pos hbk] at heq; exact heq
        | succ c ihc =>
          intro j hj ha
          obtain ⟨b, hb⟩ : ∃ b, B[j]? = some b := ⟨_, List.getElem?_eq_getElem (by omega)⟩
          obtain ⟨b1, b2, b3⟩ := hB.2 j b hb
          have hbb := hB2 b (List.mem_of_getElem? hb)
          have g6 : M 196 j = (b.2.1 : Nat) := by rw [hfr 196 j (by omega)]; exact b2
          have g7 : M 197 j = (b.2.2 : Nat) := by rw [hfr 197 j (by omega)]; exact b3
          have nx := ihc (j + 1) (by omega) ha
          refine v_X12_toPages_19 ?_
          rw [g95]
          simp only [Int.toNat_natCast]
          rw [g6, g7, show ((j : Nat) : Int) + 1 = ((j + 1 : Nat) : Int) by omega]
          refine ⟨fun _ => ⟨by omega, by omega, fun z1 => ⟨fun z2 => ⟨by omega, nx⟩, fun z2 => ⟨by omega, fun z3 => by omega, fun z3 => ⟨by omega, nx⟩⟩⟩, fun z1 => ⟨by omega, nx⟩⟩, fun z => by omega⟩
      have bef : ∀ (c j : Nat), j + c = B.length → (∀ b ∈ B.take j, hit b = false) → wp cs mX12_toPages KD Q 19 [some (vR 124), some (vI (H : Nat)), some (vI (p : Nat)), some (vI (u : Nat)), some (vI (i : Nat)), some (vI (j : Nat)), none] [] (KD, M, ML, GR d e nw th x) := by
        intro c
        induction c with
        | zero =>
          intro j hj hno
          have ha : B.any hit = false := by
            rw [List.any_eq_false]
            intro b hb
            have := hno b (by rw [List.take_of_length_le (by omega)]; exact hb)
            rw [this]; decide
          by_cases hu' : H ≤ u
          · have hbk : brkB ks H i u = true := by unfold brkB; rw [decide_eq_true hu', Bool.true_or]
            rw [if_pos hbk] at heq
            exact lay (p + 1) 0 _ _ (by omega) (by omega) heq (Or.inl ⟨by omega, by omega, rfl⟩) _ (by omega)
          · have hbk : ¬ brkB ks H i u = true := by unfold brkB; rw [decide_eq_false hu', hany, ha]; decide
            rw [if_neg hbk] at heq
            exact lay p u _ _ (by omega) (by omega) heq (Or.inr ⟨by omega, rfl, rfl⟩) _ (by omega)
        | succ c ihc =>
          intro j hj hno
          obtain ⟨b, hb⟩ : ∃ b, B[j]? = some b := ⟨_, List.getElem?_eq_getElem (by omega)⟩
          obtain ⟨b1, b2, b3⟩ := hB.2 j b hb
          have hbm := List.mem_of_getElem? hb
          have hbb := hB2 b hbm
          have g6 : M 196 j = (b.2.1 : Nat) := by rw [hfr 196 j (by omega)]; exact b2
          have g7 : M 197 j = (b.2.2 : Nat) := by rw [hfr 197 j (by omega)]; exact b3
          have nx : hit b = false → wp cs mX12_toPages KD Q 19 [some (vR 124), some (vI (H : Nat)), some (vI (p : Nat)), some (vI (u : Nat)), some (vI (i : Nat)), some (vI ((j + 1 : Nat) : Int)), none] [] (KD, M, ML, GR d e nw th x) := fun hz => by
            refine ihc (j + 1) (by omega) (fun b' hb' => ?_)
            rw [List.take_succ, hb] at hb'
            rcases List.mem_append.mp hb' with w | w
            · exact hno b' w
            · simp at w; rw [w]; exact hz
          have hd : hit b = decide (b.2.1 = i ∧ b.2.2 - b.2.1 ≤ H ∧ H < u + (b.2.2 - b.2.1)) := by rw [hhit]
          refine v_X12_toPages_19 ?_
          rw [g95]
          simp only [Int.toNat_natCast]
          rw [g6, g7, show ((j : Nat) : Int) + 1 = ((j + 1 : Nat) : Int) by omega]
          refine ⟨fun _ => ⟨by omega, by omega, fun z1 => ⟨fun z2 => ⟨by omega, nx (by rw [hd]; exact decide_eq_false (by omega))⟩, fun z2 => ⟨by omega, fun z3 => ⟨by omega, by omega, ?_⟩, fun z3 => ⟨by omega, nx (by rw [hd]; exact decide_eq_false (by omega))⟩⟩⟩, fun z1 => ⟨by omega, nx (by rw [hd]; exact decide_eq_false (by omega))⟩⟩, fun z => by omega⟩
          have := aft c (j + 1) (by omega) (List.any_eq_true.mpr ⟨b, hbm, by rw [hd]; exact decide_eq_true (by omega)⟩)
          rw [show ((p : Nat) : Int) + 1 = ((p + 1 : Nat) : Int) by omega]
          exact this
      refine v_X12_toPages_7 ?_
      rw [g86]
      exact ⟨fun _ => bef B.length 0 (by omega) (fun b hb => by simp at hb), fun z => by omega⟩
  exact v_X12_toPages_0 (loop L 0 0 0 [] MI (by omega) rfl (by omega) (by omega) (fun q hq => by simp at hq) rfl (fun j q hq => by simp at hq) (frP_rfl _ _))
end Pf11
