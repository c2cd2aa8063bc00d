/-! The reference's BLOCKS: leave, beginElement. -/
/-- the BLOCKS from e upwards -/
def upB (ns : List Nd) : Nat → Nat → List Nat
  | 0, _ => []
  | f + 1, e => if e = 0 then [] else (if blkB ns e = true then [e] else []) ++ upB ns f (ndA ns e).2.1.toNat
theorem upB_0 (ns : List Nd) : ∀ f, upB ns f 0 = []
  | 0 => rfl
  | f + 1 => by rw [upB, if_pos rfl]
theorem upB_f {ns : List Nd} (hW : WfN ns) : ∀ (f e : Nat), e ≤ f → e < ns.length → upB ns f e = upB ns (f + 1) e
  | 0, e, h, hl => by rw [show e = 0 by omega, upB_0, upB_0]
  | f + 1, e, h, hl => by
    rw [upB, upB.eq_def ns (f + 1 + 1)]
    simp only
    by_cases h0 : e = 0
    · rw [if_pos h0, if_pos h0]
    · rw [if_neg h0, if_neg h0]
      obtain ⟨y, hy⟩ : ∃ y, ns[e]? = some y := ⟨_, List.getElem?_eq_getElem hl⟩
      have := (hW.2 e y hy (by omega)).2.1
      rw [ndA_at hy, upB_f hW f _ (by omega) (by omega)]
def uB (ns : List Nd) (e : Nat) : List Nat := upB ns ns.length e
theorem uB_0 (ns : List Nd) : uB ns 0 = [] := upB_0 ns _
theorem uB_s {ns : List Nd} (hW : WfN ns) {e : Nat} {y : Nd} (hy : ns[e]? = some y) (h0 : 0 < e) : uB ns e = (if blkB ns e = true then [e] else []) ++ uB ns y.2.1.toNat := by
  have hl := (List.getElem?_eq_some_iff.mp hy).1
  unfold uB
  rw [upB_f hW _ _ (by omega) hl, upB, if_neg (by omega), ndA_at hy]
theorem uB_in {ns : List Nd} (hW : WfN ns) : ∀ (e : Nat), e < ns.length → ∀ q ∈ uB ns e, 0 < q ∧ q ≤ e ∧ e < eS ns q := by
  intro e
  induction e using Nat.strongRecOn with
  | _ e ih =>
    intro hl q hq
    rcases Nat.eq_zero_or_pos e with h0 | h0
    · rw [h0, uB_0] at hq; cases hq
    · obtain ⟨y, hy⟩ : ∃ y, ns[e]? = some y := ⟨_, List.getElem?_eq_getElem hl⟩
      have hu := (hW.2 e y hy h0).2.1
      rw [uB_s hW hy h0] at hq
      rcases List.mem_append.mp hq with z | z
      · split at z
        · rw [List.mem_singleton] at z
          have := eS_le hl
          rw [z]; exact ⟨h0, Nat.le_refl _, by omega⟩
        · cases z
      · obtain ⟨i1, i2, i3⟩ := ih y.2.1.toNat (by omega) (by omega) q z
        have := (in_up hW (k := q) (by omega) hy h0).mpr (Or.inr ⟨i2, i3⟩)
        exact ⟨i1, this.1, this.2⟩
theorem eS_0 {ns : List Nd} (hW : WfN ns) : eS ns 0 = ns.length := by
  have h0 := (List.getElem?_eq_some_iff.mp hW.1).1
  have hle := eS_le h0
  refine Decidable.byContradiction fun w => ?_
  obtain ⟨v, hv⟩ : ∃ v, ns[eS ns 0]? = some v := ⟨_, List.getElem?_eq_getElem (by omega)⟩
  have ho := eS_out hv
  have := (hW.2 _ v hv (by omega)).2.1
  omega
abbrev BkT : Type := Nat × Nat × Nat
def BlR (B : List BkT) (MI : Nat → Nat → Int) : Prop := MI 124 95 = (B.length : Nat) ∧ ∀ (j : Nat) (b : BkT), B[j]? = some b → MI 200 j = (b.1 : Nat) ∧ MI 196 j = (b.2.1 : Nat) ∧ MI 197 j = (b.2.2 : Nat)
/-- the kept BLOCKS: those that are open, those that are closed -/
def BlI (ns : List Nd) (k : Nat) (B : List BkT) (st ks : List (Nat × Nat)) : Prop :=
  (∀ b ∈ B, (b.1 ∈ st.map (fun q => q.1) → (b.1, b.2.1) ∈ st) ∧ (b.1 ∉ st.map (fun q => q.1) → (b.2.1, b.2.2) ∈ ks) ∧ kepB ns b.1 = true ∧ b.1 < k) ∧
  (∀ q ∈ ks, ∃ b ∈ B, b.1 ∉ st.map (fun q => q.1) ∧ (b.2.1, b.2.2) = q) ∧
  (∀ q ∈ st, kepB ns q.1 = true → ∃ b ∈ B, b.1 = q.1) ∧ (∀ b ∈ B, b.2.1 ≤ 2000 ∧ b.2.2 ≤ 2000)
def clB (e L : Nat) (b : BkT) : BkT := if b.1 = e then (b.1, b.2.1, L) else b
theorem clB_1 (e L : Nat) (b : BkT) : (clB e L b).1 = b.1 ∧ (clB e L b).2.1 = b.2.1 := by unfold clB; split <;> exact ⟨rfl, rfl⟩
theorem BlI_cls {ns : List Nd} {k L : Nat} {B : List BkT} {eo : Nat × Nat} {t ks : List (Nat × Nat)} (h : BlI ns k B (eo :: t) ks) (hn : eo.1 ∉ t.map (fun q => q.1)) (hL : L ≤ 2000) :
    BlI ns k (B.map (clB eo.1 L)) t (if kepB ns eo.1 = true then ks ++ [(eo.2, L)] else ks) := by
  obtain ⟨h1, h2, h3, h4⟩ := h
  have sub : ∀ q, q ∈ ks → q ∈ (if kepB ns eo.1 = true then ks ++ [(eo.2, L)] else ks) := fun q hq => by
    split
    · exact List.mem_append_left _ hq
    · exact hq
  refine ⟨fun b' hb' => ?_, fun q hq => ?_, fun q hq hk => ?_, fun b' hb' => ?_⟩
  · obtain ⟨b, hb, rfl⟩ := List.mem_map.mp hb'
    obtain ⟨a1, a2, a3, a4⟩ := h1 b hb
    rw [(clB_1 eo.1 L b).1, (clB_1 eo.1 L b).2]
    refine ⟨fun z => ?_, fun z => ?_, a3, a4⟩
    · have := a1 (by rw [List.map_cons]; exact List.mem_cons_of_mem _ z)
      rcases List.mem_cons.mp this with w | w
      · exact absurd (by rw [← w]; exact z) hn
      · exact w
    · by_cases he : b.1 = eo.1
      · have := a1 (by rw [List.map_cons, he]; exact List.mem_cons_self)
        rcases List.mem_cons.mp this with w | w
        · rw [he] at a3
          rw [if_pos a3]
          have e2 : (clB eo.1 L b).2.2 = L := by unfold clB; rw [if_pos he]
          have e3 : b.2.1 = eo.2 := by rw [← w]
          rw [e2, e3]; exact List.mem_append_right _ List.mem_cons_self
        · exact absurd (List.mem_map.mpr ⟨_, w, rfl⟩) z
      · have e2 : (clB eo.1 L b).2.2 = b.2.2 := by unfold clB; rw [if_neg he]
        rw [e2]
        refine sub _ (a2 (fun w => ?_))
        rw [List.map_cons] at w
        rcases List.mem_cons.mp w with w | w
        · exact he w
        · exact z w
  · have old : ∀ q ∈ ks, ∃ b ∈ B.map (clB eo.1 L), b.1 ∉ t.map (fun q => q.1) ∧ (b.2.1, b.2.2) = q := fun q hq => by
      obtain ⟨b, hb, b1, b2⟩ := h2 q hq
      have hne : b.1 ≠ eo.1 := fun w => b1 (by rw [List.map_cons, w]; exact List.mem_cons_self)
      have e1 : clB eo.1 L b = b := by unfold clB; rw [if_neg hne]
      exact ⟨b, List.mem_map.mpr ⟨b, hb, e1⟩, fun w => b1 (by rw [List.map_cons]; exact List.mem_cons_of_mem _ w), b2⟩
    split at hq
    · next hk =>
      rcases List.mem_append.mp hq with z | z
      · exact old q z
      · rw [List.mem_singleton] at z
        obtain ⟨b, hb, b1⟩ := h3 eo List.mem_cons_self hk
        obtain ⟨a1, a2, a3, a4⟩ := h1 b hb
        have := a1 (by rw [List.map_cons, b1]; exact List.mem_cons_self)
        have e3 : b.2.1 = eo.2 := by
          rcases List.mem_cons.mp this with w | w
          · rw [← w]
          · exact absurd (List.mem_map.mpr ⟨_, w, b1⟩) hn
        refine ⟨clB eo.1 L b, List.mem_map.mpr ⟨b, hb, rfl⟩, by rw [(clB_1 eo.1 L b).1, b1]; exact hn, ?_⟩
        rw [z, (clB_1 eo.1 L b).2, e3]
        unfold clB
        rw [if_pos b1]
    · exact old q hq
  · obtain ⟨b, hb, b1⟩ := h3 q (List.mem_cons_of_mem _ hq) hk
    exact ⟨clB eo.1 L b, List.mem_map.mpr ⟨b, hb, rfl⟩, by rw [(clB_1 eo.1 L b).1]; exact b1⟩
  · obtain ⟨b, hb, rfl⟩ := List.mem_map.mp hb'
    have := h4 b hb
    unfold clB
    split
    · exact ⟨this.1, hL⟩
    · exact this
theorem BlI_k {ns : List Nd} {k k' : Nat} {B : List BkT} {st ks : List (Nat × Nat)} (h : BlI ns k B st ks) (hk : k ≤ k') : BlI ns k' B st ks :=
  ⟨fun b hb => by obtain ⟨a1, a2, a3, a4⟩ := h.1 b hb; exact ⟨a1, a2, a3, by omega⟩, h.2⟩
theorem BlI_opn {ns : List Nd} {k L : Nat} {B : List BkT} {st ks : List (Nat × Nat)} (h : BlI ns k B st ks) (hL : L ≤ 2000) : BlI ns (k + 1) (if kepB ns k = true then B ++ [(k, L, L)] else B) ((k, L) :: st) ks := by
  obtain ⟨h1, h2, h3, h4⟩ := h
  have old : ∀ b ∈ B, (b.1 ∈ ((k, L) :: st).map (fun q => q.1) → (b.1, b.2.1) ∈ (k, L) :: st) ∧ (b.1 ∉ ((k, L) :: st).map (fun q => q.1) → (b.2.1, b.2.2) ∈ ks) ∧ kepB ns b.1 = true ∧ b.1 < k + 1 := fun b hb => by
    obtain ⟨a1, a2, a3, a4⟩ := h1 b hb
    refine ⟨fun z => ?_, fun z => a2 (fun w => z (by rw [List.map_cons]; exact List.mem_cons_of_mem _ w)), a3, by omega⟩
    rw [List.map_cons] at z
    rcases List.mem_cons.mp z with w | w
    · simp only at w; omega
    · exact List.mem_cons_of_mem _ (a1 w)
  have sub : ∀ b, b ∈ B → b ∈ (if kepB ns k = true then B ++ [(k, L, L)] else B) := fun q hq => by
    split
    · exact List.mem_append_left _ hq
    · exact hq
  refine ⟨fun b hb => ?_, fun q hq => ?_, fun q hq hk => ?_, fun b hb => ?_⟩
  · split at hb
    · next hk =>
      rcases List.mem_append.mp hb with z | z
      · exact old b z
      · rw [List.mem_singleton] at z
        subst z
        exact ⟨fun _ => List.mem_cons_self, fun z => absurd (by rw [List.map_cons]; exact List.mem_cons_self) z, hk, by simp⟩
    · exact old b hb
  · obtain ⟨b, hb, b1, b2⟩ := h2 q hq
    refine ⟨b, sub b hb, fun z => ?_, b2⟩
    rw [List.map_cons] at z
    rcases List.mem_cons.mp z with w | w
    · have := (h1 b hb).2.2.2; simp only at w; omega
    · exact b1 w
  · rcases List.mem_cons.mp hq with w | w
    · rw [w] at hk ⊢
      rw [if_pos hk]
      exact ⟨_, List.mem_append_right _ List.mem_cons_self, rfl⟩
    · obtain ⟨b, hb, b1⟩ := h3 q w hk
      exact ⟨b, sub b hb, b1⟩
  · split at hb
    · rcases List.mem_append.mp hb with z | z
      · exact h4 b z
      · rw [List.mem_singleton] at z
        subst z
        exact ⟨hL, hL⟩
    · exact h4 b hb
def chSR (i k : Nat) : Prop := 191 ≤ i ∨ (i = 124 ∧ 86 ≤ k)
theorem Nest_lt {ns : List Nd} : ∀ {t : List Nat} {a : Nat}, Nest ns (a :: t) → ∀ c ∈ t, c < a
  | [], _, _, c, hc => by cases hc
  | d :: t, a, h, c, hc => by
    have h1 := h.2.1.1
    rcases List.mem_cons.mp hc with z | z
    · rw [z]; exact h1
    · have := Nest_lt h.2.2 c z; omega
section Pf10
variable {cs : Cs} {Q : Option AV → Mm → Prop} {MI ML OI : Nat → Nat → Int} {bk d e nw th x pl : Nat} {TD : Nat → Int} {nD : Int} {D : Dm} {wd pos : Nat} {s : SM}
theorem ComR_fr {ns : List Nd} {X : By} {M : Nat → Nat → Int} {P : Nat → Nat → Prop} (h : ComR ns X wd 0 s MI) (f : frP P MI M) (hp : ∀ i k, P i k → i = 196 ∨ i = 197 ∨ i = 200 ∨ (i = 124 ∧ k = 95)) : ComR ns X wd 0 s M := by
  obtain ⟨c1, c2, c3, c4, c5, c6, c7⟩ := h
  have g : ∀ i k, ¬ (i = 196 ∨ i = 197 ∨ i = 200 ∨ (i = 124 ∧ k = 95)) → M i k = MI i k := fun i k hh => f i k (fun z => hh (hp i k z))
  refine ⟨by rw [g 124 86 (by omega)]; exact c1, by rw [g 124 99 (by omega)]; exact c2, by rw [g 124 100 (by omega)]; exact c3, fun i y hy => ?_, ⟨by rw [g 192 _ (by omega)]; exact c5.1, fun j v hj => by rw [g 191 _ (by omega)]; exact c5.2 j v hj⟩, fun z => by rw [g 195 _ (by omega)]; exact c6 z, ⟨by rw [g 124 98 (by omega)]; exact c7.1, fun j hj => by rw [g 198 _ (by omega), g 199 _ (by omega)]; exact c7.2 j hj⟩⟩
  obtain ⟨⟨a1, a2⟩, a3⟩ := c4 i y hy
  exact ⟨⟨by rw [g 192 _ (by omega)]; exact a1, fun j v hj => by rw [g 191 _ (by omega)]; exact a2 j v hj⟩, by rw [g 195 _ (by omega)]; exact a3⟩
theorem BlR_fr {B : List BkT} {M : Nat → Nat → Int} {P : Nat → Nat → Prop} (h : BlR B MI) (f : frP P MI M) (hp : ∀ i k, P i k → i ≠ 196 ∧ i ≠ 197 ∧ i ≠ 200 ∧ ¬ (i = 124 ∧ k = 95)) : BlR B M :=
  ⟨by rw [f 124 95 (fun z => by have := hp _ _ z; omega)]; exact h.1, fun j b hb => by rw [f 200 j (fun z => by have := hp _ _ z; omega), f 196 j (fun z => by have := hp _ _ z; omega), f 197 j (fun z => by have := hp _ _ z; omega)]; exact h.2 j b hb⟩
theorem chLR_B : ∀ i k, chLR i k → i ≠ 196 ∧ i ≠ 197 ∧ i ≠ 200 ∧ ¬ (i = 124 ∧ k = 95) := fun i k z => by unfold chLR at z; omega
/-- endWord, endLine -/
theorem c_rendL (hC : ComR D.2.1 (allX D.2.1) wd 0 s MI) (hI : SmI (allX D.2.1) wd pos s) (hW : WfN D.2.1) (hp : pos ≤ 2000) (hw : 0 < wd) (hw6 : wd ≤ 60)
    (hQ : ∀ MI', ComR D.2.1 (allX D.2.1) wd 0 (endL (allX D.2.1) wd s) MI' → frP chLR MI MI' → Q none (MI', ML, GR d e nw th x)) :
    wp cs mX12_endWord KD (rV (GR d e nw th x) fun m24 n24 => wp cs mX12_endLine KD Q 0 (padL [vR 124] 1) [] (KD, m24, n24, (GR d e nw th x))) 0 (padL [vR 124] 2) [] (KD, MI, ML, (GR d e nw th x)) := by
  refine c_rendWord hC hI hp hw hw6 (cT_ch hW _) (fun M1 k1 f1 => rV_mk ?_)
  have hok := endW_ok hw hI
  have hge := sumL_ge hok.2.2.2.1
  have htot : tot (endW (allX D.2.1) wd s) = sumL (endW (allX D.2.1) wd s).1 + (endW (allX D.2.1) wd s).2.1.1.length := rfl
  exact c_rendLine k1 (by have := hok.2.1; omega) (fun M2 k2 f2 => hQ M2 k2 (frP_tr f1 f2))
theorem c_rleave_34 {p to kk : Nat} {B : List BkT} {el L l1 : Nat} (hlen : B.length ≤ 600) (hL : MI 124 86 = (L : Nat)) (hB : BlR B MI)
    (hQ : ∀ MI', BlR (B.map (clB el L)) MI' → frP (fun i _ => i = 197) MI MI' → (-2147483648 ≤ 600 * (MI' 124 7) ∧ 600 * (MI' 124 7) < 2147483648) ∧ (-2147483648 ≤ (600 * (MI' 124 7)) + (el : Nat) ∧ (600 * (MI' 124 7)) + (el : Nat) < 2147483648) ∧ (0 ≤ ((600 * (MI' 124 7)) + (el : Nat)) ∧ ((600 * (MI' 124 7)) + (el : Nat)) < 1200) ∧ wp cs mX12_leave KD Q 2 [some (vR 124), some (vI (l1 : Nat)), some (vI (to : Nat)), some (vI (MI' 131 ((600 * (MI' 124 7)) + (el : Nat)).toNat)), none] [] (KD, MI', ML, (GR d e nw th x))) :
    wp cs mX12_leave KD Q 34 [some (vR 124), some (vI (l1 : Nat)), some (vI (to : Nat)), some (vI (el : Nat)), some (vI 0)] [] (KD, MI, ML, GR d e nw th x) := by
  have loop : ∀ (m i : Nat) (M : Nat → Nat → Int), i + m = B.length → frP (fun i _ => i = 197) MI M → (∀ (j : Nat) (b : BkT), B[j]? = some b → M 197 j = (((if j < i then (clB el L b).2.2 else b.2.2) : Nat) : Int)) →
      wp cs mX12_leave KD Q 34 [some (vR 124), some (vI (l1 : Nat)), some (vI (to : Nat)), some (vI (el : Nat)), some (vI (i : Nat))] [] (KD, M, ML, GR d e nw th x) := by
    intro m
    induction m with
    | zero =>
      intro i M hi hf hM
      have g95 : M 124 95 = (B.length : Nat) := by rw [hf 124 95 (by omega)]; exact hB.1
      refine v_X12_leave_34 ?_
      rw [g95]
      refine ⟨fun z => by omega, fun _ => hQ M ⟨by rw [List.length_map]; exact g95, fun j b' hb' => ?_⟩ hf⟩
      rw [List.getElem?_map] at hb'
      cases hbj : B[j]? with
      | none => rw [hbj] at hb'; simp at hb'
      | some b =>
        rw [hbj] at hb'
        simp only [Option.map_some, Option.some.injEq] at hb'
        subst hb'
        have hjl := (List.getElem?_eq_some_iff.mp hbj).1
        obtain ⟨b1, b2, b3⟩ := hB.2 j b hbj
        have := hM j b hbj
        rw [if_pos (by omega)] at this
        rw [(clB_1 el L b).1, (clB_1 el L b).2]
        exact ⟨by rw [hf 200 j (by omega)]; exact b1, by rw [hf 196 j (by omega)]; exact b2, this⟩
    | succ m ih =>
      intro i M hi hf hM
      have g95 : M 124 95 = (B.length : Nat) := by rw [hf 124 95 (by omega)]; exact hB.1
      have g86 : M 124 86 = (L : Nat) := by rw [hf 124 86 (by omega)]; exact hL
      obtain ⟨b, hb⟩ : ∃ b, B[i]? = some b := ⟨_, List.getElem?_eq_getElem (by omega)⟩
      obtain ⟨b1, b2, b3⟩ := hB.2 i b hb
      have g200 : M 200 i = (b.1 : Nat) := by rw [hf 200 i (by omega)]; exact b1
      have g197 : M 197 i = (b.2.2 : Nat) := by have := hM i b hb; rw [if_neg (by omega)] at this; exact this
      refine v_X12_leave_34 ?_
      simp only [Int.toNat_natCast]
      rw [g95, g200, g86, g197, show ((i : Nat) : Int) + 1 = ((i + 1 : Nat) : Int) by omega]
      have nxt : ∀ v : Int, v = (((clB el L b).2.2 : Nat) : Int) → wp cs mX12_leave KD Q 34 [some (vR 124), some (vI (l1 : Nat)), some (vI (to : Nat)), some (vI (el : Nat)), some (vI ((i + 1 : Nat) : Int))] [] (KD, up2 M 197 i v, ML, GR d e nw th x) := by
        intro v hv
        refine ih (i + 1) _ (by omega) (frP_tr hf (frP_up rfl)) (fun j c hc => ?_)
        by_cases hji : j = i
        · subst hji
          rw [hb] at hc; cases hc
          rw [up2_eq, if_pos (by omega)]; exact hv
        · rw [up2_nk hji, hM j c hc]
          by_cases hjl : j < i
          · rw [if_pos hjl, if_pos (by omega)]
          · rw [if_neg hjl, if_neg (by omega)]
      refine ⟨fun _ => ⟨by omega, fun he => ?_, fun he => ?_⟩, fun z => by omega⟩
      · rintro _ rfl
        refine ⟨by omega, nxt _ ?_⟩
        unfold clB; rw [if_pos (by omega)]
      · rintro _ rfl
        refine ⟨by omega, nxt _ ?_⟩
        unfold clB; rw [if_neg (fun w => he (by rw [w]))]
  exact loop B.length 0 MI (by omega) (frP_rfl _ _) (fun j b hb => by rw [if_neg (by omega)]; exact (hB.2 j b hb).2.2)
/-- from el up to p -/
theorem c_rleave {p to kk K l1 : Nat} (hW : WfN D.2.1) (hp6 : pos ≤ 2000) (hw : 0 < wd) (hw6 : wd ≤ 60) (hpl : p < D.2.1.length) (htl : to < D.2.1.length) (hK : K ≤ 600)
    (hst : ∀ q, 0 < q → q < K → p ≤ q → q < eS D.2.1 p → (q ≤ to ∧ to < eS D.2.1 q ↔ q = p)) (hcl : ∀ q, 0 < q → q < K → p ≤ q → q < eS D.2.1 p → q ≠ p → eS D.2.1 q ≤ kk) (hen : ∀ q ∈ uB D.2.1 p, kk < eS D.2.1 q) :
    ∀ (el : Nat) (st : List (Nat × Nat)) (m : SM) (ks : List (Nat × Nat)) (B : List BkT) (MI : Nat → Nat → Int), el < K → el < D.2.1.length → p ≤ el → el < eS D.2.1 p → st.map (fun q => q.1) = uB D.2.1 el → SbI D.2.1 wd pos (m, st, ks) → HldR bk TD nD pl D MI ML → ComR D.2.1 (allX D.2.1) wd 0 m MI → BlR B MI → BlI D.2.1 K B st ks → B.length ≤ K →
    (∀ MI' B', ComR D.2.1 (allX D.2.1) wd 0 (clsS D.2.1 (allX D.2.1) wd kk st m ks).1 MI' → BlR B' MI' → BlI D.2.1 K B' (clsS D.2.1 (allX D.2.1) wd kk st m ks).2.1 (clsS D.2.1 (allX D.2.1) wd kk st m ks).2.2 → B'.length = B.length → (clsS D.2.1 (allX D.2.1) wd kk st m ks).2.1.map (fun q => q.1) = uB D.2.1 p → frP chSR MI MI' → Q (some (vI (p : Nat))) (MI', ML, GR d e nw th x)) →
    wp cs mX12_leave KD Q 2 [some (vR 124), some (vI (l1 : Nat)), some (vI (to : Nat)), some (vI (el : Nat)), none] [] (KD, MI, ML, GR d e nw th x) := by
  intro el
  induction el using Nat.strongRecOn with
  | _ el ih =>
    intro st m ks B MI hK1 hell hpe hes hmap hI hH hC hB hBI hBl hQ
    have p7 := hH.1.2.2.2.2.2.2
    have h600 := hH.1.2.1.2.1
    have stop : el = p → Q (some (vI (el : Nat))) (MI, ML, GR d e nw th x) := by
      intro he
      have hc : clsS D.2.1 (allX D.2.1) wd kk st m ks = (m, st, ks) := by
        cases st with
        | nil => rfl
        | cons eo t =>
          have : eo.1 ∈ uB D.2.1 p := by rw [← he, ← hmap, List.map_cons]; exact List.mem_cons_self
          have := hen _ this
          rw [clsS, if_neg (by omega)]
      rw [hc] at hQ
      rw [he] at hmap
      rw [he]
      exact hQ MI B hC hB hBI rfl hmap (frP_rfl _ _)
    refine v_X12_leave_2 ⟨fun h0 => c_isWithin hH hW htl hell (rI_mk ?_), fun h0 => stop (by omega)⟩
    have h0' : 0 < el := by omega
    by_cases hep : el = p
    · have := (hst el h0' hK1 hpe hes).mpr hep
      rw [if_pos this]
      exact ⟨fun z => by omega, fun _ => stop hep⟩
    · rw [if_neg (fun z => hep ((hst el h0' hK1 hpe hes).mp z))]
      refine ⟨fun _ => ?_, fun z => absurd rfl z⟩
      obtain ⟨y, hy⟩ : ∃ y, D.2.1[el]? = some y := ⟨_, List.getElem?_eq_getElem hell⟩
      have hu := (hW.2 el y hy h0').2.1
      have hup : p ≤ y.2.1.toNat ∧ y.2.1.toNat < eS D.2.1 p := by
        rcases (in_up hW hpl hy h0').mp ⟨hpe, hes⟩ with z | z
        · exact absurd z hep
        · exact z
      have hA := hH.1.2.1.2.2 el y hy
      have ei : (600 * (bk : Int) + ((el : Nat) : Int)).toNat = 600 * bk + el := by omega
      have eu : y.2.1 = ((y.2.1.toNat : Nat) : Int) := by omega
      rw [uB_s hW hy h0'] at hmap
      refine c_risBlock hH hW hell (rI_mk ?_)
      by_cases hb : blkB D.2.1 el = true
      · rw [if_pos hb] at hmap ⊢
        refine ⟨fun z => by omega, fun _ => ?_⟩
        cases st with
        | nil => simp at hmap
        | cons eo t =>
          rw [List.map_cons, List.singleton_append] at hmap
          have he1 : eo.1 = el := (List.cons.inj hmap).1
          have hmt := (List.cons.inj hmap).2
          have hcle := hcl el h0' hK1 hpe hes hep
          rw [clsS, if_pos (by rw [he1]; exact hcle), he1] at hQ
          have hIm : SmI (allX D.2.1) wd pos m := hI.1
          have hnt : eo.1 ∉ t.map (fun q => q.1) := fun z => by
            have := Nest_lt (ns := D.2.1) (a := eo.1) (t := t.map fun (q : Nat × Nat) => q.1) hI.2.1 _ z
            omega
          refine c_rendL hC hIm hW hp6 hw hw6 (fun M1 k1 f1 => rV_mk ?_)
          have hB1 := BlR_fr hB f1 chLR_B
          have hH1 := HldR_ln hH f1 chLR_191
          have hlenL := endL_len (allX D.2.1) wd m
          have hIe := endL_I hw hIm
          have hL2 : (endL (allX D.2.1) wd m).1.length ≤ 2000 := by
            have h1 := hIe.1.1
            have h2 := sumL_ge hIe.1.2.2.2.2
            have : tot (endL (allX D.2.1) wd m) = sumL (endL (allX D.2.1) wd m).1 + (endL (allX D.2.1) wd m).2.1.1.length := rfl
            omega
          refine c_rleave_34 (p := p) (kk := kk) (B := B) (L := (endL (allX D.2.1) wd m).1.length) (by omega) k1.1 hB1 (fun M2 k2 f2 => ?_)
          have hH2 := HldR_ln (P := chSR) hH1 (frP_mono f2 (fun i k z => by unfold chSR; omega)) (fun i k z => z)
          have hA2 := hH2.1.2.1.2.2 el y hy
          have f12 : frP chSR MI M2 := frP_tr (frP_mono f1 (fun i k z => chLR_191 i k z)) (frP_mono f2 (fun i k z => by unfold chSR; omega))
          rw [hH2.2.1, ei, hA2.2.1]
          refine ⟨by omega, by omega, by omega, ?_⟩
          rw [eu]
          refine ih y.2.1.toNat (by omega) t (endL (allX D.2.1) wd m) (if kepB D.2.1 el = true then ks ++ [(eo.2, (endL (allX D.2.1) wd m).1.length)] else ks) (B.map (clB el (endL (allX D.2.1) wd m).1.length)) M2 (by omega) (by omega) hup.1 hup.2 hmt ⟨hIe.1, Nest_tl hI.2.1, fun q hq => Nat.le_trans (hI.2.2 q (List.mem_cons_of_mem _ hq)) hlenL⟩ hH2 (ComR_fr k1 f2 (fun i k z => Or.inr (Or.inl z))) k2 (by have := BlI_cls (L := (endL (allX D.2.1) wd m).1.length) hBI hnt hL2; rw [he1] at this; exact this) (by rw [List.length_map]; exact hBl) (fun M3 B3 r1 r2 r3 r4 r5 r6 => ?_)
          exact hQ M3 B3 r1 r2 r3 (by rw [r4, List.length_map]) r5 (frP_tr f12 r6)
      · rw [if_neg hb] at hmap ⊢
        rw [List.nil_append] at hmap
        refine ⟨fun _ => ?_, fun z => absurd rfl z⟩
        rw [hH.2.1, ei, hA.2.1]
        refine ⟨by omega, by omega, by omega, ?_⟩
        rw [eu]
        exact ih y.2.1.toNat (by omega) st m ks B MI (by omega) (by omega) hup.1 hup.2 hmap hI hH hC hB hBI hBl hQ
theorem c_beginElement {k : Nat} {c : SB} {B : List BkT} (hW : WfN D.2.1) (hAt : AtW D.2.1) (hp6 : pos ≤ 2000) (hw : 0 < wd) (hw6 : wd ≤ 60) (hk : k < D.2.1.length) (hI : SmI (allX D.2.1) wd pos c.1) (hH : HldR bk TD nD pl D MI ML) (hC : ComR D.2.1 (allX D.2.1) wd 0 c.1 MI) (hB : BlR B MI) (hBI : BlI D.2.1 k B c.2.1 c.2.2) (hBl : B.length ≤ k)
    (hN : blkB D.2.1 k ≠ true → Q none (MI, ML, GR d e nw th x))
    (hQ : blkB D.2.1 k = true → ∀ MI' B', ComR D.2.1 (allX D.2.1) wd 0 (endL (allX D.2.1) wd c.1) MI' → BlR B' MI' → BlI D.2.1 (k + 1) B' ((k, (endL (allX D.2.1) wd c.1).1.length) :: c.2.1) c.2.2 → B'.length ≤ k + 1 → frP chSR MI MI' → Q none (MI', ML, GR d e nw th x)) :
    wp cs mX12_beginElement KD Q 0 (padL [vR 124, vI (k : Nat)] 2) [] (KD, MI, ML, GR d e nw th x) := by
  have h600 := hH.1.2.1.2.1
  refine v_X12_beginElement_0 (c_risBlock hH hW hk (rI_mk ?_))
  by_cases hb : blkB D.2.1 k = true
  · rw [if_pos hb]
    have hQ := hQ hb
    refine ⟨fun z => by omega, fun _ => c_rendL hC hI hW hp6 hw hw6 (fun M1 k1 f1 => rV_mk ?_)⟩
    have hB1 := BlR_fr hB f1 chLR_B
    have hH1 := HldR_ln hH f1 chLR_191
    have f1' : frP chSR MI M1 := frP_mono f1 (fun i k z => chLR_191 i k z)
    have hL2 : (endL (allX D.2.1) wd c.1).1.length ≤ 2000 := by
      have hIe := endL_I hw hI
      have h1 := hIe.1.1
      have h2 := sumL_ge hIe.1.2.2.2.2
      have : tot (endL (allX D.2.1) wd c.1) = sumL (endL (allX D.2.1) wd c.1).1 + (endL (allX D.2.1) wd c.1).2.1.1.length := rfl
      omega
    have hop := BlI_opn (L := (endL (allX D.2.1) wd c.1).1.length) hBI hL2
    refine c_risKept hH1 hW hAt hk (rI_mk ?_)
    by_cases hkp : kepB D.2.1 k = true
    · rw [if_pos hkp] at hop ⊢
      refine ⟨fun z => by omega, fun _ => ?_⟩
      obtain ⟨L, hL⟩ : ∃ L, L = (endL (allX D.2.1) wd c.1).1.length := ⟨_, rfl⟩
      rw [← hL] at hop hQ
      have g86 : M1 124 86 = ((L : Nat) : Int) := by rw [hL]; exact k1.1
      have g95 := hB1.1
      rw [g95]
      simp only [Int.toNat_natCast]
      refine ⟨by omega, ?_⟩
      rintro _ rfl
      rw [up2_ne (by decide), up2_ne (by decide), g95, g86]
      simp only [Int.toNat_natCast]
      refine ⟨by omega, ?_⟩
      rintro _ rfl
      rw [up2_ne (by decide), up2_ne (by decide), up2_ne (by decide), up2_ne (by decide), g95, g86]
      simp only [Int.toNat_natCast]
      refine ⟨by omega, ?_⟩
      rintro _ rfl
      rw [up2_ne (by decide), up2_ne (by decide), up2_ne (by decide), g95]
      refine ⟨by omega, ?_⟩
      rintro _ rfl
      obtain ⟨M2, hM2⟩ : ∃ M2, M2 = up2 (up2 (up2 (up2 M1 200 B.length ((k : Nat) : Int)) 196 B.length ((L : Nat) : Int)) 197 B.length ((L : Nat) : Int)) 124 95 (((B.length : Nat) : Int) + 1) := ⟨_, rfl⟩
      rw [← hM2]
      have f2 : frP (fun i k => i = 196 ∨ i = 197 ∨ i = 200 ∨ (i = 124 ∧ k = 95)) M1 M2 := by
        rw [hM2]
        exact frP_tr (frP_up (by omega)) (frP_tr (frP_up (by omega)) (frP_tr (frP_up (by omega)) (frP_up (by omega))))
      have n95 : M2 124 95 = ((B.length + 1 : Nat) : Int) := by rw [hM2, up2_eq]; omega
      have nl : M2 200 B.length = ((k : Nat) : Int) ∧ M2 196 B.length = ((L : Nat) : Int) ∧ M2 197 B.length = ((L : Nat) : Int) := by
        rw [hM2]
        refine ⟨?_, ?_, ?_⟩
        · rw [up2_ne (by decide), up2_ne (by decide), up2_ne (by decide), up2_eq]
        · rw [up2_ne (by decide), up2_ne (by decide), up2_eq]
        · rw [up2_ne (by decide), up2_eq]
      have no : ∀ i j, i ≠ 124 → j ≠ B.length → M2 i j = M1 i j := fun i j i1 j1 => by
        rw [hM2, up2_ne i1]
        have a : ∀ (A : Nat → Nat → Int) (r : Nat) (v : Int), up2 A r B.length v i j = A i j := fun A r v => by
          by_cases h : i = r
          · subst h; exact up2_nk j1 _
          · exact up2_ne h _
        rw [a, a, a]
      clear hM2
      refine hQ M2 (B ++ [(k, L, L)]) (ComR_fr k1 f2 (fun i k z => z)) ⟨by rw [n95]; simp, fun j b hbj => ?_⟩ hop (by simp; omega) (frP_tr f1' (frP_mono f2 (fun i k z => by unfold chSR; omega)))
      by_cases hjl : j < B.length
      · rw [List.getElem?_append_left hjl] at hbj
        rw [no 200 j (by decide) (by omega), no 196 j (by decide) (by omega), no 197 j (by decide) (by omega)]
        exact hB1.2 j b hbj
      · have h2 := (List.getElem?_eq_some_iff.mp hbj).1
        simp only [List.length_append, List.length_singleton] at h2
        have h3 : j = B.length := by omega
        subst h3
        rw [List.getElem?_append_right (Nat.le_refl _)] at hbj
        simp at hbj
        subst hbj
        exact nl
    · rw [if_neg hkp] at hop ⊢
      exact ⟨fun _ => hQ M1 B k1 hB1 hop (by omega) f1', fun z => absurd rfl z⟩
  · rw [if_neg hb]
    exact ⟨fun _ => hN hb, fun z => absurd rfl z⟩
end Pf10
