/-! What holds between two calls of the law. -/
theorem wR_30 {i : Nat} (h : (144 ≤ i ∧ i ≤ 147) ∨ (150 ≤ i ∧ i ≤ 152)) : wR i = 30 := by unfold wR; (repeat' split) <;> omega
theorem wR_1200 {i : Nat} (h : i = 148 ∨ i = 149 ∨ i = 153) : wR i = 1200 := by unfold wR; (repeat' split) <;> omega
theorem wR_800 {i : Nat} (h : 155 ≤ i ∧ i ≤ 163) : wR i = 800 := by unfold wR; (repeat' split) <;> omega
theorem wR_600 {i : Nat} (h : 130 ≤ i ∧ i ≤ 137) : wR i = 600 := by unfold wR; (repeat' split) <;> omega
/-- what one bank says hangs on this bank alone -/
theorem PicR_bk {bk pl : Nat} {T : Nat → Int} {n : Int} {D : Dm} {MI ML MI' ML' : Nat → Nat → Int} (h : PicR bk T n pl D MI ML) (f : ∀ i k, 127 ≤ i → i ≤ 167 → wR i * bk ≤ k → k < wR i * (bk + 1) → MI' i k = MI i k ∧ ML' i k = ML i k) : PicR bk T n pl D MI' ML' := by
  obtain ⟨⟨q1, q2, q3, q4⟩, p2, p3, p4, p5, p6, p7⟩ := h
  have one : ∀ i, 127 ≤ i → i ≤ 167 → wR i = 1 → MI' i bk = MI i bk := fun i a c e => (f i bk a c (by rw [e]; omega) (by rw [e]; omega)).1
  have pool : ∀ k : Nat, k < pl → MI' 138 (2000 * bk + k) = MI 138 (2000 * bk + k) := fun k hk => (f 138 _ (by decide) (by decide) (by rw [show wR 138 = 2000 from rfl]; omega) (by rw [show wR 138 = 2000 from rfl]; omega)).1
  refine ⟨⟨?_, ⟨?_, q2.2.1, fun j q hq => ?_⟩, ⟨?_, q3.2.1, fun r q hq => ?_⟩, ⟨?_, fun j q hq => ?_, fun r hr => ?_⟩⟩, ⟨?_, p2.2.1, fun k y hy => ?_⟩, ?_, p4, fun k hk => ?_, p6, p7⟩
  · unfold DtR at q1 ⊢
    rw [one 127 (by decide) (by decide) rfl, one 141 (by decide) (by decide) rfl, one 142 (by decide) (by decide) rfl]; exact q1
  · rw [one 143 (by decide) (by decide) rfl]; exact q2.1
  · have hj := (List.getElem?_eq_some_iff.mp hq).1
    have hd := q2.2.1
    refine DecA_fr (q2.2.2 j q hq) (fun i a c n1 n2 => f i _ (by omega) (by omega) ?_ ?_) (fun i k a c e => f i k (by omega) (by omega) ?_ ?_)
    · rw [wR_30 (by omega)]; omega
    · rw [wR_30 (by omega)]; omega
    · rw [wR_1200 a]; omega
    · rw [wR_1200 a]; omega
  · rw [one 154 (by decide) (by decide) rfl]; exact q3.1
  · have hr := (List.getElem?_eq_some_iff.mp hq).1
    have hd := q3.2.1
    refine RuAR_fr (q3.2.2 r q hq) (fun i a c => (f i _ (by omega) (by omega) ?_ ?_).1) (fun i k a c e => (f i k (by omega) (by omega) ?_ ?_).1) pool (Nat.le_refl _)
    · rw [wR_800 ⟨a, c⟩]; omega
    · rw [wR_800 ⟨a, c⟩]; omega
    · rw [show wR i = 6400 by rcases a with a | a <;> subst a <;> rfl]; omega
    · rw [show wR i = 6400 by rcases a with a | a <;> subst a <;> rfl]; omega
  · rw [one 167 (by decide) (by decide) rfl]; exact q4.1
  · have hj := (List.getElem?_eq_some_iff.mp hq).1
    have hd := q2.2.1
    have hr := q3.2.1
    have := q4.2.1 j q hq
    refine ⟨this.1, ?_⟩
    rw [(f 166 _ (by decide) (by decide) (by rw [show wR 166 = 850 from rfl]; omega) (by rw [show wR 166 = 850 from rfl]; omega)).1]
    exact this.2
  · have hd := q2.2.1
    have hr' := q3.2.1
    have hc : cntD D.1.2.1 r ≤ D.1.2.1.length := List.length_filter_le _ _
    rw [(f 166 _ (by decide) (by decide) (by rw [show wR 166 = 850 from rfl]; omega) (by rw [show wR 166 = 850 from rfl]; omega)).1]
    exact q4.2.2 r hr
  · rw [one 129 (by decide) (by decide) rfl]; exact p2.1
  · have hk := (List.getElem?_eq_some_iff.mp hy).1
    have h6 := p2.2.1
    refine NdRA_fr (p2.2.2 k y hy) (fun i a c => (f i _ (by omega) (by omega) ?_ ?_).1) pool (Nat.le_refl _)
    · rw [wR_600 ⟨a, c⟩]; omega
    · rw [wR_600 ⟨a, c⟩]; omega
  · rw [one 140 (by decide) (by decide) rfl]; exact p3
  · rw [(f 128 _ (by decide) (by decide) (by rw [show wR 128 = 6000 from rfl]; omega) (by rw [show wR 128 = 6000 from rfl]; omega)).1]
    exact p5 k hk
theorem PicR_rw {bk pl : Nat} {T : Nat → Int} {n : Int} {D : Dm} {MI ML MI' ML' : Nat → Nat → Int} (h : PicR bk T n pl D MI ML) (f : ∀ i, 127 ≤ i → i ≤ 167 → MI' i = MI i ∧ ML' i = ML i) : PicR bk T n pl D MI' ML' :=
  PicR_bk h (fun i k a c _ _ => by rw [(f i a c).1, (f i a c).2]; exact ⟨rfl, rfl⟩)
theorem RefH_rw {D : Dm} {MI ML MI' ML' : Nat → Nat → Int} (h : RefH D MI ML) (f : ∀ i, 127 ≤ i → i ≤ 167 → MI' i = MI i ∧ ML' i = ML i) (f7 : MI' 124 7 = MI 124 7) (f9 : MI' 124 9 = MI 124 9) : RefH D MI' ML' := by
  rcases h with ⟨h1, h2⟩ | ⟨h1, bk, T, n, pl, h2, h3, h4⟩
  · exact Or.inl ⟨h1, by rw [f9]; exact h2⟩
  · exact Or.inr ⟨by rw [f9]; exact h1, bk, T, n, pl, PicR_rw h2 f, by rw [f7]; exact h3, ⟨_, rfl⟩⟩
/-- the class's side -/
def CI (D : Dm) (l : List Nat) (L : List Ln) (pg : List (Nat × Nat)) (d : Nat) (MI ML : Nat → Nat → Int) : Prop :=
  (∃ T n N pl, n ≤ 6000 ∧ DocC d T n N pl D.1 D.2.1 [] D.2.2 MI ML) ∧ JuC (judgeS D) MI ∧ ChoC l MI ∧ LinC L pg MI ∧ (∀ k, -128 ≤ MI 1 k ∧ MI 1 k < 128) ∧ (0 ≤ MI 0 10 ∧ MI 0 10 ≤ 6000)
/-- the reference's side -/
def RI (D : Dm) (l : List Nat) (L : List Ln) (pg : List (Nat × Nat)) (MI ML : Nat → Nat → Int) : Prop :=
  RefH D MI ML ∧ (0 ≤ MI 124 7 ∧ MI 124 7 ≤ 1) ∧ (MI 124 9 = 1 → D.2.1 ≠ []) ∧ JuR (judgeS D) MI ∧ ToldR l MI ∧ LinR D.2.1 L pg MI ∧ (∀ k, -128 ≤ MI 125 k ∧ MI 125 k < 128) ∧ (∀ k, -128 ≤ MI 126 k ∧ MI 126 k < 128)
def LkI (MI : Nat → Nat → Int) : Prop := MI 124 1 = MI 0 10 ∧ MI 124 6 = MI 0 11 ∧ ∀ k : Nat, (k : Int) < MI 0 10 → MI 125 k = MI 1 k
def PuI (D : Dm) : Prop := D.2.1 ≠ [] → WfN D.2.1 ∧ AtW D.2.1 ∧ NestB D.2.1
def InvM (M : Mm) : Prop := ∃ D l L pg d e nw th x MI ML, M = (MI, ML, GR d e nw th x) ∧ ((d = 38 ∧ e = 81) ∨ (d = 81 ∧ e = 38)) ∧ (nw = 25 ∧ th = 26 ∨ nw = 26 ∧ th = 25) ∧ CI D l L pg d MI ML ∧ RI D l L pg MI ML ∧ LkI MI ∧ PuI D
def Both (cs : Cs) (mC : Mth) (nC : Nat) (mR : Mth) (nR : Nat) (as : List AV) : Prop := ∀ M, InvM M → wp cs mC KD (fun r M' => ∃ a : Int, r = some (vI a) ∧ wp cs mR KD (fun r' M'' => r' = some (vI a) ∧ InvM M'') 0 (padL (vR 124 :: as) nR) [] (KD, M')) 0 (padL (vR 0 :: as) nC) [] (KD, M)
theorem JuC_rw {fs : Fi} {MI MI' : Nat → Nat → Int} (h : JuC fs MI) (e1 : MI' 11 3 = MI 11 3) (e2 : MI' 12 = MI 12) : JuC fs MI' := by unfold JuC at h ⊢; rw [e1, e2]; exact h
theorem JuR_rw {fs : Fi} {MI MI' : Nat → Nat → Int} (h : JuR fs MI) (e1 : MI' 124 65 = MI 124 65) (e2 : MI' 174 = MI 174) (e3 : MI' 175 = MI 175) : JuR fs MI' := by unfold JuR at h ⊢; rw [e1, e2, e3]; exact h
theorem ChoC_rw {l : List Nat} {MI MI' : Nat → Nat → Int} (h : ChoC l MI) (e1 : MI' 23 1 = MI 23 1) (e2 : MI' 24 = MI 24) : ChoC l MI' := by unfold ChoC at h ⊢; rw [e1, e2]; exact h
theorem ToldR_rw {l : List Nat} {MI MI' : Nat → Nat → Int} (h : ToldR l MI) (e1 : MI' 124 68 = MI 124 68) (e2 : MI' 176 = MI 176) : ToldR l MI' := by unfold ToldR at h ⊢; rw [e1, e2]; exact h
theorem LinC_rw {L : List Ln} {pg : List (Nat × Nat)} {MI MI' : Nat → Nat → Int} (h : LinC L pg MI) (f : ∀ i, 28 ≤ i → i ≤ 34 → MI' i = MI i) : LinC L pg MI' := by
  unfold LinC PagC at h ⊢
  rw [f 28 (by decide) (by decide), f 29 (by decide) (by decide), f 30 (by decide) (by decide), f 31 (by decide) (by decide), f 32 (by decide) (by decide), f 33 (by decide) (by decide), f 34 (by decide) (by decide)]; exact h
theorem LinR_rw {ns : List Nd} {L : List Ln} {pg : List (Nat × Nat)} {MI MI' : Nat → Nat → Int} (h : LinR ns L pg MI) (e1 : MI' 124 86 = MI 124 86) (e2 : MI' 124 87 = MI 124 87) (f : ∀ i, 191 ≤ i → i ≤ 195 → MI' i = MI i) : LinR ns L pg MI' := by
  unfold LinR PagR LnsR CurR at h ⊢
  rw [e1, e2, f 191 (by decide) (by decide), f 192 (by decide) (by decide), f 193 (by decide) (by decide), f 194 (by decide) (by decide), f 195 (by decide) (by decide)]; exact h
theorem CI_rw {D : Dm} {l : List Nat} {L : List Ln} {pg : List (Nat × Nat)} {d : Nat} {MI ML MI' ML' : Nat → Nat → Int} (hd : d = 38 ∨ d = 81) (h : CI D l L pg d MI ML) (f : ∀ i, i ≤ 123 → MI' i = MI i ∧ ML' i = ML i) : CI D l L pg d MI' ML' := by
  obtain ⟨⟨T, n, N, pl, c0, c1⟩, c2, c3, c4, c5, c6⟩ := h
  refine ⟨⟨T, n, N, pl, c0, DocC_fr c1 (fun i a c => (f i (by omega)).1) (fun i a c => (f i (by omega)).2)⟩, JuC_rw c2 (by rw [(f 11 (by decide)).1]) (f 12 (by decide)).1, ChoC_rw c3 (by rw [(f 23 (by decide)).1]) (f 24 (by decide)).1, LinC_rw c4 (fun i a c => (f i (by omega)).1), by rw [(f 1 (by decide)).1]; exact c5, by rw [(f 0 (by decide)).1]; exact c6⟩
theorem RI_rw {D : Dm} {l : List Nat} {L : List Ln} {pg : List (Nat × Nat)} {MI ML MI' ML' : Nat → Nat → Int} (h : RI D l L pg MI ML) (f : ∀ i, 124 ≤ i → i ≤ 200 → MI' i = MI i ∧ ML' i = ML i) : RI D l L pg MI' ML' := by
  obtain ⟨c1, c2, c3, c4, c5, c6, c7, c8⟩ := h
  have e := (f 124 (by decide) (by decide)).1
  exact ⟨RefH_rw c1 (fun i a c => f i (by omega) (by omega)) (by rw [e]) (by rw [e]), by rw [e]; exact c2, by rw [e]; exact c3, JuR_rw c4 (by rw [e]) (f 174 (by decide) (by decide)).1 (f 175 (by decide) (by decide)).1, ToldR_rw c5 (by rw [e]) (f 176 (by decide) (by decide)).1, LinR_rw c6 (by rw [e]) (by rw [e]) (fun i a c => (f i (by omega) (by omega)).1), by rw [(f 125 (by decide) (by decide)).1]; exact c7, by rw [(f 126 (by decide) (by decide)).1]; exact c8⟩
section Pg02
variable {cs : Cs} {a1 a2 : Int}
theorem b_place : Both cs mX11_place 1 mX12_place 1 [] := by
  intro M hI
  obtain ⟨D, l, L, pg, d, e, nw, th, x, MI, ML, rfl, hde, hnt, hC, hR, hL, hP⟩ := hI
  refine w_X11_place ⟨_, rfl, w_X12_place ⟨by rw [hL.2.1], D, l, L, pg, d, e, nw, th, x, MI, ML, rfl, hde, hnt, hC, hR, hL, hP⟩⟩
theorem b_node : Both cs mX11_node 3 mX12_node 7 [vI a1, vI a2] := by
  intro M hI
  obtain ⟨D, l, L, pg, d, e, nw, th, x, MI, ML, rfl, hde, hnt, hC, hR, hL, hP⟩ := hI
  obtain ⟨T, n, N, pl, c0, c1⟩ := hC.1
  exact c_node (by omega) c1 (fun z => (hP z).1) ⟨_, rfl, c_rnode hR.1 (fun z => (hP z).1) ⟨rfl, D, l, L, pg, d, e, nw, th, x, MI, ML, rfl, hde, hnt, hC, hR, hL, hP⟩⟩
theorem b_name (h2 : -2147483648 ≤ a2 ∧ a2 < 2147483648) : Both cs mX11_name 3 mX12_name 3 [vI a1, vI a2] := by
  intro M hI
  obtain ⟨D, l, L, pg, d, e, nw, th, x, MI, ML, rfl, hde, hnt, hC, hR, hL, hP⟩ := hI
  obtain ⟨T, n, N, pl, c0, c1⟩ := hC.1
  exact c_name (by omega) c0 c1 ⟨_, rfl, c_rname h2 hR.1 (fun z => (hP z).1) ⟨rfl, D, l, L, pg, d, e, nw, th, x, MI, ML, rfl, hde, hnt, hC, hR, hL, hP⟩⟩
theorem b_string (h2 : -2147483648 ≤ a2 ∧ a2 < 2147483648) : Both cs mX11_string 3 mX12_string 3 [vI a1, vI a2] := by
  intro M hI
  obtain ⟨D, l, L, pg, d, e, nw, th, x, MI, ML, rfl, hde, hnt, hC, hR, hL, hP⟩ := hI
  obtain ⟨T, n, N, pl, c0, c1⟩ := hC.1
  exact c_string (by omega) c1 (fun z => (hP z).1) ⟨_, rfl, c_rstring h2 hR.1 (fun z => (hP z).1) ⟨rfl, D, l, L, pg, d, e, nw, th, x, MI, ML, rfl, hde, hnt, hC, hR, hL, hP⟩⟩
theorem b_findings : Both cs mX11_findings 1 mX12_findings 1 [] := by
  intro M hI
  obtain ⟨D, l, L, pg, d, e, nw, th, x, MI, ML, rfl, hde, hnt, hC, hR, hL, hP⟩ := hI
  obtain ⟨T, n, N, pl, c0, c1⟩ := hC.1
  exact c_findings (by omega) c1 hC.2.1 ⟨_, rfl, c_rfindings hR.1 hR.2.2.2.1 ⟨rfl, D, l, L, pg, d, e, nw, th, x, MI, ML, rfl, hde, hnt, hC, hR, hL, hP⟩⟩
theorem b_finding : Both cs mX11_finding 3 mX12_finding 3 [vI a1, vI a2] := by
  intro M hI
  obtain ⟨D, l, L, pg, d, e, nw, th, x, MI, ML, rfl, hde, hnt, hC, hR, hL, hP⟩ := hI
  exact c_finding (by omega) hC.2.1 ⟨_, rfl, c_rfinding hR.1 hR.2.2.2.1 ⟨rfl, D, l, L, pg, d, e, nw, th, x, MI, ML, rfl, hde, hnt, hC, hR, hL, hP⟩⟩
theorem b_line : Both cs mX11_line 3 mX12_line 3 [vI a1, vI a2] := by
  intro M hI
  obtain ⟨D, l, L, pg, d, e, nw, th, x, MI, ML, rfl, hde, hnt, hC, hR, hL, hP⟩ := hI
  obtain ⟨T, n, N, pl, c0, c1⟩ := hC.1
  exact c_line (by omega) (fun z => (hP z).1) c1 hC.2.2.2.1 ⟨_, rfl, c_rline hR.2.2.2.2.2.1 ⟨rfl, D, l, L, pg, d, e, nw, th, x, MI, ML, rfl, hde, hnt, hC, hR, hL, hP⟩⟩
theorem b_at : Both cs mX11_at 3 mX12_at 3 [vI a1, vI a2] := by
  intro M hI
  obtain ⟨D, l, L, pg, d, e, nw, th, x, MI, ML, rfl, hde, hnt, hC, hR, hL, hP⟩ := hI
  exact c_at (by omega) hC.2.2.2.1 ⟨_, rfl, c_rat hR.2.2.2.2.2.1 ⟨rfl, D, l, L, pg, d, e, nw, th, x, MI, ML, rfl, hde, hnt, hC, hR, hL, hP⟩⟩
theorem b_told : Both cs mX11_told 2 mX12_told 2 [vI a1] := by
  intro M hI
  obtain ⟨D, l, L, pg, d, e, nw, th, x, MI, ML, rfl, hde, hnt, hC, hR, hL, hP⟩ := hI
  obtain ⟨k1, k2, k3⟩ := hC.2.2.1
  obtain ⟨r1, r2, r3⟩ := hR.2.2.2.2.1
  have fin : InvM (MI, ML, GR d e nw th x) := ⟨D, l, L, pg, d, e, nw, th, x, MI, ML, rfl, hde, hnt, hC, hR, hL, hP⟩
  refine w_X11_told (by omega) (fun h => ⟨_, rfl, w_X12_told (by omega) (fun h' => ⟨?_, fin⟩) (fun h' => absurd h (by omega))⟩) (fun h => ⟨_, rfl, w_X12_told (by omega) (fun h' => absurd h' (by omega)) (fun h' => ⟨rfl, fin⟩)⟩)
  obtain ⟨y, hy⟩ : ∃ y, l[a1.toNat]? = some y := ⟨_, List.getElem?_eq_getElem (by omega)⟩
  rw [k3 _ y hy, r3 _ y hy]
theorem cnt_eq {D : Dm} {l : List Nat} {L : List Ln} {pg : List (Nat × Nat)} {d : Nat} {MI ML : Nat → Nat → Int} {k : Int} (hC : CI D l L pg d MI ML) (hR : RI D l L pg MI ML) (hL : LkI MI) : cntR MI k = cntC MI d k := by
  obtain ⟨⟨T, n, N, pl, c0, c1⟩, c2, c3, c4, c5, c6⟩ := hC
  obtain ⟨r1, r2, r3, r4, r5, r6, r7, r8⟩ := hR
  obtain ⟨d1, d2, d3, d4, d5, d6, d7, d8⟩ := c1
  have e0 : atR MI 129 = (D.2.1.length : Nat) ∧ atR MI 143 = (D.1.2.1.length : Nat) ∧ atR MI 154 = (D.1.2.2.length : Nat) ∧ atR MI 140 = D.2.2 := by
    unfold atR
    rcases r1 with ⟨h1, h2⟩ | ⟨h1, bk, T', n', pl', ⟨⟨q1, q2, q3, q4⟩, p2, p3, p4, p5, p6, p7⟩, h3, h4⟩
    · rw [if_pos h2, if_pos h2, if_pos h2, if_pos h2, h1]; exact ⟨rfl, rfl, rfl, rfl⟩
    · have hn : ¬ MI 124 9 = 0 := by omega
      rw [if_neg hn, if_neg hn, if_neg hn, if_neg hn, h3, Int.toNat_natCast]
      exact ⟨p2.1, q2.1, q3.1, p3⟩
  have e86 : MI 124 86 = MI 28 16 := by rw [r6.1, c4.1]
  have e4 : (if MI 124 86 = 0 then 0 else MI 124 87) = MI 28 17 := by
    have h17 := c4.2.2.2.2.2.2.2
    have hpl := r6.2.2.1
    split
    · next h =>
      rw [h17]
      have : pg = [] := List.eq_nil_of_length_eq_zero (by rw [r6.1] at h; omega)
      rw [this]; rfl
    · next h =>
      rw [h17]
      refine r6.2.2.2.2.2.2 (fun z => h ?_)
      rw [r6.1, ← hpl, z]; rfl
  unfold cntR cntC
  rw [e0.1, e0.2.1, e0.2.2.1, e0.2.2.2, e4, e86, hL.1, d5.1, d3.1, d4.1, d8]
theorem b_count : Both cs mX11_count 2 mX12_count 2 [vI a1] := by
  intro M hI
  obtain ⟨D, l, L, pg, d, e, nw, th, x, MI, ML, rfl, hde, hnt, hC, hR, hL, hP⟩ := hI
  exact w_X11_count (by omega) ⟨_, rfl, w_X12_count hR.2.1 ⟨by rw [cnt_eq hC hR hL], D, l, L, pg, d, e, nw, th, x, MI, ML, rfl, hde, hnt, hC, hR, hL, hP⟩⟩
end Pg02
