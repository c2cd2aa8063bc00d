/-! The reference's judgement of declarations. -/
def HldJ (bk : Nat) (T : Nat → Int) (n : Int) (pl : Nat) (D : Dm) (MI ML : Nat → Nat → Int) : Prop := PicR bk T n pl D MI ML ∧ MI 124 7 = (bk : Int) ∧ MI 124 8 = (bk : Int)
def jfrR (MI MI' : Nat → Nat → Int) : Prop := (∀ i, i ≠ 124 → i ≠ 174 → i ≠ 175 → MI' i = MI i) ∧ ∀ k, k ≠ 65 → MI' 124 k = MI 124 k
theorem jfrR_rfl (MI : Nat → Nat → Int) : jfrR MI MI := ⟨fun _ _ _ _ => rfl, fun _ _ => rfl⟩
theorem jfrR_tr {A B C : Nat → Nat → Int} (h : jfrR A B) (k : jfrR B C) : jfrR A C := ⟨fun i h1 h2 h3 => (k.1 i h1 h2 h3).trans (h.1 i h1 h2 h3), fun j hj => (k.2 j hj).trans (h.2 j hj)⟩
def JuR (fs : Fi) (MI : Nat → Nat → Int) : Prop := MI 124 65 = (fs.length : Nat) ∧ fs.length ≤ 8000 ∧ ∀ (i : Nat) (a s : Int), fs[i]? = some (a, s) → MI 174 i = a ∧ MI 175 i = s
section Pb07
variable {cs : Cs} {Q : Option AV → Mm → Prop} {MI ML : Nat → Nat → Int} {bk d e nw th x pl : Nat} {T : Nat → Int} {n : Int} {fs : Fi} {D : Dm}
theorem HldJ_j {MI' : Nat → Nat → Int} (h : HldJ bk T n pl D MI ML) (f : jfrR MI MI') : HldJ bk T n pl D MI' ML := by
  obtain ⟨⟨p1, p2, p3, p4, p5, p6, p7⟩, h7, h8⟩ := h
  have r : ∀ i, i ≠ 124 → i ≠ 174 → i ≠ 175 → MI' i = MI i := f.1
  exact ⟨⟨DclR_fr p1 (fun i hi => ⟨r i (by omega) (by omega) (by omega), rfl⟩) (fun k _ => by rw [r 138 (by decide) (by decide) (by decide)]) (Nat.le_refl _), ⟨by rw [r 129 (by decide) (by decide) (by decide)]; exact p2.1, p2.2.1, fun k y hy => NdRA_fr (p2.2.2 k y hy) (fun i _ _ => by rw [r i (by omega) (by omega) (by omega)]) (fun k _ => by rw [r 138 (by decide) (by decide) (by decide)]) (Nat.le_refl _)⟩, by rw [r 140 (by decide) (by decide) (by decide)]; exact p3, p4, fun k hk => by rw [r 128 (by decide) (by decide) (by decide)]; exact p5 k hk, p6, p7⟩, by rw [f.2 7 (by decide)]; exact h7, by rw [f.2 8 (by decide)]; exact h8⟩
theorem c_tell {a s : Int} (hJ : JuR fs MI) (hl : fs.length < 8000) (hQ : ∀ MI', JuR (fs ++ [(a, s)]) MI' → jfrR MI MI' → Q none (MI', ML, GR d e nw th x)) :
    wp cs mX12_tellFinding KD Q 0 (padL [vR 124, vI a, vI s] 3) [] (KD, MI, ML, GR d e nw th x) := by
  refine v_X12_tellFinding_0 ?_
  rw [hJ.1]
  simp only [Int.toNat_natCast]
  refine ⟨by omega, fun m9 e9 => ?_⟩
  have k1 : m9 124 65 = (fs.length : Nat) := by rw [e9, up2_ne (by decide)]; exact hJ.1
  rw [k1]
  simp only [Int.toNat_natCast]
  refine ⟨by omega, fun m19 e19 => ?_⟩
  have k2 : m19 124 65 = (fs.length : Nat) := by rw [e19, up2_ne (by decide)]; exact k1
  rw [k2]
  refine ⟨by omega, fun m27 e27 => ?_⟩
  refine hQ m27 ⟨by rw [e27, up2_eq]; simp, by simp; omega, fun i a' s' hi => ?_⟩ ⟨fun i h1 h2 h3 => by rw [e27, e19, e9]; funext k; rw [up2_ne h1, up2_ne h3, up2_ne h2], fun k hk => by rw [e27, up2_nk hk, e19, up2_ne (by decide), e9, up2_ne (by decide)]⟩
  rcases last_of hi with ⟨hj1, hj2⟩ | ⟨rfl, hj⟩
  · rw [e27, up2_ne (by decide), up2_ne (by decide), e19, up2_ne (by decide), up2_nk (by omega), e9, up2_nk (by omega), up2_ne (by decide)]; exact hJ.2.2 i a' s' hj2
  · cases hj
    rw [e27, up2_ne (by decide), up2_ne (by decide), e19, up2_ne (by decide), up2_eq, e9, up2_eq]; exact ⟨rfl, rfl⟩
theorem c_rdeclOf_l {F L : Int} {o : By} (hH : HldJ bk T n pl D MI ML) (ho : nmR bk T n F L o)
    (hQ : Q (some (vI (if fIdx (clN o) D.1.2.1 0 = -1 then -1 else 30 * (bk : Int) + fIdx (clN o) D.1.2.1 0))) (MI, ML, GR d e nw th x)) :
    ∀ (u pre : List Dc), pre ++ u = D.1.2.1 → fIdx (clN o) u pre.length = fIdx (clN o) D.1.2.1 0 → wp cs mX12_declOf KD Q 8 [some (vR 124), some (vI F), some (vI L), some (vI ((30 * bk + pre.length : Nat) : Int))] [] (KD, MI, ML, GR d e nw th x) := by
  obtain ⟨⟨p1, p2, p3, p4, p5, p6, p7⟩, h7, h8⟩ := hH
  have hD := p1.2.1
  have h30 := hD.2.1
  intro u
  induction u with
  | nil =>
    intro pre hp hf
    rw [List.append_nil] at hp
    refine v_X12_declOf_8 ?_
    rw [h7]
    simp only [Int.toNat_natCast]
    rw [hD.1, ← hp]
    rw [← hp] at h30
    refine ⟨by omega, by omega, by omega, fun z => by omega, fun _ => ?_⟩
    rw [fIdx] at hf
    rw [← hf, if_pos rfl] at hQ; exact hQ
  | cons q u ih =>
    intro pre hp hf
    have hlen : pre.length < D.1.2.1.length := by rw [← hp]; simp
    have hq : D.1.2.1[pre.length]? = some q := by rw [← hp]; simp
    have hp' : (pre ++ [q]) ++ u = D.1.2.1 := by rw [List.append_assoc]; exact hp
    have hA := hD.2.2 pre.length q hq
    have el : ((30 * bk + pre.length : Nat) : Int) + 1 = ((30 * bk + (pre ++ [q]).length : Nat) : Int) := by rw [List.length_append, List.length_singleton]; omega
    have el2 : pre.length + 1 = (pre ++ [q]).length := by simp
    rw [fIdx_cons] at hf
    refine v_X12_declOf_8 ?_
    rw [h7]
    simp only [Int.toNat_natCast]
    rw [hD.1, el]
    refine ⟨by omega, by omega, by omega, fun _ => ⟨by omega, c_isSame p7 p4.2 p5 hA.1 ho (fun r hr => rI_mk ⟨fun z => ⟨by omega, ?_⟩, fun z => ?_⟩)⟩, fun z => by omega⟩
    · have hne : ¬ clN o q = true := fun w => by rw [if_pos (by simpa [clN] using w)] at hr; omega
      rw [if_neg hne, el2] at hf
      exact ih (pre ++ [q]) hp' hf
    · have heq : clN o q = true := by
        cases hh : clN o q with
        | true => rfl
        | false => rw [if_neg (by simpa [clN] using hh)] at hr; exact absurd hr z
      rw [if_pos heq] at hf
      rw [← hf, if_neg (by omega)] at hQ
      rw [show ((30 * bk + pre.length : Nat) : Int) = 30 * (bk : Int) + (pre.length : Nat) by omega]
      exact hQ
theorem c_rdeclOf {F L : Int} {o : By} (hH : HldJ bk T n pl D MI ML) (ho : nmR bk T n F L o)
    (hQ : Q (some (vI (if fIdx (clN o) D.1.2.1 0 = -1 then -1 else 30 * (bk : Int) + fIdx (clN o) D.1.2.1 0))) (MI, ML, GR d e nw th x)) :
    wp cs mX12_declOf KD Q 0 (padL [vR 124, vI F, vI L] 4) [] (KD, MI, ML, GR d e nw th x) := by
  have h7 := hH.2.1
  have p7 := hH.1.2.2.2.2.2.2
  refine v_X12_declOf_0 ?_
  rw [h7]
  have := c_rdeclOf_l (cs := cs) (d := d) (e := e) (nw := nw) (th := th) (x := x) hH ho hQ D.1.2.1 [] rfl rfl
  rw [show ((30 * bk + ([] : List Dc).length : Nat) : Int) = 30 * (bk : Int) by simp] at this
  exact ⟨by omega, this⟩
theorem c_areAlike {dI i k : Nat} {q : Dc} {y z : By} (hH : HldJ bk T n pl D MI ML) (hdI : dI < 60) (hA : DecA bk T n MI ML dI q) (hy : q.2.2.2.1[i]? = some y) (hz : q.2.2.2.1[k]? = some z) (hQ : Q (some (vI (if y = z then 1 else 0))) (MI, ML, GR d e nw th x)) :
    wp cs mX12_areAlike KD Q 0 (padL [vR 124, vI (dI : Nat), vI (i : Nat), vI (k : Nat)] 4) [] (KD, MI, ML, GR d e nw th x) := by
  obtain ⟨⟨p1, p2, p3, p4, p5, p6, p7⟩, h7, h8⟩ := hH
  obtain ⟨c1, c2, ⟨q1, q2, q3, q4, q5⟩, c4⟩ := hA
  have hi := (List.getElem?_eq_some_iff.mp hy).1
  have hk := (List.getElem?_eq_some_iff.mp hz).1
  simp only at q2
  refine v_X12_areAlike_0 ?_
  rw [show (40 * ((dI : Nat) : Int) + ((i : Nat) : Int)).toNat = 40 * dI + i by omega, show (40 * ((dI : Nat) : Int) + ((k : Nat) : Int)).toNat = 40 * dI + k by omega]
  refine ⟨by omega, by omega, by omega, by omega, by omega, c_isSame p7 p4.2 p5 (q4 i y hy) (q4 k z hz) (fun r hr => rI_mk ⟨by rw [hr]; split <;> simp, by rw [hr]; exact hQ⟩)⟩
theorem any_succ (f : Nat → Bool) (i : Nat) : (List.range (i + 1)).any f = ((List.range i).any f || f i) := by
  rw [List.range_succ, List.any_append]; simp
theorem bt1 {set : Int} {k : Nat} (hk : k < 64) : l_and (l_shr set (k : Int)) 1 = 1 ↔ bv set k = true := by
  rw [l_shr_bit hk]
  cases bv set k <;> simp
theorem c_isDbl20 {dI i : Nat} {q : Dc} {set : Int} (hH : HldJ bk T n pl D MI ML) (hdI : dI < 60) (hA : DecA bk T n MI ML dI q) (hi : i < q.2.2.2.1.length) {A : Bool}
    (hQ : wp cs mX12_isDoubled KD Q 6 [some (vR 124), some (vI (dI : Nat)), some (vL set), none, some (vI (if (A || (bv set i && (List.range i).any fun k => bv set k && decide (q.2.2.2.1[k]? = q.2.2.2.1[i]?))) = true then 1 else 0)), some (vI ((i : Nat) + 1)), none] [] (KD, MI, ML, GR d e nw th x)) :
    ∀ (m k : Nat), k + m = i → wp cs mX12_isDoubled KD Q 20 [some (vR 124), some (vI (dI : Nat)), some (vL set), none, some (vI (if (A || (bv set i && (List.range k).any fun k => bv set k && decide (q.2.2.2.1[k]? = q.2.2.2.1[i]?))) = true then 1 else 0)), some (vI (i : Nat)), some (vI (k : Nat))] [] (KD, MI, ML, GR d e nw th x) := by
  have h40 := hA.2.2.1.2.1
  simp only at h40
  intro m
  induction m with
  | zero =>
    intro k hk
    subst hk
    refine v_X12_isDoubled_20 ⟨fun z => by omega, fun _ => ⟨by omega, hQ⟩⟩
  | succ m ih =>
    intro k hk
    have nxt := ih (k + 1) (by omega)
    rw [any_succ] at nxt
    have hbi := bt1 (set := set) (k := i) (by omega)
    have hbk := bt1 (set := set) (k := k) (by omega)
    rw [show ((k + 1 : Nat) : Int) = ((k : Nat) : Int) + 1 by omega] at nxt
    refine v_X12_isDoubled_20 ⟨fun _ => ⟨fun h1 => ?_, fun h1 => ⟨by omega, ?_⟩⟩, fun z => by omega⟩
    · have b1 := hbi.mp h1
      rw [b1, Bool.true_and] at nxt ⊢
      refine ⟨fun h0 => ⟨fun h2 => ?_, fun h2 => ⟨by omega, ?_⟩⟩, fun h0 => ⟨by omega, ?_⟩⟩
      · have b2 := hbk.mp h2
        have hfalse : (A || (List.range k).any fun k => bv set k && decide (q.2.2.2.1[k]? = q.2.2.2.1[i]?)) = false := by
          cases hh : (A || (List.range k).any fun k => bv set k && decide (q.2.2.2.1[k]? = q.2.2.2.1[i]?)) with
          | false => rfl
          | true => rw [hh, if_pos rfl] at h0; omega
        rw [b2, Bool.true_and, ← Bool.or_assoc, hfalse, Bool.false_or] at nxt
        obtain ⟨y, hy⟩ : ∃ y, q.2.2.2.1[i]? = some y := ⟨_, List.getElem?_eq_getElem (by omega)⟩
        obtain ⟨z, hz⟩ : ∃ z, q.2.2.2.1[k]? = some z := ⟨_, List.getElem?_eq_getElem (by omega)⟩
        rw [hy, hz] at nxt
        refine c_areAlike hH hdI hA hy hz (rI_mk ?_)
        by_cases hyz : y = z
        · rw [if_pos hyz]
          rw [decide_eq_true (by rw [hyz]), if_pos rfl] at nxt
          exact ⟨fun w => by omega, fun _ => ⟨by omega, nxt⟩⟩
        · rw [if_neg hyz]
          rw [decide_eq_false (fun w => hyz (by cases w; rfl)), if_neg (by decide)] at nxt
          exact ⟨fun _ => ⟨by omega, nxt⟩, fun w => absurd rfl w⟩
      · have b2 : bv set k = false := by
          cases hh : bv set k with
          | false => rfl
          | true => exact absurd (hbk.mpr hh) h2
        rw [b2, Bool.false_and, Bool.or_false] at nxt
        rw [h0] at nxt; exact nxt
      · have ht : (A || (List.range k).any fun k => bv set k && decide (q.2.2.2.1[k]? = q.2.2.2.1[i]?)) = true := by
          cases hh : (A || (List.range k).any fun k => bv set k && decide (q.2.2.2.1[k]? = q.2.2.2.1[i]?)) with
          | true => rfl
          | false => rw [hh] at h0; exact absurd rfl h0
        rw [← Bool.or_assoc, ht, Bool.true_or, if_pos rfl] at nxt
        exact nxt
    · have b1 : bv set i = false := by
        cases hh : bv set i with
        | false => rfl
        | true => exact absurd (hbi.mpr hh) h1
      rw [b1, Bool.false_and] at hQ ⊢
      exact hQ
theorem c_isDbl {dI : Nat} {q : Dc} {set : Int} (hH : HldJ bk T n pl D MI ML) (hdI : dI < 60) (hA : DecA bk T n MI ML dI q) (hQ : Q (some (vI (if dblS q.2.2.2.1 set = true then 1 else 0))) (MI, ML, GR d e nw th x)) :
    wp cs mX12_isDoubled KD Q 0 (padL [vR 124, vI (dI : Nat), vL set] 7) [] (KD, MI, ML, GR d e nw th x) := by
  have h147 := hA.2.2.1.1
  have h40 := hA.2.2.1.2.1
  simp only at h147 h40
  have key : ∀ (m i : Nat), i + m = q.2.2.2.1.length → wp cs mX12_isDoubled KD Q 6 [some (vR 124), some (vI (dI : Nat)), some (vL set), none, some (vI (if ((List.range i).any fun p => bv set p && (List.range p).any fun k => bv set k && decide (q.2.2.2.1[k]? = q.2.2.2.1[p]?)) = true then 1 else 0)), some (vI (i : Nat)), none] [] (KD, MI, ML, GR d e nw th x) := by
    intro m
    induction m with
    | zero =>
      intro i hi
      have hi' : i = q.2.2.2.1.length := by omega
      subst hi'
      refine v_X12_isDoubled_6 ?_
      simp only [Int.toNat_natCast]
      rw [h147]
      exact ⟨by omega, fun z => by omega, fun _ => ⟨by split <;> simp, hQ⟩⟩
    | succ m ih =>
      intro i hi
      have nxt := ih (i + 1) (by omega)
      rw [any_succ, show ((i + 1 : Nat) : Int) = ((i : Nat) : Int) + 1 by omega] at nxt
      have := c_isDbl20 hH hdI hA (by omega) nxt i 0 (by omega)
      simp only [List.range_zero, List.any_nil, Bool.and_false, Bool.or_false] at this
      refine v_X12_isDoubled_6 ?_
      simp only [Int.toNat_natCast]
      rw [h147]
      exact ⟨by omega, fun _ => this, fun z => by omega⟩
  exact v_X12_isDoubled_0 (key _ 0 (Nat.zero_add _))
theorem c_rjudgeDecl {j : Nat} {q : Dc} (hH : HldJ bk T n pl D MI ML) (hJ : JuR fs MI) (hq : D.1.2.1[j]? = some q) (hl : fs.length + (jdS D.1.2.1 j q).length ≤ 8000)
    (hQ : ∀ MI', JuR (fs ++ jdS D.1.2.1 j q) MI' → jfrR MI MI' → Q none (MI', ML, GR d e nw th x)) :
    wp cs mX12_judgeDecl KD Q 0 (padL [vR 124, vI (j : Nat)] 5) [] (KD, MI, ML, GR d e nw th x) := by
  have h7 := hH.2.1
  have p7 := hH.1.2.2.2.2.2.2
  have hD := hH.1.1.2.1
  have h30 := hD.2.1
  have hjl := (List.getElem?_eq_some_iff.mp hq).1
  obtain ⟨dI, hdI⟩ : ∃ dI, dI = 30 * bk + j := ⟨_, rfl⟩
  have hA := hD.2.2 j q hq
  rw [← hdI] at hA
  unfold jdS at hl
  rw [List.length_append, List.length_append] at hl
  -- the third
  have third : ∀ (gs : Fi) (MI1 : Nat → Nat → Int) (l3 l4 : Int), jfrR MI MI1 → JuR gs MI1 → gs.length + (if q.2.1 = 2 ∧ dblS q.2.2.2.1 (-1) = true then [(3, (j : Int))] else ([] : Fi)).length ≤ 8000 → gs ++ (if q.2.1 = 2 ∧ dblS q.2.2.2.1 (-1) = true then [(3, (j : Int))] else []) = fs ++ jdS D.1.2.1 j q → wp cs mX12_judgeDecl KD Q 136 [some (vR 124), some (vI (j : Nat)), some (vI (dI : Nat)), some (vI l3), some (vI l4)] [] (KD, MI1, ML, GR d e nw th x) := by
    intro gs MI1 l3 l4 f1 J1 hl1 hg
    have H1 := HldJ_j hH f1
    have A1 := H1.1.1.2.1.2.2 j q hq
    rw [← hdI] at A1
    refine v_X12_judgeDecl_136 ?_
    simp only [Int.toNat_natCast]
    rw [A1.2.1]
    refine ⟨by omega, fun h2 => c_isDbl H1 (by omega) A1 (rI_mk ?_), fun h2 => ?_⟩
    · cases hd : dblS q.2.2.2.1 (-1) with
      | false =>
        rw [if_neg (by decide)]
        rw [if_neg (fun z => by rw [hd] at z; cases z.2), List.append_nil] at hg
        exact ⟨fun _ => hQ MI1 (by rw [← hg]; exact J1) f1, fun z => absurd rfl z⟩
      | true =>
        rw [if_pos rfl]
        rw [if_pos ⟨h2, hd⟩] at hg hl1
        refine ⟨fun z => by omega, fun _ => c_tell J1 (by simp at hl1; omega) (fun MI2 J2 f2 => rV_mk ?_)⟩
        exact hQ MI2 (by rw [← hg]; exact J2) (jfrR_tr f1 f2)
    · rw [if_neg (fun z => h2 z.1), List.append_nil] at hg
      exact hQ MI1 (by rw [← hg]; exact J1) f1
  -- the second's end
  have s126 : ∀ (gs : Fi) (MI1 : Nat → Nat → Int) (l4 : Int) (dd : Bool), (dd = true ↔ q.2.1 = 3 ∧ (dblS q.2.2.2.1 q.2.2.2.2.2.1 = true ∨ ∃ f ∈ q.2.2.2.2.1, dblS q.2.2.2.1 f = true)) → jfrR MI MI1 → JuR gs MI1 → gs.length + (if q.2.1 = 3 ∧ (dblS q.2.2.2.1 q.2.2.2.2.2.1 = true ∨ ∃ f ∈ q.2.2.2.2.1, dblS q.2.2.2.1 f = true) then [(2, (j : Int))] else ([] : Fi)).length + (if q.2.1 = 2 ∧ dblS q.2.2.2.1 (-1) = true then [(3, (j : Int))] else ([] : Fi)).length ≤ 8000 → gs ++ ((if q.2.1 = 3 ∧ (dblS q.2.2.2.1 q.2.2.2.2.2.1 = true ∨ ∃ f ∈ q.2.2.2.2.1, dblS q.2.2.2.1 f = true) then [(2, (j : Int))] else ([] : Fi)) ++ (if q.2.1 = 2 ∧ dblS q.2.2.2.1 (-1) = true then [(3, (j : Int))] else [])) = fs ++ jdS D.1.2.1 j q →
      wp cs mX12_judgeDecl KD Q 126 [some (vR 124), some (vI (j : Nat)), some (vI (dI : Nat)), some (vI (if dd = true then 1 else 0)), some (vI l4)] [] (KD, MI1, ML, GR d e nw th x) := by
    intro gs MI1 l4 dd hdd f1 J1 hl1 hg
    rw [← List.append_assoc] at hg
    cases dd with
    | false =>
      have hc : ¬ (q.2.1 = 3 ∧ (dblS q.2.2.2.1 q.2.2.2.2.2.1 = true ∨ ∃ f ∈ q.2.2.2.2.1, dblS q.2.2.2.1 f = true)) := fun z => by have := hdd.mpr z; cases this
      rw [if_neg hc, List.append_nil] at hg
      exact v_X12_judgeDecl_126 ⟨fun _ => third gs MI1 _ _ f1 J1 (by omega) hg, fun z => absurd rfl z⟩
    | true =>
      have hc := hdd.mp rfl
      rw [if_pos hc] at hg hl1
      simp only [List.length_singleton] at hl1
      exact v_X12_judgeDecl_126 ⟨fun z => absurd z (by decide), fun _ => c_tell J1 (by omega) (fun MI2 J2 f2 => rV_mk (third _ MI2 _ _ (jfrR_tr f1 f2) J2 (by rw [fi_len]; omega) hg))⟩
  -- the second
  have second : ∀ (gs : Fi) (MI1 : Nat → Nat → Int), jfrR MI MI1 → JuR gs MI1 → gs.length + (if q.2.1 = 3 ∧ (dblS q.2.2.2.1 q.2.2.2.2.2.1 = true ∨ ∃ f ∈ q.2.2.2.2.1, dblS q.2.2.2.1 f = true) then [(2, (j : Int))] else ([] : Fi)).length + (if q.2.1 = 2 ∧ dblS q.2.2.2.1 (-1) = true then [(3, (j : Int))] else ([] : Fi)).length ≤ 8000 → gs ++ ((if q.2.1 = 3 ∧ (dblS q.2.2.2.1 q.2.2.2.2.2.1 = true ∨ ∃ f ∈ q.2.2.2.2.1, dblS q.2.2.2.1 f = true) then [(2, (j : Int))] else ([] : Fi)) ++ (if q.2.1 = 2 ∧ dblS q.2.2.2.1 (-1) = true then [(3, (j : Int))] else [])) = fs ++ jdS D.1.2.1 j q → wp cs mX12_judgeDecl KD Q 36 [some (vR 124), some (vI (j : Nat)), some (vI (dI : Nat)), none, none] [] (KD, MI1, ML, GR d e nw th x) := by
    intro gs MI1 f1 J1 hl1 hg
    have H1 := HldJ_j hH f1
    have A1 := H1.1.1.2.1.2.2 j q hq
    rw [← hdI] at A1
    have h147 := A1.2.2.1.1
    have h40 := A1.2.2.1.2.1
    have hfl := A1.2.2.1.2.2.1
    simp only at h147 h40 hfl
    -- the followers
    have loop : q.2.1 = 3 → ∀ (u pre : List Int), pre ++ u = q.2.2.2.2.1 → wp cs mX12_judgeDecl KD Q 69 [some (vR 124), some (vI (j : Nat)), some (vI (dI : Nat)), some (vI (if (dblS q.2.2.2.1 q.2.2.2.2.2.1 || pre.any (dblS q.2.2.2.1)) = true then 1 else 0)), some (vI (pre.length : Nat))] [] (KD, MI1, ML, GR d e nw th x) := by
      intro h3 u
      induction u with
      | nil =>
        intro pre hp
        rw [List.append_nil] at hp
        refine v_X12_judgeDecl_69 ?_
        simp only [Int.toNat_natCast]
        rw [h147, hp]
        refine ⟨by omega, fun z => by omega, fun _ => s126 gs MI1 _ _ ?_ f1 J1 hl1 hg⟩
        rw [Bool.or_eq_true, List.any_eq_true]
        exact ⟨fun z => ⟨h3, z⟩, fun z => z.2⟩
      | cons f u ih =>
        intro pre hp
        have hlen : pre.length < q.2.2.2.2.1.length := by rw [← hp]; simp
        have hf : q.2.2.2.2.1[pre.length]? = some f := by rw [← hp]; simp
        have hfo := A1.2.2.1.2.2.2.2 pre.length f hf
        have nxt := ih (pre ++ [f]) (by rw [List.append_assoc]; exact hp)
        rw [List.any_append, show (((pre ++ [f]).length : Nat) : Int) = ((pre.length : Nat) : Int) + 1 by simp] at nxt
        refine v_X12_judgeDecl_69 ?_
        simp only [Int.toNat_natCast]
        rw [h147, A1.2.1, show (40 * ((dI : Nat) : Int) + ((pre.length : Nat) : Int)).toNat = 40 * dI + pre.length by omega, hfo]
        refine ⟨by omega, fun _ => ⟨fun _ => ⟨fun h0 => ⟨by omega, by omega, by omega, c_isDbl H1 (by omega) A1 (rI_mk ?_)⟩, fun h0 => ⟨by omega, ?_⟩⟩, fun z => absurd h3 z⟩, fun z => by omega⟩
        · have hfalse : (dblS q.2.2.2.1 q.2.2.2.2.2.1 || pre.any (dblS q.2.2.2.1)) = false := by
            cases hh : (dblS q.2.2.2.1 q.2.2.2.2.2.1 || pre.any (dblS q.2.2.2.1)) with
            | false => rfl
            | true => rw [hh, if_pos rfl] at h0; omega
          rw [← Bool.or_assoc, hfalse, Bool.false_or] at nxt
          simp only [List.any_cons, List.any_nil, Bool.or_false] at nxt
          cases hd : dblS q.2.2.2.1 f with
          | false =>
            rw [hd, if_neg (by decide)] at nxt
            rw [if_neg (by decide)]
            exact ⟨fun _ => ⟨by omega, nxt⟩, fun z => absurd rfl z⟩
          | true =>
            rw [hd, if_pos rfl] at nxt
            rw [if_pos rfl]
            exact ⟨fun z => by omega, fun _ => ⟨by omega, nxt⟩⟩
        · have ht : (dblS q.2.2.2.1 q.2.2.2.2.2.1 || pre.any (dblS q.2.2.2.1)) = true := by
            cases hh : (dblS q.2.2.2.1 q.2.2.2.2.2.1 || pre.any (dblS q.2.2.2.1)) with
            | true => rfl
            | false => rw [hh] at h0; exact absurd rfl h0
          rw [← Bool.or_assoc, ht, Bool.true_or, if_pos rfl] at nxt
          exact nxt
    refine v_X12_judgeDecl_36 ?_
    simp only [Int.toNat_natCast]
    rw [A1.2.1]
    refine ⟨by omega, fun h3 => ?_, fun h3 => ?_⟩
    · rw [(A1.2.2.2 h3).2.1]
      refine c_isDbl H1 (by omega) A1 (rI_mk ?_)
      have := loop h3 _ [] rfl
      rw [List.any_nil, Bool.or_false] at this
      cases hd : dblS q.2.2.2.1 q.2.2.2.2.2.1 with
      | false =>
        rw [hd, if_neg (by decide)] at this
        rw [if_neg (by decide)]
        exact ⟨fun _ => this, fun z => absurd rfl z⟩
      | true =>
        rw [hd, if_pos rfl] at this
        rw [if_pos rfl]
        exact ⟨fun z => by omega, fun _ => this⟩
    · have no := s126 gs MI1 0 false ⟨fun z => (by cases z), fun z => absurd z.1 h3⟩ f1 J1 hl1 hg
      rw [if_neg (by decide)] at no
      refine v_X12_judgeDecl_69 ?_
      simp only [Int.toNat_natCast]
      rw [A1.2.1]
      exact ⟨by omega, fun _ => ⟨fun z => absurd z h3, fun _ => no⟩, fun _ => no⟩
  refine v_X12_judgeDecl_0 ?_
  rw [h7, show 30 * (bk : Int) + ((j : Nat) : Int) = ((dI : Nat) : Int) by omega]
  simp only [Int.toNat_natCast]
  refine ⟨by omega, by omega, by omega, c_rdeclOf hH hA.1 (rI_mk ?_)⟩
  -- the first of its NAME stands no later than itself
  have hself : fIdx (clN q.1) D.1.2.1 0 ≠ -1 := fun w => by
    have := fIdx_m1 w q (List.mem_of_getElem? hq)
    simp [clN] at this
  obtain ⟨i, a, hi1, hi2, hi3, hi4⟩ := fIdx_some hself
  rw [Nat.zero_add] at hi1
  have hij : i ≤ j := Decidable.byContradiction fun w => by
    have := hi4 j q (by omega) hq
    simp [clN] at this
  rw [if_neg hself]
  refine ⟨fun hlt => ?_, fun hge => ?_⟩
  · have hne : fIdx (clN q.1) D.1.2.1 0 ≠ (j : Int) := fun w => by omega
    rw [if_pos hne, List.length_singleton] at hl
    refine c_tell hJ (by omega) (fun MI2 J2 f2 => rV_mk (second _ MI2 f2 J2 (by rw [fi_len]; omega) ?_))
    unfold jdS
    rw [if_pos hne, List.append_assoc]
  · have heq : fIdx (clN q.1) D.1.2.1 0 = (j : Int) := by omega
    rw [if_neg (show ¬ (fIdx (clN q.1) D.1.2.1 0 ≠ (j : Int)) from fun z => z heq)] at hl
    refine second fs MI (jfrR_rfl _) hJ (by simp only [List.length_nil] at hl; omega) ?_
    unfold jdS
    rw [if_neg (show ¬ (fIdx (clN q.1) D.1.2.1 0 ≠ (j : Int)) from fun z => z heq), List.nil_append]
end Pb07
