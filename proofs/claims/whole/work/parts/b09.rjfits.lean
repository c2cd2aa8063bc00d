/-! The reference's fits and what it asks of attributes. -/
theorem i32_of {x : Int} (hx : -2147483648 ≤ x ∧ x < 2147483648) : (Int32.ofInt x).toInt = x := Int32.toInt_ofInt_of_le (by omega) (by omega)
theorem i_div_pos {x y : Int} (hx : 0 ≤ x ∧ x < 2147483648) (hy : 0 < y ∧ y < 2147483648) : i_div x y = x / y := by
  unfold i_div
  have hne : Int32.ofInt y ≠ -1 := fun h => by
    have := congrArg Int32.toInt h
    rw [i32_of (by omega)] at this
    rw [this] at hy
    exact absurd hy.1 (by decide)
  rw [Int32.toInt_div_of_ne_right _ _ hne, i32_of (by omega), i32_of (by omega), Int.tdiv_eq_ediv_of_nonneg hx.1]
theorem i_rem_pos {x y : Int} (hx : 0 ≤ x ∧ x < 2147483648) (hy : 0 < y ∧ y < 2147483648) : i_rem x y = x % y := by
  have h1 : x / y * y ≤ x := Int.ediv_mul_le x (by omega)
  have h2 : 0 ≤ x / y := Int.ediv_nonneg hx.1 (by omega)
  have h3 : x / y ≤ x := Int.ediv_le_self y hx.1
  have h4 : 0 ≤ x / y * y := Int.mul_nonneg h2 (by omega)
  have hq : Int32.ofInt x / Int32.ofInt y = Int32.ofInt (x / y) := by
    apply Int32.toInt_inj.mp
    rw [i32_of (by omega)]
    exact i_div_pos hx hy
  unfold i_rem
  rw [hq, ← Int32.ofInt_mul, ← Int32.ofInt_sub, i32_of (by omega), Int.emod_def, Int.mul_comm y]
theorem attr_up {ns : List Nd} {k : Nat} {z : Nd} (hW : WfN ns) (hA : AtW ns) (h1 : ∃ y, ns[1]? = some y ∧ y.1 = 1) (hz : ns[k]? = some z) (hz2 : z.1 = 2) : ∃ (p : Nat) (y : Nd), z.2.1 = (p : Int) ∧ p < k ∧ ns[p]? = some y ∧ y.1 = 1 := by
  have hk0 : 0 < k := Nat.pos_of_ne_zero fun w => by subst w; rw [hW.1] at hz; cases hz; cases hz2
  obtain ⟨w1, w2, ⟨p, w3, w3'⟩, w4⟩ := hW.2 k z hz hk0
  have hpl := (List.getElem?_eq_some_iff.mp w3).1
  refine ⟨z.2.1.toNat, p, by omega, by omega, w3, ?_⟩
  by_cases h0 : z.2.1.toNat = 0
  · exfalso
    have hat := (hA.2.1 0 (by omega)).2
    have h5 := (hat k z hz).mp ⟨hz2, by omega⟩
    obtain ⟨y, hy, hy1⟩ := h1
    have := ((hat 1 y hy).mpr ⟨by omega, by omega⟩).1
    omega
  · have hv := (hW.2 _ p w3 (by omega)).1
    rcases hv.1 with w | w | w
    · exact w.1
    · have := w.1; omega
    · have := w.1; omega
section Pb09
variable {cs : Cs} {Q : Option AV → Mm → Prop} {MI ML : Nat → Nat → Int} {bk d e nw th x pl : Nat} {T : Nat → Int} {n : Int} {fs : Fi} {D : Dm}
theorem takS_s {rs : List Rl} {ns : List Nd} {k : Nat} {y : Nd} {v : By} (hy : ns[k]? = some y) : takS rs ns (k + 1) v = (takS rs ns k v || (idA rs ns y && decide (y.2.2.2.1 = v))) := by
  unfold takS
  rw [List.take_succ, hy, List.any_append]
  simp
theorem c_risTaken {a : Nat} {y : Nd} (hH : HldJ bk T n pl D MI ML) (hW : WfN D.2.1) (hA : AtW D.2.1) (h1 : ∃ y, D.2.1[1]? = some y ∧ y.1 = 1) (hy : D.2.1[a]? = some y) (hy2 : y.1 = 2) (hQ : Q (some (vI (if takS D.1.2.2 D.2.1 a y.2.2.2.1 = true then 1 else 0))) (MI, ML, GR d e nw th x)) :
    wp cs mX12_isTaken KD Q 0 (padL [vR 124, vI (a : Nat)] 6) [] (KD, MI, ML, GR d e nw th x) := by
  have hH' := hH
  obtain ⟨⟨p1, p2, p3, p4, p5, p6, p7⟩, h7, h8⟩ := hH
  have hR := p1.2.2.1
  have h750 := hR.2.1
  have h600 := p2.2.1
  have hal := (List.getElem?_eq_some_iff.mp hy).1
  have hNy := p2.2.2 a y hy
  have hpy := hNy.2.2.2.1.2 (Or.inl hy2)
  have key : ∀ (m k : Nat), k + m = a → wp cs mX12_isTaken KD Q 14 [some (vR 124), some (vI (a : Nat)), some (vI (600 * (bk : Int))), some (vI (if takS D.1.2.2 D.2.1 k y.2.2.2.1 = true then 1 else 0)), some (vI (k : Nat)), none] [] (KD, MI, ML, GR d e nw th x) := by
    intro m
    induction m with
    | zero =>
      intro k hk
      have hk' : k = a := by omega
      subst hk'
      exact v_X12_isTaken_14 ⟨fun z => by omega, fun _ => ⟨by split <;> simp, hQ⟩⟩
    | succ m ih =>
      intro k hk
      obtain ⟨z, hz⟩ : ∃ z, D.2.1[k]? = some z := ⟨_, List.getElem?_eq_getElem (by omega)⟩
      have nxt := ih (k + 1) (by omega)
      rw [takS_s hz, show ((k + 1 : Nat) : Int) = ((k : Nat) : Int) + 1 by omega] at nxt
      have hNz := p2.2.2 k z hz
      have no : idA D.1.2.2 D.2.1 z = false ∨ z.2.2.2.1 ≠ y.2.2.2.1 → wp cs mX12_isTaken KD Q 14 [some (vR 124), some (vI (a : Nat)), some (vI (600 * (bk : Int))), some (vI (if takS D.1.2.2 D.2.1 k y.2.2.2.1 = true then 1 else 0)), some (vI ((k : Nat) + 1)), none] [] (KD, MI, ML, GR d e nw th x) := fun hc => by
        have : (idA D.1.2.2 D.2.1 z && decide (z.2.2.2.1 = y.2.2.2.1)) = false := by
          rcases hc with w | w
          · rw [w, Bool.false_and]
          · rw [decide_eq_false w, Bool.and_false]
        rw [this, Bool.or_false] at nxt
        exact nxt
      refine v_X12_isTaken_14 ⟨fun _ => ?_, fun z => by omega⟩
      rw [show (600 * (bk : Int) + ((k : Nat) : Int)).toNat = 600 * bk + k by omega, hNz.1, hNz.2.1, hNz.2.2.2.2.1]
      refine ⟨by omega, by omega, fun h2 => ⟨fun hd => ?_, fun hd => ⟨by omega, no (Or.inl ?_)⟩⟩, fun h2 => ⟨by omega, no (Or.inl ?_)⟩⟩
      · obtain ⟨p, yp, hp1, hp2, hp3, hp4⟩ := attr_up hW hA h1 hz h2
        have hnm : nmA D.2.1 z.2.1 = yp.2.2.1 := by unfold nmA; rw [hp1, Int.toNat_natCast, List.getD_eq_getElem?_getD, hp3]; rfl
        rw [hp1]
        refine c_ruleFor hH' hp3 (Or.inl hp4) hz (Or.inr h2) (rI_mk ?_)
        refine ⟨fun h0 => ?_, fun h0 => ⟨by omega, ?_⟩⟩
        · have hfl : takS D.1.2.2 D.2.1 k y.2.2.2.1 = false := by
            cases hh : takS D.1.2.2 D.2.1 k y.2.2.2.1 with
            | false => rfl
            | true => rw [hh, if_pos rfl] at h0; omega
          rw [hfl, if_neg (by decide)] at no
          rw [hfl, Bool.false_or] at nxt
          by_cases hm : ruI D.1.2.2 yp.2.2.1 z.2.2.1 = -1
          · rw [if_pos hm]
            refine ⟨fun _ => ⟨by omega, no (Or.inl ?_)⟩, fun w => by omega⟩
            unfold idA
            exact decide_eq_false (fun w => w.2.2.1 (by rw [hnm]; exact hm))
          · rw [if_neg hm]
            obtain ⟨r, q, hr1, hr2, hr3, hr4, hr5⟩ := ruI_some hm
            have hrl := (List.getElem?_eq_some_iff.mp hr2).1
            have hAq := hR.2.2 r q hr2
            rw [hr1, show (800 * (bk : Int) + ((r : Nat) : Int)).toNat = 800 * bk + r by omega, hAq.2.2.1]
            have hid : idA D.1.2.2 D.2.1 z = decide (q.2.2.1 = 1) := by
              unfold idA
              rw [hnm, hr5]
              apply decide_eq_decide.mpr
              exact ⟨fun w => w.2.2.2, fun w => ⟨h2, hd, hm, w⟩⟩
            rw [hid] at nxt
            refine ⟨fun w => by omega, fun _ => ⟨by omega, fun ht => ?_, fun ht => ⟨by omega, no (Or.inl (by rw [hid]; exact decide_eq_false ht))⟩⟩⟩
            rw [show (600 * (bk : Int) + ((a : Nat) : Int)).toNat = 600 * bk + a by omega]
            have hpz := hNz.2.2.2.1.2 (Or.inl h2)
            refine ⟨by omega, by omega, c_sameKept p7 p6 hpz hpy (rI_mk ?_)⟩
            rw [decide_eq_true ht, Bool.true_and] at nxt
            by_cases hv : z.2.2.2.1 = y.2.2.2.1
            · rw [if_pos hv]
              rw [decide_eq_true hv, if_pos rfl] at nxt
              exact ⟨fun w => by omega, fun _ => ⟨by omega, nxt⟩⟩
            · rw [if_neg hv]
              rw [decide_eq_false hv, if_neg (by decide)] at nxt
              exact ⟨fun _ => ⟨by omega, nxt⟩, fun w => absurd rfl w⟩
        · have ht : takS D.1.2.2 D.2.1 k y.2.2.2.1 = true := by
            cases hh : takS D.1.2.2 D.2.1 k y.2.2.2.1 with
            | true => rfl
            | false => rw [hh] at h0; exact absurd rfl h0
          rw [ht, Bool.true_or, if_pos rfl] at nxt; exact nxt
      · unfold idA; exact decide_eq_false (fun w => hd w.2.1)
      · unfold idA; exact decide_eq_false (fun w => h2 w.1)
  refine v_X12_isTaken_0 ?_
  rw [h7]
  have := key a 0 (by omega)
  rw [show takS D.1.2.2 D.2.1 0 y.2.2.2.1 = false from rfl, if_neg (by decide)] at this
  exact ⟨by omega, this⟩
theorem c_rnamed {dI k : Nat} {q : Dc} {y : Nd} {set : Int} (hH : HldJ bk T n pl D MI ML) (hdI : dI < 60) (hA : DecA bk T n MI ML dI q) (hy : D.2.1[k]? = some y) (hy1 : y.1 = 1) (hQ : Q (some (vL (l_and (nmd q.2.2.2.1 y.2.2.1) set))) (MI, ML, GR d e nw th x)) :
    wp cs mX12_named KD Q 0 (padL [vR 124, vI (dI : Nat), vL set, vI (k : Nat)] 9) [] (KD, MI, ML, GR d e nw th x) := by
  obtain ⟨⟨p1, p2, p3, p4, p5, p6, p7⟩, h7, h8⟩ := hH
  have h600 := p2.2.1
  have hkl := (List.getElem?_eq_some_iff.mp hy).1
  have hNy := (p2.2.2 k y hy).2.2.1.2 (Or.inl hy1)
  obtain ⟨c1, c2, ⟨q1, q2, q3, q4, q5⟩, c4⟩ := hA
  simp only at q1 q2 q4
  have key : ∀ (m i : Nat) (a : Int), i + m = q.2.2.2.1.length → (-9223372036854775808 ≤ a ∧ a < 9223372036854775808) → (∀ j, j < 64 → bv a j = (decide (j < i ∧ q.2.2.2.1[j]? = some y.2.2.1) && bv set j)) → wp cs mX12_named KD Q 6 [some (vR 124), some (vI (dI : Nat)), some (vL set), none, some (vI (k : Nat)), some (vL a), none, some (vI (i : Nat)), none] [] (KD, MI, ML, GR d e nw th x) := by
    intro m
    induction m with
    | zero =>
      intro i a hi ha hb
      have he : a = l_and (nmd q.2.2.2.1 y.2.2.1) set := by
        refine bv_ext ha (l_and_ok _ _) (fun j hj => ?_)
        rw [hb j hj, bv_and, nmd_bv (by omega) hj]
        congr 1
        apply decide_eq_decide.mpr
        exact ⟨fun w => w.2, fun w => ⟨by have := (List.getElem?_eq_some_iff.mp w).1; omega, w⟩⟩
      refine v_X12_named_6 ?_
      simp only [Int.toNat_natCast]
      rw [q1]
      exact ⟨by omega, fun z => by omega, fun _ => by rw [he]; exact hQ⟩
    | succ m ih =>
      intro i a hi ha hb
      obtain ⟨w, hw⟩ : ∃ w, q.2.2.2.1[i]? = some w := ⟨_, List.getElem?_eq_getElem (by omega)⟩
      refine v_X12_named_6 ?_
      simp only [Int.toNat_natCast]
      rw [q1, h7, show (40 * ((dI : Nat) : Int) + ((i : Nat) : Int)).toNat = 40 * dI + i by omega, show (600 * (bk : Int) + ((k : Nat) : Int)).toNat = 600 * bk + k by omega, l_or_0r ha]
      have hbi := bt1 (set := set) (k := i) (by omega)
      have keep : (w ≠ y.2.2.1 ∨ bv set i = false) → wp cs mX12_named KD Q 6 [some (vR 124), some (vI (dI : Nat)), some (vL set), none, some (vI (k : Nat)), some (vL a), none, some (vI ((i : Nat) + 1)), none] [] (KD, MI, ML, GR d e nw th x) := fun hc => by
        have := ih (i + 1) a (by omega) ha (fun j hj => by
          rw [hb j hj]
          by_cases hji : j = i
          · subst hji
            rw [decide_eq_false (fun z => by omega), Bool.false_and]
            rcases hc with c | c
            · rw [decide_eq_false (fun z => by have := z.2; rw [hw] at this; cases this; exact c rfl), Bool.false_and]
            · rw [c, Bool.and_false]
          · congr 1
            apply decide_eq_decide.mpr
            exact ⟨fun z => ⟨by omega, z.2⟩, fun z => ⟨by omega, z.2⟩⟩)
        rw [show ((i + 1 : Nat) : Int) = ((i : Nat) : Int) + 1 by omega] at this
        exact this
      refine ⟨by omega, fun _ => ⟨by omega, by omega, by omega, by omega, by omega, by omega, c_isSame p7 p4.2 p5 (q4 i w hw) hNy (fun r hr => rI_mk ⟨fun z => ⟨by omega, keep (Or.inl ?_)⟩, fun z => ⟨fun h1 => ⟨by omega, ?_⟩, fun h1 => ⟨by omega, keep (Or.inr ?_)⟩⟩⟩)⟩, fun z => by omega⟩
      · intro c; rw [if_pos c] at hr; omega
      · have hwy : w = y.2.2.1 := Decidable.byContradiction fun c => by rw [if_neg c] at hr; exact z hr
        have hbs := hbi.mp h1
        have := ih (i + 1) (l_or a (l_shl 1 (i : Int))) (by omega) (l_or_ok _ _) (fun j hj => by
          rw [bv_or, bv_shl (by omega) hj, hb j hj]
          by_cases hji : j = i
          · subst hji
            rw [decide_eq_true rfl, Bool.or_true, hbs, Bool.and_true, decide_eq_true ⟨by omega, by rw [hw, hwy]⟩]
          · rw [decide_eq_false hji, Bool.or_false]
            congr 1
            apply decide_eq_decide.mpr
            exact ⟨fun z => ⟨by omega, z.2⟩, fun z => ⟨by omega, z.2⟩⟩)
        rw [show ((i + 1 : Nat) : Int) = ((i : Nat) : Int) + 1 by omega] at this
        exact this
      · cases hh : bv set i with
        | false => rfl
        | true => exact absurd (hbi.mpr hh) h1
  exact v_X12_named_0 (key _ 0 0 (Nat.zero_add _) (by omega) (fun j hj => by rw [bv_0, decide_eq_false (fun z => by omega), Bool.false_and]))
theorem fitF_ind {ds : List Dc} {q : Dc} (h3 : q.2.1 ≠ 3) : ∀ (l : List Nd) (nx nx' : Int) (dn dn' : Bool), fitF ds q l nx dn = fitF ds q l nx' dn'
  | [], nx, nx', dn, dn' => by simp [fitF, h3]
  | y :: t, nx, nx', dn, dn' => by
    rw [fitF, fitF, if_neg h3, if_neg h3, fitF_ind h3 t nx nx' dn dn']
theorem chR_yes {ns : List Nd} {ec k : Nat} {y : Nd} (hy : ns[k]? = some y) (h2 : y.1 ≠ 2) (hu : y.2.1 = (ec : Int)) : chR ns (ec : Int) k = y :: chR ns (ec : Int) (k + 1) := by
  have hkl := (List.getElem?_eq_some_iff.mp hy).1
  unfold chR
  rw [List.drop_eq_getElem_cons hkl, (List.getElem?_eq_some_iff.mp hy).2, List.filter_cons_of_pos]
  rw [Bool.and_eq_true]
  exact ⟨by simp [h2], decide_eq_true hu⟩
theorem chR_no {ns : List Nd} {ec k : Nat} {y : Nd} (hy : ns[k]? = some y) (h : y.1 = 2 ∨ y.2.1 ≠ (ec : Int)) : chR ns (ec : Int) k = chR ns (ec : Int) (k + 1) := by
  have hkl := (List.getElem?_eq_some_iff.mp hy).1
  unfold chR
  rw [List.drop_eq_getElem_cons hkl, (List.getElem?_eq_some_iff.mp hy).2, List.filter_cons_of_neg]
  intro z
  rw [Bool.and_eq_true] at z
  rcases h with w | w
  · simp [w] at z
  · exact w (of_decide_eq_true z.2)
theorem chN_R {ns : List Nd} {ec : Nat} (hA : AtW ns) (hl : ec < ns.length) : chN ns (ec : Int) = chR ns (ec : Int) (ec + 1) := by
  have key : ∀ m, m ≤ ec + 1 → chR ns (ec : Int) 0 = chR ns (ec : Int) m := by
    intro m
    induction m with
    | zero => intro _; rfl
    | succ m ih =>
      intro hm
      rw [ih (by omega)]
      obtain ⟨z, hz⟩ : ∃ z, ns[m]? = some z := ⟨_, List.getElem?_eq_getElem (by omega)⟩
      have h3 := hA.1 m z hz
      exact chR_no hz (Or.inr (by omega))
  have := key _ (Nat.le_refl _)
  rw [← this]; rfl
theorem c_rfits {ec j : Nat} {q : Dc} (hH : HldJ bk T n pl D MI ML) (hW : WfN D.2.1) (hAt : AtW D.2.1) (hel : ec < D.2.1.length) (hq : D.1.2.1[j]? = some q) (hkd : 0 ≤ q.2.1 ∧ q.2.1 ≤ 3) (hQ : Q (some (vI (if fitS D.1.2.1 D.2.1 (ec : Int) q = true then 1 else 0))) (MI, ML, GR d e nw th x)) :
    wp cs mX12_fits KD Q 0 (padL [vR 124, vI (ec : Nat), vI ((30 * bk + j : Nat) : Int)] 12) [] (KD, MI, ML, GR d e nw th x) := by
  have hH' := hH
  obtain ⟨⟨p1, p2, p3, p4, p5, p6, p7⟩, h7, h8⟩ := hH
  have hD := p1.2.1
  have h30 := hD.2.1
  have h600 := p2.2.1
  have hjl := (List.getElem?_eq_some_iff.mp hq).1
  obtain ⟨dI, hdI⟩ : ∃ dI, dI = 30 * bk + j := ⟨_, rfl⟩
  have hA := hD.2.2 j q hq
  rw [← hdI] at hA ⊢
  have h147 := hA.2.2.1.1
  have h40 := hA.2.2.1.2.1
  have hfl := hA.2.2.1.2.2.1
  simp only at h147 h40 hfl
  have hd60 : dI < 60 := by omega
  have key : ∀ (m k : Nat) (nx l6 : Int) (dn : Bool), k + m = D.2.1.length → ec < k → (l6 ≠ 0 ↔ dn = true) → fitF D.1.2.1 q (chR D.2.1 (ec : Int) k) nx dn = fitS D.1.2.1 D.2.1 (ec : Int) q → wp cs mX12_fits KD Q 30 [some (vR 124), some (vI (ec : Nat)), some (vI (dI : Nat)), some (vI (600 * (bk : Int))), some (vL nx), none, some (vI l6), some (vI (k : Nat)), none, none, none, none] [] (KD, MI, ML, GR d e nw th x) := by
    intro m
    induction m with
    | zero =>
      intro k nx l6 dn hk hek hdn hfit
      have hnil : chR D.2.1 (ec : Int) k = [] := by unfold chR; rw [List.drop_eq_nil_of_le (by omega)]; rfl
      rw [hnil, fitF] at hfit
      refine v_X12_fits_30 ?_
      rw [h7]
      simp only [Int.toNat_natCast]
      rw [p2.1, hA.2.1]
      refine ⟨by omega, fun z => by omega, fun _ => ⟨by omega, fun h3 => ⟨fun h0 => ?_, fun h0 => ?_⟩, fun h3 => ?_⟩⟩
      · have : dn = false := by
          cases dn with
          | false => rfl
          | true => exact absurd h0 (hdn.mpr rfl)
        rw [← hfit, this, h3] at hQ
        simpa using hQ
      · rw [← hfit, hdn.mp h0, Bool.or_true, if_pos rfl] at hQ; exact hQ
      · rw [← hfit, decide_eq_true h3, Bool.true_or, if_pos rfl] at hQ; exact hQ
    | succ m ih =>
      intro k nx l6 dn hk hek hdn hfit
      obtain ⟨y, hy⟩ : ∃ y, D.2.1[k]? = some y := ⟨_, List.getElem?_eq_getElem (by omega)⟩
      have hNy := p2.2.2 k y hy
      have s315 : ∀ (nx : Int) (l6 : Int) (dn : Bool), (l6 ≠ 0 ↔ dn = true) → fitF D.1.2.1 q (chR D.2.1 (ec : Int) (k + 1)) nx dn = fitS D.1.2.1 D.2.1 (ec : Int) q → wp cs mX12_fits KD Q 315 [some (vR 124), some (vI (ec : Nat)), some (vI (dI : Nat)), some (vI (600 * (bk : Int))), some (vL nx), none, some (vI l6), some (vI (k : Nat)), none, none, none, none] [] (KD, MI, ML, GR d e nw th x) := fun nx l6 dn hdn hf => by
        refine v_X12_fits_315 ⟨by omega, ?_⟩
        rw [show ((k : Nat) : Int) + 1 = ((k + 1 : Nat) : Int) by omega]
        exact ih (k + 1) nx l6 dn (by omega) (by omega) hdn hf
      have zero : fitS D.1.2.1 D.2.1 (ec : Int) q = false → Q (some (vI 0)) (MI, ML, GR d e nw th x) := fun hf => by
        rw [hf, if_neg (by decide)] at hQ; exact hQ
      refine v_X12_fits_30 ?_
      rw [h7]
      simp only [Int.toNat_natCast]
      rw [p2.1, show (600 * (bk : Int) + ((k : Nat) : Int)).toNat = 600 * bk + k by omega, hNy.1, hNy.2.1]
      refine ⟨by omega, fun _ => ⟨by omega, by omega, fun hu => ⟨fun h2 => ?_, fun h2 => ?_⟩, fun hu => ?_⟩, fun z => by omega⟩
      · rw [chR_no hy (Or.inl h2)] at hfit
        exact s315 nx l6 dn hdn hfit
      rotate_left
      · rw [chR_no hy (Or.inr hu)] at hfit
        exact s315 nx l6 dn hdn hfit
      rw [chR_yes hy h2 hu, fitF] at hfit
      have hv := (hW.2 k y hy (by omega)).1
      have k13 : y.1 = 1 ∨ (y.1 = 3 ∧ (y.2.2.2.2.2 = 0 ∨ y.2.2.2.2.2 = 1)) := by
        rcases hv.1 with w | w | w
        · exact Or.inl w.1
        · exact absurd w.1 h2
        · exact Or.inr ⟨w.1, w.2.2.2.2⟩
      -- the GROUP's walk
      have s203 : ∀ l8 : Int, l8 = (if y.1 = 3 then 1 else 0) → (q.2.1 = 3 → y.1 = 3 → y.2.2.2.2.2 ≠ 1) → (q.2.1 ≠ 3 → fitF D.1.2.1 q (chR D.2.1 (ec : Int) (k + 1)) nx dn = fitS D.1.2.1 D.2.1 (ec : Int) q) → (q.2.1 = 3 → q.2.1 ≠ 0) → wp cs mX12_fits KD Q 203 [some (vR 124), some (vI (ec : Nat)), some (vI (dI : Nat)), some (vI (600 * (bk : Int))), some (vL nx), none, some (vI l6), some (vI (k : Nat)), some (vI l8), none, none, none] [] (KD, MI, ML, GR d e nw th x) := by
        intro l8 hl8 hsol hoth _
        refine v_X12_fits_203 ?_
        simp only [Int.toNat_natCast]
        rw [hA.2.1]
        refine ⟨by omega, fun h3 => ⟨fun h0 => ?_, fun h0 => ?_⟩, fun h3 => s315 nx l6 dn hdn (hoth h3)⟩
        · have hy1 : y.1 = 1 := by
            rcases k13 with w | w
            · exact w
            · rw [if_pos w.1] at hl8; omega
          rw [if_neg (by omega), if_pos hy1, if_pos h3] at hfit
          refine c_rnamed hH' hd60 hA hy hy1 (rJ_mk ?_)
          obtain ⟨now, hnow⟩ : ∃ v, v = l_and (nmd q.2.2.2.1 y.2.2.1) nx := ⟨_, rfl⟩
          rw [← hnow] at hfit ⊢
          obtain ⟨_, hlast1, hlast2⟩ := hA.2.2.2 h3
          have walk : ∀ (u pre : List Int) (a : Int), pre ++ u = q.2.2.2.2.1 → (-9223372036854775808 ≤ a ∧ a < 9223372036854775808) → bhF now u pre.length a = bhF now q.2.2.2.2.1 0 0 → wp cs mX12_fits KD Q 235 [some (vR 124), some (vI (ec : Nat)), some (vI (dI : Nat)), some (vI (600 * (bk : Int))), some (vL a), none, some (vI l6), some (vI (k : Nat)), some (vI l8), some (vL now), none, some (vI (pre.length : Nat))] [] (KD, MI, ML, GR d e nw th x) := by
            intro u
            induction u with
            | nil =>
              intro pre a hp ha hb
              rw [List.append_nil] at hp
              rw [bhF] at hb
              refine v_X12_fits_235 ?_
              simp only [Int.toNat_natCast]
              rw [h147, hp, hlast2]
              refine ⟨by omega, fun z => by omega, fun _ => ⟨fun hl => ⟨fun h0' => ?_, fun h0' => ?_⟩, fun hl => ⟨fun h0' => ?_, fun h0' => ?_⟩⟩⟩
              · rw [if_pos h0'] at hfit; exact zero hfit.symm
              · rw [if_neg h0', decide_eq_false (fun w => w hl)] at hfit
                rw [hb]
                exact s315 _ 0 false (by simp) hfit
              · rw [if_pos h0'] at hfit; exact zero hfit.symm
              · rw [if_neg h0', decide_eq_true hl] at hfit
                rw [hb]
                exact s315 _ 1 true (by simp) hfit
            | cons f u ihu =>
              intro pre a hp ha hb
              have hlen : pre.length < q.2.2.2.2.1.length := by rw [← hp]; simp
              have hf : q.2.2.2.2.1[pre.length]? = some f := by rw [← hp]; simp
              have hfo := hA.2.2.1.2.2.2.2 pre.length f hf
              have hp' : (pre ++ [f]) ++ u = q.2.2.2.2.1 := by rw [List.append_assoc]; exact hp
              rw [bhF, show pre.length + 1 = (pre ++ [f]).length by simp] at hb
              have hbi := bt1 (set := now) (k := pre.length) (by omega)
              refine v_X12_fits_235 ?_
              simp only [Int.toNat_natCast]
              rw [h147, show (40 * ((dI : Nat) : Int) + ((pre.length : Nat) : Int)).toNat = 40 * dI + pre.length by omega, hfo, l_or_0r ha, show ((pre.length : Nat) : Int) + 1 = (((pre ++ [f]).length : Nat) : Int) by simp]
              refine ⟨by omega, fun _ => ⟨fun h1 => ⟨by omega, by omega, by omega, by simp; omega, ?_⟩, fun h1 => ⟨by simp; omega, ?_⟩⟩, fun z => by omega⟩
              · rw [if_pos (hbi.mp h1)] at hb
                exact ihu (pre ++ [f]) _ hp' (l_or_ok _ _) hb
              · rw [if_neg (fun w => h1 (hbi.mpr w))] at hb
                exact ihu (pre ++ [f]) _ hp' ha hb
          exact walk q.2.2.2.2.1 [] 0 rfl (by omega) rfl
        · have hy3 : y.1 = 3 := Decidable.byContradiction fun w => by rw [if_neg w] at hl8; omega
          rw [if_neg (by omega), if_neg (by omega), if_neg (fun w => hsol h3 hy3 w.2)] at hfit
          exact s315 nx l6 dn hdn hfit
      have s91 : ∀ s0 : Int, s0 = (if y.1 = 3 then 1 else 0) → wp cs mX12_fits KD Q 91 [some (vR 124), some (vI (ec : Nat)), some (vI (dI : Nat)), some (vI (600 * (bk : Int))), some (vL nx), none, some (vI l6), some (vI (k : Nat)), none, none, none, none] [vI s0] (KD, MI, ML, GR d e nw th x) := by
        intro s0 hs0
        refine v_X12_fits_91 ?_
        simp only [Int.toNat_natCast]
        rw [hA.2.1]
        refine ⟨by omega, fun h0 => ?_, fun h0 => ?_⟩
        · rw [if_pos h0] at hfit; exact zero hfit.symm
        rw [if_neg h0] at hfit
        -- 174
        have s174 : (q.2.1 ≠ 3 → fitF D.1.2.1 q (chR D.2.1 (ec : Int) (k + 1)) nx dn = fitS D.1.2.1 D.2.1 (ec : Int) q) → wp cs mX12_fits KD Q 174 [some (vR 124), some (vI (ec : Nat)), some (vI (dI : Nat)), some (vI (600 * (bk : Int))), some (vL nx), none, some (vI l6), some (vI (k : Nat)), some (vI s0), none, none, none] [] (KD, MI, ML, GR d e nw th x) := by
          intro hoth
          refine v_X12_fits_174 ?_
          simp only [Int.toNat_natCast]
          rw [hA.2.1, show (600 * (bk : Int) + ((k : Nat) : Int)).toNat = 600 * bk + k by omega, hNy.2.2.2.2.2]
          refine ⟨by omega, fun h3 => ⟨fun z0 => s203 s0 hs0 (fun _ w => ?_) hoth (fun _ => h0), fun z0 => ⟨by omega, by omega, fun hb => ?_, fun hb => s203 s0 hs0 (fun _ _ w => ?_) hoth (fun _ => h0)⟩⟩, fun h3 => s203 s0 hs0 (fun w => absurd w h3) hoth (fun _ => h0)⟩
          · rw [if_pos w] at hs0; omega
          · have hy3 : y.1 = 3 := Decidable.byContradiction fun w => by rw [if_neg w] at hs0; omega
            rw [if_neg (by omega), if_pos ⟨h3, by omega⟩] at hfit
            exact zero hfit.symm
          · rw [w] at hb; exact hb rfl
        have s144 : (q.2.1 = 1 → fitF D.1.2.1 q (chR D.2.1 (ec : Int) (k + 1)) nx dn = fitS D.1.2.1 D.2.1 (ec : Int) q) → wp cs mX12_fits KD Q 144 [some (vR 124), some (vI (ec : Nat)), some (vI (dI : Nat)), some (vI (600 * (bk : Int))), some (vL nx), none, some (vI l6), some (vI (k : Nat)), some (vI s0), none, none, none] [] (KD, MI, ML, GR d e nw th x) := by
          intro h1c
          refine v_X12_fits_144 ?_
          simp only [Int.toNat_natCast]
          rw [hA.2.1]
          refine ⟨by omega, fun h2' => ⟨fun z0 => ?_, fun z0 => s174 (fun _ => ?_)⟩, fun h2' => s174 (fun h3 => ?_)⟩
          · have hy1 : y.1 = 1 := by
              rcases k13 with w | w
              · exact w
              · rw [if_pos w.1] at hs0; omega
            rw [if_pos hy1, if_neg (by omega), if_neg (by omega)] at hfit
            refine c_rnamed hH' hd60 hA hy hy1 (rJ_mk ?_)
            rw [l_and_m1 (nmd_ok _ _)]
            refine ⟨fun hz => ?_, fun hz => s174 (fun _ => ?_)⟩
            · rw [if_pos hz] at hfit; exact zero hfit.symm
            · rw [if_neg hz] at hfit; exact hfit
          · have hy3 : y.1 = 3 := Decidable.byContradiction fun w => by rw [if_neg w] at hs0; omega
            rw [if_neg (by omega), if_neg (fun w => by omega)] at hfit
            exact hfit
          · by_cases hy1 : y.1 = 1
            · rw [if_pos hy1, if_neg h3] at hfit
              by_cases hq1 : q.2.1 = 1
              · exact h1c hq1
              · exfalso; omega
            · rw [if_neg hy1, if_neg (fun w => h3 w.1)] at hfit
              exact hfit
        refine ⟨fun h1' => ⟨fun z0 => ?_, fun z0 => s144 (fun _ => ?_)⟩, fun h1' => s144 (fun w => absurd w h1')⟩
        · have hy1 : y.1 = 1 := by
            rcases k13 with w | w
            · exact w
            · rw [if_pos w.1] at hs0; omega
          rw [if_pos hy1, if_neg (by omega), if_pos h1'] at hfit
          have hnm := hNy.2.2.1.2 (Or.inl hy1)
          rw [show (600 * (bk : Int) + ((k : Nat) : Int)).toNat = 600 * bk + k by omega]
          refine ⟨by omega, by omega, c_rdeclOf hH' hnm (rI_mk ?_)⟩
          by_cases hm : fIdx (clN y.2.2.1) D.1.2.1 0 = -1
          · rw [if_pos hm] at hfit ⊢
            exact ⟨fun _ => zero hfit.symm, fun w => by omega⟩
          · rw [if_neg hm] at hfit ⊢
            have := fIdx_lt (clN y.2.2.1) D.1.2.1 0
            exact ⟨fun w => by omega, fun _ => s144 (fun _ => hfit)⟩
        · have hy3 : y.1 = 3 := Decidable.byContradiction fun w => by rw [if_neg w] at hs0; omega
          rw [if_neg (by omega), if_neg (fun w => by omega)] at hfit
          exact hfit
      exact ⟨fun h3 => s91 1 (by rw [if_pos h3]), fun h3 => s91 0 (by rw [if_neg h3])⟩
  refine v_X12_fits_0 ?_
  rw [h7]
  simp only [Int.toNat_natCast]
  refine ⟨by omega, by omega, by omega, ?_⟩
  rw [show ((ec : Nat) : Int) + 1 = ((ec + 1 : Nat) : Int) by omega]
  by_cases h3 : q.2.1 = 3
  · obtain ⟨g1, g2, g3⟩ := hA.2.2.2 h3
    rw [g1, g2]
    refine key (D.2.1.length - (ec + 1)) (ec + 1) _ _ (decide (q.2.2.2.2.2.2.2 ≠ 0)) (by omega) (by omega) (by simp) ?_
    unfold fitS
    rw [chN_R hAt hel]
  · refine key (D.2.1.length - (ec + 1)) (ec + 1) _ _ (decide (MI 152 dI ≠ 0)) (by omega) (by omega) (by simp) ?_
    unfold fitS
    rw [chN_R hAt hel]
    exact fitF_ind h3 _ _ _ _ _
end Pb09
