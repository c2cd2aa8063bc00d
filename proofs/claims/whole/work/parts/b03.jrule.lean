/-! The class's judgement of RULES, and of all declarations. -/
section Pb03
variable {cs : Cs} {Q : Option AV → Mm → Prop} {MI ML : Nat → Nat → Int} {b d e nw th x pl : Nat} {T : Nat → Int} {n : Int} {N : List By} {fs : Fi} {ids : List Nat} {rs : List Rl} {ds : List Dc} {D : Dt} {ns : List Nd} {op : List Int} {dp : Int}
theorem isNmB_iff {v : By} : isNmB v = true ↔ 0 < v.length ∧ v.length ≤ 20 ∧ isNs (v.headD 0) ∧ ∀ c ∈ v, isNb c := by
  unfold isNmB
  rw [Bool.and_eq_true, decide_eq_true_iff, List.all_eq_true]
  constructor
  · rintro ⟨⟨h1, h2, h3⟩, h4⟩
    exact ⟨h1, h2, h3, fun c hc => of_decide_eq_true (h4 c hc)⟩
  · rintro ⟨h1, h2, h3, h4⟩
    exact ⟨⟨h1, h2, h3⟩, fun c hc => decide_eq_true (h4 c hc)⟩
/-- a value among the values: is it a NAME? -/
theorem c_kisName_l (hbd : b = 38 ∨ b = 81) {f t P : Int} {v : By} (hP : P ≤ 2000) (hv : slc (MI (b + 41)) P f (t - f) v) (hT : (∀ c ∈ v, isNb c) → Q (some (vI 1)) (MI, ML, GR d e nw th x)) (hF : (∃ c ∈ v, ¬ isNb c) → Q (some (vI 0)) (MI, ML, GR d e nw th x)) :
    ∀ (m i : Nat), i + m = v.length → (∀ k c, k < i → v[k]? = some c → isNb c) → wp cs mX4_isName KD Q 30 [some (vR 11), some (vR b), some (vI f), some (vI t), some (vI (f + (i : Nat)))] [] (KD, MI, ML, GR d e nw th x) := by
  obtain ⟨h1, h2, h3, h4⟩ := hv
  intro m
  induction m with
  | zero =>
    intro i hi hk
    refine v_X4_isName_30 hbd ⟨fun z => by omega, fun _ => hT (fun c hc => ?_)⟩
    obtain ⟨k, hk1⟩ := List.getElem?_of_mem hc
    have := (List.getElem?_eq_some_iff.mp hk1).1
    exact hk k c (by omega) hk1
  | succ m ih =>
    intro i hi hk
    obtain ⟨c, hc⟩ : ∃ c, v[i]? = some c := ⟨_, List.getElem?_eq_getElem (by omega)⟩
    have hb := h4 i c hc
    refine v_X4_isName_30 hbd ⟨fun _ => ⟨by omega, ?_⟩, fun z => by omega⟩
    rw [show (f + ((i : Nat) : Int)).toNat = f.toNat + i by omega, hb]
    refine w_X1_isNameByte (rI_mk ?_)
    by_cases hn : isNb c
    · rw [show bI (isNb c) = 1 from if_pos hn, show f + ((i : Nat) : Int) + 1 = f + ((i + 1 : Nat) : Int) by omega]
      refine ⟨fun z => by omega, fun _ => ⟨by omega, ih (i + 1) (by omega) (fun k c' hk1 hk2 => ?_)⟩⟩
      by_cases hh : k = i
      · subst hh; rw [hc] at hk2; cases hk2; exact hn
      · exact hk k c' (by omega) hk2
    · rw [show bI (isNb c) = 0 from if_neg hn]
      exact ⟨fun _ => hF ⟨c, List.mem_of_getElem? hc, hn⟩, fun z => absurd rfl z⟩
theorem c_kisName (hbd : b = 38 ∨ b = 81) {f t P : Int} {v : By} (hP : P ≤ 2000) (hv : slc (MI (b + 41)) P f (t - f) v) (hQ : Q (some (vI (if isNmB v = true then 1 else 0))) (MI, ML, GR d e nw th x)) :
    wp cs mX4_isName KD Q 0 (padL [vR 11, vR b, vI f, vI t] 5) [] (KD, MI, ML, GR d e nw th x) := by
  obtain ⟨h1, h2, h3, h4⟩ := hv
  refine v_X4_isName_0 hbd ⟨fun hlt => ⟨by omega, fun h20 => ?_, fun h20 => ⟨by omega, ?_⟩⟩, fun hge => ?_⟩
  · rw [if_neg (fun z => by have := isNmB_iff.mp z; omega)] at hQ; exact hQ
  · obtain ⟨c, hc⟩ : ∃ c, v[0]? = some c := ⟨_, List.getElem?_eq_getElem (by omega)⟩
    have hb : MI (b + 41) f.toNat = c := h4 0 c hc
    have hh : v.headD 0 = c := by cases v with
      | nil => simp at hc
      | cons a t => simpa using hc
    rw [hb]
    refine w_X1_startsName (rI_mk ?_)
    by_cases hn : isNs c
    · rw [show bI (isNs c) = 1 from if_pos hn]
      refine ⟨fun z => by omega, fun _ => ?_⟩
      have := c_kisName_l (cs := cs) (d := d) (e := e) (nw := nw) (th := th) (x := x) (ML := ML) (Q := Q) hbd hP ⟨h1, h2, h3, h4⟩ (fun hall => by rw [if_pos (isNmB_iff.mpr ⟨by omega, by omega, by rw [hh]; exact hn, hall⟩)] at hQ; exact hQ) (fun hex => by
        rw [if_neg (fun z => by obtain ⟨c', z1, z2⟩ := hex; exact z2 ((isNmB_iff.mp z).2.2.2 c' z1))] at hQ; exact hQ) v.length 0 (Nat.zero_add _) (fun k c hk => by omega)
      rw [show f + (((0 : Nat)) : Int) = f by omega] at this
      exact this
    · rw [show bI (isNs c) = 0 from if_neg hn]
      rw [if_neg (fun z => by have := (isNmB_iff.mp z).2.2.1; rw [hh] at this; exact hn this)] at hQ
      exact ⟨fun _ => hQ, fun z => absurd rfl z⟩
  · rw [if_neg (fun z => by have := isNmB_iff.mp z; omega)] at hQ; exact hQ
/-- is it one of the tokens? -/
theorem c_kisTok_i (hbd : b = 38 ∨ b = 81) {f t P F L : Int} {v y : By} {l2 l5 : Int} {k : Nat} (hP : P ≤ 2000) (hv : slc (MI (b + 41)) P f (t - f) v) (hk : k < 3000) (hn : n ≤ 6000) (htx : ∀ i : Nat, (i : Int) < n → MI (b + 2) i = T i) (eF : MI (b + 30) k = F) (eL : MI (b + 31) k = L) (hy : slc T n F L y) (hL : L = t - f)
    (hT : v = y → Q (some (vI 1)) (MI, ML, GR d e nw th x)) (hF : v ≠ y → wp cs mX4_isToken KD Q 15 [some (vR 11), some (vR b), some (vI l2), some (vI f), some (vI t), some (vI l5), some (vI ((k : Nat) + 1)), none, none] [] (KD, MI, ML, GR d e nw th x)) :
    ∀ (m i : Nat), i + m = v.length → (∀ j, j < i → MI (b + 41) (f.toNat + j) = T (F.toNat + j)) → wp cs mX4_isToken KD Q 59 [some (vR 11), some (vR b), some (vI l2), some (vI f), some (vI t), some (vI l5), some (vI (k : Nat)), some (vI 1), some (vI (i : Nat))] [] (KD, MI, ML, GR d e nw th x) := by
  obtain ⟨h1, h2, h3, h4⟩ := hv
  obtain ⟨y1, y2, y3, y4⟩ := hy
  intro m
  induction m with
  | zero =>
    intro i hi hj
    have he : v = y := slc_eq (l := t - f) ⟨h1, h2, h3, h4⟩ (by rw [← hL]; exact ⟨y1, y2, y3, y4⟩) (fun j hj' => hj j (by omega))
    exact v_X4_isToken_59 hbd ⟨fun z => by omega, fun _ => ⟨by omega, fun z => by omega, fun _ => ⟨fun z => by omega, fun _ => hT he⟩⟩⟩
  | succ m ih =>
    intro i hi hj
    refine v_X4_isToken_59 hbd ⟨fun z => by omega, fun _ => ⟨by omega, fun _ => ?_, fun z => by omega⟩⟩
    simp only [Int.toNat_natCast]
    rw [eF, show (F + ((i : Nat) : Int)).toNat = F.toNat + i by omega, show (f + ((i : Nat) : Int)).toNat = f.toNat + i by omega, htx _ (by omega), show ((i : Nat) : Int) + 1 = ((i + 1 : Nat) : Int) by omega]
    refine ⟨by omega, by omega, by omega, by omega, by omega, fun he => ⟨by omega, ih (i + 1) (by omega) (fun j hj' => ?_)⟩, fun he => ⟨by omega, ?_⟩⟩
    · by_cases hh : j = i
      · subst hh; exact he.symm
      · exact hj j (by omega)
    · have hne : v ≠ y := fun w => he (by
        subst w
        rw [slc_at (x := v) ⟨y1, y2, y3, y4⟩ (i := i) (by omega), slc_at (x := v) ⟨h1, h2, h3, h4⟩ (i := i) (by omega)])
      exact v_X4_isToken_59 hbd ⟨fun _ => ⟨fun _ => ⟨by omega, hF hne⟩, fun z => absurd rfl z⟩, fun z => absurd rfl z⟩
theorem c_kisTok_l (hbd : b = 38 ∨ b = 81) {f t P : Int} {v : By} {r : Nat} {q : Rl} (hP : P ≤ 2000) (hv : slc (MI (b + 41)) P f (t - f) v) (hn : n ≤ 6000) (htx : ∀ i : Nat, (i : Int) < n → MI (b + 2) i = T i) (hR : RulC b T n N rs MI) (hq : rs[r]? = some q)
    (hQ : Q (some (vI (if v ∈ q.2.2.2.1 then 1 else 0))) (MI, ML, GR d e nw th x)) (htk : tkA (rs.take r) + q.2.2.2.1.length ≤ 3000) :
    ∀ (u pre : List By), pre ++ u = q.2.2.2.1 → v ∉ pre → wp cs mX4_isToken KD Q 15 [some (vR 11), some (vR b), some (vI (r : Nat)), some (vI f), some (vI t), some (vI (tkA (rs.take r) : Nat)), some (vI ((tkA (rs.take r) + pre.length : Nat) : Int)), none, none] [] (KD, MI, ML, GR d e nw th x) := by
  have hr := (List.getElem?_eq_some_iff.mp hq).1
  have h750 := hR.2.1
  obtain ⟨r1, r2, r3, r4, r5, r6, -⟩ := hR.2.2.2.2 r q hq
  intro u
  induction u with
  | nil =>
    intro pre hp hnot
    rw [List.append_nil] at hp
    subst hp
    refine v_X4_isToken_15 hbd ?_
    simp only [Int.toNat_natCast]
    rw [r5]
    refine ⟨by omega, by omega, fun z => by omega, fun _ => ?_⟩
    rw [if_neg hnot] at hQ; exact hQ
  | cons y u ih =>
    intro pre hp hnot
    have hlen : pre.length < q.2.2.2.1.length := by rw [← hp]; simp
    have hy : q.2.2.2.1[pre.length]? = some y := by rw [← hp]; simp
    have hs := r6 pre.length y hy
    have hp' : (pre ++ [y]) ++ u = q.2.2.2.1 := by rw [List.append_assoc]; exact hp
    have el : ((tkA (rs.take r) + pre.length : Nat) : Int) + 1 = ((tkA (rs.take r) + (pre ++ [y]).length : Nat) : Int) := by rw [List.length_append, List.length_singleton]; omega
    have nxt : v ≠ y → wp cs mX4_isToken KD Q 15 [some (vR 11), some (vR b), some (vI (r : Nat)), some (vI f), some (vI t), some (vI (tkA (rs.take r) : Nat)), some (vI (((tkA (rs.take r) + pre.length : Nat) : Int) + 1)), none, none] [] (KD, MI, ML, GR d e nw th x) := fun hne => by
      rw [el]
      exact ih (pre ++ [y]) hp' (fun z => by
        rw [List.mem_append, List.mem_singleton] at z
        exact z.elim hnot hne)
    obtain ⟨h1, h2, h3, h4⟩ := hv
    refine v_X4_isToken_15 hbd ?_
    simp only [Int.toNat_natCast]
    rw [r5]
    refine ⟨by omega, by omega, fun _ => ⟨by omega, by omega, fun hL => ?_, fun hL => ?_⟩, fun z => by omega⟩
    · have := c_kisTok_i (cs := cs) (d := d) (e := e) (nw := nw) (th := th) (x := x) (ML := ML) (Q := Q) (l2 := (r : Nat)) (l5 := (tkA (rs.take r) : Nat)) hbd hP ⟨h1, h2, h3, h4⟩ (by omega) hn htx rfl rfl hs hL (fun he => by
        rw [if_pos (by rw [← hp, he]; simp)] at hQ; exact hQ) nxt v.length 0 (Nat.zero_add _) (fun j hj => by omega)
      exact this
    · have hne : v ≠ y := fun w => hL (by rw [hs.2.1, h2, w])
      exact v_X4_isToken_59 hbd ⟨fun _ => ⟨fun _ => ⟨by omega, nxt hne⟩, fun z => absurd rfl z⟩, fun z => absurd rfl z⟩
theorem tkA_take {r : Nat} {q : Rl} (hq : rs[r]? = some q) : tkA (rs.take r) + q.2.2.2.1.length ≤ tkA rs := by
  have h := (List.getElem?_eq_some_iff.mp hq)
  have h1 : rs.take (r + 1) = rs.take r ++ [q] := by rw [List.take_succ, hq]; rfl
  have h2 : tkA (rs.take (r + 1)) ≤ tkA rs := by
    conv => rhs; rw [← List.take_append_drop (r + 1) rs]
    unfold tkA
    rw [List.map_append, List.sum_append]
    omega
  rw [h1] at h2
  unfold tkA at h2 ⊢
  rw [List.map_append, List.sum_append] at h2
  simpa using h2
theorem c_isOfType (hbd : b = 38 ∨ b = 81) {f t P : Int} {v : By} {r : Nat} {q : Rl} (hP : P ≤ 2000) (hv : slc (MI (b + 41)) P f (t - f) v) (hn : n ≤ 6000) (htx : ∀ i : Nat, (i : Int) < n → MI (b + 2) i = T i) (hR : RulC b T n N rs MI) (hq : rs[r]? = some q)
    (hQ : Q (some (vI (if ofT q v = true then 1 else 0))) (MI, ML, GR d e nw th x)) :
    wp cs mX4_isOfType KD Q 0 (padL [vR 11, vR b, vI (r : Nat), vI f, vI t] 5) [] (KD, MI, ML, GR d e nw th x) := by
  have hr := (List.getElem?_eq_some_iff.mp hq).1
  have h750 := hR.2.1
  have hA := hR.2.2.2.2 r q hq
  obtain ⟨r1, r2, r3, r4, r5, r6, -⟩ := hA
  unfold ofT at hQ
  refine v_X4_isOfType_0 hbd ?_
  simp only [Int.toNat_natCast]
  rw [r3]
  refine ⟨by omega, fun h1 => ?_, fun h1 => ⟨fun h0 => ?_, fun h0 => ?_⟩⟩
  · rw [if_neg (show ¬ q.2.2.1 = 0 by omega), if_pos h1] at hQ
    exact c_kisName hbd hP hv (rI_mk ⟨by split <;> simp, hQ⟩)
  · rw [if_pos h0] at hQ; exact hQ
  · rw [if_neg h0, if_neg h1] at hQ
    have htk := tkA_take hq
    have h3000 := hR.2.2.2.1
    refine v_X4_isToken_0 hbd ?_
    simp only [Int.toNat_natCast]
    rw [r4]
    refine ⟨by omega, ?_⟩
    refine c_kisTok_l hbd hP hv hn htx hR hq (rI_mk ?_) (by omega) q.2.2.2.1 [] rfl (by simp)
    by_cases hm : v ∈ q.2.2.2.1
    · rw [if_pos (decide_eq_true hm)] at hQ
      rw [if_pos hm]
      exact ⟨fun z => by omega, fun _ => hQ⟩
    · rw [if_neg (by rw [decide_eq_false hm]; decide)] at hQ
      rw [if_neg hm]
      exact ⟨fun _ => hQ, fun z => absurd rfl z⟩
/-- an earlier RULE of the same NAME has type ID -/
theorem c_earlier_l (hbd : b = 38 ∨ b = 81) {r : Nat} {q : Rl} (hR : RulC b T n N rs MI) (hG : RuG rs) (hq : rs[r]? = some q) (hQ : Q (some (vI (if erI rs r q.1 = true then 1 else 0))) (MI, ML, GR d e nw th x)) :
    ∀ (m k t : Nat), k + m = r → t + cntO (rs.drop k) q.1 ≤ 10 → (∀ (i : Nat) (z : Rl), i < k → rs[i]? = some z → z.2.2.1 = 1 → z.1 ≠ q.1) →
    wp cs mX4_hasEarlierId KD Q 20 [some (vR 11), some (vR b), some (vI (r : Nat)), some (vI (fIdx (ofN q.1) (rs.drop k) k)), some (vI (t : Nat))] [] (KD, MI, ML, GR d e nw th x) := by
  have hr := (List.getElem?_eq_some_iff.mp hq).1
  have h750 := hR.2.1
  intro m
  induction m using Nat.strongRecOn with
  | _ m ih =>
    intro k t hk ht hi
    have hne : fIdx (ofN q.1) (rs.drop k) k ≠ -1 := fun w => by
      have := fIdx_m1 w q (by
        rw [List.mem_iff_getElem?]
        exact ⟨r - k, by rw [List.getElem?_drop, show k + (r - k) = r by omega]; exact hq⟩)
      simp [ofN] at this
    obtain ⟨j, z, hj1, hj2, hj3, hj4, hj5⟩ := fIdx_drop hne
    have hz : z.1 = q.1 := by simpa [ofN] using hj4
    have hjr : j ≤ r := by
      refine Decidable.byContradiction fun w => ?_
      have := hj5 r q (by omega) (by omega) hq
      simp [ofN] at this
    have hcnt := cntO_skip hj2 hj3 hz
    rw [hj1]
    refine v_X4_hasEarlierId_20 hbd ⟨fun _ => ⟨fun w => by omega, fun _ => ⟨fun he => ?_, fun he => ?_⟩⟩, fun w => by omega⟩
    · rw [if_neg (fun w => ?_)] at hQ
      · exact hQ
      · unfold erI at w
        rw [List.any_eq_true] at w
        obtain ⟨y, hy1, hy2⟩ := w
        obtain ⟨i, hi1⟩ := List.getElem?_of_mem hy1
        rw [List.getElem?_take] at hi1
        split at hi1
        · rw [Bool.and_eq_true] at hy2
          have w1 := of_decide_eq_true hy2.1
          have w2 := of_decide_eq_true hy2.2
          by_cases hik : i < k
          · exact hi i y hik hi1 w1 w2
          · have := hj5 i y (by omega) (by omega) hi1
            simp [ofN, w2] at this
        · cases hi1
    · have hA := hR.2.2.2.2 j z hj3
      simp only [Int.toNat_natCast]
      rw [hA.2.2.1]
      refine ⟨by omega, fun h1 => ?_, fun h1 => ⟨by omega, ?_⟩⟩
      · rw [if_pos] at hQ
        · exact hQ
        · unfold erI
          rw [List.any_eq_true]
          refine ⟨z, ?_, by rw [decide_eq_true h1, decide_eq_true hz]; rfl⟩
          rw [List.mem_iff_getElem?]
          exact ⟨j, by rw [List.getElem?_take, if_pos (by omega)]; exact hj3⟩
      · rw [hA.2.2.2.2.2.2.2.2, hz, show ((t : Nat) : Int) + 1 = ((t + 1 : Nat) : Int) by omega]
        refine ih (r - (j + 1)) (by omega) (j + 1) (t + 1) (by omega) (by omega) (fun i y hi1 hi2 hi3 => ?_)
        by_cases hik : i < k
        · exact hi i y hik hi2 hi3
        · by_cases hij : i = j
          · subst hij; rw [hj3] at hi2; cases hi2; exact absurd hi3 h1
          · intro w2
            have := hj5 i y (by omega) (by omega) hi2
            simp [ofN, w2] at this
theorem c_judgeRule (hbd : b = 38 ∨ b = 81) {r : Nat} {q : Rl} (hn : n ≤ 6000) (hD : DocC b T n N pl D ns op dp MI ML) (hG : RuG D.2.2) (hJ : JuC fs MI) (hI : IdsC ids MI) (hq : D.2.2[r]? = some q) (hl : fs.length + (jrS D.2.2 r q).length ≤ 8000)
    (hQ : ∀ MI', JuC (fs ++ jrS D.2.2 r q) MI' → IdsC ids MI' → jfr MI MI' → Q none (MI', ML, GR d e nw th x)) :
    wp cs mX4_judgeRule KD Q 0 (padL [vR 11, vR b, vI (r : Nat)] 4) [] (KD, MI, ML, GR d e nw th x) := by
  have hr := (List.getElem?_eq_some_iff.mp hq).1
  have h750 := hD.2.2.2.1.2.1
  have hA := hD.2.2.2.1.2.2.2.2 r q hq
  unfold jrS at hl
  rw [List.length_append] at hl
  have second : ∀ (gs : Fi) (MI1 : Nat → Nat → Int), jfr MI MI1 → JuC gs MI1 → IdsC ids MI1 → gs.length + (if 2 ≤ q.2.2.2.2.1 ∧ ofT q q.2.2.2.2.2 = false then [(5, (r : Int))] else ([] : Fi)).length ≤ 8000 → gs ++ (if 2 ≤ q.2.2.2.2.1 ∧ ofT q q.2.2.2.2.2 = false then [(5, (r : Int))] else []) = fs ++ jrS D.2.2 r q → wp cs mX4_judgeRule KD Q 38 [some (vR 11), some (vR b), some (vI (r : Nat)), some (vR (b + 20))] [] (KD, MI1, ML, GR d e nw th x) := by
    intro gs MI1 f1 J1 I1 hl1 hg
    have D1 := DocC_j hbd hD f1
    have A1 := D1.2.2.2.1.2.2.2.2 r q hq
    have p1 := D1.2.2.2.2.2.2.1
    refine v_X4_judgeRule_38 hbd (c_hasValue hbd D1.2.2.2.1 hG hq (fun h2 => rI_mk ⟨fun z => by omega, fun _ => ⟨by omega, ?_⟩⟩) (fun h2 => rI_mk ⟨fun _ => ?_, fun z => absurd rfl z⟩))
    · simp only [Int.toNat_natCast]
      have hP : MI1 b 14 ≤ 2000 := by
        have := D1.2.2.2.2.1.2.2.1
        omega
      refine c_isOfType hbd hP A1.2.2.2.2.2.2.2.1 hn D1.1.2.2.1 D1.2.2.2.1 hq (rI_mk ?_)
      cases ho : ofT q q.2.2.2.2.2 with
      | true =>
        rw [if_pos rfl]
        rw [if_neg (fun z => by rw [ho] at z; cases z.2), List.append_nil] at hg
        exact ⟨fun z => by omega, fun _ => hQ MI1 (by rw [← hg]; exact J1) I1 f1⟩
      | false =>
        rw [if_neg (by decide)]
        rw [if_pos ⟨h2, ho⟩] at hg hl1
        refine ⟨fun _ => c_report J1 I1 (by simp at hl1; omega) (by omega) (by omega) (fun MI2 J2 I2 f2 => rV_mk ?_), fun z => absurd rfl z⟩
        exact hQ MI2 (by rw [← hg]; exact J2) I2 (jfr_tr f1 f2)
    · rw [if_neg (fun z => h2 z.1), List.append_nil] at hg
      exact hQ MI1 (by rw [← hg]; exact J1) I1 f1
  have no : ¬ (q.2.2.1 = 1 ∧ (2 ≤ q.2.2.2.2.1 ∨ erI D.2.2 r q.1 = true)) → wp cs mX4_judgeRule KD Q 38 [some (vR 11), some (vR b), some (vI (r : Nat)), some (vR (b + 20))] [] (KD, MI, ML, GR d e nw th x) := fun hc => second fs MI (jfr_rfl _) hJ hI (by omega) (by unfold jrS; rw [if_neg hc, List.nil_append])
  have yes : (q.2.2.1 = 1 ∧ (2 ≤ q.2.2.2.2.1 ∨ erI D.2.2 r q.1 = true)) → wp cs mX4_report KD (rV (GR d e nw th x) fun m35 n35 => wp cs mX4_judgeRule KD Q 38 [some (vR 11), some (vR b), some (vI (r : Nat)), some (vR (b + 20))] [] (KD, m35, n35, (GR d e nw th x))) 0 (padL [vR 11, vI 4, vI (r : Nat)] 3) [] (KD, MI, ML, (GR d e nw th x)) := fun hc => by
    rw [if_pos hc, List.length_singleton] at hl
    exact c_report hJ hI (by omega) (by omega) (by omega) (fun MI2 J2 I2 f2 => rV_mk (second _ MI2 f2 J2 I2 (by rw [fi_len]; omega) (by unfold jrS; rw [if_pos hc, List.append_assoc])))
  refine v_X4_judgeRule_0 hbd ?_
  simp only [Int.toNat_natCast]
  rw [hA.2.2.1]
  refine ⟨by omega, fun h1 => ?_, fun h1 => no (fun z => h1 z.1)⟩
  refine c_hasValue hbd hD.2.2.2.1 hG hq (fun h2 => rI_mk ⟨fun z => by omega, fun _ => yes ⟨h1, Or.inl h2⟩⟩) (fun h2 => rI_mk ⟨fun _ => ?_, fun z => absurd rfl z⟩)
  have hN := hD.1
  have hid := hA.2.1
  have hidx := hD.2.1 (MI (b + 22) r).toNat q.1 hid.2
  refine v_X4_hasEarlierId_0 hbd ⟨by omega, w_X5_ruleOf hbd (by rw [hN.1]; have := hN.2.1; omega) (fun hr' => rI_mk ?_) (fun hr' => ?_)⟩
  · simp only [Int.toNat_natCast]
    rw [hidx.2]
    have := c_earlier_l (cs := cs) (d := d) (e := e) (nw := nw) (th := th) (x := x) (ML := ML) hbd hD.2.2.2.1 hG hq (Q := rI (GR d e nw th x) fun x26 m26 n26 => ((x26 = 0 → wp cs mX4_judgeRule KD Q 38 [some (vR 11), some (vR b), some (vI (r : Nat)), some (vR (b + 20))] [] (KD, m26, n26, (GR d e nw th x))) ∧ (x26 ≠ 0 → wp cs mX4_report KD (rV (GR d e nw th x) fun m35 n35 => wp cs mX4_judgeRule KD Q 38 [some (vR 11), some (vR b), some (vI (r : Nat)), some (vR (b + 20))] [] (KD, m35, n35, (GR d e nw th x))) 0 (padL [vR 11, vI 4, vI (r : Nat)] 3) [] (KD, m26, n26, (GR d e nw th x))))) (rI_mk (by
        cases he : erI D.2.2 r q.1 with
        | true =>
          rw [if_pos rfl]
          exact ⟨fun z => by omega, fun _ => yes ⟨h1, Or.inr he⟩⟩
        | false =>
          rw [if_neg (by decide)]
          refine ⟨fun _ => no (fun z => ?_), fun z => absurd rfl z⟩
          rcases z.2 with w | w
          · exact h2 w
          · rw [he] at w; cases w)) r 0 0 (by omega) (by rw [List.drop_zero]; have := hG.1 q.1; omega) (fun i z hi => by omega)
    rw [List.drop_zero] at this
    exact this
  · exfalso
    have h1' := (List.getElem?_eq_some_iff.mp hid.2).1
    have h0 := hid.1
    simp only [Int.toNat_natCast] at hr'
    rw [hN.1] at hr'
    omega
end Pb03
