/-! How much a judgement can find. -/
theorem deS_n {T : Nat → Int} {n h : Int} {ds ds' : List Dc} {nr : Nat} {w : Int} (h2 : deS T n ds nr h = .inr (ds', w)) : w ≤ n := by
  unfold deS at h2
  split at h2
  · cases h2
  · obtain ⟨g', _, h2⟩ := pb_inr h2
    obtain ⟨y', _, h2⟩ := pb_inr h2
    obtain ⟨z', _, h2⟩ := pb_inr h2
    obtain ⟨q', _, h2⟩ := pb_inr h2
    obtain ⟨v', hv, h2⟩ := pb_inr h2
    have hb := mbS_eq hv
    have := ob_lt (c := 62) (by decide) hb.2
    cases h2
    omega
theorem ruS_pl {T : Nat → Int} {n h : Int} {pl pl' : Nat} {rs rs' : List Rl} {o : By} {y : Int} (h0 : 0 ≤ h) (hp : pl ≤ 2000) (hy : ruS T n pl rs o h = .inr (pl', rs', y)) : pl' ≤ 2000 := by
  unfold ruS at hy
  obtain ⟨g, g1, hy⟩ := pb_inr hy
  have := nmS_ok g1
  split at hy
  · cases hy
  · obtain ⟨q, g2, hy⟩ := pb_inr hy
    obtain ⟨z, g3, hy⟩ := pb_inr hy
    have t1 := tyS_le (show tyS T n g = .inr (q.1, q.2.1, q.2.2) from g2)
    have t2 := dfS_le (by omega) (show dfS T n (2000 - pl) q.2.2 = .inr (z.1, z.2.1, z.2.2) from g3)
    injection hy with hy
    have := congrArg (fun z => z.1) hy
    simp only at this
    omega
theorem rusF_pl (T : Nat → Int) (n : Int) (o : By) : ∀ (k pl : Nat) (rs : List Rl) (h : Int) (pl' : Nat) (rs' : List Rl) (y : Int), 0 ≤ h → pl ≤ 2000 → rusF T n o k pl rs h = .inr (pl', rs', y) → pl' ≤ 2000
  | 0, pl, rs, h, pl', rs', y, _, _, hy => by simp [rusF] at hy
  | k + 1, pl, rs, h, pl', rs', y, h0, hp, hy => by
    have hs := sk_le T n h
    rw [rusF] at hy
    split at hy
    · obtain ⟨q, h1, h2⟩ := pb_inr hy
      have h1' : ruS T n pl rs o (sk T n h) = .inr (q.1, q.2.1, q.2.2) := h1
      have a1 := ruS_le (by omega) h1'
      exact rusF_pl T n o k _ _ _ _ _ _ (by omega) (ruS_pl (by omega) hp h1') h2
    · obtain ⟨z, h1, h2⟩ := pb_inr hy
      cases h2; exact hp
theorem dcF_pl {T : Nat → Int} {n : Int} : ∀ (k pl : Nat) (ds : List Dc) (rs : List Rl) (h : Int) (pl' : Nat) (ds' : List Dc) (rs' : List Rl) (y : Int), 0 ≤ h → h ≤ n → pl ≤ 2000 → dcF T n k pl ds rs h = .inr (pl', ds', rs', y) → pl' ≤ 2000
  | 0, pl, ds, rs, h, pl', ds', rs', y, _, _, _, hy => by simp [dcF] at hy
  | k + 1, pl, ds, rs, h, pl', ds', rs', y, h0, h1, hp, hy => by
    rw [dcF] at hy
    split at hy
    · cases hy; exact hp
    · split at hy
      · rename_i hs
        have hr := stb_room _ h h0 (by decide) (by decide) hs
        simp only [List.length_cons, List.length_nil] at hr
        obtain ⟨q, h2, hy⟩ := pb_inr hy
        obtain ⟨z, h3, hy⟩ := pb_inr hy
        have a2 := deS_le (by omega) (show deS T n ds rs.length h = .inr (q.1, q.2) from h2)
        have hqn := deS_n (show deS T n ds rs.length h = .inr (q.1, q.2) from h2)
        have a3 := mcS_le (by omega) hqn h3
        exact dcF_pl k _ _ _ _ _ _ _ _ (by omega) a3.2 hp hy
      · split at hy
        · rename_i hs
          have hr := stb_room _ h h0 (by decide) (by decide) hs
          simp only [List.length_cons, List.length_nil] at hr
          obtain ⟨q, h2, hy⟩ := pb_inr hy
          obtain ⟨z, h3, hy⟩ := pb_inr hy
          have h2' : alS T n pl rs (h + 9) = .inr (q.1, q.2.1, q.2.2) := h2
          have a2 := alS_le (by omega) h2'
          have a3 := mcS_le (by omega) (alS_n h2') h3
          have a4 : q.1 ≤ 2000 := by
            unfold alS at h2'
            obtain ⟨g, c1, h2'⟩ := pb_inr h2'
            obtain ⟨v, c2, h2'⟩ := pb_inr h2'
            have d1 := msS_lt c1
            have d2 := nmS_ok c2
            exact rusF_pl T n _ _ _ _ _ _ _ _ (by omega) hp h2'
          exact dcF_pl k _ _ _ _ _ _ _ _ (by omega) a3.2 a4 hy
        · cases hy
theorem dtS_pl {T : Nat → Int} {n h : Int} {pl : Nat} {D : Dt} {y : Int} (h0 : 0 ≤ h) (hy : dtS T n h = .inr (pl, D, y)) : pl ≤ 2000 := by
  unfold dtS at hy
  split at hy
  · rename_i hs
    have hr := stb_room _ h h0 (by decide) (by decide) hs
    simp only [List.length_cons, List.length_nil] at hr
    obtain ⟨g, g1, hy⟩ := pb_inr hy
    obtain ⟨z, g2, hy⟩ := pb_inr hy
    obtain ⟨v, g3, hy⟩ := pb_inr hy
    obtain ⟨w, g4, hy⟩ := pb_inr hy
    obtain ⟨q, g5, hy⟩ := pb_inr hy
    obtain ⟨u, g6, hy⟩ := pb_inr hy
    obtain ⟨t, g7, hy⟩ := pb_inr hy
    have b1 := msS_lt g1
    have b2 := nmS_ok g2
    have b3 := mbS_eq g3
    have b3' := ob_lt (c := 91) (by decide) b3.2
    have b4 := sk_le T n z
    have b5 := mcS_le (by omega) (by omega) g4
    have := dcF_pl (n + 1).toNat 0 [] [] w q.1 q.2.1 q.2.2.1 q.2.2.2 (by omega) b5.2 (by omega) g5
    cases hy
    exact this
  · cases hy; omega
theorem rdS_V {T : Nat → Int} {n : Int} {D : Dm} (hb : ∀ k, -128 ≤ T k ∧ T k < 128) (hn : 0 ≤ n) (hy : rdS T n = .inr D) : DsV D.1.2.1 D.1.2.2.length ∧ D.1.2.1.length ≤ 30 ∧ (∃ y, D.2.1[1]? = some y ∧ y.1 = 1) ∧ 8 * ((D.1.2.2.length : Nat) : Int) + 4 * ((eN D.2.1 : Nat) : Int) ≤ n ∧ (RuG D.1.2.2 ∧ RuV D.1.2.2) := by
  rw [rdS_E] at hy
  obtain ⟨a, g1, hy⟩ := pb_inr hy
  obtain ⟨q, g2, hy⟩ := pb_inr hy
  unfold rdE at hy
  obtain ⟨g, g3, hy⟩ := pb_inr hy
  obtain ⟨z, g4, hy⟩ := pb_inr hy
  obtain ⟨w, g5, hy⟩ := pb_inr hy
  obtain ⟨y, g6, hy⟩ := pb_inr hy
  split at hy
  · cases hy
  have b1 := mcS_le (by omega) hn g1
  have g2' : dtS T n a = .inr (q.1, q.2.1, q.2.2) := g2
  have b2 := dtS_V (by omega) b1.2 g2'
  have b2' := dtS_ok hb (by omega) g2'
  have b3 := mbS_eq g3
  have b3' := ob_lt (c := 60) (by decide) b3.2
  have hq0 : 0 ≤ q.2.2 := by have := b2.2.2.1; omega
  have g4' : tgS T n q.2.1.2.2 q.1 ([(0, -1, [], [], 0, 0)], [], 0) g = .inr (z.1, z.2.1, z.2.2) := g4
  have hpl : q.1 ≤ 2000 := dtS_pl (by omega) g2'
  have wf := tgS_wf hb b2'.2 (by omega) hpl g4' TrV_root
  obtain ⟨⟨v, s, e1, e2, e3⟩, e4⟩ := tgS_2 (by omega) hpl g4'
  have g5' : ctF T n q.2.1.2.2 (n + 1).toNat z.1 z.2.1 z.2.2 = .inr (w.1, w.2.1, w.2.2) := g5
  have he : eN z.2.1.1 = 1 := by
    have hs0 : eN s = 0 := eN_0 (fun u hu => by have := e3 u hu; omega)
    rw [e1, eN_app, show v :: s = [v] ++ s from rfl, eN_app, hs0]
    simp [eN, e2]
  have hz := ctF_2 hb b2'.2 _ _ _ _ _ _ _ (8 * ((q.2.1.2.2.length : Nat) : Int)) (by omega) wf.2.2.1 wf.2.2.2 wf.1 g5' (by have := b2.2.2.1; simp only [List.length_nil] at e4; omega)
  obtain ⟨⟨s', e5⟩, e6, e7⟩ := hz
  cases hy
  refine ⟨b2.1, b2.2.1, ⟨v, ?_, e2⟩, by simp only; omega, b2'⟩
  simp only
  rw [e5, e1]
  rfl
theorem jasF_len (rs : List Rl) (ns : List Nd) (o : By) : ∀ (l : List Nd) (a : Nat), (jasF rs ns o l a).length ≤ l.length
  | [], a => by simp [jasF]
  | y :: t, a => by
    rw [jasF, List.length_append, List.length_cons]
    have := jasF_len rs ns o t (a + 1)
    have h1 : (if y.2.2.2.2.1 = 0 then jaS rs ns o a y else []).length ≤ 1 := by
      split
      · unfold jaS
        split
        · simp
        · split
          · simp
          · split <;> simp
      · simp
    omega
theorem jqF_len (ns : List Nd) (e : Nat) (o : By) : ∀ (l : List Rl), (jqF ns e o l).length ≤ cntO l o
  | [] => by simp [jqF]
  | q :: t => by
    have := jqF_len ns e o t
    rw [jqF, List.length_append]
    unfold cntO at this ⊢
    rw [List.filter_cons]
    by_cases hq : q.1 = o
    · rw [if_pos (decide_eq_true hq), List.length_cons]
      have h1 : (if q.1 = o ∧ q.2.2.2.2.1 = 1 ∧ hasA ns (e : Int) q.2.1 = false then [((12 : Int), (e : Int))] else []).length ≤ 1 := by split <;> simp
      omega
    · rw [if_neg (show ¬ (q.1 = o ∧ q.2.2.2.2.1 = 1 ∧ hasA ns (e : Int) q.2.1 = false) from fun z => hq z.1), if_neg (show ¬ decide (q.1 = o) = true by simp [hq])]
      simpa using this
def wN (y : Nd) : Nat := if y.1 = 1 then 11 else if y.1 = 2 then 1 else 0
def wS (l : List Nd) : Nat := (l.map wN).sum
theorem wS_app (a c : List Nd) : wS (a ++ c) = wS a + wS c := by unfold wS; rw [List.map_append, List.sum_append]
theorem wS_2 : ∀ {l : List Nd}, (∀ y ∈ l, y.1 = 2) → wS l = l.length
  | [], _ => rfl
  | y :: t, h => by
    have h1 := h y List.mem_cons_self
    have h2 := wS_2 (l := t) (fun z hz => h z (List.mem_cons_of_mem _ hz))
    unfold wS at h2 ⊢
    rw [List.map_cons, List.sum_cons, h2, List.length_cons]
    unfold wN
    rw [if_neg (by omega), if_pos h1]; omega
theorem wS_le : ∀ (l : List Nd), wS l ≤ 10 * eN l + l.length
  | [] => by simp [wS, eN]
  | y :: t => by
    have := wS_le t
    have h2 : eN (y :: t) = (if y.1 = 1 then 1 else 0) + eN t := by
      rw [show y :: t = [y] ++ t from rfl, eN_app]
      congr 1
      unfold eN
      split
      · rename_i h; simp [h]
      · rename_i h; simp [h]
    rw [h2, List.length_cons, show wS (y :: t) = wN y + wS t from rfl]
    unfold wN
    split
    · omega
    · split <;> omega
theorem jnF_skip {ds : List Dc} {rs : List Rl} {ns : List Nd} : ∀ (c : Nat) (t : List Nd) (k : Nat), (∀ y ∈ t.take c, y.1 = 2) → c ≤ t.length → jnF ds rs ns t k = jnF ds rs ns (t.drop c) (k + c)
  | 0, t, k, _, _ => by simp
  | c + 1, [], k, _, h => by simp at h
  | c + 1, y :: t, k, h, hl => by
    have h1 := h y (by simp)
    rw [jnF, if_neg (by omega), List.nil_append, jnF_skip c t (k + 1) (fun z hz => h z (by rw [List.take_succ_cons]; exact List.mem_cons_of_mem _ hz)) (by simp at hl; omega)]
    rw [List.drop_succ_cons]
    congr 1; omega
theorem jnF_len {ds : List Dc} {rs : List Rl} {ns : List Nd} (hA : AtW ns) (hG : ∀ o, cntO rs o ≤ 10) : ∀ (m : Nat) (u pre : List Nd), u.length ≤ m → pre ++ u = ns → (jnF ds rs ns u pre.length).length ≤ wS u := by
  intro m
  induction m with
  | zero =>
    intro u pre hu _
    have : u = [] := List.eq_nil_of_length_eq_zero (by omega)
    subst this
    simp [jnF]
  | succ m ih =>
    intro u pre hu hp
    cases u with
    | nil => simp [jnF]
    | cons y t =>
      have hlen : pre.length < ns.length := by rw [← hp]; simp
      rw [jnF, List.length_append, show wS (y :: t) = wN y + wS t from rfl]
      have hp' : (pre ++ [y]) ++ t = ns := by rw [List.append_assoc]; exact hp
      have e1 : (pre ++ [y]).length = pre.length + 1 := by simp
      by_cases h1 : y.1 = 1
      · rw [if_pos h1]
        have hat := hA.2.1 pre.length hlen
        obtain ⟨c, hc⟩ : ∃ c, c = cntA ns (pre.length : Int) := ⟨_, rfl⟩
        rw [← hc] at hat
        have hcl : c ≤ t.length := by
          have := congrArg List.length hp
          simp only [List.length_append, List.length_cons] at this
          omega
        have htk : ∀ z ∈ t.take c, z.1 = 2 := fun z hz => by
          obtain ⟨i, hi⟩ := List.getElem?_of_mem hz
          rw [List.getElem?_take] at hi
          split at hi
          · rename_i hic
            have hns : ns[pre.length + 1 + i]? = some z := by rw [← hp', List.getElem?_append_right (by omega), e1, show pre.length + 1 + i - (pre.length + 1) = i by omega]; exact hi
            exact ((hat.2 _ z hns).mpr ⟨by omega, by omega⟩).1
          · cases hi
        rw [jnF_skip c t _ htk hcl]
        have hih := ih (t.drop c) (pre ++ [y] ++ t.take c) (by simp only [List.length_cons] at hu; rw [List.length_drop]; omega) (by rw [List.append_assoc (pre ++ [y]), List.take_append_drop]; exact hp')
        rw [show (pre ++ [y] ++ t.take c).length = pre.length + 1 + c by simp only [List.length_append, List.length_singleton, List.length_take]; omega] at hih
        have hw : wS t = c + wS (t.drop c) := by
          conv => lhs; rw [← List.take_append_drop c t]
          rw [wS_app, wS_2 htk, List.length_take]; omega
        have hj : (jeS ds rs ns pre.length y).length ≤ 11 + c := by
          unfold jeS
          rw [List.length_append, List.length_append]
          have q1 := jasF_len rs ns y.2.2.1 ((ns.drop (pre.length + 1)).take (cntA ns (pre.length : Int))) (pre.length + 1)
          have q2 := jqF_len ns pre.length y.2.2.1 rs
          have q3 := hG y.2.2.1
          rw [List.length_take, ← hc] at q1
          have q4 : (if fIdx (clN y.2.2.1) ds 0 = -1 then [((7 : Int), (pre.length : Int))] else if fitS ds ns (pre.length : Int) (dcA ds (fIdx (clN y.2.2.1) ds 0)) = false then [(8, (pre.length : Int))] else []).length ≤ 1 := by
            split
            · simp
            · split <;> simp
          rw [← hc]
          omega
        unfold wN
        rw [if_pos h1, hw]
        omega
      · rw [if_neg h1]
        have hih := ih t (pre ++ [y]) (by simp only [List.length_cons] at hu; omega) hp'
        rw [e1] at hih
        simp only [List.length_nil]
        omega
theorem jrS_len (rs : List Rl) (r : Nat) (q : Rl) : (jrS rs r q).length ≤ 2 := by
  unfold jrS
  rw [List.length_append]
  have h1 : (if q.2.2.1 = 1 ∧ (2 ≤ q.2.2.2.2.1 ∨ erI rs r q.1 = true) then [((4 : Int), (r : Int))] else []).length ≤ 1 := by split <;> simp
  have h2 : (if 2 ≤ q.2.2.2.2.1 ∧ ofT q q.2.2.2.2.2 = false then [((5 : Int), (r : Int))] else []).length ≤ 1 := by split <;> simp
  omega
theorem jrR_len (rs : List Rl) : ∀ (m r : Nat), (jrR rs m r).length ≤ 2 * m
  | 0, r => by simp [jrR]
  | m + 1, r => by
    rw [jrR, List.length_append]
    have := jrR_len rs m (r + 1)
    split
    · have := jrS_len rs r (by assumption)
      omega
    · simp only [List.length_nil]; omega
theorem jdS_len (ds : List Dc) (k : Nat) (q : Dc) : (jdS ds k q).length ≤ 3 := by
  unfold jdS
  rw [List.length_append, List.length_append]
  have h1 : (if fIdx (clN q.1) ds 0 ≠ (k : Int) then [((1 : Int), (k : Int))] else []).length ≤ 1 := by split <;> simp
  have h2 : (if q.2.1 = 3 ∧ (dblS q.2.2.2.1 q.2.2.2.2.2.1 = true ∨ ∃ f ∈ q.2.2.2.2.1, dblS q.2.2.2.1 f = true) then [((2 : Int), (k : Int))] else []).length ≤ 1 := by split <;> simp
  have h3 : (if q.2.1 = 2 ∧ dblS q.2.2.2.1 (-1) = true then [((3 : Int), (k : Int))] else []).length ≤ 1 := by split <;> simp
  omega
theorem jdF_len (ds0 : List Dc) (rs : List Rl) : ∀ (u : List Dc) (j r : Nat), (∀ q ∈ u, q.2.2.1 ≤ rs.length) → r ≤ rs.length → (jdF ds0 rs u j r).length ≤ 3 * u.length + 2 * (rs.length - r)
  | [], j, r, _, _ => by
    rw [jdF]
    have := jrR_len rs (rs.length - r) r
    simp only [List.length_nil]; omega
  | q :: t, j, r, h, hr => by
    have h1 := h q List.mem_cons_self
    rw [jdF, List.length_append, List.length_append, List.length_cons]
    have a1 := jrR_len rs (q.2.2.1 - r) r
    have a2 := jdS_len ds0 j q
    have a3 := jdF_len ds0 rs t (j + 1) (if r < q.2.2.1 then q.2.2.1 else r) (fun z hz => h z (List.mem_cons_of_mem _ hz)) (by split <;> omega)
    split at a3
    · rw [if_pos (by assumption)]; omega
    · rw [if_neg (by assumption)]; omega
theorem judgeS_len {T : Nat → Int} {n : Int} {D : Dm} (hb : ∀ k, -128 ≤ T k ∧ T k < 128) (hn : 0 ≤ n ∧ n ≤ 6000) (hy : rdS T n = .inr D) (hA : AtW D.2.1) (hW : WfN D.2.1) (h6 : D.2.1.length ≤ 600) : (judgeS D).length ≤ 8000 := by
  obtain ⟨v1, v2, v3, v4, v5, v6⟩ := rdS_V hb hn.1 hy
  unfold judgeS
  split
  · simp
  · rename_i o ho
    rw [List.length_append, List.length_append]
    have a1 := jdF_len D.1.2.1 D.1.2.2 D.1.2.1 0 0 (fun q hq => (v1.1 q hq).2) (by omega)
    have a2 := jnF_len (ds := D.1.2.1) (rs := D.1.2.2) hA v5.1 D.2.1.length D.2.1 [] (Nat.le_refl _) rfl
    have h1 : (if nmA D.2.1 1 ≠ o then [((6 : Int), (1 : Int))] else []).length ≤ 1 := by split <;> simp
    have a3 : wS D.2.1 ≤ 10 * eN D.2.1 + 599 := by
      have h0l : 0 < D.2.1.length := by
        have := (List.getElem?_eq_some_iff.mp hW.1).1
        exact this
      have e0 := List.drop_eq_getElem_cons h0l
      rw [List.drop_zero, (List.getElem?_eq_some_iff.mp hW.1).2] at e0
      have h2 := wS_le (D.2.1.drop 1)
      rw [List.length_drop] at h2
      have h3 : wS D.2.1 = wS (D.2.1.drop 1) := by
        conv => lhs; rw [e0]
        unfold wS
        rw [List.map_cons, List.sum_cons]
        show 0 + _ = _
        rw [Nat.zero_add]
      have h4 : eN D.2.1 = eN (D.2.1.drop 1) := by
        conv => lhs; rw [e0]
        rfl
      omega
    have h5 : eN D.2.1 ≤ 599 := by
      have h0l : 0 < D.2.1.length := by
        have := (List.getElem?_eq_some_iff.mp hW.1).1
        exact this
      have e0 := List.drop_eq_getElem_cons h0l
      rw [List.drop_zero, (List.getElem?_eq_some_iff.mp hW.1).2] at e0
      have h4 : eN D.2.1 = eN (D.2.1.drop 1) := by
        conv => lhs; rw [e0]
        rfl
      have h7 : eN (D.2.1.drop 1) ≤ (D.2.1.drop 1).length := List.length_filter_le _ _
      rw [List.length_drop] at h7
      omega
    simp only [List.length_nil] at a2
    omega
