/-! What holds of what is read: bytes, RULES, NODES. -/
theorem nmF_all (T : Nat → Int) (n : Int) : ∀ (k : Nat) (h i : Int), h ≤ i → i < nmF T n k h → isNb (ob T n i)
  | 0, h, i, h1, h2 => by simp only [nmF] at h2; omega
  | k + 1, h, i, h1, h2 => by
    rw [nmF] at h2
    split at h2
    · next hc =>
      by_cases hi : i = h
      · rw [hi]; exact hc.2
      · exact nmF_all T n k (h + 1) i (by omega) h2
    · omega
theorem nb_nb {T : Nat → Int} {n f g : Int} (hb : ∀ k, -128 ≤ T k ∧ T k < 128) (h0 : 0 ≤ f) (hg : g = nme T n f) : ∀ c ∈ nb T f g, isNb c := by
  intro c hc
  unfold nb at hc
  rw [List.mem_map] at hc
  obtain ⟨i, hi, rfl⟩ := hc
  rw [List.mem_range] at hi
  have h1 : isNb (ob T n (f + i)) := nmF_all T n (n - f).toNat f _ (by omega) (by unfold nme at hg; omega)
  have hlt := isNb_lt h1
  have := ob_byte hb (n := n) (h := f + i) ⟨by omega, hlt⟩ (by omega)
  rw [show (f + (i : Int)).toNat = f.toNat + i by omega] at this
  rw [this]; exact h1
theorem vlF_ch (T : Nat → Int) (n q : Int) : ∀ (k r : Nat) (h : Int) (l : By) (y : Int), 0 ≤ h → vlF T n q k r h = .inr (l, y) → ∀ c ∈ l, isCh c
  | 0, r, h, l, y, h0, hy => by simp [vlF] at hy
  | k + 1, r, h, l, y, h0, hy => by
    unfold vlF at hy
    split at hy
    · cases hy; intro c hc; cases hc
    · split at hy
      · cases hy
      · split at hy
        · cases hy
        · next c z hc =>
          have hp := pcS_ok h0 hc
          split at hy
          · cases hy
          · split at hy
            · cases hy
            · next l' z' hl =>
              have := vlF_ch T n q k (r - 1) z l' z' (by omega) hl
              cases hy
              intro w hw
              rcases List.mem_cons.mp hw with rfl | hw
              · split
                · decide
                · exact hp.1
              · exact this w hw
theorem vlS_ch {T : Nat → Int} {n : Int} {r : Nat} {h : Int} {l : By} {y : Int} (h0 : 0 ≤ h) (hy : vlS T n r h = .inr (l, y)) : ∀ c ∈ l, isCh c := by
  unfold vlS at hy
  split at hy
  · exact vlF_ch T n _ _ _ _ _ _ (by omega) hy
  · cases hy
theorem txF_ch (T : Nat → Int) (n : Int) : ∀ (k r : Nat) (h : Int) (l : By) (s y : Int), 0 ≤ h → txF T n k r h = .inr (l, s, y) → (∀ c ∈ l, isCh c) ∧ (s = 0 ∨ s = 1) ∧ h ≤ y ∧ l.length ≤ r ∧ (ob T n h ≠ 60 → l ≠ [] ∧ h < y)
  | 0, r, h, l, s, y, h0, hy => by simp [txF] at hy
  | k + 1, r, h, l, s, y, h0, hy => by
    rw [txF] at hy
    split at hy
    · next h60 => cases hy; exact ⟨fun c hc => (by cases hc), Or.inl rfl, Int.le_refl _, Nat.zero_le _, fun z => absurd h60 z⟩
    · next h60 =>
      obtain ⟨q, h1, hy⟩ := pb_inr hy
      have hp := pcS_ok h0 (show pcS T n h = .inr (q.1, q.2) from h1)
      split at hy
      · cases hy
      · next hr =>
        obtain ⟨z, h2, hy⟩ := pb_inr hy
        obtain ⟨b1, b2, b3, b4, _⟩ := txF_ch T n k (r - 1) q.2 z.1 z.2.1 z.2.2 (by omega) h2
        cases hy
        refine ⟨fun c hc => ?_, ?_, by omega, by simp only [List.length_cons]; omega, fun _ => ⟨by simp, by omega⟩⟩
        · rcases List.mem_cons.mp hc with rfl | hc
          · exact hp.1
          · exact b1 c hc
        · split
          · exact Or.inr rfl
          · exact b2
/-- a RULE's NAMES and bytes -/
def RuV (rs : List Rl) : Prop := ∀ q ∈ rs, q.1 ≠ [] ∧ q.2.1 ≠ [] ∧ (∀ c ∈ q.2.1, isNb c) ∧ ∀ c ∈ q.2.2.2.2.2, isCh c
theorem cntO_app (rs : List Rl) (q : Rl) (o : By) : cntO (rs ++ [q]) o = cntO rs o + if q.1 = o then 1 else 0 := by
  unfold cntO
  rw [List.filter_append, List.length_append, List.filter_cons]
  by_cases h : q.1 = o
  · rw [if_pos h, if_pos (by simp [h])]; rfl
  · rw [if_neg h, if_neg (by simpa using h)]; rfl
theorem tyS_ty {T : Nat → Int} {n h : Int} {t : Int} {l : List By} {y : Int} (hy : tyS T n h = .inr (t, l, y)) : 0 ≤ t ∧ t ≤ 2 := by
  unfold tyS at hy
  obtain ⟨g, _, h2⟩ := pb_inr hy
  split at h2
  · cases h2; omega
  · split at h2
    · cases h2; omega
    · obtain ⟨z, _, h4⟩ := pb_inr h2
      obtain ⟨q, _, h6⟩ := pb_inr h4
      cases h6; omega
theorem dfS_us {T : Nat → Int} {n h : Int} {r : Nat} {t : Int} {v : By} {y : Int} (h0 : 0 ≤ h) (hy : dfS T n r h = .inr (t, v, y)) : (0 ≤ t ∧ t ≤ 3) ∧ ∀ c ∈ v, isCh c := by
  unfold dfS at hy
  obtain ⟨g, h1, h2⟩ := pb_inr hy
  have := msS_lt h1
  split at h2
  · cases h2; exact ⟨by omega, fun c hc => by cases hc⟩
  · split at h2
    · cases h2; exact ⟨by omega, fun c hc => by cases hc⟩
    · split at h2
      · obtain ⟨z, h3, h4⟩ := pb_inr h2
        obtain ⟨q, h5, h6⟩ := pb_inr h4
        have := msS_lt h3
        cases h6; exact ⟨by omega, vlS_ch (by omega) (show vlS T n r z = .inr (q.1, q.2) from h5)⟩
      · obtain ⟨q, h5, h6⟩ := pb_inr h2
        cases h6; exact ⟨by omega, vlS_ch (by omega) (show vlS T n r g = .inr (q.1, q.2) from h5)⟩
theorem rusF_ok {T : Nat → Int} {n : Int} (hb : ∀ k, -128 ≤ T k ∧ T k < 128) {o : By} (ho : o ≠ []) : ∀ (k pl : Nat) (rs : List Rl) (h : Int) (pl' : Nat) (rs' : List Rl) (y : Int), 0 ≤ h → rusF T n o k pl rs h = .inr (pl', rs', y) → RuG rs → RuV rs → RuG rs' ∧ RuV rs'
  | 0, pl, rs, h, pl', rs', y, _, hy, _, _ => by simp [rusF] at hy
  | k + 1, pl, rs, h, pl', rs', y, h0, hy, hG, hV => by
    have hs := sk_le T n h
    rw [rusF] at hy
    split at hy
    · obtain ⟨q, h1, h2⟩ := pb_inr hy
      have hle := ruS_le (by omega) (show ruS T n pl rs o (sk T n h) = .inr (q.1, q.2.1, q.2.2) from h1)
      unfold ruS at h1
      obtain ⟨g, h3, h1⟩ := pb_inr h1
      have hg := nmS_ok h3
      split at h1
      · cases h1
      · next hcn =>
        obtain ⟨a, h4, h1⟩ := pb_inr h1
        obtain ⟨z, h5, h1⟩ := pb_inr h1
        have ta := tyS_ty (show tyS T n g = .inr (a.1, a.2.1, a.2.2) from h4)
        have tle := tyS_le (show tyS T n g = .inr (a.1, a.2.1, a.2.2) from h4)
        have tb := dfS_us (by omega) (show dfS T n (2000 - pl) a.2.2 = .inr (z.1, z.2.1, z.2.2) from h5)
        injection h1 with h1
        have e1 : (if hasR rs o (nb T (sk T n h) g) = true then rs else rs ++ [(o, nb T (sk T n h) g, a.1, a.2.1, z.1, z.2.1)]) = q.2.1 := congrArg (fun z => z.2.1) h1
        have hh := nb_head hb (by omega) h3
        refine rusF_ok hb ho k _ _ _ _ _ _ (by omega) h2 ?_ ?_
        · rw [← e1]
          split
          · exact hG
          · next hr =>
            have hr' : hasR rs o (nb T (sk T n h) g) = false := by simpa using hr
            have : ¬ 10 ≤ cntO rs o := fun z => hcn ⟨hr', z⟩
            refine ⟨fun p => ?_, fun p hp => ?_⟩
            · rw [cntO_app]
              split
              · next hpo => simp only at hpo; subst hpo; omega
              · have := hG.1 p; omega
            · rcases List.mem_append.mp hp with hp | hp
              · exact hG.2 p hp
              · rw [List.mem_singleton] at hp; subst hp; exact ⟨tb.1, ta⟩
        · rw [← e1]
          split
          · exact hV
          · intro p hp
            rcases List.mem_append.mp hp with hp | hp
            · exact hV p hp
            · rw [List.mem_singleton] at hp; subst hp; exact ⟨ho, hh.1, nb_nb hb (by omega) hg.2.2.1, tb.2⟩
    · obtain ⟨z, h1, h2⟩ := pb_inr hy
      cases h2; exact ⟨hG, hV⟩
theorem dcF_ok {T : Nat → Int} {n : Int} (hb : ∀ k, -128 ≤ T k ∧ T k < 128) : ∀ (k pl : Nat) (ds : List Dc) (rs : List Rl) (h : Int) (pl' : Nat) (ds' : List Dc) (rs' : List Rl) (y : Int), 0 ≤ h → h ≤ n → dcF T n k pl ds rs h = .inr (pl', ds', rs', y) → RuG rs → RuV rs → RuG rs' ∧ RuV rs'
  | 0, pl, ds, rs, h, pl', ds', rs', y, _, _, hy, _, _ => by simp [dcF] at hy
  | k + 1, pl, ds, rs, h, pl', ds', rs', y, h0, hn, hy, hG, hV => by
    rw [dcF] at hy
    split at hy
    · cases hy; exact ⟨hG, hV⟩
    · split at hy
      · next hs =>
        obtain ⟨q, h1, h2⟩ := pb_inr hy
        obtain ⟨u, h3, h4⟩ := pb_inr h2
        have hr := stb_room _ _ h0 (by decide) (by decide) hs
        simp only [List.length_cons, List.length_nil] at hr
        have hd := deS_le (by omega) (show deS T n ds rs.length h = .inr (q.1, q.2) from h1)
        have hq2 : q.2 ≤ n := by
          have h1' := h1
          unfold deS at h1'
          split at h1'
          · cases h1'
          · obtain ⟨_, _, h1'⟩ := pb_inr h1'
            obtain ⟨_, _, h1'⟩ := pb_inr h1'
            obtain ⟨_, _, h1'⟩ := pb_inr h1'
            obtain ⟨_, _, h1'⟩ := pb_inr h1'
            obtain ⟨w, hw, h1'⟩ := pb_inr h1'
            have := mbS_eq hw
            have := ob_lt (c := 62) (by decide) this.2
            cases h1'; simp only; omega
        have hu := mcS_le (by omega) hq2 h3
        exact dcF_ok hb k _ _ _ _ _ _ _ _ (by omega) (by omega) h4 hG hV
      · split at hy
        · next hs =>
          obtain ⟨q, h1, h2⟩ := pb_inr hy
          obtain ⟨u, h3, h4⟩ := pb_inr h2
          have hr := stb_room _ _ h0 (by decide) (by decide) hs
          simp only [List.length_cons, List.length_nil] at hr
          have ha := alS_le (by omega) (show alS T n pl rs (h + 9) = .inr (q.1, q.2.1, q.2.2) from h1)
          unfold alS at h1
          obtain ⟨g, g1, h1⟩ := pb_inr h1
          obtain ⟨z, g2, h1⟩ := pb_inr h1
          have b1 := msS_lt g1
          have b2 := nmS_ok g2
          have hne := nb_head hb (by omega) g2
          have ok := rusF_ok hb hne.1 _ _ _ _ _ _ _ (by omega) (show rusF T n (nb T g z) (n + 1).toNat pl rs z = .inr (q.1, q.2.1, q.2.2) from h1) hG hV
          have hq2 : q.2.2 ≤ n := by
            have : ∀ (k pl : Nat) (rs : List Rl) (h : Int) (pl' : Nat) (rs' : List Rl) (y : Int), rusF T n (nb T g z) k pl rs h = .inr (pl', rs', y) → y ≤ n := by
              intro k
              induction k with
              | zero => intro pl rs h pl' rs' y hy; simp [rusF] at hy
              | succ k ih =>
                intro pl rs h pl' rs' y hy
                rw [rusF] at hy
                split at hy
                · obtain ⟨q, _, h2⟩ := pb_inr hy
                  exact ih _ _ _ _ _ _ h2
                · obtain ⟨z, h1, h2⟩ := pb_inr hy
                  have := mbS_eq h1
                  have := ob_lt (c := 62) (by decide) this.2
                  cases h2; omega
            exact this _ _ _ _ _ _ _ h1
          have hu := mcS_le (by omega) hq2 h3
          exact dcF_ok hb k _ _ _ _ _ _ _ _ (by omega) (by omega) h4 ok.1 ok.2
        · cases hy
theorem RuG_nil : RuG [] := ⟨fun o => by simp [cntO], fun q hq => by cases hq⟩
theorem RuV_nil : RuV [] := fun q hq => by cases hq
theorem dtS_ok {T : Nat → Int} {n h : Int} (hb : ∀ k, -128 ≤ T k ∧ T k < 128) {pl : Nat} {D : Dt} {y : Int} (h0 : 0 ≤ h) (hy : dtS T n h = .inr (pl, D, y)) : RuG D.2.2 ∧ RuV D.2.2 := by
  unfold dtS at hy
  split at hy
  · obtain ⟨g, g1, hy⟩ := pb_inr hy
    obtain ⟨z, g2, hy⟩ := pb_inr hy
    obtain ⟨w, g3, hy⟩ := pb_inr hy
    obtain ⟨v, g4, hy⟩ := pb_inr hy
    obtain ⟨q, g5, hy⟩ := pb_inr hy
    obtain ⟨u, g6, hy⟩ := pb_inr hy
    obtain ⟨s, g7, hy⟩ := pb_inr hy
    have b1 := msS_lt g1
    have b2 := nmS_ok g2
    have b3 := mbS_eq g3
    have b4 := ob_lt (c := 91) (by decide) b3.2
    have b5 := sk_le T n z
    have b6 := mcS_le (by omega) (by omega) g4
    cases hy
    exact dcF_ok hb _ _ _ _ _ _ _ _ _ (by omega) (by omega) (show dcF T n (n + 1).toNat 0 [] [] v = .inr (q.1, q.2.1, q.2.2.1, q.2.2.2) from g5) RuG_nil RuV_nil
  · cases hy; exact ⟨RuG_nil, RuV_nil⟩
/-- a NODE by itself -/
def NdV (y : Nd) : Prop := (y.1 = 1 ∧ y.2.2.1 ≠ [] ∧ y.2.2.2.1 = [] ∧ y.2.2.2.2.1 = 0 ∧ y.2.2.2.2.2 = 0 ∨ y.1 = 2 ∧ y.2.2.1 ≠ [] ∧ (y.2.2.2.2.1 = 0 ∨ y.2.2.2.2.1 = 1) ∧ y.2.2.2.2.2 = 0 ∨ y.1 = 3 ∧ y.2.2.1 = [] ∧ y.2.2.2.1 ≠ [] ∧ y.2.2.2.2.1 = 0 ∧ (y.2.2.2.2.2 = 0 ∨ y.2.2.2.2.2 = 1)) ∧
  (∀ c ∈ y.2.2.1, isNb c) ∧ ∀ c ∈ y.2.2.2.1, isCh c
def WfN (ns : List Nd) : Prop := ns[0]? = some (0, -1, [], [], 0, 0) ∧ ∀ (k : Nat) (y : Nd), ns[k]? = some y → 0 < k → NdV y ∧ (0 ≤ y.2.1 ∧ y.2.1 < (k : Int)) ∧ (∃ p, ns[y.2.1.toNat]? = some p ∧ (p.1 = 0 ∨ p.1 = 1)) ∧ ∀ (j : Nat) (z : Nd), ns[j]? = some z → y.2.1 < (j : Int) → j < k → y.2.1 ≤ z.2.1
theorem WfN_add {ns : List Nd} {x : Nd} (h : WfN ns) (hx : NdV x) (hu : 0 ≤ x.2.1 ∧ x.2.1 < (ns.length : Nat)) (hp : ∃ p, ns[x.2.1.toNat]? = some p ∧ (p.1 = 0 ∨ p.1 = 1)) (he : eS ns x.2.1.toNat = ns.length) : WfN (ns ++ [x]) := by
  refine ⟨last_mono h.1, fun k y hy hk => ?_⟩
  rcases last_of hy with ⟨hkl, hy⟩ | ⟨rfl, rfl⟩
  · obtain ⟨a1, a2, ⟨p, a3, a4⟩, a5⟩ := h.2 k y hy hk
    refine ⟨a1, a2, ⟨p, last_mono a3, a4⟩, fun j z hz h1 h2 => ?_⟩
    rcases last_of hz with ⟨hj, hz⟩ | ⟨rfl, rfl⟩
    · exact a5 j z hz h1 h2
    · omega
  · obtain ⟨p, p1, p2⟩ := hp
    refine ⟨hx, hu, ⟨p, last_mono p1, p2⟩, fun j z hz h1 h2 => ?_⟩
    rcases last_of hz with ⟨hj, hz⟩ | ⟨rfl, rfl⟩
    · have := eS_in (ns := ns) (k := y.2.1.toNat) (j := j) (by omega) (by omega) hz; omega
    · omega
/-- the whole: the tree's laws -/
def TrV (t : Tr) : Prop := TrI t ∧ WfN t.1
theorem opens_kind {ns : List Nd} (hW : ns[0]? = some (0, -1, [], [], 0, 0)) : ∀ {os : List Int}, OpU ns os → ∃ p, ns[(os.headD 0).toNat]? = some p ∧ (p.1 = 0 ∨ p.1 = 1)
  | [], _ => ⟨_, hW, Or.inl rfl⟩
  | e :: t, h => by obtain ⟨y, h1, h2, _⟩ := h.1; exact ⟨y, h1, Or.inr h2⟩
theorem atsF_wf {T : Nat → Int} {n : Int} (hb : ∀ k, -128 ≤ T k ∧ T k < 128) {ec : Nat} {os : List Int} : ∀ (k pl : Nat) (ns : List Nd) (h : Int) (pl' : Nat) (ns' : List Nd) (y : Int), 0 ≤ h → pl ≤ 2000 → atsF T n (ec : Int) k pl ns h = .inr (pl', ns', y) → TgI ns ec os → WfN ns → ns.length ≤ 600 → TgI ns' ec os ∧ WfN ns' ∧ ns'.length ≤ 600 ∧ h ≤ y ∧ pl' ≤ 2000
  | 0, pl, ns, h, pl', ns', y, _, _, hy, _, _, _ => by simp [atsF] at hy
  | k + 1, pl, ns, h, pl', ns', y, h0, hp, hy, hI, hW, h6 => by
    have hs := sk_le T n h
    rw [atsF_eq] at hy
    split at hy
    · obtain ⟨q, h1, h2⟩ := pb_inr hy
      have hle := atS_le (by omega) (show atS T n (ec : Int) pl ns (sk T n h) = .inr (q.1, q.2.1, q.2.2) from h1)
      unfold atS at h1
      obtain ⟨g, g1, h1⟩ := pb_inr h1
      have hg := nmS_ok g1
      have hne := nb_head hb (by omega) g1
      split at h1
      · cases h1
      · next hno =>
        split at h1
        · cases h1
        · next hok =>
          obtain ⟨z, g2, h1⟩ := pb_inr h1
          obtain ⟨w, g3, h1⟩ := pb_inr h1
          have b2 := mbS_eq g2
          have b3 := sk_le T n g
          have b4 := sk_le T n z
          injection h1 with h1
          have e1 : ns ++ [(2, (ec : Int), nb T (sk T n h) g, w.1, 0, 0)] = q.2.1 := congrArg (fun z => z.2.1) h1
          have hno' : hasA ns (ec : Int) (nb T (sk T n h) g) = false := by simpa using hno
          have hI2 := TgI_add (v := w.1) (f := 0) hI hno'
          obtain ⟨t1, t2, t3, t4, t5⟩ := hI
          have hW2 : WfN (ns ++ [(2, (ec : Int), nb T (sk T n h) g, w.1, 0, 0)]) := by
            refine WfN_add hW ⟨Or.inr (Or.inl ⟨rfl, hne.1, Or.inl rfl, rfl⟩), nb_nb hb (by omega) hg.2.2.1, vlS_ch (by omega) (show vlS T n (2000 - pl) (sk T n z) = .inr (w.1, w.2) from g3)⟩ ⟨by simp, by simp only; omega⟩ ?_ (t1.2.1 _ (by simp)).2.2
            obtain ⟨p, p1, p2, _⟩ := t5.1
            exact ⟨p, p1, Or.inr p2⟩
          rw [e1] at hI2 hW2
          have h62 : q.2.1.length ≤ 600 := by rw [← e1]; simp only [List.length_append, List.length_singleton]; omega
          rcases hle with hle | hle
          · have := atsF_wf hb k _ _ _ _ _ _ (by omega) hle.2 h2 hI2 hW2 h62
            exact ⟨this.1, this.2.1, this.2.2.1, by omega, this.2.2.2.2⟩
          · omega
    · cases hy; exact ⟨hI, hW, h6, hs.1, hp⟩
theorem dfF_wf {ec : Nat} {os : List Int} {o : By} : ∀ (l : List Rl) (ns ns' : List Nd), dfF (ec : Int) o l ns = some ns' → RuV l → TgI ns ec os → WfN ns → ns.length ≤ 600 → TgI ns' ec os ∧ WfN ns' ∧ ns'.length ≤ 600
  | [], ns, ns', h, _, hI, hW, h6 => by simp only [dfF] at h; cases h; exact ⟨hI, hW, h6⟩
  | r :: t, ns, ns', h, hV, hI, hW, h6 => by
    have hV2 : RuV t := fun q hq => hV q (List.mem_cons_of_mem _ hq)
    rw [dfF] at h
    split at h
    · next hc =>
      split at h
      · cases h
      · next hok =>
        have hv := hV r List.mem_cons_self
        have hI2 := TgI_add (v := r.2.2.2.2.2) (f := 1) hI hc.2.2
        obtain ⟨t1, t2, t3, t4, t5⟩ := hI
        refine dfF_wf t _ _ h hV2 hI2 (WfN_add hW ⟨Or.inr (Or.inl ⟨rfl, hv.2.1, Or.inr rfl, rfl⟩), hv.2.2.1, hv.2.2.2⟩ ⟨by simp, by simp only; omega⟩ ?_ (t1.2.1 _ (by simp)).2.2) (by simp only [List.length_append, List.length_singleton]; omega)
        obtain ⟨p, p1, p2, _⟩ := t5.1
        exact ⟨p, p1, Or.inr p2⟩
    · exact dfF_wf t _ _ h hV2 hI hW h6
theorem tgS_wf {T : Nat → Int} {n h : Int} (hb : ∀ k, -128 ≤ T k ∧ T k < 128) {rs : List Rl} (hV : RuV rs) {pl pl' : Nat} {t t' : Tr} {y : Int} (h0 : 0 ≤ h) (hp : pl ≤ 2000) (hy : tgS T n rs pl t h = .inr (pl', t', y)) (hI : TrV t) : TrV t' ∧ h + 2 ≤ y ∧ y ≤ n ∧ pl' ≤ 2000 := by
  obtain ⟨⟨i1, i2, i3, i4, i5⟩, hW⟩ := hI
  unfold tgS at hy
  obtain ⟨g, g1, hy⟩ := pb_inr hy
  have hg := nmS_ok g1
  have hne := nb_head hb h0 g1
  split at hy
  · cases hy
  · next hok =>
    have hmem := headD_mem t.2.1
    have hup := i1.2.1 _ hmem
    have tg : TgI (t.1 ++ [(1, t.2.1.headD 0, nb T h g, [], 0, 0)]) t.1.length t.2.1 := by
      refine ⟨OpW_push i1 (headD_max i1.1) hmem, AtW_other i2 (fun z => by simp at z) hup.2.1, by simp, ?_, ⟨(1, t.2.1.headD 0, nb T h g, [], 0, 0), by rw [Int.toNat_natCast]; exact last_get t.1 _, rfl, rfl⟩, OpU_app i3⟩
      rw [cntA_app, if_neg (by simp), cntA_out i2.1 (Nat.le_refl _)]; simp
    have wf : WfN (t.1 ++ [(1, t.2.1.headD 0, nb T h g, [], 0, 0)]) :=
      WfN_add hW ⟨Or.inl ⟨rfl, hne.1, rfl, rfl, rfl⟩, nb_nb hb h0 hg.2.2.1, fun c hc => by cases hc⟩ ⟨hup.1, hup.2.1⟩ (opens_kind hW.1 i3) hup.2.2
    obtain ⟨q, g2, hy⟩ := pb_inr hy
    have w1 := atsF_wf hb (os := t.2.1) _ _ _ _ _ _ _ (by omega) hp (show atsF T n ((t.1.length : Nat) : Int) (n + 1).toNat pl _ g = .inr (q.1, q.2.1, q.2.2) from g2) tg wf (by simp only [List.length_append, List.length_singleton]; omega)
    simp only at hy
    obtain ⟨z, g3, hy⟩ := pb_inr hy
    have hz : q.2.2 < z ∧ z ≤ n := by
      split at g3
      · next hcl =>
        have := stb_room _ _ (by omega) (by decide) (by decide) hcl
        simp only [List.length_cons, List.length_nil] at this
        cases g3; omega
      · have := mbS_eq g3
        have h4 := ob_lt (c := 62) (by decide) this.2
        omega
    split at hy
    · cases hy
    · next ns2 hd =>
      have w2 := dfF_wf (os := t.2.1) _ _ _ hd hV w1.1 w1.2.1 w1.2.2.1
      injection hy with hy
      have e1 := congrArg (fun z => z.1) hy
      have e2 := congrArg (fun z => z.2.1) hy
      have e3 := congrArg (fun z => z.2.2) hy
      simp only at e1 e2 e3
      refine ⟨?_, by omega, by omega, by omega⟩
      rw [← e2]
      split
      · exact ⟨TrI_leave w2.1 i4 w2.2.2, w2.2.1⟩
      · exact ⟨TrI_stay w2.1 (by omega) w2.2.2, w2.2.1⟩
theorem teS_wf {T : Nat → Int} {n h : Int} {pl pl' : Nat} {t t' : Tr} {y : Int} (h0 : 0 ≤ h) (h60 : ob T n h ≠ 60) (hp : pl ≤ 2000) (hy : teS T n pl t h = .inr (pl', t', y)) (hI : TrV t) : TrV t' ∧ h < y ∧ pl' ≤ 2000 := by
  obtain ⟨⟨i1, i2, i3, i4, i5⟩, hW⟩ := hI
  unfold teS at hy
  obtain ⟨g, g1, hy⟩ := pb_inr hy
  split at hy
  · cases hy
  · next hok =>
    obtain ⟨q, g2, hy⟩ := pb_inr hy
    obtain ⟨b1, b2, b3, b4, b5⟩ := txF_ch T n _ _ _ _ _ _ h0 (show txF T n (n + 1).toNat (2000 - pl) h = .inr (q.1, q.2.1, q.2.2) from g2)
    have hmem := headD_mem t.2.1
    have hup := i1.2.1 _ hmem
    cases hy
    refine ⟨⟨⟨OpW_add i1 (headD_max i1.1) hmem (Or.inr trivial), AtW_other i2 (fun z => by simp at z) hup.2.1, OpU_app i3, i4, by simp only [List.length_append, List.length_singleton]; omega⟩, WfN_add hW ⟨Or.inr (Or.inr ⟨rfl, rfl, (b5 h60).1, rfl, b2⟩), fun c hc => (by cases hc), b1⟩ ⟨hup.1, hup.2.1⟩ (opens_kind hW.1 i3) hup.2.2⟩, (b5 h60).2, by omega⟩
theorem enS_wf {T : Nat → Int} {n h : Int} {t t' : Tr} {y : Int} (hy : enS T n t h = .inr (t', y)) (hne : t.2.1 ≠ []) (hI : TrV t) : TrV t' ∧ h + 2 < y ∧ y ≤ n := by
  obtain ⟨⟨i1, i2, i3, i4, i5⟩, hW⟩ := hI
  unfold enS at hy
  obtain ⟨g, g1, hy⟩ := pb_inr hy
  have hg := nmS_ok g1
  split at hy
  · cases hy
  · obtain ⟨z, g2, hy⟩ := pb_inr hy
    have b1 := mbS_eq g2
    have b2 := sk_le T n g
    have b3 := ob_lt (c := 62) (by decide) b1.2
    cases hy
    refine ⟨?_, by omega, by omega⟩
    obtain ⟨ns, os, dp⟩ := t
    cases os with
    | nil => exact absurd rfl hne
    | cons e os => exact ⟨⟨OpW_pop i1, i2, i3.2, by simp only [List.length_cons] at i4; simp only [List.tail_cons]; omega, i5⟩, hW⟩
