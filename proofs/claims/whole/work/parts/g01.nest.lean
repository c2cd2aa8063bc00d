/-! How deep the ELEMENTS of a DOCUMENT lie. -/
theorem eS_pre {ns : List Nd} {x : Nd} {a c : Nat} (hc : c < ns.length) (ha : a < ns.length) : a < eS (ns ++ [x]) c ↔ a < eS ns c := by
  rw [eS_app hc]
  split
  · next h => omega
  · exact Iff.rfl
theorem ndA_pre {ns : List Nd} {x : Nd} {a : Nat} (ha : a < ns.length) : ndA (ns ++ [x]) a = ndA ns a := by
  unfold ndA
  rw [List.getD_eq_getElem?_getD, List.getD_eq_getElem?_getD, List.getElem?_append_left ha]
theorem Nest_pre {ns : List Nd} {x : Nd} : ∀ {l : List Nat}, (∀ a ∈ l, a < ns.length) → Nest (ns ++ [x]) l → Nest ns l
  | [], _, _ => trivial
  | [a], hl, h => by
    have ha := hl a List.mem_cons_self
    exact ⟨ha, by have := h.2; rw [ndA_pre ha] at this; exact this⟩
  | a :: c :: t, hl, h => by
    have ha := hl a List.mem_cons_self
    have hc := hl c (List.mem_cons_of_mem _ List.mem_cons_self)
    obtain ⟨⟨_, h1⟩, ⟨h2, h3⟩, h4⟩ := h
    exact ⟨⟨ha, by rw [ndA_pre ha] at h1; exact h1⟩, ⟨h2, (eS_pre hc ha).mp h3⟩, Nest_pre (fun b hb => hl b (List.mem_cons_of_mem _ hb)) h4⟩
theorem in_trans {ns : List Nd} (hW : WfN ns) {b c : Nat} (hb : b < ns.length) (hc : c < ns.length) (hbc : c ≤ b ∧ b < eS ns c) : ∀ (a : Nat), a < ns.length → b ≤ a ∧ a < eS ns b → c ≤ a ∧ a < eS ns c := by
  intro a
  induction a using Nat.strongRecOn with
  | _ a ih =>
    intro ha hab
    by_cases he : a = b
    · rw [he]; exact hbc
    · obtain ⟨y, hy⟩ : ∃ y, ns[a]? = some y := ⟨_, List.getElem?_eq_getElem ha⟩
      have h0 : 0 < a := by omega
      have hu := (hW.2 a y hy h0).2.1
      rcases (in_up hW hb hy h0).mp hab with z | z
      · exact absurd z he
      · exact (in_up hW hc hy h0).mpr (Or.inr (ih y.2.1.toNat (by omega) (by omega) z))
theorem Nest_in {ns : List Nd} (hW : WfN ns) : ∀ {t : List Nat} {a : Nat}, Nest ns (a :: t) → ∀ c ∈ a :: t, c ≤ a ∧ a < eS ns c
  | [], a, h, c, hc => by
    rw [List.mem_singleton] at hc
    have := eS_le h.1
    rw [hc]; omega
  | b :: t, a, h, c, hc => by
    obtain ⟨⟨h1, h1'⟩, ⟨h2, h3⟩, h4⟩ := h
    rcases List.mem_cons.mp hc with z | z
    · have := eS_le h1
      rw [z]; omega
    · have hb := (Nest_hd h4).1
      have ih := Nest_in hW h4 c z
      have hcl := Nest_all h4 c z
      exact in_trans hW hb hcl ih a h1 ⟨by omega, h3⟩
theorem Nest_kind {ns : List Nd} : ∀ {l : List Nat}, Nest ns l → ∀ a ∈ l, (ndA ns a).1 = 1
  | [], _, a, ha => by cases ha
  | c :: t, h, a, ha => by
    rcases List.mem_cons.mp ha with z | z
    · rw [z]; exact (Nest_hd h).2
    · exact Nest_kind (Nest_tl h) a z
theorem Nest_op {ns : List Nd} (hW : WfN ns) : ∀ (op : List Int) (l : List Nat), OpU ns op → Nest ns l → (∀ c ∈ l, c ≤ (op.headD 0).toNat ∧ (op.headD 0).toNat < eS ns c) → l.length ≤ op.length
  | [], l, _, hN, hl => by
    cases l with
    | nil => exact Nat.le_refl _
    | cons c t =>
      have h1 := (hl c List.mem_cons_self).1
      have h2 := (Nest_hd hN).2
      have h0 : c = 0 := by simp at h1; exact h1
      rw [h0, ndA_at hW.1] at h2
      exact absurd h2 (by decide)
  | e :: t, l, hU, hN, hl => by
    obtain ⟨⟨y, hy, y1, y2⟩, hU'⟩ := hU
    simp only [List.headD_cons] at hl
    have h0 : 0 < e.toNat := by
      rcases Nat.eq_zero_or_pos e.toNat with w | w
      · rw [w, hW.1] at hy; cases hy; exact absurd y1 (by decide)
      · exact w
    have up : ∀ c ∈ l, c < e.toNat → c ≤ (t.headD 0).toNat ∧ (t.headD 0).toNat < eS ns c := fun c hc hlt => by
      rcases (in_up hW (Nest_all hN c hc) hy h0).mp (hl c hc) with z | z
      · omega
      · rw [y2] at z; exact z
    cases l with
    | nil => exact Nat.zero_le _
    | cons c l' =>
      by_cases hce : c = e.toNat
      · have := Nest_op hW t l' hU' (Nest_tl hN) (fun c' hc' => up c' (List.mem_cons_of_mem _ hc') (by have := Nest_lt hN c' hc'; omega))
        simp only [List.length_cons]; omega
      · have hc1 := (hl c List.mem_cons_self).1
        have := Nest_op hW t (c :: l') hU' hN (fun c' hc' => up c' hc' (by
          rcases List.mem_cons.mp hc' with z | z
          · omega
          · have := Nest_lt hN c' z; omega))
        simp only [List.length_cons] at this ⊢; omega
theorem Nest_split {ns : List Nd} {x : Nd} (hB : NestB ns) {l : List Nat} (h : Nest (ns ++ [x]) l) : l.length ≤ 30 ∨ ∃ t, l = ns.length :: t := by
  cases l with
  | nil => exact Or.inl (Nat.zero_le _)
  | cons a t =>
    have ha := (Nest_hd h).1
    rw [List.length_append, List.length_singleton] at ha
    by_cases he : a = ns.length
    · exact Or.inr ⟨t, by rw [he]⟩
    · refine Or.inl (hB _ (Nest_pre (fun c hc => ?_) h))
      rcases List.mem_cons.mp hc with z | z
      · omega
      · have := Nest_lt h c z; omega
theorem NestB_non {ns : List Nd} {x : Nd} (hx : x.1 ≠ 1) (hB : NestB ns) : NestB (ns ++ [x]) := fun l h => by
  rcases Nest_split hB h with z | ⟨t, z⟩
  · exact z
  · subst z
    have := (Nest_hd h).2
    rw [ndA_at (last_get ns x)] at this
    exact absurd this hx
theorem NestB_app {ns : List Nd} : ∀ (s : List Nd), (∀ z ∈ s, z.1 ≠ 1) → NestB ns → NestB (ns ++ s) := by
  intro s
  induction s generalizing ns with
  | nil => intro _ hB; rw [List.append_nil]; exact hB
  | cons w s ih =>
    intro hs hB
    rw [show ns ++ w :: s = (ns ++ [w]) ++ s by simp]
    exact ih (fun z hz => hs z (List.mem_cons_of_mem _ hz)) (NestB_non (hs w List.mem_cons_self) hB)
theorem NestB_el {ns : List Nd} {x : Nd} {op : List Int} (hW : WfN (ns ++ [x])) (hU : OpU (ns ++ [x]) (((ns.length : Nat) : Int) :: op)) (hl : op.length < 30) (hB : NestB ns) : NestB (ns ++ [x]) := fun l h => by
  rcases Nest_split hB h with z | ⟨t, z⟩
  · exact z
  · subst z
    have := Nest_op hW _ _ hU h (fun c hc => by rw [List.headD_cons, Int.toNat_natCast]; exact Nest_in hW h c hc)
    simp only [List.length_cons] at this ⊢; omega
theorem tgS_N {T : Nat → Int} {n h : Int} (hb : ∀ k, -128 ≤ T k ∧ T k < 128) {rs : List Rl} {pl pl' : Nat} {t t' : Tr} {y : Int} (h0 : 0 ≤ h) (hp : pl ≤ 2000) (hy : tgS T n rs pl t h = .inr (pl', t', y)) (hI : TrV t) (hB : NestB t.1) : NestB t'.1 := by
  obtain ⟨⟨i1, i2, i3, i4, i5⟩, hW⟩ := hI
  rw [tgS_E] at hy
  obtain ⟨g, g1, hy⟩ := pb_inr hy
  have hg := nmS_ok g1
  have hne := nb_head hb h0 g1
  split at hy
  · cases hy
  · next hok =>
    have hmem := headD_mem t.2.1
    have hup := i1.2.1 _ hmem
    have wf : WfN (t.1 ++ [(1, t.2.1.headD 0, nb T h g, [], 0, 0)]) :=
      WfN_add hW ⟨Or.inl ⟨rfl, hne.1, rfl, rfl, rfl⟩, nb_nb hb h0 hg.2.2.1, fun c hc => by cases hc⟩ ⟨hup.1, hup.2.1⟩ (opens_kind hW.1 i3) hup.2.2
    have hB1 : NestB (t.1 ++ [(1, t.2.1.headD 0, nb T h g, [], 0, 0)]) := NestB_el wf ⟨⟨(1, t.2.1.headD 0, nb T h g, [], 0, 0), by rw [Int.toNat_natCast]; exact last_get t.1 _, rfl, rfl⟩, OpU_app i3⟩ (by omega) hB
    obtain ⟨q, g2, hy⟩ := pb_inr hy
    obtain ⟨⟨s, e1, e2⟩, e3⟩ := atsF_2 T n _ _ _ _ _ _ _ _ (by omega) hp (show atsF T n ((t.1.length : Nat) : Int) (n + 1).toNat pl _ g = .inr (q.1, q.2.1, q.2.2) from g2)
    unfold tgE at hy
    obtain ⟨v, g3, hy⟩ := pb_inr hy
    split at hy
    · cases hy
    · rename_i ns2 hd
      obtain ⟨s2, e4, e5⟩ := dfF_2 _ _ _ hd
      cases hy
      show NestB ns2
      rw [e4, e1]
      exact NestB_app s2 (fun z hz => by have := e5 z hz; omega) (NestB_app s (fun z hz => by have := e2 z hz; omega) hB1)
theorem ctF_N {T : Nat → Int} {n : Int} {rs : List Rl} (hb : ∀ k, -128 ≤ T k ∧ T k < 128) (hV : RuV rs) : ∀ (k pl : Nat) (t : Tr) (h : Int) (pl' : Nat) (t' : Tr) (y : Int), 0 ≤ h → pl ≤ 2000 → TrV t → ctF T n rs k pl t h = .inr (pl', t', y) → NestB t.1 → NestB t'.1
  | 0, pl, t, h, pl', t', y, _, _, _, hy, _ => by simp [ctF] at hy
  | k + 1, pl, t, h, pl', t', y, h0, hp, hI, hy, hB => by
    rw [ctF] at hy
    split at hy
    · cases hy; exact hB
    · rename_i hne
      split at hy
      · obtain ⟨q, g1, hy⟩ := pb_inr hy
        have g1' : enS T n t h = .inr (q.1, q.2) := g1
        have wf := enS_wf g1' hne hI
        have hq : q.1.1 = t.1 := by
          unfold enS at g1'
          obtain ⟨g, _, g1'⟩ := pb_inr g1'
          split at g1'
          · cases g1'
          · obtain ⟨z, _, g1'⟩ := pb_inr g1'
            injection g1' with g1'
            exact (congrArg (fun z => z.1.1) g1').symm
        exact ctF_N hb hV k _ _ _ _ _ _ (by omega) hp wf.1 hy (by rw [hq]; exact hB)
      · split at hy
        · obtain ⟨v, g1, hy⟩ := pb_inr hy
          have := cmS_le (by omega) g1
          exact ctF_N hb hV k _ _ _ _ _ _ (by omega) hp hI hy hB
        · split at hy
          · obtain ⟨q, g1, hy⟩ := pb_inr hy
            have g1' : tgS T n rs pl t (h + 1) = .inr (q.1, q.2.1, q.2.2) := g1
            have wf := tgS_wf hb hV (by omega) hp g1' hI
            exact ctF_N hb hV k _ _ _ _ _ _ (by omega) wf.2.2.2 wf.1 hy (tgS_N hb (by omega) hp g1' hI hB)
          · rename_i h60
            obtain ⟨q, g1, hy⟩ := pb_inr hy
            have g1' : teS T n pl t h = .inr (q.1, q.2.1, q.2.2) := g1
            have wf := teS_wf h0 h60 hp g1' hI
            have hq : ∃ w : Nd, q.2.1.1 = t.1 ++ [w] ∧ w.1 = 3 := by
              unfold teS at g1'
              obtain ⟨c', hc', g1'⟩ := pb_inr g1'
              split at g1'
              · cases g1'
              · obtain ⟨z, hz, g1'⟩ := pb_inr g1'
                injection g1' with g1'
                exact ⟨_, (congrArg (fun z => z.2.1.1) g1').symm, rfl⟩
            obtain ⟨w, hw, h3⟩ := hq
            exact ctF_N hb hV k _ _ _ _ _ _ (by omega) wf.2.2 wf.1 hy (by rw [hw]; exact NestB_non (by omega) hB)
theorem rdS_N {T : Nat → Int} {n : Int} {D : Dm} (hb : ∀ k, -128 ≤ T k ∧ T k < 128) (hn : 0 ≤ n) (hy : rdS T n = .inr D) : NestB D.2.1 := by
  rw [rdS_E] at hy
  obtain ⟨a, g1, hy⟩ := pb_inr hy
  obtain ⟨q, g2, hy⟩ := pb_inr hy
  unfold rdE at hy
  obtain ⟨g, g3, hy⟩ := pb_inr hy
  obtain ⟨z, g4, hy⟩ := pb_inr hy
  obtain ⟨w, g5, hy⟩ := pb_inr hy
  obtain ⟨y, g6, hy⟩ := pb_inr hy
  split at hy
  · cases hy
  have b1 := mcS_le (by omega) hn g1
  have g2' : dtS T n a = .inr (q.1, q.2.1, q.2.2) := g2
  have b2 := dtS_V (by omega) b1.2 g2'
  have b2' := dtS_ok hb (by omega) g2'
  have b3 := mbS_eq g3
  have hq0 : 0 ≤ q.2.2 := by have := b2.2.2.1; omega
  have g4' : tgS T n q.2.1.2.2 q.1 ([(0, -1, [], [], 0, 0)], [], 0) g = .inr (z.1, z.2.1, z.2.2) := g4
  have hpl : q.1 ≤ 2000 := dtS_pl (by omega) g2'
  have wf := tgS_wf hb b2'.2 (by omega) hpl g4' TrV_root
  have g5' : ctF T n q.2.1.2.2 (n + 1).toNat z.1 z.2.1 z.2.2 = .inr (w.1, w.2.1, w.2.2) := g5
  have hB0 : NestB ([] ++ [((0, -1, [], [], 0, 0) : Nd)]) := NestB_non (by decide) (fun l h => by
    cases l with
    | nil => exact Nat.zero_le _
    | cons a t => have := (Nest_hd h).1; simp at this)
  have hB1 := tgS_N hb (by omega) hpl g4' TrV_root hB0
  have hB2 := ctF_N hb b2'.2 _ _ _ _ _ _ _ (by omega) wf.2.2.2 wf.1 g5' hB1
  cases hy
  exact hB2
