/-! NODES: what holds of every tree that a reading makes. -/
theorem cntA_app (ns : List Nd) (x : Nd) (e : Int) : cntA (ns ++ [x]) e = cntA ns e + if x.1 = 2 ∧ x.2.1 = e then 1 else 0 := by
  unfold cntA
  rw [List.filter_append, List.length_append, List.filter_cons]
  by_cases h : x.1 = 2 ∧ x.2.1 = e
  · rw [if_pos h, if_pos (by simp [h.1, h.2])]; rfl
  · rw [if_neg h, if_neg (by simpa using h)]; rfl
theorem cntI_app (ns : List Nd) (x : Nd) (e : Int) : cntI (ns ++ [x]) e = cntI ns e + if x.1 ≠ 2 ∧ x.2.1 = e then 1 else 0 := by
  unfold cntI
  rw [List.filter_append, List.length_append, List.filter_cons]
  by_cases h : x.1 ≠ 2 ∧ x.2.1 = e
  · rw [if_pos h, if_pos (by simp [h.1, h.2])]; rfl
  · rw [if_neg h, if_neg (by simpa using h)]; rfl
theorem tle_app (ns : List Nd) (x : Nd) : tle (ns ++ [x]) = tle ns + if x.1 = 3 then x.2.2.2.1.length else 0 := by simp [tle]
theorem tl_app {ns : List Nd} {x : Nd} {k : Nat} (h : k ≤ ns.length) : tl (ns ++ [x]) k = tl ns k := by unfold tl; rw [List.take_append_of_le_length h]
theorem tl_all (ns : List Nd) : tl ns ns.length = tle ns := by unfold tl; rw [List.take_length]
theorem eS_app {ns : List Nd} {x : Nd} {k : Nat} (h : k < ns.length) : eS (ns ++ [x]) k = if eS ns k = ns.length ∧ (k : Int) ≤ x.2.1 then ns.length + 1 else eS ns k := by
  unfold eS
  rw [List.drop_append_of_le_length (by omega), List.takeWhile_append]
  have hl : (ns.drop (k + 1)).length = ns.length - (k + 1) := List.length_drop
  by_cases h1 : ((ns.drop (k + 1)).takeWhile fun x => decide ((k : Int) ≤ x.2.1)).length = (ns.drop (k + 1)).length
  · rw [if_pos h1]
    by_cases h2 : (k : Int) ≤ x.2.1
    · rw [if_pos ⟨by omega, h2⟩]; simp [h2]; omega
    · rw [if_neg (fun z => h2 z.2)]; simp [h2]; simp at h1; omega
  · rw [if_neg h1, if_neg (fun z => h1 (by omega))]
theorem eS_last (ns : List Nd) (x : Nd) : eS (ns ++ [x]) ns.length = ns.length + 1 := by
  unfold eS; rw [List.drop_eq_nil_of_le (by simp)]; rfl
theorem eS_le {ns : List Nd} {k : Nat} (h : k < ns.length) : k + 1 ≤ eS ns k ∧ eS ns k ≤ ns.length := by
  unfold eS
  have := (List.takeWhile_prefix (fun x : Nd => decide ((k : Int) ≤ x.2.1)) (l := ns.drop (k + 1))).length_le
  rw [List.length_drop] at this
  omega
/-- within k, all have their places within -/
theorem eS_in {ns : List Nd} {k j : Nat} {y : Nd} (h1 : k < j) (h2 : j < eS ns k) (hy : ns[j]? = some y) : (k : Int) ≤ y.2.1 := by
  unfold eS at h2
  obtain ⟨i, hi⟩ : ∃ i, j = k + 1 + i := ⟨j - (k + 1), by omega⟩
  have hlt : i < ((ns.drop (k + 1)).takeWhile fun x => decide ((k : Int) ≤ x.2.1)).length := by omega
  have hmem : ((ns.drop (k + 1)).takeWhile fun x => decide ((k : Int) ≤ x.2.1))[i] = y := by
    have e1 := List.IsPrefix.getElem (List.takeWhile_prefix (fun x : Nd => decide ((k : Int) ≤ x.2.1)) (l := ns.drop (k + 1))) hlt
    rw [e1, List.getElem_drop]
    have hj := (List.getElem?_eq_some_iff.mp hy)
    obtain ⟨hj1, hj2⟩ := hj
    subst hi; exact hj2
  have := List.all_takeWhile (p := fun x : Nd => decide ((k : Int) ≤ x.2.1)) (l := ns.drop (k + 1))
  rw [List.all_eq_true] at this
  have h3 := this y (hmem ▸ List.getElem_mem hlt)
  simpa using h3
def OpW (ns : List Nd) (op : List Int) : Prop :=
  op.Pairwise (fun a c => c < a) ∧ (∀ o ∈ op, 0 ≤ o ∧ o < (ns.length : Nat) ∧ eS ns o.toNat = ns.length) ∧ (∀ (k : Nat) (x : Nd), ns[k]? = some x → x.1 ≠ 2 → (k : Int) ∉ op → eS ns k = ns.length → ∀ o ∈ op, o < k)
/-- attributes lie right behind their ELEMENT, each NAME once -/
def AtW (ns : List Nd) : Prop := (∀ (j : Nat) (x : Nd), ns[j]? = some x → x.2.1 < (j : Int)) ∧
  (∀ e : Nat, e < ns.length → e + cntA ns (e : Int) < ns.length ∧ ∀ (j : Nat) (x : Nd), ns[j]? = some x → (x.1 = 2 ∧ x.2.1 = (e : Int) ↔ e < j ∧ j ≤ e + cntA ns (e : Int))) ∧
  ∀ (i j : Nat) (x y : Nd), ns[i]? = some x → ns[j]? = some y → x.1 = 2 → y.1 = 2 → x.2.1 = y.2.1 → x.2.2.1 = y.2.2.1 → i = j
theorem cntA_out {ns : List Nd} (h : ∀ (j : Nat) (x : Nd), ns[j]? = some x → x.2.1 < (j : Int)) {f : Nat} (hf : ns.length ≤ f) : cntA ns (f : Int) = 0 := by
  unfold cntA
  rw [List.length_eq_zero_iff, List.filter_eq_nil_iff]
  intro y hy hyy
  simp only [Bool.and_eq_true, decide_eq_true_eq] at hyy
  obtain ⟨j, hj, rfl⟩ := List.getElem_of_mem hy
  have := h j _ (List.getElem?_eq_getElem hj)
  omega
/-- a new NODE in the innermost open one -/
theorem OpW_add {ns : List Nd} {op : List Int} {x : Nd} (h : OpW ns op) (hu : ∀ o ∈ op, o ≤ x.2.1) (hm : x.2.1 ∈ op) (h2 : x.1 = 2 ∨ True) : OpW (ns ++ [x]) op := by
  obtain ⟨a1, a2, a3⟩ := h
  refine ⟨a1, fun o ho => ?_, fun k y hy hk2 hk hes o ho => ?_⟩
  · obtain ⟨b1, b2, b3⟩ := a2 o ho
    refine ⟨b1, by simp only [List.length_append, List.length_singleton]; omega, ?_⟩
    rw [eS_app (by omega), if_pos ⟨b3, by have := hu o ho; omega⟩]; simp
  · rcases last_of hy with ⟨hk1, hy⟩ | ⟨rfl, rfl⟩
    · rw [eS_app hk1] at hes
      simp only [List.length_append, List.length_singleton] at hes
      have := eS_le hk1
      split at hes
      · next hc =>
        have := a3 k y hy hk2 hk hc.1 _ hm
        omega
      · omega
    · have := (a2 o ho).2.1; omega
theorem OpW_push {ns : List Nd} {op : List Int} {x : Nd} (h : OpW ns op) (hu : ∀ o ∈ op, o ≤ x.2.1) (hm : x.2.1 ∈ op) : OpW (ns ++ [x]) (((ns.length : Nat) : Int) :: op) := by
  obtain ⟨a1, a2, a3⟩ := OpW_add h hu hm (Or.inr trivial)
  refine ⟨List.pairwise_cons.mpr ⟨fun o ho => (h.2.1 o ho).2.1, a1⟩, fun o ho => ?_, fun k y hy hk2 hk hes o ho => ?_⟩
  · rcases List.mem_cons.mp ho with rfl | ho
    · refine ⟨by omega, by simp only [List.length_append, List.length_singleton]; omega, ?_⟩
      simp only [Int.toNat_natCast]
      rw [eS_last]; simp
    · exact a2 o ho
  · have hk' : (k : Int) ∉ op := fun z => hk (List.mem_cons_of_mem _ z)
    rcases last_of hy with ⟨hk1, hy'⟩ | ⟨rfl, rfl⟩
    · exfalso
      rw [eS_app hk1] at hes
      simp only [List.length_append, List.length_singleton] at hes
      have := eS_le hk1
      split at hes
      · next hc =>
        have := h.2.2 k y hy' hk2 hk' hc.1 _ hm
        omega
      · omega
    · exact absurd List.mem_cons_self hk
theorem OpW_pop {ns : List Nd} {e : Int} {op : List Int} (h : OpW ns (e :: op)) : OpW ns op := by
  obtain ⟨a1, a2, a3⟩ := h
  have a1' := List.pairwise_cons.mp a1
  refine ⟨a1'.2, fun o ho => a2 o (List.mem_cons_of_mem _ ho), fun k x hx hk2 hk hes o ho => ?_⟩
  by_cases hke : (k : Int) = e
  · rw [hke]; exact a1'.1 o ho
  · exact a3 k x hx hk2 (fun z => by rcases List.mem_cons.mp z with z | z; exact hke z; exact hk z) hes o (List.mem_cons_of_mem _ ho)
theorem hasA_false {ns : List Nd} {e : Int} {a : By} : hasA ns e a = false ↔ ∀ x ∈ ns, x.1 = 2 → x.2.1 = e → x.2.2.1 ≠ a := by
  unfold hasA
  rw [List.any_eq_false]
  constructor
  · intro h x hx h1 h2 h3
    have := h x hx
    simp [h1, h2, h3] at this
  · intro h x hx
    have := h x hx
    simp only [Bool.and_eq_true, decide_eq_true_eq]
    rintro ⟨⟨h1, h2⟩, h3⟩
    exact this h1 h2 h3
/-- a new attribute of e, behind which there are only its attributes -/
theorem AtW_attr {ns : List Nd} {e : Nat} {x : Nd} (h : AtW ns) (he : e < ns.length) (hx2 : x.1 = 2) (hxe : x.2.1 = (e : Int)) (hrun : e + cntA ns (e : Int) + 1 = ns.length) (hn : hasA ns (e : Int) x.2.2.1 = false) : AtW (ns ++ [x]) ∧ e + cntA (ns ++ [x]) (e : Int) + 1 = (ns ++ [x]).length := by
  obtain ⟨h1, h2, h3⟩ := h
  have hc : cntA (ns ++ [x]) (e : Int) = cntA ns (e : Int) + 1 := by rw [cntA_app, if_pos ⟨hx2, hxe⟩]
  have hl : (ns ++ [x]).length = ns.length + 1 := by simp
  refine ⟨⟨fun j y hy => ?_, fun f hf => ?_, fun i j y z hy hz g1 g2 g3 g4 => ?_⟩, by rw [hc, hl]; omega⟩
  · rcases last_of hy with ⟨hj, hy⟩ | ⟨rfl, rfl⟩
    · exact h1 j y hy
    · omega
  · rw [hl] at hf ⊢
    by_cases hfe : f = e
    · subst hfe
      rw [hc]
      refine ⟨by omega, fun j y hy => ?_⟩
      rcases last_of hy with ⟨hj, hy⟩ | ⟨rfl, rfl⟩
      · rw [(h2 f he).2 j y hy]; omega
      · exact ⟨fun _ => by omega, fun _ => ⟨hx2, hxe⟩⟩
    · have hcf : cntA (ns ++ [x]) (f : Int) = cntA ns (f : Int) := by rw [cntA_app, if_neg (fun z => hfe (by have := z.2.symm.trans hxe; omega))]; rfl
      rw [hcf]
      by_cases hfl : f < ns.length
      · have hb := (h2 f hfl).1
        refine ⟨by omega, fun j y hy => ?_⟩
        rcases last_of hy with ⟨hj, hy⟩ | ⟨rfl, rfl⟩
        · exact (h2 f hfl).2 j y hy
        · exact ⟨fun z => absurd (by have := z.2.symm.trans hxe; omega) hfe, fun z => by omega⟩
      · have h0 := cntA_out h1 (f := f) (by omega)
        rw [h0]
        refine ⟨by omega, fun j y hy => ?_⟩
        rcases last_of hy with ⟨hj, hy⟩ | ⟨rfl, rfl⟩
        · have := h1 j y hy
          exact ⟨fun z => by omega, fun z => by omega⟩
        · exact ⟨fun z => absurd (by have := z.2.symm.trans hxe; omega) hfe, fun z => by omega⟩
  · have hn' := hasA_false.mp hn
    rcases last_of hy with ⟨hi, hy1⟩ | ⟨hi, hy1⟩ <;> rcases last_of hz with ⟨hj, hz1⟩ | ⟨hj, hz1⟩
    · exact h3 i j y z hy1 hz1 g1 g2 g3 g4
    · subst hz1; exact absurd g4 (hn' y (List.mem_of_getElem? hy1) g1 (g3.trans hxe))
    · subst hy1; exact absurd g4.symm (hn' z (List.mem_of_getElem? hz1) g2 (g3.symm.trans hxe))
    · omega
/-- a new NODE that is no attribute -/
theorem AtW_other {ns : List Nd} {x : Nd} (h : AtW ns) (hx2 : x.1 ≠ 2) (hxe : x.2.1 < (ns.length : Nat)) : AtW (ns ++ [x]) := by
  obtain ⟨h1, h2, h3⟩ := h
  have hl : (ns ++ [x]).length = ns.length + 1 := by simp
  refine ⟨fun j y hy => ?_, fun f hf => ?_, fun i j y z hy hz g1 g2 g3 g4 => ?_⟩
  · rcases last_of hy with ⟨hj, hy⟩ | ⟨rfl, rfl⟩
    · exact h1 j y hy
    · exact hxe
  · rw [hl] at hf ⊢
    have hcf : cntA (ns ++ [x]) (f : Int) = cntA ns (f : Int) := by rw [cntA_app, if_neg (fun z => hx2 z.1)]; rfl
    rw [hcf]
    by_cases hfl : f < ns.length
    · have hb := (h2 f hfl).1
      refine ⟨by omega, fun j y hy => ?_⟩
      rcases last_of hy with ⟨hj, hy⟩ | ⟨rfl, rfl⟩
      · exact (h2 f hfl).2 j y hy
      · exact ⟨fun z => absurd z.1 hx2, fun z => by omega⟩
    · have h0 := cntA_out h1 (f := f) (by omega)
      rw [h0]
      refine ⟨by omega, fun j y hy => ?_⟩
      rcases last_of hy with ⟨hj, hy⟩ | ⟨rfl, rfl⟩
      · have := h1 j y hy
        exact ⟨fun z => by omega, fun z => by omega⟩
      · exact ⟨fun z => absurd z.1 hx2, fun z => by omega⟩
  · rcases last_of hy with ⟨hi, hy⟩ | ⟨rfl, rfl⟩
    · rcases last_of hz with ⟨hj, hz⟩ | ⟨rfl, rfl⟩
      · exact h3 i j y z hy hz g1 g2 g3 g4
      · exact absurd g2 hx2
    · exact absurd g1 hx2
section P75
variable {cs : Cs} {Q : Option AV → Mm → Prop} {MI ML OI OL : Nat → Nat → Int} {b d e nw th x : Nat} {T : Nat → Int} {n h : Int} {N : List By} {pl : Nat} {D : Dt} {ns : List Nd} {op : List Int} {dp : Int}
theorem NodC_op {op' : List Int} (hs : ∀ o ∈ op, o ∈ op') (hN : NodC b N ns op MI) : NodC b N ns op' MI := by
  refine ⟨hN.1, hN.2.1, hN.2.2.1, fun k y hy => ?_⟩
  obtain ⟨a1, a2, a3, a4, a5, a6, a7, a8, a9, a10⟩ := hN.2.2.2 k y hy
  exact ⟨a1, a2, a3, a4, a5, a6, a7, a8, a9, fun h2 hk => a10 h2 (fun z => hk (hs _ z))⟩
theorem DocC_op {op' : List Int} (hs : ∀ o ∈ op, o ∈ op') (hD : DocC b T n N pl D ns op dp MI ML) : DocC b T n N pl D ns op' dp MI ML :=
  ⟨hD.1, hD.2.1, hD.2.2.1, hD.2.2.2.1, NodC_op hs hD.2.2.2.2.1, hD.2.2.2.2.2.1, hD.2.2.2.2.2.2⟩
theorem c_countIn (hbd : b = 38 ∨ b = 81) {k t : Int} (hk : 0 ≤ k ∧ k < 600) (h5 : 0 ≤ MI (b + 35) k.toNat ∧ MI (b + 35) k.toNat ≤ 1000) (h6 : 0 ≤ MI (b + 36) k.toNat ∧ MI (b + 36) k.toNat ≤ 1000)
    (hQ : Q none (if t = 2 then up2 MI (b + 35) k.toNat (MI (b + 35) k.toNat + 1) else up2 MI (b + 36) k.toNat (MI (b + 36) k.toNat + 1), ML, GR d e nw th x)) :
    wp cs mX3_countIn KD Q 0 (padL [vR b, vI k, vI t] 3) [] (KD, MI, ML, GR d e nw th x) := by
  refine v_X3_countIn_0 hbd ⟨fun ht => ⟨hk, by omega, fun m em => ?_⟩, fun ht => ⟨hk, by omega, fun m em => ?_⟩⟩
  · rw [if_pos ht] at hQ; rw [em]; exact hQ
  · rw [if_neg ht] at hQ; rw [em]; exact hQ
theorem cnt_le (ns : List Nd) (e : Int) : cntA ns e ≤ ns.length ∧ cntI ns e ≤ ns.length := ⟨List.length_filter_le _ _, List.length_filter_le _ _⟩
/-- a new NODE, as yet without bytes -/
theorem c_X3_add (hbd : b = 38 ∨ b = 81) {t u i : Int} {nm : By} (hlt : ns.length < 600) (hD : DocC b T n N pl D ns op dp MI ML) (hi : nm = [] ∧ i = -1 ∨ isId N i nm) (hu : u = -1 ∨ 0 ≤ u ∧ u < (ns.length : Nat)) (hcl : ∀ (k : Nat) (y : Nd), ns[k]? = some y → y.1 ≠ 2 → (k : Int) ∉ op → eS ns k = ns.length → u < (k : Int)) (hups : ∀ (j : Nat) (y : Nd), ns[j]? = some y → y.2.1 < (j : Int))
    (hQ : ∀ MI', DocC b T n N pl D (ns ++ [(t, u, nm, [], 0, 0)]) op dp MI' ML → (∀ j, j ≠ b → ¬ (b + 32 ≤ j ∧ j ≤ b + 40) → MI' j = MI j) → (∀ k, k ≠ 16 → MI' b k = MI b k) → (t = 2 → MI' (b + 39) ns.length = MI b 14) → Q (some (vI (ns.length : Nat))) (MI', ML, GR d e nw th x)) :
    wp cs mX3_add KD Q 0 (padL [vR b, vI t, vI u, vI i] 6) [] (KD, MI, ML, GR d e nw th x) := by
  have hN := hD.2.2.2.2.1
  have h16 := hN.1
  have h15 := hN.2.2.1
  have h14 := hD.2.2.2.2.2.2.1
  have go : ∀ s : Int, s = (if t = 2 then MI b 14 else MI b 15) → wp cs mX3_add KD Q 34 [some (vR b), some (vI t), some (vI u), some (vI i), some (vI (ns.length : Nat)), none] [vI s] (KD, MI, ML, GR d e nw th x) := by
    intro s hs
    refine v_X3_add_34 hbd ⟨by omega, ?_⟩
    simp only [Int.toNat_natCast]
    intro m43 e43 m51 e51 m59 e59 m67 e67 m75 e75 m83 e83
    refine ⟨by omega, ?_⟩
    intro m94 e94 m103 e103 m112 e112
    have q16 : m112 b 16 = (ns.length : Nat) := by simp [e112, e103, e94, e83, e75, e67, e59, e51, e43, up2, h16]
    rw [q16]
    refine ⟨by omega, ?_⟩
    intro m120 e120
    have fr : ∀ j, j ≠ b → ¬ (b + 32 ≤ j ∧ j ≤ b + 40) → m120 j = MI j := fun j h1 h2 => by
      funext k; simp only [e120, e112, e103, e94, e83, e75, e67, e59, e51, e43, up2]; repeat rw [if_neg (by omega)]
    have frb : ∀ k, k ≠ 16 → m120 b k = MI b k := fun k hk => by simp [e120, e112, e103, e94, e83, e75, e67, e59, e51, e43, up2, hk]
    have old : ∀ c, 32 ≤ c → c ≤ 40 → ∀ k, k ≠ ns.length → m120 (b + c) k = MI (b + c) k := fun c h1 h2 k hk => by
      simp only [e120, e112, e103, e94, e83, e75, e67, e59, e51, e43, up2]; repeat rw [if_neg (by omega)]
    have h16' : m120 b 16 = (ns.length : Nat) + 1 := by simp [e120, up2]
    -- the two counts behind countIn
    have fin : ∀ m, (∀ j, j ≠ b + 35 → j ≠ b + 36 → m j = m120 j) → (∀ k, m (b + 35) k = m120 (b + 35) k + if (k : Int) = u ∧ t = 2 then 1 else 0) → (∀ k, m (b + 36) k = m120 (b + 36) k + if (k : Int) = u ∧ t ≠ 2 then 1 else 0) → Q (some (vI (ns.length : Nat))) (m, ML, GR d e nw th x) := by
      intro m g1 g35 g36
      have gr : ∀ j, j ≠ b → ¬ (b + 32 ≤ j ∧ j ≤ b + 40) → m j = MI j := fun j h1 h2 => (g1 j (by omega) (by omega)).trans (fr j h1 h2)
      have grb : ∀ k, k ≠ 16 → m b k = MI b k := fun k hk => by rw [g1 b (by omega) (by omega)]; exact frb k hk
      have ht0 : tle (ns ++ [((t, u, nm, [], 0, 0) : Nd)]) = tle ns := by rw [tle_app]; simp
      refine hQ m ⟨NamC_fr hD.1 (fun j z1 z2 => gr j (by omega) (by omega)), IdxC_fr hD.2.1 (fun j z1 z2 => gr j (by omega) (by omega)), SpcC_fr hD.2.2.1 (fun j z1 z2 => gr j (by omega) (by omega)) (fun _ _ _ => rfl), RulC_fr hD.2.2.2.1 (fun j z1 z2 => gr j (by omega) (by omega)) (gr _ (by omega) (by omega)) (grb 14 (by decide)), ?_, DtC_fr hD.2.2.2.2.2.1 (grb 17 (by decide)), ?_, ?_⟩ gr grb (fun ht => by
        rw [g1 (b + 39) (by omega) (by omega)]
        rw [if_pos ht] at hs
        simp [e120, e112, e103, up2, hs])
      · refine ⟨?_, ?_, ?_, fun k y hy => ?_⟩
        · rw [g1 b (by omega) (by omega), h16']; simp
        · simp only [List.length_append, List.length_singleton]; omega
        · rw [grb 15 (by decide), ht0]; exact h15
        · have cA : ∀ k : Nat, cntA (ns ++ [((t, u, nm, [], 0, 0) : Nd)]) (k : Int) = cntA ns (k : Int) + if (k : Int) = u ∧ t = 2 then 1 else 0 := fun k => by
            rw [cntA_app]
            by_cases hh : (k : Int) = u ∧ t = 2
            · rw [if_pos hh, if_pos ⟨hh.2, hh.1.symm⟩]
            · rw [if_neg hh, if_neg (fun z => hh ⟨z.2.symm, z.1⟩)]
          have cI : ∀ k : Nat, cntI (ns ++ [((t, u, nm, [], 0, 0) : Nd)]) (k : Int) = cntI ns (k : Int) + if (k : Int) = u ∧ t ≠ 2 then 1 else 0 := fun k => by
            rw [cntI_app]
            by_cases hh : (k : Int) = u ∧ t ≠ 2
            · rw [if_pos hh, if_pos ⟨hh.2, hh.1.symm⟩]
            · rw [if_neg hh, if_neg (fun z => hh ⟨z.2.symm, z.1⟩)]
          rcases last_of hy with ⟨hk, hy⟩ | ⟨rfl, rfl⟩
          · obtain ⟨a1, a2, a3, a4, a5, a6, a7, a8, a9, a10⟩ := hN.2.2.2 k y hy
            have o : ∀ c, 32 ≤ c → c ≤ 40 → c ≠ 35 → c ≠ 36 → m (b + c) k = MI (b + c) k := fun c h1 h2 h3 h4 => by
              rw [g1 (b + c) (by omega) (by omega)]; exact old c h1 h2 k (by omega)
            have he := eS_le hk
            refine ⟨by rw [o 32 (by decide) (by decide) (by decide) (by decide)]; exact a1, by rw [o 33 (by decide) (by decide) (by decide) (by decide)]; exact a2, by rw [o 34 (by decide) (by decide) (by decide) (by decide)]; exact a3, ?_, ?_, by rw [o 37 (by decide) (by decide) (by decide) (by decide)]; exact a6, fun h2 => ?_, fun h2 => ?_, fun h3 => ?_, fun h2 hop => ?_⟩
            · rw [g35, old 35 (by decide) (by decide) k (by omega), a4, cA]; split <;> omega
            · rw [g36, old 36 (by decide) (by decide) k (by omega), a5, cI]; split <;> omega
            · rw [o 39 (by decide) (by decide) (by decide) (by decide), o 40 (by decide) (by decide) (by decide) (by decide), o 38 (by decide) (by decide) (by decide) (by decide), gr (b + 41) (by omega) (by omega), grb 14 (by decide)]; exact a7 h2
            · rw [o 39 (by decide) (by decide) (by decide) (by decide), tl_app (by omega)]; exact a8 h2
            · rw [gr (b + 42) (by omega) (by omega), ht0, tl_app (by omega)]; exact a9 h3
            · have hes : eS (ns ++ [((t, u, nm, [], 0, 0) : Nd)]) k = eS ns k := by
                rw [eS_app hk]
                split
                · next hc => have := hcl k y hy h2 hop hc.1; simp only at hc; omega
                · rfl
              rw [o 38 (by decide) (by decide) (by decide) (by decide), o 40 (by decide) (by decide) (by decide) (by decide), hes, tl_app he.2]; exact a10 h2 hop
          · have o : ∀ c, 32 ≤ c → c ≤ 40 → c ≠ 35 → c ≠ 36 → m (b + c) ns.length = m120 (b + c) ns.length := fun c h1 h2 h3 h4 => by rw [g1 (b + c) (by omega) (by omega)]
            have e32 : m120 (b + 32) ns.length = t := by simp [e120, e112, e103, e94, e83, e75, e67, e59, e51, e43, up2]
            have e33 : m120 (b + 33) ns.length = u := by simp [e120, e112, e103, e94, e83, e75, e67, e59, e51, up2]
            have e34 : m120 (b + 34) ns.length = i := by simp [e120, e112, e103, e94, e83, e75, e67, e59, up2]
            have e35 : m120 (b + 35) ns.length = 0 := by simp [e120, e112, e103, e94, e83, e75, e67, up2]
            have e36 : m120 (b + 36) ns.length = 0 := by simp [e120, e112, e103, e94, e83, e75, up2]
            have e37 : m120 (b + 37) ns.length = 0 := by simp [e120, e112, e103, e94, e83, up2]
            have e38 : m120 (b + 38) ns.length = (ns.length : Nat) + 1 := by simp [e120, e112, e103, e94, up2]
            have e39 : m120 (b + 39) ns.length = s := by simp [e120, e112, e103, up2]
            have e40 : m120 (b + 40) ns.length = s := by simp [e120, e112, up2]
            have hz : ∀ e : Nat, ns.length ≤ e → cntA ns (e : Int) = 0 ∧ cntI ns (e : Int) = 0 := fun f hf => ⟨cntA_out hups hf, by
              unfold cntI
              rw [List.length_eq_zero_iff, List.filter_eq_nil_iff]
              intro y hy hyy
              simp only [Bool.and_eq_true, decide_eq_true_eq] at hyy
              obtain ⟨j, hj, rfl⟩ := List.getElem_of_mem hy
              have := hups j _ (List.getElem?_eq_getElem hj)
              omega⟩
            refine ⟨by rw [o 32 (by decide) (by decide) (by decide) (by decide)]; exact e32, by rw [o 33 (by decide) (by decide) (by decide) (by decide)]; exact e33, by rw [o 34 (by decide) (by decide) (by decide) (by decide), e34]; exact hi, ?_, ?_, by rw [o 37 (by decide) (by decide) (by decide) (by decide), e37]; rfl, fun h2 => ⟨?_, ?_⟩, fun h2 => ?_, fun h3 => ?_, fun h2 hop => ⟨?_, ?_⟩⟩
            · rw [g35, e35, cA, (hz _ (Nat.le_refl _)).1, if_neg (by omega), if_neg (by omega)]; rfl
            · rw [g36, e36, cI, (hz _ (Nat.le_refl _)).2, if_neg (by omega), if_neg (by omega)]; rfl
            · simp only at h2
              rw [if_pos h2] at hs
              rw [o 39 (by decide) (by decide) (by decide) (by decide), o 40 (by decide) (by decide) (by decide) (by decide), e39, e40, hs, grb 14 (by decide)]
              exact ⟨h14.1, by simp, by omega, fun i y hy => by simp at hy⟩
            · rw [o 38 (by decide) (by decide) (by decide) (by decide), e38]
            · simp only at h2
              rw [if_neg h2] at hs
              rw [o 39 (by decide) (by decide) (by decide) (by decide), e39, hs, h15, tl_app (Nat.le_refl _), tl_all]
            · rw [ht0, tl_app (Nat.le_refl _), tl_all]
              exact ⟨by omega, rfl, by simp, fun i y hy => by simp at hy⟩
            · rw [o 38 (by decide) (by decide) (by decide) (by decide), e38, eS_last]; omega
            · simp only at h2
              rw [if_neg h2] at hs
              rw [o 40 (by decide) (by decide) (by decide) (by decide), e40, hs, h15, eS_last]
              have : tl (ns ++ [((t, u, nm, [], 0, 0) : Nd)]) (ns.length + 1) = tle (ns ++ [((t, u, nm, [], 0, 0) : Nd)]) := by rw [← tl_all]; simp
              rw [this, ht0]
      · rw [grb 14 (by decide), grb 15 (by decide)]; exact h14
      · rw [grb 18 (by decide)]; exact hD.2.2.2.2.2.2.2
    refine w_X3_has hbd (fun hs => rI_mk ⟨fun z => by omega, fun _ => ?_⟩) (fun hs => rI_mk ⟨fun _ => ?_, fun z => absurd rfl z⟩)
    · have hu2 : 0 ≤ u ∧ u < (ns.length : Nat) := by
        rcases hu with hu | hu
        · omega
        · exact hu
      obtain ⟨y, hy⟩ : ∃ y, ns[u.toNat]? = some y := ⟨_, List.getElem?_eq_getElem (by omega)⟩
      obtain ⟨a1, a2, a3, a4, a5, a6⟩ := hN.2.2.2 u.toNat y hy
      have c1 := cnt_le ns (u.toNat : Int)
      have o35 := old 35 (by decide) (by decide) u.toNat (by omega)
      have o36 := old 36 (by decide) (by decide) u.toNat (by omega)
      refine c_countIn hbd (by omega) (by rw [o35, a4]; omega) (by rw [o36, a5]; omega) (rV_mk ?_)
      refine fin _ (fun j h1 h2 => ?_) (fun k => ?_) (fun k => ?_)
      · funext k; split
        · exact up2_ne h1 k
        · exact up2_ne h2 k
      · by_cases ht : t = 2
        · rw [if_pos ht]
          by_cases hk : k = u.toNat
          · rw [hk, up2_eq, if_pos ⟨by omega, ht⟩]
          · rw [up2_nk hk, if_neg (by omega)]; omega
        · rw [if_neg ht, up2_ne (by omega), if_neg (fun z => ht z.2)]; omega
      · by_cases ht : t = 2
        · rw [if_pos ht, up2_ne (by omega), if_neg (fun z => z.2 ht)]; omega
        · rw [if_neg ht]
          by_cases hk : k = u.toNat
          · rw [hk, up2_eq, if_pos ⟨by omega, ht⟩]
          · rw [up2_nk hk, if_neg (by omega)]; omega
    · have hum : u = -1 := by
        rcases hu with hu | hu
        · exact hu
        · exact absurd ⟨hu.1, by omega⟩ hs
      exact fin m120 (fun _ _ _ => rfl) (fun k => by rw [if_neg (by omega)]; omega) (fun k => by rw [if_neg (by omega)]; omega)
  refine v_X3_add_0 hbd ⟨fun _ => ⟨fun ht => ?_, fun ht => ?_⟩, fun z => by omega⟩
  · rw [h16]; exact go _ (by rw [if_pos ht])
  · rw [h16]; exact go _ (by rw [if_neg ht])
end P75
