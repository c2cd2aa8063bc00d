theorem atF_none {MI : Nat → Nat → Int} {b : Nat} {w : Int} : ∀ (m : Nat) (i : Int), 0 ≤ i → (atF MI b w m i = -1 ↔ ∀ j : Nat, i ≤ (j : Int) → (j : Int) < i + m → MI (b + 34) j ≠ w)
  | 0, i, h0 => by simp only [atF, true_iff]; intro j h1 h2; omega
  | m + 1, i, h0 => by
    rw [atF]
    by_cases hw : MI (b + 34) i.toNat = w
    · rw [if_pos hw]
      constructor
      · intro h; omega
      · intro h; exact absurd hw (h i.toNat (by omega) (by omega))
    · rw [if_neg hw, atF_none m (i + 1) (by omega)]
      constructor
      · intro h j h1 h2
        by_cases hj : j = i.toNat
        · subst hj; exact hw
        · exact h j (by omega) (by omega)
      · intro h j h1 h2; exact h j (by omega) (by omega)
theorem atF_some {MI : Nat → Nat → Int} {b : Nat} {w : Int} : ∀ (m : Nat) (i : Int), 0 ≤ i → atF MI b w m i ≠ -1 → ∃ j : Nat, atF MI b w m i = (j : Int) ∧ i ≤ (j : Int) ∧ (j : Int) < i + m ∧ MI (b + 34) j = w
  | 0, i, h0, h => by simp [atF] at h
  | m + 1, i, h0, h => by
    rw [atF] at h ⊢
    by_cases hw : MI (b + 34) i.toNat = w
    · rw [if_pos hw]; exact ⟨i.toNat, by omega, by omega, by omega, hw⟩
    · rw [if_neg hw] at h ⊢
      obtain ⟨j, h1, h2, h3, h4⟩ := atF_some m (i + 1) (by omega) h
      exact ⟨j, h1, by omega, by omega, h4⟩
section P76
variable {cs : Cs} {Q : Option AV → Mm → Prop} {MI ML OI OL : Nat → Nat → Int} {b d e nw th x : Nat} {T : Nat → Int} {n h : Int} {N : List By} {pl : Nat} {D : Dt} {ns : List Nd} {op : List Int} {dp : Int}
theorem NamC_id (hN : NamC b T n N MI) {i : Int} {a : By} (hi : isId N i a) : a ≠ [] := (hN.2.2.2.1 i.toNat a hi.2).2.2
theorem nm_id (hN : N.Nodup) (hn : NodC b N ns op MI) {i : Int} {a : By} (hi : isId N i a) (ha : a ≠ []) {j : Nat} {y : Nd} (hy : ns[j]? = some y) : MI (b + 34) j = i ↔ y.2.2.1 = a := by
  have h3 := (hn.2.2.2 j y hy).2.2.1
  rcases h3 with ⟨h3, h4⟩ | h3
  · rw [h4, h3]
    constructor
    · intro z; have := hi.1; omega
    · intro z; exact absurd z.symm ha
  · exact isId_eq hN h3 hi
theorem atC_has (hN : N.Nodup) (hn : NodC b N ns op MI) (hA : AtW ns) {k : Nat} (hk : k < ns.length) {i : Int} {a : By} (hi : isId N i a) (ha : a ≠ []) : atC MI b (k : Nat) i = -1 ↔ hasA ns (k : Int) a = false := by
  obtain ⟨y0, hy0⟩ : ∃ y, ns[k]? = some y := ⟨_, List.getElem?_eq_getElem hk⟩
  have hc := (hn.2.2.2 k y0 hy0).2.2.2.1
  have hrun := hA.2.1 k hk
  unfold atC
  simp only [Int.toNat_natCast]
  rw [hc, Int.toNat_natCast, atF_none _ _ (by omega), hasA_false]
  constructor
  · intro h y hy h1 h2
    obtain ⟨j, hj, rfl⟩ := List.getElem_of_mem hy
    have hjy := List.getElem?_eq_getElem hj
    have := (hrun.2 j _ hjy).mp ⟨h1, h2⟩
    have h3 := h j (by omega) (by omega)
    exact fun z => h3 ((nm_id hN hn hi ha hjy).mpr z)
  · intro h j h1 h2 h3
    have hj : j < ns.length := by omega
    have hjy := List.getElem?_eq_getElem hj
    have h4 := (hrun.2 j _ hjy).mpr ⟨by omega, by omega⟩
    exact h _ (List.getElem_mem hj) h4.1 h4.2 ((nm_id hN hn hi ha hjy).mp h3)
/-- the last NODE, an attribute, gets its bytes -/
theorem DocC_attr (hbd : b = 38 ∨ b = 81) {u f0 f : Int} {a s0 v : By} {MI' : Nat → Nat → Int} (hD : DocC b T n N pl D (ns ++ [(2, u, a, s0, f0, 0)]) op dp MI ML) (hf : ∀ j, j ≠ b + 37 → j ≠ b + 39 → j ≠ b + 40 → MI' j = MI j) (ho : ∀ c, c = 37 ∨ c = 39 ∨ c = 40 → ∀ k, k ≠ ns.length → MI' (b + c) k = MI (b + c) k)
    (hv : slc (MI (b + 41)) (MI b 14) (MI' (b + 39) ns.length) (MI' (b + 40) ns.length - MI' (b + 39) ns.length) v) (hfl : MI' (b + 37) ns.length = f) : DocC b T n N pl D (ns ++ [(2, u, a, v, f, 0)]) op dp MI' ML := by
  have eb : MI' b = MI b := hf b (by omega) (by omega) (by omega)
  refine ⟨NamC_fr hD.1 (fun j z1 z2 => hf j (by omega) (by omega) (by omega)), IdxC_fr hD.2.1 (fun j z1 z2 => hf j (by omega) (by omega) (by omega)), SpcC_fr hD.2.2.1 (fun j z1 z2 => hf j (by omega) (by omega) (by omega)) (fun _ _ _ => rfl), RulC_fr hD.2.2.2.1 (fun j z1 z2 => hf j (by omega) (by omega) (by omega)) (hf _ (by omega) (by omega) (by omega)) (by rw [eb]), ?_, DtC_fr hD.2.2.2.2.2.1 (by rw [eb]), by rw [eb]; exact hD.2.2.2.2.2.2.1, by rw [eb]; exact hD.2.2.2.2.2.2.2⟩
  obtain ⟨n1, n2, n3, n4⟩ := hD.2.2.2.2.1
  have cA : ∀ e : Int, cntA (ns ++ [((2, u, a, v, f, 0) : Nd)]) e = cntA (ns ++ [((2, u, a, s0, f0, 0) : Nd)]) e := fun e => by rw [cntA_app, cntA_app]
  have cI : ∀ e : Int, cntI (ns ++ [((2, u, a, v, f, 0) : Nd)]) e = cntI (ns ++ [((2, u, a, s0, f0, 0) : Nd)]) e := fun e => by rw [cntI_app, cntI_app]
  have ct : tle (ns ++ [((2, u, a, v, f, 0) : Nd)]) = tle (ns ++ [((2, u, a, s0, f0, 0) : Nd)]) := by rw [tle_app, tle_app]; rfl
  have ctl : ∀ k, tl (ns ++ [((2, u, a, v, f, 0) : Nd)]) k = tl (ns ++ [((2, u, a, s0, f0, 0) : Nd)]) k := fun k => by
    by_cases hk : k ≤ ns.length
    · rw [tl_app hk, tl_app hk]
    · have : ∀ y : Nd, tl (ns ++ [y]) k = tle (ns ++ [y]) := fun y => by unfold tl; rw [List.take_of_length_le (by simp; omega)]
      rw [this, this, ct]
  have ce : ∀ k, k < ns.length → eS (ns ++ [((2, u, a, v, f, 0) : Nd)]) k = eS (ns ++ [((2, u, a, s0, f0, 0) : Nd)]) k := fun k hk => by rw [eS_app hk, eS_app hk]
  refine ⟨by rw [eb]; simpa using n1, by simpa using n2, by rw [eb, ct]; exact n3, fun k y hy => ?_⟩
  rcases last_of hy with ⟨hk, hy⟩ | ⟨rfl, rfl⟩
  · obtain ⟨a1, a2, a3, a4, a5, a6, a7, a8, a9, a10⟩ := n4 k y (last_mono hy)
    refine ⟨by rw [hf _ (by omega) (by omega) (by omega)]; exact a1, by rw [hf _ (by omega) (by omega) (by omega)]; exact a2, by rw [hf _ (by omega) (by omega) (by omega)]; exact a3, by rw [hf _ (by omega) (by omega) (by omega), cA]; exact a4, by rw [hf _ (by omega) (by omega) (by omega), cI]; exact a5, by rw [ho 37 (by omega) k (by omega)]; exact a6, fun h2 => ?_, fun h2 => ?_, fun h3 => ?_, fun h2 hop => ?_⟩
    · rw [ho 39 (by omega) k (by omega), ho 40 (by omega) k (by omega), hf (b + 41) (by omega) (by omega) (by omega), hf (b + 38) (by omega) (by omega) (by omega), eb]; exact a7 h2
    · rw [ho 39 (by omega) k (by omega), ctl]; exact a8 h2
    · rw [hf (b + 42) (by omega) (by omega) (by omega), ct, ctl]; exact a9 h3
    · rw [hf (b + 38) (by omega) (by omega) (by omega), ho 40 (by omega) k (by omega), ce k hk, ctl]; exact a10 h2 hop
  · obtain ⟨a1, a2, a3, a4, a5, a6, a7, a8, a9, a10⟩ := n4 _ _ (last_get ns _)
    refine ⟨by rw [hf _ (by omega) (by omega) (by omega)]; exact a1, by rw [hf _ (by omega) (by omega) (by omega)]; exact a2, by rw [hf _ (by omega) (by omega) (by omega)]; exact a3, by rw [hf _ (by omega) (by omega) (by omega), cA]; exact a4, by rw [hf _ (by omega) (by omega) (by omega), cI]; exact a5, by rw [hfl]; simp, fun h2 => ⟨?_, ?_⟩, fun h2 => absurd rfl h2, fun h3 => by simp at h3, fun h2 => absurd rfl h2⟩
    · rw [hf (b + 41) (by omega) (by omega) (by omega), eb]; exact hv
    · rw [hf (b + 38) (by omega) (by omega) (by omega)]; exact (a7 rfl).2
/-- the readers' own state, and what holds of the tree -/
def OpU (ns : List Nd) : List Int → Prop
  | [] => True
  | e :: t => (∃ y, ns[e.toNat]? = some y ∧ y.1 = 1 ∧ y.2.1 = t.headD 0) ∧ OpU ns t
def TrI (t : Tr) : Prop := OpW t.1 (t.2.1 ++ [0]) ∧ AtW t.1 ∧ OpU t.1 t.2.1 ∧ t.2.1.length ≤ 30 ∧ t.1.length ≤ 600
theorem OpU_app {y : Nd} : ∀ {l : List Int}, OpU ns l → OpU (ns ++ [y]) l
  | [], _ => trivial
  | e :: t, h => ⟨by obtain ⟨z, h1, h2⟩ := h.1; exact ⟨z, last_mono h1, h2⟩, OpU_app h.2⟩
theorem headD_mem (l : List Int) : l.headD 0 ∈ l ++ [0] := by cases l <;> simp
theorem headD_max {l : List Int} (hp : (l ++ [0]).Pairwise (fun a c => c < a)) : ∀ o ∈ l ++ [0], o ≤ l.headD 0 := by
  cases l with
  | nil => intro o ho; simp at ho; simp [ho]
  | cons a t =>
    intro o ho
    simp only [List.cons_append, List.headD_cons, List.mem_cons] at *
    rcases ho with rfl | ho
    · exact Int.le_refl _
    · have := (List.pairwise_cons.mp hp).1 o ho; omega
def TrC (t : Tr) (MI : Nat → Nat → Int) : Prop := MI 10 1 = t.2.1.headD 0 ∧ MI 10 2 = (t.2.1.length : Nat)
/-- in the ELEMENT e's tag: behind it there are only its attributes -/
def TgI (ns : List Nd) (e : Nat) (os : List Int) : Prop := OpW ns ((e : Int) :: os ++ [0]) ∧ AtW ns ∧ e < ns.length ∧ e + cntA ns (e : Int) + 1 = ns.length ∧ OpU ns ((e : Int) :: os)
theorem TgI_add {e : Nat} {os : List Int} {a v : By} {f : Int} (h : TgI ns e os) (hn : hasA ns (e : Int) a = false) : TgI (ns ++ [(2, (e : Int), a, v, f, 0)]) e os := by
  obtain ⟨a1, a2, a3, a4, a5⟩ := h
  have := AtW_attr (x := (2, (e : Int), a, v, f, 0)) a2 a3 rfl rfl a4 hn
  refine ⟨OpW_add a1 (headD_max (l := (e : Int) :: os) a1.1) (by simp) (Or.inl rfl), this.1, by simp only [List.length_append, List.length_singleton]; omega, this.2, OpU_app a5⟩
/-- an attribute at its NAME -/
def atS (T : Nat → Int) (n e : Int) (pl : Nat) (ns : List Nd) (h : Int) : PR (Nat × List Nd × Int) := pb (nmS T n h) fun g =>
  if hasA ns e (nb T h g) = true then .inl (-2, h) else if 8 ≤ cntA ns e ∨ 600 ≤ ns.length then .inl (-3, h)
  else pb (mbS T n (sk T n g) 61) fun y => pb (vlS T n (2000 - pl) (sk T n y)) fun q => .inr (pl + q.1.length, ns ++ [(2, e, nb T h g, q.1, 0, 0)], q.2)
theorem atsF_eq (T : Nat → Int) (n e : Int) (k pl : Nat) (ns : List Nd) (h : Int) : atsF T n e (k + 1) pl ns h = if h < sk T n h ∧ isNs (ob T n (sk T n h)) then pb (atS T n e pl ns (sk T n h)) (fun q => atsF T n e k q.1 q.2.1 q.2.2) else .inr (pl, ns, sk T n h) := by
  rw [atsF]
  split
  · unfold atS
    cases nmS T n (sk T n h) with
    | inl f => rfl
    | inr g =>
      rw [pb_r, pb_r]
      split
      · rfl
      · split
        · rfl
        · cases mbS T n (sk T n g) 61 with
          | inl f => rfl
          | inr y =>
            rw [pb_r, pb_r]
            cases vlS T n (2000 - pl) (sk T n y) with
            | inl f => rfl
            | inr q => rfl
  · rfl
theorem atS_le {e : Int} {pl' : Nat} {ns' : List Nd} {y : Int} (h0 : 0 ≤ h) (hy : atS T n e pl ns h = .inr (pl', ns', y)) : h < y ∧ pl' ≤ 2000 ∨ 2000 < pl := by
  unfold atS at hy
  obtain ⟨g, h1, hy⟩ := pb_inr hy
  have b1 := nmS_ok h1
  split at hy
  · cases hy
  · split at hy
    · cases hy
    · obtain ⟨z, h2, hy⟩ := pb_inr hy
      obtain ⟨q, h3, hy⟩ := pb_inr hy
      have b2 := mbS_eq h2
      have b3 := sk_le T n g
      have b4 := sk_le T n z
      have b5 := vlS_le (by omega) (show vlS T n (2000 - pl) (sk T n z) = .inr (q.1, q.2) from h3)
      injection hy with hy
      have e1 := congrArg (fun z => z.2.2) hy
      have e2 := congrArg (fun z => z.1) hy
      simp only at e1 e2
      omega
/-- add, or -1 where 8 are there or 600 NODES -/
theorem c_addAttribute (hbd : b = 38 ∨ b = 81) {ec : Nat} {os : List Int} {i : Int} {a : By} (hD : DocC b T n N pl D ns ((ec : Int) :: os ++ [0]) dp MI ML) (hI : TgI ns ec os) (hi : isId N i a) (hcur : MI 10 1 = (ec : Int))
    (hT : ¬ (8 ≤ cntA ns (ec : Int) ∨ 600 ≤ ns.length) → ∀ MI', DocC b T n N pl D (ns ++ [(2, (ec : Int), a, [], 0, 0)]) ((ec : Int) :: os ++ [0]) dp MI' ML → (∀ j, j ≠ b → ¬ (b + 32 ≤ j ∧ j ≤ b + 40) → MI' j = MI j) → (∀ k, k ≠ 16 → MI' b k = MI b k) → MI' (b + 39) ns.length = MI b 14 → Q (some (vI (ns.length : Nat))) (MI', ML, GR d e nw th 1))
    (hF : 8 ≤ cntA ns (ec : Int) ∨ 600 ≤ ns.length → Q (some (vI (-1))) (MI, ML, GR d e nw th 1)) :
    wp cs mX10_addAttribute KD Q 0 (padL [vR 10, vR b, vI i] 3) [] (KD, MI, ML, GR d e nw th 1) := by
  have hN := hD.2.2.2.2.1
  obtain ⟨t1, t2, t3, t4, t5⟩ := hI
  obtain ⟨y0, hy0⟩ : ∃ y, ns[ec]? = some y := ⟨_, List.getElem?_eq_getElem t3⟩
  have hc := (hN.2.2.2 ec y0 hy0).2.2.2.1
  have h600 := hN.2.1
  refine v_X10_addAttribute_0 hbd ?_
  rw [hcur]
  simp only [Int.toNat_natCast]
  rw [hc]
  refine ⟨by omega, fun hlt => ?_, fun hge => hF (Or.inl (by omega))⟩
  by_cases h6 : 600 ≤ ns.length
  · exact v_X3_add_0 hbd ⟨fun z => by have := hN.1; omega, fun _ => rI_mk (hF (Or.inr h6))⟩
  · refine c_X3_add hbd (by omega) hD (Or.inr hi) (Or.inr (by omega)) (fun k y hy h2 hop hes => t1.2.2 k y hy h2 hop hes _ (by simp)) t2.1 (fun MI' d1 f1 f2 f4 => rI_mk (hT (by omega) MI' d1 f1 f2 (f4 rfl)))
theorem c_readAttribute (hbd : b = 38 ∨ b = 81) (hby : ∀ k, -128 ≤ T k ∧ T k < 128) {ec : Nat} {os : List Int} (hc : CurC b T n OI OL h MI ML) (hD : DocC b T n N pl D ns ((ec : Int) :: os ++ [0]) dp MI ML) (hI : TgI ns ec os) (hcur : MI 10 1 = (ec : Int)) (hk : NmK N (h - 1))
    (hT : ∀ pl' ns' y, atS T n (ec : Int) pl ns h = .inr (pl', ns', y) → ∀ N' MI', CurC b T n OI OL y MI' ML → DocC b T n N' pl' D ns' ((ec : Int) :: os ++ [0]) dp MI' ML → TgI ns' ec os → MI' 10 = MI 10 → extN N N' → NmK N' y → Q (some (vI 1)) (MI', ML, GR d e nw th 1))
    (hF : ∀ f z, atS T n (ec : Int) pl ns h = .inl (f, z) → ∀ MI', FaiC b OI OL f z MI' ML → Q (some (vI 0)) (MI', ML, GR d e nw th 1)) :
    wp cs mX10_readAttribute KD Q 0 (padL [vR 10, vR b] 5) [] (KD, MI, ML, GR d e nw th 1) := by
  have h0 := hc.2.2.2.2.1
  have hn6 := hc.2.2.1
  unfold atS at hT hF
  refine v_X10_readAttribute_0 hbd (lx_needName hc (fun g hg MI1 c1 m1 l1 => rI_mk ⟨fun z => by omega, fun _ => ?_⟩) (fun f z hg MI1 f1 => rI_mk ⟨fun _ => hF f z (by rw [hg]; rfl) _ f1, fun z => absurd rfl z⟩))
  have hg1 := nmS_ok hg
  rw [hg, pb_r] at hT hF
  rw [l1.1]
  refine c_keepD hbd hby c1 l1 h0.1 hg (DocC_mv hbd hD m1) hk (fun N2 i MI2 d2 x2 i2 k2 c2 fr2 => rI_mk ?_)
  have cur2 : MI2 10 = MI 10 := by rw [fr2 10 (by omega), m1 10 (by decide)]
  have e101 : MI2 10 1 = (ec : Int) := by rw [cur2]; exact hcur
  rw [e101]
  have hN2 := d2.2.2.2.2.1
  obtain ⟨t1, t2, t3, t4, t5⟩ := hI
  obtain ⟨y0, hy0⟩ : ∃ y, ns[ec]? = some y := ⟨_, List.getElem?_eq_getElem t3⟩
  have hcnt := (hN2.2.2.2 ec y0 hy0).2.2.2.1
  have h600 := hN2.2.1
  have hat := atC_has (i := i) d2.1.2.2.2.2.2 hN2 t2 t3 i2 (NamC_id d2.1 i2)
  refine w_X3_attributeOf hbd (by omega) (by simp only [Int.toNat_natCast]; rw [hcnt]; omega) (rI_mk ⟨fun hm => ?_, fun hm => ?_⟩)
  · have hno := hat.mp hm
    rw [if_neg (by rw [hno]; decide)] at hT hF
    refine c_addAttribute hbd d2 ⟨t1, t2, t3, t4, t5⟩ i2 e101 (fun hok MI3 d3 f3 f3b f3c => rI_mk ⟨fun z => by omega, fun _ => ?_⟩) (fun hbad => rI_mk ⟨fun _ => ?_, fun z => absurd rfl z⟩)
    · rw [if_neg hok] at hT hF
      have c3 : CurC b T n OI OL g MI3 ML := CurC_fr c2 hbd (fun j z1 z2 => f3 j (by omega) (by omega)) (fun _ _ => rfl)
      have hsg := sk_le T n g
      refine lx_skipSpace c3 (fun MI4 c4 m4 => rV_mk (lx_take1 (k := 28) (c := 61) (by decide) rfl c4 (fun y hy MI5 c5 m5 => rI_mk ⟨fun z => by omega, fun _ => ?_⟩) (fun f z hy MI5 f5 => rI_mk ⟨fun _ => hF f z (by rw [hy]; rfl) _ f5, fun z => absurd rfl z⟩)))
      have hy1 := mbS_eq hy
      rw [hy, pb_r] at hT hF
      have hsy := sk_le T n y
      refine lx_skipSpace c5 (fun MI6 c6 m6 => rV_mk ?_)
      have m36 : mvd MI3 MI6 := mvd_tr m4 (mvd_tr m5 m6)
      have d6 := DocC_mv hbd d3 m36
      have hp := d6.2.2.2.2.2.2.1
      have h15 := d6.2.2.2.2.1.2.2.1
      refine lx_takeValue hbd (r := 2000 - pl) (by omega) (by omega) c6 (fun v w hw MI7 c7 v7 => rI_mk ⟨fun z => by omega, fun _ => ⟨by omega, ?_⟩⟩) (fun f z hw MI7 f7 => rI_mk ⟨fun _ => hF f z (by rw [hw]; rfl) _ f7, fun z => absurd rfl z⟩)
      have hw1 := vlS_le (by omega) hw
      simp only [Int.toNat_natCast]
      intro m8 e8
      have d7 := DocC_val hbd d6 v7 (by omega)
      have f8 : ∀ j, j ≠ b + 40 → m8 j = MI7 j := fun j hj => by rw [e8]; funext k; exact up2_ne hj k
      have h39 : MI7 (b + 39) ns.length = MI6 b 14 := by
        rw [v7.1 (b + 39) (by omega) (by omega) (by omega)]
        rw [m36 (b + 39) (by omega), m36 b (by omega), f3b 14 (by decide)]
        exact f3c
      refine hT (pl + v.length) (ns ++ [(2, (ec : Int), nb T h g, v, 0, 0)]) w (by rw [hw]; rfl) N2 m8 (CurC_fr c7 hbd (fun j z1 z2 => f8 j (by omega)) (fun _ _ => rfl)) (DocC_attr (s0 := []) (f0 := 0) hbd d7 (fun j z1 z2 z3 => f8 j z3) (fun c hc k hk => ?_) ?_ ?_) (TgI_add ⟨t1, t2, t3, t4, t5⟩ hno) ?_ x2 (NmK_mono k2 (by omega))
      · rcases hc with rfl | rfl | rfl
        · rw [f8 _ (by omega)]
        · rw [f8 _ (by omega)]
        · rw [e8]; exact up2_nk hk _
      · have e40 : m8 (b + 40) ns.length = MI7 b 14 := by rw [e8, up2_eq]
        rw [f8 (b + 39) (by omega), e40, h39]
        have : MI7 b 14 - MI6 b 14 = (v.length : Nat) := by have := v7.2.2.1; omega
        rw [this]; exact v7.2.2.2.1
      · rw [f8 _ (by omega)]
        have := (d7.2.2.2.2.1.2.2.2 _ _ (last_get ns _)).2.2.2.2.2.1
        simpa using this
      · rw [f8 10 (by omega), v7.1 10 (by omega) (by omega) (by omega), m36 10 (by decide), f3 10 (by omega) (by omega), cur2]
    · rw [if_pos hbad] at hF
      exact lx_refuse c2.2.2.2.2.2 (fun MI' hf => rI_mk ⟨Or.inl rfl, hF _ _ rfl _ hf⟩)
  · have hyes : hasA ns (ec : Int) (nb T h g) = true := by
      cases hq : hasA ns (ec : Int) (nb T h g) with
      | true => rfl
      | false => exact absurd (hat.mpr hq) hm
    rw [if_pos hyes] at hF
    exact lx_refuse c2.2.2.2.2.2 (fun MI' hf => rI_mk ⟨Or.inl rfl, hF _ _ rfl _ hf⟩)
end P76
