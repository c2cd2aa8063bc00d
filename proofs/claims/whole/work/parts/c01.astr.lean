/-! What the public calls ask of a DOCUMENT: STRINGS. -/
theorem eS_text {ns : List Nd} {k : Nat} {y : Nd} (hW : WfN ns) (hy : ns[k]? = some y) (h0 : y.1 ≠ 0) (h1 : y.1 ≠ 1) : eS ns k = k + 1 := by
  have hkl := (List.getElem?_eq_some_iff.mp hy).1
  have hle := eS_le hkl
  refine Decidable.byContradiction fun w => ?_
  obtain ⟨z, hz⟩ : ∃ z, ns[k + 1]? = some z := ⟨_, List.getElem?_eq_getElem (by omega)⟩
  have hin := eS_in (k := k) (by omega) (by omega) hz
  obtain ⟨w1, w2, ⟨p, w3, w3'⟩, w4⟩ := hW.2 _ z hz (by omega)
  rw [show z.2.1.toNat = k by omega, hy] at w3
  cases w3
  omega
/-- t is k, or within it -/
theorem in_up {ns : List Nd} {k t : Nat} {z : Nd} (hW : WfN ns) (hk : k < ns.length) (hz : ns[t]? = some z) (h0 : 0 < t) : (k ≤ t ∧ t < eS ns k) ↔ (t = k ∨ (k ≤ z.2.1.toNat ∧ z.2.1.toNat < eS ns k)) := by
  have htl := (List.getElem?_eq_some_iff.mp hz).1
  have hle := eS_le hk
  obtain ⟨w1, w2, w3, w4⟩ := hW.2 t z hz h0
  constructor
  · rintro ⟨a, c⟩
    by_cases hh : t = k
    · exact Or.inl hh
    · have := eS_in (k := k) (by omega) c hz
      exact Or.inr (by omega)
  · rintro (a | ⟨a, c⟩)
    · subst a; omega
    · refine ⟨by omega, Decidable.byContradiction fun w => ?_⟩
      obtain ⟨v, hv⟩ : ∃ v, ns[eS ns k]? = some v := ⟨_, List.getElem?_eq_getElem (by omega)⟩
      have ho := eS_out hv
      by_cases hh : t = eS ns k
      · rw [← hh, hz] at hv; cases hv; omega
      · have := w4 (eS ns k) v hv (by omega) (by omega)
        omega
def tB (y : Nd) : By := if y.1 = 3 then y.2.2.2.1 else []
/-- the bytes of the TEXTS from k on, ahead of m -/
def cT (ns : List Nd) (k m : Nat) : By := ((ns.take m).drop k).flatMap tB
theorem cT_s {ns : List Nd} {k m : Nat} {y : Nd} (hkm : k ≤ m) (hy : ns[m]? = some y) : cT ns k (m + 1) = cT ns k m ++ tB y := by
  have hml := (List.getElem?_eq_some_iff.mp hy).1
  unfold cT
  rw [List.take_succ, hy]
  show (List.drop k (ns.take m ++ [y])).flatMap tB = _
  rw [List.drop_append_of_le_length (by rw [List.length_take]; omega), List.flatMap_append]
  simp
theorem cT_nil (ns : List Nd) (k : Nat) : cT ns k k = [] := by
  unfold cT
  rw [List.drop_eq_nil_of_le (by rw [List.length_take]; omega)]; rfl
theorem tl_s {ns : List Nd} {m : Nat} {y : Nd} (hy : ns[m]? = some y) : tl ns (m + 1) = tl ns m + (tB y).length := by
  unfold tl tle
  rw [List.take_succ, hy]
  show ((ns.take m ++ [y]).map _).sum = _
  rw [List.map_append, List.sum_append]
  unfold tB
  simp only [List.map_cons, List.map_nil, List.sum_cons, List.sum_nil, Nat.add_zero]
  split <;> rfl
def stS (ns : List Nd) (k : Nat) (y : Nd) : By := if y.1 = 2 ∨ y.1 = 3 then y.2.2.2.1 else cT ns k (eS ns k)
theorem slc_app {T : Nat → Int} {n f l l' : Int} {y z : By} (h : slc T n f l y) (h' : slc T n (f + l) l' z) : slc T n f (l + l') (y ++ z) := by
  obtain ⟨h1, h2, h3, h4⟩ := h
  obtain ⟨g1, g2, g3, g4⟩ := h'
  refine ⟨h1, by simp; omega, by omega, fun i c hc => ?_⟩
  by_cases hi : i < y.length
  · rw [List.getElem?_append_left hi] at hc
    exact h4 i c hc
  · rw [List.getElem?_append_right (by omega)] at hc
    rw [← g4 (i - y.length) c hc]
    congr 1; omega
section Pc01
variable {cs : Cs} {Q : Option AV → Mm → Prop} {MI ML : Nat → Nat → Int} {b d e nw th x pl : Nat} {T : Nat → Int} {n : Int} {N : List By} {D : Dt} {ns : List Nd} {dp : Int}
theorem texts_at (hN : NodC b N ns [] MI) {k : Nat} : ∀ (c m : Nat), k + c = m → m ≤ ns.length → slc (MI (b + 42)) (tle ns : Nat) (tl ns k : Nat) ((tl ns m : Nat) - (tl ns k : Nat) : Int) (cT ns k m) := by
  intro c
  induction c with
  | zero =>
    intro m hm hml
    have : m = k := by omega
    subst this
    rw [cT_nil, Int.sub_self]
    refine ⟨by omega, rfl, ?_, fun i y hy => by simp at hy⟩
    have : tl ns m ≤ tle ns := by
      unfold tl
      conv => rhs; rw [← List.take_append_drop m ns]
      unfold tle
      rw [List.map_append, List.sum_append]; omega
    omega
  | succ c ih =>
    intro m hm hml
    obtain ⟨m', rfl⟩ : ∃ m', m = m' + 1 := ⟨m - 1, by omega⟩
    have hi := ih m' (by omega) (by omega)
    obtain ⟨y, hy⟩ : ∃ y, ns[m']? = some y := ⟨_, List.getElem?_eq_getElem (by omega)⟩
    rw [cT_s (by omega) hy, tl_s hy]
    have hA := hN.2.2.2 m' y hy
    have hz : slc (MI (b + 42)) (tle ns : Nat) ((tl ns k : Nat) + ((tl ns m' : Nat) - (tl ns k : Nat) : Int)) ((tB y).length : Nat) (tB y) := by
      rw [show ((tl ns k : Nat) : Int) + (((tl ns m' : Nat) : Int) - ((tl ns k : Nat) : Int)) = (tl ns m' : Nat) by omega]
      unfold tB
      by_cases h3 : y.1 = 3
      · rw [if_pos h3]; exact hA.2.2.2.2.2.2.2.2.1 h3
      · rw [if_neg h3]
        have h1 := hi.1
        have h2 := hi.2.1
        have h4 := hi.2.2.1
        exact ⟨by omega, rfl, by simp; omega, fun i c hc => by simp at hc⟩
    have := slc_app hi hz
    rw [show ((tl ns m' : Nat) : Int) - ((tl ns k : Nat) : Int) + ((tB y).length : Nat) = ((tl ns m' + (tB y).length : Nat) : Int) - ((tl ns k : Nat) : Int) by omega] at this
    exact this
/-- a NODE's STRING, where the class has it -/
theorem str_at (hbd : b = 38 ∨ b = 81) (hD : DocC b T n N pl D ns [] dp MI ML) (hW : WfN ns) {k : Nat} {y : Nd} (hy : ns[k]? = some y) : slc (MI (if y.1 = 2 then b + 41 else b + 42)) (if y.1 = 2 then MI b 14 else (tle ns : Nat)) (MI (b + 39) k) (MI (b + 40) k - MI (b + 39) k) (stS ns k y) ∧ MI b 14 ≤ 2000 ∧ tle ns ≤ 2000 := by
  have hN := hD.2.2.2.2.1
  have hkl := (List.getElem?_eq_some_iff.mp hy).1
  have hA := hN.2.2.2 k y hy
  have hp := hD.2.2.2.2.2.2.1
  have h15 := hN.2.2.1
  refine ⟨?_, by omega, by omega⟩
  by_cases h2 : y.1 = 2
  · rw [if_pos h2, if_pos h2]
    unfold stS
    rw [if_pos (Or.inl h2)]
    exact (hA.2.2.2.2.2.2.1 h2).1
  · rw [if_neg h2, if_neg h2]
    have h9 := hA.2.2.2.2.2.2.2.1 h2
    have h10 := (hA.2.2.2.2.2.2.2.2.2 h2 (by simp)).2
    rw [h9, h10]
    unfold stS
    have hle := eS_le hkl
    by_cases h3 : y.1 = 3
    · rw [if_pos (Or.inr h3), eS_text hW hy (by omega) (by omega), tl_s hy]
      have h11 := hA.2.2.2.2.2.2.2.2.1 h3
      rw [show ((tl ns k + (tB y).length : Nat) : Int) - ((tl ns k : Nat) : Int) = ((tB y).length : Nat) by omega]
      unfold tB
      rw [if_pos h3]
      exact h11
    · rw [if_neg (by omega)]
      exact texts_at hN (eS ns k - k) (eS ns k) (by omega) hle.2
/-- what node answers -/
def ndS (ns : List Nd) (k w : Int) : Int := if 0 ≤ k ∧ k < (ns.length : Nat) then (if w = 0 then (ns.getD k.toNat (0, 0, [], [], 0, 0)).1 else if w = 1 then (ns.getD k.toNat (0, 0, [], [], 0, 0)).2.1 else if w = 2 then ((ns.getD k.toNat (0, 0, [], [], 0, 0)).2.2.1.length : Nat) else if w = 3 then ((stS ns k.toNat (ns.getD k.toNat (0, 0, [], [], 0, 0))).length : Nat)
  else if w = 4 then (cntA ns k : Nat) else if w = 5 then (cntI ns k : Nat) else if w = 6 then (ns.getD k.toNat (0, 0, [], [], 0, 0)).2.2.2.2.1 else -9) else -9
def byS (l : By) (i : Int) : Int := if 0 ≤ i ∧ i < (l.length : Nat) then l.getD i.toNat 0 else -1
def nmBS (ns : List Nd) (k i : Int) : Int := if 0 ≤ k ∧ k < (ns.length : Nat) then byS (ns.getD k.toNat (0, 0, [], [], 0, 0)).2.2.1 i else -1
def stBS (ns : List Nd) (k i : Int) : Int := if 0 ≤ k ∧ k < (ns.length : Nat) then byS (stS ns k.toNat (ns.getD k.toNat (0, 0, [], [], 0, 0))) i else -1
theorem flag_def {y : Nd} {k : Nat} (hW : WfN ns) (hy : ns[k]? = some y) : i_and (y.2.2.2.2.1 + 2 * y.2.2.2.2.2) 1 = y.2.2.2.2.1 := by
  by_cases h0 : k = 0
  · subst h0; rw [hW.1] at hy; cases hy; decide
  · rcases (hW.2 k y hy (by omega)).1.1 with w | w | w
    · rw [w.2.2.2.1, w.2.2.2.2]; decide
    · rw [w.2.2.2]
      rcases w.2.2.1 with v | v <;> rw [v] <;> decide
    · rw [w.2.2.2.1]
      rcases w.2.2.2.2 with v | v <;> rw [v] <;> decide
theorem c_node {k w : Int} (hbd : b = 38 ∨ b = 81) (hD : DocC b T n N pl D ns [] dp MI ML) (hW : ns ≠ [] → WfN ns) (hQ : Q (some (vI (ndS ns k w))) (MI, ML, GR b e nw th x)) :
    wp cs mX11_node KD Q 0 (padL [vR 0, vI k, vI w] 3) [] (KD, MI, ML, GR b e nw th x) := by
  have hN := hD.2.2.2.2.1
  have h600 := hN.2.1
  unfold ndS at hQ
  refine v_X11_node_0 hbd (w_X3_has hbd (fun h => rI_mk ⟨fun z => by omega, fun _ => ?_⟩) (fun h => rI_mk ⟨fun _ => ?_, fun z => absurd rfl z⟩))
  · rw [hN.1] at h
    rw [if_pos h] at hQ
    obtain ⟨kN, rfl⟩ : ∃ j : Nat, k = (j : Int) := ⟨k.toNat, by omega⟩
    obtain ⟨y, hy⟩ : ∃ y, ns[kN]? = some y := ⟨_, List.getElem?_eq_getElem (by omega)⟩
    have hW := hW (fun z => by rw [z] at hy; simp at hy)
    have hgd : ns.getD kN (0, 0, [], [], 0, 0) = y := by rw [List.getD_eq_getElem?_getD, hy]; rfl
    rw [Int.toNat_natCast, hgd] at hQ
    have hA := hN.2.2.2 kN y hy
    obtain ⟨hst, g1, g2⟩ := str_at hbd hD hW hy
    have s1 := hst.1
    have s2 := hst.2.1
    have s3 := hst.2.2.1
    have hP : (if y.1 = 2 then MI b 14 else ((tle ns : Nat) : Int)) ≤ 2000 := by split <;> omega
    have hNam := hD.1
    refine w_X3_about hbd (by rw [hNam.1]; have := hNam.2.1; omega) (by omega) (by simp only [Int.toNat_natCast]; omega) (rI_mk ?_)
    have heq : abC MI b (kN : Int) w = (if w = 0 then y.1 else if w = 1 then y.2.1 else if w = 2 then ((y.2.2.1.length : Nat) : Int) else if w = 3 then ((stS ns kN y).length : Nat) else if w = 4 then (cntA ns (kN : Int) : Nat) else if w = 5 then (cntI ns (kN : Int) : Nat) else if w = 6 then y.2.2.2.2.1 else -9) := by
      unfold abC
      simp only [Int.toNat_natCast]
      rw [hA.1, hA.2.1, s2, hA.2.2.2.1, hA.2.2.2.2.1, hA.2.2.2.2.2.1, flag_def hW hy]
      have hln : nLen MI b (MI (b + 34) kN) = (y.2.2.1.length : Nat) := by
        unfold nLen
        rcases hA.2.2.1 with ⟨z1, z2⟩ | z
        · rw [z1, z2, if_neg (by omega)]; rfl
        · have hidl := (List.getElem?_eq_some_iff.mp z.2).1
          have hz0 := z.1
          rw [if_pos (by rw [hNam.1]; omega)]
          exact (hNam.2.2.2.1 _ _ z.2).1.2.1
      rw [hln]
    rw [heq]; exact hQ
  · rw [hN.1] at h
    rw [if_neg h] at hQ; exact hQ
theorem c_name {k i : Int} (hbd : b = 38 ∨ b = 81) (hn : n ≤ 6000) (hD : DocC b T n N pl D ns [] dp MI ML) (hQ : Q (some (vI (nmBS ns k i))) (MI, ML, GR b e nw th x)) :
    wp cs mX11_name KD Q 0 (padL [vR 0, vI k, vI i] 3) [] (KD, MI, ML, GR b e nw th x) := by
  have hN := hD.2.2.2.2.1
  have h600 := hN.2.1
  have hNam := hD.1
  unfold nmBS at hQ
  refine v_X11_name_0 hbd (w_X3_has hbd (fun h => rI_mk ⟨fun z => by omega, fun _ => ?_⟩) (fun h => rI_mk ⟨fun _ => ?_, fun z => absurd rfl z⟩))
  · rw [hN.1] at h
    rw [if_pos h] at hQ
    obtain ⟨kN, rfl⟩ : ∃ j : Nat, k = (j : Int) := ⟨k.toNat, by omega⟩
    obtain ⟨y, hy⟩ : ∃ y, ns[kN]? = some y := ⟨_, List.getElem?_eq_getElem (by omega)⟩
    have hgd : ns.getD kN (0, 0, [], [], 0, 0) = y := by rw [List.getD_eq_getElem?_getD, hy]; rfl
    rw [Int.toNat_natCast, hgd] at hQ
    have hA := hN.2.2.2 kN y hy
    simp only [Int.toNat_natCast]
    unfold byS at hQ
    have hln : nLen MI b (MI (b + 34) kN) = (y.2.2.1.length : Nat) := by
      unfold nLen
      rcases hA.2.2.1 with ⟨z1, z2⟩ | z
      · rw [z1, z2, if_neg (by omega)]; rfl
      · have hidl := (List.getElem?_eq_some_iff.mp z.2).1
        have hz0 := z.1
        rw [if_pos (by rw [hNam.1]; omega)]
        exact (hNam.2.2.2.1 _ _ z.2).1.2.1
    have fact : 0 ≤ i ∧ i < nLen MI b (MI (b + 34) kN) → (0 ≤ MI (b + 34) kN ∧ MI (b + 34) kN < MI (b + 1) 7) ∧ 0 ≤ MI (b + 5) (MI (b + 34) kN).toNat ∧ MI (b + 5) (MI (b + 34) kN).toNat + i < 6000 ∧ MI (b + 2) (MI (b + 5) (MI (b + 34) kN).toNat + i).toNat = y.2.2.1.getD i.toNat 0 := by
      intro hi
      rw [hln] at hi
      rcases hA.2.2.1 with ⟨z1, z2⟩ | z
      · rw [z1] at hi; simp at hi; omega
      · have hidl := (List.getElem?_eq_some_iff.mp z.2).1
        have hz0 := z.1
        have hsl := (hNam.2.2.2.1 _ _ z.2).1
        have q1 := hsl.1
        have q2 := hsl.2.1
        have q3 := hsl.2.2.1
        refine ⟨by rw [hNam.1]; omega, q1, by omega, ?_⟩
        rw [← slc_at hsl (i := i.toNat) (by omega), ← hNam.2.2.1 _ (by omega)]
        congr 1; omega
    refine ⟨by omega, w_X5_byteOf hbd (by rw [hNam.1]; have := hNam.2.1; omega) (fun hi => ⟨(fact hi).1, (fact hi).2.1, (fact hi).2.2.1⟩) (fun hi => rI_mk ?_) (fun hi => rI_mk ?_)⟩
    · rw [(fact hi).2.2.2]
      rw [hln] at hi
      rw [if_pos hi] at hQ; exact hQ
    · rw [hln] at hi
      rw [if_neg hi] at hQ; exact hQ
  · rw [hN.1] at h
    rw [if_neg h] at hQ; exact hQ
theorem c_string {k i : Int} (hbd : b = 38 ∨ b = 81) (hD : DocC b T n N pl D ns [] dp MI ML) (hW : ns ≠ [] → WfN ns) (hQ : Q (some (vI (stBS ns k i))) (MI, ML, GR b e nw th x)) :
    wp cs mX11_string KD Q 0 (padL [vR 0, vI k, vI i] 3) [] (KD, MI, ML, GR b e nw th x) := by
  have hN := hD.2.2.2.2.1
  have h600 := hN.2.1
  unfold stBS at hQ
  refine v_X11_string_0 hbd (w_X3_has hbd (fun h => rI_mk ⟨fun z => by omega, fun _ => ?_⟩) (fun h => rI_mk ⟨fun _ => ?_, fun z => absurd rfl z⟩))
  · rw [hN.1] at h
    rw [if_pos h] at hQ
    obtain ⟨kN, rfl⟩ : ∃ j : Nat, k = (j : Int) := ⟨k.toNat, by omega⟩
    obtain ⟨y, hy⟩ : ∃ y, ns[kN]? = some y := ⟨_, List.getElem?_eq_getElem (by omega)⟩
    have hW := hW (fun z => by rw [z] at hy; simp at hy)
    have hgd : ns.getD kN (0, 0, [], [], 0, 0) = y := by rw [List.getD_eq_getElem?_getD, hy]; rfl
    rw [Int.toNat_natCast, hgd] at hQ
    have hA := hN.2.2.2 kN y hy
    obtain ⟨hst, g1, g2⟩ := str_at hbd hD hW hy
    have s1 := hst.1
    have s2 := hst.2.1
    have s3 := hst.2.2.1
    have hP : (if y.1 = 2 then MI b 14 else ((tle ns : Nat) : Int)) ≤ 2000 := by split <;> omega
    unfold byS at hQ
    have val : 0 ≤ i ∧ i < MI (b + 40) kN - MI (b + 39) kN → MI (if y.1 = 2 then b + 41 else b + 42) (MI (b + 39) kN + i).toNat = (stS ns kN y).getD i.toNat 0 := fun hi => by
      rw [← slc_at hst (i := i.toNat) (by omega)]
      congr 1; omega
    refine w_X3_stringByte hbd (by omega) (by simp only [Int.toNat_natCast]; omega) (fun hi h2 => rI_mk ?_) (fun hi h2 => rI_mk ?_) (fun hi => rI_mk ?_)
    · simp only [Int.toNat_natCast] at hi h2 ⊢
      rw [hA.1] at h2
      have hv := val hi
      rw [if_pos h2] at hv
      rw [hv]
      rw [if_pos (by omega)] at hQ; exact hQ
    · simp only [Int.toNat_natCast] at hi h2 ⊢
      rw [hA.1] at h2
      have hv := val hi
      rw [if_neg h2] at hv
      rw [hv]
      rw [if_pos (by omega)] at hQ; exact hQ
    · simp only [Int.toNat_natCast] at hi
      rw [if_neg (by omega)] at hQ; exact hQ
  · rw [hN.1] at h
    rw [if_neg h] at hQ; exact hQ
end Pc01
