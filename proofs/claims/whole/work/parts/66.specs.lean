section P66
variable {cs : Cs} {Q : Option AV → Mm → Prop} {MI ML MI' ML' OI OL : Nat → Nat → Int} {b d e nw th x : Nat} {T : Nat → Int} {n : Int} {N : List By}
theorem SpcA_pt {j : Nat} {q : Dc} (h : SpcA b N MI ML j q) (e10 : MI' (b + 10) j = MI (b + 10) j) (e11 : MI' (b + 11) j = MI (b + 11) j) (e12 : MI' (b + 12) j = MI (b + 12) j) (e13 : MI' (b + 13) j = MI (b + 13) j) (e19 : MI' (b + 19) j = MI (b + 19) j)
    (e14 : ∀ p, p < 40 → MI' (b + 14) (40 * j + p) = MI (b + 14) (40 * j + p)) (f15 : ∀ p, p < 40 → ML' (b + 15) (40 * j + p) = ML (b + 15) (40 * j + p)) (f16 : ∀ p, p < 40 → ML' (b + 16) (40 * j + p) = ML (b + 16) (40 * j + p))
    (f17 : ML' (b + 17) j = ML (b + 17) j) (f18 : ML' (b + 18) j = ML (b + 18) j) : SpcA b N MI' ML' j q := by
  obtain ⟨a1, a2, a3, a4, a5, a6, a7, a8, a9, a10, a11⟩ := h
  refine ⟨by rw [e10]; exact a1, by rw [e11]; exact a2, by rw [e12]; exact a3, by rw [e13]; exact a4, a5, a6, fun p y hy => ?_, fun p y hy => ?_, by rw [f17]; exact a9, by rw [f18]; exact a10, by rw [e19]; exact a11⟩
  · have hp := (List.getElem?_eq_some_iff.mp hy).1
    rw [e14 p (by omega), f16 p (by omega)]; exact a7 p y hy
  · have hp := (List.getElem?_eq_some_iff.mp hy).1
    rw [f15 p (by omega)]; exact a8 p y hy
theorem last_of {α : Type} {l : List α} {a z : α} {j : Nat} (h : (l ++ [a])[j]? = some z) : (j < l.length ∧ l[j]? = some z) ∨ (j = l.length ∧ z = a) := by
  by_cases hj : j < l.length
  · rw [List.getElem?_append_left hj] at h; exact Or.inl ⟨hj, h⟩
  · have h2 := (List.getElem?_eq_some_iff.mp h).1
    simp only [List.length_append, List.length_singleton] at h2
    have : j = l.length := by omega
    subst this
    rw [List.getElem?_append_right (Nat.le_refl _)] at h
    simp at h
    exact Or.inr ⟨rfl, h.symm⟩
theorem last_get {α : Type} (l : List α) (a : α) : (l ++ [a])[l.length]? = some a := by simp
theorem last_mono {α : Type} {l : List α} {a z : α} {j : Nat} (h : l[j]? = some z) : (l ++ [a])[j]? = some z := by
  rw [List.getElem?_append_left (List.getElem?_eq_some_iff.mp h).1]; exact h
/-- a new SPEC -/
theorem c_X9_add (hbd : b = 38 ∨ b = 81) {ds : List Dc} {i r : Int} {y : By} {ra : Nat} (hS : SpcC b N ds MI ML) (hlt : ds.length < 30) (hid : isId N i y) (hr : r = (ra : Nat))
    (hQ : ∀ MI' ML', SpcC b N (ds ++ [(y, 0, ra, [], [], 0, 0, 0)]) MI' ML' → (∀ j, ¬ (b + 9 ≤ j ∧ j ≤ b + 19) → MI' j = MI j ∧ ML' j = ML j) → Q (some (vI (ds.length : Nat))) (MI', ML', GR d e nw th x)) :
    wp cs mX9_add KD Q 0 (padL [vR (b + 9), vI i, vI r] 4) [] (KD, MI, ML, GR d e nw th x) := by
  have hz := hS.1
  refine v_X9_add_0 hbd ⟨fun _ => ⟨by omega, ?_⟩, fun q => by omega⟩
  rw [hz]
  simp only [Int.toNat_natCast]
  intro m22 e22 m29 e29 m36 e36 m43 e43 n50 f50 n57 f57 m64 e64
  have h9 : m64 (b + 9) 10 = (ds.length : Nat) := by simp [e64, e43, e36, e29, e22, up2, hz]
  rw [h9]
  refine ⟨by omega, ?_⟩
  intro m72 e72
  refine hQ _ _ ⟨?_, ?_, ?_⟩ ?_
  · simp [e72, up2]
  · simp only [List.length_append, List.length_singleton]; omega
  · intro j q hq
    rcases last_of hq with ⟨hj, hq⟩ | ⟨rfl, rfl⟩
    · refine SpcA_pt (hS.2.2 j q hq) ?_ ?_ ?_ ?_ ?_ ?_ ?_ ?_ ?_ ?_ <;> (try intro p hp) <;> simp [e72, e64, e43, e36, e29, e22, f57, f50, up2, show j ≠ ds.length by omega]
    · refine ⟨?_, ?_, ?_, ?_, by simp, rfl, fun p y hy => by simp at hy, fun p y hy => by simp at hy, ?_, ?_, ?_⟩ <;> simp [e72, e64, e43, e36, e29, e22, f57, f50, up2, hr]
      exact hid
  · intro j hj
    refine ⟨?_, ?_⟩ <;> funext k
    · simp only [e72, e64, e43, e36, e29, e22, up2]; repeat rw [if_neg (by omega)]
    · simp only [f57, f50, up2]; repeat rw [if_neg (by omega)]
/-- the places of a NAME in the last SPEC -/
theorem c_named_l (hbd : b = 38 ∨ b = 81) {j : Nat} {q : Dc} {set i : Int} {y : By} (hj : j < 30) (hN : N.Nodup) (hA : SpcA b N MI ML j q) (hid : isId N i y ∨ i < 0 ∧ ∀ z ∈ q.2.2.2.1, z ≠ y)
    (hQ : Q (some (vL (l_and (nmd q.2.2.2.1 y) set))) (MI, ML, GR d e nw th x)) : ∀ (r p : List By) (a : Int), q.2.2.2.1 = p ++ r → nmdF y r p.length a = nmd q.2.2.2.1 y →
    wp cs mX9_named KD Q 6 [some (vR (b + 9)), some (vI (j : Nat)), some (vL set), none, some (vI i), some (vL a), none, some (vI (p.length : Nat))] [] (KD, MI, ML, GR d e nw th x) := by
  obtain ⟨a1, a2, a3, a4, a5, a6, a7, a8⟩ := hA
  intro r
  induction r with
  | nil =>
    intro p a hp ha
    have hl : q.2.2.2.1.length = p.length := by rw [hp]; simp
    refine v_X9_named_6 hbd ⟨by omega, fun h => by simp only [Int.toNat_natCast] at h; omega, fun _ => ?_⟩
    simp only [nmdF] at ha
    rw [ha]; exact hQ
  | cons c t ih =>
    intro p a hp ha
    have hl : q.2.2.2.1.length = p.length + (t.length + 1) := by rw [hp]; simp
    have hc : q.2.2.2.1[p.length]? = some c := by rw [hp]; simp
    have h7 := (a7 p.length c hc).1
    have e40 : (((j : Nat) : Int) * 40 + (p.length : Nat)).toNat = 40 * j + p.length := by omega
    have hp1 : ((p ++ [c]).length : Nat) = p.length + 1 := by simp
    have hih := fun a ha => ih (p ++ [c]) a (by rw [hp]; simp) ha
    rw [hp1] at hih
    refine v_X9_named_6 hbd ⟨by omega, fun _ => ⟨by omega, by omega, by omega, ?_, ?_⟩, fun h => by simp only [Int.toNat_natCast] at h; omega⟩
    · rw [e40]
      intro he
      have hcy : c = y := by
        rcases hid with hid | ⟨hid, _⟩
        · exact (isId_eq hN h7 hid).mp he
        · have := h7.1; omega
      refine ⟨by omega, ?_⟩
      rw [show ((p.length : Nat) : Int) + 1 = ((p.length + 1 : Nat) : Int) by omega]
      refine hih _ ?_
      simp only [nmdF] at ha
      rw [if_pos hcy] at ha
      exact ha
    · rw [e40]
      intro he
      have hcy : c ≠ y := by
        rcases hid with hid | ⟨_, hid⟩
        · exact fun q => he ((isId_eq hN h7 hid).mpr q)
        · exact hid c (by rw [hp]; simp)
      refine ⟨by omega, ?_⟩
      rw [show ((p.length : Nat) : Int) + 1 = ((p.length + 1 : Nat) : Int) by omega]
      refine hih _ ?_
      simp only [nmdF] at ha
      rw [if_neg hcy] at ha
      exact ha
theorem c_named (hbd : b = 38 ∨ b = 81) {j : Nat} {q : Dc} {set i : Int} {y : By} (hj : j < 30) (hN : N.Nodup) (hA : SpcA b N MI ML j q) (hid : isId N i y ∨ i < 0 ∧ ∀ z ∈ q.2.2.2.1, z ≠ y)
    (hQ : Q (some (vL (l_and (nmd q.2.2.2.1 y) set))) (MI, ML, GR d e nw th x)) :
    wp cs mX9_named KD Q 0 (padL [vR (b + 9), vI (j : Nat), vL set, vI i] 8) [] (KD, MI, ML, GR d e nw th x) :=
  v_X9_named_0 (c_named_l hbd hj hN hA hid hQ q.2.2.2.1 [] 0 rfl rfl)
def qPl (q : Dc) (p : Pl) : Dc := (q.1, q.2.1, q.2.2.1, p.1, p.2, q.2.2.2.2.2)
/-- a new place of the last SPEC -/
theorem c_addPlace (hbd : b = 38 ∨ b = 81) {ds : List Dc} {q : Dc} {i : Int} {y : By} (hN : N.Nodup) (hS : SpcC b N (ds ++ [q]) MI ML) (hid : isId N i y)
    (hT : q.2.2.2.1.length < 40 → ∀ MI' ML', SpcC b N (ds ++ [qPl q (q.2.2.2.1 ++ [y], q.2.2.2.2.1 ++ [0])]) MI' ML' → (∀ j, ¬ (b + 9 ≤ j ∧ j ≤ b + 19) → MI' j = MI j ∧ ML' j = ML j) → Q (some (vI (q.2.2.2.1.length : Nat))) (MI', ML', GR d e nw th x))
    (hF : 40 ≤ q.2.2.2.1.length → Q (some (vI (-1))) (MI, ML, GR d e nw th x)) :
    wp cs mX9_addPlace KD Q 0 (padL [vR (b + 9), vI (ds.length : Nat), vI i] 4) [] (KD, MI, ML, GR d e nw th x) := by
  have hA := hS.2.2 _ _ (last_get ds q)
  have hlen : ds.length < 30 := by have := hS.2.1; simp only [List.length_append, List.length_singleton] at this; omega
  have h13 := hA.2.2.2.1
  have h5 := hA.2.2.2.2.1
  refine v_X9_addPlace_0 hbd ⟨by omega, ?_, ?_⟩
  · simp only [Int.toNat_natCast]
    rw [h13]
    intro hlt
    refine ⟨by omega, by omega, ?_⟩
    refine c_named hbd hlen hN hA (Or.inl hid) (rJ_mk ⟨by omega, ?_⟩)
    have e40 : (((ds.length : Nat) : Int) * 40 + (q.2.2.2.1.length : Nat)).toNat = 40 * ds.length + q.2.2.2.1.length := by omega
    rw [e40]
    intro n34 f34 m46 e46 n58 f58
    have h13' : m46 (b + 13) ds.length = (q.2.2.2.1.length : Nat) := by simp [e46, up2, h13]
    rw [h13']
    refine ⟨by omega, ?_⟩
    intro m68 e68
    refine hT (by omega) _ _ ⟨?_, ?_, ?_⟩ ?_
    · have := hS.1
      simp only [List.length_append, List.length_singleton] at this ⊢
      simp [e68, e46, up2]; exact this
    · have := hS.2.1; simp only [List.length_append, List.length_singleton] at this ⊢; exact this
    · intro j z hz
      rcases last_of hz with ⟨hj, hz⟩ | ⟨rfl, rfl⟩
      · refine SpcA_pt (hS.2.2 j z (last_mono hz)) ?_ ?_ ?_ ?_ ?_ ?_ ?_ ?_ ?_ ?_ <;> (try intro p hp) <;> simp [e68, e46, f58, f34, up2] <;> (try omega)
      · obtain ⟨a1, a2, a3, a4, a5, a6, a7, a8, a9, a10, a11⟩ := hA
        refine ⟨?_, ?_, ?_, ?_, ?_, ?_, fun p z hz => ?_, fun p z hz => ?_, ?_, ?_, ?_⟩
        · simp [e68, e46, up2, qPl]; exact a1
        · simp [e68, e46, up2, qPl]; exact a2
        · simp [e68, e46, up2, qPl]; exact a3
        · simp [e68, e46, up2, qPl]
        · simp [qPl]; omega
        · simp [qPl]; exact a6
        · simp only [qPl] at hz ⊢
          rcases last_of hz with ⟨hp, hz'⟩ | ⟨rfl, rfl⟩
          · have := a7 p z hz'
            rw [List.take_append_of_le_length (by omega)]
            simp [e68, e46, f58, f34, up2, show p ≠ q.2.2.2.1.length by omega]
            exact this
          · rw [List.take_append_of_le_length (Nat.le_refl _), List.take_length]
            simp [e68, e46, f58, f34, up2]
            exact hid
        · simp only [qPl] at hz ⊢
          rcases last_of hz with ⟨hp, hz'⟩ | ⟨rfl, rfl⟩
          · have := a8 p z hz'
            simp [f58, f34, up2, show p ≠ q.2.2.2.1.length by omega]
            exact this
          · rw [a6]
            simp [f58, f34, up2]
        · simp [f58, f34, up2, qPl]; exact a9
        · simp [f58, f34, up2, qPl]; exact a10
        · simp [e68, e46, up2, qPl]; exact a11
    · intro j hj
      refine ⟨?_, ?_⟩ <;> funext k
      · simp only [e68, e46, up2]; repeat rw [if_neg (by omega)]
      · simp only [f58, f34, up2]; repeat rw [if_neg (by omega)]
  · simp only [Int.toNat_natCast]
    rw [h13]
    intro h; exact hF (by omega)
/-- the followers of places -/
theorem c_link_l (hbd : b = 38 ∨ b = 81) {ds : List Dc} {q : Dc} {a z : Int}
    (hQ : ∀ ML', SpcC b N (ds ++ [qPl q (q.2.2.2.1, lkL q.2.2.2.2.1 a z)]) MI ML' → (∀ j, ¬ (b + 9 ≤ j ∧ j ≤ b + 19) → ML' j = ML j) → Q none (MI, ML', GR d e nw th x)) :
    ∀ (m k : Nat) (ML' : Nat → Nat → Int), k + m = q.2.2.2.2.1.length → (∀ j, ¬ (b + 9 ≤ j ∧ j ≤ b + 19) → ML' j = ML j) → SpcC b N (ds ++ [qPl q (q.2.2.2.1, lkL (q.2.2.2.2.1.take k) a z ++ q.2.2.2.2.1.drop k)]) MI ML' →
    wp cs mX9_link KD Q 3 [some (vR (b + 9)), some (vI (ds.length : Nat)), some (vL a), none, some (vL z), none, some (vI (k : Nat))] [] (KD, MI, ML', GR d e nw th x) := by
  intro m
  induction m with
  | zero =>
    intro k ML' hk hfr hS
    have hA := hS.2.2 _ _ (last_get ds _)
    have hlen : ds.length < 30 := by have := hS.2.1; simp only [List.length_append, List.length_singleton] at this; omega
    have h13 := hA.2.2.2.1
    have h6 := hA.2.2.2.2.2.1
    simp only [qPl, lkL, List.length_append, List.length_mapIdx, List.length_take, List.length_drop] at h13 h6
    refine v_X9_link_3 hbd ⟨by omega, fun h => by simp only [Int.toNat_natCast] at h; omega, fun _ => hQ _ ?_ hfr⟩
    rw [List.take_of_length_le (by omega), List.drop_eq_nil_of_le (by omega), List.append_nil] at hS
    exact hS
  | succ m ih =>
    intro k ML' hk hfr hS
    have hA := hS.2.2 _ _ (last_get ds _)
    have hlen : ds.length < 30 := by have := hS.2.1; simp only [List.length_append, List.length_singleton] at this; omega
    have h13 := hA.2.2.2.1
    have h5 := hA.2.2.2.2.1
    have h6 := hA.2.2.2.2.2.1
    have h8 := hA.2.2.2.2.2.2.2.1
    simp only [qPl] at h13 h5 h6 h8
    simp only [lkL, List.length_append, List.length_mapIdx, List.length_take, List.length_drop] at h6
    have hkl : k < q.2.2.2.2.1.length := by omega
    have e40 : (((ds.length : Nat) : Int) * 40 + (k : Nat)).toNat = 40 * ds.length + k := by omega
    have hold : ML' (b + 15) (40 * ds.length + k) = q.2.2.2.2.1[k] := by
      refine h8 k _ ?_
      rw [List.getElem?_append_right (by simp [lkL]; omega)]
      simp only [lkL, List.length_mapIdx, List.length_take]
      rw [show k - min k q.2.2.2.2.1.length = 0 by omega, List.getElem?_drop]
      simp [hkl]
    have hstep : lkL (q.2.2.2.2.1.take (k + 1)) a z ++ q.2.2.2.2.1.drop (k + 1) = lkL (q.2.2.2.2.1.take k) a z ++ ((if bt a k = true then l_or q.2.2.2.2.1[k] z else q.2.2.2.2.1[k]) :: q.2.2.2.2.1.drop (k + 1)) := by
      rw [List.take_succ_eq_append_getElem hkl]
      simp only [lkL, List.mapIdx_append, List.mapIdx_cons, List.mapIdx_nil, List.length_take]
      rw [show min k q.2.2.2.2.1.length = k by omega]
      simp
    have hold2 : q.2.2.2.2.1.drop k = q.2.2.2.2.1[k] :: q.2.2.2.2.1.drop (k + 1) := List.drop_eq_getElem_cons hkl
    refine v_X9_link_3 hbd ⟨by omega, fun _ => ⟨fun h0 => ⟨by omega, ?_⟩, fun h0 => ⟨by omega, by omega, by omega, ?_⟩⟩, fun h => by simp only [Int.toNat_natCast] at h; omega⟩
    · rw [l_ushr_bit (by omega)] at h0
      have hb : bt a k = false := by
        rw [bt_bv (by omega)]
        cases hh : bv a k with
        | false => rfl
        | true => rw [hh, if_pos rfl] at h0; omega
      rw [show ((k : Nat) : Int) + 1 = ((k + 1 : Nat) : Int) by omega]
      refine ih (k + 1) ML' (by omega) hfr ?_
      rw [hstep, hb, if_neg (by decide), ← hold2]
      exact hS
    · rw [l_ushr_bit (by omega)] at h0
      have hb : bt a k = true := by
        rw [bt_bv (by omega)]
        cases hh : bv a k with
        | true => rfl
        | false => rw [hh] at h0; exact absurd rfl h0
      rw [e40, hold]
      intro n41 f41
      refine ⟨by omega, ?_⟩
      rw [show ((k : Nat) : Int) + 1 = ((k + 1 : Nat) : Int) by omega]
      refine ih (k + 1) n41 (by omega) (fun j hj => ?_) ?_
      · rw [← hfr j hj, f41]; funext i; exact up2_ne (by omega) i
      · rw [hstep, hb, if_pos rfl]
        refine ⟨by have := hS.1; simpa using this, by have := hS.2.1; simpa using this, fun j w hw => ?_⟩
        rcases last_of hw with ⟨hj, hw⟩ | ⟨rfl, rfl⟩
        · refine SpcA_pt (hS.2.2 j w (last_mono hw)) rfl rfl rfl rfl rfl (fun _ _ => rfl) ?_ ?_ ?_ ?_ <;> (try intro p hp) <;> simp [f41, up2] <;> (try omega)
        · obtain ⟨a1, a2, a3, a4, a5, a6, a7, a8, a9, a10, a11⟩ := hA
          refine ⟨a1, a2, a3, a4, a5, ?_, fun p w hw => ?_, fun p w hw => ?_, ?_, ?_, a11⟩
          · simp only [qPl, lkL, List.length_append, List.length_mapIdx, List.length_take, List.length_cons, List.length_drop] at a6 ⊢; omega
          · have := a7 p w hw
            simp [f41, up2]; exact this
          · simp only [qPl] at hw
            by_cases hpk : p = k
            · subst hpk
              rw [List.getElem?_append_right (by simp [lkL]; omega)] at hw
              simp only [lkL, List.length_mapIdx, List.length_take] at hw
              rw [show p - min p q.2.2.2.2.1.length = 0 by omega] at hw
              simp at hw
              simp [f41, up2, hw]
            · have : n41 (b + 15) (40 * ds.length + p) = ML' (b + 15) (40 * ds.length + p) := by simp [f41, up2, hpk]
              rw [this]
              refine h8 p w ?_
              rw [hold2]
              by_cases hpl : p < k
              · rw [List.getElem?_append_left (by simp [lkL]; omega)] at hw ⊢; exact hw
              · rw [List.getElem?_append_right (by simp [lkL]; omega)] at hw ⊢
                simp only [lkL, List.length_mapIdx, List.length_take] at hw ⊢
                obtain ⟨u, hu⟩ : ∃ u, p - min k q.2.2.2.2.1.length = u + 1 := ⟨p - min k q.2.2.2.2.1.length - 1, by omega⟩
                rw [hu, List.getElem?_cons_succ] at hw ⊢
                exact hw
          · simp [f41, up2]; exact a9
          · simp [f41, up2]; exact a10
theorem c_link (hbd : b = 38 ∨ b = 81) {ds : List Dc} {q : Dc} {a z : Int} (hS : SpcC b N (ds ++ [q]) MI ML)
    (hQ : ∀ ML', SpcC b N (ds ++ [qPl q (q.2.2.2.1, lkL q.2.2.2.2.1 a z)]) MI ML' → (∀ j, ¬ (b + 9 ≤ j ∧ j ≤ b + 19) → ML' j = ML j) → Q none (MI, ML', GR d e nw th x)) :
    wp cs mX9_link KD Q 0 (padL [vR (b + 9), vI (ds.length : Nat), vL a, vL z] 7) [] (KD, MI, ML, GR d e nw th x) := by
  refine v_X9_link_0 (c_link_l hbd hQ q.2.2.2.2.1.length 0 ML (by omega) (fun _ _ => rfl) ?_)
  simp only [List.take_zero, List.drop_zero, lkL, List.mapIdx_nil, List.nil_append]
  exact hS
end P66
