/-! What is right in an ELEMENT; the class's fits. -/
def chR (ns : List Nd) (e : Int) (c : Nat) : List Nd := (ns.drop c).filter fun y => !decide (y.1 = 2) && decide (y.2.1 = e)
def bdy (ns : List Nd) (e c : Nat) : Prop := c < eS ns e → ∃ y, ns[c]? = some y ∧ y.1 ≠ 2 ∧ y.2.1 = (e : Int)
theorem eS_out {ns : List Nd} {k : Nat} {y : Nd} (hy : ns[eS ns k]? = some y) : y.2.1 < (k : Int) := by
  unfold eS at hy
  obtain ⟨l, hl⟩ : ∃ l, l = ns.drop (k + 1) := ⟨_, rfl⟩
  have h1 : (l.drop (l.takeWhile fun x => decide ((k : Int) ≤ x.2.1)).length)[0]? = some y := by
    rw [hl, List.getElem?_drop, List.getElem?_drop]
    rw [← hl, Nat.add_zero]
    rw [← hl] at hy; exact hy
  have h2 : l.drop (l.takeWhile fun x => decide ((k : Int) ≤ x.2.1)).length = l.dropWhile fun x => decide ((k : Int) ≤ x.2.1) := by
    have h3 := List.takeWhile_append_dropWhile (p := fun x : Nd => decide ((k : Int) ≤ x.2.1)) (l := l)
    have h4 := List.drop_left (l₁ := l.takeWhile fun x : Nd => decide ((k : Int) ≤ x.2.1)) (l₂ := l.dropWhile fun x : Nd => decide ((k : Int) ≤ x.2.1))
    rw [h3] at h4
    exact h4
  rw [h2] at h1
  cases hd : l.dropWhile fun x => decide ((k : Int) ≤ x.2.1) with
  | nil => rw [hd] at h1; simp at h1
  | cons z t =>
    rw [hd] at h1
    simp only [List.getElem?_cons_zero, Option.some.injEq] at h1
    subst h1
    have h4 := List.head_dropWhile_not (p := fun x : Nd => decide ((k : Int) ≤ x.2.1)) (l := l) (by rw [hd]; simp)
    simp only [hd, List.head_cons, decide_eq_false_iff_not] at h4
    omega
section Pb04a
variable {ns : List Nd} {e c : Nat}
theorem ch_end (hW : WfN ns) (he : e < ns.length) (hc : eS ns e ≤ c) : chR ns (e : Int) c = [] := by
  unfold chR
  rw [List.filter_eq_nil_iff]
  intro y hy
  obtain ⟨i, hi⟩ := List.getElem?_of_mem hy
  rw [List.getElem?_drop] at hi
  have hj := (List.getElem?_eq_some_iff.mp hi).1
  have hle := eS_le he
  intro h
  rw [Bool.and_eq_true] at h
  have hup := of_decide_eq_true h.2
  obtain ⟨w1, w2, w3, w4⟩ := hW.2 (c + i) y hi (by omega)
  obtain ⟨z, hz⟩ : ∃ z, ns[eS ns e]? = some z := ⟨_, List.getElem?_eq_getElem (by omega)⟩
  have ho := eS_out hz
  by_cases hh : eS ns e = c + i
  · rw [hh, hi] at hz; cases hz; omega
  · have := w4 (eS ns e) z hz (by omega) (by omega)
    omega
theorem ch_step {y : Nd} (hW : WfN ns) (hA : AtW ns) (hec : e < c) (hy : ns[c]? = some y) (h2 : y.1 ≠ 2) (hup : y.2.1 = (e : Int)) : chR ns (e : Int) c = y :: chR ns (e : Int) (eS ns c) ∧ c < eS ns c ∧ bdy ns e (eS ns c) := by
  have hcl := (List.getElem?_eq_some_iff.mp hy).1
  have hle := eS_le hcl
  have hel : e < ns.length := by omega
  have hlE := eS_le hel
  refine ⟨?_, by omega, fun hlt => ?_⟩
  · have key : ∀ (m : Nat), c + 1 + m ≤ eS ns c → chR ns (e : Int) (c + 1) = chR ns (e : Int) (c + 1 + m) := by
      intro m
      induction m with
      | zero => intro _; rfl
      | succ m ih =>
        intro hm
        rw [ih (by omega)]
        obtain ⟨z, hz⟩ : ∃ z, ns[c + 1 + m]? = some z := ⟨_, List.getElem?_eq_getElem (by omega)⟩
        have hin := eS_in (k := c) (by omega) (by omega) hz
        unfold chR
        rw [List.drop_eq_getElem_cons (show c + 1 + m < ns.length by omega)]
        have hzz : ns[c + 1 + m] = z := (List.getElem?_eq_some_iff.mp hz).2
        rw [hzz, List.filter_cons_of_neg]
        · rfl
        · intro h
          rw [Bool.and_eq_true] at h
          have := of_decide_eq_true h.2
          omega
    have h3 := key (eS ns c - (c + 1)) (by omega)
    rw [show c + 1 + (eS ns c - (c + 1)) = eS ns c by omega] at h3
    rw [← h3]
    unfold chR
    rw [List.drop_eq_getElem_cons hcl]
    have hzz : ns[c] = y := (List.getElem?_eq_some_iff.mp hy).2
    rw [hzz, List.filter_cons_of_pos]
    rw [Bool.and_eq_true]
    exact ⟨by simp [h2], decide_eq_true hup⟩
  · obtain ⟨z, hz⟩ : ∃ z, ns[eS ns c]? = some z := ⟨_, List.getElem?_eq_getElem (by omega)⟩
    have ho := eS_out hz
    have hin := eS_in (k := e) (by omega) hlt hz
    obtain ⟨w1, w2, w3, w4⟩ := hW.2 (eS ns c) z hz (by omega)
    have hze : z.2.1 = (e : Int) := by
      refine Decidable.byContradiction fun w => ?_
      have := w4 c y hy (by omega) (by omega)
      omega
    refine ⟨z, hz, fun w => ?_, hze⟩
    have h5 := (((hA.2.1 e hel).2 (eS ns c) z hz).mp ⟨w, hze⟩).2
    have h6 := ((hA.2.1 e hel).2 c y hy)
    have : y.1 = 2 ∧ y.2.1 = (e : Int) := h6.mpr ⟨hec, by omega⟩
    exact h2 this.1
theorem ch_first (hW : WfN ns) (hA : AtW ns) (he : e < ns.length) : chN ns (e : Int) = chR ns (e : Int) (e + 1 + cntA ns (e : Int)) ∧ bdy ns e (e + 1 + cntA ns (e : Int)) := by
  have hat := hA.2.1 e he
  have hlE := eS_le he
  constructor
  · have key : ∀ m, m ≤ e + 1 + cntA ns (e : Int) → chR ns (e : Int) 0 = chR ns (e : Int) m := by
      intro m
      induction m with
      | zero => intro _; rfl
      | succ m ih =>
        intro hm
        rw [ih (by omega)]
        obtain ⟨z, hz⟩ : ∃ z, ns[m]? = some z := ⟨_, List.getElem?_eq_getElem (by omega)⟩
        unfold chR
        rw [List.drop_eq_getElem_cons (show m < ns.length by omega)]
        have hzz : ns[m] = z := (List.getElem?_eq_some_iff.mp hz).2
        rw [hzz, List.filter_cons_of_neg]
        intro h
        rw [Bool.and_eq_true] at h
        have h2 := of_decide_eq_true h.2
        have h3 := hA.1 m z hz
        have h4 := (hat.2 m z hz).mpr ⟨by omega, by omega⟩
        simp [h4.1] at h
    have := key _ (Nat.le_refl _)
    rw [← this]; rfl
  · intro hlt
    obtain ⟨z, hz⟩ : ∃ z, ns[e + 1 + cntA ns (e : Int)]? = some z := ⟨_, List.getElem?_eq_getElem (by omega)⟩
    have hin := eS_in (k := e) (by omega) hlt hz
    obtain ⟨w1, w2, ⟨p, w3, w3'⟩, w4⟩ := hW.2 _ z hz (by omega)
    have hze : z.2.1 = (e : Int) := by
      refine Decidable.byContradiction fun w => ?_
      have h5 := (hat.2 z.2.1.toNat p w3).mpr ⟨by omega, by omega⟩
      have h6 := h5.1
      omega
    refine ⟨z, hz, fun w => ?_, hze⟩
    have h5 := ((hat.2 _ z hz).mp ⟨w, hze⟩).2
    omega
end Pb04a
section Pb04
variable {cs : Cs} {Q : Option AV → Mm → Prop} {MI ML : Nat → Nat → Int} {b d e nw th x pl : Nat} {T : Nat → Int} {n : Int} {N : List By} {D : Dt} {ns : List Nd} {dp : Int}
theorem c_behind_l (hbd : b = 38 ∨ b = 81) {j : Nat} {q : Dc} {set : Int} (hj : j < 30) (hA : SpcA b N MI ML j q) (hQ : Q (some (vL (bhF set q.2.2.2.2.1 0 0))) (MI, ML, GR d e nw th x)) :
    ∀ (u pre : List Int) (a : Int), pre ++ u = q.2.2.2.2.1 → bhF set u pre.length a = bhF set q.2.2.2.2.1 0 0 →
    wp cs mX9_behind KD Q 6 [some (vR (b + 9)), some (vI (j : Nat)), some (vL set), none, some (vL a), none, some (vI (pre.length : Nat))] [] (KD, MI, ML, GR d e nw th x) := by
  have h13 := hA.2.2.2.1
  have h40 := hA.2.2.2.2.1
  have hfl := hA.2.2.2.2.2.1
  intro u
  induction u with
  | nil =>
    intro pre a hp ha
    rw [List.append_nil] at hp
    refine v_X9_behind_6 hbd ?_
    simp only [Int.toNat_natCast]
    rw [h13]
    refine ⟨by omega, fun z => by rw [hp] at z; omega, fun _ => ?_⟩
    rw [bhF] at ha
    rw [ha]; exact hQ
  | cons f u ih =>
    intro pre a hp ha
    have hlen : pre.length < q.2.2.2.2.1.length := by rw [← hp]; simp
    have hf : q.2.2.2.2.1[pre.length]? = some f := by rw [← hp]; simp
    have hfo := hA.2.2.2.2.2.2.2.1 pre.length f hf
    have hp' : (pre ++ [f]) ++ u = q.2.2.2.2.1 := by rw [List.append_assoc]; exact hp
    rw [bhF] at ha
    have el : ((pre.length : Nat) : Int) + 1 = (((pre ++ [f]).length : Nat) : Int) := by simp
    have el2 : pre.length + 1 = (pre ++ [f]).length := by simp
    refine v_X9_behind_6 hbd ?_
    simp only [Int.toNat_natCast]
    rw [h13, l_ushr_bit (by omega), show ((j : Nat) : Int) * 40 + ((pre.length : Nat) : Int) = ((40 * j + pre.length : Nat) : Int) by omega]
    simp only [Int.toNat_natCast]
    rw [hfo, el]
    rw [el2] at ha
    refine ⟨by omega, fun _ => ⟨fun hb => ⟨by omega, ih (pre ++ [f]) a hp' ?_⟩, fun hb => ⟨by omega, by omega, by omega, by omega, ih (pre ++ [f]) (l_or a f) hp' ?_⟩⟩, fun z => by omega⟩
    · cases hbv : bv set pre.length with
      | false => rw [hbv, if_neg (by decide)] at ha; exact ha
      | true => rw [hbv, if_pos rfl] at hb; omega
    · cases hbv : bv set pre.length with
      | true => rw [hbv, if_pos rfl] at ha; exact ha
      | false => rw [hbv] at hb; exact absurd rfl hb
theorem c_behind (hbd : b = 38 ∨ b = 81) {j : Nat} {q : Dc} {set : Int} (hj : j < 30) (hA : SpcA b N MI ML j q) (hQ : Q (some (vL (bhF set q.2.2.2.2.1 0 0))) (MI, ML, GR d e nw th x)) :
    wp cs mX9_behind KD Q 0 (padL [vR (b + 9), vI (j : Nat), vL set] 7) [] (KD, MI, ML, GR d e nw th x) :=
  v_X9_behind_0 (c_behind_l hbd hj hA hQ q.2.2.2.2.1 [] 0 rfl rfl)
/-- a child's NAME -/
theorem nm_or {y : Nd} {k : Nat} (hN : NodC b N ns [] MI) (hW : WfN ns) (hy : ns[k]? = some y) (h1 : y.1 = 1) : isId N (MI (b + 34) k) y.2.2.1 := by
  have hA := hN.2.2.2 k y hy
  rcases hA.2.2.1 with h | h
  · exact absurd h.1 (WfN_ne hW k y hy h1)
  · exact h
theorem c_fitsL_l (hbd : b = 38 ∨ b = 81) {k j : Nat} {q : Dc} {an : Int} (hD : DocC b T n N pl D ns [] dp MI ML) (hW : WfN ns) (hAt : AtW ns) (hk : ∃ y, ns[k]? = some y ∧ y.1 ≠ 2) (hq : D.2.1[j]? = some q) (hq0 : q.2.1 ≠ 0) (hq3 : q.2.1 ≠ 3) (han : an = if q.2.1 = 1 then 1 else 0)
    {nx : Int} {dn : Bool} (hQ : Q (some (vI (if fitS D.2.1 ns (k : Int) q = true then 1 else 0))) (MI, ML, GR d e nw th x)) :
    ∀ (m c : Nat), ns.length - c ≤ m → k < c → bdy ns k c → (fitF D.2.1 q (chR ns (k : Int) c) nx dn = fitS D.2.1 ns (k : Int) q) →
    wp cs mX4_fitsLoosely KD Q 27 [some (vR 11), some (vR b), some (vI (k : Nat)), some (vI (j : Nat)), some (vI an), some (vI (c : Nat)), none, none] [] (KD, MI, ML, GR d e nw th x) := by
  have hN := hD.2.2.2.2.1
  obtain ⟨yk, hyk, hyk2⟩ := hk
  have hkl := (List.getElem?_eq_some_iff.mp hyk).1
  have h600 := hN.2.1
  have hend := ((hN.2.2.2 k yk hyk).2.2.2.2.2.2.2.2.2 hyk2 (by simp)).1
  have hS := hD.2.2.1
  have hjl := (List.getElem?_eq_some_iff.mp hq).1
  have h30 := hS.2.1
  have hA := hS.2.2 j q hq
  have hNam := hD.1
  intro m
  induction m with
  | zero =>
    intro c hm hkc hcb hfit
    have hlE := eS_le hkl
    rw [ch_end hW hkl (by omega)] at hfit
    refine v_X4_fitsLoosely_27 hbd ?_
    simp only [Int.toNat_natCast]
    rw [hend]
    refine ⟨by omega, fun z => by omega, fun _ => ?_⟩
    rw [← hfit, fitF, if_pos (by simp [hq3])] at hQ; exact hQ
  | succ m ih =>
    intro c hm hkc hcb hfit
    have hlE := eS_le hkl
    by_cases hlt : c < eS ns k
    · obtain ⟨y, hy, hy2, hyu⟩ := hcb hlt
      have hcl := (List.getElem?_eq_some_iff.mp hy).1
      obtain ⟨s1, s2, s3⟩ := ch_step hW hAt hkc hy hy2 hyu
      have hAy := hN.2.2.2 c y hy
      have hendc := (hAy.2.2.2.2.2.2.2.2.2 hy2 (by simp)).1
      have hlc := eS_le hcl
      rw [s1, fitF, if_neg hq0] at hfit
      have jump : fitF D.2.1 q (chR ns (k : Int) (eS ns c)) nx dn = fitS D.2.1 ns (k : Int) q → wp cs mX4_fitsLoosely KD Q 27 [some (vR 11), some (vR b), some (vI (k : Nat)), some (vI (j : Nat)), some (vI an), some (vI (if ((c : Nat) : Int) + 1 < (eS ns c : Nat) then ((eS ns c : Nat) : Int) else ((c : Nat) : Int) + 1)), none, none] [] (KD, MI, ML, GR d e nw th x) := fun hf => by
        rw [show (if ((c : Nat) : Int) + 1 < (eS ns c : Nat) then ((eS ns c : Nat) : Int) else ((c : Nat) : Int) + 1) = ((eS ns c : Nat) : Int) by split <;> omega]
        exact ih (eS ns c) (by omega) (by omega) s3 hf
      refine v_X4_fitsLoosely_27 hbd ?_
      simp only [Int.toNat_natCast]
      rw [hend, hAy.1, hendc]
      refine ⟨by omega, fun _ => ⟨by omega, fun h1 => ?_, fun h1 => ⟨by omega, ?_⟩⟩, fun z => by omega⟩
      · rw [if_pos h1, if_neg hq3] at hfit
        have hid := nm_or hN hW hy h1
        -- what is thought of the child
        have j107 : ∀ (s0 : Int), (s0 = 0 → fitS D.2.1 ns (k : Int) q = false) → (s0 ≠ 0 → fitF D.2.1 q (chR ns (k : Int) (eS ns c)) nx dn = fitS D.2.1 ns (k : Int) q) → wp cs mX4_fitsLoosely KD Q 107 [some (vR 11), some (vR b), some (vI (k : Nat)), some (vI (j : Nat)), some (vI an), some (vI (c : Nat)), some (vI (MI (b + 34) c)), none] [vI s0] (KD, MI, ML, GR d e nw th x) := by
          intro s0 hz hnz
          refine v_X4_fitsLoosely_107 hbd ⟨fun h0 => ?_, fun h0 => ⟨by omega, by omega, ?_⟩⟩
          · rw [hz h0, if_neg (by decide)] at hQ; exact hQ
          · simp only [Int.toNat_natCast]
            rw [hendc]
            exact jump (hnz h0)
        by_cases hq1 : q.2.1 = 1
        · rw [if_pos hq1] at hfit han
          refine ⟨fun z => by omega, fun _ => ?_⟩
          have hidx := hD.2.1 (MI (b + 34) c).toNat y.2.2.1 hid.2
          refine w_X5_specOf hbd (by rw [hNam.1]; have := hNam.2.1; omega) (fun hr => rI_mk ?_) (fun hr => ?_)
          · rw [hidx.1]
            refine ⟨fun hm1 => j107 0 (fun _ => ?_) (fun z => absurd rfl z), fun hm1 => j107 1 (fun z => by omega) (fun _ => ?_)⟩
            · rw [if_pos hm1] at hfit; exact hfit.symm
            · rw [if_neg hm1] at hfit; exact hfit
          · exfalso
            have h1' := (List.getElem?_eq_some_iff.mp hid.2).1
            have h0 := hid.1
            rw [hNam.1] at hr
            omega
        · rw [if_neg hq1] at hfit han
          refine ⟨fun _ => ?_, fun z => by omega⟩
          refine c_named hbd (by omega) hNam.2.2.2.2.2 hA (Or.inl hid) (rJ_mk ?_)
          rw [l_and_m1 (nmd_ok _ _)]
          refine ⟨fun h0 => j107 0 (fun _ => ?_) (fun z => absurd rfl z), fun h0 => j107 1 (fun z => by omega) (fun _ => ?_)⟩
          · rw [if_pos h0] at hfit; exact hfit.symm
          · rw [if_neg h0] at hfit; exact hfit
      · rw [if_neg h1, if_neg (fun z => hq3 z.1)] at hfit
        exact jump hfit
    · rw [ch_end hW hkl (by omega)] at hfit
      refine v_X4_fitsLoosely_27 hbd ?_
      simp only [Int.toNat_natCast]
      rw [hend]
      refine ⟨by omega, fun z => by omega, fun _ => ?_⟩
      rw [← hfit, fitF, if_pos (by simp [hq3])] at hQ; exact hQ
theorem c_fitsG_l (hbd : b = 38 ∨ b = 81) {k j : Nat} {q : Dc} (hD : DocC b T n N pl D ns [] dp MI ML) (hW : WfN ns) (hAt : AtW ns) (hk : ∃ y, ns[k]? = some y ∧ y.1 ≠ 2) (hq : D.2.1[j]? = some q) (hq3 : q.2.1 = 3)
    (hQ : Q (some (vI (if fitS D.2.1 ns (k : Int) q = true then 1 else 0))) (MI, ML, GR d e nw th x)) :
    ∀ (m c : Nat) (nx : Int) (dn : Bool), ns.length - c ≤ m → k < c → bdy ns k c → (fitF D.2.1 q (chR ns (k : Int) c) nx dn = fitS D.2.1 ns (k : Int) q) →
    wp cs mX4_fitsGroup KD Q 39 [some (vR 11), some (vR b), some (vI (k : Nat)), some (vI (j : Nat)), some (vR (b + 9)), some (vL nx), none, some (vI (if dn = true then 1 else 0)), some (vI (c : Nat)), none, none] [] (KD, MI, ML, GR d e nw th x) := by
  have hN := hD.2.2.2.2.1
  obtain ⟨yk, hyk, hyk2⟩ := hk
  have hkl := (List.getElem?_eq_some_iff.mp hyk).1
  have h600 := hN.2.1
  have hend := ((hN.2.2.2 k yk hyk).2.2.2.2.2.2.2.2.2 hyk2 (by simp)).1
  have hS := hD.2.2.1
  have hjl := (List.getElem?_eq_some_iff.mp hq).1
  have h30 := hS.2.1
  have hA := hS.2.2 j q hq
  have hNam := hD.1
  intro m
  induction m with
  | zero =>
    intro c nx dn hm hkc hcb hfit
    have hlE := eS_le hkl
    rw [ch_end hW hkl (by omega), fitF] at hfit
    refine v_X4_fitsGroup_39 hbd ?_
    simp only [Int.toNat_natCast]
    rw [hend]
    refine ⟨by omega, fun z => by omega, fun _ => ⟨by split <;> simp, ?_⟩⟩
    rw [← hfit, hq3] at hQ
    simpa using hQ
  | succ m ih =>
    intro c nx dn hm hkc hcb hfit
    have hlE := eS_le hkl
    by_cases hlt : c < eS ns k
    · obtain ⟨y, hy, hy2, hyu⟩ := hcb hlt
      have hcl := (List.getElem?_eq_some_iff.mp hy).1
      obtain ⟨s1, s2, s3⟩ := ch_step hW hAt hkc hy hy2 hyu
      have hAy := hN.2.2.2 c y hy
      have hendc := (hAy.2.2.2.2.2.2.2.2.2 hy2 (by simp)).1
      have hlc := eS_le hcl
      rw [s1, fitF, if_neg (by omega)] at hfit
      have ej : (if ((c : Nat) : Int) + 1 < (eS ns c : Nat) then ((eS ns c : Nat) : Int) else ((c : Nat) : Int) + 1) = ((eS ns c : Nat) : Int) := by split <;> omega
      refine v_X4_fitsGroup_39 hbd ?_
      simp only [Int.toNat_natCast]
      rw [hend, hAy.1, hendc, hAy.2.2.2.2.2.1, ej]
      refine ⟨by omega, fun _ => ⟨by omega, fun h1 => ?_, fun h1 => ?_⟩, fun z => by omega⟩
      · rw [if_pos h1, if_pos hq3] at hfit
        have hid := nm_or hN hW hy h1
        refine c_named hbd (by omega) hNam.2.2.2.2.2 hA (Or.inl hid) (rJ_mk ⟨fun h0 => ?_, fun h0 => ?_⟩)
        · rw [if_pos h0] at hfit
          rw [← hfit, if_neg (by decide)] at hQ; exact hQ
        · rw [if_neg h0] at hfit
          refine c_behind hbd (by omega) hA (rJ_mk ?_)
          rw [hA.2.2.2.2.2.2.2.2.2.1, hendc, ej]
          refine ⟨by omega, fun hl => ⟨by omega, ?_⟩, fun hl => ⟨by omega, ?_⟩⟩
          · rw [decide_eq_false (fun w => w hl)] at hfit
            exact ih (eS ns c) _ false (by omega) (by omega) s3 hfit
          · rw [decide_eq_true hl] at hfit
            exact ih (eS ns c) _ true (by omega) (by omega) s3 hfit
      · rw [if_neg h1] at hfit
        have hv := (hW.2 c y hy (by omega)).1
        have h3 : y.1 = 3 ∧ y.2.2.2.2.1 = 0 ∧ (y.2.2.2.2.2 = 0 ∨ y.2.2.2.2.2 = 1) := by
          rcases hv.1 with w | w | w
          · exact absurd w.1 h1
          · exact absurd w.1 hy2
          · exact ⟨w.1, w.2.2.2.1, w.2.2.2.2⟩
        rw [h3.2.1]
        rcases h3.2.2 with h5 | h5
        · rw [h5]
          rw [if_neg (fun z => by rw [h5] at z; exact absurd z.2 (by decide))] at hfit
          exact ⟨fun _ => ⟨by omega, ih (eS ns c) nx dn (by omega) (by omega) s3 hfit⟩, fun z => absurd (by decide) z⟩
        · rw [h5]
          rw [if_pos ⟨hq3, h5⟩] at hfit
          rw [← hfit, if_neg (by decide)] at hQ
          exact ⟨fun z => absurd z (by decide), fun _ => hQ⟩
    · rw [ch_end hW hkl (by omega), fitF] at hfit
      refine v_X4_fitsGroup_39 hbd ?_
      simp only [Int.toNat_natCast]
      rw [hend]
      refine ⟨by omega, fun z => by omega, fun _ => ⟨by split <;> simp, ?_⟩⟩
      rw [← hfit, hq3] at hQ
      simpa using hQ
theorem c_fits (hbd : b = 38 ∨ b = 81) {k j : Nat} {q : Dc} (hD : DocC b T n N pl D ns [] dp MI ML) (hW : WfN ns) (hAt : AtW ns) (hk : ∃ y, ns[k]? = some y ∧ y.1 ≠ 2) (hq : D.2.1[j]? = some q)
    (hQ : Q (some (vI (if fitS D.2.1 ns (k : Int) q = true then 1 else 0))) (MI, ML, GR d e nw th x)) :
    wp cs mX4_fits KD Q 0 (padL [vR 11, vR b, vI (k : Nat), vI (j : Nat)] 4) [] (KD, MI, ML, GR d e nw th x) := by
  have hN := hD.2.2.2.2.1
  obtain ⟨yk, hyk, hyk2⟩ := hk
  have hkl := (List.getElem?_eq_some_iff.mp hyk).1
  have h600 := hN.2.1
  have hAk := hN.2.2.2 k yk hyk
  have hS := hD.2.2.1
  have hjl := (List.getElem?_eq_some_iff.mp hq).1
  have h30 := hS.2.1
  have hA := hS.2.2 j q hq
  have hf := ch_first hW hAt hkl
  have hat := (hAt.2.1 k hkl).1
  have e35 := hAk.2.2.2.1
  refine v_X4_fits_0 hbd ?_
  simp only [Int.toNat_natCast]
  rw [hA.1, hAk.2.2.2.2.1]
  refine ⟨by omega, fun h0 => ⟨by omega, fun hc => ?_, fun hc => ?_⟩, fun h3 => ?_, fun h12 => ?_⟩
  · have hnil : chN ns (k : Int) = [] := List.eq_nil_of_length_eq_zero (by have : (chN ns (k : Int)).length = cntI ns (k : Int) := rfl; omega)
    unfold fitS at hQ
    rw [hnil, fitF, if_pos (by simp [h0])] at hQ; exact hQ
  · cases hch : chN ns (k : Int) with
    | nil =>
      have : (chN ns (k : Int)).length = cntI ns (k : Int) := rfl
      rw [hch] at this
      simp only [List.length_nil] at this
      omega
    | cons y t =>
      unfold fitS at hQ
      rw [hch, fitF, if_pos h0, if_neg (by decide)] at hQ; exact hQ
  · refine v_X4_fitsGroup_0 hbd ?_
    simp only [Int.toNat_natCast]
    rw [hA.2.2.2.2.2.2.2.2.1, hA.2.2.2.2.2.2.2.2.2.2]
    have go : ∀ dn : Bool, dn = decide (q.2.2.2.2.2.2.2 ≠ 0) → wp cs mX3_firstIn KD (rI (GR d e nw th x) fun x34 m34 n34 => wp cs mX4_fitsGroup KD (rI (GR d e nw th x) fun x55 m55 n55 => (x55 = 0 ∨ x55 = 1) ∧ Q (some (vI x55)) (m55, n55, (GR d e nw th x))) 39 [some (vR 11), some (vR b), some (vI (k : Nat)), some (vI (j : Nat)), some (vR (b + 9)), some (vL q.2.2.2.2.2.1), none, some (vI (if dn = true then 1 else 0)), some (vI x34), none, none] [] (KD, m34, n34, (GR d e nw th x))) 0 (padL [vR b, vI (k : Nat)] 2) [] (KD, MI, ML, (GR d e nw th x)) := by
      intro dn hdn
      refine w_X3_firstIn hbd (by omega) (by simp only [Int.toNat_natCast]; rw [e35]; omega) (rI_mk ?_)
      simp only [Int.toNat_natCast]
      rw [e35, show ((k : Nat) : Int) + 1 + (cntA ns (k : Nat) : Nat) = ((k + 1 + cntA ns (k : Nat) : Nat) : Int) by omega]
      refine c_fitsG_l hbd hD hW hAt ⟨yk, hyk, hyk2⟩ hq h3 (rI_mk ⟨by split <;> simp, hQ⟩) ns.length _ _ dn (by omega) (by omega) hf.2 ?_
      unfold fitS
      rw [hdn, hf.1]
    refine ⟨by omega, fun h0 => ?_, fun h0 => ?_⟩
    · have := go false (by rw [h0]; rfl)
      rw [if_neg (by decide)] at this; exact this
    · have := go true (by rw [decide_eq_true h0])
      rw [if_pos rfl] at this; exact this
  · refine v_X4_fitsLoosely_0 hbd ?_
    simp only [Int.toNat_natCast]
    rw [hA.1]
    have go : ∀ an : Int, an = (if q.2.1 = 1 then 1 else 0) → wp cs mX3_firstIn KD (rI (GR d e nw th x) fun x22 m22 n22 => wp cs mX4_fitsLoosely KD (rI (GR d e nw th x) fun x63 m63 n63 => (x63 = 0 ∨ x63 = 1) ∧ Q (some (vI x63)) (m63, n63, (GR d e nw th x))) 27 [some (vR 11), some (vR b), some (vI (k : Nat)), some (vI (j : Nat)), some (vI an), some (vI x22), none, none] [] (KD, m22, n22, (GR d e nw th x))) 0 (padL [vR b, vI (k : Nat)] 2) [] (KD, MI, ML, (GR d e nw th x)) := by
      intro an han
      refine w_X3_firstIn hbd (by omega) (by simp only [Int.toNat_natCast]; rw [e35]; omega) (rI_mk ?_)
      simp only [Int.toNat_natCast]
      rw [e35, show ((k : Nat) : Int) + 1 + (cntA ns (k : Nat) : Nat) = ((k + 1 + cntA ns (k : Nat) : Nat) : Int) by omega]
      refine c_fitsL_l (nx := q.2.2.2.2.2.1) (dn := decide (q.2.2.2.2.2.2.2 ≠ 0)) hbd hD hW hAt ⟨yk, hyk, hyk2⟩ hq h12.1 h12.2 han (rI_mk ⟨by split <;> simp, hQ⟩) ns.length _ (by omega) (by omega) hf.2 ?_
      unfold fitS
      rw [hf.1]
    exact ⟨by omega, fun h1 => go 1 (by rw [if_pos h1]), fun h1 => go 0 (by rw [if_neg h1])⟩
end Pb04
