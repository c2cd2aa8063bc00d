/-! The class's judgement of attributes. -/
theorem kd41 {b : Nat} (hbd : b = 38 ∨ b = 81) : KD[b + 41]? = some (1, 2000) := by rcases hbd with h | h <;> subst h <;> decide +kernel
theorem kd42 {b : Nat} (hbd : b = 38 ∨ b = 81) : KD[b + 42]? = some (1, 2000) := by rcases hbd with h | h <;> subst h <;> decide +kernel
section Pb05
variable {cs : Cs} {Q : Option AV → Mm → Prop} {MI ML : Nat → Nat → Int} {b d e nw th x pl : Nat} {T : Nat → Int} {n : Int} {N : List By} {fs : Fi} {ids : List Nat} {D : Dt} {ns : List Nd} {dp : Int}
/-- a NODE's own bytes against others that are as many -/
theorem c_hasBytes_l (hbd : b = 38 ∨ b = 81) {wq sw hq k : Nat} (hwq : KD[wq]? = some (1, sw)) (hwql : wq < 1000000) (hsw : sw < 2147483648) (hhq : KD[hq]? = some (1, 2000)) (hhql : hq < 1000000) {P P' f g L : Int} {v w : By} (hk : k < 600) (hP : P ≤ 2000) (hP' : P' ≤ sw) (ef : MI (b + 39) k = f) (hv : slc (MI hq) P f L v) (hw : slc (MI wq) P' g L w) (hQ : Q (some (vI (if v = w then 1 else 0))) (MI, ML, GR d e nw th x)) :
    ∀ (m i : Nat), (i : Int) + m = L → (∀ j, j < i → MI hq (f.toNat + j) = MI wq (g.toNat + j)) → wp cs mX3_hasBytes KD Q 56 [some (vR b), some (vI (k : Nat)), some (vR wq), some (vI g), some (vR hq), some (vI L), some (vI (i : Nat))] [] (KD, MI, ML, GR d e nw th x) := by
  have hv' := hv
  have hw' := hw
  obtain ⟨h1, h2, h3, h4⟩ := hv
  obtain ⟨w1, w2, w3, w4⟩ := hw
  intro m
  induction m with
  | zero =>
    intro i hi hj
    refine v_X3_hasBytes_56 hbd hwq hwql hsw hhq hhql ⟨fun z => by omega, fun _ => ?_⟩
    rw [if_pos (slc_eq hv' hw' (fun j hj' => hj j (by omega)))] at hQ; exact hQ
  | succ m ih =>
    intro i hi hj
    refine v_X3_hasBytes_56 hbd hwq hwql hsw hhq hhql ⟨fun _ => ?_, fun z => by omega⟩
    simp only [Int.toNat_natCast]
    rw [ef, show (f + ((i : Nat) : Int)).toNat = f.toNat + i by omega, show (g + ((i : Nat) : Int)).toNat = g.toNat + i by omega, show ((i : Nat) : Int) + 1 = ((i + 1 : Nat) : Int) by omega]
    refine ⟨by omega, by omega, by omega, by omega, by omega, fun he => ⟨by omega, ih (i + 1) (by omega) (fun j hj' => ?_)⟩, fun he => ?_⟩
    · by_cases hh : j = i
      · subst hh; exact he
      · exact hj j (by omega)
    · have hne : v ≠ w := fun q => he (by
        subst q
        rw [slc_at hv' (i := i) (by omega), slc_at hw' (i := i) (by omega)])
      rw [if_neg hne] at hQ; exact hQ
theorem c_hasBytes (hbd : b = 38 ∨ b = 81) {wq sw hq k : Nat} (hwq : KD[wq]? = some (1, sw)) (hwql : wq < 1000000) (hsw : sw < 2147483648) {P P' f g L : Int} {v w : By} (hk : k < 600) (hP : P ≤ 2000) (hP' : P' ≤ sw) (ek : hq = if MI (b + 32) k = 2 then b + 41 else b + 42) (ef : MI (b + 39) k = f) (eL : MI (b + 40) k - MI (b + 39) k = L) (hv : slc (MI hq) P f L v) (hw : slc (MI wq) P' g L w) (hQ : Q (some (vI (if v = w then 1 else 0))) (MI, ML, GR d e nw th x)) :
    wp cs mX3_hasBytes KD Q 0 (padL [vR b, vI (k : Nat), vR wq, vI g] 7) [] (KD, MI, ML, GR d e nw th x) := by
  obtain ⟨h1, h2, h3, h4⟩ := hv
  obtain ⟨w1, w2, w3, w4⟩ := hw
  have go : ∀ hq' : Nat, hq' = hq → KD[hq']? = some (1, 2000) → hq' < 1000000 → wp cs mX3_hasBytes KD Q 21 [some (vR b), some (vI (k : Nat)), some (vR wq), some (vI g), none, none, none] [vR hq'] (KD, MI, ML, GR d e nw th x) := by
    intro hq' e1 hhq hhql
    subst e1
    refine v_X3_hasBytes_21 hbd hwq hwql hsw hhq hhql ?_
    simp only [Int.toNat_natCast]
    rw [eL]
    refine ⟨by omega, by omega, fun z => by omega, fun _ => ⟨by omega, fun z => by omega, fun _ => ?_⟩⟩
    exact c_hasBytes_l hbd hwq hwql hsw hhq hhql hk hP hP' ef ⟨h1, h2, h3, h4⟩ ⟨w1, w2, w3, w4⟩ hQ v.length 0 (by omega) (fun j hj => by omega)
  refine v_X3_hasBytes_0 hbd hwq hwql hsw ?_
  simp only [Int.toNat_natCast]
  refine ⟨by omega, fun h2' => ?_, fun h2' => ?_⟩
  · rw [if_pos h2'] at ek
    exact go (b + 41) ek.symm (kd41 hbd) (by omega)
  · rw [if_neg h2'] at ek
    exact go (b + 42) ek.symm (kd42 hbd) (by omega)
/-- an attribute's value against other values -/
theorem c_sameValue (hbd : b = 38 ∨ b = 81) {k : Nat} {y : Nd} {g L : Int} {w : By} (hD : DocC b T n N pl D ns [] dp MI ML) (hy : ns[k]? = some y) (h2 : y.1 = 2) (hw : slc (MI (b + 41)) (MI b 14) g L w) (hQ : Q (some (vI (if y.2.2.2.1 = w then 1 else 0))) (MI, ML, GR d e nw th x)) :
    wp cs mX4_sameValue KD Q 0 (padL [vR 11, vR b, vI (k : Nat), vI g, vI L] 5) [] (KD, MI, ML, GR d e nw th x) := by
  have hN := hD.2.2.2.2.1
  have hkl := (List.getElem?_eq_some_iff.mp hy).1
  have h600 := hN.2.1
  have hA := hN.2.2.2 k y hy
  have hv := (hA.2.2.2.2.2.2.1 h2).1
  have hp := hD.2.2.2.2.2.2.1
  have h15 := hN.2.2.1
  have hP : MI b 14 ≤ 2000 := by omega
  refine v_X4_sameValue_0 hbd ?_
  simp only [Int.toNat_natCast]
  have hvl := hv.2.1
  have hvr := hv.2.2.1
  have hv0 := hv.1
  refine ⟨by omega, by omega, fun he => ?_, fun he => ?_⟩
  · refine c_hasBytes hbd (kd41 hbd) (by omega) (by omega) (by omega) hP (P' := MI b 14) (by omega) (hq := b + 41) (by rw [hA.1, if_pos h2]) rfl rfl hv (by rw [he]; exact hw) (rI_mk ?_)
    by_cases hh : y.2.2.2.1 = w
    · rw [if_pos hh] at hQ ⊢
      exact ⟨fun z => by omega, fun _ => hQ⟩
    · rw [if_neg hh] at hQ ⊢
      exact ⟨fun _ => hQ, fun z => absurd rfl z⟩
  · rw [if_neg (fun z => he (by rw [hvl, hw.2.1, z]))] at hQ; exact hQ
theorem c_isAsFixed (hbd : b = 38 ∨ b = 81) {k r : Nat} {y : Nd} {q : Rl} (hD : DocC b T n N pl D ns [] dp MI ML) (hy : ns[k]? = some y) (h2 : y.1 = 2) (hq : D.2.2[r]? = some q) (hQ : Q (some (vI (if q.2.2.2.2.1 = 2 ∧ q.2.2.2.2.2 ≠ y.2.2.2.1 then 0 else 1))) (MI, ML, GR d e nw th x)) :
    wp cs mX4_isAsFixed KD Q 0 (padL [vR 11, vR b, vI (k : Nat), vI (r : Nat)] 5) [] (KD, MI, ML, GR d e nw th x) := by
  have hR := hD.2.2.2.1
  have hr := (List.getElem?_eq_some_iff.mp hq).1
  have h750 := hR.2.1
  have hA := hR.2.2.2.2 r q hq
  have hsl := hA.2.2.2.2.2.2.2.1
  have hp := hD.2.2.2.2.2.2.1
  have h15 := hD.2.2.2.2.1.2.2.1
  refine v_X4_isAsFixed_0 hbd ?_
  simp only [Int.toNat_natCast]
  rw [hA.2.2.2.2.2.2.1]
  have s1 := hsl.1
  have s2 := hsl.2.1
  have s3 := hsl.2.2.1
  refine ⟨by omega, fun h2' => ⟨by omega, c_sameValue hbd hD hy h2 hsl (rI_mk ⟨by split <;> simp, ?_⟩)⟩, fun h2' => ?_⟩
  · by_cases hh : y.2.2.2.1 = q.2.2.2.2.2
    · rw [if_neg (fun z => z.2 hh.symm)] at hQ
      rw [if_pos hh]; exact hQ
    · rw [if_pos ⟨h2', fun z => hh z.symm⟩] at hQ
      rw [if_neg hh]; exact hQ
  · rw [if_neg (fun z => h2' z.1)] at hQ; exact hQ
/-- the attributes of type ID ahead of a -/
def idsF (rs : List Rl) (ns : List Nd) (a : Nat) : List Nat := (List.range a).filter fun j => match ns[j]? with | some y => idA rs ns y | none => false
theorem idsF_yes {rs : List Rl} {ns : List Nd} {a : Nat} {y : Nd} (hy : ns[a]? = some y) (h : idA rs ns y = true) : idsF rs ns (a + 1) = idsF rs ns a ++ [a] := by
  unfold idsF
  rw [List.range_succ, List.filter_append, List.filter_cons_of_pos (by rw [hy]; exact h), List.filter_nil]
theorem idsF_no {rs : List Rl} {ns : List Nd} {a : Nat} {y : Nd} (hy : ns[a]? = some y) (h : idA rs ns y = false) : idsF rs ns (a + 1) = idsF rs ns a := by
  unfold idsF
  rw [List.range_succ, List.filter_append, List.filter_cons_of_neg (by rw [hy]; simp [h]), List.filter_nil, List.append_nil]
theorem idsF_len (rs : List Rl) (ns : List Nd) (a : Nat) : (idsF rs ns a).length ≤ a := by
  have := List.length_filter_le (fun j => match ns[j]? with | some y => idA rs ns y | none => false) (List.range a)
  rw [List.length_range] at this
  exact this
theorem takS_ids {rs : List Rl} {a : Nat} {v : By} : takS rs ns a v = (idsF rs ns a).any fun j => match ns[j]? with | some y => decide (y.2.2.2.1 = v) | none => false := by
  rw [Bool.eq_iff_iff]
  unfold takS idsF
  rw [List.any_eq_true, List.any_eq_true]
  constructor
  · rintro ⟨y, hy, h⟩
    obtain ⟨j, hj⟩ := List.getElem?_of_mem hy
    rw [List.getElem?_take] at hj
    split at hj
    · rw [Bool.and_eq_true] at h
      refine ⟨j, ?_, by rw [hj]; exact h.2⟩
      rw [List.mem_filter, List.mem_range]
      exact ⟨by assumption, by rw [hj]; exact h.1⟩
    · cases hj
  · rintro ⟨j, hj, h⟩
    rw [List.mem_filter, List.mem_range] at hj
    cases hn : ns[j]? with
    | none => rw [hn] at h; cases h
    | some y =>
      rw [hn] at h hj
      refine ⟨y, ?_, by rw [Bool.and_eq_true]; exact ⟨hj.2, h⟩⟩
      rw [List.mem_iff_getElem?]
      exact ⟨j, by rw [List.getElem?_take, if_pos hj.1]; exact hn⟩
theorem idsF_ok {rs : List Rl} {a j : Nat} (hj : j ∈ idsF rs ns a) : ∃ y, ns[j]? = some y ∧ y.1 = 2 := by
  unfold idsF at hj
  rw [List.mem_filter] at hj
  cases hn : ns[j]? with
  | none => rw [hn] at hj; cases hj.2
  | some y =>
    rw [hn] at hj
    have := hj.2
    unfold idA at this
    exact ⟨y, rfl, (of_decide_eq_true this).1⟩
theorem c_isTaken_l (hbd : b = 38 ∨ b = 81) {k : Nat} {y : Nd} (hD : DocC b T n N pl D ns [] dp MI ML) (hI : IdsC (idsF D.2.2 ns k) MI) (hy : ns[k]? = some y) (h2 : y.1 = 2) (hQ : Q (some (vI (if takS D.2.2 ns k y.2.2.2.1 = true then 1 else 0))) (MI, ML, GR d e nw th x)) :
    ∀ (u pre : List Nat), pre ++ u = idsF D.2.2 ns k → (∀ j ∈ pre, ∀ z, ns[j]? = some z → z.2.2.2.1 ≠ y.2.2.2.1) → wp cs mX4_isTaken KD Q 2 [some (vR 11), some (vR b), some (vI (k : Nat)), some (vI (pre.length : Nat)), none] [] (KD, MI, ML, GR d e nw th x) := by
  have hN := hD.2.2.2.2.1
  have h600 := hN.2.1
  intro u
  induction u with
  | nil =>
    intro pre hp hpre
    rw [List.append_nil] at hp
    refine v_X4_isTaken_2 hbd ?_
    rw [hI.1, ← hp]
    refine ⟨fun z => by omega, fun _ => ?_⟩
    rw [if_neg (fun z => ?_)] at hQ
    · exact hQ
    · rw [takS_ids, ← hp, List.any_eq_true] at z
      obtain ⟨j, hj, h⟩ := z
      cases hn : ns[j]? with
      | none => rw [hn] at h; cases h
      | some w => rw [hn] at h; exact hpre j hj w hn (of_decide_eq_true h)
  | cons j u ih =>
    intro pre hp hpre
    have hlen : pre.length < (idsF D.2.2 ns k).length := by rw [← hp]; simp
    have hj : (idsF D.2.2 ns k)[pre.length]? = some j := by rw [← hp]; simp
    have hjm : j ∈ idsF D.2.2 ns k := List.mem_of_getElem? hj
    obtain ⟨w, hw, hw2⟩ := idsF_ok hjm
    have hjl := (List.getElem?_eq_some_iff.mp hw).1
    have e13 := hI.2.2 pre.length j hj
    have hI6 := hI.2.1
    have hp' : (pre ++ [j]) ++ u = idsF D.2.2 ns k := by rw [List.append_assoc]; exact hp
    have el : ((pre.length : Nat) : Int) + 1 = (((pre ++ [j]).length : Nat) : Int) := by simp
    have hAw := hN.2.2.2 j w hw
    have hsl := (hAw.2.2.2.2.2.2.1 hw2).1
    have s1 := hsl.1
    have s2 := hsl.2.1
    have s3 := hsl.2.2.1
    have hpp := hD.2.2.2.2.2.2.1
    have h15 := hN.2.2.1
    refine v_X4_isTaken_2 hbd ?_
    simp only [Int.toNat_natCast]
    rw [hI.1, e13]
    simp only [Int.toNat_natCast]
    refine ⟨fun _ => ⟨by omega, by omega, by omega, c_sameValue hbd hD hy h2 hsl (rI_mk ?_)⟩, fun z => by omega⟩
    by_cases hh : y.2.2.2.1 = w.2.2.2.1
    · rw [if_pos hh]
      refine ⟨fun z => by omega, fun _ => ?_⟩
      rw [if_pos] at hQ
      · exact hQ
      · rw [takS_ids, List.any_eq_true]
        exact ⟨j, hjm, by rw [hw]; exact decide_eq_true hh.symm⟩
    · rw [if_neg hh, el]
      refine ⟨fun _ => ⟨by omega, ih (pre ++ [j]) hp' (fun i hi z hz => ?_)⟩, fun z => absurd rfl z⟩
      rw [List.mem_append, List.mem_singleton] at hi
      rcases hi with hi | hi
      · exact hpre i hi z hz
      · subst hi; rw [hw] at hz; cases hz; exact fun q => hh q.symm
theorem ruI_some {rs : List Rl} {o a : By} (h : ruI rs o a ≠ -1) : ∃ (r : Nat) (q : Rl), ruI rs o a = (r : Int) ∧ rs[r]? = some q ∧ q.1 = o ∧ q.2.1 = a ∧ rlA rs (ruI rs o a) = q := by
  unfold ruI at h
  obtain ⟨r, q, h1, h2, h3, -⟩ := fIdx_some h
  rw [Nat.zero_add] at h1
  rw [Bool.and_eq_true] at h3
  refine ⟨r, q, h1, h2, of_decide_eq_true h3.1, of_decide_eq_true h3.2, ?_⟩
  unfold rlA ruI
  rw [h1, Int.toNat_natCast, List.getD_eq_getElem?_getD, h2]; rfl
theorem c_judgeAttribute (hbd : b = 38 ∨ b = 81) {k : Nat} {y : Nd} {o : By} (hn : n ≤ 6000) (hD : DocC b T n N pl D ns [] dp MI ML) (hJ : JuC fs MI) (hI : IdsC (idsF D.2.2 ns k) MI) (hy : ns[k]? = some y) (h2 : y.1 = 2) (hdf : y.2.2.2.2.1 = 0) (ho : nmA ns y.2.1 = o) (hl : fs.length + (jaS D.2.2 ns o k y).length ≤ 8000)
    (hQ : ∀ MI', JuC (fs ++ jaS D.2.2 ns o k y) MI' → IdsC (idsF D.2.2 ns (k + 1)) MI' → jfr MI MI' → Q none (MI', ML, GR d e nw th x)) :
    wp cs mX4_judgeAttribute KD Q 0 (padL [vR 11, vR b, vI (k : Nat), vI (ruI D.2.2 o y.2.2.1)] 5) [] (KD, MI, ML, GR d e nw th x) := by
  have hN := hD.2.2.2.2.1
  have hkl := (List.getElem?_eq_some_iff.mp hy).1
  have h600 := hN.2.1
  have h750 := hD.2.2.2.1.2.1
  unfold jaS at hl hQ
  refine v_X4_judgeAttribute_0 hbd ⟨fun hm => ?_, fun hm => ?_⟩
  · rw [if_pos hm] at hl hQ
    have hid : idA D.2.2 ns y = false := by
      unfold idA
      exact decide_eq_false (fun z => z.2.2.1 (by rw [ho]; exact hm))
    have hids := idsF_no hy hid
    rw [hids] at hQ
    simp only [List.length_singleton] at hl
    exact c_report hJ hI (by omega) (by omega) (by omega) (fun MI2 J2 I2 f2 => rV_mk (hQ MI2 J2 I2 f2))
  obtain ⟨r, q, hr1, hr2, hr3, hr4, hr5⟩ := ruI_some hm
  rw [if_neg hm, hr5] at hl hQ
  have hrl := (List.getElem?_eq_some_iff.mp hr2).1
  have hA := hD.2.2.2.1.2.2.2.2 r q hr2
  have hid : idA D.2.2 ns y = decide (q.2.2.1 = 1) := by
    unfold idA
    rw [ho, hr5]
    apply decide_eq_decide.mpr
    exact ⟨fun z => z.2.2.2, fun z => ⟨h2, hdf, hm, z⟩⟩
  rw [hr1]
  simp only [Int.toNat_natCast]
  rw [hA.2.2.1]
  -- the end: an ID is kept
  have fin : ∀ (gs : Fi) (s0 : Int) (MI1 : Nat → Nat → Int), s0 = (if q.2.2.1 = 1 then 1 else 0) → JuC gs MI1 → IdsC (idsF D.2.2 ns k) MI1 → jfr MI MI1 → (∀ MI', JuC gs MI' → IdsC (idsF D.2.2 ns (k + 1)) MI' → jfr MI MI' → Q none (MI', ML, GR d e nw th x)) → wp cs mX4_judgeAttribute KD Q 95 [some (vR 11), some (vR b), some (vI (k : Nat)), some (vI (r : Nat)), some (vI s0)] [] (KD, MI1, ML, GR d e nw th x) := by
    intro gs s0 MI1 hs0 J1 I1 f1 hq
    refine v_X4_judgeAttribute_95 hbd ⟨fun h0 => ?_, fun h0 => ?_⟩
    · have hne : ¬ q.2.2.1 = 1 := fun z => by rw [if_pos z] at hs0; omega
      have hids := idsF_no hy (by rw [hid]; exact decide_eq_false hne)
      exact hq MI1 J1 (by rw [hids]; exact I1) f1
    · have heq : q.2.2.1 = 1 := Decidable.byContradiction fun z => by rw [if_neg z] at hs0; omega
      have hids := idsF_yes hy (by rw [hid]; exact decide_eq_true heq)
      have hil := idsF_len D.2.2 ns k
      rw [I1.1]
      simp only [Int.toNat_natCast]
      refine ⟨fun _ => ⟨by omega, fun m119 e119 => ?_⟩, fun z => by omega⟩
      have k2 : m119 11 2 = ((idsF D.2.2 ns k).length : Nat) := by rw [e119, up2_ne (by decide)]; exact I1.1
      rw [k2]
      refine ⟨by omega, fun m127 e127 => ?_⟩
      refine hq m127 ⟨by rw [e127, up2_nk (by decide), e119, up2_ne (by decide)]; exact J1.1, J1.2.1, fun i a s hi => by rw [e127, up2_ne (by decide), e119, up2_ne (by decide)]; exact J1.2.2 i a s hi⟩ ⟨by rw [e127, up2_eq, hids]; simp, by rw [hids]; simp; omega, fun i j hj => ?_⟩ (jfr_tr f1 (fun i h1 h2 h3 => by rw [e127, e119]; funext k; rw [up2_ne h1, up2_ne h3]))
      rw [hids] at hj
      rcases last_of hj with ⟨hj1, hj2⟩ | ⟨rfl, rfl⟩
      · rw [e127, up2_ne (by decide), e119, up2_nk (by omega)]; exact I1.2.2 i j hj2
      · rw [e127, up2_ne (by decide), e119, up2_eq]
  have go : ∀ s0 : Int, s0 = (if q.2.2.1 = 1 then 1 else 0) → wp cs mX4_judgeAttribute KD Q 31 [some (vR 11), some (vR b), some (vI (k : Nat)), some (vI (r : Nat)), none] [vI s0] (KD, MI, ML, GR d e nw th x) := by
    intro s0 hs0
    have hAy := hN.2.2.2 k y hy
    have hsl := (hAy.2.2.2.2.2.2.1 h2).1
    have hp := hD.2.2.2.2.2.2.1
    have h15 := hN.2.2.1
    have hP : MI b 14 ≤ 2000 := by omega
    refine v_X4_judgeAttribute_31 hbd ?_
    simp only [Int.toNat_natCast]
    refine ⟨by omega, c_isOfType hbd hP hsl hn hD.1.2.2.1 hD.2.2.2.1 hr2 (rI_mk ?_)⟩
    have ten : (ofT q y.2.2.2.1 = false ∨ q.2.2.2.2.1 = 2 ∧ q.2.2.2.2.2 ≠ y.2.2.2.1) → wp cs mX4_report KD (rV (GR d e nw th x) fun m68 n68 => wp cs mX4_judgeAttribute KD Q 95 [some (vR 11), some (vR b), some (vI (k : Nat)), some (vI (r : Nat)), some (vI s0)] [] (KD, m68, n68, (GR d e nw th x))) 0 (padL [vR 11, vI 10, vI (k : Nat)] 3) [] (KD, MI, ML, (GR d e nw th x)) := fun hc => by
      rw [if_pos hc] at hl hQ
      simp only [List.length_singleton] at hl
      exact c_report hJ hI (by omega) (by omega) (by omega) (fun MI2 J2 I2 f2 => rV_mk (fin _ s0 MI2 hs0 J2 I2 f2 (fun MI' h1 h2 h3 => hQ MI' h1 h2 h3)))
    cases hof : ofT q y.2.2.2.1 with
    | false =>
      rw [if_neg (by decide)]
      exact ⟨fun _ => ten (Or.inl hof), fun z => absurd rfl z⟩
    | true =>
      rw [if_pos rfl]
      refine ⟨fun z => by omega, fun _ => c_isAsFixed hbd hD hy h2 hr2 (rI_mk ?_)⟩
      by_cases hfx : q.2.2.2.2.1 = 2 ∧ q.2.2.2.2.2 ≠ y.2.2.2.1
      · rw [if_pos hfx]
        exact ⟨fun _ => ten (Or.inr hfx), fun z => absurd rfl z⟩
      · rw [if_neg hfx]
        have hno : ¬ (ofT q y.2.2.2.1 = false ∨ q.2.2.2.2.1 = 2 ∧ q.2.2.2.2.2 ≠ y.2.2.2.1) := fun z => z.elim (fun w => by rw [hof] at w; cases w) hfx
        rw [if_neg hno] at hl hQ
        refine ⟨fun z => by omega, fun _ => ⟨fun h0 => ?_, fun h0 => ?_⟩⟩
        · have hne : ¬ q.2.2.1 = 1 := fun z => by rw [if_pos z] at hs0; omega
          rw [if_neg (fun z => hne z.1), List.append_nil] at hQ
          exact fin fs s0 MI hs0 hJ hI (jfr_rfl _) hQ
        · have heq : q.2.2.1 = 1 := Decidable.byContradiction fun z => by rw [if_neg z] at hs0; omega
          refine v_X4_isTaken_0 (c_isTaken_l hbd hD hI hy h2 (rI_mk ?_) (idsF D.2.2 ns k) [] rfl (fun j hj => by cases hj))
          cases htk : takS D.2.2 ns k y.2.2.2.1 with
          | true =>
            rw [if_pos rfl]
            rw [if_pos ⟨heq, htk⟩] at hl hQ
            simp only [List.length_singleton] at hl
            refine ⟨fun z => by omega, fun _ => c_report hJ hI (by omega) (by omega) (by omega) (fun MI2 J2 I2 f2 => rV_mk (fin _ s0 MI2 hs0 J2 I2 f2 (fun MI' h1 h2 h3 => hQ MI' h1 h2 h3)))⟩
          | false =>
            rw [if_neg (by decide)]
            rw [if_neg (fun z => by rw [htk] at z; cases z.2), List.append_nil] at hQ
            exact ⟨fun _ => fin fs s0 MI hs0 hJ hI (jfr_rfl _) hQ, fun z => absurd rfl z⟩
  exact ⟨by omega, fun h1 => go 1 (by rw [if_pos h1]), fun h1 => go 0 (by rw [if_neg h1])⟩
end Pb05
