/-! The two constructors: rules over a memory that is written as a list. -/
def rdL {α : Type} (z : α) (l : List (Nat × Nat × Nat × α)) : Nat → Nat → α := fun a b => match l.find? (fun q => decide (q.1 = a ∧ q.2.1 ≤ b ∧ b < q.2.1 + q.2.2.1)) with
  | some q => q.2.2.2
  | none => z
theorem rdL_cons {α : Type} (z : α) (q : Nat × Nat × Nat × α) (l : List (Nat × Nat × Nat × α)) (a b : Nat) : rdL z (q :: l) a b = if q.1 = a ∧ q.2.1 ≤ b ∧ b < q.2.1 + q.2.2.1 then q.2.2.2 else rdL z l a b := by
  unfold rdL
  rw [List.find?_cons]
  by_cases h : q.1 = a ∧ q.2.1 ≤ b ∧ b < q.2.1 + q.2.2.1
  · rw [decide_eq_true h, if_pos h]
  · rw [decide_eq_false h, if_neg h]
theorem rdL_up {α : Type} (z : α) (l : List (Nat × Nat × Nat × α)) (i k : Nat) (v : α) : up2 (rdL z l) i k v = rdL z ((i, k, 1, v) :: l) := by
  funext a b
  rw [rdL_cons]
  by_cases h : a = i ∧ b = k
  · obtain ⟨rfl, rfl⟩ := h
    rw [up2_eq, if_pos (by simp)]
  · rw [if_neg (fun w => h ⟨w.1.symm, by have := w.2.1; have := w.2.2; simp only at *; omega⟩)]
    by_cases ha : a = i
    · subst ha; exact up2_nk (fun w => h ⟨rfl, w⟩) _
    · exact up2_ne ha _
theorem rdL_fl (l : List (Nat × Nat × Nat × Int)) (r n : Nat) (v : Int) : fl (rdL 0 l) r n v = rdL 0 ((r, 0, n, v) :: l) := by
  funext a b
  rw [rdL_cons]
  unfold fl
  by_cases h : a = r ∧ b < n
  · rw [if_pos h, if_pos ⟨h.1.symm, Nat.zero_le _, by simp only [Nat.zero_add]; exact h.2⟩]
  · rw [if_neg h, if_neg (fun w => h ⟨w.1.symm, by have := w.2.2; simp only [Nat.zero_add] at this; exact this⟩)]
def noR {α : Type} (l : List (Nat × Nat × Nat × α)) (i : Nat) : Bool := l.all fun q => decide (q.1 ≠ i)
theorem rdL_row {α : Type} {z : α} {l : List (Nat × Nat × Nat × α)} {i : Nat} (h : noR l i = true) (k : Nat) : rdL z l i k = z := by
  unfold rdL
  rw [List.find?_eq_none.mpr (fun q hq => by
    have := List.all_eq_true.mp h q hq
    simp only [decide_eq_true_eq] at this
    simp only [decide_eq_true_eq]
    exact fun w => this w.1)]
theorem rdL_zr {α : Type} {z : α} {l : List (Nat × Nat × Nat × α)} {i : Nat} (h : noR l i = true) : zr (rdL z l) i z = rdL z l := by
  funext a b
  unfold zr
  split
  · next he => rw [he, rdL_row h]
  · rfl
theorem slo_take {l : Kd} {j : Nat} {q : Nat × Nat} (h : l[j]? = some q) : slo (l.take (j + 1)) = slo (l.take j) + q.2 := by
  rw [List.take_succ, h]
  exact slo_app _ _
theorem slo_mono (l : Kd) (j : Nat) : ∀ c, slo (l.take j) ≤ slo (l.take (j + c))
  | 0 => Nat.le_refl _
  | c + 1 => by
    have := slo_mono l j c
    rw [show j + (c + 1) = j + c + 1 by omega]
    cases hq : l[j + c]? with
    | none =>
      have hl := List.getElem?_eq_none_iff.mp hq
      rw [List.take_of_length_le (show l.length ≤ j + c + 1 by omega)]
      rw [List.take_of_length_le hl] at this
      exact this
    | some q => rw [slo_take hq]; omega
theorem kle {a c : Nat} (h : a ≤ c) : (KD.take a).length ≤ (KD.take c).length ∧ slo (KD.take a) ≤ slo (KD.take c) := by
  refine ⟨by rw [List.length_take, List.length_take]; omega, ?_⟩
  have := slo_mono KD a (c - a)
  rw [show a + (c - a) = c by omega] at this
  exact this
theorem wp_so {cs : Cs} {mt : Mth} {kf : Kd} {Q : Option AV → Mm → Prop} {pc : Nat} {L : Lc} {S : List AV} {σ σ' : St} (h : σ = σ') (k : wp cs mt kf Q pc L S σ') : wp cs mt kf Q pc L S σ := h ▸ k
theorem kt {j : Nat} {q : Nat × Nat} (h : KD[j]? = some q) : (KD.take j).length = j ∧ KD.take j ++ [q] = KD.take (j + 1) := by
  have hl := (List.getElem?_eq_some_iff.mp h).1
  exact ⟨by rw [List.length_take]; omega, by rw [List.take_succ, h]; rfl⟩
theorem ktg {j r : Nat} {q : Nat × Nat} (h : KD[r]? = some q) (hj : r < j) : (KD.take j)[r]? = some q := by
  rw [List.getElem?_take, if_pos hj]; exact h
theorem KD_len : KD.length = 201 := by decide +kernel
section KN
variable {cs : Cs} {mt : Mth} {f : Nat} {Q : Option AV → Mm → Prop} {pc : Nat} {L : Lc} {S : List AV} {il ll : List (Nat × Nat × Nat × Int)} {rl : List (Nat × Nat × Nat × Nat)}
theorem kfit {j : Nat} {q : Nat × Nat} (h : KD[j]? = some q) (hj : j < f) : (KD.take j).length + 1 ≤ (KD.take f).length ∧ slo (KD.take j) + q.2 ≤ slo (KD.take f) ∧ (KD.take j).length < 1000000 := by
  have h1 := kle (a := j + 1) (c := f) (by omega)
  have h2 := kt h
  have h3 := slo_take h
  have hl := (List.getElem?_eq_some_iff.mp h).1
  have h4 : (KD.take (j + 1)).length = j + 1 := by rw [List.length_take]; omega
  rw [KD_len] at hl
  omega
theorem kn_new {idx ci N j : Nat} (hd : decode mt.2.1 pc = .ok (.new idx, 3)) (hf : NLk mt.1.cls idx ci N) (hk : KD[j]? = some (ci + 4, N)) (hj : j < f) (h1 : noR il j = true) (h2 : noR ll j = true) (h3 : noR rl j = true)
    (kk : wp cs mt (KD.take f) Q (pc + 3) L (vR j :: S) (KD.take (j + 1), rdL 0 il, rdL 0 ll, rdL 1000000 rl)) : wp cs mt (KD.take f) Q pc L S (KD.take j, rdL 0 il, rdL 0 ll, rdL 1000000 rl) := by
  obtain ⟨f1, f2, f3⟩ := kfit hk hj
  refine wp_new hd hf f1 f2 f3 ?_
  rw [(kt hk).2, (kt hk).1, rdL_zr h1, rdL_zr h2, rdL_zr h3]
  exact kk
theorem kn_nI {n : Int} {j : Nat} (hd : decode mt.2.1 pc = .ok (.newarray .int, 2)) (hn : 0 ≤ n ∧ n ≤ 1000000) (hk : KD[j]? = some (0, n.toNat)) (hj : j < f) (h1 : noR il j = true)
    (kk : wp cs mt (KD.take f) Q (pc + 2) L (vR j :: S) (KD.take (j + 1), rdL 0 il, rdL 0 ll, rdL 1000000 rl)) : wp cs mt (KD.take f) Q pc L (vI n :: S) (KD.take j, rdL 0 il, rdL 0 ll, rdL 1000000 rl) := by
  obtain ⟨f1, f2, f3⟩ := kfit hk hj
  refine wp_newI hd ar_int hn f1 f2 f3 ?_
  rw [(kt hk).2, (kt hk).1, rdL_zr h1]
  exact kk
theorem kn_nB {n : Int} {j : Nat} (hd : decode mt.2.1 pc = .ok (.newarray .byte, 2)) (hn : 0 ≤ n ∧ n ≤ 1000000) (hk : KD[j]? = some (1, n.toNat)) (hj : j < f) (h1 : noR il j = true)
    (kk : wp cs mt (KD.take f) Q (pc + 2) L (vR j :: S) (KD.take (j + 1), rdL 0 il, rdL 0 ll, rdL 1000000 rl)) : wp cs mt (KD.take f) Q pc L (vI n :: S) (KD.take j, rdL 0 il, rdL 0 ll, rdL 1000000 rl) := by
  obtain ⟨f1, f2, f3⟩ := kfit hk hj
  refine wp_newB hd ar_byte hn f1 f2 f3 ?_
  rw [(kt hk).2, (kt hk).1, rdL_zr h1]
  exact kk
theorem kn_nZ {n : Int} {j : Nat} (hd : decode mt.2.1 pc = .ok (.newarray .boolean, 2)) (hn : 0 ≤ n ∧ n ≤ 1000000) (hk : KD[j]? = some (2, n.toNat)) (hj : j < f) (h1 : noR il j = true)
    (kk : wp cs mt (KD.take f) Q (pc + 2) L (vR j :: S) (KD.take (j + 1), rdL 0 il, rdL 0 ll, rdL 1000000 rl)) : wp cs mt (KD.take f) Q pc L (vI n :: S) (KD.take j, rdL 0 il, rdL 0 ll, rdL 1000000 rl) := by
  obtain ⟨f1, f2, f3⟩ := kfit hk hj
  refine wp_newZ hd ar_boolean hn f1 f2 f3 ?_
  rw [(kt hk).2, (kt hk).1, rdL_zr h1]
  exact kk
theorem kn_nJ {n : Int} {j : Nat} (hd : decode mt.2.1 pc = .ok (.newarray .long, 2)) (hn : 0 ≤ n ∧ n ≤ 1000000) (hk : KD[j]? = some (3, n.toNat)) (hj : j < f) (h1 : noR ll j = true)
    (kk : wp cs mt (KD.take f) Q (pc + 2) L (vR j :: S) (KD.take (j + 1), rdL 0 il, rdL 0 ll, rdL 1000000 rl)) : wp cs mt (KD.take f) Q pc L (vI n :: S) (KD.take j, rdL 0 il, rdL 0 ll, rdL 1000000 rl) := by
  obtain ⟨f1, f2, f3⟩ := kfit hk hj
  refine wp_newJ hd ar_long hn f1 f2 f3 ?_
  rw [(kt hk).2, (kt hk).1, rdL_zr h1]
  exact kk
theorem kn_pR {r ci N idx k x j : Nat} {ty : FieldType} {fin : Bool} (hd : decode mt.2.1 pc = .ok (.putfield idx, 3)) (hf : PLk mt.1.cls idx ci k 2 ty fin) (hfi : mt.1.name = "<init>") (hk : KD[r]? = some (ci + 4, N)) (hj : r < j) (hr : r < 1000000) (hx : x < 1000000) (hty : (∃ n, ty = .object n) ∨ ∃ t, ty = .array t)
    (kk : wp cs mt (KD.take f) Q (pc + 3) L S (KD.take j, rdL 0 il, rdL 0 ll, rdL 1000000 ((r, k, 1, x) :: rl))) : wp cs mt (KD.take f) Q pc L (vR x :: vR r :: S) (KD.take j, rdL 0 il, rdL 0 ll, rdL 1000000 rl) := by
  refine wp_putR hd hf (fun _ => hfi) (ktg hk hj) hr (Or.inl hx) hty ?_
  rw [rdL_up]; exact kk
theorem kn_pI {r ci N idx k j : Nat} {x : Int} (hd : decode mt.2.1 pc = .ok (.putfield idx, 3)) (hf : PLk mt.1.cls idx ci k 0 .int false) (hk : KD[r]? = some (ci + 4, N)) (hj : r < j) (hr : r < 1000000)
    (kk : wp cs mt (KD.take f) Q (pc + 3) L S (KD.take j, rdL 0 ((r, k, 1, x) :: il), rdL 0 ll, rdL 1000000 rl)) : wp cs mt (KD.take f) Q pc L (vI x :: vR r :: S) (KD.take j, rdL 0 il, rdL 0 ll, rdL 1000000 rl) := by
  refine wp_putI hd hf (ktg hk hj) hr ?_
  rw [rdL_up]; exact kk
theorem kn_pZ {r ci N idx k j : Nat} {x : Int} (hd : decode mt.2.1 pc = .ok (.putfield idx, 3)) (hf : PLk mt.1.cls idx ci k 0 .boolean false) (hk : KD[r]? = some (ci + 4, N)) (hj : r < j) (hr : r < 1000000) (hx : x = 0 ∨ x = 1)
    (kk : wp cs mt (KD.take f) Q (pc + 3) L S (KD.take j, rdL 0 ((r, k, 1, x) :: il), rdL 0 ll, rdL 1000000 rl)) : wp cs mt (KD.take f) Q pc L (vI x :: vR r :: S) (KD.take j, rdL 0 il, rdL 0 ll, rdL 1000000 rl) := by
  refine wp_putZ hd hf (ktg hk hj) hr hx ?_
  rw [rdL_up]; exact kk
theorem kn_pB {r ci N idx k j : Nat} {x : Int} (hd : decode mt.2.1 pc = .ok (.putfield idx, 3)) (hf : PLk mt.1.cls idx ci k 0 .byte false) (hk : KD[r]? = some (ci + 4, N)) (hj : r < j) (hr : r < 1000000) (hx : -128 ≤ x ∧ x < 128)
    (kk : wp cs mt (KD.take f) Q (pc + 3) L S (KD.take j, rdL 0 ((r, k, 1, x) :: il), rdL 0 ll, rdL 1000000 rl)) : wp cs mt (KD.take f) Q pc L (vI x :: vR r :: S) (KD.take j, rdL 0 il, rdL 0 ll, rdL 1000000 rl) := by
  refine wp_putB hd hf (ktg hk hj) hr hx ?_
  rw [rdL_up]; exact kk
theorem kn_pL {r ci N idx k j : Nat} {x : Int} (hd : decode mt.2.1 pc = .ok (.putfield idx, 3)) (hf : PLk mt.1.cls idx ci k 1 .long false) (hk : KD[r]? = some (ci + 4, N)) (hj : r < j) (hr : r < 1000000)
    (kk : wp cs mt (KD.take f) Q (pc + 3) L S (KD.take j, rdL 0 il, rdL 0 ((r, k, 1, x) :: ll), rdL 1000000 rl)) : wp cs mt (KD.take f) Q pc L (vL x :: vR r :: S) (KD.take j, rdL 0 il, rdL 0 ll, rdL 1000000 rl) := by
  refine wp_putL hd hf (ktg hk hj) hr ?_
  rw [rdL_up]; exact kk
theorem kn_gR {r ci N idx k j v : Nat} (hd : decode mt.2.1 pc = .ok (.getfield idx, 3)) (hf : FLk mt.1.cls idx ci k 2) (hk : KD[r]? = some (ci + 4, N)) (hj : r < j) (hr : r < 1000000) (hv : rdL 1000000 rl r k = v)
    (kk : wp cs mt (KD.take f) Q (pc + 3) L (vR v :: S) (KD.take j, rdL 0 il, rdL 0 ll, rdL 1000000 rl)) : wp cs mt (KD.take f) Q pc L (vR r :: S) (KD.take j, rdL 0 il, rdL 0 ll, rdL 1000000 rl) := by
  refine wp_getR hd hf (ktg hk hj) hr ?_
  rw [hv]; exact kk
/-- the constructor of a cell r ends in a memory that is known -/
def Mk (cs : Cs) (mt' : Mth) (as : List AV) (r j j' : Nat) (il ll : List (Nat × Nat × Nat × Int)) (rl : List (Nat × Nat × Nat × Nat)) (il' ll' : List (Nat × Nat × Nat × Int)) (rl' : List (Nat × Nat × Nat × Nat)) : Prop :=
  ∀ Q : Option AV → Mm → Prop, Q none (rdL 0 il', rdL 0 ll', rdL 1000000 rl') → wp cs mt' (KD.take j') Q 0 (padL (vR r :: as) mt'.2.2.1) [] (KD.take j, rdL 0 il, rdL 0 ll, rdL 1000000 rl)
variable {il' ll' : List (Nat × Nat × Nat × Int)} {rl' : List (Nat × Nat × Nat × Nat)}
theorem kn_call {mt' : Mth} {idx n r j j' : Nat} {as rest : List AV} (hd : decode mt.2.1 pc = .ok (.invokespecial idx, 3)) (hl : Cond.methodLink mt.1.cls idx mt'.1 ∈ lw_tbl) (hk : MOK mt') (hv : Cond.instanceMethod mt'.1 ∈ lw_tbl) (hy1 : mt'.1.name = "<init>") (hret : mt'.2.2.2.1 = none) (hroom : mt'.2.2.2.2.1 + 1 ≤ mt.2.2.2.2.1 ∧ 8 + (mt'.2.2.1 + 11) + mt'.2.2.2.2.2 ≤ mt.2.2.2.2.2)
    (hn : (parseMethodDescriptor mt'.1.desc).map (fun d => d.parameters.length) = some n) (hlen : as.length = n) (hel : (entL (vR r :: as)).length ≤ mt'.2.2.1) (hr : r < 1000000) (hst : S = as.reverse ++ vR r :: rest) (hcat : catS rest ≤ 8) (hj : j ≤ j') (hj' : j' ≤ f)
    (h : Mk cs mt' as r j j' il ll rl il' ll' rl') (k : wp cs mt (KD.take f) Q (pc + 3) L rest (KD.take j', rdL 0 il', rdL 0 ll', rdL 1000000 rl')) : wp cs mt (KD.take f) Q pc L S (KD.take j, rdL 0 il, rdL 0 ll, rdL 1000000 rl) :=
  wp_callI (Q' := fun r M => r = none ∧ M = (rdL 0 il', rdL 0 ll', rdL 1000000 rl')) hd hl hk hv hy1 hret hroom hn hlen hel hr hst hcat (kle hj) (kle hj') (h _ ⟨rfl, rfl⟩) (fun r M' hq _ => by obtain ⟨rfl, rfl⟩ := hq; exact k)
theorem kn_callN {mt' : Mth} {idx n r j j' : Nat} {as rest : List AV} {host : String} (hd : decode mt.2.1 pc = .ok (.invokespecial idx, 3)) (hl : (mt.1.cls, idx, mt'.1, host) ∈ nestT) (hk : MOK mt') (hv : Cond.instanceMethod mt'.1 ∈ lw_tbl) (hy1 : mt'.1.name = "<init>") (hret : mt'.2.2.2.1 = none) (hroom : mt'.2.2.2.2.1 + 1 ≤ mt.2.2.2.2.1 ∧ 8 + (mt'.2.2.1 + 11) + mt'.2.2.2.2.2 ≤ mt.2.2.2.2.2)
    (hn : (parseMethodDescriptor mt'.1.desc).map (fun d => d.parameters.length) = some n) (hlen : as.length = n) (hel : (entL (vR r :: as)).length ≤ mt'.2.2.1) (hr : r < 1000000) (hst : S = as.reverse ++ vR r :: rest) (hcat : catS rest ≤ 8) (hj : j ≤ j') (hj' : j' ≤ f)
    (h : Mk cs mt' as r j j' il ll rl il' ll' rl') (k : wp cs mt (KD.take f) Q (pc + 3) L rest (KD.take j', rdL 0 il', rdL 0 ll', rdL 1000000 rl')) : wp cs mt (KD.take f) Q pc L S (KD.take j, rdL 0 il, rdL 0 ll, rdL 1000000 rl) :=
  wp_callIN (Q' := fun r M => r = none ∧ M = (rdL 0 il', rdL 0 ll', rdL 1000000 rl')) hd hl hk hv hy1 hret hroom hn hlen hel hr hst hcat (kle hj) (kle hj') (h _ ⟨rfl, rfl⟩) (fun r M' hq _ => by obtain ⟨rfl, rfl⟩ := hq; exact k)
end KN
section FIL
variable {cs : Cs} {Q : Option AV → Mm → Prop} {MI ML : Nat → Nat → Int} {MR : Nat → Nat → Nat} {kd : Kd}
theorem w_fillIk_l {r n : Nat} {v : Int} (hr : kd[r]? = some (0, n)) (hr2 : r < 1000000) (hn : n < 1000000) : ∀ (j m : Nat), m + j = n → Q none (fl MI r n v, ML, MR) → wp cs mJ7_fill_53178 kd Q 5 [some (vR r), some (vI v), some (vI (m : Int)), some (vI (n : Int))] [] (kd, fl MI r m v, ML, MR) := by
  intro j
  induction j with
  | zero =>
    intro m hm hQ
    refine wp_iload_n dJ7_fill_53178_5 rfl rfl ?_
    refine wp_iload_n dJ7_fill_53178_6 rfl rfl ?_
    refine wp_icmp_ge (tgt := 20) dJ7_fill_53178_7 (by decide) (fun h => ?_) (fun h => by omega)
    exact wp_vret dJ7_fill_53178_20 rfl (fun _ => by rw [show m = n by omega]; exact hQ)
  | succ j ih =>
    intro m hm hQ
    refine wp_iload_n dJ7_fill_53178_5 rfl rfl ?_
    refine wp_iload_n dJ7_fill_53178_6 rfl rfl ?_
    refine wp_icmp_ge (tgt := 20) dJ7_fill_53178_7 (by decide) (fun h => by omega) (fun h => ?_)
    refine wp_aload_n dJ7_fill_53178_10 rfl rfl (Or.inl hr2) ?_
    refine wp_iload_n dJ7_fill_53178_11 rfl rfl ?_
    refine wp_iload_n dJ7_fill_53178_12 rfl rfl ?_
    refine wp_iast dJ7_fill_53178_13 hr hr2 (by omega) ?_
    refine wp_M (M' := (fl MI r (m + 1) v, ML, MR)) (by rw [Int.toNat_natCast, fl_s]) ?_
    refine wp_iincr dJ7_fill_53178_14 rfl (by decide) (by omega) (wp_L (L' := [some (vR r), some (vI v), some (vI ((m + 1 : Nat) : Int)), some (vI (n : Int))]) rfl ?_)
    refine wp_goto (tgt := 5) dJ7_fill_53178_17 (by decide) ?_
    exact ih (m + 1) (by omega) hQ
theorem w_fillIk {r n : Nat} {v : Int} (hr : kd[r]? = some (0, n)) (hr2 : r < 1000000) (hn : n < 1000000) (hQ : Q none (fl MI r n v, ML, MR)) : wp cs mJ7_fill_53178 kd Q 0 (padL [vR r, vI v] 4) [] (kd, MI, ML, MR) := by
  refine wp_L (L' := [some (vR r), some (vI v), none, none]) rfl ?_
  refine wp_iconst dJ7_fill_53178_0 (by decide) ?_
  refine wp_istore_n dJ7_fill_53178_1 rfl (by decide) (wp_L (L' := [some (vR r), some (vI v), some (vI 0), none]) rfl ?_)
  refine wp_aload_n dJ7_fill_53178_2 rfl rfl (Or.inl hr2) ?_
  refine wp_alen dJ7_fill_53178_3 hr (by decide) hr2 (by omega) ?_
  refine wp_istore_n dJ7_fill_53178_4 rfl (by decide) (wp_L (L' := [some (vR r), some (vI v), some (vI ((0 : Nat) : Int)), some (vI (n : Int))]) rfl ?_)
  refine wp_M (M' := (fl MI r 0 v, ML, MR)) (by rw [fl_0]) ?_
  exact w_fillIk_l hr hr2 hn n 0 (by omega) hQ
end FIL
