theorem cW_get {cs : Cs} {σ : St} {i : Nat} {q : Nat × Nat} (h : σ.1[i]? = some q) : (cW cs σ)[i]? = some (cs.1 + i, cE cs σ.2 i q) := by
  simp [cW, List.getElem?_mapIdx, h]
theorem cW_inv {cs : Cs} {σ : St} {i : Nat} {x : Nat × va_E} (h : (cW cs σ)[i]? = some x) : ∃ q, σ.1[i]? = some q ∧ x = (cs.1 + i, cE cs σ.2 i q) := by
  simp only [cW, List.getElem?_mapIdx, Option.map_eq_some_iff] at h
  obtain ⟨q, h1, h2⟩ := h
  exact ⟨q, h1, h2.symm⟩
theorem cW_D (cs : Cs) (σ : St) : va_D (aA cs) (cW cs σ) := by
  refine ⟨fun i j p q hp hq e => ?_, fun k q h => ?_⟩
  · obtain ⟨a, -, rfl⟩ := cW_inv hp
    obtain ⟨b, -, rfl⟩ := cW_inv hq
    simpa using e
  · obtain ⟨a, -, rfl⟩ := cW_inv h
    exact Nat.le_add_right _ _
/-- a store of one word, of two words -/
def unL : Option AV → Option AV
  | some (.inr (.inl _)) => none
  | o => o
def stL : Lc → Nat → AV → Lc
  | [], _, _ => []
  | _ :: t, 0, v => some v :: t
  | o :: t, 1, v => unL o :: stL t 0 v
  | o :: t, i + 2, v => o :: stL t (i + 1) v
def stLL : Lc → Nat → AV → Lc
  | [], _, _ => []
  | _ :: t, 0, v => some v :: (match t with | [] => [] | _ :: t' => none :: t')
  | o :: t, 1, v => unL o :: stLL t 0 v
  | o :: t, i + 2, v => o :: stLL t (i + 1) v
theorem unL_some {o : Option AV} {u : AV} (h : unL o = some u) : o = some u ∧ ∀ x, u ≠ .inr (.inl x) := by
  rcases o with _ | v | v | v
  · cases h
  · cases h; exact ⟨rfl, fun x e => by cases e⟩
  · cases h
  · cases h; exact ⟨rfl, fun x e => by cases e⟩
theorem stL_get : ∀ (L : Lc) (i : Nat) (v : AV) (k : Nat) (u : AV), (stL L i v)[k]? = some (some u) → (k = i ∧ u = v) ∨ (k ≠ i ∧ L[k]? = some (some u) ∧ (k + 1 = i → ∀ x, u ≠ .inr (.inl x)))
  | [], _, _, _, _, h => by simp [stL] at h
  | o :: t, 0, v, 0, u, h => by simp [stL] at h; exact Or.inl ⟨rfl, h.symm⟩
  | o :: t, 0, v, k + 1, u, h => by simp [stL] at h; exact Or.inr ⟨by omega, by simpa using h, fun e => by omega⟩
  | o :: t, 1, v, 0, u, h => by
    simp only [stL, List.getElem?_cons_zero, Option.some.injEq] at h
    obtain ⟨h1, h2⟩ := unL_some h
    exact Or.inr ⟨by omega, by simp [h1], fun _ => h2⟩
  | o :: t, 1, v, k + 1, u, h => by
    simp only [stL, List.getElem?_cons_succ] at h
    rcases stL_get t 0 v k u h with ⟨h1, h2⟩ | ⟨h1, h2, h3⟩
    · exact Or.inl ⟨by omega, h2⟩
    · exact Or.inr ⟨by omega, by simpa using h2, fun e => by omega⟩
  | o :: t, i + 2, v, 0, u, h => by
    simp only [stL, List.getElem?_cons_zero, Option.some.injEq] at h
    exact Or.inr ⟨by omega, by simp [h], fun e => by omega⟩
  | o :: t, i + 2, v, k + 1, u, h => by
    simp only [stL, List.getElem?_cons_succ] at h
    rcases stL_get t (i + 1) v k u h with ⟨h1, h2⟩ | ⟨h1, h2, h3⟩
    · exact Or.inl ⟨by omega, h2⟩
    · exact Or.inr ⟨by omega, by simpa using h2, fun e => h3 (by omega)⟩
theorem stLL_get : ∀ (L : Lc) (i : Nat) (v : AV) (k : Nat) (u : AV), (stLL L i v)[k]? = some (some u) → (k = i ∧ u = v) ∨ (k ≠ i ∧ k ≠ i + 1 ∧ L[k]? = some (some u) ∧ (k + 1 = i → ∀ x, u ≠ .inr (.inl x)))
  | [], _, _, _, _, h => by simp [stLL] at h
  | o :: t, 0, v, 0, u, h => by simp [stLL] at h; exact Or.inl ⟨rfl, h.symm⟩
  | o :: [], 0, v, k + 1, u, h => by simp [stLL] at h
  | o :: o2 :: t, 0, v, 1, u, h => by simp [stLL] at h
  | o :: o2 :: t, 0, v, k + 2, u, h => by simp [stLL] at h; exact Or.inr ⟨by omega, by omega, by simpa using h, fun e => by omega⟩
  | o :: t, 1, v, 0, u, h => by
    simp only [stLL, List.getElem?_cons_zero, Option.some.injEq] at h
    obtain ⟨h1, h2⟩ := unL_some h
    exact Or.inr ⟨by omega, by omega, by simp [h1], fun _ => h2⟩
  | o :: t, 1, v, k + 1, u, h => by
    simp only [stLL, List.getElem?_cons_succ] at h
    rcases stLL_get t 0 v k u h with ⟨h1, h2⟩ | ⟨h1, h2, h3, h4⟩
    · exact Or.inl ⟨by omega, h2⟩
    · exact Or.inr ⟨by omega, by omega, by simpa using h3, fun e => by omega⟩
  | o :: t, i + 2, v, 0, u, h => by
    simp only [stLL, List.getElem?_cons_zero, Option.some.injEq] at h
    exact Or.inr ⟨by omega, by omega, by simp [h], fun e => by omega⟩
  | o :: t, i + 2, v, k + 1, u, h => by
    simp only [stLL, List.getElem?_cons_succ] at h
    rcases stLL_get t (i + 1) v k u h with ⟨h1, h2⟩ | ⟨h1, h2, h3, h4⟩
    · exact Or.inl ⟨by omega, h2⟩
    · exact Or.inr ⟨by omega, by omega, by simpa using h3, fun e => h4 (by omega)⟩
def lvs (cs : Cs) (L : Lc) : List (Nat × Value) := (List.range L.length).filterMap (fun i => match L[i]? with | some (some v) => some (i, cv cs v) | _ => none)
theorem lvs_mem {cs : Cs} {L : Lc} {q : Nat × Value} : q ∈ lvs cs L ↔ ∃ v, L[q.1]? = some (some v) ∧ q.2 = cv cs v := by
  unfold lvs
  rw [List.mem_filterMap]
  constructor
  · rintro ⟨i, -, hi⟩
    split at hi
    · rename_i v hv
      cases hi
      exact ⟨v, hv, rfl⟩
    · cases hi
  · rintro ⟨v, h1, h2⟩
    refine ⟨q.1, List.mem_range.mpr (List.getElem?_eq_some_iff.mp h1).1, ?_⟩
    rw [h1]
    simp [← h2]
theorem Lok.has {cs : Cs} {ls : Array Slot} {nL : Nat} {L : Lc} (h : Lok cs ls nL L) : lv_has ls nL (lvs cs L) := by
  refine ⟨h.1, h.2.1, fun q hq => ?_⟩
  obtain ⟨v, h1, h2⟩ := lvs_mem.mp hq
  rw [h2]
  exact h.2.2 _ _ h1
def fmtOk (cs : Cs) : Prop := cs.2.2.2.2.2.2 = .null ∨ ∃ t, cs.2.2.2.2.2.2 = .ref t
theorem cv_cat {cs : Cs} (hf : fmtOk cs) {u : AV} (h : ∀ x, u ≠ .inr (.inl x)) : (cv cs u).category = 1 := by
  rcases u with x | x | r
  · rfl
  · exact absurd rfl (h x)
  · show (cr cs r).category = 1
    unfold cr
    split
    · rfl
    · split
      · rfl
      · split
        · rcases hf with e | ⟨t, e⟩ <;> rw [e] <;> rfl
        · rfl
theorem Lok.st {cs : Cs} {ls : Array Slot} {nL : Nat} {L : Lc} {i : Nat} {v : AV} (hf : fmtOk cs) (h : lv_has ls nL ((i, cv cs v) :: (lvs cs L).filter (fun q => !(q.1 == i) && !(q.1 + 1 == i && q.2.category == 2)))) : Lok cs ls nL (stL L i v) := by
  refine ⟨h.1, h.2.1, fun k u hk => ?_⟩
  rcases stL_get L i v k u hk with ⟨rfl, rfl⟩ | ⟨h1, h2, h3⟩
  · exact h.2.2 (k, cv cs u) List.mem_cons_self
  · refine h.2.2 (k, cv cs u) (List.mem_cons_of_mem _ (List.mem_filter.mpr ⟨lvs_mem.mpr ⟨u, h2, rfl⟩, ?_⟩))
    by_cases e : k + 1 = i
    · have := cv_cat hf (h3 e)
      simp [h1, e, this]
    · simp [h1, e]
theorem Lok.stt {cs : Cs} {ls : Array Slot} {nL : Nat} {L : Lc} {i : Nat} {v : AV} (hf : fmtOk cs) (h : lv_has ls nL ((i, cv cs v) :: (lvs cs L).filter (fun q => !(q.1 == i) && (!(q.1 == i + 1) && !(q.1 + 1 == i && q.2.category == 2))))) : Lok cs ls nL (stLL L i v) := by
  refine ⟨h.1, h.2.1, fun k u hk => ?_⟩
  rcases stLL_get L i v k u hk with ⟨rfl, rfl⟩ | ⟨h1, h1', h2, h3⟩
  · exact h.2.2 (k, cv cs u) List.mem_cons_self
  · refine h.2.2 (k, cv cs u) (List.mem_cons_of_mem _ (List.mem_filter.mpr ⟨lvs_mem.mpr ⟨u, h2, rfl⟩, ?_⟩))
    by_cases e : k + 1 = i
    · have := cv_cat hf (h3 e)
      simp [h1, h1', e, this]
    · simp [h1, h1', e]
theorem okL.st {L : Lc} {i : Nat} {v : AV} (h : okL L) (hv : okV v) : okL (stL L i v) := by
  intro k u hk
  rcases stL_get L i v k u hk with ⟨-, rfl⟩ | ⟨-, h2, -⟩
  · exact hv
  · exact h k u h2
theorem okL.stt {L : Lc} {i : Nat} {v : AV} (h : okL L) (hv : okV v) : okL (stLL L i v) := by
  intro k u hk
  rcases stLL_get L i v k u hk with ⟨-, rfl⟩ | ⟨-, -, h2, -⟩
  · exact hv
  · exact h k u h2
theorem Cx.fmt {cs : Cs} {mt : Mth} {p : Program} {R : Room} {s : State} {m : MethodId} {args : Array Value} {meth : Method} {c : Code} (h : Cx cs mt p R s m args meth c) : fmtOk cs := by
  obtain ⟨-, -, -, -, -, -, -, -, -, -, -, h1⟩ := h
  exact h1.2.2.2.2.2
section RULES
variable {cs : Cs} {mt : Mth} {kf : Kd} {Q : Option AV → Mm → Prop} {pc : Nat} {L : Lc} {S : List AV} {σ : St}
theorem wp_pure {pc' : Nat} {S' : List AV} (hok : okM σ.2 → okL L → okS S → okS S')
    (hst : ∀ (p : Program) (l : Launch) (e : Env) (R : Room) (s : State) (m : MethodId) (args : Array Value) (below : List Frame) (meth : Method) (c : Code) (H : Heap) (locs : List Loc) (cells slots : Nat) (Qf : State → Prop) (ls : Array Slot),
      Cx cs mt p R s m args meth c → okL L → okS S → Lok cs ls mt.2.2.1 L → W p l e R s m args below meth c H locs cells slots Qf (F0 m pc' ls (S'.map (cv cs))) → W p l e R s m args below meth c H locs cells slots Qf (F0 m pc ls (S.map (cv cs))))
    (k : wp cs mt kf Q pc' L S' σ) : wp cs mt kf Q pc L S σ :=
  fun p l e R s m args below meth c H locs ls k0 hC hR hM hL hS hP hV hl => hst p l e R s m args below meth c H locs _ _ _ ls hC hL hS hl (k p l e R s m args below meth c H locs ls k0 hC hR hM hL (hok hM hL hS) hP hV hl)
theorem okS.tl {v : AV} (h : okS (v :: S)) : okS S := fun u hu => h u (List.mem_cons_of_mem _ hu)
theorem okS.hd {v : AV} (h : okS (v :: S)) : okV v := h v List.mem_cons_self
theorem okS.cons {v : AV} (hv : okV v) (h : okS S) : okS (v :: S) := fun u hu => by
  rcases List.mem_cons.mp hu with rfl | hu
  · exact hv
  · exact h u hu
theorem wp_iconst {n : Int} (hd : decode mt.2.1 pc = .ok (.iconst n, 1)) (hn : -2147483648 ≤ n ∧ n < 2147483648) (k : wp cs mt kf Q (pc + 1) L (vI n :: S) σ) : wp cs mt kf Q pc L S σ :=
  wp_pure (fun _ _ h => okS.cons (v := vI n) hn h) (fun _ _ _ _ _ _ _ _ _ _ _ _ _ _ _ _ hC _ _ _ h => lv_iconst hC.1 hC.2.1 hd rfl h) k
theorem wp_bipush {n : Int} (hd : decode mt.2.1 pc = .ok (.bipush n, 2)) (hn : (Int8.ofInt n).toInt32 = Int32.ofInt n) (hn2 : -2147483648 ≤ n ∧ n < 2147483648) (k : wp cs mt kf Q (pc + 2) L (vI n :: S) σ) : wp cs mt kf Q pc L S σ :=
  wp_pure (fun _ _ h => okS.cons (v := vI n) hn2 h) (fun _ _ _ _ _ _ _ _ _ _ _ _ _ _ _ _ hC _ _ _ h => lv_bipush hC.1 hC.2.1 hd hn h) k
theorem wp_sipush {n : Int} (hd : decode mt.2.1 pc = .ok (.sipush n, 3)) (hn : (Int16.ofInt n).toInt32 = Int32.ofInt n) (hn2 : -2147483648 ≤ n ∧ n < 2147483648) (k : wp cs mt kf Q (pc + 3) L (vI n :: S) σ) : wp cs mt kf Q pc L S σ :=
  wp_pure (fun _ _ h => okS.cons (v := vI n) hn2 h) (fun _ _ _ _ _ _ _ _ _ _ _ _ _ _ _ _ hC _ _ _ h => lv_sipush hC.1 hC.2.1 hd hn h) k
theorem wp_lconst {n : Fin 2} (hd : decode mt.2.1 pc = .ok (.lconst n, 1)) {z : Int} (hz : Int64.ofNat (n : Nat) = Int64.ofInt z) (hn : -9223372036854775808 ≤ z ∧ z < 9223372036854775808) (k : wp cs mt kf Q (pc + 1) L (vL z :: S) σ) : wp cs mt kf Q pc L S σ :=
  wp_pure (fun _ _ h => okS.cons (v := vL z) hn h) (fun _ _ _ _ _ _ _ _ _ _ _ _ _ _ _ _ hC _ _ _ h => lv_lconst hC.1 hC.2.1 hd hz h) k
theorem wp_iload_n {n : Fin 4} {i : Nat} {x : Int} (hd : decode mt.2.1 pc = .ok (.iload_n n, 1)) (hi : (n : Nat) = i) (hl : L[i]? = some (some (vI x))) (k : wp cs mt kf Q (pc + 1) L (vI x :: S) σ) : wp cs mt kf Q pc L S σ :=
  wp_pure (fun _ hL h => h.cons (hL _ _ hl)) (fun _ _ _ _ _ _ _ _ _ _ _ _ _ _ _ _ hC _ _ hK h => lv_iload_n hC.1 hC.2.1 hd hi (hK.2.2 _ _ hl) h) k
theorem wp_iload {i : Nat} {x : Int} (hd : decode mt.2.1 pc = .ok (.iload i, 2)) (hl : L[i]? = some (some (vI x))) (k : wp cs mt kf Q (pc + 2) L (vI x :: S) σ) : wp cs mt kf Q pc L S σ :=
  wp_pure (fun _ hL h => h.cons (hL _ _ hl)) (fun _ _ _ _ _ _ _ _ _ _ _ _ _ _ _ _ hC _ _ hK h => lv_iload hC.1 hC.2.1 hd (hK.2.2 _ _ hl) h) k
theorem wp_lload_n {n : Fin 4} {i : Nat} {x : Int} (hd : decode mt.2.1 pc = .ok (.lload_n n, 1)) (hi : (n : Nat) = i) (hl : L[i]? = some (some (vL x))) (k : wp cs mt kf Q (pc + 1) L (vL x :: S) σ) : wp cs mt kf Q pc L S σ :=
  wp_pure (fun _ hL h => h.cons (hL _ _ hl)) (fun _ _ _ _ _ _ _ _ _ _ _ _ _ _ _ _ hC _ _ hK h => lv_lload_n hC.1 hC.2.1 hd hi (hK.2.2 _ _ hl) h) k
theorem wp_lload {i : Nat} {x : Int} (hd : decode mt.2.1 pc = .ok (.lload i, 2)) (hl : L[i]? = some (some (vL x))) (k : wp cs mt kf Q (pc + 2) L (vL x :: S) σ) : wp cs mt kf Q pc L S σ :=
  wp_pure (fun _ hL h => h.cons (hL _ _ hl)) (fun _ _ _ _ _ _ _ _ _ _ _ _ _ _ _ _ hC _ _ hK h => lv_lload hC.1 hC.2.1 hd (hK.2.2 _ _ hl) h) k
/-- a reference that isn't null -/
def nn (r : Nat) : Prop := r < 1000000 ∨ 1000001 < r
theorem cr_nn {r : Nat} (h : nn r) : ∃ a, cr cs r = .ref a := by
  unfold cr nn at *
  split
  · exact ⟨_, rfl⟩
  · rw [if_neg (by omega), if_neg (by omega)]
    exact ⟨_, rfl⟩
theorem wp_aload_n {n : Fin 4} {i : Nat} {r : Nat} (hd : decode mt.2.1 pc = .ok (.aload_n n, 1)) (hi : (n : Nat) = i) (hl : L[i]? = some (some (vR r))) (hn : nn r) (k : wp cs mt kf Q (pc + 1) L (vR r :: S) σ) : wp cs mt kf Q pc L S σ := by
  obtain ⟨a, ha⟩ := cr_nn (cs := cs) hn
  refine wp_pure (fun _ hL h => h.cons (hL _ _ hl)) (fun p l e R s m args below meth c H locs _ _ _ ls hC _ _ hK h => ?_) k
  have h1 := hK.2.2 _ _ hl
  have e1 : cv cs (vR r) = .ref a := ha
  rw [e1] at h1
  refine lv_aload_n hC.1 hC.2.1 hd hi h1 ?_
  rw [← e1]
  exact h
theorem wp_aload {i : Nat} {r : Nat} (hd : decode mt.2.1 pc = .ok (.aload i, 2)) (hl : L[i]? = some (some (vR r))) (hn : nn r) (k : wp cs mt kf Q (pc + 2) L (vR r :: S) σ) : wp cs mt kf Q pc L S σ := by
  obtain ⟨a, ha⟩ := cr_nn (cs := cs) hn
  refine wp_pure (fun _ hL h => h.cons (hL _ _ hl)) (fun p l e R s m args below meth c H locs _ _ _ ls hC _ _ hK h => ?_) k
  have h1 := hK.2.2 _ _ hl
  have e1 : cv cs (vR r) = .ref a := ha
  rw [e1] at h1
  refine lv_aload hC.1 hC.2.1 hd h1 ?_
  rw [← e1]
  exact h
theorem wp_dup {v : AV} (hd : decode mt.2.1 pc = .ok (.dup, 1)) (hv : ∀ x, v ≠ .inr (.inl x)) (k : wp cs mt kf Q (pc + 1) L (v :: v :: S) σ) : wp cs mt kf Q pc L (v :: S) σ :=
  wp_pure (fun _ _ h => okS.cons h.hd h) (fun _ _ _ _ _ _ _ _ _ _ _ _ _ _ _ _ hC _ _ _ h => lv_dup hC.1 hC.2.1 hd (cv_cat hC.fmt hv) h) k
theorem wp_pop {v : AV} (hd : decode mt.2.1 pc = .ok (.pop, 1)) (hv : ∀ x, v ≠ .inr (.inl x)) (k : wp cs mt kf Q (pc + 1) L S σ) : wp cs mt kf Q pc L (v :: S) σ :=
  wp_pure (fun _ _ h => h.tl) (fun _ _ _ _ _ _ _ _ _ _ _ _ _ _ _ _ hC _ _ _ h => lv_pop hC.1 hC.2.1 hd (cv_cat hC.fmt hv) h) k
theorem wp_dup2 {v u : AV} (hd : decode mt.2.1 pc = .ok (.dup2, 1)) (hv : ∀ x, v ≠ .inr (.inl x)) (hu : ∀ x, u ≠ .inr (.inl x)) (k : wp cs mt kf Q (pc + 1) L (v :: u :: v :: u :: S) σ) : wp cs mt kf Q pc L (v :: u :: S) σ :=
  wp_pure (fun _ _ h => okS.cons h.hd (okS.cons h.tl.hd h)) (fun _ _ _ _ _ _ _ _ _ _ _ _ _ _ _ _ hC _ _ _ h => lv_dup2_11 hC.1 hC.2.1 hd (cv_cat hC.fmt hv) (cv_cat hC.fmt hu) h) k
end RULES
