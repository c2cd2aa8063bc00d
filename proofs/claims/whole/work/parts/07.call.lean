theorem gw_in {w : Cond} (h : w ∈ gw) : w ∈ gw ∧ ((w.onTables && w.keeps) = true ∨ ∃ ty, w = .arrayClass ty) := ⟨h, good_of_word (List.mem_filter.mp h).2⟩
def entL : List AV → Lc
  | [] => []
  | .inr (.inl x) :: t => some (.inr (.inl x)) :: none :: entL t
  | v :: t => some v :: entL t
def padL (as : List AV) (n : Nat) : Lc := entL as ++ List.replicate (n - (entL as).length) none
theorem entL_get (cs : Cs) (hf : fmtOk cs) : ∀ (as : List AV) (j i : Nat) (v : AV), (entL as)[i]? = some (some v) → (j + i, cv cs v) ∈ lv_args j (as.map (cv cs))
  | [], _, _, _, h => by simp [entL] at h
  | .inl x :: t, j, 0, v, h => by simp [entL] at h; subst h; exact List.mem_cons_self
  | .inl x :: t, j, i + 1, v, h => by
    simp only [entL, List.getElem?_cons_succ] at h
    have h1 := entL_get cs hf t (j + 1) i v h
    rw [show j + (i + 1) = j + 1 + i by omega]
    exact List.mem_cons_of_mem _ h1
  | .inr (.inr x) :: t, j, 0, v, h => by simp [entL] at h; subst h; exact List.mem_cons_self
  | .inr (.inr x) :: t, j, i + 1, v, h => by
    simp only [entL, List.getElem?_cons_succ] at h
    have h1 := entL_get cs hf t (j + 1) i v h
    rw [show j + (i + 1) = j + 1 + i by omega]
    have hc : ¬ (cv cs (.inr (.inr x))).category = 2 := by
      have h2 := cv_cat hf (u := .inr (.inr x)) (fun y e => by cases e)
      omega
    simp only [List.map_cons, lv_args, if_neg hc]
    exact List.mem_cons_of_mem _ h1
  | .inr (.inl x) :: t, j, 0, v, h => by simp [entL] at h; subst h; exact List.mem_cons_self
  | .inr (.inl x) :: t, j, 1, v, h => by simp [entL] at h
  | .inr (.inl x) :: t, j, i + 2, v, h => by
    simp only [entL, List.getElem?_cons_succ] at h
    have h1 := entL_get cs hf t (j + 2) i v h
    rw [show j + (i + 2) = j + 2 + i by omega]
    exact List.mem_cons_of_mem _ h1
theorem padL_get {as : List AV} {n i : Nat} {v : AV} (h : (padL as n)[i]? = some (some v)) : (entL as)[i]? = some (some v) := by
  unfold padL at h
  by_cases hi : i < (entL as).length
  · rwa [List.getElem?_append_left hi] at h
  · rw [List.getElem?_append_right (by omega)] at h
    have := List.eq_of_mem_replicate (List.mem_of_getElem? h)
    cases this
theorem entL_ok : ∀ (as : List AV) (i : Nat) (v : AV), okS as → (entL as)[i]? = some (some v) → okV v
  | [], _, _, _, h => by simp [entL] at h
  | .inl x :: t, 0, v, ho, h => by simp [entL] at h; subst h; exact ho.hd
  | .inl x :: t, i + 1, v, ho, h => entL_ok t i v ho.tl (by simpa [entL] using h)
  | .inr (.inr x) :: t, 0, v, ho, h => by simp [entL] at h; subst h; exact ho.hd
  | .inr (.inr x) :: t, i + 1, v, ho, h => entL_ok t i v ho.tl (by simpa [entL] using h)
  | .inr (.inl x) :: t, 0, v, ho, h => by simp [entL] at h; subst h; exact ho.hd
  | .inr (.inl x) :: t, 1, v, ho, h => by simp [entL] at h
  | .inr (.inl x) :: t, i + 2, v, ho, h => entL_ok t i v ho.tl (by simpa [entL] using h)
theorem entL_len (cs : Cs) (hf : fmtOk cs) : ∀ as : List AV, (lg_sl (as.map (cv cs))).length = (entL as).length
  | [] => rfl
  | .inl x :: t => by
    have := entL_len cs hf t
    simp only [lg_sl, List.map_cons, List.flatMap_cons, List.length_append, entL, List.length_cons] at this ⊢
    rw [this]
    simp [cv, Value.category]
    omega
  | .inr (.inl x) :: t => by
    have := entL_len cs hf t
    simp only [lg_sl, List.map_cons, List.flatMap_cons, List.length_append, entL, List.length_cons] at this ⊢
    rw [this]
    simp [cv, Value.category]
    omega
  | .inr (.inr x) :: t => by
    have := entL_len cs hf t
    have h2 := cv_cat hf (u := .inr (.inr x)) (fun y e => by cases e)
    simp only [lg_sl, List.map_cons, List.flatMap_cons, List.length_append, entL, List.length_cons] at this ⊢
    rw [this]
    simp [h2]
    omega
theorem Fz.move {cs : Cs} {u U : State} {H H1 : Heap} (hvm : u.vm.Alike U.vm) (hvk : ∀ own k tx a, vk_R own k tx a u → vk_R own k tx a U) (hnk : ∀ a i x h, va_Nw (.methodLinkNest a i x h) u → va_Nw (.methodLinkNest a i x h) U) (hq : ∀ a : Nat, a < H.size → ¬ aA cs a → H1[a]? = H[a]?) (hz : H.size ≤ H1.size) (h : Fz cs u H) : Fz cs U H1 := by
  obtain ⟨⟨h1, h2, h3⟩, h4, h5, h6, h7, h8⟩ := h
  refine ⟨⟨va_X.kept (va_X.moved hvm h1) (hq _ (Nat.lt_of_lt_of_le (Nat.not_le.mp h2) h3) h2), h2, Nat.le_trans h3 hz⟩, fun k hk => ?_, ⟨fun q hq' => hvk _ _ _ _ (h5.1 q hq'), fun q hq' => hnk _ _ _ _ (h5.2 q hq')⟩, (va_Z.moved hvm h6).kept hq, (va_Z.moved hvm h7).kept hq, h8⟩
  obtain ⟨g1, g2, g3, g4⟩ := h4 k hk
  exact ⟨(va_O.moved hvm g1).kept hq, (va_OF.moved hvm g2).kept hq, (va_OF.moved hvm g3).kept hq, (va_T.moved hvm g4).kept hq⟩
def MOK (mt : Mth) : Prop := plainName mt.1.cls = true ∧ Cond.code mt.1 mt.2.1 mt.2.2.1 mt.2.2.2.1 ∈ lw_tbl ∧ Cond.initialized mt.1.cls ∈ lw_tbl ∧ mt.1.cls ≠ "java/lang/invoke/MethodHandle" ∧ mt.1.cls ≠ "java/lang/invoke/VarHandle"
def Pw (cs : Cs) (kd : Kd) (M : Mm) (as : List AV) : Array Value → State → Prop := va_Pc (as.map (cv cs)) (fun U => Pic cs (kd, M) U.heap ∧ va_K cs.2.2.1 vwCl (tysC cs) U ∧ Fz cs U U.heap)
theorem met_of {cs : Cs} {mt : Mth} {kd kf : Kd} {M : Mm} {as : List AV} {Q : Option AV → Mm → Prop} (l : Launch) (hk : MOK mt) (hM : okM M) (ha : okS as) (hlen : (entL as).length ≤ mt.2.2.1) (hle : kd.length ≤ kf.length ∧ slo kd ≤ slo kf) (h : wp cs mt kf Q 0 (padL as mt.2.2.1) [] (kd, M)) :
    Met l mt.1 (Cond.code mt.1 mt.2.1 mt.2.2.1 mt.2.2.2.1 :: gw) { frames := mt.2.2.2.2.1, cells := kf.length - kd.length, slots := slo kf - slo kd, locals := mt.2.2.2.2.2 } (Pw cs kd M as) (Qm cs kf Q) (kf.length - kd.length) (slo kf - slo kd) (aA cs) := by
  refine Met.ofW (cc := mt.2.1) (maxL := mt.2.2.1) (ret := mt.2.2.2.1) hk.1 rfl ?_
  intro p e s m args below meth c s₁ B hml hv
  obtain ⟨rfl, hP, hK, hF⟩ := hv
  have hf : fmtOk cs := hF.2.2.2.2.2
  have hts := atoms_spec (ws := Cond.code mt.1 mt.2.1 mt.2.2.1 mt.2.2.2.1 :: gw) B.pre
  have hl := lv_entry (as.map (cv cs)) (n := mt.2.2.1) (by rw [entL_len cs hf]; exact hlen)
  have hC : Cx cs mt p { frames := mt.2.2.2.2.1, cells := kf.length - kd.length, slots := slo kf - slo kd, locals := mt.2.2.2.2.2 } s m (as.map (cv cs)).toArray meth c :=
    ⟨B.exec, B.bytes, hml, B.returns, findClass_of_methodNamed B.named, B.notSynchronized, (name_of_methodNamed B.named B.method).1, fun w hw => hts w (List.mem_cons_of_mem _ hw), hK, Nat.le_refl _, Nat.le_refl _, hF⟩
  have hR : Rk cs { frames := mt.2.2.2.2.1, cells := kf.length - kd.length, slots := slo kf - slo kd, locals := mt.2.2.2.2.2 } s kf kd kd := ⟨by show kf.length - kd.length + kd.length = kf.length; omega, by show slo kf - slo kd + slo kd = slo kf; omega, hP.2, Nat.le_refl _, Nat.le_refl _⟩
  have k := h p l e { frames := mt.2.2.2.2.1, cells := kf.length - kd.length, slots := slo kf - slo kd, locals := mt.2.2.2.2.2 } s m (as.map (cv cs)).toArray below meth c s.heap [] _ kd hC hR hM (fun i v hi => entL_ok as i v ha (padL_get hi)) (fun v hv => by cases hv) hP va_S.rf
    ⟨hl.1, hl.2.1, fun i v hi => hl.2.2 _ (by have := entL_get cs hf as 0 i v (padL_get hi); rwa [Nat.zero_add] at this)⟩
  rw [lg_entry_eq]
  simp only [Nat.sub_self] at k
  exact k
section CALLS
variable {cs : Cs} {mt : Mth} {kf : Kd} {Q : Option AV → Mm → Prop} {pc : Nat} {L : Lc} {S : List AV} {kd : Kd} {M : Mm}
theorem callQ {p : Program} {l : Launch} {e : Env} {R : Room} {s : State} {m : MethodId} {args : Array Value} {below : List Frame} {meth : Method} {c : Code} {H : Heap} {locs : List Loc} {cells slots mc ms : Nat} {Qf : State → Prop} {ls : Array Slot} {st0 rest : List Value} {k1 : Kd} {Q' : Option AV → Mm → Prop} {a : Array Value}
    (hr : va_Run p l e R s m args below meth c H locs cells slots mc ms (F0 m pc ls st0) rest (Qm cs k1 Q' a) (aA cs)) (hS : va_S (aA cs) s.heap H locs)
    (kk : ∀ (r : Option AV) (M' : Mm) (H1 : Heap) (locs1 : List Loc), Q' r M' → okM M' → (∀ v, r = some v → okV v) → Pic cs (k1, M') H1 → va_S (aA cs) s.heap H1 locs1 → W p l e R s m args below meth c H1 locs1 (cells + mc) (slots + ms) Qf (F0 m (pc + 3) ls ((r.map (cv cs)).toList ++ rest))) : W p l e R s m args below meth c H locs cells slots Qf (F0 m pc ls st0) := by
  intro T hT X
  obtain ⟨v, st₀, t, T', L, h0, X', hL, e1, e2, ⟨⟨r, M', hv, hq, hM', hrv, hp⟩, hz, hk⟩, st⟩ := hr T hT X
  cases hv
  rw [h0] at hz hk
  obtain ⟨t2, a1, b1⟩ := kk r M' T'.heap (locs ++ L) hq hM' hrv (by rw [e1]; exact hp)
    ⟨Nat.le_trans hS.1 (by rw [e1]; exact hz), fun q h1 h2 => by rw [e1, hk q (Nat.lt_of_lt_of_le h1 hS.1) h2]; exact hS.2.1 q h1 h2, fun q hq => by
      rcases List.mem_append.mp hq with h | h
      · exact hS.2.2 q h
      · exact hL q h⟩ T' rfl X'
  exact ⟨t2, st t2 a1, b1⟩
theorem Pw_blind (as : List AV) : FrameBlind (Pw cs kd M as) := by
  intro a U g mk q
  obtain ⟨q0, q1, q2, q3⟩ := q
  exact ⟨q0, q1, va_K.moved (u := U) (U := U.calling g mk a) (Vm.Alike.refl U.vm) q2, Fz.move (u := U) (U := U.calling g mk a) (Vm.Alike.refl U.vm) (fun _ _ _ _ h => vk_R.same rfl h) (fun _ _ _ _ h => va_Nw.same rfl rfl h) (fun _ _ _ => rfl) (Nat.le_refl _) q3⟩
theorem Pw_at {p : Program} {R : Room} {s : State} {m : MethodId} {args : Array Value} {meth : Method} {c : Code} {H : Heap} {locs : List Loc} (hC : Cx cs mt p R s m args meth c) (hP : Pic cs (kd, M) H) (hV : va_S (aA cs) s.heap H locs) (as : List AV) : ∀ U : State, U.heap = H → s.WarmedH U.vm → Pw cs kd M as (as.map (cv cs)).toArray U := by
  intro U hU hW
  refine ⟨rfl, by rw [hU]; exact hP, va_K.moved hW.alike hC.2.2.2.2.2.2.2.2.1, ?_⟩
  rw [hU]
  exact Fz.move hW.alike (fun _ _ _ _ h => vk_R.warm hW h) (fun _ _ _ _ h => va_Nw.warmM hW h) hV.2.1 hV.1 hC.2.2.2.2.2.2.2.2.2.2.2
/-- what a call gives back, and how it goes on -/
theorem afterCall {p : Program} {l : Launch} {e : Env} {R : Room} {s : State} {m : MethodId} {args : Array Value} {below : List Frame} {meth : Method} {c : Code} {H : Heap} {locs : List Loc} {ls : Array Slot} {k0 k1 : Kd} {rest : List AV} {st0 : List Value} {Q' : Option AV → Mm → Prop} {a : Array Value}
    (hC : Cx cs mt p R s m args meth c) (hR : Rk cs R s kf k0 kd) (hL : okL L) (hS : okS rest) (hV : va_S (aA cs) s.heap H locs) (hl : Lok cs ls mt.2.2.1 L) (hle : kd.length ≤ k1.length ∧ slo kd ≤ slo k1)
    (hr : va_Run p l e R s m args below meth c H locs (kd.length - k0.length) (slo kd - slo k0) (k1.length - kd.length) (slo k1 - slo kd) (F0 m pc ls st0) (rest.map (cv cs)) (Qm cs k1 Q' a) (aA cs))
    (k : ∀ (r : Option AV) (M' : Mm), Q' r M' → okM M' → wp cs mt kf Q (pc + 3) L (r.toList ++ rest) (k1, M')) :
    W p l e R s m args below meth c H locs (kd.length - k0.length) (slo kd - slo k0) (MQ below (Qm cs kf Q) args s (kf.length - k0.length) (slo kf - slo k0) (aA cs)) (F0 m pc ls st0) := by
  obtain ⟨hr1, hr2, hr3, hr4, hr5⟩ := hR
  refine callQ hr hV (fun r M' H1 locs1 g1 g2 g3 g4 g5 => ?_)
  have := k r M' g1 g2 p l e R s m args below meth c H1 locs1 ls k0 hC ⟨hr1, hr2, hr3, Nat.le_trans hr4 hle.1, Nat.le_trans hr5 hle.2⟩ g2 hL (fun v hv => by
    rcases List.mem_append.mp hv with h | h
    · exact g3 v (by cases r with | none => cases h | some u => simp at h; rw [h])
    · exact hS v h) g4 g5 hl
  have e1 : kd.length - k0.length + (k1.length - kd.length) = k1.length - k0.length := by have := hle.1; omega
  have e2 : slo kd - slo k0 + (slo k1 - slo kd) = slo k1 - slo k0 := by have := hle.2; omega
  rw [e1, e2]
  have e3 : (r.map (cv cs)).toList ++ rest.map (cv cs) = (r.toList ++ rest).map (cv cs) := by cases r <;> simp
  rw [e3]
  exact this
def catS (rest : List AV) : Nat := (rest.map (fun v => match v with | .inr (.inl _) => 2 | _ => 1)).sum
theorem catS_eq (hf : fmtOk cs) : ∀ rest : List AV, ((rest.map (cv cs)).map fun v => v.category).sum = catS rest
  | [] => rfl
  | .inl x :: t => by have := catS_eq hf t; simp only [catS, List.map_cons, List.sum_cons] at this ⊢; rw [this]; rfl
  | .inr (.inl x) :: t => by have := catS_eq hf t; simp only [catS, List.map_cons, List.sum_cons] at this ⊢; rw [this]; rfl
  | .inr (.inr x) :: t => by
    have := catS_eq hf t
    have h2 := cv_cat hf (u := .inr (.inr x)) (fun y e => by cases e)
    simp only [catS, List.map_cons, List.sum_cons] at this ⊢
    rw [this, h2]
/-- a method that is called on an object -/
def VOK (y : MethodName) : Prop := Cond.instanceMethod y ∈ lw_tbl ∧ Cond.selects y.cls y y ∈ lw_tbl
theorem room_of {R : Room} {mt' : Mth} (h1 : mt.2.2.2.2.1 ≤ R.frames) (h2 : mt.2.2.2.2.2 ≤ R.locals) (hr : mt'.2.2.2.2.1 + 1 ≤ mt.2.2.2.2.1 ∧ 8 + (mt'.2.2.1 + 11) + mt'.2.2.2.2.2 ≤ mt.2.2.2.2.2) {a b : Nat} : ({ frames := mt'.2.2.2.2.1, cells := a, slots := b, locals := mt'.2.2.2.2.2 } : Room).frames + 1 ≤ R.frames ∧ 8 + (mt'.2.2.1 + 11) + ({ frames := mt'.2.2.2.2.1, cells := a, slots := b, locals := mt'.2.2.2.2.2 } : Room).locals ≤ R.locals := by
  constructor
  · show mt'.2.2.2.2.1 + 1 ≤ R.frames
    omega
  · show 8 + (mt'.2.2.1 + 11) + mt'.2.2.2.2.2 ≤ R.locals
    omega
theorem good_ws {mt' : Mth} (hk : MOK mt') : ∀ w ∈ (Cond.code mt'.1 mt'.2.1 mt'.2.2.1 mt'.2.2.2.1 :: gw), w ∈ gw ∧ ((w.onTables && w.keeps) = true ∨ ∃ ty, w = .arrayClass ty) := by
  intro w hw
  rcases List.mem_cons.mp hw with rfl | hw
  · exact gw_in (gw_mem hk.2.1 rfl)
  · exact gw_in hw
theorem wp_callV {mt' : Mth} {idx n r ci N : Nat} {as rest : List AV} {k1 : Kd} {Q' : Option AV → Mm → Prop} (hd : decode mt.2.1 pc = .ok (.invokevirtual idx, 3)) (hl : Cond.methodLink mt.1.cls idx mt'.1 ∈ lw_tbl) (hk : MOK mt') (hv : VOK mt'.1) (hroom : mt'.2.2.2.2.1 + 1 ≤ mt.2.2.2.2.1 ∧ 8 + (mt'.2.2.1 + 11) + mt'.2.2.2.2.2 ≤ mt.2.2.2.2.2)
    (hn : (parseMethodDescriptor mt'.1.desc).map (fun d => d.parameters.length) = some n) (hlen : as.length = n) (hel : (entL (vR r :: as)).length ≤ mt'.2.2.1) (hr : r < 1000000) (hobj : kd[r]? = some (ci + 4, N)) (hcl : (vwCl[ci]?).map (fun q => q.1) = some mt'.1.cls) (hst : S = as.reverse ++ vR r :: rest) (hcat : catS rest ≤ 8) (hle : kd.length ≤ k1.length ∧ slo kd ≤ slo k1) (hle2 : k1.length ≤ kf.length ∧ slo k1 ≤ slo kf)
    (h : wp cs mt' k1 Q' 0 (padL (vR r :: as) mt'.2.2.1) [] (kd, M)) (k : ∀ (r : Option AV) (M' : Mm), Q' r M' → okM M' → wp cs mt kf Q (pc + 3) L (r.toList ++ rest) (k1, M')) : wp cs mt kf Q pc L S (kd, M) := by
  intro p l e R s m args below meth c H locs ls k0 hC hR hM hL hS hP hV hl'
  subst hst
  have hg := hC.2.2.2.2.2.2.2.1
  have e1 : cv cs (vR r) = .ref (cs.1 + r) := cr_cell hr
  have oka : okS (vR r :: as) := fun v hv => by
    rcases List.mem_cons.mp hv with rfl | hv
    · trivial
    · exact hS v (List.mem_append_left _ (List.mem_reverse.mpr hv))
  have okr : okS rest := fun v hv => hS v (List.mem_append_right _ (List.mem_cons_of_mem _ hv))
  have hM' := met_of l hk hM oka hel hle h
  obtain ⟨q, hq, hqc⟩ : ∃ q, vwCl[ci]? = some q ∧ q.1 = mt'.1.cls := by simpa using hcl
  have hrc := va_recv hC.2.2.2.2.2.2.2.2.1 hP.1 hq (obj_at hobj M)
  rw [hqc] at hrc
  refine afterCall hC hR hL okr hV hl' hle (va_runV (C := mt'.1.cls) (b := cs.1 + r) (As := as.map (cv cs)) ⟨hC.1, hC.2.1, hC.2.2.1, hC.2.2.2.2.1, hg⟩ hM' (cwV n hg ?_ rfl rfl rfl ⟨rfl, hk.2.2.2.1, hk.2.2.2.2, hn⟩ (room_of hC.2.2.2.2.2.2.2.2.2.1 hC.2.2.2.2.2.2.2.2.2.2.1 hroom)) ⟨Pw_blind _, hrc, ?_⟩ rfl (by rw [List.length_map]; exact hlen) hl'.1 ?_ (lv_room (by rw [catS_eq hC.fmt]; exact hcat)) hd ?_) k
  · intro w hw
    unfold wsV at hw
    rcases List.mem_append.mp hw with hw | hw
    · simp only [List.mem_cons, List.not_mem_nil, or_false] at hw
      rcases hw with rfl | rfl | rfl | rfl
      · exact gw_in (gw_mem hl rfl)
      · exact gw_in (gw_mem hv.1 rfl)
      · exact gw_in (gw_mem hv.2 rfl)
      · exact gw_in (gw_mem hk.2.2.1 rfl)
    · exact good_ws hk w hw
  · have := Pw_at (locs := locs) hC hP hV (vR r :: as)
    rw [List.map_cons, e1] at this
    exact this
  · show (as.reverse ++ vR r :: rest).map (cv cs) = _
    rw [List.map_append, List.map_cons, e1, List.map_reverse]
  · obtain ⟨h1, h2, -, h4, h5⟩ := hR
    have := hle.1; have := hle.2; have := hle2.1; have := hle2.2
    have h4' : k0.length ≤ kd.length := h4
    have h5' : slo k0 ≤ slo kd := h5
    show kd.length - k0.length + (k1.length - kd.length) ≤ R.cells ∧ slo kd - slo k0 + (slo k1 - slo kd) ≤ R.slots
    constructor <;> omega
end CALLS
