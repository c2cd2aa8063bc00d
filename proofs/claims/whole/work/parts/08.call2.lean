section CALLS2
variable {cs : Cs} {mt : Mth} {kf : Kd} {Q : Option AV → Mm → Prop} {pc : Nat} {L : Lc} {S : List AV} {kd : Kd} {M : Mm}
theorem word_nest {own host : String} {idx : Nat} {y : MethodName} {args : Array Value} {s : State} (h : (Cond.methodLinkNest own idx y host).before args s = true) : va_Nw (.methodLinkNest own idx y host) s := h
theorem wp_callS {mt' : Mth} {idx n : Nat} {as rest : List AV} {k1 : Kd} {Q' : Option AV → Mm → Prop} (hd : decode mt.2.1 pc = .ok (.invokestatic idx, 3)) (hl : Cond.methodLink mt.1.cls idx mt'.1 ∈ lw_tbl) (hk : MOK mt') (hv : Cond.static mt'.1 ∈ lw_tbl) (hroom : mt'.2.2.2.2.1 + 1 ≤ mt.2.2.2.2.1 ∧ 8 + (mt'.2.2.1 + 11) + mt'.2.2.2.2.2 ≤ mt.2.2.2.2.2)
    (hn : (parseMethodDescriptor mt'.1.desc).map (fun d => d.parameters.length) = some n) (hlen : as.length = n) (hel : (entL as).length ≤ mt'.2.2.1) (hst : S = as.reverse ++ rest) (hcat : catS rest ≤ 8) (hle : kd.length ≤ k1.length ∧ slo kd ≤ slo k1) (hle2 : k1.length ≤ kf.length ∧ slo k1 ≤ slo kf)
    (h : wp cs mt' k1 Q' 0 (padL as mt'.2.2.1) [] (kd, M)) (k : ∀ (r : Option AV) (M' : Mm), Q' r M' → okM M' → wp cs mt kf Q (pc + 3) L (r.toList ++ rest) (k1, M')) : wp cs mt kf Q pc L S (kd, M) := by
  intro p l e R s m args below meth c H locs ls k0 hC hR hM hL hS hP hV hl'
  subst hst
  have hg := hC.2.2.2.2.2.2.2.1
  have oka : okS as := fun v hv => hS v (List.mem_append_left _ (List.mem_reverse.mpr hv))
  have okr : okS rest := fun v hv => hS v (List.mem_append_right _ hv)
  have hM' := met_of l hk hM oka hel hle h
  refine afterCall hC hR hL okr hV hl' hle (va_runS (As := as.map (cv cs)) ⟨hC.1, hC.2.1, hC.2.2.1, hC.2.2.2.2.1, hg⟩ hM' (va_cwS n hg ?_ rfl rfl rfl ⟨hk.2.2.2.1, hk.2.2.2.2, hn⟩ (room_of hC.2.2.2.2.2.2.2.2.2.1 hC.2.2.2.2.2.2.2.2.2.2.1 hroom)) ⟨Pw_blind _, ?_⟩ rfl (by rw [List.length_map]; exact hlen) hl'.1 ?_ (lv_room (by rw [catS_eq hC.fmt]; exact hcat)) hd ?_) k
  · intro w hw
    unfold va_wsS at hw
    rcases List.mem_append.mp hw with hw | hw
    · simp only [List.mem_cons, List.not_mem_nil, or_false] at hw
      rcases hw with rfl | rfl | rfl
      · exact gw_in (gw_mem hl rfl)
      · exact gw_in (gw_mem hv rfl)
      · exact gw_in (gw_mem hk.2.2.1 rfl)
    · exact good_ws hk w hw
  · exact Pw_at (locs := locs) hC hP hV as
  · show (as.reverse ++ rest).map (cv cs) = _
    rw [List.map_append, List.map_reverse]
  · obtain ⟨h1, h2, -, h4, h5⟩ := hR
    have := hle.1; have := hle.2; have := hle2.1; have := hle2.2
    have h4' : k0.length ≤ kd.length := h4
    have h5' : slo k0 ≤ slo kd := h5
    show kd.length - k0.length + (k1.length - kd.length) ≤ R.cells ∧ slo kd - slo k0 + (slo k1 - slo kd) ≤ R.slots
    constructor <;> omega
theorem wp_callI {mt' : Mth} {idx n r : Nat} {as rest : List AV} {k1 : Kd} {Q' : Option AV → Mm → Prop} (hd : decode mt.2.1 pc = .ok (.invokespecial idx, 3)) (hl : Cond.methodLink mt.1.cls idx mt'.1 ∈ lw_tbl) (hk : MOK mt') (hv : Cond.instanceMethod mt'.1 ∈ lw_tbl) (hy1 : mt'.1.name = "<init>") (hret : mt'.2.2.2.1 = none) (hroom : mt'.2.2.2.2.1 + 1 ≤ mt.2.2.2.2.1 ∧ 8 + (mt'.2.2.1 + 11) + mt'.2.2.2.2.2 ≤ mt.2.2.2.2.2)
    (hn : (parseMethodDescriptor mt'.1.desc).map (fun d => d.parameters.length) = some n) (hlen : as.length = n) (hel : (entL (vR r :: as)).length ≤ mt'.2.2.1) (hr : r < 1000000) (hst : S = as.reverse ++ vR r :: rest) (hcat : catS rest ≤ 8) (hle : kd.length ≤ k1.length ∧ slo kd ≤ slo k1) (hle2 : k1.length ≤ kf.length ∧ slo k1 ≤ slo kf)
    (h : wp cs mt' k1 Q' 0 (padL (vR r :: as) mt'.2.2.1) [] (kd, M)) (k : ∀ (r : Option AV) (M' : Mm), Q' r M' → okM M' → wp cs mt kf Q (pc + 3) L (r.toList ++ rest) (k1, M')) : wp cs mt kf Q pc L S (kd, M) := by
  intro p l e R s m args below meth c H locs ls k0 hC hR hM hL hS hP hV hl'
  subst hst
  have hg := hC.2.2.2.2.2.2.2.1
  have e1 : cv cs (vR r) = .ref (cs.1 + r) := cr_cell hr
  have oka : okS (vR r :: as) := fun v hv => by
    rcases List.mem_cons.mp hv with rfl | hv
    · trivial
    · exact hS v (List.mem_append_left _ (List.mem_reverse.mpr hv))
  have okr : okS rest := fun v hv => hS v (List.mem_append_right _ (List.mem_cons_of_mem _ hv))
  have hM' := met_of l hk hM oka hel hle h
  rw [hret] at hM'
  refine afterCall hC hR hL okr hV hl' hle (va_runI (b := cs.1 + r) (As := as.map (cv cs)) ⟨hC.1, hC.2.1, hC.2.2.1, hC.2.2.2.2.1, hg⟩ hM' (cwI n hg ?_ rfl rfl rfl (hg _ (gw_mem hk.2.2.1 rfl)) (hg _ (gw_mem hl rfl)) (hg _ (gw_mem hv rfl)) hy1 ⟨hk.2.2.2.1, hk.2.2.2.2, hn⟩ (room_of hC.2.2.2.2.2.2.2.2.2.1 hC.2.2.2.2.2.2.2.2.2.2.1 hroom)) ⟨Pw_blind _, ?_⟩ rfl (by rw [List.length_map]; exact hlen) hl'.1 ?_ (lv_room (by rw [catS_eq hC.fmt]; exact hcat)) hd ?_) k
  · have := good_ws hk
    rw [hret] at this
    exact this
  · have := Pw_at (locs := locs) hC hP hV (vR r :: as)
    rw [List.map_cons, e1] at this
    exact this
  · show (as.reverse ++ vR r :: rest).map (cv cs) = _
    rw [List.map_append, List.map_cons, e1, List.map_reverse]
  · obtain ⟨h1, h2, -, h4, h5⟩ := hR
    have := hle.1; have := hle.2; have := hle2.1; have := hle2.2
    have h4' : k0.length ≤ kd.length := h4
    have h5' : slo k0 ≤ slo kd := h5
    show kd.length - k0.length + (k1.length - kd.length) ≤ R.cells ∧ slo kd - slo k0 + (slo k1 - slo kd) ≤ R.slots
    constructor <;> omega
theorem wp_callIN {mt' : Mth} {idx n r : Nat} {as rest : List AV} {k1 : Kd} {Q' : Option AV → Mm → Prop} (hd : decode mt.2.1 pc = .ok (.invokespecial idx, 3)) {host : String} (hl : (mt.1.cls, idx, mt'.1, host) ∈ nestT) (hk : MOK mt') (hv : Cond.instanceMethod mt'.1 ∈ lw_tbl) (hy1 : mt'.1.name = "<init>") (hret : mt'.2.2.2.1 = none) (hroom : mt'.2.2.2.2.1 + 1 ≤ mt.2.2.2.2.1 ∧ 8 + (mt'.2.2.1 + 11) + mt'.2.2.2.2.2 ≤ mt.2.2.2.2.2)
    (hn : (parseMethodDescriptor mt'.1.desc).map (fun d => d.parameters.length) = some n) (hlen : as.length = n) (hel : (entL (vR r :: as)).length ≤ mt'.2.2.1) (hr : r < 1000000) (hst : S = as.reverse ++ vR r :: rest) (hcat : catS rest ≤ 8) (hle : kd.length ≤ k1.length ∧ slo kd ≤ slo k1) (hle2 : k1.length ≤ kf.length ∧ slo k1 ≤ slo kf)
    (h : wp cs mt' k1 Q' 0 (padL (vR r :: as) mt'.2.2.1) [] (kd, M)) (k : ∀ (r : Option AV) (M' : Mm), Q' r M' → okM M' → wp cs mt kf Q (pc + 3) L (r.toList ++ rest) (k1, M')) : wp cs mt kf Q pc L S (kd, M) := by
  intro p l e R s m args below meth c H locs ls k0 hC hR hM hL hS hP hV hl'
  subst hst
  have hg := hC.2.2.2.2.2.2.2.1
  have e1 : cv cs (vR r) = .ref (cs.1 + r) := cr_cell hr
  have oka : okS (vR r :: as) := fun v hv => by
    rcases List.mem_cons.mp hv with rfl | hv
    · trivial
    · exact hS v (List.mem_append_left _ (List.mem_reverse.mpr hv))
  have okr : okS rest := fun v hv => hS v (List.mem_append_right _ (List.mem_cons_of_mem _ hv))
  have hM' := met_of l hk hM oka hel hle h
  rw [hret] at hM'
  refine afterCall hC hR hL okr hV hl' hle (va_runIN (host := host) (b := cs.1 + r) (As := as.map (cv cs)) ⟨hC.1, hC.2.1, hC.2.2.1, hC.2.2.2.2.1, hg⟩ hM' ⟨va_cnB n hg ?_ rfl rfl rfl ?_ (hg _ (gw_mem hk.2.2.1 rfl)) ⟨hk.2.2.2.1, hk.2.2.2.2, hn⟩ (room_of hC.2.2.2.2.2.2.2.2.2.1 hC.2.2.2.2.2.2.2.2.2.2.1 hroom), hy1, hg _ (gw_mem hv rfl)⟩ ⟨Pw_blind _, ?_⟩ rfl (by rw [List.length_map]; exact hlen) hl'.1 ?_ (lv_room (by rw [catS_eq hC.fmt]; exact hcat)) hd ?_) k
  · have := good_ws hk
    rw [hret] at this
    exact this
  · exact hC.2.2.2.2.2.2.2.2.2.2.2.2.2.1.2 _ hl
  · have := Pw_at (locs := locs) hC hP hV (vR r :: as)
    rw [List.map_cons, e1] at this
    exact this
  · show (as.reverse ++ vR r :: rest).map (cv cs) = _
    rw [List.map_append, List.map_cons, e1, List.map_reverse]
  · obtain ⟨h1, h2, -, h4, h5⟩ := hR
    have := hle.1; have := hle.2; have := hle2.1; have := hle2.2
    have h4' : k0.length ≤ kd.length := h4
    have h5' : slo k0 ≤ slo kd := h5
    show kd.length - k0.length + (k1.length - kd.length) ≤ R.cells ∧ slo kd - slo k0 + (slo k1 - slo kd) ≤ R.slots
    constructor <;> omega
end CALLS2
