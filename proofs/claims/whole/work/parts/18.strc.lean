section STRC
variable {cs : Cs} {mt : Mth} {kf : Kd} {Q : Option AV → Mm → Prop} {pc : Nat} {L : Lc} {S : List AV} {kd : Kd} {M : Mm}
theorem wp_callVs {mt' : Mth} {idx n sk_ : Nat} {as rest : List AV} {k1 : Kd} {Q' : Option AV → Mm → Prop} (hd : decode mt.2.1 pc = .ok (.invokevirtual idx, 3)) (hl : Cond.methodLink mt.1.cls idx mt'.1 ∈ lw_tbl) (hk : MOK mt') (hv : VOK mt'.1) (hroom : mt'.2.2.2.2.1 + 1 ≤ mt.2.2.2.2.1 ∧ 8 + (mt'.2.2.1 + 11) + mt'.2.2.2.2.2 ≤ mt.2.2.2.2.2)
    (hn : (parseMethodDescriptor mt'.1.desc).map (fun d => d.parameters.length) = some n) (hlen : as.length = n) (hel : (entL (vR (1000003 + sk_) :: as)).length ≤ mt'.2.2.1) (hks : sk_ < strB.length) (hcl : mt'.1.cls = "java/lang/String") (hst : S = as.reverse ++ vR (1000003 + sk_) :: rest) (hcat : catS rest ≤ 8) (hle : kd.length ≤ k1.length ∧ slo kd ≤ slo k1) (hle2 : k1.length ≤ kf.length ∧ slo k1 ≤ slo kf)
    (h : wp cs mt' k1 Q' 0 (padL (vR (1000003 + sk_) :: as) mt'.2.2.1) [] (kd, M)) (k : ∀ (r : Option AV) (M' : Mm), Q' r M' → okM M' → wp cs mt kf Q (pc + 3) L (r.toList ++ rest) (k1, M')) : wp cs mt kf Q pc L S (kd, M) := by
  intro p l e R s m args below meth c H locs ls k0 hC hR hM hL hS hP hV hl'
  subst hst
  have hg := hC.2.2.2.2.2.2.2.1
  have e1 : cv cs (vR (1000003 + sk_)) = .ref (cs.2.1 (1000003 + sk_)) := cr_sp (by omega)
  have oka : okS (vR (1000003 + sk_) :: as) := fun v hv => by
    rcases List.mem_cons.mp hv with rfl | hv
    · trivial
    · exact hS v (List.mem_append_left _ (List.mem_reverse.mpr hv))
  have okr : okS rest := fun v hv => hS v (List.mem_append_right _ (List.mem_cons_of_mem _ hv))
  have hM' := met_of l hk hM oka hel hle h
  have hrc : ∃ cell : Cell, H[cs.2.1 (1000003 + sk_)]? = some cell ∧ cell.vm.isStatics = false ∧ s.vm.findClass mt'.1.cls = some cell.cls := by
    obtain ⟨cell, g1, g2, g3, -⟩ := (hC.2.2.2.2.2.2.2.2.2.2.2.2.1 sk_ hks).1.kept hV.2.1
    rw [hcl]
    exact ⟨cell, g1, g2, g3⟩
  refine afterCall hC hR hL okr hV hl' hle (va_runV (C := mt'.1.cls) (b := cs.2.1 (1000003 + sk_)) (As := as.map (cv cs)) ⟨hC.1, hC.2.1, hC.2.2.1, hC.2.2.2.2.1, hg⟩ hM' (cwV n hg ?_ rfl rfl rfl ⟨rfl, hk.2.2.2.1, hk.2.2.2.2, hn⟩ (room_of hC.2.2.2.2.2.2.2.2.2.1 hC.2.2.2.2.2.2.2.2.2.2.1 hroom)) ⟨Pw_blind _, hrc, ?_⟩ rfl (by rw [List.length_map]; exact hlen) hl'.1 ?_ (lv_room (by rw [catS_eq hC.fmt]; exact hcat)) hd ?_) k
  · intro w hw
    unfold wsV at hw
    rcases List.mem_append.mp hw with hw | hw
    · simp only [List.mem_cons, List.not_mem_nil, or_false] at hw
      rcases hw with rfl | rfl | rfl | rfl
      · exact gw_in (gw_mem hl rfl)
      · exact gw_in (gw_mem hv.1 rfl)
      · exact gw_in (gw_mem hv.2 rfl)
      · exact gw_in (gw_mem hk.2.2.1 rfl)
    · exact good_ws hk w hw
  · have := Pw_at (locs := locs) hC hP hV (vR (1000003 + sk_) :: as)
    rw [List.map_cons, e1] at this
    exact this
  · show (as.reverse ++ vR (1000003 + sk_) :: rest).map (cv cs) = _
    rw [List.map_append, List.map_cons, e1, List.map_reverse]
  · obtain ⟨h1, h2, -, h4, h5⟩ := hR
    have := hle.1; have := hle.2; have := hle2.1; have := hle2.2
    have h4' : k0.length ≤ kd.length := h4
    have h5' : slo k0 ≤ slo kd := h5
    show kd.length - k0.length + (k1.length - kd.length) ≤ R.cells ∧ slo kd - slo k0 + (slo k1 - slo kd) ≤ R.slots
    constructor <;> omega
theorem wp_cVs {mt' : Mth} {idx n sk_ : Nat} {as rest : List AV} (r0 : Option AV) (M0 : Mm) (hd : decode mt.2.1 pc = .ok (.invokevirtual idx, 3)) (hl : Cond.methodLink mt.1.cls idx mt'.1 ∈ lw_tbl) (hk : MOK mt') (hv : VOK mt'.1) (hroom : mt'.2.2.2.2.1 + 1 ≤ mt.2.2.2.2.1 ∧ 8 + (mt'.2.2.1 + 11) + mt'.2.2.2.2.2 ≤ mt.2.2.2.2.2)
    (hn : (parseMethodDescriptor mt'.1.desc).map (fun d => d.parameters.length) = some n) (hlen : as.length = n) (hel : (entL (vR (1000003 + sk_) :: as)).length ≤ mt'.2.2.1) (hks : sk_ < strB.length) (hcl : mt'.1.cls = "java/lang/String") (hst : S = as.reverse ++ vR (1000003 + sk_) :: rest) (hcat : catS rest ≤ 8)
    (h : okM M → okS S → ∀ Q' : Option AV → Mm → Prop, Q' r0 M0 → wp cs mt' kf Q' 0 (padL (vR (1000003 + sk_) :: as) mt'.2.2.1) [] (kf, M)) (k : okM M0 → wp cs mt kf Q (pc + 3) L (r0.toList ++ rest) (kf, M0)) : wp cs mt kf Q pc L S (kf, M) :=
  wp_ok fun hM _ hS => wp_callVs hd hl hk hv hroom hn hlen hel hks hcl hst hcat ⟨Nat.le_refl _, Nat.le_refl _⟩ ⟨Nat.le_refl _, Nat.le_refl _⟩ (h hM hS (fun r M' => r = r0 ∧ M' = M0) ⟨rfl, rfl⟩) (fun r M' hq hM' => by obtain ⟨rfl, rfl⟩ := hq; exact k hM')
def i_2c (x : Int) : Int := ((Int32.ofInt x).toUInt32 % 65536).toInt32.toInt
theorem wp_i2c {x : Int} {σ : St} (hd : decode mt.2.1 pc = .ok (.i2c, 1)) (k : wp cs mt kf Q (pc + 1) L (vI (i_2c x) :: S) σ) : wp cs mt kf Q pc L (vI x :: S) σ := by
  refine wp_pure (fun _ _ h => okS.cons (v := vI _) (tc8 _) h.tl) (fun _ _ _ _ _ _ _ _ _ _ _ _ _ _ _ _ hC _ hS _ h => ?_) k
  refine lv_i2c (x := Int32.ofInt x) hC.1 hC.2.1 hd rfl ?_
  simp only [List.map_cons, cv, vI, i_2c, tc1] at h
  exact h
end STRC
