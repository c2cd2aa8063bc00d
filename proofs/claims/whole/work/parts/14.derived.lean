section DER
variable {cs : Cs} {mt : Mth} {kf : Kd} {Q : Option AV → Mm → Prop} {pc : Nat} {L : Lc} {S : List AV} {kd : Kd} {M : Mm} {σ : St}
theorem wp_ok (k : okM σ.2 → okL L → okS S → wp cs mt kf Q pc L S σ) : wp cs mt kf Q pc L S σ :=
  fun p l e R s m args below meth c H locs ls k0 hC hR hM hL hS hP hV hl => k hM hL hS p l e R s m args below meth c H locs ls k0 hC hR hM hL hS hP hV hl
theorem wp_L {L' : Lc} (h : L = L') (k : wp cs mt kf Q pc L' S σ) : wp cs mt kf Q pc L S σ := h ▸ k
theorem wp_pc {pc' : Nat} (h : pc = pc') (k : wp cs mt kf Q pc' L S σ) : wp cs mt kf Q pc L S σ := h ▸ k
theorem wp_S {S' : List AV} (h : S = S') (k : wp cs mt kf Q pc L S' σ) : wp cs mt kf Q pc L S σ := h ▸ k
theorem wp_M {M' : Mm} (h : M = M') (k : wp cs mt kf Q pc L S (kd, M')) : wp cs mt kf Q pc L S (kd, M) := h ▸ k
theorem wp_topI {x x' : Int} (h : x = x') (k : wp cs mt kf Q pc L (vI x' :: S) σ) : wp cs mt kf Q pc L (vI x :: S) σ := h ▸ k
theorem wp_topL {x x' : Int} (h : x = x') (k : wp cs mt kf Q pc L (vL x' :: S) σ) : wp cs mt kf Q pc L (vL x :: S) σ := h ▸ k
theorem wp_topR {x x' : Nat} (h : x = x') (k : wp cs mt kf Q pc L (vR x' :: S) σ) : wp cs mt kf Q pc L (vR x :: S) σ := h ▸ k
/-- a call in the steady state (no cell is made), whose answer and memory are known -/
theorem wp_cV {mt' : Mth} {idx n r ci N : Nat} {as rest : List AV} (r0 : Option AV) (M0 : Mm) (hd : decode mt.2.1 pc = .ok (.invokevirtual idx, 3)) (hl : Cond.methodLink mt.1.cls idx mt'.1 ∈ lw_tbl) (hk : MOK mt') (hv : VOK mt'.1) (hroom : mt'.2.2.2.2.1 + 1 ≤ mt.2.2.2.2.1 ∧ 8 + (mt'.2.2.1 + 11) + mt'.2.2.2.2.2 ≤ mt.2.2.2.2.2)
    (hn : (parseMethodDescriptor mt'.1.desc).map (fun d => d.parameters.length) = some n) (hlen : as.length = n) (hel : (entL (vR r :: as)).length ≤ mt'.2.2.1) (hr : r < 1000000) (hobj : kf[r]? = some (ci + 4, N)) (hcl : (vwCl[ci]?).map (fun q => q.1) = some mt'.1.cls) (hst : S = as.reverse ++ vR r :: rest) (hcat : catS rest ≤ 8)
    (h : okM M → okS S → ∀ Q' : Option AV → Mm → Prop, Q' r0 M0 → wp cs mt' kf Q' 0 (padL (vR r :: as) mt'.2.2.1) [] (kf, M)) (k : okM M0 → wp cs mt kf Q (pc + 3) L (r0.toList ++ rest) (kf, M0)) : wp cs mt kf Q pc L S (kf, M) :=
  wp_ok fun hM _ hS => wp_callV hd hl hk hv hroom hn hlen hel hr hobj hcl hst hcat ⟨Nat.le_refl _, Nat.le_refl _⟩ ⟨Nat.le_refl _, Nat.le_refl _⟩ (h hM hS (fun r M' => r = r0 ∧ M' = M0) ⟨rfl, rfl⟩) (fun r M' hq hM' => by obtain ⟨rfl, rfl⟩ := hq; exact k hM')
theorem wp_cS {mt' : Mth} {idx n : Nat} {as rest : List AV} (r0 : Option AV) (M0 : Mm) (hd : decode mt.2.1 pc = .ok (.invokestatic idx, 3)) (hl : Cond.methodLink mt.1.cls idx mt'.1 ∈ lw_tbl) (hk : MOK mt') (hv : Cond.static mt'.1 ∈ lw_tbl) (hroom : mt'.2.2.2.2.1 + 1 ≤ mt.2.2.2.2.1 ∧ 8 + (mt'.2.2.1 + 11) + mt'.2.2.2.2.2 ≤ mt.2.2.2.2.2)
    (hn : (parseMethodDescriptor mt'.1.desc).map (fun d => d.parameters.length) = some n) (hlen : as.length = n) (hel : (entL as).length ≤ mt'.2.2.1) (hst : S = as.reverse ++ rest) (hcat : catS rest ≤ 8)
    (h : okM M → okS S → ∀ Q' : Option AV → Mm → Prop, Q' r0 M0 → wp cs mt' kf Q' 0 (padL as mt'.2.2.1) [] (kf, M)) (k : okM M0 → wp cs mt kf Q (pc + 3) L (r0.toList ++ rest) (kf, M0)) : wp cs mt kf Q pc L S (kf, M) :=
  wp_ok fun hM _ hS => wp_callS hd hl hk hv hroom hn hlen hel hst hcat ⟨Nat.le_refl _, Nat.le_refl _⟩ ⟨Nat.le_refl _, Nat.le_refl _⟩ (h hM hS (fun r M' => r = r0 ∧ M' = M0) ⟨rfl, rfl⟩) (fun r M' hq hM' => by obtain ⟨rfl, rfl⟩ := hq; exact k hM')
/-- a call in the steady state, of whose end only Q' is known -/
theorem wp_cVq {mt' : Mth} {idx n r ci N : Nat} {as rest : List AV} (Q' : Option AV → Mm → Prop) (hd : decode mt.2.1 pc = .ok (.invokevirtual idx, 3)) (hl : Cond.methodLink mt.1.cls idx mt'.1 ∈ lw_tbl) (hk : MOK mt') (hv : VOK mt'.1) (hroom : mt'.2.2.2.2.1 + 1 ≤ mt.2.2.2.2.1 ∧ 8 + (mt'.2.2.1 + 11) + mt'.2.2.2.2.2 ≤ mt.2.2.2.2.2)
    (hn : (parseMethodDescriptor mt'.1.desc).map (fun d => d.parameters.length) = some n) (hlen : as.length = n) (hel : (entL (vR r :: as)).length ≤ mt'.2.2.1) (hr : r < 1000000) (hobj : kf[r]? = some (ci + 4, N)) (hcl : (vwCl[ci]?).map (fun q => q.1) = some mt'.1.cls) (hst : S = as.reverse ++ vR r :: rest) (hcat : catS rest ≤ 8)
    (h : okM M → okS S → wp cs mt' kf Q' 0 (padL (vR r :: as) mt'.2.2.1) [] (kf, M)) (k : ∀ (r : Option AV) (M' : Mm), Q' r M' → okM M' → wp cs mt kf Q (pc + 3) L (r.toList ++ rest) (kf, M')) : wp cs mt kf Q pc L S (kf, M) :=
  wp_ok fun hM _ hS => wp_callV hd hl hk hv hroom hn hlen hel hr hobj hcl hst hcat ⟨Nat.le_refl _, Nat.le_refl _⟩ ⟨Nat.le_refl _, Nat.le_refl _⟩ (h hM hS) k
end DER
section DER2
variable {cs : Cs} {mt : Mth} {kf : Kd} {Q : Option AV → Mm → Prop} {pc : Nat} {L : Lc} {S : List AV} {M : Mm}
theorem wp_cSq {mt' : Mth} {idx n : Nat} {as rest : List AV} (Q' : Option AV → Mm → Prop) (hd : decode mt.2.1 pc = .ok (.invokestatic idx, 3)) (hl : Cond.methodLink mt.1.cls idx mt'.1 ∈ lw_tbl) (hk : MOK mt') (hv : Cond.static mt'.1 ∈ lw_tbl) (hroom : mt'.2.2.2.2.1 + 1 ≤ mt.2.2.2.2.1 ∧ 8 + (mt'.2.2.1 + 11) + mt'.2.2.2.2.2 ≤ mt.2.2.2.2.2)
    (hn : (parseMethodDescriptor mt'.1.desc).map (fun d => d.parameters.length) = some n) (hlen : as.length = n) (hel : (entL as).length ≤ mt'.2.2.1) (hst : S = as.reverse ++ rest) (hcat : catS rest ≤ 8)
    (h : okM M → okS S → wp cs mt' kf Q' 0 (padL as mt'.2.2.1) [] (kf, M)) (k : ∀ (r : Option AV) (M' : Mm), Q' r M' → okM M' → wp cs mt kf Q (pc + 3) L (r.toList ++ rest) (kf, M')) : wp cs mt kf Q pc L S (kf, M) :=
  wp_ok fun hM _ hS => wp_callS hd hl hk hv hroom hn hlen hel hst hcat ⟨Nat.le_refl _, Nat.le_refl _⟩ ⟨Nat.le_refl _, Nat.le_refl _⟩ (h hM hS) k
theorem wp_mono {Q' : Option AV → Mm → Prop} {σ : St} (h : ∀ r M, Q' r M → Q r M) (k : wp cs mt kf Q' pc L S σ) : wp cs mt kf Q pc L S σ := by
  intro p l e R s m args below meth c H locs ls k0 hC hR hM hL hS hP hV hl T hT X
  obtain ⟨t, a, o, b1, b2, b3, b4⟩ := k p l e R s m args below meth c H locs ls k0 hC hR hM hL hS hP hV hl T hT X
  obtain ⟨⟨r, M, c1, c2, c3⟩, c4⟩ := b3
  exact ⟨t, a, o, b1, b2, ⟨⟨r, M, c1, h r M c2, c3⟩, c4⟩, b4⟩
end DER2
