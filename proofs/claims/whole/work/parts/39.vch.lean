/-! What the printed walks (v_..) rest on: a call's end as a continuation, a written memory as a name. -/
def rI (G : Nat → Nat → Nat) (k : Int → (Nat → Nat → Int) → (Nat → Nat → Int) → Prop) (r : Option AV) (M : Mm) : Prop := ∃ x MI ML, r = some (vI x) ∧ M = (MI, ML, G) ∧ k x MI ML
def rJ (G : Nat → Nat → Nat) (k : Int → (Nat → Nat → Int) → (Nat → Nat → Int) → Prop) (r : Option AV) (M : Mm) : Prop := ∃ x MI ML, r = some (vL x) ∧ M = (MI, ML, G) ∧ k x MI ML
def rV (G : Nat → Nat → Nat) (k : (Nat → Nat → Int) → (Nat → Nat → Int) → Prop) (r : Option AV) (M : Mm) : Prop := ∃ MI ML, r = none ∧ M = (MI, ML, G) ∧ k MI ML
def rR (a : Nat) (G : Nat → Nat → Nat) (k : (Nat → Nat → Int) → (Nat → Nat → Int) → Prop) (r : Option AV) (M : Mm) : Prop := ∃ MI ML, r = some (vR a) ∧ M = (MI, ML, G) ∧ k MI ML
def rW (G : Nat → Nat → Nat → Nat → Nat) (k : Nat → Nat → (Nat → Nat → Int) → (Nat → Nat → Int) → Prop) (r : Option AV) (M : Mm) : Prop := ∃ nw th, (nw = 25 ∧ th = 26 ∨ nw = 26 ∧ th = 25) ∧ ∃ MI ML, r = none ∧ M = (MI, ML, G nw th) ∧ k nw th MI ML
section VCH
variable {G : Nat → Nat → Nat} {r : Option AV} {M : Mm}
theorem rI_out {k : Int → (Nat → Nat → Int) → (Nat → Nat → Int) → Prop} (h : rI G k r M) : ∃ x MI ML, r = some (vI x) ∧ M = (MI, ML, G) ∧ k x MI ML := h
theorem rJ_out {k : Int → (Nat → Nat → Int) → (Nat → Nat → Int) → Prop} (h : rJ G k r M) : ∃ x MI ML, r = some (vL x) ∧ M = (MI, ML, G) ∧ k x MI ML := h
theorem rV_out {k : (Nat → Nat → Int) → (Nat → Nat → Int) → Prop} (h : rV G k r M) : ∃ MI ML, r = none ∧ M = (MI, ML, G) ∧ k MI ML := h
theorem rR_out {a : Nat} {k : (Nat → Nat → Int) → (Nat → Nat → Int) → Prop} (h : rR a G k r M) : ∃ MI ML, r = some (vR a) ∧ M = (MI, ML, G) ∧ k MI ML := h
theorem rW_out {G : Nat → Nat → Nat → Nat → Nat} {k : Nat → Nat → (Nat → Nat → Int) → (Nat → Nat → Int) → Prop} (h : rW G k r M) : ∃ nw th, (nw = 25 ∧ th = 26 ∨ nw = 26 ∧ th = 25) ∧ ∃ MI ML, r = none ∧ M = (MI, ML, G nw th) ∧ k nw th MI ML := h
theorem rI_mk {k : Int → (Nat → Nat → Int) → (Nat → Nat → Int) → Prop} {x : Int} {MI ML : Nat → Nat → Int} (h : k x MI ML) : rI G k (some (vI x)) (MI, ML, G) := ⟨x, MI, ML, rfl, rfl, h⟩
theorem rJ_mk {k : Int → (Nat → Nat → Int) → (Nat → Nat → Int) → Prop} {x : Int} {MI ML : Nat → Nat → Int} (h : k x MI ML) : rJ G k (some (vL x)) (MI, ML, G) := ⟨x, MI, ML, rfl, rfl, h⟩
theorem rV_mk {k : (Nat → Nat → Int) → (Nat → Nat → Int) → Prop} {MI ML : Nat → Nat → Int} (h : k MI ML) : rV G k none (MI, ML, G) := ⟨MI, ML, rfl, rfl, h⟩
theorem rR_mk {a : Nat} {k : (Nat → Nat → Int) → (Nat → Nat → Int) → Prop} {MI ML : Nat → Nat → Int} (h : k MI ML) : rR a G k (some (vR a)) (MI, ML, G) := ⟨MI, ML, rfl, rfl, h⟩
theorem rW_mk {G : Nat → Nat → Nat → Nat → Nat} {nw th : Nat} (q : nw = 25 ∧ th = 26 ∨ nw = 26 ∧ th = 25) {k : Nat → Nat → (Nat → Nat → Int) → (Nat → Nat → Int) → Prop} {MI ML : Nat → Nat → Int} (h : k nw th MI ML) : rW G k none (MI, ML, G nw th) := ⟨nw, th, q, MI, ML, rfl, rfl, h⟩
end VCH
section VCG
variable {cs : Cs} {mt : Mth} {kf kd : Kd} {Q : Option AV → Mm → Prop} {pc : Nat} {L : Lc} {S : List AV} {MI ML : Nat → Nat → Int} {MR : Nat → Nat → Nat}
theorem wp_gI (h : ∀ MI', MI' = MI → wp cs mt kf Q pc L S (kd, MI', ML, MR)) : wp cs mt kf Q pc L S (kd, MI, ML, MR) := h MI rfl
theorem wp_gL (h : ∀ ML', ML' = ML → wp cs mt kf Q pc L S (kd, MI, ML', MR)) : wp cs mt kf Q pc L S (kd, MI, ML, MR) := h ML rfl
theorem kd_nt {a : Nat} (h : a = 25 ∨ a = 26) : KD[a]? = some (1, 600) := by rcases h with rfl | rfl <;> rfl
/-- a known answer -/
theorem b0 {A B : Prop} (h : A) : ((0 : Int) = 0 → A) ∧ ((0 : Int) ≠ 0 → B) := ⟨fun _ => h, fun q => absurd rfl q⟩
theorem b1 {A B : Prop} (h : B) : ((1 : Int) = 0 → A) ∧ ((1 : Int) ≠ 0 → B) := ⟨fun q => absurd q (by decide), fun _ => h⟩
end VCG
section LDCW
variable {p : Program} {l : Launch} {e : Env} {R : Room} {s : State} {m : MethodId} {args : Array Value} {below : List Frame} {meth : Method} {c : Code} {T : State} {locs : List Loc} {cells slots : Nat}
theorem ldcSW0 (X : Stand p l e R s m args below meth c T locs cells slots) (hexec : p.tables.exec = Jvm.exec) {own text : String} {index : Nat} {a : Addr} (hown : s.vm.findClass own = some m.cls)
    (hconst : (Cond.stringRef own index text).before args s = true) (hev : (Term.string own index).eval args s none [] s = some (.ref a)) {g : JFrame} (hg : g.method = m) (hdg : decode c.code g.pc = .ok (.ldc_w index, 3)) :
    ∀ target, Steps p.tables e below (T.setTop { g with pc := g.pc + 3, stack := .ref a :: g.stack }) target → Steps p.tables e below (T.setTop g) target := by
  obtain ⟨k, cf, i, a', hk, hcf, hcp, -, hr, hev'⟩ := Cond.stringRef_spec hown hconst
  cases hev.symm.trans hev'
  obtain ⟨k', hk', he⟩ := X.warmed.alike.2.2 _ _ hk
  have hr' : k'.resolved[index]? = some (some (.string a)) := by
    rcases X.warmed.entry hk hk' index with h | ⟨h, -⟩
    · rw [h]; exact hr
    · rw [hr] at h; cases h
  intro target hrest
  subst hg
  jvm_step X.here [hexec, hdg, ldc_w.wp_string (e := e) (s := T) (f := g) X.here.top hk' (by rw [he]; exact hcf) hcp hr']
  exact hrest
theorem ldcSW1 {H : Heap} {Qf : State → Prop} {cc : ByteArray} {pc : Nat} {ls : Array Slot} {rest : List Value} (hexec : p.tables.exec = Jvm.exec) (hb : c.code = cc) {own tx : String} {index q : Nat} (hown : s.vm.findClass own = some m.cls) (hZ : vk_R own index tx q s) (hdg : decode cc pc = .ok (.ldc_w index, 3))
    (k : W p l e R s m args below meth c H locs cells slots Qf (F0 m (pc + 3) ls (.ref q :: rest))) : W p l e R s m args below meth c H locs cells slots Qf (F0 m pc ls rest) := by
  intro T hT X
  obtain ⟨t, a1, b1⟩ := k T hT X
  exact ⟨t, ldcSW0 X hexec hown (text := tx) (a := q) hZ.1 hZ.2 (g := F0 m pc ls rest) rfl (by rw [hb]; exact hdg) t a1, b1⟩
end LDCW
theorem wp_ldcSw {cs : Cs} {mt : Mth} {kf : Kd} {Q : Option AV → Mm → Prop} {pc : Nat} {L : Lc} {S : List AV} {σ : St} {idx k : Nat} {tx : String} (hd : decode mt.2.1 pc = .ok (.ldc_w idx, 3)) (hl : (mt.1.cls, idx, tx, k) ∈ strT) (kk : wp cs mt kf Q (pc + 3) L (vR (1000003 + k) :: S) σ) : wp cs mt kf Q pc L S σ := by
  refine wp_pure (fun _ _ h => okS.cons (v := vR _) trivial h) (fun p l e R s m args below meth c H locs _ _ _ ls hC _ _ hK h => ?_) kk
  have e1 : cv cs (vR (1000003 + k)) = .ref (cs.2.1 (1000003 + k)) := by
    show cr cs _ = _
    unfold cr
    rw [if_neg (by omega), if_neg (by omega), if_neg (by omega)]
  rw [List.map_cons, e1] at h
  exact ldcSW1 hC.1 hC.2.1 hC.2.2.2.2.1 (hC.2.2.2.2.2.2.2.2.2.2.2.2.2.1.1 _ hl) hd h
theorem cX2_257 : (RX2, 257, "#FIXED", 21) ∈ strT := by decide +kernel
