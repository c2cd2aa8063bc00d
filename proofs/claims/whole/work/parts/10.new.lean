section NEWS
variable {cs : Cs} {mt : Mth} {kf : Kd} {Q : Option AV → Mm → Prop} {pc : Nat} {L : Lc} {S : List AV} {kd : Kd} {MI ML : Nat → Nat → Int} {MR : Nat → Nat → Nat}
def zr {α : Type} (f : Nat → Nat → α) (i : Nat) (z : α) : Nat → Nat → α := fun a b => if a = i then z else f a b
theorem zr_ne {α : Type} {f : Nat → Nat → α} {i : Nat} {z : α} {a : Nat} (h : a ≠ i) (b : Nat) : zr f i z a b = f a b := by simp [zr, h]
theorem zr_eq {α : Type} {f : Nat → Nat → α} {i : Nat} {z : α} (b : Nat) : zr f i z i b = z := by simp [zr]
theorem cW_app {MI' ML' : Nat → Nat → Int} {MR' : Nat → Nat → Nat} {q : Nat × Nat} (ho : ∀ i, i ≠ kd.length → (∀ k, MI' i k = MI i k) ∧ (∀ k, ML' i k = ML i k) ∧ ∀ k, MR' i k = MR i k) : cW cs (kd ++ [q], MI', ML', MR') = cW cs (kd, MI, ML, MR) ++ [(cs.1 + kd.length, cE cs (MI', ML', MR') kd.length q)] := by
  refine List.ext_getElem? (fun i => ?_)
  have hlen : (cW cs (kd, MI, ML, MR)).length = kd.length := by simp [cW]
  rcases Nat.lt_trichotomy i kd.length with h | h | h
  · rw [List.getElem?_append_left (by rw [hlen]; exact h)]
    simp only [cW, List.getElem?_mapIdx, List.getElem?_append_left h]
    cases hq : kd[i]? with
    | none => rfl
    | some q' =>
      have hi : i ≠ kd.length := by omega
      simp [cE_off (cs := cs) (ho i hi).1 (ho i hi).2.1 (ho i hi).2.2 q']
  · subst h
    rw [List.getElem?_append_right (by rw [hlen]; exact Nat.le_refl _), hlen]
    simp [cW]
  · rw [List.getElem?_eq_none (by simp [cW]; omega), List.getElem?_eq_none (by simp [cW]; omega)]
theorem slo_app (kd : Kd) (q : Nat × Nat) : slo (kd ++ [q]) = slo kd + q.2 := by simp [slo]
theorem wp_newg {MI' ML' : Nat → Nat → Int} {MR' : Nat → Nat → Nat} {at_ : ArrayType} {t : Nat} {n : Int} {a0 : vp_A} (hd : decode mt.2.1 pc = .ok (.newarray at_, 2)) (ha : Cond.arrayClass (newarray.typeOf at_) ∈ lw_tbl) (ht : (tysC cs)[t]? = some (cs.2.2.2.1 t, newarray.typeOf at_)) (hn : 0 ≤ n) (hb : n.toNat * componentBytes (newarray.typeOf at_) ≤ 536870912)
    (hprim : ∀ C, newarray.typeOf at_ ≠ .object C) (hcells : kd.length + 1 ≤ kf.length) (hslots : slo kd + n.toNat ≤ slo kf) (hl : kd.length < 1000000) (ho : ∀ i, i ≠ kd.length → (∀ k, MI' i k = MI i k) ∧ (∀ k, ML' i k = ML i k) ∧ ∀ k, MR' i k = MR i k)
    (hce : cE cs (MI', ML', MR') kd.length (t, n.toNat) = .inl (cs.2.2.2.1 t, a0)) (ha0 : vp_cell (cs.2.2.2.1 t) a0 = arrV (cs.2.2.2.1 t) n.toNat (fun _ => defaultValue (newarray.typeOf at_))) (hM' : okM (MI, ML, MR) → okM (MI', ML', MR'))
    (kk : wp cs mt kf Q (pc + 2) L (vR kd.length :: S) (kd ++ [(t, n.toNat)], MI', ML', MR')) : wp cs mt kf Q pc L (vI n :: S) (kd, MI, ML, MR) := by
  intro p l e R s m args below meth c H locs ls k0 hC hR hM hL hS hP hV hl'
  have hg := hC.2.2.2.2.2.2.2.1
  have hx : okV (vI n) := hS.hd
  have hR' := hR
  obtain ⟨r1, r2, r3, r4, r5⟩ := hR
  have r4' : k0.length ≤ kd.length := r4
  have r5' : slo k0 ≤ slo kd := r5
  refine va_newaK (N := n.toNat) hC.1 hC.2.1 (hg _ (gw_mem ha rfl)) rfl hd rfl ?_ (tc13 hx) hb ?_ ?_ hP.2 fun H1 cA e1 z1 o1 hAr hNm => ?_
  · rw [show (Int32.ofInt n < 0) = (Int32.ofInt n < Int32.ofInt 0) from rfl, tc10 hx (by omega)]; omega
  · show kd.length - k0.length + 1 ≤ R.cells
    omega
  · show slo kd - slo k0 + n.toNat ≤ R.slots
    omega
  · have hcA : cA = cs.2.2.2.1 t := by
      have h1 := (hC.2.2.2.2.2.2.2.2.1.2 t _ ht).2
      have h2 : s.vm.findClass ("[" ++ (newarray.typeOf at_).toString) = some (cs.2.2.2.1 t) := by
        revert h1
        unfold va_RA
        cases hty : newarray.typeOf at_ with
        | object C => exact absurd hty (hprim C)
        | _ => exact fun h => h
      exact Option.some.inj (hNm.symm.trans h2)
    subst hcA
    have hk : ∀ (k : Nat) (x : Nat × va_E), (cW cs (kd, MI, ML, MR))[k]? = some x → H1[x.1]? = H[x.1]? := fun k x hx => o1 x.1 (by have := (hP.1 k x hx).lt; rw [hP.2] at this; exact this)
    have hP1 : va_P cs.2.2.1 vwCl (cW cs (kd ++ [(t, n.toNat)], MI', ML', MR')) H1 := by
      rw [cW_app ho]
      refine (hP.1.kept hk).app (fun k x hx => ?_)
      have hz : k < 1 := (List.getElem?_eq_some_iff.mp hx).1
      rw [show k = 0 by omega] at hx
      cases hx
      rw [hce]
      show H1[cs.1 + kd.length]? = some (vp_cell _ _)
      rw [ha0]
      exact e1
    have e2 : kd.length - k0.length + 1 = (kd ++ [(t, n.toNat)]).length - k0.length := by simp; omega
    have e3 : slo kd - slo k0 + n.toNat = slo (kd ++ [(t, n.toNat)]) - slo k0 := by rw [slo_app]; show _ = slo kd + n.toNat - slo k0; omega
    have := kk p l e R s m args below meth c H1 locs ls k0 hC ⟨r1, r2, r3, by simp; omega, by rw [slo_app]; omega⟩ (hM' hM) hL (okS.cons (v := vR _) trivial hS.tl) ⟨hP1, by rw [z1]; simp; omega⟩ ⟨Nat.le_trans hV.1 (by rw [z1, hP.2]; simp), fun x h1 h2 => (o1 x (by have := hV.1; rw [hP.2] at this; exact Nat.lt_of_lt_of_le h1 this)).trans (hV.2.1 x h1 h2), hV.2.2⟩ hl'
    rw [List.map_cons, show cv cs (vR kd.length) = .ref (cs.1 + kd.length) from cr_cell hl] at this
    rw [← e2, ← e3] at this
    exact this
theorem okM_zI {i : Nat} (h : okM (MI, ML, MR)) : okM (zr MI i 0, ML, MR) := by
  refine ⟨fun a b => ?_, h.2⟩
  show -2147483648 ≤ zr MI i 0 a b ∧ zr MI i 0 a b < 2147483648
  unfold zr
  split
  · omega
  · exact h.1 a b
theorem okM_zL {i : Nat} (h : okM (MI, ML, MR)) : okM (MI, zr ML i 0, MR) := by
  refine ⟨h.1, fun a b => ?_⟩
  show -9223372036854775808 ≤ zr ML i 0 a b ∧ zr ML i 0 a b < 9223372036854775808
  unfold zr
  split
  · omega
  · exact h.2 a b
theorem z_fun {i : Nat} : (fun k => Int32.ofInt (zr MI i 0 i k)) = fun _ => 0 := by funext k; rw [zr_eq]; rfl
theorem z_funL {i : Nat} : (fun k => Int64.ofInt (zr ML i 0 i k)) = fun _ => 0 := by funext k; rw [zr_eq]; rfl
theorem wp_newI {n : Int} (hd : decode mt.2.1 pc = .ok (.newarray .int, 2)) (ha : Cond.arrayClass .int ∈ lw_tbl) (hn : 0 ≤ n ∧ n ≤ 1000000) (hcells : kd.length + 1 ≤ kf.length) (hslots : slo kd + n.toNat ≤ slo kf) (hl : kd.length < 1000000)
    (kk : wp cs mt kf Q (pc + 2) L (vR kd.length :: S) (kd ++ [(0, n.toNat)], zr MI kd.length 0, ML, MR)) : wp cs mt kf Q pc L (vI n :: S) (kd, MI, ML, MR) :=
  wp_newg (a0 := (n.toNat, .inl (fun _ => 0))) hd ha rfl hn.1 (by show n.toNat * 4 ≤ _; omega) (fun C h => by cases h) hcells hslots hl (fun i hi => ⟨zr_ne hi, fun _ => rfl, fun _ => rfl⟩) (by show Sum.inl (_, _, Sum.inl (fun k => Int32.ofInt (zr MI kd.length 0 kd.length k))) = _; rw [z_fun]) rfl okM_zI kk
theorem wp_newB {n : Int} (hd : decode mt.2.1 pc = .ok (.newarray .byte, 2)) (ha : Cond.arrayClass .byte ∈ lw_tbl) (hn : 0 ≤ n ∧ n ≤ 1000000) (hcells : kd.length + 1 ≤ kf.length) (hslots : slo kd + n.toNat ≤ slo kf) (hl : kd.length < 1000000)
    (kk : wp cs mt kf Q (pc + 2) L (vR kd.length :: S) (kd ++ [(1, n.toNat)], zr MI kd.length 0, ML, MR)) : wp cs mt kf Q pc L (vI n :: S) (kd, MI, ML, MR) :=
  wp_newg (a0 := (n.toNat, .inl (fun _ => 0))) hd ha rfl hn.1 (by show n.toNat * 1 ≤ _; omega) (fun C h => by cases h) hcells hslots hl (fun i hi => ⟨zr_ne hi, fun _ => rfl, fun _ => rfl⟩) (by show Sum.inl (_, _, Sum.inl (fun k => Int32.ofInt (zr MI kd.length 0 kd.length k))) = _; rw [z_fun]) rfl okM_zI kk
theorem wp_newZ {n : Int} (hd : decode mt.2.1 pc = .ok (.newarray .boolean, 2)) (ha : Cond.arrayClass .boolean ∈ lw_tbl) (hn : 0 ≤ n ∧ n ≤ 1000000) (hcells : kd.length + 1 ≤ kf.length) (hslots : slo kd + n.toNat ≤ slo kf) (hl : kd.length < 1000000)
    (kk : wp cs mt kf Q (pc + 2) L (vR kd.length :: S) (kd ++ [(2, n.toNat)], zr MI kd.length 0, ML, MR)) : wp cs mt kf Q pc L (vI n :: S) (kd, MI, ML, MR) :=
  wp_newg (a0 := (n.toNat, .inl (fun _ => 0))) hd ha rfl hn.1 (by show n.toNat * 1 ≤ _; omega) (fun C h => by cases h) hcells hslots hl (fun i hi => ⟨zr_ne hi, fun _ => rfl, fun _ => rfl⟩) (by show Sum.inl (_, _, Sum.inl (fun k => Int32.ofInt (zr MI kd.length 0 kd.length k))) = _; rw [z_fun]) rfl okM_zI kk
theorem wp_newJ {n : Int} (hd : decode mt.2.1 pc = .ok (.newarray .long, 2)) (ha : Cond.arrayClass .long ∈ lw_tbl) (hn : 0 ≤ n ∧ n ≤ 1000000) (hcells : kd.length + 1 ≤ kf.length) (hslots : slo kd + n.toNat ≤ slo kf) (hl : kd.length < 1000000)
    (kk : wp cs mt kf Q (pc + 2) L (vR kd.length :: S) (kd ++ [(3, n.toNat)], MI, zr ML kd.length 0, MR)) : wp cs mt kf Q pc L (vI n :: S) (kd, MI, ML, MR) :=
  wp_newg (a0 := (n.toNat, .inr (.inl (fun _ => 0)))) hd ha rfl hn.1 (by show n.toNat * 8 ≤ _; omega) (fun C h => by cases h) hcells hslots hl (fun i hi => ⟨fun _ => rfl, zr_ne hi, fun _ => rfl⟩) (by show Sum.inl (_, _, Sum.inr (Sum.inl (fun k => Int64.ofInt (zr ML kd.length 0 kd.length k)))) = _; rw [z_funL]) rfl okM_zL kk
def dfl (t : Nat) : Value := match t with
  | 0 => .int 0
  | 1 => .long 0
  | _ => .null
/-- a class that own's entry idx names, and that can be made -/
def NLk (own : String) (idx ci N : Nat) : Prop := ∃ (C : String) (T : u_T) (ty0 : Nat → FieldType), vwCl[ci]? = some (C, T, N) ∧ (∀ w ∈ u_ws C T N, w ∈ lw_tbl) ∧ (∀ k, k < N → parseFieldDescriptor (T k).2.2.1 = some (ty0 k)) ∧ Cond.classLink own idx C ∈ lw_tbl ∧ Cond.instantiable C N ∈ lw_tbl ∧ Cond.initialized C ∈ lw_tbl ∧ (ftab ci).length = N ∧ ∀ j, j < N → defaultValue (ty0 j) = dfl ((ftab ci).getD j 0)
theorem wp_new {idx ci N : Nat} (hd : decode mt.2.1 pc = .ok (.new idx, 3)) (hf : NLk mt.1.cls idx ci N) (hcells : kd.length + 1 ≤ kf.length) (hslots : slo kd + N ≤ slo kf) (hl : kd.length < 1000000)
    (kk : wp cs mt kf Q (pc + 3) L (vR kd.length :: S) (kd ++ [(ci + 4, N)], zr MI kd.length 0, zr ML kd.length 0, zr MR kd.length 1000000)) : wp cs mt kf Q pc L S (kd, MI, ML, MR) := by
  intro p l e R s m args below meth c H locs ls k0 hC hR hM hL hS hP hV hl'
  have hg := hC.2.2.2.2.2.2.2.1
  obtain ⟨C, T, ty0, h1, h2, h3, h4, h5, h6, h7, h8⟩ := hf
  obtain ⟨r1, r2, r3, r4, r5⟩ := hR
  have r4' : k0.length ≤ kd.length := r4
  have r5' : slo k0 ≤ slo kd := r5
  have hKn := hC.2.2.2.2.2.2.2.2.1.1 ci _ h1
  refine W.newcK hC.1 hC.2.1 hC.2.2.2.2.1 (hg _ (gw_mem h4 rfl)) (hg _ (gw_mem h5 rfl)) (hg _ (gw_mem h6 rfl)) rfl hd (by show kd.length - k0.length + 1 ≤ R.cells; omega) (by show slo kd - slo k0 + N ≤ R.slots; omega) hKn.2.1 hP.2 fun H1 kC hkC e1 z1 o1 => ?_
  have ho : ∀ i, i ≠ kd.length → (∀ k, zr MI kd.length 0 i k = MI i k) ∧ (∀ k, zr ML kd.length 0 i k = ML i k) ∧ ∀ k, zr MR kd.length 1000000 i k = MR i k := fun i hi => ⟨zr_ne hi, zr_ne hi, zr_ne hi⟩
  have hk : ∀ (k : Nat) (x : Nat × va_E), (cW cs (kd, MI, ML, MR))[k]? = some x → H1[x.1]? = H[x.1]? := fun k x hx => o1 x.1 (by have := (hP.1 k x hx).lt; rw [hP.2] at this; exact this)
  have hP1 : va_P cs.2.2.1 vwCl (cW cs (kd ++ [(ci + 4, N)], zr MI kd.length 0, zr ML kd.length 0, zr MR kd.length 1000000)) H1 := by
    rw [cW_app ho]
    refine (hP.1.kept hk).app (fun k x hx => ?_)
    have hz : k < 1 := (List.getElem?_eq_some_iff.mp hx).1
    rw [show k = 0 by omega] at hx
    cases hx
    refine ⟨_, h1, (u_born ty0 hg (gw_lay h2) hKn hkC e1 h3).to (fun j hj => ?_)⟩
    have hj' : j < (ftab ci).length := by rw [h7]; exact hj
    rw [h8 j hj]
    change dfl ((ftab ci).getD j 0) = ((ftab ci).mapIdx (fun k t => fv cs (zr MI kd.length 0, zr ML kd.length 0, zr MR kd.length 1000000) kd.length k t)).getD j Value.null
    simp only [List.getD_eq_getElem?_getD, List.getElem?_mapIdx, List.getElem?_eq_getElem hj', Option.map_some, Option.getD_some]
    generalize (ftab ci)[j] = t0
    rcases t0 with _ | _ | t0
    · simp [dfl, fv, zr_eq]
    · simp [dfl, fv, zr_eq]
    · simp [dfl, fv, zr_eq, cr]
  have e2 : kd.length - k0.length + 1 = (kd ++ [(ci + 4, N)]).length - k0.length := by simp; omega
  have e3 : slo kd - slo k0 + N = slo (kd ++ [(ci + 4, N)]) - slo k0 := by rw [slo_app]; show _ = slo kd + N - slo k0; omega
  have hM' : okM (zr MI kd.length 0, zr ML kd.length 0, zr MR kd.length 1000000) := ⟨(okM_zI (MR := MR) (i := kd.length) hM).1, (okM_zL (MR := MR) (i := kd.length) hM).2⟩
  have := kk p l e R s m args below meth c H1 locs ls k0 hC ⟨r1, r2, r3, by simp; omega, by rw [slo_app]; omega⟩ hM' hL (okS.cons (v := vR _) trivial hS) ⟨hP1, by rw [z1]; simp; omega⟩ ⟨Nat.le_trans hV.1 (by rw [z1, hP.2]; simp), fun x h1 h2 => (o1 x (by have := hV.1; rw [hP.2] at this; exact Nat.lt_of_lt_of_le h1 this)).trans (hV.2.1 x h1 h2), hV.2.2⟩ hl'
  rw [List.map_cons, show cv cs (vR kd.length) = .ref (cs.1 + kd.length) from cr_cell hl] at this
  rw [← e2, ← e3] at this
  exact this
/-- System.arraycopy over bytes -/
def cpy (MI : Nat → Nat → Int) (a sp b dp n : Nat) : Nat → Nat → Int := fun i k => if i = b ∧ dp ≤ k ∧ k < dp + n then MI a (sp + (k - dp)) else MI i k
theorem wp_copyB {idx a b na nb : Nat} {sp dp n : Int} (hd : decode mt.2.1 pc = .ok (.invokestatic idx, 3)) (hl : Cond.methodLink mt.1.cls idx arraycopyName ∈ lw_tbl) (hnat : Cond.native arraycopyName ∈ lw_tbl) (hstat : Cond.static arraycopyName ∈ lw_tbl) (hini : Cond.initialized "java/lang/System" ∈ lw_tbl)
    (ha : kd[a]? = some (1, na)) (hb : kd[b]? = some (1, nb)) (hra : a < 1000000) (hrb : b < 1000000) (h1 : 0 ≤ sp) (h2 : 0 ≤ dp) (h3 : 0 ≤ n) (h4 : sp + n ≤ na) (h5 : dp + n ≤ nb) (hby : ∀ k, -128 ≤ MI a k ∧ MI a k < 128) (hfr : 1 ≤ mt.2.2.2.2.1) (hlo : 40 ≤ mt.2.2.2.2.2) (hw : nativeFrameWords "java/lang/System" "arraycopy" 5 ≤ 20) (hcat : catS S ≤ 8)
    (kk : wp cs mt kf Q (pc + 3) L S (kd, cpy MI a sp.toNat b dp.toNat n.toNat, ML, MR)) : wp cs mt kf Q pc L (vI n :: vI dp :: vR b :: vI sp :: vR a :: S) (kd, MI, ML, MR) := by
  intro p l e R s m args below meth c H locs ls k0 hC hR hM hL hS hP hV hl'
  have hg := hC.2.2.2.2.2.2.2.1
  have on : okV (vI n) := hS.hd
  have od : okV (vI dp) := hS.tl.hd
  have os : okV (vI sp) := hS.tl.tl.tl.hd
  have f1 := hC.2.2.2.2.2.2.2.2.2.1
  have f2 := hC.2.2.2.2.2.2.2.2.2.2.1
  have neg : ∀ {z : Int}, okV (vI z) → 0 ≤ z → ¬ Int32.ofInt z < 0 := fun {z} oz hz => by
    rw [show (Int32.ofInt z < 0) = (Int32.ofInt z < Int32.ofInt 0) from rfl, tc10 oz (by omega)]; omega
  simp only [List.map_cons]
  rw [show cv cs (vR a) = .ref (cs.1 + a) from cr_cell hra, show cv cs (vR b) = .ref (cs.1 + b) from cr_cell hrb]
  refine va_copyi (sp := Int32.ofInt sp) (dp := Int32.ofInt dp) (n := Int32.ofInt n) hC.1 hC.2.1 (hC.2.2.1.trans hl'.1.symm) hC.2.2.2.2.1 (hg _ (gw_mem hl rfl)) (hg _ (gw_mem hnat rfl)) (hg _ (gw_mem hstat rfl)) (hg _ (gw_mem hini rfl)) hC.2.2.2.2.2.2.2.2.1 hP.1 (cW_D cs _) hV a b 1 1 (arr_i ha (Or.inr (Or.inl rfl)) _) (arr_i hb (Or.inr (Or.inl rfl)) _) rfl rfl rfl
    (neg os h1) (neg od h2) (neg on h3) (by rw [tc13 os, tc13 on]; omega) (by rw [tc13 od, tc13 on]; omega) (fun i _ => ?_) (Nat.le_trans hfr f1) ?_ hd (fun H1 locs1 g1 g2 g3 => ?_)
  · have hb' := hby ((Int32.ofInt sp).toNatClampNeg + i)
    simp only [fits, decide_eq_true_eq, Bool.and_eq_true]
    show Int32.ofInt (-128) ≤ Int32.ofInt _ ∧ Int32.ofInt _ ≤ Int32.ofInt 127
    rw [tc11 (by omega) (by omega), tc11 (by omega) (by omega)]
    omega
  · rw [catS_eq hC.fmt]
    omega
  · have e1 : (cW cs (kd, MI, ML, MR)).set b (cs.1 + b, .inl (cs.2.2.2.1 1, nb, .inl (va_cpy (fun k => Int32.ofInt (MI a k)) (fun k => Int32.ofInt (MI b k)) (Int32.ofInt sp).toNatClampNeg (Int32.ofInt dp).toNatClampNeg (Int32.ofInt n).toNatClampNeg))) = cW cs (kd, cpy MI a sp.toNat b dp.toNat n.toNat, ML, MR) := by
      refine cW_set (M := (MI, ML, MR)) (M' := (cpy MI a sp.toNat b dp.toNat n.toNat, ML, MR)) hb (fun i hi q' => cE_off (fun k => by simp [cpy, hi]) (fun _ => rfl) (fun _ => rfl) q') ?_
      rw [tc13 os, tc13 od, tc13 on]
      show Sum.inl (_, _, Sum.inl (fun k => Int32.ofInt (cpy MI a sp.toNat b dp.toNat n.toNat b k))) = _
      have : (fun k => Int32.ofInt (cpy MI a sp.toNat b dp.toNat n.toNat b k)) = va_cpy (fun k => Int32.ofInt (MI a k)) (fun k => Int32.ofInt (MI b k)) sp.toNat dp.toNat n.toNat := by
        funext k
        unfold cpy va_cpy
        by_cases hk : dp.toNat ≤ k ∧ k < dp.toNat + n.toNat
        · rw [if_pos ⟨rfl, hk⟩, if_pos hk]
        · rw [if_neg (fun q => hk q.2), if_neg hk]
      rw [this]
    have hM' : okM (cpy MI a sp.toNat b dp.toNat n.toNat, ML, MR) := by
      refine ⟨fun i k => ?_, hM.2⟩
      show -2147483648 ≤ cpy MI a sp.toNat b dp.toNat n.toNat i k ∧ cpy MI a sp.toNat b dp.toNat n.toNat i k < 2147483648
      unfold cpy
      split
      · exact hM.1 _ _
      · exact hM.1 _ _
    have e1' : va_P cs.2.2.1 vwCl (cW cs (kd, cpy MI a sp.toNat b dp.toNat n.toNat, ML, MR)) H1 := by rw [← e1]; exact g1
    intro T hT X
    refine kk p l e R s m args below meth c H1 locs1 ls k0 hC hR hM' hL hS.tl.tl.tl.tl.tl ⟨e1', ?_⟩ g3 hl' T hT X
    have x1 := X.heapSize
    rw [hT] at x1
    have x2 : s.heap.size = cs.1 + k0.length := hR.2.2.1
    have x3 : k0.length ≤ kd.length := hR.2.2.2.1
    have x4 : kd.length - 1 < kd.length := by have := (List.getElem?_eq_some_iff.mp ha).1; omega
    have x5 := (e1' (kd.length - 1) _ (cW_get (List.getElem?_eq_getElem x4))).lt
    have x6 : H1.size ≤ s.heap.size + (kd.length - k0.length) := x1
    show H1.size = cs.1 + kd.length
    have x7 : cs.1 + (kd.length - 1) < H1.size := x5
    omega
end NEWS
