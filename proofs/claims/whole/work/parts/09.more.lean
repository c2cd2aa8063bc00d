section MORE
variable {cs : Cs} {mt : Mth} {kf : Kd} {Q : Option AV → Mm → Prop} {pc : Nat} {L : Lc} {S : List AV} {kd : Kd} {MI ML : Nat → Nat → Int} {MR : Nat → Nat → Nat}
theorem retQ {M : Mm} {r : Option AV} {s : State} {args : Array Value} {H : Heap} {locs : List Loc} (hq : Q r M) (hM : okM M) (hr : ∀ v, r = some v → okV v) (hP : Pic cs (kf, M) H) (hV : va_S (aA cs) s.heap H locs) : ∀ t : State, t.heap = H → s.WarmedH t.vm → Qm cs kf Q args s (.returned (r.map (cv cs))) t :=
  fun t ht _ => ⟨⟨r, M, rfl, hq, hM, hr, by rw [ht]; exact hP⟩, hV.F ht⟩
theorem wp_vret {M : Mm} (hd : decode mt.2.1 pc = .ok (.return_, 1)) (hrt : mt.2.2.2.1 = none) (hq : okM M → Q none M) : wp cs mt kf Q pc L [] (kf, M) := by
  intro p l e R s m args below meth c H locs ls k0 hC hR hM hL hS hP hV hl
  exact W.vret hC.1 hC.2.1 (hC.2.2.2.1.trans hrt) (retQ (r := none) (hq hM) hM (fun v h => by cases h) hP hV) hV.2.2 hd hC.2.2.2.2.2.1
theorem wp_iretg {M : Mm} {x : Int} {ty : FieldType} (hd : decode mt.2.1 pc = .ok (.ireturn, 1)) (hrt : mt.2.2.2.1 = some ty) (hn : narrow ty (.int (Int32.ofInt x)) = .int (Int32.ofInt x)) (hq : okM M → Q (some (vI x)) M) : wp cs mt kf Q pc L [vI x] (kf, M) := by
  intro p l e R s m args below meth c H locs ls k0 hC hR hM hL hS hP hV hl
  exact W.zret hC.1 hC.2.1 (hC.2.2.2.1.trans hrt) hn (retQ (r := some (vI x)) (hq hM) hM (fun v h => by cases h; exact hS.hd) hP hV) hV.2.2 hd hC.2.2.2.2.2.1
theorem wp_iret {M : Mm} {x : Int} (hd : decode mt.2.1 pc = .ok (.ireturn, 1)) (hrt : mt.2.2.2.1 = some .int) (hq : okM M → Q (some (vI x)) M) : wp cs mt kf Q pc L [vI x] (kf, M) := wp_iretg hd hrt rfl hq
theorem wp_zret {M : Mm} {x : Int} (hd : decode mt.2.1 pc = .ok (.ireturn, 1)) (hrt : mt.2.2.2.1 = some .boolean) (hx : x = 0 ∨ x = 1) (hq : okM M → Q (some (vI x)) M) : wp cs mt kf Q pc L [vI x] (kf, M) :=
  wp_iretg hd hrt (by rcases hx with rfl | rfl <;> rfl) hq
theorem wp_lret {M : Mm} {x : Int} (hd : decode mt.2.1 pc = .ok (.lreturn, 1)) (hrt : mt.2.2.2.1 = some .long) (hq : okM M → Q (some (vL x)) M) : wp cs mt kf Q pc L [vL x] (kf, M) := by
  intro p l e R s m args below meth c H locs ls k0 hC hR hM hL hS hP hV hl
  exact W.lret hC.1 hC.2.1 (hC.2.2.2.1.trans hrt) (retQ (r := some (vL x)) (hq hM) hM (fun v h => by cases h; exact hS.hd) hP hV) hV.2.2 hd hC.2.2.2.2.2.1
theorem wp_aret {M : Mm} {r : Nat} {ty : FieldType} (hd : decode mt.2.1 pc = .ok (.areturn, 1)) (hrt : mt.2.2.2.1 = some ty) (hty : (∃ n, ty = .object n) ∨ ∃ t, ty = .array t) (hr : nn r) (hq : okM M → Q (some (vR r)) M) : wp cs mt kf Q pc L [vR r] (kf, M) := by
  intro p l e R s m args below meth c H locs ls k0 hC hR hM hL hS hP hV hl
  obtain ⟨a, ha⟩ := cr_nn (cs := cs) hr
  exact W.aret hC.1 hC.2.1 (hC.2.2.2.1.trans hrt) hty (Or.inr ⟨a, ha⟩) (retQ (r := some (vR r)) (hq hM) hM (fun v h => by cases h; trivial) hP hV) hV.2.2 hd hC.2.2.2.2.2.1
theorem wp_objInit {σ : St} {idx r : Nat} (hd : decode mt.2.1 pc = .ok (.invokespecial idx, 3)) (hl : Cond.methodLink mt.1.cls idx Lib.objectInit ∈ lw_tbl) (hi : Cond.instanceMethod Lib.objectInit ∈ lw_tbl) (hc : Cond.code Lib.objectInit ⟨#[0xb1]⟩ 1 none ∈ lw_tbl) (hr : nn r) (hcat : catS S ≤ 8) (hfr : 1 ≤ mt.2.2.2.2.1) (hlo : 20 ≤ mt.2.2.2.2.2)
    (k : wp cs mt kf Q (pc + 3) L S σ) : wp cs mt kf Q pc L (vR r :: S) σ := by
  refine wp_pure (fun _ _ h => h.tl) (fun p l e R s m args below meth c H locs _ _ _ ls hC _ _ hK h => ?_) k
  obtain ⟨a, ha⟩ := cr_nn (cs := cs) hr
  have e1 : cv cs (vR r) = .ref a := ha
  have hg := hC.2.2.2.2.2.2.2.1
  rw [List.map_cons, e1]
  have f1 := hC.2.2.2.2.2.2.2.2.2.1
  have f2 := hC.2.2.2.2.2.2.2.2.2.2.1
  refine W.objInit hC.1 hC.2.1 hC.2.2.2.2.1 (hg _ (gw_mem hl rfl)) (hg _ (gw_mem hi rfl)) (hg _ (gw_mem hc rfl)) rfl (hK.1.trans hC.2.2.1.symm) rfl hd (Nat.le_trans hfr f1) ?_ h
  have h8 := lv_room (m := m) (pc := pc) (ls := ls) (rest := .ref a :: S.map (cv cs)) (st := S.map (cv cs)) (by rw [catS_eq hC.fmt]; exact hcat)
  omega
theorem wp_ldc {σ : St} {idx : Nat} {x : Int} (hd : decode mt.2.1 pc = .ok (.ldc idx, 2)) (hl : Cond.constant mt.1.cls idx (Int32.ofInt x) ∈ lw_tbl) (hx : -2147483648 ≤ x ∧ x < 2147483648) (k : wp cs mt kf Q (pc + 2) L (vI x :: S) σ) : wp cs mt kf Q pc L S σ :=
  wp_pure (fun _ _ h => okS.cons (v := vI x) hx h) (fun _ _ _ _ _ _ _ _ _ _ _ _ _ _ _ _ hC _ _ _ h => lv_ldc hC.1 hC.2.1 hC.2.2.2.2.1 (hC.2.2.2.2.2.2.2.1 _ (gw_mem hl rfl)) hd h) k
theorem wp_ldc2 {σ : St} {idx : Nat} {x : Int} (hd : decode mt.2.1 pc = .ok (.ldc2_w idx, 3)) (hl : Cond.constantLong mt.1.cls idx (Int64.ofInt x) ∈ lw_tbl) (hx : -9223372036854775808 ≤ x ∧ x < 9223372036854775808) (k : wp cs mt kf Q (pc + 3) L (vL x :: S) σ) : wp cs mt kf Q pc L S σ :=
  wp_pure (fun _ _ h => okS.cons (v := vL x) hx h) (fun _ _ _ _ _ _ _ _ _ _ _ _ _ _ _ _ hC _ _ _ h => lv_ldc2 hC.1 hC.2.1 hC.2.2.2.2.1 (hC.2.2.2.2.2.2.2.1 _ (gw_mem hl rfl)) hd h) k
theorem wp_ldcS {σ : St} {idx k : Nat} {tx : String} (hd : decode mt.2.1 pc = .ok (.ldc idx, 2)) (hl : (mt.1.cls, idx, tx, k) ∈ strT) (kk : wp cs mt kf Q (pc + 2) L (vR (1000003 + k) :: S) σ) : wp cs mt kf Q pc L S σ := by
  refine wp_pure (fun _ _ h => okS.cons (v := vR _) trivial h) (fun p l e R s m args below meth c H locs _ _ _ ls hC _ _ hK h => ?_) kk
  have e1 : cv cs (vR (1000003 + k)) = .ref (cs.2.1 (1000003 + k)) := by
    show cr cs _ = _
    unfold cr
    rw [if_neg (by omega), if_neg (by omega), if_neg (by omega)]
  rw [List.map_cons, e1] at h
  exact va_ldcS hC.1 hC.2.1 hC.2.2.2.2.1 (hC.2.2.2.2.2.2.2.2.2.2.2.2.2.1.1 _ hl) hd h
theorem wp_alen {r t n : Nat} (hd : decode mt.2.1 pc = .ok (.arraylength, 1)) (hk : kd[r]? = some (t, n)) (ht : t ≤ 3) (hr : r < 1000000) (hn : n < 2147483648)
    (kk : wp cs mt kf Q (pc + 1) L (vI n :: S) (kd, MI, ML, MR)) : wp cs mt kf Q pc L (vR r :: S) (kd, MI, ML, MR) := by
  intro p l e R s m args below meth c H locs ls k0 hC hR hM hL hS hP hV hl
  have e1 : cv cs (vR r) = .ref (cs.1 + r) := cr_cell hr
  rw [List.map_cons, e1]
  have hh := kk p l e R s m args below meth c H locs ls k0 hC hR hM hL (okS.cons (v := vI n) ⟨by omega, by omega⟩ hS.tl) hP hV hl
  have e2 : Int32.ofNat n = Int32.ofInt n := rfl
  rcases (by omega : t = 0 ∨ t = 1 ∨ t = 2 ∨ t = 3) with rfl | rfl | rfl | rfl
  · exact va_alen hC.1 hC.2.1 hC.2.2.2.2.2.2.2.2.1 hP.1 r 0 (arr_i hk (Or.inl rfl) _) rfl e2 hd hh
  · exact va_alen hC.1 hC.2.1 hC.2.2.2.2.2.2.2.2.1 hP.1 r 1 (arr_i hk (Or.inr (Or.inl rfl)) _) rfl e2 hd hh
  · exact va_alen hC.1 hC.2.1 hC.2.2.2.2.2.2.2.2.1 hP.1 r 2 (arr_i hk (Or.inr (Or.inr rfl)) _) rfl e2 hd hh
  · exact va_alen hC.1 hC.2.1 hC.2.2.2.2.2.2.2.2.1 hP.1 r 3 (arr_l hk _) rfl e2 hd hh
/-- the script -/
theorem cr_sp {r : Nat} (h : 1000001 < r) : cr cs r = .ref (cs.2.1 r) := by
  unfold cr
  rw [if_neg (by omega), if_neg (by omega), if_neg (by omega)]
theorem wp_sld {σ : St} {x : Int} (hd : decode mt.2.1 pc = .ok (.iaload, 1)) (hx : 0 ≤ x ∧ x < cs.2.2.2.2.1) (hb : -2147483648 ≤ cs.2.2.2.2.2.1 x.toNat ∧ cs.2.2.2.2.2.1 x.toNat < 2147483648)
    (kk : wp cs mt kf Q (pc + 1) L (vI (cs.2.2.2.2.2.1 x.toNat) :: S) σ) : wp cs mt kf Q pc L (vI x :: vR 1000002 :: S) σ := by
  intro p l e R s m args below meth c H locs ls k0 hC hR hM hL hS hP hV hl
  have hF := hC.2.2.2.2.2.2.2.2.2.2.2.1
  rw [List.map_cons, List.map_cons, show cv cs (vR 1000002) = .ref (cs.2.1 1000002) from cr_sp (by omega)]
  refine va_sld hC.1 hC.2.1 hF.1 (Nat.lt_of_lt_of_le (Nat.not_le.mp hF.2.1) hF.2.2) hF.2.1 hV (arr_in hS.hd hx) hd ?_
  rw [tc13 hS.hd]
  exact kk p l e R s m args below meth c H locs ls k0 hC hR hM hL (okS.cons (v := vI _) hb hS.tl.tl) hP hV hl
theorem wp_slen {σ : St} (hd : decode mt.2.1 pc = .ok (.arraylength, 1)) (hn : cs.2.2.2.2.1 < 2147483648) (kk : wp cs mt kf Q (pc + 1) L (vI cs.2.2.2.2.1 :: S) σ) : wp cs mt kf Q pc L (vR 1000002 :: S) σ := by
  intro p l e R s m args below meth c H locs ls k0 hC hR hM hL hS hP hV hl
  have hF := hC.2.2.2.2.2.2.2.2.2.2.2.1
  rw [List.map_cons, show cv cs (vR 1000002) = .ref (cs.2.1 1000002) from cr_sp (by omega)]
  exact va_slen hC.1 hC.2.1 hF.1 (Nat.lt_of_lt_of_le (Nat.not_le.mp hF.2.1) hF.2.2) hF.2.1 hV hd (kk p l e R s m args below meth c H locs ls k0 hC hR hM hL (okS.cons (v := vI _) ⟨by omega, by omega⟩ hS.tl) hP hV hl)
/-- the text of a String constant -/
theorem wp_strV {σ : St} {idx k : Nat} (hd : decode mt.2.1 pc = .ok (.getfield idx, 3)) (hl : Cond.fieldLink mt.1.cls idx "java/lang/String" "value" "[B" ∈ lw_tbl) (hk : k < strB.length) (kk : wp cs mt kf Q (pc + 3) L (vR (1000100 + k) :: S) σ) : wp cs mt kf Q pc L (vR (1000003 + k) :: S) σ := by
  intro p l e R s m args below meth c H locs ls k0 hC hR hM hL hS hP hV hl'
  obtain ⟨-, -, h3, -⟩ := hC.2.2.2.2.2.2.2.2.2.2.2.2.1 k hk
  rw [List.map_cons, show cv cs (vR (1000003 + k)) = .ref (cs.2.1 (1000003 + k)) from cr_sp (by omega)]
  refine vk_getf hC.1 hC.2.1 h3 hV hC.2.2.2.2.1 (hC.2.2.2.2.2.2.2.1 _ (gw_mem hl rfl)) (fun _ h => h) hd ?_
  have := kk p l e R s m args below meth c H locs ls k0 hC hR hM hL (okS.cons (v := vR _) trivial hS.tl) hP hV hl'
  rw [List.map_cons, show cv cs (vR (1000100 + k)) = .ref (cs.2.1 (1000100 + k)) from cr_sp (by omega)] at this
  exact this
theorem wp_strC {σ : St} {idx k : Nat} (hd : decode mt.2.1 pc = .ok (.getfield idx, 3)) (hl : Cond.fieldLink mt.1.cls idx "java/lang/String" "coder" "B" ∈ lw_tbl) (hk : k < strB.length) (kk : wp cs mt kf Q (pc + 3) L (vI 0 :: S) σ) : wp cs mt kf Q pc L (vR (1000003 + k) :: S) σ := by
  intro p l e R s m args below meth c H locs ls k0 hC hR hM hL hS hP hV hl'
  obtain ⟨-, h2, -⟩ := hC.2.2.2.2.2.2.2.2.2.2.2.2.1 k hk
  rw [List.map_cons, show cv cs (vR (1000003 + k)) = .ref (cs.2.1 (1000003 + k)) from cr_sp (by omega)]
  exact vk_getf hC.1 hC.2.1 h2 hV hC.2.2.2.2.1 (hC.2.2.2.2.2.2.2.1 _ (gw_mem hl rfl)) (fun _ h => h) hd (kk p l e R s m args below meth c H locs ls k0 hC hR hM hL (okS.cons (v := vI 0) ⟨by omega, by omega⟩ hS.tl) hP hV hl')
theorem wp_gsC {σ : St} {idx : Nat} (hd : decode mt.2.1 pc = .ok (.getstatic idx, 3)) (hl : Cond.fieldLink mt.1.cls idx "java/lang/String" "COMPACT_STRINGS" "Z" ∈ lw_tbl) (kk : wp cs mt kf Q (pc + 3) L (vI 1 :: S) σ) : wp cs mt kf Q pc L S σ := by
  intro p l e R s m args below meth c H locs ls k0 hC hR hM hL hS hP hV hl'
  have h6 := hC.2.2.2.2.2.2.2.2.2.2.2.2.2.2.1
  exact va_gets hC.1 hC.2.1 h6 hV hC.2.2.2.2.1 (hC.2.2.2.2.2.2.2.1 _ (gw_mem hl rfl)) (fun _ h => h) hd (kk p l e R s m args below meth c H locs ls k0 hC hR hM hL (okS.cons (v := vI 1) ⟨by omega, by omega⟩ hS) hP hV hl')
theorem wp_gsF {σ : St} {idx : Nat} (hd : decode mt.2.1 pc = .ok (.getstatic idx, 3)) (hl : Cond.fieldLink mt.1.cls idx "jdk/internal/util/Preconditions" "SIOOBE_FORMATTER" "Ljava/util/function/BiFunction;" ∈ lw_tbl) (kk : wp cs mt kf Q (pc + 3) L (vR 1000001 :: S) σ) : wp cs mt kf Q pc L S σ := by
  intro p l e R s m args below meth c H locs ls k0 hC hR hM hL hS hP hV hl'
  have h6 := hC.2.2.2.2.2.2.2.2.2.2.2.2.2.2.2.1
  have := kk p l e R s m args below meth c H locs ls k0 hC hR hM hL (okS.cons (v := vR 1000001) trivial hS) hP hV hl'
  rw [List.map_cons, show cv cs (vR 1000001) = cs.2.2.2.2.2.2 from rfl] at this
  exact va_gets hC.1 hC.2.1 h6 hV hC.2.2.2.2.1 (hC.2.2.2.2.2.2.2.1 _ (gw_mem hl rfl)) (fun _ h => h) hd this
theorem wp_vlen {σ : St} {k : Nat} (hd : decode mt.2.1 pc = .ok (.arraylength, 1)) (hk : k < strB.length) (kk : wp cs mt kf Q (pc + 1) L (vI ((strB.getD k []).length : Nat) :: S) σ) (hn : (strB.getD k []).length < 2147483648) : wp cs mt kf Q pc L (vR (1000100 + k) :: S) σ := by
  intro p l e R s m args below meth c H locs ls k0 hC hR hM hL hS hP hV hl'
  obtain ⟨-, -, -, h4⟩ := hC.2.2.2.2.2.2.2.2.2.2.2.2.1 k hk
  rw [List.map_cons, show cv cs (vR (1000100 + k)) = .ref (cs.2.1 (1000100 + k)) from cr_sp (by omega)]
  exact va_tlen hC.1 hC.2.1 h4 hV rfl hd (kk p l e R s m args below meth c H locs ls k0 hC hR hM hL (okS.cons (v := vI _) ⟨by omega, by omega⟩ hS.tl) hP hV hl')
theorem wp_vld {σ : St} {k : Nat} {x : Int} (hd : decode mt.2.1 pc = .ok (.baload, 1)) (hk : k < strB.length) (hx : 0 ≤ x ∧ x < ((strB.getD k []).length : Nat)) (hb : -2147483648 ≤ (strB.getD k []).getD x.toNat 0 ∧ (strB.getD k []).getD x.toNat 0 < 2147483648) (kk : wp cs mt kf Q (pc + 1) L (vI ((strB.getD k []).getD x.toNat 0) :: S) σ) : wp cs mt kf Q pc L (vI x :: vR (1000100 + k) :: S) σ := by
  intro p l e R s m args below meth c H locs ls k0 hC hR hM hL hS hP hV hl'
  obtain ⟨-, -, -, h4⟩ := hC.2.2.2.2.2.2.2.2.2.2.2.2.1 k hk
  rw [List.map_cons, List.map_cons, show cv cs (vR (1000100 + k)) = .ref (cs.2.1 (1000100 + k)) from cr_sp (by omega)]
  obtain ⟨cell, g1, g2, g3, g4, g5, g6, g7⟩ := h4.kept hV.2.1
  have hin := arr_in hS.hd hx
  have hlt : (Int32.ofInt x).toNatClampNeg < (strB.getD k []).length := Nat.not_le.mp fun q => hin (Or.inr q)
  refine W.bald hC.1 hC.2.1 g1 g2 g3 (fun q => hin (q.elim Or.inl (fun q => Or.inr (Nat.le_trans g4 q)))) (g6 _ hlt) rfl rfl hd ?_
  rw [tc13 hS.hd]
  exact kk p l e R s m args below meth c H locs ls k0 hC hR hM hL (okS.cons (v := vI _) hb hS.tl.tl) hP hV hl'
end MORE
