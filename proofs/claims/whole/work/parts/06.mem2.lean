section MEM2
variable {cs : Cs} {mt : Mth} {kf : Kd} {Q : Option AV → Mm → Prop} {pc : Nat} {L : Lc} {S : List AV} {kd : Kd} {MI ML : Nat → Nat → Int} {MR : Nat → Nat → Nat}
theorem okM_upI {i k : Nat} {x : Int} (hx : okV (vI x)) (h : okM (MI, ML, MR)) : okM (up2 MI i k x, ML, MR) := by
  refine ⟨fun a b => ?_, h.2⟩
  show -2147483648 ≤ up2 MI i k x a b ∧ up2 MI i k x a b < 2147483648
  unfold up2
  split
  · exact hx
  · exact h.1 a b
theorem okM_upL {i k : Nat} {x : Int} (hx : okV (vL x)) (h : okM (MI, ML, MR)) : okM (MI, up2 ML i k x, MR) := by
  refine ⟨h.1, fun a b => ?_⟩
  show -9223372036854775808 ≤ up2 ML i k x a b ∧ up2 ML i k x a b < 9223372036854775808
  unfold up2
  split
  · exact hx
  · exact h.2 a b
theorem wp_putIg {r ci N idx k : Nat} {x : Int} {ty : FieldType} {fin : Bool} (hd : decode mt.2.1 pc = .ok (.putfield idx, 3)) (hf : PLk mt.1.cls idx ci k 0 ty fin) (hfi : fin = true → mt.1.name = "<init>") (hk : kd[r]? = some (ci + 4, N)) (hr : r < 1000000) (hn : narrow ty (.int (Int32.ofInt x)) = .int (Int32.ofInt x)) (hfit : fits ty (.int (Int32.ofInt x)) = true)
    (kk : wp cs mt kf Q (pc + 3) L S (kd, up2 MI r k x, ML, MR)) : wp cs mt kf Q pc L (vI x :: vR r :: S) (kd, MI, ML, MR) := by
  refine wp_put hd hf hfi hk hr hn hfit (fun h1 h2 => okM_upI h1 h2) (fun i hi => ⟨up2_ne hi, fun _ => rfl, fun _ => rfl⟩) (fun j t' hj => ?_) ?_ kk
  · unfold fv
    split <;> simp [up2_nk hj]
  · show Value.int (Int32.ofInt (up2 MI r k x r k)) = _
    rw [up2_eq]
    rfl
theorem wp_putI {r ci N idx k : Nat} {x : Int} (hd : decode mt.2.1 pc = .ok (.putfield idx, 3)) (hf : PLk mt.1.cls idx ci k 0 .int false) (hk : kd[r]? = some (ci + 4, N)) (hr : r < 1000000)
    (kk : wp cs mt kf Q (pc + 3) L S (kd, up2 MI r k x, ML, MR)) : wp cs mt kf Q pc L (vI x :: vR r :: S) (kd, MI, ML, MR) := wp_putIg hd hf (fun h => by cases h) hk hr rfl rfl kk
theorem wp_putZ {r ci N idx k : Nat} {x : Int} (hd : decode mt.2.1 pc = .ok (.putfield idx, 3)) (hf : PLk mt.1.cls idx ci k 0 .boolean false) (hk : kd[r]? = some (ci + 4, N)) (hr : r < 1000000) (hx : x = 0 ∨ x = 1)
    (kk : wp cs mt kf Q (pc + 3) L S (kd, up2 MI r k x, ML, MR)) : wp cs mt kf Q pc L (vI x :: vR r :: S) (kd, MI, ML, MR) := by
  refine wp_putIg hd hf (fun h => by cases h) hk hr ?_ ?_ kk
  · rcases hx with rfl | rfl <;> rfl
  · rcases hx with rfl | rfl <;> rfl
theorem nar_byte {x : Int} (hx : -128 ≤ x ∧ x < 128) : (Int32.ofInt x).toInt8.toInt32 = Int32.ofInt x := by
  obtain ⟨n, rfl⟩ : ∃ n : Fin 256, x = (n : Int) - 128 := ⟨⟨(x + 128).toNat, by omega⟩, by simp; omega⟩
  revert n
  decide +kernel
theorem wp_putB {r ci N idx k : Nat} {x : Int} (hd : decode mt.2.1 pc = .ok (.putfield idx, 3)) (hf : PLk mt.1.cls idx ci k 0 .byte false) (hk : kd[r]? = some (ci + 4, N)) (hr : r < 1000000) (hx : -128 ≤ x ∧ x < 128)
    (kk : wp cs mt kf Q (pc + 3) L S (kd, up2 MI r k x, ML, MR)) : wp cs mt kf Q pc L (vI x :: vR r :: S) (kd, MI, ML, MR) := by
  have e := nar_byte hx
  have e2 : narrow .byte (.int (Int32.ofInt x)) = .int (Int32.ofInt x) := by show Value.int (Int32.ofInt x).toInt8.toInt32 = _; rw [e]
  refine wp_putIg hd hf (fun h => by cases h) hk hr e2 ?_ kk
  simp only [fits, decide_eq_true_eq, Bool.and_eq_true]
  show Int32.ofInt (-128) ≤ Int32.ofInt x ∧ Int32.ofInt x ≤ Int32.ofInt 127
  rw [tc11 (by omega) (by omega), tc11 (by omega) (by omega)]
  omega
theorem wp_putL {r ci N idx k : Nat} {x : Int} (hd : decode mt.2.1 pc = .ok (.putfield idx, 3)) (hf : PLk mt.1.cls idx ci k 1 .long false) (hk : kd[r]? = some (ci + 4, N)) (hr : r < 1000000)
    (kk : wp cs mt kf Q (pc + 3) L S (kd, MI, up2 ML r k x, MR)) : wp cs mt kf Q pc L (vL x :: vR r :: S) (kd, MI, ML, MR) := by
  refine wp_put hd hf (fun h => by cases h) hk hr rfl rfl (fun h1 h2 => okM_upL h1 h2) (fun i hi => ⟨fun _ => rfl, up2_ne hi, fun _ => rfl⟩) (fun j t' hj => ?_) ?_ kk
  · unfold fv
    split <;> simp [up2_nk hj]
  · show Value.long (Int64.ofInt (up2 ML r k x r k)) = _
    rw [up2_eq]
    rfl
theorem wp_putR {r ci N idx k x : Nat} {ty : FieldType} {fin : Bool} (hd : decode mt.2.1 pc = .ok (.putfield idx, 3)) (hf : PLk mt.1.cls idx ci k 2 ty fin) (hfi : fin = true → mt.1.name = "<init>") (hk : kd[r]? = some (ci + 4, N)) (hr : r < 1000000) (hx : nn x) (hty : (∃ n, ty = .object n) ∨ ∃ t, ty = .array t)
    (kk : wp cs mt kf Q (pc + 3) L S (kd, MI, ML, up2 MR r k x)) : wp cs mt kf Q pc L (vR x :: vR r :: S) (kd, MI, ML, MR) := by
  obtain ⟨a, ha⟩ := cr_nn (cs := cs) hx
  have e1 : cv cs (vR x) = .ref a := ha
  refine wp_put (MI' := MI) (ML' := ML) (MR' := up2 MR r k x) hd hf hfi hk hr ?_ ?_ (fun _ h2 => h2) (fun i hi => ⟨fun _ => rfl, fun _ => rfl, up2_ne hi⟩) (fun j t' hj => ?_) ?_ kk
  · rw [e1]; rcases hty with ⟨n, rfl⟩ | ⟨t, rfl⟩ <;> rfl
  · rw [e1]; rcases hty with ⟨n, rfl⟩ | ⟨t, rfl⟩ <;> rfl
  · unfold fv
    split <;> simp [up2_nk hj]
  · show cr cs (up2 MR r k x r k) = _
    rw [up2_eq]
    rfl
theorem arr_in {x : Int} {n : Nat} (hx : okV (vI x)) (h : 0 ≤ x ∧ x < n) : vp_in (Int32.ofInt x) n := by
  unfold vp_in
  rw [tc13 hx, show (Int32.ofInt x < 0) = (Int32.ofInt x < Int32.ofInt 0) from rfl, tc10 hx (by omega)]
  omega
theorem arr_i {r t n : Nat} (hk : kd[r]? = some (t, n)) (ht : t = 0 ∨ t = 1 ∨ t = 2) (M : Mm) : (cW cs (kd, M))[r]? = some (cs.1 + r, .inl (cs.2.2.2.1 t, n, .inl (fun k => Int32.ofInt (M.1 r k)))) := by
  rw [cW_get (σ := (kd, M)) hk]
  rcases ht with rfl | rfl | rfl <;> rfl
theorem arr_l {r n : Nat} (hk : kd[r]? = some (3, n)) (M : Mm) : (cW cs (kd, M))[r]? = some (cs.1 + r, .inl (cs.2.2.2.1 3, n, .inr (.inl (fun k => Int64.ofInt (M.2.1 r k))))) := cW_get (σ := (kd, M)) hk
theorem wp_iald {r n : Nat} {x : Int} (hd : decode mt.2.1 pc = .ok (.iaload, 1)) (hk : kd[r]? = some (0, n)) (hr : r < 1000000) (hx : 0 ≤ x ∧ x < n)
    (kk : wp cs mt kf Q (pc + 1) L (vI (MI r x.toNat) :: S) (kd, MI, ML, MR)) : wp cs mt kf Q pc L (vI x :: vR r :: S) (kd, MI, ML, MR) := by
  intro p l e R s m args below meth c H locs ls k0 hC hR hM hL hS hP hV hl
  have e1 : cv cs (vR r) = .ref (cs.1 + r) := cr_cell hr
  rw [List.map_cons, List.map_cons, e1]
  refine va_iald hC.1 hC.2.1 hC.2.2.2.2.2.2.2.2.1 hP.1 r 0 (arr_i hk (Or.inl rfl) _) rfl (arr_in hS.hd hx) hd ?_
  have := kk p l e R s m args below meth c H locs ls k0 hC hR hM hL (okS.cons (hM.1 r x.toNat) hS.tl.tl) hP hV hl
  rw [tc13 hS.hd]
  exact this
theorem wp_bald {r n : Nat} {x : Int} (hd : decode mt.2.1 pc = .ok (.baload, 1)) (hk : kd[r]? = some (1, n)) (hr : r < 1000000) (hx : 0 ≤ x ∧ x < n)
    (kk : wp cs mt kf Q (pc + 1) L (vI (MI r x.toNat) :: S) (kd, MI, ML, MR)) : wp cs mt kf Q pc L (vI x :: vR r :: S) (kd, MI, ML, MR) := by
  intro p l e R s m args below meth c H locs ls k0 hC hR hM hL hS hP hV hl
  have e1 : cv cs (vR r) = .ref (cs.1 + r) := cr_cell hr
  rw [List.map_cons, List.map_cons, e1]
  refine va_bald hC.1 hC.2.1 hC.2.2.2.2.2.2.2.2.1 hP.1 r 1 (arr_i hk (Or.inr (Or.inl rfl)) _) rfl (arr_in hS.hd hx) hd ?_
  have := kk p l e R s m args below meth c H locs ls k0 hC hR hM hL (okS.cons (hM.1 r x.toNat) hS.tl.tl) hP hV hl
  rw [tc13 hS.hd]
  exact this
theorem wp_zald {r n : Nat} {x : Int} (hd : decode mt.2.1 pc = .ok (.baload, 1)) (hk : kd[r]? = some (2, n)) (hr : r < 1000000) (hx : 0 ≤ x ∧ x < n)
    (kk : wp cs mt kf Q (pc + 1) L (vI (MI r x.toNat) :: S) (kd, MI, ML, MR)) : wp cs mt kf Q pc L (vI x :: vR r :: S) (kd, MI, ML, MR) := by
  intro p l e R s m args below meth c H locs ls k0 hC hR hM hL hS hP hV hl
  have e1 : cv cs (vR r) = .ref (cs.1 + r) := cr_cell hr
  rw [List.map_cons, List.map_cons, e1]
  refine va_zald hC.1 hC.2.1 hC.2.2.2.2.2.2.2.2.1 hP.1 r 2 (arr_i hk (Or.inr (Or.inr rfl)) _) rfl (arr_in hS.hd hx) hd ?_
  have := kk p l e R s m args below meth c H locs ls k0 hC hR hM hL (okS.cons (hM.1 r x.toNat) hS.tl.tl) hP hV hl
  rw [tc13 hS.hd]
  exact this
theorem wp_lald {r n : Nat} {x : Int} (hd : decode mt.2.1 pc = .ok (.laload, 1)) (hk : kd[r]? = some (3, n)) (hr : r < 1000000) (hx : 0 ≤ x ∧ x < n)
    (kk : wp cs mt kf Q (pc + 1) L (vL (ML r x.toNat) :: S) (kd, MI, ML, MR)) : wp cs mt kf Q pc L (vI x :: vR r :: S) (kd, MI, ML, MR) := by
  intro p l e R s m args below meth c H locs ls k0 hC hR hM hL hS hP hV hl
  have e1 : cv cs (vR r) = .ref (cs.1 + r) := cr_cell hr
  rw [List.map_cons, List.map_cons, e1]
  refine va_lald hC.1 hC.2.1 hC.2.2.2.2.2.2.2.2.1 hP.1 r 3 (arr_l hk _) rfl (arr_in hS.hd hx) hd ?_
  have := kk p l e R s m args below meth c H locs ls k0 hC hR hM hL (okS.cons (hM.2 r x.toNat) hS.tl.tl) hP hV hl
  rw [tc13 hS.hd]
  exact this
theorem cW_sti {r t n k : Nat} {x : Int} (hk : kd[r]? = some (t, n)) (ht : t = 0 ∨ t = 1 ∨ t = 2) : (cW cs (kd, MI, ML, MR)).set r (cs.1 + r, .inl (cs.2.2.2.1 t, n, .inl (upd (fun k => Int32.ofInt (MI r k)) k (Int32.ofInt x)))) = cW cs (kd, up2 MI r k x, ML, MR) := by
  refine cW_set (M := (MI, ML, MR)) (M' := (up2 MI r k x, ML, MR)) hk (fun i hi q' => cE_off (up2_ne hi) (fun _ => rfl) (fun _ => rfl) q') ?_
  have e : (fun j => Int32.ofInt (up2 MI r k x r j)) = upd (fun k => Int32.ofInt (MI r k)) k (Int32.ofInt x) := by
    funext j
    unfold up2 upd
    by_cases h : j = k <;> simp [h]
  rcases ht with rfl | rfl | rfl <;> (show Sum.inl (_, _, Sum.inl (fun j => Int32.ofInt (up2 MI r k x r j))) = _; rw [e])
theorem wp_iast {r n : Nat} {i x : Int} (hd : decode mt.2.1 pc = .ok (.iastore, 1)) (hk : kd[r]? = some (0, n)) (hr : r < 1000000) (hx : 0 ≤ i ∧ i < n)
    (kk : wp cs mt kf Q (pc + 1) L S (kd, up2 MI r i.toNat x, ML, MR)) : wp cs mt kf Q pc L (vI x :: vI i :: vR r :: S) (kd, MI, ML, MR) := by
  intro p l e R s m args below meth c H locs ls k0 hC hR hM hL hS hP hV hl
  have e1 : cv cs (vR r) = .ref (cs.1 + r) := cr_cell hr
  have hi : okV (vI i) := hS.tl.hd
  rw [List.map_cons, List.map_cons, List.map_cons, e1]
  obtain ⟨cell, hcl⟩ : ∃ cell, cell = H := ⟨_, rfl⟩
  refine W.iast hC.1 hC.2.1 (hP.1 r _ (arr_i hk (Or.inl rfl) _)) ((hC.2.2.2.2.2.2.2.2.1.2 0 _ rfl).1 n (fun j => .int (Int32.ofInt (MI r j)))) (fun q => by cases q) (by show ¬ (Int32.ofInt i < 0 ∨ (arrV _ _ _).slots.size ≤ _); rw [arrV_size]; exact arr_in hi hx) rfl rfl hd fun H1 e z oq => ?_
  refine kk p l _ R s m args below meth c H1 _ ls k0 hC hR (okM_upI hS.hd hM) hL hS.tl.tl.tl ⟨?_, by rw [z]; exact hP.2⟩ (hV.put z oq (Nat.le_add_right _ _)) hl
  rw [← cW_sti hk (Or.inl rfl)]
  refine hP.1.set (cW_D cs _) (arr_i hk (Or.inl rfl) _) ?_ oq
  show H1[cs.1 + r]? = some (vp_cell _ _)
  rw [e, vp_cell_i, vp_cell_i, arrV_store, tc13 hi]
  congr 2
  funext q
  by_cases hq : q = i.toNat
  · subst hq
    simp [updV, upd]
  · simp [updV, upd, hq]
theorem wp_bast {r n : Nat} {i x : Int} (hd : decode mt.2.1 pc = .ok (.bastore, 1)) (hk : kd[r]? = some (1, n)) (hr : r < 1000000) (hx : 0 ≤ i ∧ i < n) (hb : -128 ≤ x ∧ x < 128)
    (kk : wp cs mt kf Q (pc + 1) L S (kd, up2 MI r i.toNat x, ML, MR)) : wp cs mt kf Q pc L (vI x :: vI i :: vR r :: S) (kd, MI, ML, MR) := by
  intro p l e R s m args below meth c H locs ls k0 hC hR hM hL hS hP hV hl
  have e1 : cv cs (vR r) = .ref (cs.1 + r) := cr_cell hr
  have hi : okV (vI i) := hS.tl.hd
  rw [List.map_cons, List.map_cons, List.map_cons, e1]
  refine W.bast hC.1 hC.2.1 (hP.1 r _ (arr_i hk (Or.inr (Or.inl rfl)) _)) ((hC.2.2.2.2.2.2.2.2.1.2 1 _ rfl).1 n (fun j => .int (Int32.ofInt (MI r j)))) (fun q => by cases q) (by show ¬ (Int32.ofInt i < 0 ∨ (arrV _ _ _).slots.size ≤ _); rw [arrV_size]; exact arr_in hi hx) rfl rfl hd fun H1 e z oq => ?_
  refine kk p l _ R s m args below meth c H1 _ ls k0 hC hR (okM_upI hS.hd hM) hL hS.tl.tl.tl ⟨?_, by rw [z]; exact hP.2⟩ (hV.put z oq (Nat.le_add_right _ _)) hl
  rw [← cW_sti hk (Or.inr (Or.inl rfl))]
  refine hP.1.set (cW_D cs _) (arr_i hk (Or.inr (Or.inl rfl)) _) ?_ oq
  show H1[cs.1 + r]? = some (vp_cell _ _)
  rw [e, vp_cell_i, vp_cell_i, arrV_store, tc13 hi]
  congr 2
  funext q
  by_cases hq : q = i.toNat
  · subst hq
    have e2 : narrow .byte (.int (Int32.ofInt x)) = .int (Int32.ofInt x) := by show Value.int (Int32.ofInt x).toInt8.toInt32 = _; rw [nar_byte hb]
    simp [updV, upd, e2]
  · simp [updV, upd, hq]
theorem wp_zast {r n : Nat} {i x : Int} (hd : decode mt.2.1 pc = .ok (.bastore, 1)) (hk : kd[r]? = some (2, n)) (hr : r < 1000000) (hx : 0 ≤ i ∧ i < n) (hb : x = 0 ∨ x = 1)
    (kk : wp cs mt kf Q (pc + 1) L S (kd, up2 MI r i.toNat x, ML, MR)) : wp cs mt kf Q pc L (vI x :: vI i :: vR r :: S) (kd, MI, ML, MR) := by
  intro p l e R s m args below meth c H locs ls k0 hC hR hM hL hS hP hV hl
  have e1 : cv cs (vR r) = .ref (cs.1 + r) := cr_cell hr
  have hi : okV (vI i) := hS.tl.hd
  rw [List.map_cons, List.map_cons, List.map_cons, e1]
  refine W.zast hC.1 hC.2.1 (hP.1 r _ (arr_i hk (Or.inr (Or.inr rfl)) _)) ((hC.2.2.2.2.2.2.2.2.1.2 2 _ rfl).1 n (fun j => .int (Int32.ofInt (MI r j)))) (fun q => by cases q) (by show ¬ (Int32.ofInt i < 0 ∨ (arrV _ _ _).slots.size ≤ _); rw [arrV_size]; exact arr_in hi hx) rfl rfl hd fun H1 e z oq => ?_
  refine kk p l _ R s m args below meth c H1 _ ls k0 hC hR (okM_upI hS.hd hM) hL hS.tl.tl.tl ⟨?_, by rw [z]; exact hP.2⟩ (hV.put z oq (Nat.le_add_right _ _)) hl
  rw [← cW_sti hk (Or.inr (Or.inr rfl))]
  refine hP.1.set (cW_D cs _) (arr_i hk (Or.inr (Or.inr rfl)) _) ?_ oq
  show H1[cs.1 + r]? = some (vp_cell _ _)
  rw [e, vp_cell_i, vp_cell_i, arrV_store, tc13 hi]
  congr 2
  funext q
  by_cases hq : q = i.toNat
  · subst hq
    rcases hb with rfl | rfl <;> (simp [updV, upd, narrow]; try rfl)
  · simp [updV, upd, hq]
theorem wp_last {r n : Nat} {i x : Int} (hd : decode mt.2.1 pc = .ok (.lastore, 1)) (hk : kd[r]? = some (3, n)) (hr : r < 1000000) (hx : 0 ≤ i ∧ i < n)
    (kk : wp cs mt kf Q (pc + 1) L S (kd, MI, up2 ML r i.toNat x, MR)) : wp cs mt kf Q pc L (vL x :: vI i :: vR r :: S) (kd, MI, ML, MR) := by
  intro p l e R s m args below meth c H locs ls k0 hC hR hM hL hS hP hV hl
  have e1 : cv cs (vR r) = .ref (cs.1 + r) := cr_cell hr
  have hi : okV (vI i) := hS.tl.hd
  rw [List.map_cons, List.map_cons, List.map_cons, e1]
  refine W.last hC.1 hC.2.1 (hP.1 r _ (arr_l hk _)) ((hC.2.2.2.2.2.2.2.2.1.2 3 _ rfl).1 n (fun j => .long (Int64.ofInt (ML r j)))) (fun q => by cases q) (by show ¬ (Int32.ofInt i < 0 ∨ (arrV _ _ _).slots.size ≤ _); rw [arrV_size]; exact arr_in hi hx) rfl rfl hd fun H1 e z oq => ?_
  refine kk p l _ R s m args below meth c H1 _ ls k0 hC hR (okM_upL hS.hd hM) hL hS.tl.tl.tl ⟨?_, by rw [z]; exact hP.2⟩ (hV.put z oq (Nat.le_add_right _ _)) hl
  have hw : (cW cs (kd, MI, ML, MR)).set r (cs.1 + r, .inl (cs.2.2.2.1 3, n, .inr (.inl (fun j => if j = i.toNat then Int64.ofInt x else Int64.ofInt (ML r j))))) = cW cs (kd, MI, up2 ML r i.toNat x, MR) := by
    refine cW_set (M := (MI, ML, MR)) (M' := (MI, up2 ML r i.toNat x, MR)) hk (fun i hi q' => cE_off (fun _ => rfl) (up2_ne hi) (fun _ => rfl) q') ?_
    show Sum.inl (_, _, Sum.inr (Sum.inl (fun j => Int64.ofInt (up2 ML r i.toNat x r j)))) = _
    have e : (fun j => Int64.ofInt (up2 ML r i.toNat x r j)) = (fun j => if j = i.toNat then Int64.ofInt x else Int64.ofInt (ML r j)) := by
      funext j
      unfold up2
      by_cases h : j = i.toNat <;> simp [h]
    rw [e]
  rw [← hw]
  refine hP.1.set (cW_D cs _) (arr_l hk _) ?_ oq
  show H1[cs.1 + r]? = some (vp_cell _ _)
  rw [e, vp_cell_l, vp_cell_l, arrV_store, tc13 hi]
  congr 2
  funext q
  by_cases hq : q = i.toNat
  · subst hq
    simp [updV]
  · simp [updV, hq]
end MEM2
