section MEM
variable {cs : Cs} {mt : Mth} {kf : Kd} {Q : Option AV → Mm → Prop} {pc : Nat} {L : Lc} {S : List AV} {kd : Kd} {MI ML : Nat → Nat → Int} {MR : Nat → Nat → Nat}
def up2 {α : Type} (f : Nat → Nat → α) (i k : Nat) (x : α) : Nat → Nat → α := fun a b => if a = i ∧ b = k then x else f a b
/-- a cell's place in the world, changed -/
theorem cW_set {M' M : Mm} {r : Nat} {q : Nat × Nat} (hq : kd[r]? = some q) (ho : ∀ i, i ≠ r → ∀ q', cE cs M' i q' = cE cs M i q') {e : va_E} (he : cE cs M' r q = e) : (cW cs (kd, M)).set r (cs.1 + r, e) = cW cs (kd, M') := by
  refine List.ext_getElem? (fun i => ?_)
  by_cases hi : i = r
  · subst hi
    rw [List.getElem?_set_self (by simp only [cW, List.length_mapIdx]; exact (List.getElem?_eq_some_iff.mp hq).1), cW_get (σ := (kd, M')) hq, he]
  · rw [List.getElem?_set_ne (fun z => hi z.symm)]
    simp only [cW, List.getElem?_mapIdx]
    cases h : kd[i]? with
    | none => rfl
    | some q' => simp [ho i hi q']
theorem cE_off {MI' ML' : Nat → Nat → Int} {MR' : Nat → Nat → Nat} {i : Nat} (h1 : ∀ k, MI' i k = MI i k) (h2 : ∀ k, ML' i k = ML i k) (h3 : ∀ k, MR' i k = MR i k) (q : Nat × Nat) : cE cs (MI', ML', MR') i q = cE cs (MI, ML, MR) i q := by
  have e : ∀ k t, fv cs (MI', ML', MR') i k t = fv cs (MI, ML, MR) i k t := by
    intro k t
    unfold fv
    split
    · simp [h1]
    · simp [h2]
    · simp [h3]
  unfold cE
  split <;> simp [h1, h2, e]
theorem up2_ne {α : Type} {f : Nat → Nat → α} {i k : Nat} {x : α} {a : Nat} (h : a ≠ i) (b : Nat) : up2 f i k x a b = f a b := by simp [up2, h]
theorem up2_nk {α : Type} {f : Nat → Nat → α} {i k : Nat} {x : α} {b : Nat} (h : b ≠ k) (a : Nat) : up2 f i k x a b = f a b := by simp [up2, h]
theorem up2_eq {α : Type} {f : Nat → Nat → α} {i k : Nat} {x : α} : up2 f i k x i k = x := by simp [up2]
/-- a field link: own's entry idx is field k of class ci, of kind t -/
def FLk (own : String) (idx ci k t : Nat) : Prop := ∃ (C : String) (T : u_T) (N : Nat), vwCl[ci]? = some (C, T, N) ∧ k < N ∧ (∀ w ∈ u_ws C T N, w ∈ lw_tbl) ∧ Cond.fieldLink own idx (T k).1 (T k).2.1 (T k).2.2.1 ∈ lw_tbl ∧ (ftab ci)[k]? = some t
/-- a field that may be written -/
def PLk (own : String) (idx ci k t : Nat) (ty : FieldType) (fin : Bool) : Prop := ∃ (C : String) (T : u_T) (N : Nat) (ty0 : Nat → FieldType), vwCl[ci]? = some (C, T, N) ∧ k < N ∧ (∀ w ∈ u_ws C T N, w ∈ lw_tbl) ∧ Cond.fieldLink own idx (T k).1 (T k).2.1 (T k).2.2.1 ∈ lw_tbl ∧ (ftab ci)[k]? = some t ∧
  (∀ k, k < N → parseFieldDescriptor (T k).2.2.1 = some (ty0 k)) ∧ (∀ a, a < N → ∀ b, b < N → a ≠ b → (T a).2.1 ≠ (T b).2.1) ∧ (T k).2.2.2 = fin ∧ (fin = true → (T k).1 = own) ∧ parseFieldDescriptor (T k).2.2.1 = some ty
theorem gw_mem {w : Cond} (h : w ∈ lw_tbl) (g : goodWord w = true) : w ∈ gw := List.mem_filter.mpr ⟨h, g⟩
theorem gw_lay {C : String} {T : u_T} {N : Nat} (h : ∀ w ∈ u_ws C T N, w ∈ lw_tbl) : ∀ w ∈ u_ws C T N, w ∈ gw := by
  intro w hw
  refine gw_mem (h w hw) ?_
  obtain ⟨k, -, rfl⟩ := List.mem_map.mp hw
  unfold u_lay
  split <;> rfl
theorem obj_at {r ci N : Nat} (hk : kd[r]? = some (ci + 4, N)) (M : Mm) : (cW cs (kd, M))[r]? = some (cs.1 + r, .inr (ci, (ftab ci).mapIdx (fun k t => fv cs M r k t))) := cW_get (σ := (kd, M)) hk
theorem cr_cell {r : Nat} (h : r < 1000000) : cr cs r = .ref (cs.1 + r) := by simp [cr, h]
theorem wp_get {r ci N idx k t : Nat} {v : AV} (hd : decode mt.2.1 pc = .ok (.getfield idx, 3)) (hf : FLk mt.1.cls idx ci k t) (hk : kd[r]? = some (ci + 4, N)) (hr : r < 1000000) (hv : fv cs (MI, ML, MR) r k t = cv cs v) (ho : okM (MI, ML, MR) → okV v)
    (kk : wp cs mt kf Q (pc + 3) L (v :: S) (kd, MI, ML, MR)) : wp cs mt kf Q pc L (vR r :: S) (kd, MI, ML, MR) := by
  intro p l e R s m args below meth c H locs ls k0 hC hR hM hL hS hP hV hl
  obtain ⟨C, T, N', h1, h2, h3, h4, h5⟩ := hf
  have hg := hC.2.2.2.2.2.2.2.1
  have e1 : cv cs (vR r) = .ref (cs.1 + r) := cr_cell hr
  rw [List.map_cons, e1]
  refine va_get (v := cv cs v) hC.1 hC.2.1 hg (gw_lay h3) hC.2.2.2.2.1 hC.2.2.2.2.2.2.2.2.1 hP.1 r (obj_at hk _) h1 k h2 (hg _ (gw_mem h4 rfl)) (fun _ h => h) ?_ hd ?_
  · rw [List.getElem?_mapIdx, h5, ← hv]
    rfl
  · exact kk p l e R s m args below meth c H locs ls k0 hC hR hM hL (okS.cons (ho hM) hS.tl) hP hV hl
theorem wp_getI {r ci N idx k : Nat} (hd : decode mt.2.1 pc = .ok (.getfield idx, 3)) (hf : FLk mt.1.cls idx ci k 0) (hk : kd[r]? = some (ci + 4, N)) (hr : r < 1000000)
    (kk : wp cs mt kf Q (pc + 3) L (vI (MI r k) :: S) (kd, MI, ML, MR)) : wp cs mt kf Q pc L (vR r :: S) (kd, MI, ML, MR) := wp_get hd hf hk hr (v := vI (MI r k)) rfl (fun h => h.1 r k) kk
theorem wp_getL {r ci N idx k : Nat} (hd : decode mt.2.1 pc = .ok (.getfield idx, 3)) (hf : FLk mt.1.cls idx ci k 1) (hk : kd[r]? = some (ci + 4, N)) (hr : r < 1000000)
    (kk : wp cs mt kf Q (pc + 3) L (vL (ML r k) :: S) (kd, MI, ML, MR)) : wp cs mt kf Q pc L (vR r :: S) (kd, MI, ML, MR) := wp_get hd hf hk hr (v := vL (ML r k)) rfl (fun h => h.2 r k) kk
theorem wp_getR {r ci N idx k : Nat} (hd : decode mt.2.1 pc = .ok (.getfield idx, 3)) (hf : FLk mt.1.cls idx ci k 2) (hk : kd[r]? = some (ci + 4, N)) (hr : r < 1000000)
    (kk : wp cs mt kf Q (pc + 3) L (vR (MR r k) :: S) (kd, MI, ML, MR)) : wp cs mt kf Q pc L (vR r :: S) (kd, MI, ML, MR) := wp_get hd hf hk hr (v := vR (MR r k)) rfl (fun _ => trivial) kk
theorem mapIdx_set {α β : Type} (f g : Nat → α → β) (l : List α) (k : Nat) (v : β) (hg : ∀ i a, i ≠ k → l[i]? = some a → g i a = f i a) (hv : ∀ a, l[k]? = some a → g k a = v) : (l.mapIdx f).set k v = l.mapIdx g := by
  refine List.ext_getElem? (fun i => ?_)
  by_cases hi : i = k
  · subst hi
    cases h : l[i]? with
    | none =>
      have hl : l.length ≤ i := by simpa using h
      rw [List.getElem?_eq_none (by simpa using hl), List.getElem?_eq_none (by simpa using hl)]
    | some a =>
      rw [List.getElem?_set_self (by simpa using (List.getElem?_eq_some_iff.mp h).1), List.getElem?_mapIdx, h]
      simp [hv a h]
  · rw [List.getElem?_set_ne (fun z => hi z.symm), List.getElem?_mapIdx, List.getElem?_mapIdx]
    cases h : l[i]? with
    | none => rfl
    | some a => simp [hg i a hi h]
theorem wp_put {MI' ML' : Nat → Nat → Int} {MR' : Nat → Nat → Nat} {r ci N idx k t : Nat} {ty : FieldType} {fin : Bool} {v : AV} (hd : decode mt.2.1 pc = .ok (.putfield idx, 3)) (hf : PLk mt.1.cls idx ci k t ty fin) (hfi : fin = true → mt.1.name = "<init>") (hk : kd[r]? = some (ci + 4, N)) (hr : r < 1000000)
    (hn : narrow ty (cv cs v) = cv cs v) (hfit : fits ty (cv cs v) = true) (hM' : okV v → okM (MI, ML, MR) → okM (MI', ML', MR')) (ho : ∀ i, i ≠ r → (∀ k, MI' i k = MI i k) ∧ (∀ k, ML' i k = ML i k) ∧ ∀ k, MR' i k = MR i k)
    (hs : ∀ j t', j ≠ k → fv cs (MI', ML', MR') r j t' = fv cs (MI, ML, MR) r j t') (hv : fv cs (MI', ML', MR') r k t = cv cs v)
    (kk : wp cs mt kf Q (pc + 3) L S (kd, MI', ML', MR')) : wp cs mt kf Q pc L (v :: vR r :: S) (kd, MI, ML, MR) := by
  intro p l e R s m args below meth c H locs ls k0 hC hR hM hL hS hP hV hl
  obtain ⟨C, T, N', ty0, h1, h2, h3, h4, h5, h6, h7, h8, h9, h10⟩ := hf
  have hg := hC.2.2.2.2.2.2.2.1
  have e1 : cv cs (vR r) = .ref (cs.1 + r) := cr_cell hr
  have hw : (cW cs (kd, MI, ML, MR)).set r (cs.1 + r, .inr (ci, ((ftab ci).mapIdx (fun k t => fv cs (MI, ML, MR) r k t)).set k (cv cs v))) = cW cs (kd, MI', ML', MR') := by
    refine cW_set (M := (MI, ML, MR)) (M' := (MI', ML', MR')) hk (fun i hi q' => cE_off (ho i hi).1 (ho i hi).2.1 (ho i hi).2.2 q') ?_
    show Sum.inr (ci, _) = _
    rw [mapIdx_set _ (fun j t => fv cs (MI', ML', MR') r j t) (ftab ci) k (cv cs v) (fun i a hi _ => hs i a hi) (fun a ha => by rw [h5] at ha; cases ha; exact hv)]
  have hlen : k < ((ftab ci).mapIdx (fun k t => fv cs (MI, ML, MR) r k t)).length := by simpa using (List.getElem?_eq_some_iff.mp h5).1
  rw [List.map_cons, List.map_cons, e1]
  have key : ∀ (H1 : Heap) (locs1 : List Loc), va_P cs.2.2.1 vwCl ((cW cs (kd, MI, ML, MR)).set r (cs.1 + r, .inr (ci, ((ftab ci).mapIdx (fun k t => fv cs (MI, ML, MR) r k t)).set k (cv cs v)))) H1 → H1.size = H.size → va_S (aA cs) s.heap H1 locs1 →
      W p l e R s m args below meth c H1 locs1 (kd.length - k0.length) (slo kd - slo k0) (MQ below (Qm cs kf Q) args s (kf.length - k0.length) (slo kf - slo k0) (aA cs)) (F0 m (pc + 3) ls (S.map (cv cs))) := by
    intro H1 locs1 g1 g2 g3
    rw [hw] at g1
    exact kk p l e R s m args below meth c H1 locs1 ls k0 hC hR (hM' hS.hd hM) hL hS.tl.tl ⟨g1, by rw [g2]; exact hP.2⟩ g3 hl
  have hap := va_apart (own := mt.1.cls) (args := args) hg (gw_lay h3) ty0 h6 h7 hC.2.2.2.2.2.2.2.2.1 h1
  obtain ⟨r', h1', cell, q1, q2, q3, q4⟩ := hP.1 r _ (obj_at hk _)
  have hr' : r' = (C, T, N') := Option.some.inj (h1'.symm.trans h1)
  subst hr'
  obtain ⟨hSl, hfc, kC, hkC, hkind⟩ := hC.2.2.2.2.2.2.2.2.1.1 ci _ h1
  obtain ⟨cf, kf', fi, f, hi, hsl⟩ := hSl k h2
  have hst := (u_facts hfc hkC (u_lays hg (gw_lay h3) h2) hi).1
  have hlink := hg _ (gw_mem h4 rfl)
  have hlay := hg _ (gw_lay h3 _ (u_in_lay h2))
  have fin_ : ∀ H' : Heap, (H'[cs.1 + r]? = some { cell with slots := cell.slots.setIfInBounds f.slot (cv cs v) } → H'.size = H.size → (∀ q : Nat, q ≠ cs.1 + r → H'[q]? = H[q]?) → W p l e R s m args below meth c H' (locs ++ [⟨cs.1 + r, f.slot⟩]) (kd.length - k0.length) (slo kd - slo k0) (MQ below (Qm cs kf Q) args s (kf.length - k0.length) (slo kf - slo k0) (aA cs)) (F0 m (pc + 3) ls (S.map (cv cs)))) := by
    intro H' e1 e2 e3
    rw [hsl] at e1 ⊢
    exact key H' _ (hP.1.set (cW_D cs _) (obj_at hk _) ⟨_, h1, t_OB.to (V := updV (vp_V _) k (cv cs v)) ⟨_, e1, q2, q3, t_set q4 hap h2 (cv cs v)⟩ (fun j _ => vp_updV_set hlen (cv cs v) j)⟩ e3) e2 (hV.put e2 e3 (Nat.le_add_right _ _))
  cases fin with
  | false =>
    unfold u_lay at hlay
    rw [if_neg (by rw [h8]; decide)] at hlay
    have h6' := u_store hfc hkC hkind hlay hi h10 hn hfit
    exact W.putK hC.1 hC.2.1 (f := f) ⟨hC.2.2.2.2.1, hlink, ⟨_, _, _, hi⟩, hst⟩ (by rw [q2]; exact h6') q1 q3 (by rw [hsl]; exact k2_hasslot (q4 k h2)) rfl rfl hd fun H' e1 e2 e3 => fin_ H' e1 e2 e3
  | true =>
    unfold u_lay at hlay
    rw [if_pos h8] at hlay
    have hcf : m.cls = cf := by
      obtain ⟨_, _, c', _, _, _, -, -, hf', -, -, -, hown2, -⟩ := Cond.laysFinal_spec hlay
      have e1 : c' = cf := by have := hi.symm.trans hf'; simp at this; exact this.1.symm
      rw [h9 rfl] at hown2
      rw [← e1]; exact Option.some.inj (hC.2.2.2.2.1.symm.trans hown2)
    have h6' := u_fits hfc hkC hkind (Or.inr hlay) hi h10 hn hfit
    exact W.putFinK hC.1 hC.2.1 hC.2.2.2.2.1 hlink hi hst hcf (hC.2.2.2.2.2.2.1.trans (hfi rfl)) (by rw [q2]; exact h6') q1 q3 (by rw [hsl]; exact k2_hasslot (q4 k h2)) rfl rfl hd fun H' e1 e2 e3 => fin_ H' e1 e2 e3
end MEM
