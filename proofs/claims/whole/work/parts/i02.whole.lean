/-! THE CLAIM OUT OF ONE WALK OF THE LAW'S BODY. Your part is whole_start (and what it stands on); all else here is the same for every law, but numbers. -/
def R_law : String := "TreePressLaw"
def lw_P (b : Addr) (xs : List Int32) (args : Array Value) (s : State) : Prop := args = #[.ref b] ∧ s.IntsAt b xs ∧ xs.length ≤ 3072 ∧ (Jvm.Cond.and given_1 narrow_1).before args s = true
def lw_Q (_ : Array Value) (s : State) (o : Outcome) (t : State) : Prop := o = .returned (some (.int 1)) ∧ Framed s o t [] 600000 7302250
def lw_Z (below : List Frame) (a : Array Value) (s : State) : State → Prop := fun t => ∃ o, t.status = .running ∧ Ended t below o ∧ lw_Q a s o t
/-- the law's own end, with 1 on the stack, nothing written that was there before, its room as the claim has it -/
theorem lw_ret {p : Program} {l : Launch} {e : Env} {s : State} {m : MethodId} {below : List Frame} {meth : Method} {c : Code} {b : Nat} (hx : p.tables.exec = Jvm.exec) (hb : c.code = code) (hr : meth.sig.returnType = ret) (hlocks : meth.locks = false) {pc : Nat} {H : Heap} {ls : Array Slot} (hdg : decode code pc = .ok (.ireturn, 1)) : W p l e room_1 s m #[Value.ref b] below meth c H [] 600000 7302250 (lw_Z below #[Value.ref b] s) (F0 m pc ls [.int 1]) := by
  intro T hT X
  obtain ⟨fs, hret, hrun, hended, hW, hframe⟩ := X.leave (v := some (.int 1)) (hlocks := hlocks) (fun h => by rw [hr] at h; cases h)
  have hmeth' : T.vm.method? m = some meth := X.method'
  refine ⟨T.setFrames fs, ?_, .returned (some (.int 1)), hrun, hended, rfl, ⟨_, rfl⟩, hW, hframe⟩
  jvm_step X.here [X.here.top, hx, hb, hdg, hmeth', hr, ret, narrow_b1]
  (try refine ⟨rfl, ?_⟩); (try refine ⟨rfl, ?_⟩)
  first | (intro acts; rw [hret _ acts rfl rfl rfl]) | rw [hret _ _ rfl rfl rfl]
  exact Steps.refl _
/-- what holds at the law's entry: the machine, the code, the tables' words (any of lw_tbl by 'hts w (by decide +kernel)'), the script of L ints xs at the cell b, what the Statement gives of the start (any of its parts by flat_of_before) -/
def lw_At (p : Program) (s : State) (m : MethodId) (meth : Method) (c : Code) (b L : Nat) (xs : Nat → Int32) : Prop :=
  p.tables.exec = Jvm.exec ∧ c.code = code ∧ meth.sig.returnType = ret ∧ c.maxLocals = 4 ∧ s.vm.findClass R_law = some m.cls ∧ (∀ w ∈ lw_tbl, w.before #[Value.ref b] s = true) ∧ va_X b L xs s s.heap ∧ b < s.heap.size ∧ meth.locks = false ∧ (Jvm.Cond.and given_1 narrow_1).before #[Value.ref b] s = true ∧ meth.name = "law"
theorem kn1 {own : String} {idx ci N : Nat} {s : State} {args : Array Value} (h : NLk own idx ci N) (hts : ∀ w ∈ lw_tbl, w.before args s = true) : ∃ p : ClassId × (Nat → Nat), ∀ q, vwCl[ci]? = some q → u_Kn s q.1 q.2.1 q.2.2 p.1 p.2 := by
  obtain ⟨C, T, ty0, h1, h2, h3, h4, h5, h6, h7, h8⟩ := h
  obtain ⟨cC, iS, hK⟩ := u_known (ws := lw_tbl) hts h2 (hts _ h5)
  refine ⟨(cC, iS), fun q hq => ?_⟩
  rw [h1] at hq
  cases hq
  exact hK
theorem cls_known {s : State} {args : Array Value} (hts : ∀ w ∈ lw_tbl, w.before args s = true) : ∃ D : va_G, ∀ c q, vwCl[c]? = some q → u_Kn s q.1 q.2.1 q.2.2 (D.1 c) (D.2 c) := by
  have h : ∀ c : Nat, ∃ p : ClassId × (Nat → Nat), ∀ q, vwCl[c]? = some q → u_Kn s q.1 q.2.1 q.2.2 p.1 p.2 := by
    intro c
    match c with
    | 0 => exact kn1 nX11_57 hts
    | 1 => exact kn1 nX11_13 hts
    | 2 => exact kn1 nX11_20 hts
    | 3 => exact kn1 nX11_64 hts
    | 4 => exact kn1 nX11_36 hts
    | 5 => exact kn1 nX3_9 hts
    | 6 => exact kn1 nX11_43 hts
    | 7 => exact kn1 nX3_25 hts
    | 8 => exact kn1 nX11_50 hts
    | 9 => exact kn1 nX3_18 hts
    | 10 => exact kn1 nX11_29 hts
    | 11 => exact kn1 nL_7 hts
    | 12 => exact kn1 nL_10 hts
    | n + 13 => exact ⟨(0, fun _ => 0), fun q hq => by simp [vwCl] at hq⟩
  exact ⟨(fun c => (Classical.choose (h c)).1, fun c => (Classical.choose (h c)).2), fun c q hq => Classical.choose_spec (h c) q hq⟩
theorem arr_known {s : State} {args : Array Value} {ty : FieldType} (h : (Cond.arrayClass ty).before args s = true) : ∃ cA : ClassId, ArrOfT s cA ty ∧ s.vm.findClass ("[" ++ ty.toString) = some cA := by
  obtain ⟨c, k, comp, h1, h2, h3⟩ := Cond.arrayClass_spec h
  exact ⟨c, fun n z => ⟨fun k h => (by cases h), k, h2, comp, h3⟩, h1⟩
theorem room_le {s : State} {pl : Platform} {r r' : Room} (h : s.hasRoom pl r = true) (h1 : r'.frames ≤ r.frames) (h2 : r'.cells ≤ r.cells) (h3 : r'.slots ≤ r.slots) (h4 : r'.locals ≤ r.locals) : s.hasRoom pl r' = true := by
  have a := State.hasRoom_stack h
  have b := State.hasRoom_heap h
  have c := State.hasRoom_real h
  have d : s.slotsTrue = true := by
    simp only [State.hasRoom, Bool.and_eq_true] at h
    exact h.2
  exact State.hasRoom_of (State.hasRoom_plain h) (by omega) (by omega) (by omega) (by omega) d (by omega)
theorem Rk0 {cs : Cs} {s : State} (k : Kd) (h : cs.1 = s.heap.size) : Rk cs { frames := 12, cells := k.length, slots := slo k, locals := 267 } s k [] [] := ⟨Nat.add_zero _, Nat.add_zero _, by rw [h]; rfl, Nat.le_refl _, Nat.le_refl _⟩
theorem slo_KD : slo KD ≤ 7302250 := by decide +kernel
theorem len_KD0 : KD.length - ([] : Kd).length ≤ 600000 := by rw [KD_len]; decide
theorem slo_KD0 : slo KD - slo [] ≤ 7302250 := Nat.le_trans (Nat.sub_le _ _) slo_KD
theorem strB_len : strB.length = 41 := by decide +kernel
set_option maxHeartbeats 4000000 in
/-- from the entry, for every script of at most 3072 ints, the law comes to its end with true -/
theorem whole_start {p : Program} {e : Env} {s : State} {m : MethodId} {below : List Frame} {meth : Method} {c : Code} (l : Launch) {b L : Nat} {xs : Nat → Int32} (hL : L ≤ 3072) (C0 : lw_At p s m meth c b L xs) : W p l e room_1 s m #[Value.ref b] below meth c s.heap [] 0 0 (lw_Z below #[Value.ref b] s) (entryFrame m ([Value.ref b] : List Value).toArray 4) := by
  obtain ⟨hx, hb, hr, hml, hown, hts, hX, hbl, hlocks, hgv, hnm⟩ := C0
  have hA : ∀ a : Nat, a < s.heap.size → ¬ (fun q : Nat => s.heap.size ≤ q) a := fun a ha => Nat.not_le.mpr ha
  have hfl : ∀ w ∈ NF, w.before #[Value.ref b] s = true := flat_of_before _ hgv
  obtain ⟨adK, adV, hstr⟩ := strs_of (A := fun q : Nat => s.heap.size ≤ q) hfl hA
  obtain ⟨D, hD⟩ := cls_known hts
  obtain ⟨cI, hI1, hI2⟩ := arr_known (hts _ ar_int)
  obtain ⟨cB, hB1, hB2⟩ := arr_known (hts _ ar_byte)
  obtain ⟨cZ, hZ1, hZ2⟩ := arr_known (hts _ ar_boolean)
  obtain ⟨cJ, hJ1, hJ2⟩ := arr_known (hts _ ar_long)
  obtain ⟨fm, hfm, hfr⟩ := Cond.isRef_spec (hfl _ nf_form)
  obtain ⟨cs, hcs⟩ : ∃ cs : Cs, cs = (s.heap.size, fun r => if r = 1000002 then b else if r < 1000100 then adK (r - 1000003) else adV (r - 1000100), D, fun k => if k = 0 then cI else if k = 1 then cB else if k = 2 then cZ else cJ, L, fun k => (xs k).toInt, fm) := ⟨_, rfl⟩
  have c1 : cs.1 = s.heap.size := by rw [hcs]
  have cb : cs.2.1 1000002 = b := by rw [hcs]; rfl
  have cK : ∀ k, k < 41 → cs.2.1 (1000003 + k) = adK k := fun k hk => by
    rw [hcs]
    show (if 1000003 + k = 1000002 then b else if 1000003 + k < 1000100 then adK (1000003 + k - 1000003) else adV (1000003 + k - 1000100)) = adK k
    rw [if_neg (by omega), if_pos (by omega), show 1000003 + k - 1000003 = k by omega]
  have cV : ∀ k, cs.2.1 (1000100 + k) = adV k := fun k => by
    rw [hcs]
    show (if 1000100 + k = 1000002 then b else if 1000100 + k < 1000100 then adK (1000100 + k - 1000003) else adV (1000100 + k - 1000100)) = adV k
    rw [if_neg (by omega), if_neg (by omega), show 1000100 + k - 1000100 = k by omega]
  have cL : cs.2.2.2.2.1 = L := by rw [hcs]
  have cX : ∀ k, cs.2.2.2.2.2.1 k = (xs k).toInt := fun k => by rw [hcs]
  have cF : cs.2.2.2.2.2.2 = fm := by rw [hcs]
  have hfo : fm = .null ∨ ∃ t, fm = .ref t := by
    cases fm with
    | null => exact Or.inl rfl
    | ref t => exact Or.inr ⟨t, rfl⟩
    | _ => simp [Value.isRef] at hfr
  have eA : aA cs = fun q : Nat => s.heap.size ≤ q := by unfold aA; rw [c1]
  have hK : va_K cs.2.2.1 vwCl (tysC cs) s := by
    refine ⟨by rw [hcs]; exact hD, fun k q hq => ?_⟩
    have ht : tysC cs = [(cI, .int), (cB, .byte), (cZ, .boolean), (cJ, .long)] := by rw [hcs]; rfl
    rw [ht] at hq
    match k, hq with
    | 0, hq => cases hq; exact ⟨hI1, hI2⟩
    | 1, hq => cases hq; exact ⟨hB1, hB2⟩
    | 2, hq => cases hq; exact ⟨hZ1, hZ2⟩
    | 3, hq => cases hq; exact ⟨hJ1, hJ2⟩
    | k + 4, hq => simp at hq
  have hF : Fz cs s s.heap := by
    refine ⟨⟨?_, ?_, by rw [c1]; exact Nat.le_refl _⟩, fun k hk => ?_, ⟨fun q hq => ?_, fun q hq => hts _ (ns_ok q hq)⟩, ?_, ?_, by rw [cF]; exact hfo⟩
    · rw [cb, cL]
      have : (fun k => Int32.ofInt (cs.2.2.2.2.2.1 k)) = xs := by funext k; rw [cX]; exact tc1 (xs k)
      rw [this]; exact hX
    · rw [eA, cb]; exact Nat.not_le.mpr hbl
    · rw [strB_len] at hk
      obtain ⟨_, s1, s2, s3, s4⟩ := hstr k hk
      rw [cK k hk, cV k, eA]
      exact ⟨s1, s2, s3, s4⟩
    · have h1 := List.all_eq_true.mp eq_ok q hq
      rw [Bool.and_eq_true, decide_eq_true_iff] at h1
      obtain ⟨hk, hw⟩ := h1
      rw [cK _ hk]
      have hev := (hstr _ hk).1
      refine vk_R.of (hts _ (sr_ok q hq)) ?_
      unfold eqW at hw
      rw [Bool.or_eq_true, decide_eq_true_iff] at hw
      rcases hw with hw | hw
      · have : tmS q.2.2.2 = Term.string q.1 q.2.1 := by unfold tmS; rw [← hw]
        rw [← this]; exact hev
      · exact eq_ref (hfl _ (List.contains_iff_mem.mp hw)) hev
    · rw [eA]; exact va_Zof (hts _ ls_compact) (hts _ in_str) (va_eqi (hfl _ nf_compact)) hA
    · rw [eA, cF]; exact va_Zof (hts _ ls_form) (hts _ in_pre) hfm hA
  have hC : Cx cs mL_law p { frames := 12, cells := KD.length, slots := slo KD, locals := 267 } s m #[Value.ref b] meth c :=
    ⟨hx, hb, hml, hr, hown, hlocks, hnm, fun w hw => hts w (List.mem_filter.mp hw).1, hK, Nat.le_refl _, Nat.le_refl _, hF⟩
  have hR := Rk0 (cs := cs) (s := s) KD c1
  have z0 : ∀ i k, rdL (0 : Int) [] i k = 0 := fun i k => rfl
  have hM : okM (rdL 0 kI_0, rdL 0 kL_0, rdL 1000000 kR_0) := ⟨fun i k => by show -2147483648 ≤ rdL (0 : Int) [] i k ∧ rdL (0 : Int) [] i k < 2147483648; rw [z0]; omega, fun i k => by show -9223372036854775808 ≤ rdL (0 : Int) [] i k ∧ rdL (0 : Int) [] i k < 9223372036854775808; rw [z0]; omega⟩
  have hP : Pic cs ([], rdL 0 kI_0, rdL 0 kL_0, rdL 1000000 kR_0) s.heap := ⟨fun k q hq => by simp [cW] at hq, by rw [c1]; rfl⟩
  have hf : fmtOk cs := hF.2.2.2.2.2
  have em : [vR 1000002].map (cv cs) = [Value.ref b] := by
    rw [List.map_cons, show cv cs (vR 1000002) = .ref (cs.2.1 1000002) from cr_sp (by omega), cb]; rfl
  have hl := lv_entry ([vR 1000002].map (cv cs)) (n := 4) (by rw [entL_len cs hf]; decide)
  have ha : okS [vR 1000002] := fun v hv => by rw [List.mem_singleton] at hv; rw [hv]; trivial
  have k := law_start (cs := cs) (Q := fun r _ => r = some (vI 1)) (fun _ => rfl) (by rw [cL]; exact hL) (fun k => by rw [cX]; exact tc8 (xs k)) p l e { frames := 12, cells := KD.length, slots := slo KD, locals := 267 } s m #[Value.ref b] below meth c s.heap [] _ [] hC hR hM (fun i v hi => entL_ok _ i v ha (padL_get hi)) (fun v hv => by cases hv) hP va_S.rf
    ⟨hl.1, hl.2.1, fun i v hi => hl.2.2 _ (by have := entL_get cs hf _ 0 i v (padL_get hi); rwa [Nat.zero_add] at this)⟩
  have ef : entryFrame m ([Value.ref b] : List Value).toArray 4 = F0 m 0 ((lg_sl ([vR 1000002].map (cv cs)) ++ List.replicate (4 - (lg_sl ([vR 1000002].map (cv cs))).length) Slot.unset).toArray) [] := by
    rw [← em]; exact lg_entry_eq m _ 4
  rw [ef]
  intro T hT X
  obtain ⟨t, a1, o, b1, b2, ⟨⟨r, M, e1, e2, e3, e4, e5⟩, hz⟩, L', hFE, hfree⟩ := k T hT { X with room := room_le X.room (by decide) (by rw [KD_len]; decide) slo_KD (by decide) }
  refine ⟨t, a1, o, b1, b2, ?_, ?_⟩
  · rw [e1, e2]; rfl
  · obtain ⟨f1, f2, f3⟩ := hFE
    refine ⟨f1, f2, f3.weaken (fun y hy hlt => ?_) ?_ ?_⟩
    · have := hfree y hy
      rw [eA] at this
      exact absurd hlt (Nat.not_lt.mpr this)
    · exact len_KD0
    · exact slo_KD0
-- ===== YOUR PART ENDS =====
set_option maxHeartbeats 4000000 in
theorem lw_walk (l : Launch) (b : Addr) (xs : List Int32) : MetFree l x (headSpec (Jvm.Cond.code x code maxLocals ret :: tables_1) room_1) (lw_P b xs) (fun _ _ _ _ _ => True) lw_Q := by
  refine MetFree.of_bodyS (code := code) (maxLocals := maxLocals) (ret := ret) (by decide) ?_ ?_
  · intro args s m h hn
    obtain ⟨meth, c, h1, h2, h3, h4, h5, h6, -, -⟩ := Cond.code_spec hn (atoms_spec (ws := Jvm.Cond.code x code maxLocals ret :: tables_1) h _ List.mem_cons_self)
    exact ⟨meth, c, h1, h2, h3, h4, h5, h6⟩
  · intro p e s m args below meth c s₁ B hml0 hP _
    obtain ⟨rfl, hx, hbd, hgv⟩ := hP
    obtain ⟨scr, harrAt, hlist, hof, hsmall⟩ := hx
    obtain ⟨hcb, hkn, -, -⟩ := State.arrayAt?_spec harrAt
    have hown : s.vm.findClass R_law = some m.cls := findClass_of_methodNamed B.named
    have hts0 : ∀ c ∈ (Jvm.Cond.code x code maxLocals ret :: tables_1), c.before #[Value.ref b] s = true := atoms_spec (ws := Jvm.Cond.code x code maxLocals ret :: tables_1) B.pre
    have hts : ∀ w ∈ lw_tbl, w.before #[Value.ref b] s = true := k2_hts_sels lw_privs (fun w hw => hts0 w (List.mem_cons_of_mem _ hw)) lw_privs_ok
    have hml : c.maxLocals = 4 := B.maxLocals_eq (hts0 _ List.mem_cons_self)
    have X₀ : Stand p l e room_1 s m #[Value.ref b] below meth c s₁ [] 0 0 := Stand.of_body B
    have hh0 : s₁.heap = s.heap := by rw [B.state]; rfl
    have hsz : scr.slots.size = xs.length := by rw [← Array.length_toList, hlist, List.length_map]
    have hval : ∀ j : Nat, j < xs.length → scr.slots[j]? = some (.int (xs.getD j 0)) := fun j hj => by
      rw [← Array.getElem?_toList, hlist]
      simp [hj]
    have hbl : b < s.heap.size := (Array.getElem?_eq_some_iff.mp hcb).1
    have hX : va_X b xs.length (fun j => xs.getD j 0) s s.heap := ⟨scr, hcb, hof, hkn, hsz, hval⟩
    have K : W p l e room_1 s m #[Value.ref b] below meth c s₁.heap [] 0 0 (lw_Z below #[Value.ref b] s) (entryFrame m ([Value.ref b] : List Value).toArray 4) := by
      rw [hh0]
      exact whole_start l hbd ⟨B.exec, B.bytes, B.returns, hml, hown, hts, hX, hbl, B.notSynchronized, hgv, (name_of_methodNamed B.named B.method).1⟩
    obtain ⟨t, a1, o, b1, b2, b3⟩ := K s₁ rfl X₀
    exact ⟨t, o, a1, b1, b2, b3⟩
theorem lw_pre_spec {args : Array Value} {s : State} (h : (Jvm.Cond.and given_1 narrow_1).before args s = true) (hr : rest_1_c.before args s = true) : ∃ (b : Addr) (xs : List Int32), lw_P b xs args s := by
  have hs := flat_of_before _ h
  have hq := flat_of_before _ hr
  have hc : (Cond.count 1).before args s = true := hs _ (by decide +kernel)
  have harr : (Cond.arrayOf (.arg 0) .int).before args s = true := hs _ (by decide +kernel)
  have hle : (Cond.le (.length (.arg 0)) (.int 3072)).before args s = true := hs _ (by decide +kernel)
  have hlen : (Cond.isInt (.length (.arg 0))).before args s = true := hq _ (by decide +kernel)
  have hall : (Cond.all (.arg 0) (.isInt (.elem (.arg 0) (.index 0)))).before args s = true := hq _ (by decide +kernel)
  obtain ⟨b, xs, hb, hx⟩ := State.ints_of_pre rfl harr hlen hall
  have hsm : xs.length < 2 ^ 31 := hx.choose_spec.2.2.2
  have hev : (Term.length (.arg 0)).eval args s none [] s = some (.int xs.length.toInt32) := hx.length_eval hb
  have hv := Cond.le_ints hev (show (Term.int 3072).eval args s none [] s = some (.int 3072) from rfl)
  have hd : xs.length.toInt32 ≤ 3072 := by
    simpa [Cond.before, Cond.holds, hv] using hle
  have hN : xs.length ≤ 3072 := (Int32.ofNat_le_ofNat hsm (by decide)).mp (show Int32.ofNat xs.length ≤ Int32.ofNat 3072 from hd)
  exact ⟨b, xs, Cond.one_arg hc (show args[0]? = some (.ref b) from hb), hx, hN, h⟩
theorem lw_comes (l : Launch) : Comes l x (Jvm.Cond.code x code maxLocals ret :: tables_1) room_1 (fun tb e args s => Calls_1 tb e args s ∧ rest_1 tb e args s ∧ Pre_1 tb e args s)
    (fun _ _ args s o t => lw_Q args s o t) := by
  intro p e ha hc hk s m args below hf hfit hheap happ hpre
  obtain ⟨b, xs, hP⟩ := lw_pre_spec hpre.2.2 hpre.2.1
  obtain ⟨k, o, h1, h2, h3, hQ⟩ := lw_walk l b xs p e ha hc hk s m args below hf ((Spec.applies_iff_loose hf).mp happ).1 hP trivial
  exact ⟨k, o, h1, h2, h3, hQ⟩
theorem lw_frame {s t : State} {o : Outcome} {args : Array Value} (h : Framed s o t [] 600000 7302250) :
    Framed s o t (fieldLocs frame_1_writes args s ++ arrayLocs frame_1_arrays args s ++ staticLocs frame_1_statics s) 600000 7302250 := h
theorem lw_limb (L : Cond) (hL : ∀ (args : Array Value) (s t : State), L.after args s (.returned (some (.int 1))) t = true) :
    ArmFor flags0 classFile x code maxLocals ret World_1 tables_1 room_1 Calls_1 rest_1 Pre_1
      (fun tb e a s o t => postC L tb e a s o t ∧ Framed s o t (fieldLocs frame_1_writes a s ++ arrayLocs frame_1_arrays a s ++ staticLocs frame_1_statics s) 600000 7302250) := by
  intro l _ _ _ p e ha hc hk s m args below hf hfit hheap happ hpre
  obtain ⟨k, o, h1, h2, h3, rfl, hF⟩ := lw_comes l p e ha hc hk s m args below hf hfit hheap happ hpre
  exact ⟨k, _, h1, h2, h3, hL args s _, lw_frame hF⟩
theorem i_vc : Claimed_1_1 ∧ Claimed_1_2 := ⟨lw_limb limb_1_1 (fun args s t => by simp [limb_1_1, Cond.after, Cond.holds, Cond.value]), lw_limb limb_1_2 (fun args s t => Cond.after_iff.mpr (by
  first | (rw [show limb_1_2 = Cond.eq .result (.int 1) from rfl, Cond.eq_ints (x := 1) (y := 1) rfl rfl]; simp; done) | (simp [limb_1_2, Cond.value, Term.eval]; done)))⟩
