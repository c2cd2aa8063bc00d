/-! The class's set. -/
/-- nested ELEMENTS, the innermost first -/
def Nest (ns : List Nd) : List Nat → Prop
  | [] => True
  | [a] => a < ns.length ∧ (ndA ns a).1 = 1
  | a :: c :: t => (a < ns.length ∧ (ndA ns a).1 = 1) ∧ (c < a ∧ a < eS ns c) ∧ Nest ns (c :: t)
theorem Nest_tl {ns : List Nd} {a : Nat} {t : List Nat} (h : Nest ns (a :: t)) : Nest ns t := by
  cases t with
  | nil => trivial
  | cons c t => exact h.2.2
theorem Nest_hd {ns : List Nd} {a : Nat} {t : List Nat} (h : Nest ns (a :: t)) : a < ns.length ∧ (ndA ns a).1 = 1 := by
  cases t with
  | nil => exact h
  | cons c t => exact h.1
theorem Nest_push {ns : List Nd} {k : Nat} {l : List Nat} (hk : k < ns.length ∧ (ndA ns k).1 = 1) (h : Nest ns l) (hc : ∀ c, l.head? = some c → c < k ∧ k < eS ns c) : Nest ns (k :: l) := by
  cases l with
  | nil => exact hk
  | cons c t => exact ⟨hk, hc c rfl, h⟩
theorem Nest_all {ns : List Nd} : ∀ {l : List Nat}, Nest ns l → ∀ a ∈ l, a < ns.length
  | [], _, a, ha => by cases ha
  | c :: t, h, a, ha => by
    rcases List.mem_cons.mp ha with z | z
    · rw [z]; exact (Nest_hd h).1
    · exact Nest_all (Nest_tl h) a z
def NestB (ns : List Nd) : Prop := ∀ l : List Nat, Nest ns l → l.length ≤ 30
def chBl (i k : Nat) : Prop := chLn i k ∨ (i = 28 ∧ k = 9) ∨ i = 35 ∨ i = 36 ∨ i = 37
theorem chBl_28 : ∀ i k, chBl i k → 28 ≤ i ∧ i ≤ 37 := fun i k z => by
  unfold chBl at z
  rcases z with z | z
  · exact chLn_28 i k z
  · omega
/-- what holds between the STEPS of a setting -/
def SbI (ns : List Nd) (wd pos : Nat) (c : SB) : Prop := SmI (allX ns) wd pos c.1 ∧ Nest ns (c.2.1.map fun q => q.1) ∧ (∀ q ∈ c.2.1, q.2 ≤ c.1.1.length)
theorem clsS_I {ns : List Nd} {wd pos k : Nat} (hw : 0 < wd) : ∀ (st : List (Nat × Nat)) (m : SM) (ks : List (Nat × Nat)), SbI ns wd pos (m, st, ks) → SbI ns wd pos (clsS ns (allX ns) wd k st m ks) ∧ (∀ q ∈ (clsS ns (allX ns) wd k st m ks).2.1, q ∈ st) ∧ (∀ q, (clsS ns (allX ns) wd k st m ks).2.1.head? = some q → k < eS ns q.1)
  | [], m, ks, h => ⟨h, fun q hq => hq, fun q hq => by cases hq⟩
  | eo :: t, m, ks, h => by
    obtain ⟨h1, h2, h3⟩ := h
    unfold clsS
    split
    · have hI := endL_I hw h1
      have := clsS_I (k := k) hw t (endL (allX ns) wd m) (if kepB ns eo.1 = true then ks ++ [(eo.2, (endL (allX ns) wd m).1.length)] else ks) ⟨hI.1, Nest_tl h2, fun q hq => Nat.le_trans (h3 q (List.mem_cons_of_mem _ hq)) (endL_len _ _ _)⟩
      exact ⟨this.1, fun q hq => List.mem_cons_of_mem _ (this.2.1 q hq), this.2.2⟩
    · next hlt =>
      refine ⟨⟨h1, h2, h3⟩, fun q hq => hq, fun q hq => ?_⟩
      simp only [List.head?_cons, Option.some.injEq] at hq
      rw [← hq]; omega
section Pf05
variable {cs : Cs} {Q : Option AV → Mm → Prop} {MI ML OI : Nat → Nat → Int} {b d e nw th x pl : Nat} {TD : Nat → Int} {nD : Int} {N : List By} {D : Dt} {ns : List Nd} {dp : Int} {wd pos H : Nat}
theorem StkC_fr {st : List (Nat × Nat)} {M : Nat → Nat → Int} (h : StkC st MI) (f : frP chLn MI M) : StkC st M :=
  ⟨by rw [f 28 9 (by unfold chLn; omega)]; exact h.1, fun j q hq => by rw [f 36 _ (by unfold chLn; omega), f 37 _ (by unfold chLn; omega)]; exact h.2 j q hq⟩
theorem TogC_fr {ks : List (Nat × Nat)} {M : Nat → Nat → Int} (h : TogC H ks MI) (f : frP chLn MI M) : TogC H ks M :=
  ⟨by rw [f 28 15 (by unfold chLn; omega)]; exact h.1, fun i hi => by rw [f 35 i (by unfold chLn; omega)]; exact h.2 i hi⟩
theorem c_closeBlocks {k : Nat} (hbd : b = 38 ∨ b = 81) (hn : nD ≤ 6000) (hW : WfN ns) (hAt : AtW ns) (hB : NestB ns) (hw : 0 < wd) (hw6 : wd ≤ 60) (hp : pos ≤ 2000) (hH : H ≤ 50) :
    ∀ (st : List (Nat × Nat)) (m : SM) (ks : List (Nat × Nat)) (MI : Nat → Nat → Int), SbI ns wd pos (m, st, ks) → DocC b TD nD N pl D ns [] dp MI ML → ComC wd m MI → StkC st MI → TogC H ks MI →
    (∀ MI', ComC wd (clsS ns (allX ns) wd k st m ks).1 MI' → StkC (clsS ns (allX ns) wd k st m ks).2.1 MI' → TogC H (clsS ns (allX ns) wd k st m ks).2.2 MI' → frP chBl MI MI' → Q none (MI', ML, GR d e nw th x)) →
    wp cs mX0_closeBlocks KD Q 0 (padL [vR 28, vR b, vI (k : Nat)] 5) [] (KD, MI, ML, GR d e nw th x) := by
  intro st
  induction st with
  | nil =>
    intro m ks MI hI hD hC hS hT hQ
    refine v_X0_closeBlocks_0 hbd ?_
    rw [hS.1]
    exact ⟨fun z => absurd z (by simp), fun _ => hQ MI hC hS hT (frP_rfl _ _)⟩
  | cons eo t ih =>
    intro m ks MI hI hD hC hS hT hQ
    have h600 := hD.2.2.2.2.1.2.1
    have hlen := hB _ hI.2.1
    rw [List.length_map] at hlen
    simp only [List.length_cons] at hlen
    have hel := (Nest_hd (a := eo.1) (t := t.map fun q => q.1) hI.2.1).1
    obtain ⟨ye, hye⟩ : ∃ y, ns[eo.1]? = some y := ⟨_, List.getElem?_eq_getElem hel⟩
    have htop := hS.2 0 eo rfl
    simp only [List.length_cons, Nat.sub_zero, Nat.add_sub_cancel] at htop
    have h9 : MI 28 9 = ((t.length + 1 : Nat) : Int) := by rw [hS.1]; simp
    have ei : (((t.length + 1 : Nat) : Int) - 1) = ((t.length : Nat) : Int) := by omega
    refine v_X0_closeBlocks_0 hbd ?_
    rw [h9, ei]
    simp only [Int.toNat_natCast]
    rw [htop.1]
    simp only [Int.toNat_natCast]
    rw [end_at hD hW hye]
    refine ⟨fun _ => ⟨by omega, by omega, by omega, fun hlt => ?_, fun hge => ?_⟩, fun z => by omega⟩
    · have hc : clsS ns (allX ns) wd k (eo :: t) m ks = (m, eo :: t, ks) := by rw [clsS, if_neg (by omega)]
      rw [hc] at hQ
      exact hQ MI hC hS hT (frP_rfl _ _)
    · have hge' : eS ns eo.1 ≤ k := by omega
      rw [clsS, if_pos hge'] at hQ
      rintro _ rfl
      have f0 : frP chBl MI (up2 MI 28 9 (t.length : Nat)) := frP_up (by unfold chBl; omega)
      have hC0 : ComC wd m (up2 MI 28 9 (t.length : Nat)) := by
        obtain ⟨c1, c2, c3, c4, c5, c6, c7, c8, c9⟩ := hC
        refine ⟨by rw [up2_nk (by decide)]; exact c1, by rw [up2_nk (by decide)]; exact c2, by rw [up2_nk (by decide)]; exact c3, fun z => by rw [up2_nk (by decide)]; exact c4 z, by rw [up2_nk (by decide)]; exact c5, by rw [up2_nk (by decide)]; exact c6, fun i y hy => by rw [up2_ne (by decide), up2_ne (by decide), up2_ne (by decide)]; exact c7 i y hy, fun z => by rw [up2_ne (by decide), up2_ne (by decide)]; exact c8 z, fun j c hc => by rw [up2_ne (by decide)]; exact c9 j c hc⟩
      have hD0 := DocC_ln hbd hD f0 chBl_28
      refine c_endLine hbd (TxX_of hD0 hW) hC0 hI.1 hp hw hw6 (fun M1 k1 f1 => rV_mk ?_)
      have hIm : SmI (allX ns) wd pos m := hI.1
      have hIe := endL_I hw hIm
      have hlenL := endL_len (allX ns) wd m
      have hoL : eo.2 ≤ m.1.length := hI.2.2 eo List.mem_cons_self
      have hL2 : (endL (allX ns) wd m).1.length ≤ 2000 := by
        have h1 := hIe.1.1
        have h2 := sumL_ge hIe.1.2.2.2.2
        have : tot (endL (allX ns) wd m) = sumL (endL (allX ns) wd m).1 + (endL (allX ns) wd m).2.1.1.length := rfl
        omega
      have g9 : M1 28 9 = ((t.length : Nat) : Int) := by rw [f1 28 9 (by unfold chLn; omega), up2_eq]
      have g37 : M1 37 t.length = (eo.2 : Nat) := by rw [f1 37 _ (by unfold chLn; omega), up2_ne (by decide)]; exact htop.2
      have g36 : M1 36 t.length = (eo.1 : Nat) := by rw [f1 36 _ (by unfold chLn; omega), up2_ne (by decide)]; exact htop.1
      have f01 : frP chBl MI M1 := frP_tr f0 (frP_mono f1 (fun i k z => Or.inl z))
      have hD1 := DocC_ln hbd hD f01 chBl_28
      have hS1 : StkC t M1 := by
        refine ⟨g9, fun j q hq => ?_⟩
        have hj := (List.getElem?_eq_some_iff.mp hq).1
        have := hS.2 (j + 1) q (by rw [List.getElem?_cons_succ]; exact hq)
        simp only [List.length_cons] at this
        rw [show t.length + 1 - 1 - (j + 1) = t.length - 1 - j by omega] at this
        rw [f1 36 _ (by unfold chLn; omega), f1 37 _ (by unfold chLn; omega), up2_ne (by decide), up2_ne (by decide)]
        exact this
      have hT1 : TogC H ks M1 := by
        refine TogC_fr (MI := up2 MI 28 9 (t.length : Nat)) ⟨by rw [up2_nk (by decide)]; exact hT.1, fun i hi => by rw [up2_ne (by decide)]; exact hT.2 i hi⟩ f1
      have hI1 : ∀ ks', SbI ns wd pos (endL (allX ns) wd m, t, ks') := fun ks' => ⟨hIe.1, Nest_tl hI.2.1, fun q hq => Nat.le_trans (hI.2.2 q (List.mem_cons_of_mem _ hq)) hlenL⟩
      have go : ∀ (M : Nat → Nat → Int), frP chBl MI M → ComC wd (endL (allX ns) wd m) M → StkC t M → TogC H (if kepB ns eo.1 = true then ks ++ [(eo.2, (endL (allX ns) wd m).1.length)] else ks) M → wp cs mX0_closeBlocks KD Q 0 [some (vR 28), some (vR b), some (vI (k : Nat)), none, none] [] (KD, M, ML, GR d e nw th x) := fun M fM cM sM tM =>
        ih _ _ M (hI1 _) (DocC_ln hbd hD fM chBl_28) cM sM tM (fun M' r1 r2 r3 r4 => hQ M' r1 r2 r3 (frP_tr fM r4))
      have same : (¬ ((endL (allX ns) wd m).1.length - eo.2 ≤ H ∧ 0 < (endL (allX ns) wd m).1.length - eo.2)) → TogC H (if kepB ns eo.1 = true then ks ++ [(eo.2, (endL (allX ns) wd m).1.length)] else ks) M1 := fun hno => by
        split
        · refine ⟨hT1.1, fun i hi => ?_⟩
          rw [togM_app, if_neg (fun z => hno ⟨z.2.1, by omega⟩)]
          exact hT1.2 i hi
        · exact hT1
      rw [g9]
      simp only [Int.toNat_natCast]
      rw [g37, g36, k1.2.2.2.2.2.1, hT1.1]
      refine ⟨by omega, by omega, fun hpos => ⟨fun hgt => ?_, fun hle => ?_⟩, fun hz => ?_⟩
      · exact go M1 f01 k1 hS1 (same (fun z => by omega))
      · refine c_isKept hbd hn hW hAt hD1 hel (rI_mk ?_)
        by_cases hkp : kepB ns eo.1 = true
        · rw [if_pos hkp]
          refine ⟨fun z => by omega, fun _ => ⟨by omega, ?_⟩⟩
          rintro _ rfl
          simp only [Int.toNat_natCast]
          have ho2 : eo.2 < 2000 := by omega
          have hto := hT1.2 eo.2 ho2
          have f2 : frP chBl M1 (up2 M1 35 eo.2 (if M1 35 eo.2 < ((endL (allX ns) wd m).1.length : Nat) - ((eo.2 : Nat) : Int) then (((endL (allX ns) wd m).1.length : Nat) : Int) - ((eo.2 : Nat) : Int) else M1 35 eo.2)) := frP_up (by unfold chBl; omega)
          refine go _ (frP_tr f01 f2) ?_ ?_ ?_
          · obtain ⟨c1, c2, c3, c4, c5, c6, c7, c8, c9⟩ := k1
            refine ⟨by rw [up2_ne (by decide)]; exact c1, by rw [up2_ne (by decide)]; exact c2, by rw [up2_ne (by decide)]; exact c3, fun z => by rw [up2_ne (by decide)]; exact c4 z, by rw [up2_ne (by decide)]; exact c5, by rw [up2_ne (by decide)]; exact c6, fun i y hy => by rw [up2_ne (by decide), up2_ne (by decide), up2_ne (by decide)]; exact c7 i y hy, fun z => by rw [up2_ne (by decide), up2_ne (by decide)]; exact c8 z, fun j c hc => by rw [up2_ne (by decide)]; exact c9 j c hc⟩
          · exact ⟨by rw [up2_ne (by decide)]; exact hS1.1, fun j q hq => by rw [up2_ne (by decide), up2_ne (by decide)]; exact hS1.2 j q hq⟩
          · rw [if_pos hkp]
            refine ⟨by rw [up2_ne (by decide)]; exact hT1.1, fun i hi => ?_⟩
            rw [togM_app]
            by_cases hio : i = eo.2
            · subst hio
              rw [up2_eq, hto]
              by_cases hlt : togM H eo.2 ks 0 < (endL (allX ns) wd m).1.length - eo.2
              · rw [if_pos (by omega), if_pos ⟨rfl, by omega, hlt⟩]; omega
              · rw [if_neg (by omega), if_neg (fun z => hlt z.2.2)]
            · rw [up2_nk hio, if_neg (fun z => hio z.1.symm)]
              exact hT1.2 i hi
        · rw [if_neg hkp]
          refine ⟨fun _ => go M1 f01 k1 hS1 ?_, fun z => absurd rfl z⟩
          rw [if_neg hkp]; exact hT1
      · exact go M1 f01 k1 hS1 (same (fun z => by omega))
theorem c_openBlock {k : Nat} {c : SB} (hbd : b = 38 ∨ b = 81) (hW : WfN ns) (hB : NestB ns) (hw : 0 < wd) (hw6 : wd ≤ 60) (hp : pos ≤ 2000) (hI : SbI ns wd pos c) (hnk : Nest ns (k :: c.2.1.map fun q => q.1)) (hk : k < ns.length) (hD : DocC b TD nD N pl D ns [] dp MI ML) (hC : ComC wd c.1 MI) (hS : StkC c.2.1 MI) (hT : TogC H c.2.2 MI)
    (hQ : ∀ MI', ComC wd (endL (allX ns) wd c.1) MI' → StkC ((k, (endL (allX ns) wd c.1).1.length) :: c.2.1) MI' → TogC H c.2.2 MI' → frP chBl MI MI' → Q none (MI', ML, GR d e nw th x)) :
    wp cs mX0_openBlock KD Q 0 (padL [vR 28, vR b, vI (k : Nat)] 3) [] (KD, MI, ML, GR d e nw th x) := by
  have h600 := hD.2.2.2.2.1.2.1
  have hlen := hB _ hnk
  rw [List.length_cons, List.length_map] at hlen
  refine v_X0_openBlock_0 hbd (c_endLine hbd (TxX_of hD hW) hC hI.1 hp hw hw6 (fun M1 k1 f1 => rV_mk ?_))
  have hS1 := StkC_fr hS f1
  have hT1 := TogC_fr hT f1
  rw [hS1.1]
  simp only [Int.toNat_natCast]
  refine ⟨fun _ => ⟨by omega, ?_⟩, fun z => by omega⟩
  rintro _ rfl
  rw [up2_ne (by decide), up2_ne (by decide), hS1.1, k1.2.2.2.2.2.1]
  simp only [Int.toNat_natCast]
  refine ⟨by omega, ?_⟩
  rintro _ rfl
  rw [up2_ne (by decide), up2_ne (by decide), hS1.1]
  refine ⟨by omega, ?_⟩
  rintro _ rfl
  have f2 : frP chBl M1 (up2 (up2 (up2 M1 36 c.2.1.length (k : Nat)) 37 c.2.1.length ((endL (allX ns) wd c.1).1.length : Nat)) 28 9 ((c.2.1.length : Nat) + 1)) := frP_tr (frP_up (by unfold chBl; omega)) (frP_tr (frP_up (by unfold chBl; omega)) (frP_up (by unfold chBl; omega)))
  have r28 : ∀ i, i ≠ 9 → up2 (up2 (up2 M1 36 c.2.1.length (k : Nat)) 37 c.2.1.length ((endL (allX ns) wd c.1).1.length : Nat)) 28 9 ((c.2.1.length : Nat) + 1) 28 i = M1 28 i := fun i hi => by rw [up2_nk hi, up2_ne (by decide), up2_ne (by decide)]
  have ro : ∀ i k', i ≠ 28 → i ≠ 36 → i ≠ 37 → up2 (up2 (up2 M1 36 c.2.1.length (k : Nat)) 37 c.2.1.length ((endL (allX ns) wd c.1).1.length : Nat)) 28 9 ((c.2.1.length : Nat) + 1) i k' = M1 i k' := fun i k' h1 h2 h3 => by rw [up2_ne h1, up2_ne h3, up2_ne h2]
  refine hQ _ ?_ ⟨by rw [up2_eq]; simp, fun j q hq => ?_⟩ ⟨by rw [r28 15 (by decide)]; exact hT1.1, fun i hi => by rw [ro 35 i (by decide) (by decide) (by decide)]; exact hT1.2 i hi⟩ (frP_tr (frP_mono f1 (fun i k z => Or.inl z)) f2)
  · obtain ⟨c1, c2, c3, c4, c5, c6, c7, c8, c9⟩ := k1
    refine ⟨by rw [r28 10 (by decide)]; exact c1, by rw [r28 11 (by decide)]; exact c2, by rw [r28 13 (by decide)]; exact c3, fun z => by rw [r28 12 (by decide)]; exact c4 z, by rw [r28 14 (by decide)]; exact c5, by rw [r28 16 (by decide)]; exact c6, fun i y hy => by rw [ro 30 _ (by decide) (by decide) (by decide), ro 31 _ (by decide) (by decide) (by decide), ro 34 _ (by decide) (by decide) (by decide)]; exact c7 i y hy, fun z => by rw [ro 30 _ (by decide) (by decide) (by decide), ro 34 _ (by decide) (by decide) (by decide)]; exact c8 z, fun j c hc => by rw [ro 29 _ (by decide) (by decide) (by decide)]; exact c9 j c hc⟩
  · simp only [List.length_cons, Nat.add_sub_cancel]
    cases j with
    | zero =>
      simp only [List.getElem?_cons_zero, Option.some.injEq] at hq
      subst hq
      rw [Nat.sub_zero]
      exact ⟨by rw [up2_ne (by decide), up2_ne (by decide), up2_eq], by rw [up2_ne (by decide), up2_eq]⟩
    | succ j =>
      rw [List.getElem?_cons_succ] at hq
      have hj := (List.getElem?_eq_some_iff.mp hq).1
      have := hS1.2 j q hq
      rw [show c.2.1.length - (j + 1) = c.2.1.length - 1 - j by omega]
      rw [up2_ne (by decide), up2_ne (by decide), up2_nk (by omega), up2_ne (by decide), up2_nk (by omega), up2_ne (by decide)]
      exact this
end Pf05
