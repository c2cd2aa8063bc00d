/-- what holds of the RULES that are read -/
def RuG (rs : List Rl) : Prop := (∀ o, cntO rs o ≤ 10) ∧ ∀ q ∈ rs, (0 ≤ q.2.2.2.2.1 ∧ q.2.2.2.2.1 ≤ 3) ∧ (0 ≤ q.2.2.1 ∧ q.2.2.1 ≤ 2)
theorem dfF_none {e : Int} {o : By} : ∀ {l : List Rl} {ns : List Nd}, (∀ q ∈ l, q.1 ≠ o) → dfF e o l ns = some ns
  | [], _, _ => rfl
  | q :: t, ns, h => by
    rw [dfF, if_neg (fun z => h q List.mem_cons_self z.1)]
    exact dfF_none fun z hz => h z (List.mem_cons_of_mem _ hz)
theorem dfF_skip {e : Int} {o : By} {rs : List Rl} {ns : List Nd} : ∀ (m k : Nat), (∀ (i : Nat) (z : Rl), k ≤ i → i < k + m → rs[i]? = some z → z.1 ≠ o) → k + m ≤ rs.length → dfF e o (rs.drop k) ns = dfF e o (rs.drop (k + m)) ns
  | 0, k, _, _ => rfl
  | m + 1, k, h, hl => by
    have hk : k < rs.length := by omega
    rw [List.drop_eq_getElem_cons hk, dfF, if_neg (fun z => h k rs[k] (Nat.le_refl _) (by omega) (List.getElem?_eq_getElem hk) z.1)]
    rw [dfF_skip m (k + 1) (fun i z h1 h2 => h i z (by omega) (by omega)) (by omega), show k + 1 + m = k + (m + 1) by omega]
theorem cntO_skip {o : By} {rs : List Rl} {k r : Nat} {q : Rl} (hkr : k ≤ r) (hq : rs[r]? = some q) (ho : q.1 = o) : cntO (rs.drop (r + 1)) o + 1 ≤ cntO (rs.drop k) o := by
  have hrl := (List.getElem?_eq_some_iff.mp hq).1
  have e1 : rs[r] = q := by have := List.getElem?_eq_getElem hrl; rw [this] at hq; cases hq; rfl
  have e : rs.drop k = (rs.drop k).take (r - k) ++ (q :: rs.drop (r + 1)) := by
    rw [← e1, ← List.drop_eq_getElem_cons hrl]
    conv => lhs; rw [← List.take_append_drop (r - k) (rs.drop k)]
    rw [List.drop_drop, show k + (r - k) = r by omega]
  rw [e]
  unfold cntO
  rw [List.filter_append, List.length_append, List.filter_cons, if_pos (by simp [ho]), List.length_cons]
  omega
section P77
variable {cs : Cs} {Q : Option AV → Mm → Prop} {MI ML OI OL : Nat → Nat → Int} {b d e nw th : Nat} {T : Nat → Int} {n h : Int} {N : List By} {pl : Nat} {od : Option By} {ds : List Dc} {rs : List Rl} {ns : List Nd} {op : List Int} {dp : Int}
theorem c_hasValue (hbd : b = 38 ∨ b = 81) {x : Nat} {r : Nat} {q : Rl} (hR : RulC b T n N rs MI) (hG : RuG rs) (hq : rs[r]? = some q) (hT : 2 ≤ q.2.2.2.2.1 → Q (some (vI 1)) (MI, ML, GR d e nw th x)) (hF : ¬ 2 ≤ q.2.2.2.2.1 → Q (some (vI 0)) (MI, ML, GR d e nw th x)) :
    wp cs mX7_hasValue KD Q 0 (padL [vR (b + 20), vI (r : Nat)] 2) [] (KD, MI, ML, GR d e nw th x) := by
  have h26 := (hR.2.2.2.2 r q hq).2.2.2.2.2.2.1
  have hr := (List.getElem?_eq_some_iff.mp hq).1
  have h750 := hR.2.1
  have hg := (hG.2 q (List.mem_of_getElem? hq)).1
  refine v_X7_hasValue_0 hbd ⟨by omega, ?_⟩
  simp only [Int.toNat_natCast]
  rw [h26]
  exact ⟨fun z => hT (by omega), fun z => ⟨fun z2 => hT (by omega), fun z2 => hF (by omega)⟩⟩
theorem c_addDefaults_l (hbd : b = 38 ∨ b = 81) (hG : RuG rs) {ec : Nat} {os : List Int} {o : By} : ∀ (m k : Nat) (ns : List Nd) (l4 : Int) (MI : Nat → Nat → Int), k + m = rs.length → CurC b T n OI OL h MI ML → DocC b T n N pl (od, ds, rs) ns ((ec : Int) :: os ++ [0]) dp MI ML → TgI ns ec os → MI 10 1 = (ec : Int) → 0 ≤ l4 → l4 + (cntO (rs.drop k) o : Nat) ≤ 10 →
    (∀ ns', dfF (ec : Int) o (rs.drop k) ns = some ns' → ∀ MI', CurC b T n OI OL h MI' ML → DocC b T n N pl (od, ds, rs) ns' ((ec : Int) :: os ++ [0]) dp MI' ML → TgI ns' ec os → MI' 10 = MI 10 → Q (some (vI 1)) (MI', ML, GR d e nw th 1)) →
    (dfF (ec : Int) o (rs.drop k) ns = none → ∀ MI', CurC b T n OI OL h MI' ML → Q (some (vI 0)) (MI', ML, GR d e nw th 1)) →
    wp cs mX10_addDefaults KD Q 25 [some (vR 10), some (vR b), some (vR (b + 20)), some (vI (fIdx (ofN o) (rs.drop k) k)), some (vI l4), none, none] [] (KD, MI, ML, GR d e nw th 1) := by
  intro m
  induction m using Nat.strongRecOn with
  | _ m ih =>
    intro k ns l4 MI hk hc hD hI hcur h0 h10 hT hF
    have nomo : fIdx (ofN o) (rs.drop k) k = -1 → Q (some (vI 1)) (MI, ML, GR d e nw th 1) := fun hm => by
      refine hT ns (dfF_none fun q hq => ?_) MI hc hD hI rfl
      have := fIdx_m1 hm q hq
      simpa [ofN] using this
    refine v_X10_addDefaults_25 hbd ⟨fun _ => ⟨fun hm => nomo hm, fun hm => ?_⟩, fun h4 => nomo ?_⟩
    · obtain ⟨r, q, h1, h2, h3, h4, h5⟩ := fIdx_drop hm
      have h4' : q.1 = o := by simpa [ofN] using h4
      have hrl := (List.getElem?_eq_some_iff.mp h3).1
      have hR := hD.2.2.2.1
      have hA := hR.2.2.2.2 r q h3
      have h750 := hR.2.1
      simp only at h750
      have hco := cntO_skip h2 h3 h4'
      have esk : dfF (ec : Int) o (rs.drop k) ns = dfF (ec : Int) o (rs.drop r) ns := by
        have := dfF_skip (e := (ec : Int)) (o := o) (rs := rs) (ns := ns) (r - k) k (fun i z g1 g2 gz => by
          have := h5 i z g1 (by omega) gz
          simpa [ofN] using this) (by omega)
        rw [this, show k + (r - k) = r by omega]
      have e1 : rs[r] = q := by have := List.getElem?_eq_getElem hrl; rw [this] at h3; cases h3; rfl
      rw [esk, List.drop_eq_getElem_cons hrl, e1, dfF] at hT hF
      rw [h1]
      simp only [Int.toNat_natCast]
      have hnx : ∀ {M : Nat → Nat → Int}, M (b + 29) = MI (b + 29) → M (b + 29) r = fIdx (ofN o) (rs.drop (r + 1)) (r + 1) := fun hM => by rw [hM, hA.2.2.2.2.2.2.2.2, h4']
      -- a RULE that brings nothing
      have skip : ¬ (q.1 = o ∧ 2 ≤ q.2.2.2.2.1 ∧ hasA ns (ec : Int) q.2.1 = false) → wp cs mX10_addDefaults KD Q 25 [some (vR 10), some (vR b), some (vR (b + 20)), some (vI (MI (b + 29) r)), some (vI (l4 + 1)), none, none] [] (KD, MI, ML, GR d e nw th 1) := fun hn => by
        rw [if_neg hn] at hT hF
        rw [hnx rfl]
        exact ih (rs.length - (r + 1)) (by omega) (r + 1) ns (l4 + 1) MI (by omega) hc hD hI hcur (by omega) (by omega) hT hF
      refine ⟨by omega, c_hasValue hbd hR hG h3 (fun hv => rI_mk ⟨fun z => by omega, fun _ => ?_⟩) (fun hv => rI_mk ⟨fun _ => ⟨by omega, skip (fun z => hv z.2.1)⟩, fun z => absurd rfl z⟩)⟩
      rw [hcur]
      have hN := hD.2.2.2.2.1
      have h600 := hN.2.1
      obtain ⟨t1, t2, t3, t4, t5⟩ := hI
      obtain ⟨y0, hy0⟩ : ∃ y, ns[ec]? = some y := ⟨_, List.getElem?_eq_getElem t3⟩
      have hcnt := (hN.2.2.2 ec y0 hy0).2.2.2.1
      have hat := atC_has (i := MI (b + 21) r) hD.1.2.2.2.2.2 hN t2 t3 hA.1 (NamC_id hD.1 hA.1)
      refine w_X3_attributeOf hbd (by omega) (by simp only [Int.toNat_natCast]; rw [hcnt]; omega) (rI_mk ⟨fun hno => ?_, fun hno => ⟨by omega, skip (fun z => hno (hat.mpr z.2.2))⟩⟩)
      have hno' := hat.mp hno
      rw [if_pos ⟨h4', hv, hno'⟩] at hT hF
      refine c_addAttribute hbd hD ⟨t1, t2, t3, t4, t5⟩ hA.1 hcur (fun hok MI2 d2 f2 f2b f2c => rI_mk ⟨fun z => by omega, fun _ => ⟨by omega, ?_⟩⟩) (fun hbad => rI_mk ⟨fun _ => ?_, fun z => absurd rfl z⟩)
      · rw [if_neg hok] at hT hF
        simp only [Int.toNat_natCast]
        have hA2 := d2.2.2.2.1.2.2.2.2 r q h3
        have q27 : ∀ c, ¬ (32 ≤ c ∧ c ≤ 40) → c ≠ 0 → MI2 (b + c) = MI (b + c) := fun c z1 z2 => f2 (b + c) (by omega) (by omega)
        intro m96 e96
        have e28 : m96 (b + 28) r = MI2 (b + 28) r := by rw [e96, up2_ne (by omega)]
        rw [e28]
        intro m109 e109 m117 e117
        have fr : ∀ j, j ≠ b + 37 → j ≠ b + 39 → j ≠ b + 40 → m117 j = MI2 j := fun j z1 z2 z3 => by rw [e117, e109, e96]; funext k; rw [up2_ne z1, up2_ne z3, up2_ne z2]
        have d3 : DocC b T n N pl (od, ds, rs) (ns ++ [(2, (ec : Int), q.2.1, q.2.2.2.2.2, 1, 0)]) ((ec : Int) :: os ++ [0]) dp m117 ML := by
          refine DocC_attr (s0 := []) (f0 := 0) hbd d2 fr (fun c hc k hk => ?_) ?_ ?_
          · rw [e117, e109, e96, up2_nk hk, up2_nk hk, up2_nk hk]
          · have g39 : m117 (b + 39) ns.length = MI2 (b + 27) r := by rw [e117, e109, up2_ne (by omega), up2_ne (by omega), e96, up2_eq]
            have g40 : m117 (b + 40) ns.length = MI2 (b + 28) r := by rw [e117, up2_ne (by omega), e109, up2_eq]
            rw [g39, g40]; exact hA2.2.2.2.2.2.2.2.1
          · rw [e117, up2_eq]
        have n29 : m117 (b + 29) = MI (b + 29) := by rw [fr _ (by omega) (by omega) (by omega), q27 29 (by omega) (by omega)]
        refine ⟨by omega, ?_⟩
        rw [hnx n29]
        have e10 : m117 10 = MI 10 := by rw [fr 10 (by omega) (by omega) (by omega), f2 10 (by omega) (by omega)]
        refine ih (rs.length - (r + 1)) (by omega) (r + 1) _ (l4 + 1) m117 (by omega) (CurC_fr hc hbd (fun j z1 z2 => by rw [fr j (by omega) (by omega) (by omega), f2 j (by omega) (by omega)]) (fun _ _ => rfl)) d3 (TgI_add ⟨t1, t2, t3, t4, t5⟩ hno') (by rw [e10]; exact hcur) (by omega) (by omega) (fun ns' hn' MI' c' d' t' e' => hT ns' hn' MI' c' d' t' (by rw [e', e10])) hF
      · rw [if_pos hbad] at hF
        exact hF rfl MI hc
    · by_cases hm : fIdx (ofN o) (rs.drop k) k = -1
      · exact hm
      · obtain ⟨r, q, h1, h2, h3, h4', h5⟩ := fIdx_drop hm
        have := cntO_skip h2 h3 (by simpa [ofN] using h4' : q.1 = o)
        omega
theorem c_addDefaults (hbd : b = 38 ∨ b = 81) (hG : RuG rs) {ec : Nat} {os : List Int} {o : By} {y0 : Nd} (hc : CurC b T n OI OL h MI ML) (hD : DocC b T n N pl (od, ds, rs) ns ((ec : Int) :: os ++ [0]) dp MI ML) (hI : TgI ns ec os) (hcur : MI 10 1 = (ec : Int)) (hy0 : ns[ec]? = some y0) (ho : y0.2.2.1 = o) (hone : o ≠ [])
    (hT : ∀ ns', dfF (ec : Int) o rs ns = some ns' → ∀ MI', CurC b T n OI OL h MI' ML → DocC b T n N pl (od, ds, rs) ns' ((ec : Int) :: os ++ [0]) dp MI' ML → TgI ns' ec os → MI' 10 = MI 10 → Q (some (vI 1)) (MI', ML, GR d e nw th 1))
    (hF : dfF (ec : Int) o rs ns = none → ∀ MI', CurC b T n OI OL h MI' ML → Q (some (vI 0)) (MI', ML, GR d e nw th 1)) :
    wp cs mX10_addDefaults KD Q 0 (padL [vR 10, vR b] 7) [] (KD, MI, ML, GR d e nw th 1) := by
  have hN := hD.2.2.2.2.1
  have h600 := hN.2.1
  have hl := (List.getElem?_eq_some_iff.mp hy0).1
  have hid : isId N (MI (b + 34) ec) o := by
    rcases (hN.2.2.2 ec y0 hy0).2.2.1 with h3 | h3
    · exact absurd (ho.symm.trans h3.1) hone
    · rw [ho] at h3; exact h3
  have hi := isId_lt hid
  have hz := hD.1.1
  refine v_X10_addDefaults_0 hbd ?_
  rw [hcur]
  simp only [Int.toNat_natCast]
  refine ⟨by omega, w_X5_ruleOf hbd (by have := hD.1.2.1; omega) (fun _ => rI_mk ?_) (fun q => absurd (by rw [hz]; exact hi) q)⟩
  rw [(hD.2.1 _ o hid.2).2]
  exact c_addDefaults_l hbd hG rs.length 0 ns 0 MI (by omega) hc hD hI hcur (by omega) (by have := hG.1 o; simp only [List.drop_zero]; omega) hT hF
/-- the innermost open ELEMENT is left -/
theorem c_leave (hbd : b = 38 ∨ b = 81) {ec : Int} {os : List Int} {D : Dt} (hc : CurC b T n OI OL h MI ML) (hD : DocC b T n N pl D ns (ec :: os ++ [0]) dp MI ML) (hW : OpW ns (ec :: os ++ [0])) (hU : OpU ns (ec :: os)) (hcur : MI 10 1 = ec) (hdp : MI 10 2 = (os.length : Nat) + 1) (h30 : os.length < 30)
    (hQ : ∀ MI', CurC b T n OI OL h MI' ML → DocC b T n N pl D ns (os ++ [0]) dp MI' ML → MI' 10 1 = os.headD 0 → MI' 10 2 = (os.length : Nat) → Q none (MI', ML, GR d e nw th 1)) :
    wp cs mX10_leave KD Q 0 (padL [vR 10, vR b] 2) [] (KD, MI, ML, GR d e nw th 1) := by
  have hN := hD.2.2.2.2.1
  have h600 := hN.2.1
  obtain ⟨w1, w2, w3⟩ := hW.2.1 ec (by simp)
  obtain ⟨y, hy, hy1, hy2⟩ := hU.1
  have h33 := (hN.2.2.2 _ y hy).2.1
  refine v_X10_leave_0 hbd ?_
  rw [hcur]
  refine w_X3_close hbd (by omega) (rV_mk ?_)
  have e101 : up2 (up2 MI (b + 38) ec.toNat (MI b 16)) (b + 40) ec.toNat (MI b 15) 10 1 = ec := by rw [up2_ne (by omega), up2_ne (by omega)]; exact hcur
  have e33 : up2 (up2 MI (b + 38) ec.toNat (MI b 16)) (b + 40) ec.toNat (MI b 15) (b + 33) ec.toNat = os.headD 0 := by rw [up2_ne (by omega), up2_ne (by omega), h33, hy2]
  rw [e101, e33]
  refine ⟨by omega, ?_⟩
  intro m18 e18
  have q2 : m18 10 2 = (os.length : Nat) + 1 := by rw [e18, up2_nk (by decide), up2_ne (by omega), up2_ne (by omega)]; exact hdp
  rw [q2]
  refine ⟨by omega, ?_⟩
  intro m28 e28
  have fr : ∀ j, j ≠ 10 → j ≠ b + 38 → j ≠ b + 40 → m28 j = MI j := fun j z1 z2 z3 => by rw [e28, e18]; funext k; rw [up2_ne z1, up2_ne z1, up2_ne z3, up2_ne z2]
  have o38 : ∀ k, k ≠ ec.toNat → m28 (b + 38) k = MI (b + 38) k := fun k hk => by rw [e28, e18, up2_ne (by omega), up2_ne (by omega), up2_ne (by omega), up2_nk hk]
  have o40 : ∀ k, k ≠ ec.toNat → m28 (b + 40) k = MI (b + 40) k := fun k hk => by rw [e28, e18, up2_ne (by omega), up2_ne (by omega), up2_nk hk, up2_ne (by omega)]
  have n38 : m28 (b + 38) ec.toNat = MI b 16 := by rw [e28, e18, up2_ne (by omega), up2_ne (by omega), up2_ne (by omega), up2_eq]
  have n40 : m28 (b + 40) ec.toNat = MI b 15 := by rw [e28, e18, up2_ne (by omega), up2_ne (by omega), up2_eq]
  have eb : m28 b = MI b := fr b (by omega) (by omega) (by omega)
  refine hQ m28 (CurC_fr hc hbd (fun j z1 z2 => fr j (by omega) (by omega) (by omega)) (fun _ _ => rfl)) ⟨NamC_fr hD.1 (fun j z1 z2 => fr j (by omega) (by omega) (by omega)), IdxC_fr hD.2.1 (fun j z1 z2 => fr j (by omega) (by omega) (by omega)), SpcC_fr hD.2.2.1 (fun j z1 z2 => fr j (by omega) (by omega) (by omega)) (fun _ _ _ => rfl), RulC_fr hD.2.2.2.1 (fun j z1 z2 => fr j (by omega) (by omega) (by omega)) (fr _ (by omega) (by omega) (by omega)) (by rw [eb]), ?_, DtC_fr hD.2.2.2.2.2.1 (by rw [eb]), by rw [eb]; exact hD.2.2.2.2.2.2.1, by rw [eb]; exact hD.2.2.2.2.2.2.2⟩ ?_ ?_
  · refine ⟨by rw [eb]; exact hN.1, h600, by rw [eb]; exact hN.2.2.1, fun k z hz => ?_⟩
    obtain ⟨a1, a2, a3, a4, a5, a6, a7, a8, a9, a10⟩ := hN.2.2.2 k z hz
    have f := fun c (h1 : 32 ≤ c) (h2 : c ≠ 38) (h3 : c ≠ 40) => fr (b + c) (by omega) (by omega) (by omega)
    refine ⟨by rw [f 32 (by decide) (by decide) (by decide)]; exact a1, by rw [f 33 (by decide) (by decide) (by decide)]; exact a2, by rw [f 34 (by decide) (by decide) (by decide)]; exact a3, by rw [f 35 (by decide) (by decide) (by decide)]; exact a4, by rw [f 36 (by decide) (by decide) (by decide)]; exact a5, by rw [f 37 (by decide) (by decide) (by decide)]; exact a6, fun h2 => ?_, fun h2 => by rw [f 39 (by decide) (by decide) (by decide)]; exact a8 h2, fun h3 => by rw [f 42 (by decide) (by decide) (by decide)]; exact a9 h3, fun h2 hop => ?_⟩
    · have hke : k ≠ ec.toNat := fun hk => by subst hk; rw [hy] at hz; cases hz; omega
      rw [f 41 (by decide) (by decide) (by decide), eb, f 39 (by decide) (by decide) (by decide), o40 k hke, o38 k hke]; exact a7 h2
    · by_cases hke : k = ec.toNat
      · rw [hke, n38, n40, w3, hN.1, hN.2.2.1, tl_all]; exact ⟨rfl, rfl⟩
      · rw [o38 k hke, o40 k hke]
        exact a10 h2 (fun z => by
          rcases List.mem_cons.mp (show (k : Int) ∈ ec :: (os ++ [0]) from z) with z | z
          · omega
          · exact hop z)
  · rw [e28, up2_nk (by decide), e18, up2_eq]
  · rw [e28, up2_eq]; omega
end P77
