/-! The reference's reading of a PATH: a STEP, the PATH. -/
def SpsR (T : Nat → Int) (n : Int) (l : List StM) (MI : Nat → Nat → Int) : Prop :=
  MI 124 84 = (l.length : Nat) ∧ l.length ≤ 12 ∧ ∀ (j : Nat) (s : StM), l[j]? = some s → StpR T n j s MI
theorem StpR_fr {T : Nat → Int} {n : Int} {j : Nat} {s : StM} {A B : Nat → Nat → Int} (h : StpR T n j s A) (h1 : ∀ i, 180 ≤ i → i ≤ 184 → B i j = A i j) (h2 : ∀ i k, 185 ≤ i → i ≤ 190 → 4 * j ≤ k → k < 4 * j + 4 → B i k = A i k) : StpR T n j s B := by
  obtain ⟨a1, a2, a3, a4, a5, a6⟩ := h
  refine ⟨by rw [h1 180 (by decide) (by decide)]; exact a1, by rw [h1 181 (by decide) (by decide)]; exact a2, fun y hy => by rw [h1 182 (by decide) (by decide), h1 183 (by decide) (by decide)]; exact a3 y hy, by rw [h1 184 (by decide) (by decide)]; exact a4, a5, fun t q hq => ?_⟩
  have ht := (List.getElem?_eq_some_iff.mp hq).1
  exact BrkR_fr (a6 t q hq) (fun i z1 z2 => h2 i _ z1 z2 (by omega) (by omega))
theorem ob_m1 {T : Nat → Int} {n i : Int} (h0 : 0 ≤ i) : ob T n i = -1 ↔ n ≤ i := by
  constructor
  · intro h
    refine Decidable.byContradiction fun w => ?_
    rw [ob_in ⟨h0, by omega⟩] at h
    have := i_and255 (T i.toNat)
    omega
  · intro h; exact ob_out (by omega)
section Pe04
variable {cs : Cs} {Q : Option AV → Mm → Prop} {MI ML OI : Nat → Nat → Int} {d e nw th x : Nat} {T : Nat → Int} {n : Int}
theorem c_rstep {c : Nat} {a : Int} {dp : Bool} (hs : StP T n (.inr a) MI) (h84 : MI 124 84 = (c : Nat)) (hc : c ≤ 12)
    (hQ : ∀ MI', StP T n (pb (psS T n dp c a) fun q => .inr q.2) MI' → frP (chPr c) MI MI' → (∀ s y, psS T n dp c a = .inr (s, y) → MI' 124 84 = ((c + 1 : Nat) : Int) ∧ StpR T n c s MI') → Q none (MI', ML, GR d e nw th x)) :
    wp cs mX12_step KD Q 0 (padL [vR 124, vI (if dp = true then 1 else 0)] 4) [] (KD, MI, ML, GR d e nw th x) := by
  have h4 := hs.2.2.2.1
  have h5 := hs.2.2.2.2.2.2
  have hn6 := hs.2.2.1
  have mv : ∀ {A B : Nat → Nat → Int}, mvr A B → frP (chPr c) A B := fun z => mvr_P z (fun k hk => Or.inl ⟨rfl, hk⟩)
  refine v_X12_step_0 ?_
  rw [h84, h4]
  refine ⟨fun h12 => ?_, fun h12 => ⟨by omega, ?_⟩⟩
  · have hc12 : 12 ≤ c := by omega
    have yes : (ob T n a = 46 ∨ ob T n a = 64 ∨ ob T n a = 42 ∨ isNs (ob T n a)) → wp cs mX12_step KD Q 67 [some (vR 124), some (vI (if dp = true then 1 else 0)), none, none] [vI 1] (KD, MI, ML, GR d e nw th x) := by
      intro hb
      have hp : psS T n dp c a = .inl (-3, a) := by unfold psS; rw [if_pos hb, if_pos hc12]
      refine v_X12_step_67 ⟨fun z => by omega, fun _ => ?_⟩
      rw [h4]
      exact py_fail (by decide) hs (fun M s1 m1 _ _ => rV_mk (hQ M (by rw [hp, pb_l]; exact s1) (mv m1) (fun s y hy => by rw [hp] at hy; cases hy)))
    refine py_octet hs h5.1 (rI_mk ⟨fun z => yes (Or.inl z), fun z1 => ?_⟩)
    rw [h4]
    refine py_octet hs h5.1 (rI_mk ⟨fun z => yes (Or.inr (Or.inl z)), fun z2 => ?_⟩)
    rw [h4]
    refine py_octet hs h5.1 (rI_mk ⟨fun z => yes (Or.inr (Or.inr (Or.inl z))), fun z3 => ?_⟩)
    rw [h4]
    refine py_octet hs h5.1 (rI_mk (w_X12_isFirst (rI_mk ⟨fun z => ?_, fun z => yes (Or.inr (Or.inr (Or.inr (Decidable.byContradiction fun w => z (by rw [bI, if_neg w])))))⟩)))
    have hns : ¬ isNs (ob T n a) := fun w => by rw [bI, if_pos w] at z; omega
    have hp : psS T n dp c a = .inl (-1, a) := by unfold psS; rw [if_neg (fun w => w.elim z1 (fun w => w.elim z2 (fun w => w.elim z3 hns)))]
    refine v_X12_step_67 ⟨fun _ => ?_, fun z => absurd rfl z⟩
    rw [h4]
    exact py_fail (by decide) hs (fun M s1 m1 _ _ => rV_mk (hQ M (by rw [hp, pb_l]; exact s1) (mv m1) (fun s y hy => by rw [hp] at hy; cases hy)))
  · have hc12 : c < 12 := by omega
    rw [psS_eq hc12] at hQ
    rintro _ rfl
    refine ⟨by omega, by cases dp <;> simp, ?_⟩
    rintro _ rfl _ rfl
    simp only [Int.toNat_natCast]
    obtain ⟨M1, hM1⟩ : ∃ M1, M1 = up2 (up2 (up2 MI 124 84 ((c : Nat) + 1)) 181 c (if dp = true then 1 else 0)) 184 c 0 := ⟨_, rfl⟩
    rw [← hM1]
    have s1 : StP T n (.inr a) M1 := by rw [hM1]; exact StP_off (StP_off (StP_fld hs (by decide)) (by decide) (by decide)) (by decide) (by decide)
    have f1 : frP (chPr c) MI M1 := by
      rw [hM1]
      exact frP_tr (frP_tr (frP_up (by unfold chPr; omega)) (frP_up (by unfold chPr; omega))) (frP_up (by unfold chPr; omega))
    have e84 : M1 124 84 = ((c + 1 : Nat) : Int) := by rw [hM1, up2_ne (by decide), up2_ne (by decide), up2_eq]; rfl
    have e181 : M1 181 c = (if dp = true then 1 else 0) := by rw [hM1, up2_ne (by decide), up2_eq]
    have e184 : M1 184 c = 0 := by rw [hM1, up2_eq]
    have e4 : M1 124 4 = a := s1.2.2.2.1
    clear hM1
    have nobr : ∀ {M : Nat → Nat → Int}, M 184 c = 0 → BrsR T n c [] M := fun h => ⟨h, by decide, fun t q hq => by simp at hq⟩
    refine py_stands (m := 2) (by decide) s1 (fun hst => rI_mk ⟨fun z => by omega, fun _ => ?_⟩) (fun hst => rI_mk ⟨fun _ => ?_, fun z => absurd rfl z⟩)
    · rw [wbl_DDT] at hst
      have hroom := stb_room _ _ h5.1 (by decide) (by decide) hst
      simp only [List.length_cons, List.length_nil] at hroom
      rw [if_pos hst] at hQ
      rw [e4]
      refine ⟨by omega, ?_⟩
      rintro _ rfl _ rfl
      refine hQ _ (StP_off (StP_atg s1 (by omega)) (by decide) (by decide)) (frP_tr f1 (frP_tr (frP_up (by unfold chPr ch5; omega)) (frP_up (by unfold chPr; omega)))) (fun s y hy => ?_)
      cases hy
      refine ⟨by rw [up2_ne (by decide), up2_nk (by decide)]; exact e84, up2_eq, ?_, fun y hy => (by cases hy), nobr ?_⟩
      · rw [up2_ne (by decide), up2_ne (by decide)]; exact e181
      · rw [up2_ne (by decide), up2_ne (by decide)]; exact e184
    · rw [wbl_DDT] at hst
      have hdd : ¬ stb T n a [46, 46] = true := by rw [hst]; decide
      rw [if_neg hdd] at hQ
      rw [e4]
      refine py_octet s1 h5.1 (rI_mk ⟨fun ho => ?_, fun ho => ?_⟩)
      · have hlt := ob_lt (c := 46) (by decide) ho
        rw [if_pos ho] at hQ
        rw [e4]
        refine ⟨by omega, ?_⟩
        rintro _ rfl _ rfl
        refine hQ _ (StP_off (StP_atg s1 (by omega)) (by decide) (by decide)) (frP_tr f1 (frP_tr (frP_up (by unfold chPr ch5; omega)) (frP_up (by unfold chPr; omega)))) (fun s y hy => ?_)
        cases hy
        refine ⟨by rw [up2_ne (by decide), up2_nk (by decide)]; exact e84, up2_eq, ?_, fun y hy => (by cases hy), nobr ?_⟩
        · rw [up2_ne (by decide), up2_ne (by decide)]; exact e181
        · rw [up2_ne (by decide), up2_ne (by decide)]; exact e184
      · rw [if_neg ho] at hQ
        have mb : ∀ {A B : Nat → Nat → Int}, frP (chBR c) A B → frP (chPr c) A B := fun z => frP_mono z (fun i k hp => by
          unfold chBR at hp
          unfold chPr
          rcases hp with hp | hp | hp
          · exact Or.inl hp
          · exact Or.inr (Or.inr (Or.inl (by omega)))
          · exact Or.inr (Or.inr (Or.inr hp)))
        -- brackets
        have brk : ∀ (t : Int) (o : Option By) (g : Int) (M : Nat → Nat → Int), hdS T n a = .inr (t, o, g) → StP T n (.inr g) M → frP (chPr c) MI M → M 124 84 = ((c + 1 : Nat) : Int) → M 180 c = hwR t o → M 181 c = (if dp = true then 1 else 0) → (∀ y, o = some y → slc T n (M 182 c) (M 183 c) y) → M 184 c = 0 →
            wp cs mX12_step KD Q 304 [some (vR 124), some (vI (if dp = true then 1 else 0)), some (vI (c : Nat)), none] [] (KD, M, ML, GR d e nw th x) := by
          intro t o g M hh hsM hfr m84 m180 m181 m182 m184
          rw [hh, pb_r] at hQ
          refine c_rstep_304 (OI := M) (R := brsF T n 5 [] g) hc12 (fun M' s' f' b' => hQ M' ?_ (frP_tr hfr (mb f')) (fun s y hy => ?_)) 5 [] g M rfl hsM (frP_rfl _ _) (nobr m184) rfl
          · show StP T n (pb (pb (brsF T n 5 [] g) fun z => .inr ((t, dp, o, z.1), z.2)) fun q => .inr q.2) M'
            rcases hb : brsF T n 5 [] g with e' | z
            · rw [hb, pb_l] at s'; exact s'
            · rw [hb, pb_r] at s'; exact s'
          · obtain ⟨z, h1, h2⟩ := pb_inr hy
            cases h2
            refine ⟨by rw [f' 124 84 (by unfold chBR ch5; omega)]; exact m84, ?_, ?_, fun y hy' => ?_, b' z.1 z.2 h1⟩
            · rw [f' 180 c (by unfold chBR ch5; omega)]; exact m180
            · rw [f' 181 c (by unfold chBR ch5; omega)]; exact m181
            · rw [f' 182 c (by unfold chBR ch5; omega), f' 183 c (by unfold chBR ch5; omega)]; exact m182 y hy'
        refine py_stands (m := 6) (by decide) s1 (fun hst => rI_mk ⟨fun z => by omega, fun _ => ?_⟩) (fun hst => rI_mk ⟨fun _ => ?_, fun z => absurd rfl z⟩)
        · rw [wbl_TXT] at hst
          have hroom := stb_room _ _ h5.1 (by decide) (by decide) hst
          simp only [List.length_cons, List.length_nil] at hroom
          rw [e4]
          refine ⟨by omega, ?_⟩
          rintro _ rfl _ rfl
          refine brk 2 none (a + 6) _ (by unfold hdS; rw [if_pos hst]) (StP_off (StP_atg s1 (by omega)) (by decide) (by decide)) (frP_tr f1 (frP_tr (frP_up (by unfold chPr ch5; omega)) (frP_up (by unfold chPr; omega)))) ?_ up2_eq ?_ (fun y hy => by cases hy) ?_
          · rw [up2_ne (by decide), up2_nk (by decide)]; exact e84
          · rw [up2_ne (by decide), up2_ne (by decide)]; exact e181
          · rw [up2_ne (by decide), up2_ne (by decide)]; exact e184
        · rw [wbl_TXT] at hst
          have htx : ¬ stb T n a [116, 101, 120, 116, 40, 41] = true := by rw [hst]; decide
          rw [e4]
          have nam : ∀ (s0 g t : Int), (s0 = 2 ∧ t = 3 ∧ g = a + 1 ∨ s0 = 0 ∧ t = 4 ∧ g = a) → g ≤ n → (hdS T n a = if ob T n g = 42 then .inr (t, none, g + 1) else pb (nmS T n g) fun y => .inr (t, some (nb T g y), y)) →
              wp cs mX12_step KD Q 227 [some (vR 124), some (vI (if dp = true then 1 else 0)), some (vI (c : Nat)), none] [vI s0] (KD, M1, ML, GR d e nw th x) := by
            intro s0 g t h0 hgn hh
            have hdv : i_div s0 2 = g - a := by
              rcases h0 with ⟨w1, w2, w3⟩ | ⟨w1, w2, w3⟩
              · rw [w1, w3, show i_div 2 2 = 1 by decide +kernel]; omega
              · rw [w1, w3, show i_div 0 2 = 0 by decide +kernel]; omega
            refine v_X12_step_227 ?_
            rw [e4, hdv, show a + (g - a) = g by omega]
            refine ⟨by omega, ?_⟩
            rintro _ rfl
            have s2 : StP T n (.inr g) (up2 M1 124 4 g) := StP_atg s1 (by omega)
            have f2 : frP (chPr c) MI (up2 M1 124 4 g) := frP_tr f1 (frP_up (by unfold chPr ch5; omega))
            rw [up2_eq]
            refine py_octet s2 (by omega) (rI_mk ⟨fun ho2 => ?_, fun ho2 => ?_⟩)
            · have hlt := ob_lt (c := 42) (by decide) ho2
              rw [if_pos ho2] at hh
              rw [up2_eq]
              refine ⟨by omega, ?_⟩
              rintro _ rfl
              refine ⟨by omega, by omega, ?_⟩
              rintro _ rfl
              simp only [Int.toNat_natCast]
              refine brk t none (g + 1) _ hh (StP_off (StP_atg s2 (by omega)) (by decide) (by decide)) (frP_tr f2 (frP_tr (frP_up (by unfold chPr ch5; omega)) (frP_up (by unfold chPr; omega)))) ?_ ?_ ?_ (fun y hy => by cases hy) ?_
              · rw [up2_ne (by decide), up2_nk (by decide), up2_nk (by decide)]; exact e84
              · rw [up2_eq]
                rcases h0 with ⟨w1, w2, w3⟩ | ⟨w1, w2, w3⟩
                · rw [w1, w2]; rfl
                · rw [w1, w2]; rfl
              · rw [up2_ne (by decide), up2_ne (by decide), up2_ne (by decide)]; exact e181
              · rw [up2_ne (by decide), up2_ne (by decide), up2_ne (by decide)]; exact e184
            · rw [if_neg ho2] at hh
              refine py_takeName s2 (fun y M4 hy s4 m4 e51 => rI_mk ⟨by omega, ?_⟩) (fun g' p M4 hy s4 m4 => rI_mk ⟨by omega, ?_⟩)
              · have hok := nmS_ok hy
                rw [hy, pb_r] at hh
                rintro _ rfl _ rfl
                simp only [Int.toNat_natCast]
                refine ⟨by omega, ?_⟩
                rintro _ rfl
                rw [up2_ne (by decide), e51]
                refine brk t (some (nb T g y)) y _ hh (StP_off (StP_off (StP_off s4 (by decide) (by decide)) (by decide) (by decide)) (by decide) (by decide)) (frP_tr f2 (frP_tr (mv m4) (frP_tr (frP_up (by unfold chPr; omega)) (frP_tr (frP_up (by unfold chPr; omega)) (frP_up (by unfold chPr; omega)))))) ?_ ?_ ?_ (fun y' hy' => ?_) ?_
                · rw [up2_ne (by decide), up2_ne (by decide), up2_ne (by decide), m4.2 84 (by decide) (by decide) (by decide) (by decide) (by decide), up2_nk (by decide)]; exact e84
                · rw [up2_eq]
                  rcases h0 with ⟨w1, w2, w3⟩ | ⟨w1, w2, w3⟩
                  · rw [w1, w2]; rfl
                  · rw [w1, w2]; rfl
                · rw [up2_ne (by decide), up2_ne (by decide), up2_ne (by decide), m4.1 181 (by decide), up2_ne (by decide)]; exact e181
                · cases hy'
                  rw [up2_ne (by decide), up2_ne (by decide), up2_eq, up2_ne (by decide), up2_eq]
                  exact slc_nb (by omega) (by omega) (hok.2.2.2 (by omega))
                · rw [up2_ne (by decide), up2_ne (by decide), up2_ne (by decide), m4.1 184 (by decide), up2_ne (by decide)]; exact e184
              · rw [hy, pb_l] at hh
                rw [hh, pb_l] at hQ
                rintro _ rfl _ rfl
                simp only [Int.toNat_natCast]
                refine ⟨by omega, ?_⟩
                rintro _ rfl
                have s5 := StP_off (i := 180) (k := c) (v := 3 + s0) (StP_off (i := 183) (k := c) (v := up2 M4 182 c g 124 51) (StP_off (i := 182) (k := c) (v := g) s4 (by decide) (by decide)) (by decide) (by decide)) (by decide) (by decide)
                refine v_X12_step_304 (py_isGood s5 (fun a' z => by cases z) (fun g2 p2 z => rI_mk ⟨fun _ => hQ _ s5 (frP_tr f2 (frP_tr (mv m4) (frP_tr (frP_up (by unfold chPr; omega)) (frP_tr (frP_up (by unfold chPr; omega)) (frP_up (by unfold chPr; omega)))))) (fun s y hy => by cases hy), fun z => absurd rfl z⟩))
          refine py_octet s1 h5.1 (rI_mk ⟨fun ho3 => ?_, fun ho3 => ?_⟩)
          · have hlt := ob_lt (c := 64) (by decide) ho3
            refine nam 2 (a + 1) 3 (Or.inl ⟨rfl, rfl, rfl⟩) (by omega) ?_
            unfold hdS
            rw [if_neg htx, if_pos ho3, if_pos ho3]
          · refine nam 0 a 4 (Or.inr ⟨rfl, rfl, rfl⟩) h5.2 ?_
            unfold hdS
            rw [if_neg htx, if_neg ho3, if_neg ho3]
theorem chPr_P {c : Nat} {A B : Nat → Nat → Int} (z : frP (chPr c) A B) : frP chPR A B := frP_mono z (fun i k hp => by
  unfold chPr at hp
  unfold chPR
  rcases hp with hp | hp | hp | hp
  · exact Or.inl hp
  · exact Or.inr (Or.inl ⟨hp.1, Or.inl hp.2⟩)
  · exact Or.inr (Or.inr (by omega))
  · exact Or.inr (Or.inr (by omega)))
theorem c_rpath_90 {R : PR (List StM)} {v : Int}
    (hT : ∀ l y MI', R = .inr l → StP T n (.inr y) MI' → frP chPR OI MI' → SpsR T n l MI' → MI' 124 85 = v → Q none (MI', ML, GR d e nw th x))
    (hF : ∀ g p MI', R = .inl (g, p) → StP T n (.inl (g, p)) MI' → frP chPR OI MI' → Q none (MI', ML, GR d e nw th x)) :
    ∀ (k : Nat) (l : List StM) (dp : Bool) (h : Int) (MI : Nat → Nat → Int), k + l.length = 13 → StP T n (.inr h) MI → frP chPR OI MI → SpsR T n l MI → MI 124 85 = v → R = paF T n k l dp h →
    wp cs mX12_path KD Q 90 [some (vR 124), some (vI (if dp = true then 1 else 0)), some (vI 1)] [] (KD, MI, ML, GR d e nw th x) := by
  intro k
  induction k with
  | zero => intro l dp h MI hk hs hfr hS; have := hS.2.1; omega
  | succ k ih =>
    intro l dp h MI hk hs hfr hS hv heq
    rw [paF] at heq
    refine v_X12_path_90 (py_isGood hs (fun a' z => rI_mk ⟨fun z => by omega, fun _ => ⟨fun z => by omega, fun _ => ?_⟩⟩) (fun g p z => by cases z))
    refine c_rstep hs hS.1 hS.2.1 (fun M1 s1 f1 r1 => rV_mk ?_)
    have fr1 := frP_tr hfr (chPr_P f1)
    have v1 : M1 124 85 = v := by rw [f1 124 85 (by unfold chPr ch5; omega)]; exact hv
    have hn6 := hs.2.2.1
    rcases hp : psS T n dp l.length h with ⟨g, p⟩ | ⟨s, y⟩
    · rw [hp, pb_l] at s1 heq
      have h4b := s1.2.2.2.2.2.2
      -- it fails
      have end90 : ∀ (M : Nat → Nat → Int) (a2 a3 : Int), StP T n (.inl (g, p)) M → frP chPR OI M → wp cs mX12_path KD Q 90 [some (vR 124), some (vI a2), some (vI a3)] [] (KD, M, ML, GR d e nw th x) := by
        intro M a2 a3 sM fM
        refine v_X12_path_90 (py_isGood sM (fun a' z => by cases z) (fun g' p' z => rI_mk ⟨fun _ => ?_, fun z => absurd rfl z⟩))
        exact v_X12_path_170 (py_isGood sM (fun a' z => by cases z) (fun g' p' z => rI_mk ⟨fun _ => hF g p M heq sM fM, fun z => absurd rfl z⟩))
      have m133 : ∀ (a2 a3 s0 : Int), wp cs mX12_path KD Q 133 [some (vR 124), some (vI a2), some (vI a3)] [vI s0] (KD, M1, ML, GR d e nw th x) := by
        intro a2 a3 s0
        refine v_X12_path_133 (py_isGood s1 (fun a' z => by cases z) (fun g' p' z => rI_mk ⟨fun _ => ?_, fun z => absurd rfl z⟩))
        rintro _ rfl
        exact end90 _ _ _ (StP_atb s1 (by omega)) (frP_tr fr1 (frP_up (Or.inl ⟨rfl, Or.inl rfl⟩)))
      have oct : ∀ a2 : Int, wp cs mX12_octet KD (rI (GR d e nw th x) fun x120 m120 n120 => ((x120 = 47 → wp cs mX12_path KD Q 133 [some (vR 124), some (vI a2), some (vI 1)] [vI 1] (KD, m120, n120, (GR d e nw th x))) ∧ (x120 ≠ 47 → wp cs mX12_path KD Q 133 [some (vR 124), some (vI a2), some (vI 1)] [vI 0] (KD, m120, n120, (GR d e nw th x))))) 0 (padL [vR 124, vI (M1 124 4)] 2) [] (KD, M1, ML, (GR d e nw th x)) :=
        fun a2 => py_octet s1 (by omega) (rI_mk ⟨fun _ => m133 _ _ _, fun _ => m133 _ _ _⟩)
      exact py_standsB (m := 2) (by decide) s1 (rI_mk (oct 1)) (rI_mk (oct 0))
    · rw [hp, pb_r] at s1 heq
      replace s1 : StP T n (.inr y) M1 := s1
      replace heq : R = if ob T n y = -1 then .inr (l ++ [s]) else if stb T n y [47, 47] = true then paF T n k (l ++ [s]) true (y + 2) else pb (mbS T n y 47) fun y => paF T n k (l ++ [s]) false y := heq
      obtain ⟨e1, st1⟩ := r1 s y hp
      have hlt : l.length < 12 := by
        refine Decidable.byContradiction fun w => ?_
        unfold psS at hp
        split at hp
        · rw [if_pos (by omega)] at hp; cases hp
        · cases hp
      have h4 := s1.2.2.2.1
      have h5 := s1.2.2.2.2.2.2
      have S1 : SpsR T n (l ++ [s]) M1 := by
        refine ⟨by rw [e1]; simp, by simp; omega, fun j s' hs' => ?_⟩
        by_cases hj : j < l.length
        · rw [List.getElem?_append_left hj] at hs'
          exact StpR_fr (hS.2.2 j s' hs') (fun i z1 z2 => f1 i j (by unfold chPr ch5; omega)) (fun i k z1 z2 z3 z4 => f1 i k (by unfold chPr ch5; omega))
        · have ht2 := (List.getElem?_eq_some_iff.mp hs').1
          simp only [List.length_append, List.length_singleton] at ht2
          have ht3 : j = l.length := by omega
          subst ht3
          rw [List.getElem?_append_right (Nat.le_refl _)] at hs'
          simp at hs'
          subst hs'
          exact st1
      have Sat : ∀ {w : Int}, SpsR T n (l ++ [s]) (up2 M1 124 4 w) := fun {w} => ⟨by rw [up2_nk (by decide)]; exact S1.1, S1.2.1, fun j s' hs' => StpR_fr (S1.2.2 j s' hs') (fun i z1 z2 => up2_ne (by omega) _) (fun i k z1 z2 z3 z4 => up2_ne (by omega) _)⟩
      have fat : ∀ {w : Int}, frP chPR OI (up2 M1 124 4 w) := fun {w} => frP_tr fr1 (frP_up (Or.inl ⟨rfl, Or.inl rfl⟩))
      have vat : ∀ {w : Int}, up2 M1 124 4 w 124 85 = v := fun {w} => by rw [up2_nk (by decide)]; exact v1
      refine py_stands (m := 2) (by decide) s1 (fun hst => rI_mk ?_) (fun hst => rI_mk ?_)
      · rw [wbl_SLS] at hst
        have hroom := stb_room _ _ h5.1 (by decide) (by decide) hst
        simp only [List.length_cons, List.length_nil] at hroom
        have ho := stb_hd hst
        rw [if_neg (by omega), if_pos hst] at heq
        rw [h4]
        refine py_octet s1 h5.1 (rI_mk ⟨fun _ => ?_, fun z => absurd ho z⟩)
        refine v_X12_path_133 (py_isGood s1 (fun a' z => rI_mk ⟨fun z => by omega, fun _ => ⟨fun z => by omega, fun _ => ⟨fun z => by omega, fun _ => ?_⟩⟩⟩) (fun g' p' z => by cases z))
        rw [h4]
        refine ⟨by omega, ?_⟩
        rintro _ rfl
        exact ih (l ++ [s]) true (y + 2) _ (by simp; omega) (StP_atg s1 (by omega)) fat Sat vat heq
      · rw [wbl_SLS] at hst
        rw [if_neg (by rw [hst]; decide : ¬ stb T n y [47, 47] = true)] at heq
        rw [h4]
        refine py_octet s1 h5.1 (rI_mk ⟨fun ho => ?_, fun ho => ?_⟩)
        · have hly := ob_lt (c := 47) (by decide) ho
          rw [if_neg (by omega), show mbS T n y 47 = .inr (y + 1) by unfold mbS; rw [if_pos ho], pb_r] at heq
          refine v_X12_path_133 (py_isGood s1 (fun a' z => rI_mk ⟨fun z => by omega, fun _ => ⟨fun z => by omega, fun _ => ⟨fun _ => ?_, fun z => absurd rfl z⟩⟩⟩) (fun g' p' z => by cases z))
          rw [h4]
          refine ⟨by omega, ?_⟩
          rintro _ rfl
          exact ih (l ++ [s]) false (y + 1) _ (by simp; omega) (StP_atg s1 (by omega)) fat Sat vat heq
        · refine v_X12_path_133 (py_isGood s1 (fun a' z => rI_mk ⟨fun z => by omega, fun _ => ⟨fun _ => ?_, fun z => absurd rfl z⟩⟩) (fun g' p' z => by cases z))
          rw [h4]
          rintro _ rfl
          have s2 := StP_atg s1 (v := y) h5
          refine v_X12_path_90 (py_isGood s2 (fun a' z => rI_mk ⟨fun z => by omega, fun _ => ⟨fun _ => ?_, fun z => absurd rfl z⟩⟩) (fun g' p' z => by cases z))
          refine v_X12_path_170 (py_isGood s2 (fun a' z => rI_mk ⟨fun z => by omega, fun _ => ?_⟩) (fun g' p' z => by cases z))
          rw [up2_eq, s2.2.1]
          refine ⟨fun hltn => ?_, fun hge => ?_⟩
          · rw [if_neg (fun z => by have := (ob_m1 h5.1).mp z; omega), show mbS T n y 47 = .inl (-1, y) by unfold mbS; rw [if_neg ho], pb_l] at heq
            exact py_fail (by decide) s2 (fun M3 s3 m3 _ _ => rV_mk (hF _ _ M3 heq s3 (frP_tr fat (mvr_P m3 (fun k hk => Or.inl ⟨rfl, hk⟩)))))
          · rw [if_pos ((ob_m1 h5.1).mpr hge)] at heq
            exact hT _ y _ heq s2 fat Sat vat
theorem c_rpath (hs : StP T n (.inr 0) MI)
    (hT : ∀ fr l y MI', paS T n = .inr (fr, l) → StP T n (.inr y) MI' → frP chPR MI MI' → SpsR T n l MI' → MI' 124 85 = (if fr = true then 1 else 0) → Q none (MI', ML, GR d e nw th x))
    (hF : ∀ g p MI', paS T n = .inl (g, p) → StP T n (.inl (g, p)) MI' → frP chPR MI MI' → Q none (MI', ML, GR d e nw th x)) :
    wp cs mX12_path KD Q 0 (padL [vR 124] 3) [] (KD, MI, ML, GR d e nw th x) := by
  have h4 := hs.2.2.2.1
  have h5 := hs.2.2.2.2.2.2
  have hn6 := hs.2.2.1
  refine v_X12_path_0 ?_
  rintro _ rfl
  have s1 : StP T n (.inr 0) (up2 MI 124 84 0) := StP_fld hs (by decide)
  have f1 : frP chPR MI (up2 MI 124 84 0) := frP_up (Or.inr (Or.inl ⟨rfl, Or.inl rfl⟩))
  have e4 : up2 MI 124 84 0 124 4 = 0 := s1.2.2.2.1
  rw [e4]
  have go : ∀ s0 : Int, s0 = (if ob T n 0 = 47 then 1 else 0) → wp cs mX12_path KD Q 24 [some (vR 124), none, none] [vI s0, vR 124] (KD, up2 MI 124 84 0, ML, GR d e nw th x) := by
    intro s0 hs0
    refine v_X12_path_24 ⟨by rw [hs0]; split <;> simp, ?_⟩
    rintro _ rfl
    have s2 : StP T n (.inr 0) (up2 (up2 MI 124 84 0) 124 85 s0) := StP_fld s1 (by decide)
    have f2 : frP chPR MI (up2 (up2 MI 124 84 0) 124 85 s0) := frP_tr f1 (frP_up (Or.inr (Or.inl ⟨rfl, Or.inr rfl⟩)))
    obtain ⟨M2, hM2⟩ : ∃ M2, M2 = up2 (up2 MI 124 84 0) 124 85 s0 := ⟨_, rfl⟩
    have e84 : M2 124 84 = 0 := by rw [hM2, up2_nk (by decide), up2_eq]
    have e85 : M2 124 85 = s0 := by rw [hM2, up2_eq]
    rw [← hM2] at s2 f2 ⊢
    clear hM2
    have e4 : M2 124 4 = 0 := s2.2.2.2.1
    have Sat : ∀ {w : Int}, SpsR T n [] (up2 M2 124 4 w) := fun {w} => ⟨by rw [up2_nk (by decide)]; exact e84, by decide, fun j s hs => by simp at hs⟩
    have fin : ∀ (dp fr : Bool) (h : Int), (0 ≤ h ∧ h ≤ n) → s0 = (if fr = true then 1 else 0) → (dp = true → fr = true) → paS T n = (if fr = true ∧ dp = false ∧ ob T n h = -1 then .inr (true, []) else pb (paF T n 13 [] dp h) fun l => .inr (fr, l)) → ∀ w : Int, w = h →
        wp cs mX12_path KD Q 61 [some (vR 124), some (vI (if dp = true then 1 else 0)), none] [vI w, vI 0, vR 124] (KD, M2, ML, GR d e nw th x) := by
      intro dp fr h hh hfr hdf heq w hw
      refine v_X12_path_61 ?_
      rw [hw, Int.zero_add]
      refine ⟨by omega, ?_⟩
      rintro _ rfl
      have s3 : StP T n (.inr h) (up2 M2 124 4 h) := StP_atg s2 hh
      have f3 : frP chPR MI (up2 M2 124 4 h) := frP_tr f2 (frP_up (Or.inl ⟨rfl, Or.inl rfl⟩))
      have r85 : up2 M2 124 4 h 124 85 = s0 := by rw [up2_nk (by decide)]; exact e85
      have rest : ¬ (fr = true ∧ dp = false ∧ ob T n h = -1) → wp cs mX12_path KD Q 90 [some (vR 124), some (vI (if dp = true then 1 else 0)), some (vI 1)] [] (KD, up2 M2 124 4 h, ML, GR d e nw th x) := by
        intro hno
        rw [if_neg hno] at heq
        exact c_rpath_90 (OI := MI) (R := paF T n 13 [] dp h) (v := s0) (fun l y M' hl s f S v => hT fr l y M' (by rw [heq, hl, pb_r]) s f S (by rw [v, hfr])) (fun g p M' hl s f => hF g p M' (by rw [heq, hl, pb_l]) s f) 13 [] dp h _ rfl s3 f3 Sat r85 rfl
      rw [r85, up2_eq, s3.2.1]
      refine ⟨fun z => rest (fun w => by rw [hfr, if_pos w.1] at z; exact absurd z (by decide)), fun z => ⟨fun z2 => ⟨fun z3 => ?_, fun z3 => rest (fun w => z3 (by have := (ob_m1 hh.1).mp w.2.2; omega))⟩, fun z2 => rest (fun w => z2 (by rw [w.2.1]; rfl))⟩⟩
      have hfr' : fr = true := by
        cases fr with
        | true => rfl
        | false => rw [hfr] at z; exact absurd rfl z
      have hdp : dp = false := by
        cases dp with
        | false => rfl
        | true => exact absurd z2 (by decide)
      rw [if_pos ⟨hfr', hdp, (ob_m1 hh.1).mpr (by omega)⟩] at heq
      exact hT true [] h _ heq s3 f3 Sat (by rw [r85, hfr, hfr'])
    refine py_stands (m := 2) (by decide) s2 (fun hst => rI_mk ?_) (fun hst => rI_mk ?_)
    · rw [wbl_SLS] at hst
      have hroom := stb_room _ _ (by omega) (by decide) (by decide) hst
      simp only [List.length_cons, List.length_nil] at hroom
      have ho := stb_hd hst
      rw [e4]
      refine ⟨fun z => by omega, fun _ => fin true true 2 (by omega) (by rw [hs0, if_pos ho]; rfl) (fun _ => rfl) ?_ 2 rfl⟩
      unfold paS
      rw [if_pos hst, if_neg (fun w => absurd w.2.1 (by decide))]
    · rw [wbl_SLS] at hst
      have hns : ¬ stb T n 0 [47, 47] = true := by rw [hst]; decide
      rw [e4, e85]
      by_cases ho : ob T n 0 = 47
      · rw [if_pos ho] at hs0
        have hlt := ob_lt (c := 47) (by decide) ho
        refine ⟨fun _ => ⟨fun z => by omega, fun _ => fin false true 1 (by omega) hs0 (fun _ => rfl) ?_ 1 rfl⟩, fun z => absurd rfl z⟩
        unfold paS
        rw [if_neg hns, if_pos ho]
        by_cases ho1 : ob T n 1 = -1
        · rw [if_pos ho1, if_pos ⟨rfl, rfl, ho1⟩]
        · rw [if_neg ho1, if_neg (fun w => ho1 w.2.2)]
      · rw [if_neg ho] at hs0
        refine ⟨fun _ => ⟨fun _ => fin false false 0 (by omega) hs0 (fun z => absurd z (by decide)) ?_ 0 rfl, fun z => absurd hs0 z⟩, fun z => absurd rfl z⟩
        unfold paS
        rw [if_neg hns, if_neg ho, if_neg (fun w => absurd w.1 (by decide))]
  exact py_octet s1 (by omega) (rI_mk ⟨fun ho => go 1 (by rw [if_pos ho]), fun ho => go 0 (by rw [if_neg ho])⟩)
end Pe04
