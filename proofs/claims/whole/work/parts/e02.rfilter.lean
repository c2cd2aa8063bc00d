/-! The reference's reading of a PATH: a bracket. -/
theorem wbl_LST : wbl 119165804619817 6 = [108, 97, 115, 116, 40, 41] := by decide +kernel
theorem wbl_DEQ : wbl 11837 2 = [46, 61] := by decide +kernel
theorem wbl_DDT : wbl 11822 2 = [46, 46] := by decide +kernel
theorem wbl_TXT : wbl 127979161397289 6 = [116, 101, 120, 116, 40, 41] := by decide +kernel
theorem wbl_SLS : wbl 12079 2 = [47, 47] := by decide +kernel
def quR (T : Nat → Int) (n : Int) (f : Nat) (o : Option By) (MI : Nat → Nat → Int) : Prop := match o with
  | none => MI 185 f = 2
  | some v => MI 185 f = 3 ∧ slc T n (MI 189 f) (MI 190 f) v
def BrkR (T : Nat → Int) (n : Int) (f : Nat) (q : BrM) (MI : Nat → Nat → Int) : Prop :=
  (q.1 = 0 → MI 185 f = 0 ∧ MI 186 f = q.2.1) ∧ (q.1 = 1 → MI 185 f = 1) ∧ (q.1 = 2 → MI 185 f = 4 ∧ ∃ v, q.2.2.2 = some v ∧ slc T n (MI 189 f) (MI 190 f) v) ∧
  (3 ≤ q.1 → MI 188 f = (if q.1 = 3 then 1 else 0) ∧ slc T n (MI 186 f) (MI 187 f) q.2.2.1 ∧ quR T n f q.2.2.2 MI)
theorem BrkR_fr {T : Nat → Int} {n : Int} {f : Nat} {q : BrM} {A B : Nat → Nat → Int} (h : BrkR T n f q A) (h1 : ∀ i, 185 ≤ i → i ≤ 190 → B i f = A i f) : BrkR T n f q B := by
  unfold BrkR quR at *
  rw [h1 185 (by decide) (by decide), h1 186 (by decide) (by decide), h1 187 (by decide) (by decide), h1 188 (by decide) (by decide), h1 189 (by decide) (by decide), h1 190 (by decide) (by decide)]
  exact h
def ch5 (i k : Nat) : Prop := i = 124 ∧ (k = 4 ∨ k = 5 ∨ k = 6 ∨ k = 51 ∨ k = 52)
def chF (j f i k : Nat) : Prop := ch5 i k ∨ (i = 184 ∧ k = j) ∨ ((185 ≤ i ∧ i ≤ 190) ∧ k = f)
section Pe02
variable {cs : Cs} {Q : Option AV → Mm → Prop} {MI ML OI : Nat → Nat → Int} {d e nw th x : Nat} {T : Nat → Int} {n : Int} {s : PR Int}
theorem dgP_ok (T : Nat → Int) (n : Int) : ∀ (k : Nat) (v h : Int), h ≤ n → h ≤ (dgP T n k v h).2 ∧ (dgP T n k v h).2 ≤ n
  | 0, v, h, hh => ⟨Int.le_refl _, hh⟩
  | k + 1, v, h, hh => by
    unfold dgP
    split
    · next hd =>
      have := ob_lt (c := ob T n h) (by unfold isDg at hd; omega) rfl
      have := dgP_ok T n k (v * 10 + ob T n h - 48) (h + 1) (by omega)
      omega
    · exact ⟨Int.le_refl _, hh⟩
theorem c_rfilter_85 {f : Nat} {l1 : Int} (hf : f < 48) : ∀ (k : Nat) (v l4 h : Int) (MI : Nat → Nat → Int), StP T n (.inr h) MI → 0 ≤ v ∧ v ≤ dgB k → l4 + k = 4 ∧ 0 ≤ l4 →
    (∀ MI', StP T n (.inr (dgP T n k v h).2) MI' → frP ch5 MI MI' → wp cs mX12_filter KD Q 390 [some (vR 124), some (vI l1), some (vI (f : Nat)), none, none] [] (KD, up2 (up2 MI' 185 f 0) 186 f (dgP T n k v h).1, ML, GR d e nw th x)) →
    wp cs mX12_filter KD Q 85 [some (vR 124), some (vI l1), some (vI (f : Nat)), some (vI v), some (vI l4)] [] (KD, MI, ML, GR d e nw th x)
  | 0, v, l4, h, MI, hs, hv, hk, hQ => by
    refine v_X12_filter_85 ?_
    simp only [Int.toNat_natCast]
    refine ⟨fun z => by omega, fun _ => ⟨by omega, ?_⟩⟩
    rintro _ rfl _ rfl
    exact hQ MI hs (frP_rfl _ _)
  | k + 1, v, l4, h, MI, hs, hv, hk, hQ => by
    have h4 := hs.2.2.2.1
    have h5 := hs.2.2.2.2.2.2
    have hn6 := hs.2.2.1
    refine v_X12_filter_85 ?_
    simp only [Int.toNat_natCast]
    rw [h4]
    refine ⟨fun _ => py_octet hs h5.1 (rI_mk (w_X12_in (rI_mk ⟨fun z => ⟨by omega, ?_⟩, fun z => ?_⟩))), fun z => by omega⟩
    · have hd : ¬ isDg (ob T n h) := fun w => by rw [bI, if_pos (show 48 ≤ ob T n h ∧ ob T n h ≤ 57 from w)] at z; omega
      rintro _ rfl _ rfl
      rw [dgP, if_neg hd] at hQ
      exact hQ MI hs (frP_rfl _ _)
    · have hd : isDg (ob T n h) := Decidable.byContradiction fun w => z (by rw [bI, if_neg (show ¬ (48 ≤ ob T n h ∧ ob T n h ≤ 57) from w)])
      rw [dgP, if_pos hd] at hQ
      have hln := ob_lt (c := ob T n h) (by unfold isDg at hd; omega) rfl
      have hb : v ≤ 999 ∧ v * 10 + 9 ≤ dgB k := by
        have : k = 0 ∨ k = 1 ∨ k = 2 ∨ 3 ≤ k := by omega
        unfold dgB at hv ⊢
        rcases this with w | w | w | w
        · subst w; simp at hv ⊢; omega
        · subst w; simp at hv ⊢; omega
        · subst w; simp at hv ⊢; omega
        · rw [if_neg (by omega), if_neg (by omega), if_neg (by omega)]
          by_cases w3 : k = 3
          · subst w3; simp at hv ⊢; omega
          · omega
      have hd' : 48 ≤ ob T n h ∧ ob T n h ≤ 57 := hd
      rw [h4]
      refine ⟨by omega, py_octet hs h5.1 (rI_mk ?_)⟩
      rw [h4]
      refine ⟨by omega, by omega, by omega, ?_⟩
      rintro _ rfl
      rw [show 10 * v + ob T n h - 48 = v * 10 + ob T n h - 48 by omega]
      refine ⟨by omega, c_rfilter_85 hf k (v * 10 + ob T n h - 48) (l4 + 1) (h + 1) _ (StP_atg hs (by omega)) (by omega) (by omega) (fun M s f => hQ M s (frP_tr (frP_up (by unfold ch5; omega)) f))⟩
theorem c_rfilter {j c : Nat} {a : Int} (hj : j < 12) (hs : StP T n (.inr a) MI) (h91 : ob T n a = 91) (h184 : MI 184 j = (c : Nat)) (hc : c ≤ 4)
    (hB : c = 4 → ∀ MI', StP T n (.inl (-3, a)) MI' → frP ch5 MI MI' → Q none (MI', ML, GR d e nw th x))
    (hQ : c < 4 → ∀ MI', StP T n (pb (brS T n (a + 1)) fun q => mbS T n q.2 93) MI' → frP (chF j (4 * j + c)) MI MI' → (∀ q y, brS T n (a + 1) = .inr (q, y) → MI' 184 j = ((c + 1 : Nat) : Int) ∧ BrkR T n (4 * j + c) q MI') → Q none (MI', ML, GR d e nw th x)) :
    wp cs mX12_filter KD Q 0 (padL [vR 124, vI (j : Nat)] 5) [] (KD, MI, ML, GR d e nw th x) := by
  have h4 := hs.2.2.2.1
  have h5 := hs.2.2.2.2.2.2
  have hn6 := hs.2.2.1
  have hlt := ob_lt (c := 91) (by decide) h91
  have mv : ∀ {A B : Nat → Nat → Int}, mvr A B → frP (chF j (4 * j + c)) A B := fun z => mvr_P z (fun k hk => Or.inl ⟨rfl, hk⟩)
  have m5 : ∀ {A B : Nat → Nat → Int}, frP ch5 A B → frP (chF j (4 * j + c)) A B := fun z => frP_mono z (fun i k hp => Or.inl hp)
  refine v_X12_filter_0 ?_
  simp only [Int.toNat_natCast]
  rw [h184, h4]
  refine ⟨by omega, fun hc4 => py_fail (by decide) hs (fun M s m _ _ => rV_mk (hB (by omega) M s (mvr_P m (fun k hk => ⟨rfl, hk⟩)))), fun hc4 => ⟨by omega, ?_⟩⟩
  rintro _ rfl
  rw [up2_ne (by decide), h184, show 4 * ((j : Nat) : Int) + ((c : Nat) : Int) = ((4 * j + c : Nat) : Int) by omega]
  refine ⟨by omega, by omega, by omega, ?_⟩
  rintro _ rfl
  simp only [Int.toNat_natCast]
  refine ⟨by omega, ?_⟩
  rintro _ rfl
  have hQ := hQ (by omega)
  obtain ⟨f, hf⟩ : ∃ f, f = 4 * j + c := ⟨_, rfl⟩
  rw [← hf] at hQ ⊢
  rw [← hf] at mv m5
  have hf48 : f < 48 := by omega
  obtain ⟨M1, hM1⟩ : ∃ M1, M1 = up2 (up2 (up2 MI 124 4 (a + 1)) 184 j ((c : Nat) + 1)) 188 f 0 := ⟨_, rfl⟩
  rw [← hM1]
  have s1 : StP T n (.inr (a + 1)) M1 := by rw [hM1]; exact StP_off (StP_off (StP_atg hs (by omega)) (by decide) (by decide)) (by decide) (by decide)
  have f1 : frP (chF j f) MI M1 := by
    rw [hM1]
    exact frP_tr (frP_tr (frP_up (by unfold chF ch5; omega)) (frP_up (by unfold chF ch5; omega))) (frP_up (by unfold chF ch5; omega))
  have e84 : M1 184 j = ((c + 1 : Nat) : Int) := by rw [hM1, up2_ne (by decide), up2_eq]; rfl
  have e4 : M1 124 4 = a + 1 := s1.2.2.2.1
  clear hM1
  -- the end: ]
  have fin : ∀ (s : PR Int) (M : Nat → Nat → Int), (s = pb (brS T n (a + 1)) fun q => .inr q.2) → StP T n s M → frP (chF j f) MI M → M 184 j = ((c + 1 : Nat) : Int) → (∀ q y, brS T n (a + 1) = .inr (q, y) → BrkR T n f q M) → wp cs mX12_filter KD Q 390 [some (vR 124), some (vI (j : Nat)), some (vI (f : Nat)), none, none] [] (KD, M, ML, GR d e nw th x) := by
    intro s M hse hsM hfr h84 hbr
    have hpb : (pb s fun a => mbS T n a 93) = pb (brS T n (a + 1)) fun q => mbS T n q.2 93 := by
      rw [hse]
      rcases brS T n (a + 1) with e | q
      · rfl
      · rfl
    have brm : ∀ {M' : Nat → Nat → Int}, mvr M M' → ∀ q y, brS T n (a + 1) = .inr (q, y) → M' 184 j = ((c + 1 : Nat) : Int) ∧ BrkR T n f q M' := fun m q y hq => ⟨by rw [m.1 184 (by decide)]; exact h84, BrkR_fr (hbr q y hq) (fun i h1 h2 => by rw [m.1 i (by omega)])⟩
    refine v_X12_filter_390 (py_passes hsM (fun y M' hy sM' m => rI_mk (hQ M' ?_ (frP_tr hfr (mv m)) (brm m))) (fun g p M' hy sM' m => rI_mk (hQ M' ?_ (frP_tr hfr (mv m)) (brm m))) (by decide))
    · rw [← hpb, hy]; exact sM'
    · rw [← hpb, hy]; exact sM'
  rw [e4]
  refine py_octet s1 (by omega) (rI_mk (w_X12_in (rI_mk ⟨fun z => ?_, fun z => ?_⟩)))
  · have hd : ¬ isDg (ob T n (a + 1)) := fun w => by rw [bI, if_pos (show 48 ≤ ob T n (a + 1) ∧ ob T n (a + 1) ≤ 57 from w)] at z; omega
    refine py_stands (m := 6) (by decide) s1 (fun hst => rI_mk ⟨fun z => by omega, fun _ => ?_⟩) (fun hst => rI_mk ⟨fun _ => ?_, fun z => absurd rfl z⟩)
    · rw [wbl_LST] at hst
      have hroom := stb_room _ _ (by omega) (by decide) (by decide) hst
      simp only [List.length_cons, List.length_nil] at hroom
      have hbr : brS T n (a + 1) = .inr ((1, 0, [], none), a + 1 + 6) := by unfold brS; rw [if_neg hd, if_pos hst]
      rw [e4]
      refine ⟨by omega, ?_⟩
      rintro _ rfl _ rfl
      refine fin (.inr (a + 1 + 6)) _ (by rw [hbr, pb_r]) (StP_off (StP_atg s1 (by omega)) (by decide) (by decide)) (frP_tr f1 (frP_tr (frP_up (by unfold chF ch5; omega)) (frP_up (by unfold chF ch5; omega)))) (by rw [up2_ne (by decide), up2_ne (by decide)]; exact e84) (fun q y hq => ?_)
      rw [hbr] at hq; cases hq
      exact ⟨fun w => absurd (show (1 : Int) = 0 from w) (by decide), fun _ => up2_eq, fun w => absurd (show (1 : Int) = 2 from w) (by decide), fun w => absurd (show (3 : Int) ≤ 1 from w) (by decide)⟩
    · rw [wbl_LST] at hst
      have hlst : ¬ stb T n (a + 1) [108, 97, 115, 116, 40, 41] = true := by rw [hst]; decide
      rw [e4]
      -- a NAME
      have nam : ∀ (s0 : Int) (g : Int), (ob T n (a + 1) = 64 ∧ s0 = 1 ∨ ob T n (a + 1) ≠ 64 ∧ isNs (ob T n (a + 1)) ∧ s0 = 0) → g = a + 1 + s0 → wp cs mX12_filter KD Q 245 [some (vR 124), some (vI (j : Nat)), some (vI (f : Nat)), none, none] [vI s0, vI (f : Nat), vR 188] (KD, M1, ML, GR d e nw th x) := by
        intro s0 g h0 hg
        have hdq : ¬ stb T n (a + 1) [46, 61] = true := fun w => by
          have := stb_hd w
          rcases h0 with h0 | h0
          · omega
          · have := h0.2.1; unfold isNs at this; omega
        have hln : ob T n (a + 1) ≠ -1 := by
          rcases h0 with h0 | h0
          · omega
          · have := h0.2.1; unfold isNs at this; omega
        have hlt2 := ob_lt hln rfl
        obtain ⟨t0, ht0⟩ : ∃ t0 : Int, t0 = if ob T n (a + 1) = 64 then 3 else 4 := ⟨_, rfl⟩
        have hbr : brS T n (a + 1) = pb (nmS T n g) fun y => if ob T n y = 61 then pb (quS T n (y + 1)) fun q => .inr ((t0, 0, nb T g y, some q.1), q.2) else .inr ((t0, 0, nb T g y, none), y) := by
          unfold brS
          rw [if_neg hd, if_neg hlst, if_neg hdq, ht0, hg]
          rcases h0 with h0 | h0
          · rw [if_pos h0.1, if_pos h0.1, h0.2]
          · rw [if_neg h0.1, if_neg h0.1, h0.2.2, Int.add_zero]
        have h188 : s0 = if t0 = 3 then 1 else 0 := by
          rw [ht0]
          rcases h0 with h0 | h0
          · rw [if_pos h0.1, if_pos rfl]; exact h0.2
          · rw [if_neg h0.1, if_neg (by decide)]; exact h0.2.2
        have ht3 : 3 ≤ t0 ∧ t0 ≤ 4 := by rw [ht0]; split <;> omega
        refine v_X12_filter_245 ?_
        simp only [Int.toNat_natCast]
        refine ⟨by omega, by omega, ?_⟩
        rintro _ rfl
        have s2 : StP T n (.inr (a + 1)) (up2 M1 188 f s0) := StP_off s1 (by decide) (by decide)
        have f2 : frP (chF j f) MI (up2 M1 188 f s0) := frP_tr f1 (frP_up (by unfold chF ch5; omega))
        have e4' : up2 M1 188 f s0 124 4 = a + 1 := s2.2.2.2.1
        have go : wp cs mX12_filter KD Q 269 [some (vR 124), some (vI (j : Nat)), some (vI (f : Nat)), none, none] [vI s0, vI (a + 1), vR 124] (KD, up2 M1 188 f s0, ML, GR d e nw th x) := by
          refine v_X12_filter_269 ?_
          simp only [Int.toNat_natCast]
          rw [← hg]
          refine ⟨by omega, ?_⟩
          rintro _ rfl
          have s3 : StP T n (.inr g) (up2 (up2 M1 188 f s0) 124 4 g) := StP_atg s2 (by omega)
          have f3 : frP (chF j f) MI (up2 (up2 M1 188 f s0) 124 4 g) := frP_tr f2 (frP_up (by unfold chF ch5; omega))
          have e188 : ∀ {M : Nat → Nat → Int}, mvr (up2 (up2 M1 188 f s0) 124 4 g) M → M 188 f = s0 := fun m => by rw [m.1 188 (by decide), up2_ne (by decide), up2_eq]
          have e184 : ∀ {M : Nat → Nat → Int}, mvr (up2 (up2 M1 188 f s0) 124 4 g) M → M 184 j = ((c + 1 : Nat) : Int) := fun m => by rw [m.1 184 (by decide), up2_ne (by decide), up2_ne (by decide)]; exact e84
          refine py_takeName s3 (fun y M4 hy s4 m4 e51 => rI_mk ⟨by omega, ?_⟩) (fun g' p M4 hy s4 m4 => rI_mk ⟨by omega, ?_⟩)
          · have hok := nmS_ok hy
            rw [hy, pb_r] at hbr
            rintro _ rfl _ rfl _ rfl
            rw [up2_ne (by decide), e51]
            obtain ⟨M5, hM5⟩ : ∃ M5, M5 = up2 (up2 (up2 M4 186 f g) 187 f (y - g)) 185 f 2 := ⟨_, rfl⟩
            rw [← hM5]
            have s5 : StP T n (.inr y) M5 := by rw [hM5]; exact StP_off (StP_off (StP_off s4 (by decide) (by decide)) (by decide) (by decide)) (by decide) (by decide)
            have f5 : frP (chF j f) MI M5 := by
              rw [hM5]
              exact frP_tr f3 (frP_tr (mv m4) (frP_tr (frP_up (by unfold chF ch5; omega)) (frP_tr (frP_up (by unfold chF ch5; omega)) (frP_up (by unfold chF ch5; omega)))))
            have r188 : M5 188 f = s0 := by rw [hM5, up2_ne (by decide), up2_ne (by decide), up2_ne (by decide)]; exact e188 m4
            have r184 : M5 184 j = ((c + 1 : Nat) : Int) := by rw [hM5, up2_ne (by decide), up2_ne (by decide), up2_ne (by decide)]; exact e184 m4
            have r186 : M5 186 f = g := by rw [hM5, up2_ne (by decide), up2_ne (by decide), up2_eq]
            have r187 : M5 187 f = y - g := by rw [hM5, up2_ne (by decide), up2_eq]
            have r185 : M5 185 f = 2 := by rw [hM5, up2_eq]
            have r4 : M5 124 4 = y := s5.2.2.2.1
            have hsl : slc T n g (y - g) (nb T g y) := slc_nb (by omega) (by omega) (hok.2.2.2 (by omega))
            clear hM5
            refine py_isGood s5 (fun a' z => rI_mk ⟨fun z => by omega, fun _ => ?_⟩) (fun g' p z => by cases z)
            rw [r4]
            refine py_octet s5 (by omega) (rI_mk ⟨fun ho => ?_, fun ho => ?_⟩)
            · have hly := ob_lt (c := 61) (by decide) ho
              rw [if_pos ho] at hbr
              rw [r4]
              refine ⟨by omega, ?_⟩
              rintro _ rfl _ rfl
              have s6 : StP T n (.inr (y + 1)) (up2 (up2 M5 124 4 (y + 1)) 185 f 3) := StP_off (StP_atg s5 (by omega)) (by decide) (by decide)
              refine c_rquoted hf48 s6 (fun M7 s7 f7 v7 => rV_mk (fin _ M7 ?_ s7 (frP_tr f5 (frP_tr (frP_tr (frP_up (by unfold chF ch5; omega)) (frP_up (by unfold chF ch5; omega))) (frP_mono f7 (fun i k hp => by unfold chQR at hp; unfold chF ch5; omega)))) ?_ (fun q w hq => ?_)))
              · rw [hbr]
                rcases quS T n (y + 1) with e' | q
                · rfl
                · rfl
              · rw [f7 184 j (by unfold chQR; omega), up2_ne (by decide), up2_ne (by decide)]; exact r184
              · rw [hbr] at hq
                obtain ⟨⟨v, w'⟩, hv, hz⟩ := pb_inr hq
                cases hz
                have h7 := v7 v w' hv
                refine ⟨fun w => absurd (show t0 = 0 from w) (by omega), fun w => absurd (show t0 = 1 from w) (by omega), fun w => absurd (show t0 = 2 from w) (by omega), fun _ => ⟨?_, ?_, ?_, h7⟩⟩
                · rw [f7 188 f (by unfold chQR; omega), up2_ne (by decide), up2_ne (by decide), r188]; exact h188
                · rw [f7 186 f (by unfold chQR; omega), f7 187 f (by unfold chQR; omega), up2_ne (by decide), up2_ne (by decide), up2_ne (by decide), up2_ne (by decide), r186, r187]; exact hsl
                · rw [f7 185 f (by unfold chQR; omega), up2_eq]
            · rw [if_neg ho] at hbr
              refine fin (.inr y) M5 (by rw [hbr, pb_r]) s5 f5 r184 (fun q w hq => ?_)
              rw [hbr] at hq
              cases hq
              refine ⟨fun w => absurd (show t0 = 0 from w) (by omega), fun w => absurd (show t0 = 1 from w) (by omega), fun w => absurd (show t0 = 2 from w) (by omega), fun _ => ⟨?_, ?_, r185⟩⟩
              · rw [r188]; exact h188
              · rw [r186, r187]; exact hsl
          · rw [hy, pb_l] at hbr
            rintro _ rfl _ rfl _ rfl
            have s5 : StP T n (.inl (g', p)) (up2 (up2 (up2 M4 186 f g) 187 f (up2 M4 186 f g 124 51)) 185 f 2) := StP_off (StP_off (StP_off s4 (by decide) (by decide)) (by decide) (by decide)) (by decide) (by decide)
            refine py_isGood s5 (fun a' z => by cases z) (fun g2 p2 z => rI_mk ⟨fun _ => ?_, fun z => absurd rfl z⟩)
            refine fin (.inl (g', p)) _ (by rw [hbr, pb_l]) s5 (frP_tr f3 (frP_tr (mv m4) (frP_tr (frP_up (by unfold chF ch5; omega)) (frP_tr (frP_up (by unfold chF ch5; omega)) (frP_up (by unfold chF ch5; omega)))))) (by rw [up2_ne (by decide), up2_ne (by decide), up2_ne (by decide)]; exact e184 m4) (fun q w hq => by rw [hbr] at hq; cases hq)
        rw [e4']
        refine py_octet s2 (by omega) (rI_mk ⟨fun ho => ?_, fun ho => ?_⟩)
        · have h1 : s0 = 1 := by
            rcases h0 with h0 | h0
            · exact h0.2
            · exact absurd ho h0.1
          rw [h1] at go ⊢; exact go
        · have h1 : s0 = 0 := by
            rcases h0 with h0 | h0
            · exact absurd h0.1 ho
            · exact h0.2.2
          rw [h1] at go ⊢; exact go
      refine py_octet s1 (by omega) (rI_mk ⟨fun ho => ?_, fun ho => ?_⟩)
      · rw [e4]
        exact py_octet s1 (by omega) (rI_mk ⟨fun _ => nam 1 _ (Or.inl ⟨ho, rfl⟩) rfl, fun z => absurd ho z⟩)
      · rw [e4]
        refine py_octet s1 (by omega) (rI_mk (w_X12_isFirst (rI_mk ⟨fun z => ?_, fun z => ?_⟩)))
        · have hns : ¬ isNs (ob T n (a + 1)) := fun w => by rw [bI, if_pos w] at z; omega
          refine py_stands (m := 2) (by decide) s1 (fun hst => rI_mk ⟨fun z => by omega, fun _ => ?_⟩) (fun hst => rI_mk ⟨fun _ => ?_, fun z => absurd rfl z⟩)
          · rw [wbl_DEQ] at hst
            have hroom := stb_room _ _ (by omega) (by decide) (by decide) hst
            simp only [List.length_cons, List.length_nil] at hroom
            have hbr : brS T n (a + 1) = pb (quS T n (a + 1 + 2)) fun q => .inr ((2, 0, [], some q.1), q.2) := by unfold brS; rw [if_neg hd, if_neg hlst, if_pos hst]
            rw [e4]
            refine ⟨by omega, ?_⟩
            rintro _ rfl _ rfl
            have s6 : StP T n (.inr (a + 1 + 2)) (up2 (up2 M1 124 4 (a + 1 + 2)) 185 f 4) := StP_off (StP_atg s1 (by omega)) (by decide) (by decide)
            refine c_rquoted hf48 s6 (fun M7 s7 f7 v7 => rV_mk (fin _ M7 ?_ s7 (frP_tr f1 (frP_tr (frP_tr (frP_up (by unfold chF ch5; omega)) (frP_up (by unfold chF ch5; omega))) (frP_mono f7 (fun i k hp => by unfold chQR at hp; unfold chF ch5; omega)))) ?_ (fun q w hq => ?_)))
            · rw [hbr]
              rcases quS T n (a + 1 + 2) with e' | q
              · rfl
              · rfl
            · rw [f7 184 j (by unfold chQR; omega), up2_ne (by decide), up2_ne (by decide)]; exact e84
            · rw [hbr] at hq
              obtain ⟨⟨v, w'⟩, hv, hz⟩ := pb_inr hq
              cases hz
              refine ⟨fun w => absurd (show (2 : Int) = 0 from w) (by decide), fun w => absurd (show (2 : Int) = 1 from w) (by decide), fun _ => ⟨?_, v, rfl, v7 v w' hv⟩, fun w => absurd (show (3 : Int) ≤ 2 from w) (by decide)⟩
              rw [f7 185 f (by unfold chQR; omega), up2_eq]
          · rw [wbl_DEQ] at hst
            have hbr : brS T n (a + 1) = .inl (-1, a + 1) := by
              unfold brS
              rw [if_neg hd, if_neg hlst, if_neg (by rw [hst]; decide), if_neg ho]
              unfold nmS
              rw [if_neg hns, pb_l]
            rw [e4]
            exact py_fail (by decide) s1 (fun M2 s2 m2 _ _ => rV_mk (fin _ M2 (by rw [hbr, pb_l]) s2 (frP_tr f1 (mv m2)) (by rw [m2.1 184 (by decide)]; exact e84) (fun q y hq => by rw [hbr] at hq; cases hq)))
        · have hns : isNs (ob T n (a + 1)) := Decidable.byContradiction fun w => z (by rw [bI, if_neg w])
          rw [e4]
          exact py_octet s1 (by omega) (rI_mk ⟨fun z => absurd z ho, fun _ => nam 0 _ (Or.inr ⟨ho, hns, rfl⟩) rfl⟩)
  · have hd : isDg (ob T n (a + 1)) := Decidable.byContradiction fun w => z (by rw [bI, if_neg (show ¬ (48 ≤ ob T n (a + 1) ∧ ob T n (a + 1) ≤ 57) from w)])
    have hbr : brS T n (a + 1) = .inr ((0, (dgP T n 4 0 (a + 1)).1, [], none), (dgP T n 4 0 (a + 1)).2) := by unfold brS; rw [if_pos hd]
    refine c_rfilter_85 hf48 4 0 0 (a + 1) M1 s1 (by unfold dgB; simp) ⟨by omega, by omega⟩ (fun M2 s2 f2 => ?_)
    refine fin (.inr (dgP T n 4 0 (a + 1)).2) _ (by rw [hbr, pb_r]) (StP_off (StP_off s2 (by decide) (by decide)) (by decide) (by decide)) (frP_tr f1 (frP_tr (m5 f2) (frP_tr (frP_up (by unfold chF ch5; omega)) (frP_up (by unfold chF ch5; omega))))) (by rw [up2_ne (by decide), up2_ne (by decide), f2 184 j (by unfold ch5; omega)]; exact e84) (fun q y hq => ?_)
    rw [hbr] at hq
    cases hq
    exact ⟨fun _ => ⟨by rw [up2_ne (by decide), up2_eq], up2_eq⟩, fun w => absurd (show (0 : Int) = 1 from w) (by decide), fun w => absurd (show (0 : Int) = 2 from w) (by decide), fun w => absurd (show (3 : Int) ≤ 0 from w) (by decide)⟩
end Pe02
