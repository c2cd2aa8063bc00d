/-! The class's reading of a PATH: all brackets, a STEP, the PATH. -/
def BrsC (N : List By) (T : Nat → Int) (n : Int) (j : Nat) (l : List BrM) (MI : Nat → Nat → Int) : Prop :=
  MI 18 j = (l.length : Nat) ∧ l.length ≤ 4 ∧ ∀ (t : Nat) (q : BrM), l[t]? = some q → BrkC N T n (4 * j + t) q MI
def chSt (j i k : Nat) : Prop := i = 2 ∨ (i = 18 ∧ k = j) ∨ ((19 ≤ i ∧ i ≤ 22) ∧ 4 * j ≤ k ∧ k < 4 * j + 4)
theorem BrkC_fr {N : List By} {T : Nat → Int} {n : Int} {f : Nat} {q : BrM} {A B : Nat → Nat → Int} (h : BrkC N T n f q A) (h1 : ∀ i, 19 ≤ i → i ≤ 22 → B i f = A i f) : BrkC N T n f q B := by
  unfold BrkC quO at *
  rw [h1 19 (by decide) (by decide), h1 20 (by decide) (by decide), h1 21 (by decide) (by decide), h1 22 (by decide) (by decide)]
  exact h
section Pd03
variable {cs : Cs} {Q : Option AV → Mm → Prop} {MI ML OI : Nat → Nat → Int} {b d e nw th : Nat} {T TD : Nat → Int} {n nD h : Int} {N : List By}
theorem chSt_P {j : Nat} {A B : Nat → Nat → Int} (hfr : frP (chSt j) A B) : frP chP A B := frP_mono hfr (fun i k hp => by unfold chSt at hp; unfold chP; omega)
theorem c_readBrackets_l {j : Nat} {R : PR (List BrM × Int)} (hbd : b = 38 ∨ b = 81) (hj : j < 12) (hn : nD ≤ 6000) (hN : NamC b TD nD N OI)
    (hT : ∀ l y MI', R = .inr (l, y) → CurP T n y MI' → frP (chSt j) OI MI' → BrsC N T n j l MI' → Q (some (vI 1)) (MI', ML, GR d e nw th 1))
    (hF : ∀ g' p MI', R = .inl (g', p) → FaiP OI g' p MI' → Q (some (vI 0)) (MI', ML, GR d e nw th 1)) :
    ∀ (k : Nat) (l : List BrM) (h : Int) (MI : Nat → Nat → Int), k + l.length = 5 → CurP T n h MI → frP (chSt j) OI MI → BrsC N T n j l MI → R = brsF T n k l h →
    wp cs mX6_readBrackets KD Q 2 [some (vR 14), some (vR (b + 1)), some (vI (j : Nat)), some (vI (l.length : Nat)), none] [] (KD, MI, ML, GR d e nw th 1) := by
  intro k
  induction k with
  | zero => intro l h MI hk hc hfr hB; have := hB.2.1; omega
  | succ k ih =>
    intro l h MI hk hc hfr hB heq
    have h4 := hB.2.1
    have h22 := hc.2.2.2.1
    have h5 := hc.2.2.2.2
    refine v_X6_readBrackets_2 hbd ⟨fun z => by omega, fun _ => ?_⟩
    refine px_takeIf (k := 4) (by decide +kernel) hc (fun hs M1 c1 m1 => rI_mk ⟨fun z => by omega, fun _ => ?_⟩) (fun hs => rI_mk ⟨fun _ => ?_, fun z => absurd rfl z⟩)
    · have ho : ob T n h = 91 := stb1.mp hs
      rw [brsF, if_pos ho] at heq
      rw [show sl 4 = 1 from rfl] at c1
      have f1 : frP (chSt j) OI M1 := frP_tr hfr (frP_mvd m1 (fun k => Or.inl rfl))
      refine ⟨fun hl => ?_, fun hl => ?_⟩
      · rw [if_neg (by omega)] at heq
        rw [show ((j : Nat) : Int) * 4 + ((l.length : Nat) : Int) = ((4 * j + l.length : Nat) : Int) by omega]
        refine ⟨by omega, by omega, c_readBracket hbd (by omega) c1 hn (NamC_P hbd hN (chSt_P f1)) (fun q y M2 hq c2 fr2 b2 => rI_mk ⟨fun z => by omega, fun _ => ?_⟩) (fun g' p M2 hq hfa => rI_mk ⟨fun _ => hF g' p M2 (by rw [heq, hq, pb_l]) (FaiP_tr (chSt_P f1) hfa), fun z => absurd rfl z⟩)⟩
        rw [hq, pb_r] at heq
        have f2 : frP (chSt j) OI M2 := frP_tr f1 (frP_mono fr2 (fun i k hp => by unfold chB at hp; unfold chSt; omega))
        refine px_take1 (k := 5) (c := 93) (by decide +kernel) rfl c2 (fun w hw M3 c3 m3 => rI_mk ⟨fun z => by omega, fun _ => ?_⟩) (fun g' p hw M3 hfa => rI_mk ⟨fun _ => hF g' p M3 (by rw [heq]; show pb (mbS T n y 93) _ = _; rw [hw, pb_l]) (FaiP_tr (chSt_P f2) hfa), fun z => absurd rfl z⟩)
        replace heq : R = pb (mbS T n y 93) fun y => brsF T n k (l ++ [q]) y := heq
        rw [hw, pb_r] at heq
        have f3 : frP (chSt j) OI M3 := frP_tr f2 (frP_mvd m3 (fun k => Or.inl rfl))
        have e18 : M3 18 j = (l.length : Nat) := by rw [m3 18 (by decide), fr2 18 j (by unfold chB; omega), m1 18 (by decide)]; exact hB.1
        simp only [Int.toNat_natCast]
        rw [e18]
        refine ⟨by omega, by omega, ?_⟩
        rintro _ rfl
        have el : ((l.length : Nat) : Int) + 1 = (((l ++ [q]).length : Nat) : Int) := by simp
        refine ⟨by omega, ?_⟩
        rw [el]
        refine ih (l ++ [q]) w _ (by simp; omega) (CurP_fr c3 (funext fun k => up2_ne (by decide) k) (funext fun k => up2_ne (by decide) k)) (frP_tr f3 (frP_up (by unfold chSt; omega))) ⟨up2_eq, by simp; omega, fun t q' hq' => ?_⟩ heq
        by_cases ht : t < l.length
        · rw [List.getElem?_append_left ht] at hq'
          refine BrkC_fr (hB.2.2 t q' hq') (fun i h1 h2 => ?_)
          rw [up2_ne (by omega), m3 i (by omega), fr2 i _ (by unfold chB; omega), m1 i (by omega)]
        · have ht2 := (List.getElem?_eq_some_iff.mp hq').1
          simp only [List.length_append, List.length_singleton] at ht2
          have ht3 : t = l.length := by omega
          subst ht3
          rw [List.getElem?_append_right (Nat.le_refl _)] at hq'
          simp at hq'
          subst hq'
          refine BrkC_fr b2 (fun i h1 h2 => ?_)
          rw [up2_ne (by omega), m3 i (by omega)]
      · rw [if_pos (by omega)] at heq
        rw [h22]
        exact px_refuse (fun M2 hfa => rI_mk ⟨Or.inl rfl, hF _ _ M2 heq (FaiP_tr (chSt_P f1) hfa)⟩)
    · have ho : ob T n h ≠ 91 := fun z => by rw [show sB 4 = [91] from rfl, stb1.mpr z] at hs; cases hs
      rw [brsF, if_neg ho] at heq
      exact hT l h MI heq hc hfr hB
theorem c_readBrackets {j : Nat} (hbd : b = 38 ∨ b = 81) (hj : j < 12) (hn : nD ≤ 6000) (hN : NamC b TD nD N MI) (hc : CurP T n h MI) (h18 : MI 18 j = 0)
    (hT : ∀ l y MI', brsF T n 5 [] h = .inr (l, y) → CurP T n y MI' → frP (chSt j) MI MI' → BrsC N T n j l MI' → Q (some (vI 1)) (MI', ML, GR d e nw th 1))
    (hF : ∀ g' p MI', brsF T n 5 [] h = .inl (g', p) → FaiP MI g' p MI' → Q (some (vI 0)) (MI', ML, GR d e nw th 1)) :
    wp cs mX6_readBrackets KD Q 0 (padL [vR 14, vR (b + 1), vI (j : Nat)] 5) [] (KD, MI, ML, GR d e nw th 1) :=
  v_X6_readBrackets_0 (c_readBrackets_l hbd hj hn hN hT hF 5 [] h MI rfl hc (frP_rfl _ _) ⟨h18, by decide, fun t q hq => by simp at hq⟩ rfl)
/-- a STEP as the class keeps it -/
def StpC (N : List By) (T : Nat → Int) (n : Int) (j : Nat) (s : StM) (MI : Nat → Nat → Int) : Prop :=
  MI 15 j = s.1 ∧ MI 17 j = (if s.2.1 = true then 1 else 0) ∧ nmO N (MI 16 j) s.2.2.1 ∧ BrsC N T n j s.2.2.2 MI
def chPs (j i k : Nat) : Prop := i = 2 ∨ (i = 14 ∧ k = 9) ∨ ((15 ≤ i ∧ i ≤ 18) ∧ k = j) ∨ ((19 ≤ i ∧ i ≤ 22) ∧ 4 * j ≤ k ∧ k < 4 * j + 4)
theorem chPs_P {j : Nat} {A B : Nat → Nat → Int} (hfr : frP (chPs j) A B) : frP chP A B := frP_mono hfr (fun i k hp => by unfold chPs at hp; unfold chP; omega)
theorem BrsC_nil {j : Nat} (h18 : MI 18 j = 0) : BrsC N T n j [] MI := ⟨h18, by decide, fun t q hq => by simp at hq⟩
theorem c_readStep {dp : Bool} {c : Nat} (hbd : b = 38 ∨ b = 81) (hn : nD ≤ 6000) (hN : NamC b TD nD N MI) (hc : CurP T n h MI) (h9 : MI 14 9 = (c : Nat))
    (hT : ∀ s y MI', psS T n dp c h = .inr (s, y) → CurP T n y MI' → frP (chPs c) MI MI' → MI' 14 9 = ((c + 1 : Nat) : Int) → StpC N T n c s MI' → Q (some (vI 1)) (MI', ML, GR d e nw th 1))
    (hF : ∀ g' p MI', psS T n dp c h = .inl (g', p) → FaiP MI g' p MI' → Q (some (vI 0)) (MI', ML, GR d e nw th 1)) :
    wp cs mX6_readStep KD Q 0 (padL [vR 14, vR (b + 1), vI (if dp = true then 1 else 0)] 5) [] (KD, MI, ML, GR d e nw th 1) := by
  have h22 := hc.2.2.2.1
  have h5 := hc.2.2.2.2
  have go : (ob T n h = 46 ∨ ob T n h = 64 ∨ ob T n h = 42 ∨ isNs (ob T n h)) → wp cs mX6_readStep KD Q 49 [some (vR 14), some (vR (b + 1)), some (vI (if dp = true then 1 else 0)), some (vI (ob T n h)), none] [] (KD, MI, ML, GR d e nw th 1) := by
    intro hbg
    unfold psS at hT hF
    rw [if_pos hbg] at hT hF
    refine v_X6_readStep_49 hbd ?_
    rw [h9]
    refine ⟨fun hlt => ?_, fun hge => ?_⟩
    · rw [if_neg (by omega)] at hT hF
      refine ⟨by omega, ?_⟩
      rintro _ rfl
      have main : ∀ s0 : Int, i_2b s0 = (if dp = true then 1 else 0) → wp cs mX6_readStep KD Q 106 [some (vR 14), some (vR (b + 1)), some (vI (if dp = true then 1 else 0)), some (vI (ob T n h)), some (vI (c : Nat))] [vI s0, vI (c : Nat), vR 17] (KD, up2 MI 14 9 ((c : Nat) + 1), ML, GR d e nw th 1) := by
        intro s0 hs0
        refine v_X6_readStep_106 hbd ?_
        simp only [Int.toNat_natCast]
        rw [hs0]
        refine ⟨by omega, ?_⟩
        rintro _ rfl
        refine ⟨by omega, ?_⟩
        rintro _ rfl _ rfl
        obtain ⟨M1, hM1⟩ : ∃ M1, M1 = up2 (up2 (up2 (up2 MI 14 9 ((c : Nat) + 1)) 17 c (if dp = true then 1 else 0)) 18 c 0) 16 c (-2) := ⟨_, rfl⟩
        rw [← hM1]
        have a14 : M1 14 9 = ((c + 1 : Nat) : Int) := by rw [hM1]; simp [up2]
        have a17 : M1 17 c = (if dp = true then 1 else 0) := by rw [hM1]; simp [up2]
        have a18 : M1 18 c = 0 := by rw [hM1]; simp [up2]
        have a16 : M1 16 c = -2 := by rw [hM1]; simp [up2]
        have f1 : frP (chPs c) MI M1 := by
          rw [hM1]
          exact frP_tr (frP_tr (frP_up (by unfold chPs; omega)) (frP_up (by unfold chPs; omega))) (frP_tr (frP_up (by unfold chPs; omega)) (frP_up (by unfold chPs; omega)))
        have c1 : CurP T n h M1 := by
          refine CurP_fr hc (funext fun k => ?_) (funext fun k => ?_)
          · rw [hM1]; simp [up2]
          · rw [hM1]; simp [up2]
        clear hM1
        -- the rest: brackets
        have brk : ∀ (kd : Int) (o : Option By) (g : Int) (M : Nat → Nat → Int), CurP T n g M → frP (chPs c) MI M → M 14 9 = ((c + 1 : Nat) : Int) → M 15 c = kd → M 17 c = (if dp = true then 1 else 0) → M 18 c = 0 → nmO N (M 16 c) o → stb T n h [46, 46] = false → ob T n h ≠ 46 → hdS T n h = .inr (kd, o, g) →
            wp cs mX6_readBrackets KD (rI (GR d e nw th 1) fun x274 m274 n274 => (x274 = 0 ∨ x274 = 1) ∧ Q (some (vI x274)) (m274, n274, (GR d e nw th 1))) 0 (padL [vR 14, vR (b + 1), vI (c : Nat)] 5) [] (KD, M, ML, (GR d e nw th 1)) := by
          intro kd o g M hcM hfr m14 m15 m17 m18 m16 hdd hd hhd
          rw [hdd, if_neg (by decide), if_neg hd, hhd, pb_r] at hT hF
          refine c_readBrackets hbd (by omega) hn (NamC_P hbd hN (chPs_P hfr)) hcM m18 (fun l y M2 hl c2 fr2 b2 => rI_mk ⟨Or.inr rfl, ?_⟩) (fun g' p M2 hl hfa => rI_mk ⟨Or.inl rfl, hF g' p M2 (by show pb (brsF T n 5 [] g) _ = _; rw [hl, pb_l]) (FaiP_tr (chPs_P hfr) hfa)⟩)
          refine hT (kd, dp, o, l) y M2 (by show pb (brsF T n 5 [] g) _ = _; rw [hl, pb_r]) c2 (frP_tr hfr (frP_mono fr2 (fun i k hp => by unfold chSt at hp; unfold chPs; omega))) ?_ ⟨?_, ?_, ?_, b2⟩
          · rw [fr2 14 9 (by unfold chSt; omega)]; exact m14
          · rw [fr2 15 c (by unfold chSt; omega)]; exact m15
          · rw [fr2 17 c (by unfold chSt; omega)]; exact m17
          · rw [fr2 16 c (by unfold chSt; omega)]; exact m16
        refine ⟨fun ho => ?_, fun ho => ?_⟩
        · refine px_takeIf (k := 33) (by decide +kernel) c1 (fun hs M2 c2 m2 => rI_mk ⟨fun z => by omega, fun _ => ?_⟩) (fun hs => rI_mk ⟨fun _ => ?_, fun z => absurd rfl z⟩)
          · have hs' : stb T n h [46, 46] = true := hs
            rw [if_pos hs'] at hT
            rw [show sl 33 = 2 from rfl] at c2
            refine v_X6_readStep_154 hbd ?_
            simp only [Int.toNat_natCast]
            refine ⟨by omega, ?_⟩
            rintro _ rfl
            refine ⟨by omega, fun _ => ?_, fun z => absurd up2_eq z⟩
            refine hT (1, dp, none, []) (h + 2) _ rfl (CurP_fr c2 (funext fun k => up2_ne (by decide) k) (funext fun k => up2_ne (by decide) k)) (frP_tr (frP_tr f1 (frP_mvd m2 (fun k => Or.inl rfl))) (frP_up (by unfold chPs; omega))) ?_ ⟨up2_eq, ?_, ?_, BrsC_nil ?_⟩
            · rw [up2_ne (by decide), m2 14 (by decide)]; exact a14
            · rw [up2_ne (by decide), m2 17 (by decide)]; exact a17
            · rw [up2_ne (by decide), m2 16 (by decide)]; exact a16
            · rw [up2_ne (by decide), m2 18 (by decide)]; exact a18
          · have hs' : stb T n h [46, 46] = false := hs
            rw [if_neg (by rw [hs']; decide), if_pos ho] at hT hF
            refine v_X6_readStep_154 hbd ?_
            simp only [Int.toNat_natCast]
            refine ⟨by omega, ?_⟩
            rintro _ rfl
            refine ⟨by omega, fun z => ?_, fun _ => ?_⟩
            · rw [up2_eq] at z; exact absurd z (by decide)
            have c2 : CurP T n h (up2 M1 15 c 0) := CurP_fr c1 (funext fun k => up2_ne (by decide) k) (funext fun k => up2_ne (by decide) k)
            have f2 : frP (chPs c) MI (up2 M1 15 c 0) := frP_tr f1 (frP_up (by unfold chPs; omega))
            refine px_take1 (k := 34) (c := 46) (by decide +kernel) rfl c2 (fun w hw M3 c3 m3 => rI_mk ⟨fun z => by omega, fun _ => ?_⟩) (fun g' p hw M3 hfa => ?_)
            · unfold mbS at hw
              rw [if_pos ho] at hw
              cases hw
              refine hT (0, dp, none, []) (h + 1) _ rfl c3 (frP_tr f2 (frP_mvd m3 (fun k => Or.inl rfl))) ?_ ⟨?_, ?_, ?_, BrsC_nil ?_⟩
              · rw [m3 14 (by decide), up2_ne (by decide)]; exact a14
              · rw [m3 15 (by decide), up2_eq]
              · rw [m3 17 (by decide), up2_ne (by decide)]; exact a17
              · rw [m3 16 (by decide), up2_ne (by decide)]; exact a16
              · rw [m3 18 (by decide), up2_ne (by decide)]; exact a18
            · exfalso
              unfold mbS at hw
              rw [if_pos ho] at hw
              cases hw
        · have hdd : stb T n h [46, 46] = false := by
            cases hz : stb T n h [46, 46] with
            | false => rfl
            | true => exact absurd (stb_hd hz) ho
          refine px_takeIf (k := 35) (by decide +kernel) c1 (fun hs M2 c2 m2 => rI_mk ⟨fun z => by omega, fun _ => ?_⟩) (fun hs => rI_mk ⟨fun _ => ?_, fun z => absurd rfl z⟩)
          · rintro _ rfl
            rw [show sl 35 = 6 from rfl] at c2
            refine brk 2 none (h + 6) _ (CurP_fr c2 (funext fun k => up2_ne (by decide) k) (funext fun k => up2_ne (by decide) k)) (frP_tr (frP_tr f1 (frP_mvd m2 (fun k => Or.inl rfl))) (frP_up (by unfold chPs; omega))) ?_ up2_eq ?_ ?_ ?_ hdd ho ?_
            · rw [up2_ne (by decide), m2 14 (by decide)]; exact a14
            · rw [up2_ne (by decide), m2 17 (by decide)]; exact a17
            · rw [up2_ne (by decide), m2 18 (by decide)]; exact a18
            · rw [up2_ne (by decide), m2 16 (by decide)]; exact a16
            · unfold hdS; rw [if_pos (show stb T n h [116, 101, 120, 116, 40, 41] = true from hs)]
          · have htx : ¬ stb T n h [116, 101, 120, 116, 40, 41] = true := by
              intro w; rw [show sB 35 = [116, 101, 120, 116, 40, 41] from rfl] at hs; rw [hs] at w; cases w
            have nam : ∀ (kd g : Int) (M : Nat → Nat → Int), CurP T n g M → mvd M1 M → (hdS T n h = if ob T n g = 42 then .inr (kd, none, g + 1) else pb (nmS T n g) fun y => .inr (kd, some (nb T g y), y)) →
                wp cs mX6_readStep KD Q 230 [some (vR 14), some (vR (b + 1)), some (vI (if dp = true then 1 else 0)), some (vI (ob T n h)), some (vI (c : Nat))] [vI kd, vI (c : Nat), vR 15] (KD, M, ML, GR d e nw th 1) := by
              intro kd g M cM mM hhd
              refine v_X6_readStep_230 hbd ?_
              simp only [Int.toNat_natCast]
              refine ⟨by omega, ?_⟩
              rintro _ rfl
              have c2 : CurP T n g (up2 M 15 c kd) := CurP_fr cM (funext fun k => up2_ne (by decide) k) (funext fun k => up2_ne (by decide) k)
              have f2 : frP (chPs c) MI (up2 M 15 c kd) := frP_tr (frP_tr f1 (frP_mvd mM (fun k => Or.inl rfl))) (frP_up (by unfold chPs; omega))
              refine px_takeIf (k := 13) (by decide +kernel) c2 (fun hs2 M3 c3 m3 => rI_mk ⟨fun z => by omega, fun _ => ?_⟩) (fun hs2 => rI_mk ⟨fun _ => ?_, fun z => absurd rfl z⟩)
              · have ho2 : ob T n g = 42 := stb1.mp hs2
                rw [show sl 13 = 1 from rfl] at c3
                refine brk kd none (g + 1) M3 c3 (frP_tr f2 (frP_mvd m3 (fun k => Or.inl rfl))) ?_ ?_ ?_ ?_ ?_ hdd ho (by rw [hhd, if_pos ho2])
                · rw [m3 14 (by decide), up2_ne (by decide), mM 14 (by decide)]; exact a14
                · rw [m3 15 (by decide), up2_eq]
                · rw [m3 17 (by decide), up2_ne (by decide), mM 17 (by decide)]; exact a17
                · rw [m3 18 (by decide), up2_ne (by decide), mM 18 (by decide)]; exact a18
                · rw [m3 16 (by decide), up2_ne (by decide), mM 16 (by decide)]; exact a16
              · have ho2 : ob T n g ≠ 42 := fun z => by rw [show sB 13 = [42] from rfl, stb1.mpr z] at hs2; cases hs2
                rw [if_neg ho2] at hhd
                refine px_needName c2 (fun y hy M3 c3 m3 l3 => rI_mk ⟨fun z => by omega, fun _ => ?_⟩) (fun g' p hy M3 hfa => rI_mk ⟨fun _ => hF g' p M3 (by rw [if_neg (by rw [hdd]; decide), if_neg ho, hhd, hy, pb_l, pb_l]) (FaiP_tr (chPs_P f2) hfa), fun z => absurd rfl z⟩)
                have hok := nmS_ok hy
                rw [hy, pb_r] at hhd
                have hg0 := cM.2.2.2.2
                have f3 : frP (chPs c) MI M3 := frP_tr f2 (frP_mvd m3 (fun k => Or.inl rfl))
                refine px_find hbd c3 l3 (by omega) hn (NamC_P hbd hN (chPs_P f3)) (fun i hi => rI_mk ⟨by omega, ?_⟩)
                rintro _ rfl
                refine brk kd (some (nb T g y)) y _ (CurP_fr c3 (funext fun k => up2_ne (by decide) k) (funext fun k => up2_ne (by decide) k)) (frP_tr f3 (frP_up (by unfold chPs; omega))) ?_ ?_ ?_ ?_ ?_ hdd ho hhd
                · rw [up2_ne (by decide), m3 14 (by decide), up2_ne (by decide), mM 14 (by decide)]; exact a14
                · rw [up2_ne (by decide), m3 15 (by decide), up2_eq]
                · rw [up2_ne (by decide), m3 17 (by decide), up2_ne (by decide), mM 17 (by decide)]; exact a17
                · rw [up2_ne (by decide), m3 18 (by decide), up2_ne (by decide), mM 18 (by decide)]; exact a18
                · rw [up2_eq]; exact hi
            refine px_takeIf (k := 36) (by decide +kernel) c1 (fun hs3 M2 c2 m2 => rI_mk ⟨fun z => by omega, fun _ => ?_⟩) (fun hs3 => rI_mk ⟨fun _ => ?_, fun z => absurd rfl z⟩)
            · have ho3 : ob T n h = 64 := stb1.mp hs3
              rw [show sl 36 = 1 from rfl] at c2
              refine nam 3 (h + 1) M2 c2 m2 ?_
              unfold hdS
              rw [if_neg htx, if_pos ho3, if_pos ho3]
            · have ho3 : ob T n h ≠ 64 := fun z => by rw [show sB 36 = [64] from rfl, stb1.mpr z] at hs3; cases hs3
              refine nam 4 h M1 c1 (fun _ _ => rfl) ?_
              unfold hdS
              rw [if_neg htx, if_neg ho3, if_neg ho3]
      cases dp with
      | false => exact ⟨fun _ => main 0 (by decide), fun z => absurd rfl z⟩
      | true => exact ⟨fun z => absurd z (by decide), fun _ => main 1 (by decide)⟩
    · rw [if_pos (by omega)] at hF
      rw [h22]
      exact px_refuse (fun M2 hfa => rI_mk ⟨Or.inl rfl, hF _ _ M2 rfl hfa⟩)
  refine v_X6_readStep_0 hbd (px_peek hc (rI_mk ⟨fun z => go (Or.inl z), fun z1 => ⟨fun z => go (Or.inr (Or.inl z)), fun z2 => ⟨fun z => go (Or.inr (Or.inr (Or.inl z))), fun z3 => w_X1_startsName (rI_mk ⟨fun z => ?_, fun z => go (Or.inr (Or.inr (Or.inr (Decidable.byContradiction fun w => z (by rw [bI, if_neg w])))))⟩)⟩⟩⟩))
  have hns : ¬ isNs (ob T n h) := fun w => by rw [bI, if_pos w] at z; omega
  rw [h22]
  refine px_refuse (fun M2 hfa => rI_mk ⟨Or.inl rfl, hF _ _ M2 ?_ hfa⟩)
  unfold psS
  rw [if_neg (fun w => w.elim z1 (fun w => w.elim z2 (fun w => w.elim z3 hns)))]
end Pd03
