/-! The class's reading of a PATH. -/
def SpsC (N : List By) (T : Nat → Int) (n : Int) (l : List StM) (MI : Nat → Nat → Int) : Prop :=
  MI 14 9 = (l.length : Nat) ∧ l.length ≤ 12 ∧ ∀ (j : Nat) (s : StM), l[j]? = some s → StpC N T n j s MI
theorem StpC_fr {N : List By} {T : Nat → Int} {n : Int} {j : Nat} {s : StM} {A B : Nat → Nat → Int} (h : StpC N T n j s A) (h1 : ∀ i, 15 ≤ i → i ≤ 18 → B i j = A i j) (h2 : ∀ i k, 19 ≤ i → i ≤ 22 → 4 * j ≤ k → k < 4 * j + 4 → B i k = A i k) : StpC N T n j s B := by
  obtain ⟨a1, a2, a3, a4, a5, a6⟩ := h
  refine ⟨by rw [h1 15 (by decide) (by decide)]; exact a1, by rw [h1 17 (by decide) (by decide)]; exact a2, by rw [h1 16 (by decide) (by decide)]; exact a3, by rw [h1 18 (by decide) (by decide)]; exact a4, a5, fun t q hq => ?_⟩
  have ht := (List.getElem?_eq_some_iff.mp hq).1
  exact BrkC_fr (a6 t q hq) (fun i z1 z2 => h2 i _ z1 z2 (by omega) (by omega))
section Pd04
variable {cs : Cs} {Q : Option AV → Mm → Prop} {MI ML OI : Nat → Nat → Int} {b d e nw th : Nat} {T TD : Nat → Int} {n nD h : Int} {N : List By}
theorem c_parse_l {R : PR (List StM)} {v : Int} (hbd : b = 38 ∨ b = 81) (hn : nD ≤ 6000) (hN : NamC b TD nD N OI)
    (hT : ∀ l y MI', R = .inr l → CurP T n y MI' → frP chP OI MI' → SpsC N T n l MI' → MI' 14 10 = v → Q (some (vI 1)) (MI', ML, GR d e nw th 1))
    (hF : ∀ g' p MI', R = .inl (g', p) → FaiP OI g' p MI' → Q (some (vI 0)) (MI', ML, GR d e nw th 1)) :
    ∀ (k : Nat) (l : List StM) (dp : Bool) (h : Int) (MI : Nat → Nat → Int), k + l.length = 13 → CurP T n h MI → frP chP OI MI → SpsC N T n l MI → MI 14 10 = v → R = paF T n k l dp h →
    wp cs mX6_parse KD Q 66 [some (vR 14), some (vR (b + 1)), some (vI (if dp = true then 1 else 0)), some (vI (l.length : Nat))] [] (KD, MI, ML, GR d e nw th 1) := by
  intro k
  induction k with
  | zero => intro l dp h MI hk hc hfr hS; have := hS.2.1; omega
  | succ k ih =>
    intro l dp h MI hk hc hfr hS hv heq
    have h12 := hS.2.1
    rw [paF] at heq
    refine v_X6_parse_66 hbd ⟨fun z => by omega, fun _ => ?_⟩
    refine c_readStep hbd hn (NamC_P hbd hN hfr) hc hS.1 (fun s y M1 hs c1 f1 e1 s1 => rI_mk ⟨fun z => by omega, fun _ => ?_⟩) (fun g' p M1 hs hfa => rI_mk ⟨fun _ => hF g' p M1 (by rw [heq, hs, pb_l]) (FaiP_tr hfr hfa), fun z => absurd rfl z⟩)
    have hlt : l.length < 12 := by
      refine Decidable.byContradiction fun w => ?_
      unfold psS at hs
      split at hs
      · rw [if_pos (by omega)] at hs; cases hs
      · cases hs
    rw [hs, pb_r] at heq
    replace heq : R = if ob T n y = -1 then .inr (l ++ [s]) else if stb T n y [47, 47] = true then paF T n k (l ++ [s]) true (y + 2) else pb (mbS T n y 47) fun y => paF T n k (l ++ [s]) false y := heq
    have fr1 : frP chP OI M1 := frP_tr hfr (chPs_P f1)
    have el : ((l.length : Nat) : Int) + 1 = (((l ++ [s]).length : Nat) : Int) := by simp
    have S1 : SpsC N T n (l ++ [s]) M1 := by
      refine ⟨by rw [e1]; simp, by simp; omega, fun j s' hs' => ?_⟩
      by_cases hj : j < l.length
      · rw [List.getElem?_append_left hj] at hs'
        exact StpC_fr (hS.2.2 j s' hs') (fun i z1 z2 => f1 i j (by unfold chPs; omega)) (fun i k z1 z2 z3 z4 => f1 i k (by unfold chPs; omega))
      · have ht2 := (List.getElem?_eq_some_iff.mp hs').1
        simp only [List.length_append, List.length_singleton] at ht2
        have ht3 : j = l.length := by omega
        subst ht3
        rw [List.getElem?_append_right (Nat.le_refl _)] at hs'
        simp at hs'
        subst hs'
        exact s1
    have mvS : ∀ {M2 : Nat → Nat → Int}, mvd M1 M2 → SpsC N T n (l ++ [s]) M2 := fun m2 => by
      refine ⟨by rw [m2 14 (by decide)]; exact S1.1, S1.2.1, fun j s' hs' => StpC_fr (S1.2.2 j s' hs') (fun i z1 z2 => by rw [m2 i (by omega)]) (fun i k z1 z2 z3 z4 => by rw [m2 i (by omega)])⟩
    have v1 : M1 14 10 = v := by rw [f1 14 10 (by unfold chPs; omega)]; exact hv
    refine px_peek c1 (rI_mk ⟨fun ho => ?_, fun ho => ?_⟩)
    · rw [if_pos ho] at heq
      exact hT _ y M1 heq c1 fr1 S1 v1
    · rw [if_neg ho] at heq
      refine px_takeIf (k := 31) (by decide +kernel) c1 (fun hs2 M2 c2 m2 => rI_mk ⟨fun z => by omega, fun _ => ?_⟩) (fun hs2 => rI_mk ⟨fun _ => ?_, fun z => absurd rfl z⟩)
      · have hs2' : stb T n y [47, 47] = true := hs2
        rw [if_pos hs2'] at heq
        rw [show sl 31 = 2 from rfl] at c2
        rw [el]
        exact ⟨by omega, ih (l ++ [s]) true (y + 2) M2 (by simp; omega) c2 (frP_tr fr1 (frP_mvd m2 (fun k => Or.inl rfl))) (mvS m2) (by rw [m2 14 (by decide)]; exact v1) heq⟩
      · have hs2' : stb T n y [47, 47] = false := hs2
        rw [if_neg (by rw [hs2']; decide)] at heq
        refine px_take1 (k := 32) (c := 47) (by decide +kernel) rfl c1 (fun w hw M2 c2 m2 => rI_mk ⟨fun z => by omega, fun _ => ?_⟩) (fun g' p hw M2 hfa => rI_mk ⟨fun _ => hF g' p M2 (by rw [heq, hw, pb_l]) (FaiP_tr fr1 hfa), fun z => absurd rfl z⟩)
        rw [hw, pb_r] at heq
        rw [el]
        exact ⟨by omega, ih (l ++ [s]) false w M2 (by simp; omega) c2 (frP_tr fr1 (frP_mvd m2 (fun k => Or.inl rfl))) (mvS m2) (by rw [m2 14 (by decide)]; exact v1) heq⟩
theorem c_parse (hbd : b = 38 ∨ b = 81) (hn : nD ≤ 6000) (hN : NamC b TD nD N MI) (hc : CurP T n 0 MI)
    (hT : ∀ fr l y MI', paS T n = .inr (fr, l) → CurP T n y MI' → frP chP MI MI' → SpsC N T n l MI' → MI' 14 10 = (if fr = true then 1 else 0) → Q (some (vI 1)) (MI', ML, GR d e nw th 1))
    (hF : ∀ g' p MI', paS T n = .inl (g', p) → FaiP MI g' p MI' → Q (some (vI 0)) (MI', ML, GR d e nw th 1)) :
    wp cs mX6_parse KD Q 0 (padL [vR 14, vR (b + 1)] 4) [] (KD, MI, ML, GR d e nw th 1) := by
  refine v_X6_parse_0 hbd ?_
  rintro _ rfl
  have c1 : CurP T n 0 (up2 MI 14 9 0) := CurP_fr hc (funext fun k => up2_ne (by decide) k) (funext fun k => up2_ne (by decide) k)
  have f1 : frP chP MI (up2 MI 14 9 0) := frP_up (by unfold chP; omega)
  have S1 : ∀ {M : Nat → Nat → Int}, M 14 9 = 0 → SpsC N T n [] M := fun h => ⟨h, by decide, fun j s hs => by simp at hs⟩
  -- the STEPS
  have go : ∀ (s0 : Int) (fr dp : Bool) (h : Int) (M : Nat → Nat → Int), s0 = (if fr = true then 1 else 0) → CurP T n h M → mvd (up2 MI 14 9 0) M → (dp = true → fr = true) →
      paS T n = (if fr = true ∧ dp = false ∧ ob T n h = -1 then .inr (true, []) else pb (paF T n 13 [] dp h) fun l => .inr (fr, l)) →
      wp cs mX6_parse KD Q 37 [some (vR 14), some (vR (b + 1)), some (vI (if dp = true then 1 else 0)), none] [vI s0, vR 14] (KD, M, ML, GR d e nw th 1) := by
    intro s0 fr dp h M hs0 hcM hm hdf heq
    refine v_X6_parse_37 hbd ⟨by rw [hs0]; split <;> simp, ?_⟩
    rintro _ rfl
    have c2 : CurP T n h (up2 M 14 10 s0) := CurP_fr hcM (funext fun k => up2_ne (by decide) k) (funext fun k => up2_ne (by decide) k)
    have f2 : frP chP MI (up2 M 14 10 s0) := frP_tr (frP_tr f1 (frP_mvd hm (fun k => Or.inl rfl))) (frP_up (by unfold chP; omega))
    have e9 : up2 M 14 10 s0 14 9 = 0 := by rw [up2_nk (by decide), hm 14 (by decide), up2_eq]
    have rest : ¬ (fr = true ∧ dp = false ∧ ob T n h = -1) → wp cs mX6_parse KD Q 66 [some (vR 14), some (vR (b + 1)), some (vI (if dp = true then 1 else 0)), some (vI 0)] [] (KD, up2 M 14 10 s0, ML, GR d e nw th 1) := by
      intro hno
      rw [if_neg hno] at heq
      exact c_parse_l (OI := MI) (R := paF T n 13 [] dp h) (v := s0) hbd hn hN (fun l y M' hl c f S v => hT fr l y M' (by rw [heq, hl, pb_r]) c f S (by rw [v, hs0])) (fun g' p M' hl hfa => hF g' p M' (by rw [heq, hl, pb_l]) hfa) 13 [] dp h _ rfl c2 f2 (S1 e9) up2_eq rfl
    rw [up2_eq]
    refine ⟨fun z => rest (fun w => by rw [hs0, if_pos w.1] at z; exact absurd z (by decide)), fun z => ⟨fun z2 => ?_, fun z2 => rest (fun w => z2 (by rw [w.2.1]; rfl))⟩⟩
    have hfr : fr = true := by
      cases fr with
      | true => rfl
      | false => rw [hs0] at z; exact absurd rfl z
    have hdp : dp = false := by
      cases dp with
      | false => rfl
      | true => exact absurd z2 (by decide)
    refine px_peek c2 (rI_mk ⟨fun ho => ?_, fun ho => rest (fun w => ho w.2.2)⟩)
    rw [if_pos ⟨hfr, hdp, ho⟩] at heq
    exact hT true [] h _ heq c2 f2 (S1 e9) (by rw [up2_eq, hs0, hfr])
  refine px_takeIf (k := 31) (by decide +kernel) c1 (fun hs M2 c2 m2 => rI_mk ⟨fun z => by omega, fun _ => ?_⟩) (fun hs => rI_mk ⟨fun _ => ?_, fun z => absurd rfl z⟩)
  · rw [show (0 : Int) + sl 31 = 2 from rfl] at c2
    refine go 1 true true 2 M2 rfl c2 m2 (fun _ => rfl) ?_
    unfold paS
    rw [if_pos (show stb T n 0 [47, 47] = true from hs), if_neg (fun w => absurd w.2.1 (by decide))]
  · have hs' : ¬ stb T n 0 [47, 47] = true := by
      intro w; rw [show sB 31 = [47, 47] from rfl] at hs; rw [hs] at w; cases w
    refine px_takeIf (k := 32) (by decide +kernel) c1 (fun hs2 M2 c2 m2 => rI_mk ⟨fun z => by omega, fun _ => ?_⟩) (fun hs2 => rI_mk ⟨fun _ => ?_, fun z => absurd rfl z⟩)
    · have ho : ob T n 0 = 47 := stb1.mp hs2
      rw [show (0 : Int) + sl 32 = 1 from rfl] at c2
      refine go 1 true false 1 M2 rfl c2 m2 (fun _ => rfl) ?_
      unfold paS
      rw [if_neg hs', if_pos ho]
      by_cases ho1 : ob T n 1 = -1
      · rw [if_pos ho1, if_pos ⟨rfl, rfl, ho1⟩]
      · rw [if_neg ho1, if_neg (fun w => ho1 w.2.2)]
    · have ho : ob T n 0 ≠ 47 := fun z => by rw [show sB 32 = [47] from rfl, stb1.mpr z] at hs2; cases hs2
      refine go 0 false false 0 _ rfl c1 (fun _ _ => rfl) (fun z => absurd z (by decide)) ?_
      unfold paS
      rw [if_neg hs', if_neg ho, if_neg (fun w => absurd w.1 (by decide))]
end Pd04
