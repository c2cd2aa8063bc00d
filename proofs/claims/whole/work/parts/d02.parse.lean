/-! The class's reading of a PATH: brackets, STEPS. -/
def nmO (N : List By) (i : Int) : Option By → Prop
  | none => i = -2
  | some x => isId N i x ∨ (x ∉ N ∧ i = -1)
def quO (T : Nat → Int) (n : Int) (f : Nat) (o : Option By) (MI : Nat → Nat → Int) : Prop := match o with
  | none => MI 22 f = -1
  | some v => slc T n (MI 21 f) (MI 22 f) v
def BrkC (N : List By) (T : Nat → Int) (n : Int) (f : Nat) (q : BrM) (MI : Nat → Nat → Int) : Prop :=
  MI 19 f = q.1 ∧ (q.1 = 0 → MI 20 f = q.2.1) ∧ (3 ≤ q.1 → nmO N (MI 20 f) (some q.2.2.1)) ∧ quO T n f q.2.2.2 MI
def chB (f i k : Nat) : Prop := i = 2 ∨ ((19 ≤ i ∧ i ≤ 22) ∧ k = f)
section Pd02
variable {cs : Cs} {Q : Option AV → Mm → Prop} {MI ML OI : Nat → Nat → Int} {b d e nw th : Nat} {T TD : Nat → Int} {n nD h : Int} {N : List By}
theorem NamC_P {MI' : Nat → Nat → Int} (hbd : b = 38 ∨ b = 81) (hN : NamC b TD nD N MI) (hf : frP chP MI MI') : NamC b TD nD N MI' :=
  NamC_fr hN (fun i h1 h2 => frP_row hf (fun k z => by unfold chP at z; omega))
theorem chB_P {f : Nat} {A B : Nat → Nat → Int} (hfr : frP (chB f) A B) : frP chP A B := frP_mono hfr (fun i k hp => by unfold chB at hp; unfold chP; omega)
theorem px_find {g y : Int} (hbd : b = 38 ∨ b = 81) (hc : CurP T n y MI) (hl : lastN MI g (y - g)) (hg : 0 ≤ g ∧ g ≤ y) (hn : nD ≤ 6000) (hN : NamC b TD nD N MI) (hQ : ∀ i, nmO N i (some (nb T g y)) → Q (some (vI i)) (MI, ML, GR d e nw th 1)) :
    wp cs mX5_find KD Q 0 (padL [vR (b + 1), vR 2] 4) [] (KD, MI, ML, GR d e nw th 1) := by
  have hsl : slc (MI 1) n (MI 2 3) (MI 2 4) (nb T g y) := by
    rw [hl.1, hl.2, hc.1]; exact slc_nb hg.1 hg.2 hc.2.2.2.2.2
  exact c_find hbd hsl hc.2.2.1.2.1 hn hN (fun i hi => hQ i (Or.inl hi)) (fun hx => hQ (-1) (Or.inr ⟨hx, rfl⟩))
theorem c_readBracket {f : Nat} (hbd : b = 38 ∨ b = 81) (hf : f < 48) (hc : CurP T n h MI) (hn : nD ≤ 6000) (hN : NamC b TD nD N MI)
    (hT : ∀ q y MI', brS T n h = .inr (q, y) → CurP T n y MI' → frP (chB f) MI MI' → BrkC N T n f q MI' → Q (some (vI 1)) (MI', ML, GR d e nw th 1))
    (hF : ∀ g' p MI', brS T n h = .inl (g', p) → FaiP MI g' p MI' → Q (some (vI 0)) (MI', ML, GR d e nw th 1)) :
    wp cs mX6_readBracket KD Q 0 (padL [vR 14, vR (b + 1), vI (f : Nat)] 3) [] (KD, MI, ML, GR d e nw th 1) := by
  have q2b : ∀ {A B : Nat → Nat → Int}, frP (chQ_ f) A B → frP (chB f) A B := fun z => frP_mono z (fun i k hp => by unfold chQ_ at hp; unfold chB; omega)
  have m2b : ∀ {A B : Nat → Nat → Int}, mvd A B → frP (chB f) A B := fun z => frP_mvd z (fun k => Or.inl rfl)
  have go : ∀ (s g : Int) (M : Nat → Nat → Int), CurP T n g M → frP (chB f) MI M → M 22 f = -1 → 3 ≤ s → (brS T n h = pb (nmS T n g) fun y => if ob T n y = 61 then pb (quS T n (y + 1)) fun q => .inr ((s, 0, nb T g y, some q.1), q.2) else .inr ((s, 0, nb T g y, none), y)) →
      wp cs mX6_readBracket KD Q 114 [some (vR 14), some (vR (b + 1)), some (vI (f : Nat))] [vI s, vI (f : Nat), vR 19] (KD, M, ML, GR d e nw th 1) := by
    intro s g M hcM hfr h22 hs heq
    refine v_X6_readBracket_114 hbd ?_
    simp only [Int.toNat_natCast]
    refine ⟨by omega, ?_⟩
    rintro _ rfl
    have c1 : CurP T n g (up2 M 19 f s) := CurP_fr hcM (funext fun k => up2_ne (by decide) k) (funext fun k => up2_ne (by decide) k)
    have f1 : frP (chB f) MI (up2 M 19 f s) := frP_tr hfr (frP_up (by unfold chB; omega))
    have hg0 := hcM.2.2.2.2
    refine px_needName c1 (fun y hy M2 c2 m2 l2 => rI_mk ⟨fun z => by omega, fun _ => ?_⟩) (fun g' p hy M2 hfa => rI_mk ⟨fun _ => hF g' p M2 (by rw [heq, hy, pb_l]) (FaiP_tr (chB_P f1) hfa), fun z => absurd rfl z⟩)
    have hok := nmS_ok hy
    rw [hy, pb_r] at heq
    have f2 : frP (chB f) MI M2 := frP_tr f1 (m2b m2)
    refine px_find hbd c2 l2 (by omega) hn (NamC_P hbd hN (chB_P f2)) (fun i hi => rI_mk ⟨by omega, ?_⟩)
    rintro _ rfl
    have c3 : CurP T n y (up2 M2 20 f i) := CurP_fr c2 (funext fun k => up2_ne (by decide) k) (funext fun k => up2_ne (by decide) k)
    have f3 : frP (chB f) MI (up2 M2 20 f i) := frP_tr f2 (frP_up (by unfold chB; omega))
    have e19 : up2 M2 20 f i 19 f = s := by rw [up2_ne (by decide), m2 19 (by decide), up2_eq]
    have e22 : up2 M2 20 f i 22 f = -1 := by rw [up2_ne (by decide), m2 22 (by decide), up2_ne (by decide)]; exact h22
    refine px_takeIf (k := 28) (by decide +kernel) c3 (fun hs1 M4 c4 m4 => rI_mk ⟨fun z => by omega, fun _ => ?_⟩) (fun hs1 => rI_mk ⟨fun _ => ?_, fun z => absurd rfl z⟩)
    · have ho : ob T n y = 61 := stb1.mp hs1
      rw [if_pos ho] at heq
      rw [show sl 28 = 1 from rfl] at c4
      have f4 : frP (chB f) MI M4 := frP_tr f3 (m2b m4)
      refine c_readQuoted hf c4 (fun v w M5 hv c5 fr5 s5 => rI_mk ⟨fun z => by omega, fun _ => ?_⟩) (fun g' p M5 hv hfa => rI_mk ⟨fun _ => hF g' p M5 (by rw [heq, hv, pb_l]) (FaiP_tr (chB_P f4) hfa), fun z => absurd rfl z⟩)
      refine hT (s, 0, nb T g y, some v) w M5 (by rw [heq, hv, pb_r]) c5 (frP_tr f4 (q2b fr5)) ⟨?_, fun z => ?_, fun _ => ?_, s5⟩
      · rw [fr5 19 f (by unfold chQ_; omega), m4 19 (by decide)]; exact e19
      · exfalso; have z' : s = 0 := z; omega
      · rw [fr5 20 f (by unfold chQ_; omega), m4 20 (by decide), up2_eq]; exact hi
    · have ho : ob T n y ≠ 61 := fun z => by rw [show sB 28 = [61] from rfl, stb1.mpr z] at hs1; cases hs1
      rw [if_neg ho] at heq
      refine hT _ _ _ heq c3 f3 ⟨e19, fun z => ?_, fun _ => ?_, e22⟩
      · exfalso; have z' : s = 0 := z; omega
      · rw [up2_eq]; exact hi
  refine v_X6_readBracket_0 hbd ?_
  simp only [Int.toNat_natCast]
  refine ⟨by omega, ?_⟩
  rintro _ rfl _ rfl
  have c1 : CurP T n h (up2 (up2 MI 22 f (-1)) 20 f 0) := CurP_fr hc (funext fun k => by rw [up2_ne (by decide), up2_ne (by decide)]) (funext fun k => by rw [up2_ne (by decide), up2_ne (by decide)])
  have f1 : frP (chB f) MI (up2 (up2 MI 22 f (-1)) 20 f 0) := frP_tr (frP_up (by unfold chB; omega)) (frP_up (by unfold chB; omega))
  have e22 : up2 (up2 MI 22 f (-1)) 20 f 0 22 f = -1 := by rw [up2_ne (by decide), up2_eq]
  obtain ⟨M1, hM1⟩ : ∃ M1, M1 = up2 (up2 MI 22 f (-1)) 20 f 0 := ⟨_, rfl⟩
  rw [← hM1] at c1 f1 e22 ⊢
  refine px_peek c1 (rI_mk (w_X1_isDigit (rI_mk ⟨fun z => ?_, fun z => ?_⟩)))
  · have hd : ¬ isDg (ob T n h) := fun w => by rw [bI, if_pos w] at z; omega
    unfold brS at hT hF go
    rw [if_neg hd] at hT hF go
    refine px_takeIf (k := 37) (by decide +kernel) c1 (fun hs1 M2 c2 m2 => rI_mk ⟨fun z => by omega, fun _ => ?_⟩) (fun hs1 => rI_mk ⟨fun _ => ?_, fun z => absurd rfl z⟩)
    · rintro _ rfl
      rw [if_pos (show stb T n h [108, 97, 115, 116, 40, 41] = true from hs1)] at hT
      refine hT _ _ _ rfl (CurP_fr c2 (funext fun k => up2_ne (by decide) k) (funext fun k => up2_ne (by decide) k)) (frP_tr (frP_tr f1 (m2b m2)) (frP_up (by unfold chB; omega))) ⟨up2_eq, fun z => ?_, fun z => ?_, ?_⟩
      · exfalso; exact absurd (show (1 : Int) = 0 from z) (by decide)
      · exfalso; exact absurd (show (3 : Int) ≤ 1 from z) (by decide)
      · show up2 M2 19 f 1 22 f = -1
        rw [up2_ne (by decide), m2 22 (by decide)]; exact e22
    · have h37 : ¬ stb T n h [108, 97, 115, 116, 40, 41] = true := by
        intro w; rw [show sB 37 = [108, 97, 115, 116, 40, 41] from rfl] at hs1; rw [hs1] at w; cases w
      rw [if_neg h37] at hT hF go
      refine px_takeIf (k := 38) (by decide +kernel) c1 (fun hs2 M2 c2 m2 => rI_mk ⟨fun z => by omega, fun _ => ?_⟩) (fun hs2 => rI_mk ⟨fun _ => ?_, fun z => absurd rfl z⟩)
      · rintro _ rfl
        have h38 : stb T n h [46, 61] = true := hs2
        rw [if_pos h38] at hT hF
        rw [show sl 38 = 2 from rfl] at c2
        have c3 : CurP T n (h + 2) (up2 M2 19 f 2) := CurP_fr c2 (funext fun k => up2_ne (by decide) k) (funext fun k => up2_ne (by decide) k)
        have f3 : frP (chB f) MI (up2 M2 19 f 2) := frP_tr (frP_tr f1 (m2b m2)) (frP_up (by unfold chB; omega))
        refine c_readQuoted hf c3 (fun v w M5 hv c5 fr5 s5 => rI_mk ⟨Or.inr rfl, ?_⟩) (fun g' p M5 hv hfa => rI_mk ⟨Or.inl rfl, hF g' p M5 (by rw [hv, pb_l]) (FaiP_tr (chB_P f3) hfa)⟩)
        refine hT (2, 0, [], some v) w M5 (by rw [hv, pb_r]) c5 (frP_tr f3 (q2b fr5)) ⟨?_, fun z => ?_, fun z => ?_, s5⟩
        · rw [fr5 19 f (by unfold chQ_; omega)]; exact up2_eq
        · exfalso; exact absurd (show (2 : Int) = 0 from z) (by decide)
        · exfalso; exact absurd (show (3 : Int) ≤ 2 from z) (by decide)
      · have h38 : ¬ stb T n h [46, 61] = true := by
          intro w; rw [show sB 38 = [46, 61] from rfl] at hs2; rw [hs2] at w; cases w
        rw [if_neg h38] at hT hF go
        refine px_takeIf (k := 36) (by decide +kernel) c1 (fun hs3 M2 c2 m2 => rI_mk ⟨fun z => by omega, fun _ => ?_⟩) (fun hs3 => rI_mk ⟨fun _ => ?_, fun z => absurd rfl z⟩)
        · have ho : ob T n h = 64 := stb1.mp hs3
          rw [show sl 36 = 1 from rfl] at c2
          rw [if_pos ho, if_pos ho] at hT hF go
          exact go 3 (h + 1) M2 c2 (frP_tr f1 (m2b m2)) (by rw [m2 22 (by decide)]; exact e22) (by decide) rfl
        · have ho : ob T n h ≠ 64 := fun z => by rw [show sB 36 = [64] from rfl, stb1.mpr z] at hs3; cases hs3
          rw [if_neg ho, if_neg ho] at hT hF go
          exact go 4 h M1 c1 f1 e22 (by decide) rfl
  · have hd : isDg (ob T n h) := Decidable.byContradiction fun w => z (by rw [bI, if_neg w])
    rintro _ rfl
    have c2 : CurP T n h (up2 M1 19 f 0) := CurP_fr c1 (funext fun k => up2_ne (by decide) k) (funext fun k => up2_ne (by decide) k)
    refine c_takeNumber c2 (fun M3 c3 m3 => rI_mk ?_)
    rintro _ rfl
    unfold brS at hT
    rw [if_pos hd] at hT
    refine hT _ _ _ rfl (CurP_fr c3 (funext fun k => up2_ne (by decide) k) (funext fun k => up2_ne (by decide) k)) (frP_tr (frP_tr f1 (frP_up (by unfold chB; omega))) (frP_tr (m2b m3) (frP_up (by unfold chB; omega)))) ⟨?_, fun z => up2_eq, fun z => ?_, ?_⟩
    · rw [up2_ne (by decide), m3 19 (by decide), up2_eq]
    · exfalso; exact absurd (show (3 : Int) ≤ 0 from z) (by decide)
    · show up2 M3 20 f _ 22 f = -1
      rw [up2_ne (by decide), m3 22 (by decide), up2_ne (by decide)]; exact e22
end Pd02
