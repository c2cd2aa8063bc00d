def GrA (MI ML : Nat → Nat → Int) (hb : Int) (i : Nat) (g : Gp) : Prop := MI 5 i = g.1 ∧ (MI 6 i = 0 ↔ g.2.1 = false) ∧ (0 ≤ MI 6 i ∧ MI 6 i ≤ hb) ∧ MI 9 i = g.2.2.1 ∧ (g.2.2.1 = 0 ∨ g.2.2.1 = 1) ∧ ML 7 i = g.2.2.2.1 ∧ ML 8 i = g.2.2.2.2 ∧ (g.2.1 = false → g.2.2 = (0, 0, 0))
def GrF (MI ML : Nat → Nat → Int) (hb : Int) : List Gp → Prop
  | [] => True
  | g :: t => GrA MI ML hb t.length g ∧ GrF MI ML hb t
def PtC (q : Pt) (MI ML : Nat → Nat → Int) : Prop := MI 4 9 = q.1 ∧ (q.1 = 0 ∨ q.1 = 1) ∧ ML 4 7 = q.2.1 ∧ ML 4 8 = q.2.2
theorem GrA_fr {MI ML MI' ML' : Nat → Nat → Int} {hb hb' : Int} {i : Nat} {g : Gp} (h : GrA MI ML hb i g) (e5 : MI' 5 i = MI 5 i) (e6 : MI' 6 i = MI 6 i) (e9 : MI' 9 i = MI 9 i) (f7 : ML' 7 i = ML 7 i) (f8 : ML' 8 i = ML 8 i) (hh : hb ≤ hb') : GrA MI' ML' hb' i g := by
  obtain ⟨a1, a2, a3, a4, a5, a6, a7, a8⟩ := h
  exact ⟨by rw [e5]; exact a1, by rw [e6]; exact a2, by rw [e6]; omega, by rw [e9]; exact a4, a5, by rw [f7]; exact a6, by rw [f8]; exact a7, a8⟩
theorem GrF_fr {MI ML MI' ML' : Nat → Nat → Int} {hb hb' : Int} : ∀ {gs : List Gp}, GrF MI ML hb gs → (∀ i, i < gs.length → MI' 5 i = MI 5 i ∧ MI' 6 i = MI 6 i ∧ MI' 9 i = MI 9 i ∧ ML' 7 i = ML 7 i ∧ ML' 8 i = ML 8 i) → hb ≤ hb' → GrF MI' ML' hb' gs
  | [], _, _, _ => trivial
  | g :: t, h, e, hh => by
    have := e t.length (by simp)
    exact ⟨GrA_fr h.1 this.1 this.2.1 this.2.2.1 this.2.2.2.1 this.2.2.2.2 hh, GrF_fr h.2 (fun i hi => e i (by simp only [List.length_cons]; omega)) hh⟩
theorem up2_id {f : Nat → Nat → Int} {a k : Nat} : up2 f a k (f a k) = f := by
  funext i j; unfold up2; split
  · next h => rw [h.1, h.2]
  · rfl
theorem ib_and {x y : Int} (hx : x = 0 ∨ x = 1) (hy : y = 0 ∨ y = 1) : i_2b (i_and x y) = if x = 0 ∨ y = 0 then 0 else 1 := by
  rcases hx with rfl | rfl <;> rcases hy with rfl | rfl <;> decide
theorem ib_or {x y : Int} (hx : x = 0 ∨ x = 1) (hy : y = 0 ∨ y = 1) : i_2b (i_or x y) = if x = 0 ∧ y = 0 then 0 else 1 := by
  rcases hx with rfl | rfl <;> rcases hy with rfl | rfl <;> decide
section P67
variable {cs : Cs} {Q : Option AV → Mm → Prop} {MI ML MI' ML' OI OL : Nat → Nat → Int} {b d e nw th x : Nat} {T : Nat → Int} {n h hb : Int} {N : List By} {pl : Nat} {o : Option By} {ds : List Dc} {q : Dc} {rs : List Rl} {ns : List Nd} {op : List Int} {dp : Int}
/-- only the SPECS and the declarations' own cells have changed -/
def dfr (b : Nat) (MI ML MI' ML' : Nat → Nat → Int) : Prop := ∀ j, ¬ (j = 2 ∨ (4 ≤ j ∧ j ≤ 9) ∨ (b + 9 ≤ j ∧ j ≤ b + 19)) → MI' j = MI j ∧ ML' j = ML j
theorem IdxC_q {q' : Dc} (hq : q'.1 = q.1) (h : IdxC b N (ds ++ [q]) rs MI) : IdxC b N (ds ++ [q']) rs MI := by
  intro k y hy
  have := h k y hy
  have e : clN y q' = clN y q := by simp only [clN, hq]
  rw [fIdx_app] at this ⊢
  rw [e]; exact this
theorem DocC_spc (hbd : b = 38 ∨ b = 81) {q' : Dc} (hq : q'.1 = q.1) (hD : DocC b T n N pl (o, ds ++ [q], rs) ns op dp MI ML) (hS : SpcC b N (ds ++ [q']) MI' ML') (hf : dfr b MI ML MI' ML') : DocC b T n N pl (o, ds ++ [q'], rs) ns op dp MI' ML' := by
  have hI : ∀ j, b ≤ j → ¬ (b + 9 ≤ j ∧ j ≤ b + 19) → MI' j = MI j := fun j h1 h2 => (hf j (by omega)).1
  have eb : MI' b = MI b := hI b (by omega) (by omega)
  refine ⟨NamC_fr hD.1 (fun i h1 h2 => hI i (by omega) (by omega)), IdxC_fr (IdxC_q hq hD.2.1) (fun i h1 h2 => hI i (by omega) (by omega)), hS, RulC_fr hD.2.2.2.1 (fun i h1 h2 => hI i (by omega) (by omega)) (hI _ (by omega) (by omega)) (by rw [eb]), NodC_fr hD.2.2.2.2.1 (fun i h1 h2 => hI i (by omega) (by omega)) (by rw [eb]) (by rw [eb]) (by rw [eb]), DtC_fr hD.2.2.2.2.2.1 (by rw [eb]), ?_, ?_⟩
  · rw [eb]; exact hD.2.2.2.2.2.2.1
  · rw [eb]; exact hD.2.2.2.2.2.2.2
/-- behind the join: MI', ML' -/
def jnI (MI : Nat → Nat → Int) (i : Nat) (v : Int) : Nat → Nat → Int := up2 (up2 MI 9 i v) 6 i (MI 6 i + 1)
def jnL (ML : Nat → Nat → Int) (i : Nat) (f l : Int) : Nat → Nat → Int := up2 (up2 ML 7 i f) 8 i l
theorem j_183 (hbd : b = 38 ∨ b = 81) {s l4 l5 : Int} {i : Nat} (hi : i < 6) (h6 : 0 ≤ MI 6 i ∧ MI 6 i < 1000000) (hQ : Q none (up2 MI 6 i (MI 6 i + 1), ML, GR d e nw th 1)) :
    wp cs mX2_joinPart KD Q 183 [some (vR 4), some (vR (b + 9)), some (vI s), some (vI (i : Nat)), some (vI l4), some (vI l5)] [] (KD, MI, ML, GR d e nw th 1) := by
  refine v_X2_joinPart_183 hbd ⟨by omega, ?_⟩
  simp only [Int.toNat_natCast]
  exact ⟨by omega, fun m e => e ▸ hQ⟩
theorem j_129 (hbd : b = 38 ∨ b = 81) {s l4 l5 : Int} {i : Nat} (hi : i < 6) (h6 : 0 ≤ MI 6 i ∧ MI 6 i < 1000000) (h9 : MI 9 i = 0 ∨ MI 9 i = 1) (h49 : MI 4 9 = 0 ∨ MI 4 9 = 1)
    (hQ : Q none (jnI MI i (if l4 = 0 then (if l5 = 0 then (if MI 9 i = 0 ∨ MI 4 9 = 0 then 0 else 1) else (if MI 9 i = 0 ∧ MI 4 9 = 0 then 0 else 1)) else MI 4 9), ML, GR d e nw th 1)) :
    wp cs mX2_joinPart KD Q 129 [some (vR 4), some (vR (b + 9)), some (vI s), some (vI (i : Nat)), some (vI l4), some (vI l5)] [] (KD, MI, ML, GR d e nw th 1) := by
  have e6 : ∀ v, up2 MI 9 i v 6 i = MI 6 i := fun v => up2_ne (by decide) i
  refine v_X2_joinPart_129 hbd ⟨fun a => ⟨fun c => ⟨by omega, ?_⟩, fun c => ⟨by omega, ?_⟩⟩, fun a => ⟨by omega, by omega, ?_⟩⟩
  · simp only [Int.toNat_natCast]
    rintro m rfl
    refine j_183 hbd hi (by rw [e6]; exact h6) ?_
    rw [e6, ib_and h9 h49]
    rw [if_pos a, if_pos c] at hQ; exact hQ
  · simp only [Int.toNat_natCast]
    rintro m rfl
    refine j_183 hbd hi (by rw [e6]; exact h6) ?_
    rw [e6, ib_or h9 h49]
    rw [if_pos a, if_neg c] at hQ; exact hQ
  · simp only [Int.toNat_natCast]
    rintro m rfl
    refine j_183 hbd hi (by rw [e6]; exact h6) ?_
    rw [e6]
    rw [if_neg a] at hQ; exact hQ
theorem j_91 (hbd : b = 38 ∨ b = 81) {s l4 l5 : Int} {i : Nat} (hi : i < 6) (h6 : 0 ≤ MI 6 i ∧ MI 6 i < 1000000) (h9 : MI 9 i = 0 ∨ MI 9 i = 1) (h49 : MI 4 9 = 0 ∨ MI 4 9 = 1)
    (hQ : Q none (jnI MI i (if l4 = 0 then (if l5 = 0 then (if MI 9 i = 0 ∨ MI 4 9 = 0 then 0 else 1) else (if MI 9 i = 0 ∧ MI 4 9 = 0 then 0 else 1)) else MI 4 9), up2 ML 8 i (if l5 = 0 ∧ MI 4 9 = 0 then ML 4 8 else l_or (ML 8 i) (ML 4 8)), GR d e nw th 1)) :
    wp cs mX2_joinPart KD Q 91 [some (vR 4), some (vR (b + 9)), some (vI s), some (vI (i : Nat)), some (vI l4), some (vI l5)] [] (KD, MI, ML, GR d e nw th 1) := by
  refine v_X2_joinPart_91 hbd ⟨fun a => ⟨fun c => ⟨by omega, ?_⟩, fun c => ⟨by omega, ?_⟩⟩, fun a => ⟨by omega, ?_⟩⟩
  · simp only [Int.toNat_natCast]
    rintro m rfl
    refine j_129 hbd hi h6 h9 h49 ?_
    rw [if_pos (⟨a, c⟩ : l5 = 0 ∧ MI 4 9 = 0)] at hQ; exact hQ
  · simp only [Int.toNat_natCast]
    rintro m rfl
    refine j_129 hbd hi h6 h9 h49 ?_
    rw [if_neg (fun z : l5 = 0 ∧ MI 4 9 = 0 => c z.2)] at hQ; exact hQ
  · simp only [Int.toNat_natCast]
    rintro m rfl
    refine j_129 hbd hi h6 h9 h49 ?_
    rw [if_neg (fun z : l5 = 0 ∧ MI 4 9 = 0 => a z.1)] at hQ; exact hQ
theorem j_59 (hbd : b = 38 ∨ b = 81) {s l4 l5 : Int} {i : Nat} (hi : i < 6) (h6 : 0 ≤ MI 6 i ∧ MI 6 i < 1000000) (h9 : MI 9 i = 0 ∨ MI 9 i = 1) (h49 : MI 4 9 = 0 ∨ MI 4 9 = 1)
    (hQ : Q none (jnI MI i (if l4 = 0 then (if l5 = 0 then (if MI 9 i = 0 ∨ MI 4 9 = 0 then 0 else 1) else (if MI 9 i = 0 ∧ MI 4 9 = 0 then 0 else 1)) else MI 4 9), jnL ML i (if l4 = 0 ∧ l5 = 0 ∧ MI 9 i = 0 then ML 7 i else l_or (ML 7 i) (ML 4 7)) (if l5 = 0 ∧ MI 4 9 = 0 then ML 4 8 else l_or (ML 8 i) (ML 4 8)), GR d e nw th 1)) :
    wp cs mX2_joinPart KD Q 59 [some (vR 4), some (vR (b + 9)), some (vI s), some (vI (i : Nat)), some (vI l4), some (vI l5)] [] (KD, MI, ML, GR d e nw th 1) := by
  have k78 : ¬ (l4 = 0 ∧ l5 = 0 ∧ MI 9 i = 0) → wp cs mX2_joinPart KD Q 78 [some (vR 4), some (vR (b + 9)), some (vI s), some (vI (i : Nat)), some (vI l4), some (vI l5)] [] (KD, MI, ML, GR d e nw th 1) := fun hn => by
    refine v_X2_joinPart_78 hbd ⟨by omega, ?_⟩
    simp only [Int.toNat_natCast]
    rintro m rfl
    refine j_91 hbd hi h6 h9 h49 ?_
    rw [if_neg hn] at hQ
    have e48 : up2 ML 7 i (l_or (ML 7 i) (ML 4 7)) 4 8 = ML 4 8 := up2_ne (by decide) _
    have e8 : up2 ML 7 i (l_or (ML 7 i) (ML 4 7)) 8 i = ML 8 i := up2_ne (by decide) _
    rw [e48, e8]; exact hQ
  refine v_X2_joinPart_59 hbd ⟨fun a => ⟨fun c => ⟨by omega, ?_⟩, fun c => k78 (fun z => c z.2.1)⟩, fun a => k78 (fun z => a z.1)⟩
  simp only [Int.toNat_natCast]
  refine ⟨fun z => j_91 hbd hi h6 h9 h49 ?_, fun z => k78 (fun y => z y.2.2)⟩
  rw [if_pos (⟨a, c, z⟩ : l4 = 0 ∧ l5 = 0 ∧ MI 9 i = 0)] at hQ
  unfold jnL at hQ
  rw [up2_id] at hQ
  exact hQ
/-- a PART is joined to the innermost GROUP -/
theorem c_joinPart (hbd : b = 38 ∨ b = 81) {p : Pl} {pt : Pt} {g : Gp} {t : List Gp} (ht : t.length < 6) (hb0 : 0 ≤ hb ∧ hb ≤ 6000) (hS : SpcC b N (ds ++ [qPl q p]) MI ML) (hG : GrF MI ML hb (g :: t)) (hP : PtC pt MI ML)
    (hQ : ∀ MI' ML', SpcC b N (ds ++ [qPl q (cmG p pt g).1]) MI' ML' → GrF MI' ML' (hb + 1) ((cmG p pt g).2 :: t) → dfr b MI ML MI' ML' → MI' 2 = MI 2 → MI' 4 = MI 4 → ML' 4 = ML 4 → Q none (MI', ML', GR d e nw th 1)) :
    wp cs mX2_joinPart KD Q 0 (padL [vR 4, vR (b + 9), vI (ds.length : Nat), vI (t.length : Nat)] 6) [] (KD, MI, ML, GR d e nw th 1) := by
  refine wp_ok fun hM _ _ => ?_
  obtain ⟨⟨a1, a2, a3, a4, a5, a6, a7, a8⟩, hGt⟩ := hG
  obtain ⟨p1, p2, p3, p4⟩ := hP
  have r7 := hM.2 4 7
  have r8 := hM.2 4 8
  simp only at r7 r8
  -- the two memories behind it
  have fin : ∀ (ML1 : Nat → Nat → Int) (v f l : Int), SpcC b N (ds ++ [qPl q (cmG p pt g).1]) MI ML1 → (∀ j, ¬ (b + 9 ≤ j ∧ j ≤ b + 19) → ML1 j = ML j) → (cmG p pt g).2 = (g.1, true, v, f, l) → (v = 0 ∨ v = 1) → Q none (jnI MI t.length v, jnL ML1 t.length f l, GR d e nw th 1) := by
    intro ML1 v f l h1 h2 h3 h4
    have e1 : ∀ j, j ≠ 6 → j ≠ 9 → jnI MI t.length v j = MI j := fun j q1 q2 => by funext k; unfold jnI; rw [up2_ne q1, up2_ne q2]
    have e2 : ∀ j, j ≠ 7 → j ≠ 8 → jnL ML1 t.length f l j = ML1 j := fun j q1 q2 => by funext k; unfold jnL; rw [up2_ne q2, up2_ne q1]
    refine hQ _ _ (SpcC_fr h1 (fun j q1 q2 => e1 j (by omega) (by omega)) (fun j q1 q2 => e2 j (by omega) (by omega))) ⟨?_, ?_⟩ (fun j hj => ⟨e1 j (by omega) (by omega), (e2 j (by omega) (by omega)).trans (h2 j (by omega))⟩) (e1 2 (by decide) (by decide)) (e1 4 (by decide) (by decide)) ((e2 4 (by decide) (by decide)).trans (h2 4 (by omega)))
    · rw [h3]
      refine ⟨?_, ?_, ?_, ?_, h4, ?_, ?_, fun z => by simp at z⟩
      · rw [e1 5 (by decide) (by decide)]; exact a1
      · simp [jnI, up2]; omega
      · simp [jnI, up2]; omega
      · simp [jnI, up2]
      · simp [jnL, up2]
      · simp [jnL, up2]
    · refine GrF_fr hGt (fun i hi => ⟨?_, ?_, ?_, ?_, ?_⟩) (by omega)
      · rw [e1 5 (by decide) (by decide)]
      · simp [jnI, up2]; omega
      · simp [jnI, up2]; omega
      · have := h2 7 (by omega)
        simp [jnL, up2, this]; omega
      · have := h2 8 (by omega)
        simp [jnL, up2, this]; omega
  have c6 : 0 ≤ MI 6 t.length ∧ MI 6 t.length < 1000000 := by omega
  have c9 : MI 9 t.length = 0 ∨ MI 9 t.length = 1 := by rw [a4]; exact a5
  have c49 : MI 4 9 = 0 ∨ MI 4 9 = 1 := by rw [p1]; exact p2
  refine v_X2_joinPart_0 hbd ⟨by omega, ?_⟩
  simp only [Int.toNat_natCast]
  refine ⟨fun hz => ?_, fun hz => ?_⟩
  · -- the first PART
    have hbg := a2.mp hz
    have hg0 := a8 hbg
    have hgf : g.2.2.2.1 = 0 := by rw [hg0]
    have hgl : g.2.2.2.2 = 0 := by rw [hg0]
    have hc : cmG p pt g = (p, (g.1, true, pt.1, pt.2.1, pt.2.2)) := by unfold cmG; rw [if_pos hbg]
    have hfin := fin ML pt.1 pt.2.1 pt.2.2 (by rw [hc]; exact hS) (fun _ _ => rfl) (by rw [hc]) p2
    have e7 : l_or (ML 7 t.length) (ML 4 7) = pt.2.1 := by rw [a6, hgf, l_or_0 r7, p3]
    have e8 : l_or (ML 8 t.length) (ML 4 8) = pt.2.2 := by rw [a7, hgl, l_or_0 r8, p4]
    have e8' : ∀ l5 : Int, (if l5 = 0 ∧ MI 4 9 = 0 then ML 4 8 else l_or (ML 8 t.length) (ML 4 8)) = pt.2.2 := fun l5 => by split; exact p4; exact e8
    refine v_X2_joinPart_14 hbd ⟨by omega, ?_⟩
    simp only [Int.toNat_natCast]
    refine ⟨fun hs => ?_, fun hs => ?_⟩
    · refine v_X2_joinPart_32 hbd ⟨fun z => by omega, fun _ => j_59 hbd ht c6 c9 c49 ?_⟩
      rw [e8', e7, if_neg (by omega), if_neg (by omega), p1]; exact hfin
    · refine v_X2_joinPart_32 hbd ⟨fun z => by omega, fun _ => j_59 hbd ht c6 c9 c49 ?_⟩
      rw [e8', e7, if_neg (by omega), if_neg (by omega), p1]; exact hfin
  · have hbg : ¬ g.2.1 = false := fun z => hz (a2.mpr z)
    refine v_X2_joinPart_14 hbd ⟨by omega, ?_⟩
    simp only [Int.toNat_natCast]
    rw [a1]
    refine ⟨fun hs => ?_, fun hs => ?_⟩
    · have hc : cmG p pt g = (p, (g.1, true, (if g.2.2.1 = 0 ∧ pt.1 = 0 then 0 else 1), l_or g.2.2.2.1 pt.2.1, l_or g.2.2.2.2 pt.2.2)) := by unfold cmG; rw [if_neg hbg, if_pos hs]
      have hfin := fin ML _ _ _ (by rw [hc]; exact hS) (fun _ _ => rfl) (by rw [hc]) (by split <;> simp)
      refine v_X2_joinPart_32 hbd ⟨fun _ => ⟨fun z => by omega, fun _ => j_59 hbd ht c6 c9 c49 ?_⟩, fun z => absurd rfl z⟩
      rw [if_pos (rfl : (0 : Int) = 0), if_neg (show ¬ (1 : Int) = 0 by decide), if_neg (show ¬ ((0 : Int) = 0 ∧ (1 : Int) = 0 ∧ MI 9 t.length = 0) by omega), if_neg (show ¬ ((1 : Int) = 0 ∧ MI 4 9 = 0) by omega), a4, p1, a6, a7, p3, p4]; exact hfin
    · have hc : cmG p pt g = ((p.1, lkL p.2 g.2.2.2.2 pt.2.1), (g.1, true, (if g.2.2.1 = 0 ∨ pt.1 = 0 then 0 else 1), (if g.2.2.1 = 0 then g.2.2.2.1 else l_or g.2.2.2.1 pt.2.1), if pt.1 = 0 then pt.2.2 else l_or g.2.2.2.2 pt.2.2)) := by unfold cmG; rw [if_neg hbg, if_neg hs]
      refine v_X2_joinPart_32 hbd ⟨fun _ => ⟨fun _ => ⟨by omega, ?_⟩, fun z => absurd rfl z⟩, fun z => absurd rfl z⟩
      simp only [Int.toNat_natCast]
      rw [a7, p3]
      refine c_link hbd hS (fun ML1 h1 h2 => rV_mk (j_59 hbd ht c6 c9 c49 ?_))
      have f7 : ML1 7 = ML 7 := h2 7 (by omega)
      have f8 : ML1 8 = ML 8 := h2 8 (by omega)
      have f4 : ML1 4 = ML 4 := h2 4 (by omega)
      have hfin := fin ML1 _ _ _ (by rw [hc]; exact h1) h2 (by rw [hc]) (by split <;> simp)
      rw [if_pos rfl, if_pos rfl, f7, f8, f4, a4, p1, a6, a7, p3, p4]
      have z1 : (if (0 : Int) = 0 ∧ (0 : Int) = 0 ∧ g.2.2.1 = 0 then g.2.2.2.1 else l_or g.2.2.2.1 pt.2.1) = if g.2.2.1 = 0 then g.2.2.2.1 else l_or g.2.2.2.1 pt.2.1 := by simp
      have z2 : (if (0 : Int) = 0 ∧ pt.1 = 0 then pt.2.2 else l_or g.2.2.2.2 pt.2.2) = if pt.1 = 0 then pt.2.2 else l_or g.2.2.2.2 pt.2.2 := by simp
      rw [z1, z2]; exact hfin
end P67
