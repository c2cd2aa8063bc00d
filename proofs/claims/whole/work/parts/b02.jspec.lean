/-! The class's judgement of declarations. -/
def JuC (fs : Fi) (MI : Nat → Nat → Int) : Prop := MI 11 3 = (fs.length : Nat) ∧ fs.length ≤ 8000 ∧ ∀ (i : Nat) (a s : Int), fs[i]? = some (a, s) → MI 12 i = a * 1024 + s ∧ (1 ≤ a ∧ a ≤ 12) ∧ (0 ≤ s ∧ s < 1024)
def IdsC (ids : List Nat) (MI : Nat → Nat → Int) : Prop := MI 11 2 = (ids.length : Nat) ∧ ids.length ≤ 600 ∧ ∀ (i k : Nat), ids[i]? = some k → MI 13 i = (k : Int)
def jfr (MI MI' : Nat → Nat → Int) : Prop := ∀ i, i ≠ 11 → i ≠ 12 → i ≠ 13 → MI' i = MI i
theorem jfr_rfl (MI : Nat → Nat → Int) : jfr MI MI := fun _ _ _ _ => rfl
theorem jfr_tr {A B C : Nat → Nat → Int} (h : jfr A B) (k : jfr B C) : jfr A C := fun i h1 h2 h3 => (k i h1 h2 h3).trans (h i h1 h2 h3)
theorem fi_len (g : Fi) (u : Int × Int) : List.length (g ++ [u]) = List.length g + 1 := by simp
section Pb02
variable {cs : Cs} {Q : Option AV → Mm → Prop} {MI ML : Nat → Nat → Int} {b d e nw th x pl : Nat} {T : Nat → Int} {n : Int} {N : List By} {fs : Fi} {ids : List Nat}
theorem c_report {a s : Int} (hJ : JuC fs MI) (hI : IdsC ids MI) (hl : fs.length < 8000) (ha : 1 ≤ a ∧ a ≤ 12) (hs : 0 ≤ s ∧ s < 1024)
    (hQ : ∀ MI', JuC (fs ++ [(a, s)]) MI' → IdsC ids MI' → jfr MI MI' → Q none (MI', ML, GR d e nw th x)) :
    wp cs mX4_report KD Q 0 (padL [vR 11, vI a, vI s] 3) [] (KD, MI, ML, GR d e nw th x) := by
  refine v_X4_report_0 ?_
  rw [hJ.1]
  simp only [Int.toNat_natCast]
  refine ⟨fun _ => ⟨by omega, by omega, by omega, fun m25 e25 => ?_⟩, fun z => by omega⟩
  have k3 : m25 11 3 = (fs.length : Nat) := by rw [e25, up2_ne (by decide)]; exact hJ.1
  rw [k3]
  refine ⟨by omega, fun m33 e33 => ?_⟩
  refine hQ m33 ⟨by rw [e33, up2_eq]; simp, by simp; omega, fun i a' s' hi => ?_⟩ ⟨by rw [e33, up2_nk (by decide), e25, up2_ne (by decide)]; exact hI.1, hI.2.1, fun i k hk => by rw [e33, up2_ne (by decide), e25, up2_ne (by decide)]; exact hI.2.2 i k hk⟩ (fun i h1 h2 h3 => by rw [e33, e25]; funext k; rw [up2_ne h1, up2_ne h2])
  rcases last_of hi with ⟨hj1, hj2⟩ | ⟨rfl, hj⟩
  · rw [e33, up2_ne (by decide), e25, up2_nk (by omega)]; exact hJ.2.2 i a' s' hj2
  · cases hj
    rw [e33, up2_ne (by decide), e25, up2_eq]; exact ⟨rfl, ha, hs⟩
theorem DocC_j {D : Dt} {ns : List Nd} {op : List Int} {dp : Int} {MI' : Nat → Nat → Int} (hbd : b = 38 ∨ b = 81) (hD : DocC b T n N pl D ns op dp MI ML) (hf : jfr MI MI') : DocC b T n N pl D ns op dp MI' ML := DocC_fr hD (fun j z1 z2 => hf j (by omega) (by omega) (by omega)) (fun _ _ _ => rfl)
theorem c_repeats_l (hbd : b = 38 ∨ b = 81) {j : Nat} {q : Dc} {set : Int} (hj : j < 30) (hA : SpcA b N MI ML j q) (hQ : Q (some (vI (if dblS q.2.2.2.1 set = true then 1 else 0))) (MI, ML, GR d e nw th x)) :
    ∀ (m p : Nat), p + m = q.2.2.2.1.length → (∀ i, i < p → (bv set i && (List.range i).any fun k => bv set k && decide (q.2.2.2.1[k]? = q.2.2.2.1[i]?)) = false) →
    wp cs mX9_repeats KD Q 3 [some (vR (b + 9)), some (vI (j : Nat)), some (vL set), none, some (vI (p : Nat))] [] (KD, MI, ML, GR d e nw th x) := by
  have h13 := hA.2.2.2.1
  have h40 := hA.2.2.2.2.1
  intro m
  induction m with
  | zero =>
    intro p hp hi
    refine v_X9_repeats_3 hbd ?_
    simp only [Int.toNat_natCast]
    rw [h13]
    refine ⟨by omega, fun z => by omega, fun _ => ?_⟩
    rw [if_neg (fun z => ?_)] at hQ
    · exact hQ
    · unfold dblS at z
      rw [List.any_eq_true] at z
      obtain ⟨i, h1, h2⟩ := z
      rw [List.mem_range] at h1
      rw [hi i (by omega)] at h2; cases h2
  | succ m ih =>
    intro p hp hi
    obtain ⟨y, hy⟩ : ∃ y, q.2.2.2.1[p]? = some y := ⟨_, List.getElem?_eq_getElem (by omega)⟩
    have htw := (hA.2.2.2.2.2.2.1 p y hy).2
    refine v_X9_repeats_3 hbd ?_
    simp only [Int.toNat_natCast]
    rw [h13, l_ushr_bit (by omega), show ((j : Nat) : Int) * 40 + ((p : Nat) : Int) = ((40 * j + p : Nat) : Int) by omega]
    simp only [Int.toNat_natCast]
    rw [htw, show ((p : Nat) : Int) + 1 = ((p + 1 : Nat) : Int) by omega]
    have nxt : (bv set p && (List.range p).any fun k => bv set k && decide (q.2.2.2.1[k]? = q.2.2.2.1[p]?)) = false → wp cs mX9_repeats KD Q 3 [some (vR (b + 9)), some (vI (j : Nat)), some (vL set), none, some (vI ((p + 1 : Nat) : Int))] [] (KD, MI, ML, GR d e nw th x) := fun hf => ih (p + 1) (by omega) (fun i hip => by
      by_cases hh : i = p
      · subst hh; exact hf
      · exact hi i (by omega))
    refine ⟨by omega, fun _ => ⟨fun hb => ⟨by omega, nxt ?_⟩, fun hb => ⟨by omega, by omega, by omega, fun h0 => ⟨by omega, nxt ?_⟩, fun h0 => ?_⟩⟩, fun z => by omega⟩
    · cases hbv : bv set p with
      | false => rfl
      | true => rw [hbv, if_pos rfl] at hb; omega
    · have := (twin_ne0 (set := set) h40 hy)
      cases hx : ((List.range p).any fun k => bv set k && decide (q.2.2.2.1[k]? = q.2.2.2.1[p]?)) with
      | false => rw [Bool.and_false]
      | true => exact absurd h0 (this.mpr hx)
    · have h1 := (twin_ne0 (set := set) h40 hy).mp h0
      have h2 : bv set p = true := by
        cases hbv : bv set p with
        | true => rfl
        | false => rw [hbv] at hb; exact absurd rfl hb
      rw [if_pos] at hQ
      · exact hQ
      · unfold dblS
        rw [List.any_eq_true]
        exact ⟨p, by rw [List.mem_range]; omega, by rw [h2, h1]; rfl⟩
theorem c_repeats (hbd : b = 38 ∨ b = 81) {j : Nat} {q : Dc} {set : Int} (hj : j < 30) (hA : SpcA b N MI ML j q) (hQ : Q (some (vI (if dblS q.2.2.2.1 set = true then 1 else 0))) (MI, ML, GR d e nw th x)) :
    wp cs mX9_repeats KD Q 0 (padL [vR (b + 9), vI (j : Nat), vL set] 5) [] (KD, MI, ML, GR d e nw th x) :=
  v_X9_repeats_0 (c_repeats_l hbd hj hA hQ _ 0 (Nat.zero_add _) (fun i hi => by omega))
theorem c_isDet_l (hbd : b = 38 ∨ b = 81) {j : Nat} {q : Dc} (hj : j < 30) (hA : SpcA b N MI ML j q) (hT : (∀ f ∈ q.2.2.2.2.1, dblS q.2.2.2.1 f = false) → Q (some (vI 1)) (MI, ML, GR d e nw th x)) (hF : (∃ f ∈ q.2.2.2.2.1, dblS q.2.2.2.1 f = true) → Q (some (vI 0)) (MI, ML, GR d e nw th x)) :
    ∀ (m p : Nat), p + m = q.2.2.2.1.length → (∀ (i : Nat) (f : Int), i < p → q.2.2.2.2.1[i]? = some f → dblS q.2.2.2.1 f = false) →
    wp cs mX9_isDeterministic KD Q 18 [some (vR (b + 9)), some (vI (j : Nat)), some (vI (p : Nat))] [] (KD, MI, ML, GR d e nw th x) := by
  have h13 := hA.2.2.2.1
  have h40 := hA.2.2.2.2.1
  have hfl := hA.2.2.2.2.2.1
  intro m
  induction m with
  | zero =>
    intro p hp hi
    refine v_X9_isDeterministic_18 hbd ?_
    simp only [Int.toNat_natCast]
    rw [h13]
    refine ⟨by omega, fun z => by omega, fun _ => hT (fun f hf => ?_)⟩
    obtain ⟨i, hi1⟩ := List.getElem?_of_mem hf
    have := (List.getElem?_eq_some_iff.mp hi1).1
    exact hi i f (by omega) hi1
  | succ m ih =>
    intro p hp hi
    obtain ⟨f, hf⟩ : ∃ f, q.2.2.2.2.1[p]? = some f := ⟨_, List.getElem?_eq_getElem (by omega)⟩
    have hfo := hA.2.2.2.2.2.2.2.1 p f hf
    refine v_X9_isDeterministic_18 hbd ?_
    simp only [Int.toNat_natCast]
    rw [h13, show ((j : Nat) : Int) * 40 + ((p : Nat) : Int) = ((40 * j + p : Nat) : Int) by omega]
    simp only [Int.toNat_natCast]
    rw [hfo, show ((p : Nat) : Int) + 1 = ((p + 1 : Nat) : Int) by omega]
    refine ⟨by omega, fun _ => ⟨by omega, by omega, by omega, c_repeats hbd hj hA (rI_mk ?_)⟩, fun z => by omega⟩
    cases hd : dblS q.2.2.2.1 f with
    | false =>
      rw [if_neg (by decide)]
      refine ⟨fun _ => ⟨by omega, ih (p + 1) (by omega) (fun i g hip hg => ?_)⟩, fun z => absurd rfl z⟩
      by_cases hh : i = p
      · subst hh; rw [hf] at hg; cases hg; exact hd
      · exact hi i g (by omega) hg
    | true =>
      rw [if_pos rfl]
      exact ⟨fun z => by omega, fun _ => hF ⟨f, List.mem_of_getElem? hf, hd⟩⟩
theorem c_isDet (hbd : b = 38 ∨ b = 81) {j : Nat} {q : Dc} (hj : j < 30) (hA : SpcA b N MI ML j q) (hT : ¬ (dblS q.2.2.2.1 q.2.2.2.2.2.1 = true ∨ ∃ f ∈ q.2.2.2.2.1, dblS q.2.2.2.1 f = true) → Q (some (vI 1)) (MI, ML, GR d e nw th x)) (hF : (dblS q.2.2.2.1 q.2.2.2.2.2.1 = true ∨ ∃ f ∈ q.2.2.2.2.1, dblS q.2.2.2.1 f = true) → Q (some (vI 0)) (MI, ML, GR d e nw th x)) :
    wp cs mX9_isDeterministic KD Q 0 (padL [vR (b + 9), vI (j : Nat)] 3) [] (KD, MI, ML, GR d e nw th x) := by
  have h17 := hA.2.2.2.2.2.2.2.2.1
  refine v_X9_isDeterministic_0 hbd ?_
  simp only [Int.toNat_natCast]
  rw [h17]
  refine ⟨by omega, c_repeats hbd hj hA (rI_mk ?_)⟩
  cases hd : dblS q.2.2.2.1 q.2.2.2.2.2.1 with
  | true =>
    rw [if_pos rfl]
    exact ⟨fun z => by omega, fun _ => hF (Or.inl hd)⟩
  | false =>
    rw [if_neg (by decide)]
    refine ⟨fun _ => ?_, fun z => absurd rfl z⟩
    refine c_isDet_l hbd hj hA (fun h => hT (fun z => ?_)) (fun h => hF (Or.inr h)) _ 0 (Nat.zero_add _) (fun i f hi => by omega)
    rcases z with z | ⟨f, z1, z2⟩
    · rw [hd] at z; cases z
    · rw [h f z1] at z2; cases z2
/-- a SPEC -/
theorem c_judgeSpec (hbd : b = 38 ∨ b = 81) {D : Dt} {ns : List Nd} {op : List Int} {dp : Int} {j : Nat} {q : Dc} (hD : DocC b T n N pl D ns op dp MI ML) (hJ : JuC fs MI) (hI : IdsC ids MI) (hq : D.2.1[j]? = some q) (hl : fs.length + (jdS D.2.1 j q).length ≤ 8000)
    (hQ : ∀ MI', JuC (fs ++ jdS D.2.1 j q) MI' → IdsC ids MI' → jfr MI MI' → Q none (MI', ML, GR d e nw th x)) :
    wp cs mX4_judgeSpec KD Q 0 (padL [vR 11, vR b, vI (j : Nat)] 4) [] (KD, MI, ML, GR d e nw th x) := by
  have hN := hD.1
  have hS := hD.2.2.1
  have hjl := (List.getElem?_eq_some_iff.mp hq).1
  have h30 := hS.2.1
  have hj : j < 30 := by omega
  have hA := hS.2.2 j q hq
  have hid := hA.2.1
  have hidx := hD.2.1 (MI (b + 11) j).toNat q.1 hid.2
  -- the third
  have third : ∀ (gs : Fi) (MI1 : Nat → Nat → Int), jfr MI MI1 → JuC gs MI1 → IdsC ids MI1 → gs.length + (if q.2.1 = 2 ∧ dblS q.2.2.2.1 (-1) = true then [(3, (j : Int))] else ([] : Fi)).length ≤ 8000 → gs ++ (if q.2.1 = 2 ∧ dblS q.2.2.2.1 (-1) = true then [(3, (j : Int))] else []) = fs ++ jdS D.2.1 j q → wp cs mX4_judgeSpec KD Q 52 [some (vR 11), some (vR b), some (vI (j : Nat)), some (vR (b + 9))] [] (KD, MI1, ML, GR d e nw th x) := by
    intro gs MI1 f1 J1 I1 hl1 hg
    have D1 := DocC_j hbd hD f1
    have A1 := D1.2.2.1.2.2 j q hq
    refine v_X4_judgeSpec_52 hbd ?_
    simp only [Int.toNat_natCast]
    rw [A1.1]
    refine ⟨by omega, fun h2 => c_repeats hbd hj A1 (rI_mk ?_), fun h2 => ?_⟩
    · cases hd : dblS q.2.2.2.1 (-1) with
      | false =>
        rw [if_neg (by decide)]
        rw [if_neg (fun z => by rw [hd] at z; cases z.2), List.append_nil] at hg
        exact ⟨fun _ => hQ MI1 (by rw [← hg]; exact J1) I1 f1, fun z => absurd rfl z⟩
      | true =>
        rw [if_pos rfl]
        rw [if_pos ⟨h2, hd⟩] at hg hl1
        refine ⟨fun z => by omega, fun _ => c_report J1 I1 (by simp at hl1; omega) (by omega) (by omega) (fun MI2 J2 I2 f2 => rV_mk ?_)⟩
        exact hQ MI2 (by rw [← hg]; exact J2) I2 (jfr_tr f1 f2)
    · rw [if_neg (fun z => h2 z.1), List.append_nil] at hg
      exact hQ MI1 (by rw [← hg]; exact J1) I1 f1
  -- the second
  have second : ∀ (gs : Fi) (MI1 : Nat → Nat → Int), jfr MI MI1 → JuC gs MI1 → IdsC ids MI1 → gs.length + ((if q.2.1 = 3 ∧ (dblS q.2.2.2.1 q.2.2.2.2.2.1 = true ∨ ∃ f ∈ q.2.2.2.2.1, dblS q.2.2.2.1 f = true) then [(2, (j : Int))] else ([] : Fi)) ++ (if q.2.1 = 2 ∧ dblS q.2.2.2.1 (-1) = true then [(3, (j : Int))] else [])).length ≤ 8000 → gs ++ ((if q.2.1 = 3 ∧ (dblS q.2.2.2.1 q.2.2.2.2.2.1 = true ∨ ∃ f ∈ q.2.2.2.2.1, dblS q.2.2.2.1 f = true) then [(2, (j : Int))] else ([] : Fi)) ++ (if q.2.1 = 2 ∧ dblS q.2.2.2.1 (-1) = true then [(3, (j : Int))] else [])) = fs ++ jdS D.2.1 j q →
      (((MI1 (b + 10) j) = 3 → wp cs mX9_isDeterministic KD (rI (GR d e nw th x) fun x40 m40 n40 => ((x40 = 0 → wp cs mX4_report KD (rV (GR d e nw th x) fun m49 n49 => wp cs mX4_judgeSpec KD Q 52 [some (vR 11), some (vR b), some (vI (j : Nat)), some (vR (b + 9))] [] (KD, m49, n49, (GR d e nw th x))) 0 (padL [vR 11, vI 2, vI (j : Nat)] 3) [] (KD, m40, n40, (GR d e nw th x))) ∧ (x40 ≠ 0 → wp cs mX4_judgeSpec KD Q 52 [some (vR 11), some (vR b), some (vI (j : Nat)), some (vR (b + 9))] [] (KD, m40, n40, (GR d e nw th x))))) 0 (padL [vR (b + 9), vI (j : Nat)] 3) [] (KD, MI1, ML, (GR d e nw th x))) ∧ ((MI1 (b + 10) j) ≠ 3 → wp cs mX4_judgeSpec KD Q 52 [some (vR 11), some (vR b), some (vI (j : Nat)), some (vR (b + 9))] [] (KD, MI1, ML, (GR d e nw th x)))) := by
    intro gs MI1 f1 J1 I1 hl1 hg
    have D1 := DocC_j hbd hD f1
    have A1 := D1.2.2.1.2.2 j q hq
    rw [A1.1]
    rw [List.length_append] at hl1
    rw [← List.append_assoc] at hg
    refine ⟨fun h3 => c_isDet hbd hj A1 (fun hd => rI_mk ⟨fun z => by omega, fun _ => ?_⟩) (fun hd => rI_mk ⟨fun _ => ?_, fun z => absurd rfl z⟩), fun h3 => ?_⟩
    · rw [if_neg (fun z => hd z.2), List.append_nil] at hg
      exact third gs MI1 f1 J1 I1 (by omega) hg
    · rw [if_pos ⟨h3, hd⟩] at hg hl1
      simp only [List.length_singleton] at hl1
      exact c_report J1 I1 (by omega) (by omega) (by omega) (fun MI2 J2 I2 f2 => rV_mk (third _ MI2 (jfr_tr f1 f2) J2 I2 (by simp only [List.length_append, List.length_singleton]; omega) hg))
    · rw [if_neg (fun z => h3 z.1), List.append_nil] at hg
      exact third gs MI1 f1 J1 I1 (by omega) hg
  refine v_X4_judgeSpec_0 hbd ?_
  simp only [Int.toNat_natCast]
  refine ⟨by omega, w_X5_specOf hbd (by rw [hN.1]; have := hN.2.1; omega) (fun hr => rI_mk ?_) (fun hr => ?_)⟩
  · rw [hidx.1]
    have hl2 := hl
    unfold jdS at hl2
    rw [List.length_append] at hl2
    refine ⟨fun he => second fs MI (jfr_rfl _) hJ hI (by omega) (by unfold jdS; rw [if_neg (show ¬ (fIdx (clN q.1) D.2.1 0 ≠ (j : Int)) from fun z => z he), List.nil_append]), fun he => ?_⟩
    rw [if_pos he, List.length_singleton] at hl2
    exact c_report hJ hI (by omega) (by omega) (by omega) (fun MI2 J2 I2 f2 => rV_mk (second _ MI2 f2 J2 I2 (by rw [fi_len]; omega) (by unfold jdS; rw [if_pos he, List.append_assoc])))
  · exfalso
    have := (List.getElem?_eq_some_iff.mp hid.2).1
    have h0 := hid.1
    rw [hN.1] at hr
    omega
end Pb02
