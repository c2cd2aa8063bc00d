/-! The reference's node, name and string; findings and finding on both sides. -/
theorem cntI_app' (ns : List Nd) (x : Nd) (e : Int) : cntI (ns ++ [x]) e = cntI ns e + if x.1 ≠ 2 ∧ x.2.1 = e then 1 else 0 := cntI_app ns x e
/-- findings and finding -/
def fnS (D : Dm) : Int := match D.1.1 with | none => -1 | some _ => ((judgeS D).length : Nat)
def fgS (D : Dm) (i w : Int) : Int := if 0 ≤ i ∧ i < ((judgeS D).length : Nat) then (if w = 0 then ((judgeS D).getD i.toNat (0, 0)).1 else if w = 1 then ((judgeS D).getD i.toNat (0, 0)).2 else -9) else -9
theorem judgeS_none {D : Dm} (h : D.1.1 = none) : judgeS D = [] := by unfold judgeS; rw [h]
section Pc03
variable {cs : Cs} {Q : Option AV → Mm → Prop} {MI ML : Nat → Nat → Int} {bk b d e nw th x pl : Nat} {T : Nat → Int} {n : Int} {N : List By} {D : Dm}
theorem c_rnode {k w : Int} (hH : RefH D MI ML) (hW : D.2.1 ≠ [] → WfN D.2.1) (hQ : Q (some (vI (ndS D.2.1 k w))) (MI, ML, GR d e nw th x)) :
    wp cs mX12_node KD Q 0 (padL [vR 124, vI k, vI w] 7) [] (KD, MI, ML, GR d e nw th x) := by
  unfold ndS at hQ
  refine v_X12_node_0 (c_isNode hH (rI_mk ?_))
  by_cases hin : 0 ≤ k ∧ k < (D.2.1.length : Nat)
  rotate_left
  · rw [if_neg hin] at hQ ⊢
    exact ⟨fun _ => hQ, fun z => absurd rfl z⟩
  rw [if_pos hin] at hQ ⊢
  refine ⟨fun z => by omega, fun _ => ?_⟩
  rcases hH with ⟨h1, h2⟩ | ⟨h1, bk, T, n, pl, hH⟩
  · rw [h1] at hin; have : k < 0 := hin.2; omega
  have p7 := hH.1.2.2.2.2.2.2
  have h600 := hH.1.2.1.2.1
  obtain ⟨kN, rfl⟩ : ∃ j : Nat, k = (j : Int) := ⟨k.toNat, by omega⟩
  obtain ⟨y, hy⟩ : ∃ y, D.2.1[kN]? = some y := ⟨_, List.getElem?_eq_getElem (by omega)⟩
  have hW := hW (fun z => by rw [z] at hy; simp at hy)
  have hgd : D.2.1.getD kN (0, 0, [], [], 0, 0) = y := by rw [List.getD_eq_getElem?_getD, hy]; rfl
  rw [Int.toNat_natCast, hgd] at hQ
  have hNy := hH.1.2.1.2.2 kN y hy
  rw [hH.2.1]
  refine ⟨by omega, by omega, ?_⟩
  have key : ∀ (u pre : List Nd), pre ++ u = D.2.1 → wp cs mX12_node KD Q 38 [some (vR 124), some (vI (kN : Nat)), some (vI w), some (vI (600 * (bk : Int) + ((kN : Nat) : Int))), some (vI (cntA pre (kN : Int) : Nat)), some (vI (cntI pre (kN : Int) : Nat)), some (vI ((600 * bk + pre.length : Nat) : Int))] [] (KD, MI, ML, GR d e nw th x) := by
    intro u
    induction u with
    | nil =>
      intro pre hp
      rw [List.append_nil] at hp
      subst hp
      refine v_X12_node_38 ?_
      rw [hH.2.1]
      simp only [Int.toNat_natCast]
      rw [hH.1.2.1.1, show (600 * (bk : Int) + ((kN : Nat) : Int)).toNat = 600 * bk + kN by omega, hNy.1, hNy.2.1, hNy.2.2.1.1, hNy.2.2.2.2.1]
      refine ⟨by omega, by omega, by omega, fun z => by omega, fun _ => ⟨fun h0 => ⟨by omega, ?_⟩, fun h0 => ⟨by omega, ?_⟩, fun h0 => ⟨by omega, ?_⟩, fun h0 => c_stringOf hH hW hy (rI_mk ?_), fun h0 => ?_, fun h0 => ?_, fun h0 => ⟨fun h6 => ⟨by omega, fun hz => ?_, fun hz => ?_⟩, fun h6 => ?_⟩⟩⟩
      · rw [if_pos h0] at hQ; exact hQ
      · rw [if_neg (by omega), if_pos h0] at hQ; exact hQ
      · rw [if_neg (by omega), if_neg (by omega), if_pos h0] at hQ; exact hQ
      · rw [if_neg (by omega), if_neg (by omega), if_neg (by omega), if_pos h0] at hQ; exact hQ
      · rw [if_neg (by omega), if_neg (by omega), if_neg (by omega), if_neg (by omega), if_pos h0] at hQ; exact hQ
      · rw [if_neg (by omega), if_neg (by omega), if_neg (by omega), if_neg (by omega), if_neg (by omega), if_pos h0] at hQ; exact hQ
      · rw [if_neg (by omega), if_neg (by omega), if_neg (by omega), if_neg (by omega), if_neg (by omega), if_neg (by omega), if_pos h6, hz] at hQ; exact hQ
      · rw [if_neg (by omega), if_neg (by omega), if_neg (by omega), if_neg (by omega), if_neg (by omega), if_neg (by omega), if_pos h6] at hQ
        have h01 : y.2.2.2.2.1 = 1 := by
          by_cases hk0 : kN = 0
          · subst hk0; rw [hW.1] at hy; cases hy; exact absurd rfl hz
          · rcases (hW.2 kN y hy (by omega)).1.1 with v | v | v
            · exact absurd v.2.2.2.1 hz
            · rcases v.2.2.1 with u | u
              · exact absurd u hz
              · exact u
            · exact absurd v.2.2.2.1 hz
        rw [h01] at hQ; exact hQ
      · rw [if_neg (by omega), if_neg (by omega), if_neg (by omega), if_neg (by omega), if_neg (by omega), if_neg (by omega), if_neg h6] at hQ; exact hQ
    | cons z u ih =>
      intro pre hp
      have hlen : pre.length < D.2.1.length := by rw [← hp]; simp
      have hz : D.2.1[pre.length]? = some z := by rw [← hp]; simp
      have hNz := hH.1.2.1.2.2 _ z hz
      have nxt := ih (pre ++ [z]) (by rw [List.append_assoc]; exact hp)
      have hc := cnt_le pre (kN : Int)
      rw [cntA_app, cntI_app, show ((600 * bk + (pre ++ [z]).length : Nat) : Int) = ((600 * bk + pre.length : Nat) : Int) + 1 by rw [List.length_append, List.length_singleton]; omega] at nxt
      have s90 : ∀ s0 : Int, s0 = (if z.1 = 2 ∧ z.2.1 = (kN : Int) then 1 else 0) → wp cs mX12_node KD Q 90 [some (vR 124), some (vI (kN : Nat)), some (vI w), some (vI (600 * (bk : Int) + ((kN : Nat) : Int))), some (vI (cntA pre (kN : Int) : Nat)), some (vI (cntI pre (kN : Int) : Nat)), some (vI ((600 * bk + pre.length : Nat) : Int))] [vI s0, vI (cntA pre (kN : Int) : Nat)] (KD, MI, ML, GR d e nw th x) := by
        intro s0 hs0
        refine v_X12_node_90 ?_
        simp only [Int.toNat_natCast]
        rw [hNz.1, hNz.2.1]
        have hs01 : s0 = 0 ∨ s0 = 1 := by rw [hs0]; split <;> simp
        have ea : ((cntA pre (kN : Int) : Nat) : Int) + s0 = ((cntA pre (kN : Int) + (if z.1 = 2 ∧ z.2.1 = (kN : Int) then 1 else 0) : Nat) : Int) := by
          rw [hs0]; split <;> omega
        rw [ea]
        refine ⟨by split <;> omega, by omega, fun hu => ⟨fun h2 => ⟨by omega, ?_⟩, fun h2 => ⟨by omega, by omega, ?_⟩⟩, fun hu => ⟨by omega, ?_⟩⟩
        · rw [if_neg (show ¬ (z.1 ≠ 2 ∧ z.2.1 = (kN : Int)) from fun q => q.1 h2), Nat.add_zero] at nxt; exact nxt
        · rw [if_pos (show (z.1 ≠ 2 ∧ z.2.1 = (kN : Int)) from ⟨h2, hu⟩)] at nxt
          rw [show ((cntI pre (kN : Int) : Nat) : Int) + 1 = ((cntI pre (kN : Int) + 1 : Nat) : Int) by omega]; exact nxt
        · rw [if_neg (show ¬ (z.1 ≠ 2 ∧ z.2.1 = (kN : Int)) from fun q => hu q.2), Nat.add_zero] at nxt; exact nxt
      refine v_X12_node_38 ?_
      rw [hH.2.1]
      simp only [Int.toNat_natCast]
      rw [hH.1.2.1.1, hNz.1, hNz.2.1]
      exact ⟨by omega, by omega, by omega, fun _ => ⟨by omega, fun hu => ⟨fun h2 => s90 1 (by rw [if_pos ⟨h2, hu⟩]), fun h2 => s90 0 (by rw [if_neg (fun q => h2 q.1)])⟩, fun hu => s90 0 (by rw [if_neg (fun q => hu q.2)])⟩, fun z => by omega⟩
  have := key D.2.1 [] rfl
  rw [show ((600 * bk + ([] : List Nd).length : Nat) : Int) = 600 * (bk : Int) by simp] at this
  exact this
theorem c_rname {k i : Int} (hi31 : -2147483648 ≤ i ∧ i < 2147483648) (hH : RefH D MI ML) (hW : D.2.1 ≠ [] → WfN D.2.1) (hQ : Q (some (vI (nmBS D.2.1 k i))) (MI, ML, GR d e nw th x)) :
    wp cs mX12_name KD Q 0 (padL [vR 124, vI k, vI i] 3) [] (KD, MI, ML, GR d e nw th x) := by
  unfold nmBS at hQ
  refine v_X12_name_0 (c_isNode hH (rI_mk ?_))
  by_cases hin : 0 ≤ k ∧ k < (D.2.1.length : Nat)
  rotate_left
  · rw [if_neg hin] at hQ ⊢
    exact ⟨fun _ => hQ, fun z => absurd rfl z⟩
  rw [if_pos hin] at hQ ⊢
  refine ⟨fun z => by omega, fun _ => ?_⟩
  rcases hH with ⟨h1, h2⟩ | ⟨h1, bk, T, n, pl, hH⟩
  · rw [h1] at hin; have : k < 0 := hin.2; omega
  have p7 := hH.1.2.2.2.2.2.2
  have p5 := hH.1.2.2.2.2.1
  have p4 := hH.1.2.2.2.1
  have h600 := hH.1.2.1.2.1
  obtain ⟨kN, rfl⟩ : ∃ j : Nat, k = (j : Int) := ⟨k.toNat, by omega⟩
  obtain ⟨y, hy⟩ : ∃ y, D.2.1[kN]? = some y := ⟨_, List.getElem?_eq_getElem (by omega)⟩
  have hW := hW (fun z => by rw [z] at hy; simp at hy)
  have hgd : D.2.1.getD kN (0, 0, [], [], 0, 0) = y := by rw [List.getD_eq_getElem?_getD, hy]; rfl
  rw [Int.toNat_natCast, hgd] at hQ
  have hNy := hH.1.2.1.2.2 kN y hy
  have hky := kinds hW hy
  unfold byS at hQ
  have hlen : y.2.2.1.length ≤ 6000 := by
    by_cases h12 : y.1 = 1 ∨ y.1 = 2
    · have hs := hNy.2.2.1.2 h12
      have q1 := hs.1
      have q2 := hs.2.1
      have q3 := hs.2.2.1
      omega
    · by_cases hk0 : kN = 0
      · subst hk0; rw [hW.1] at hy; cases hy; simp
      · rcases (hW.2 kN y hy (by omega)).1.1 with v | v | v
        · exact absurd (Or.inl v.1) h12
        · exact absurd (Or.inr v.1) h12
        · rw [v.2.1]; simp
  rw [hH.2.1, show (600 * (bk : Int) + ((kN : Nat) : Int)).toNat = 600 * bk + kN by omega, hNy.2.2.1.1]
  refine ⟨by omega, by omega, by omega, by omega, w_X12_in (rI_mk ?_)⟩
  by_cases hi : 0 ≤ i ∧ i < (y.2.2.1.length : Nat)
  · rw [if_pos hi] at hQ
    rw [show bI (0 ≤ i ∧ i ≤ ((y.2.2.1.length : Nat) : Int) - 1) = 1 from if_pos (by omega)]
    refine ⟨fun z => by omega, fun _ => ?_⟩
    rw [hH.2.1, show (600 * (bk : Int) + ((kN : Nat) : Int)).toNat = 600 * bk + kN by omega]
    have h12 : y.1 = 1 ∨ y.1 = 2 := by
      by_cases hk0 : kN = 0
      · subst hk0; rw [hW.1] at hy; cases hy; simp at hi; omega
      · rcases (hW.2 kN y hy (by omega)).1.1 with v | v | v
        · exact Or.inl v.1
        · exact Or.inr v.1
        · rw [v.2.1] at hi; simp at hi; omega
    have hs := hNy.2.2.1.2 h12
    have q1 := hs.1
    have q2 := hs.2.1
    have q3 := hs.2.2.1
    have hat := slc_at hs (i := i.toNat) (by omega)
    have htx := p5 ((MI 132 (600 * bk + kN) - 6000 * (bk : Int)).toNat + i.toNat) (by omega)
    rw [show (MI 132 (600 * bk + kN) + i).toNat = 6000 * bk + ((MI 132 (600 * bk + kN) - 6000 * (bk : Int)).toNat + i.toNat) by omega, htx, hat]
    refine ⟨by omega, by omega, by omega, by omega, by omega, ?_⟩
    obtain ⟨c, hc⟩ : ∃ c, y.2.2.1[i.toNat]? = some c := ⟨_, List.getElem?_eq_getElem (by omega)⟩
    have hk0 : kN ≠ 0 := fun w => by subst w; rw [hW.1] at hy; cases hy; simp at h12
    have hnb := (hW.2 kN y hy (by omega)).1.2.1 c (List.mem_of_getElem? hc)
    rw [List.getD_eq_getElem?_getD, hc] at hQ ⊢
    show Q (some (vI (i_and c 255))) _
    rw [and255 (by unfold isNb at hnb; omega)]
    exact hQ
  · rw [if_neg hi] at hQ
    rw [show bI (0 ≤ i ∧ i ≤ ((y.2.2.1.length : Nat) : Int) - 1) = 0 from if_neg (by omega)]
    exact ⟨fun _ => hQ, fun z => absurd rfl z⟩
theorem c_rstring {k i : Int} (hi31 : -2147483648 ≤ i ∧ i < 2147483648) (hH : RefH D MI ML) (hW : D.2.1 ≠ [] → WfN D.2.1) (hQ : Q (some (vI (stBS D.2.1 k i))) (MI, ML, GR d e nw th x)) :
    wp cs mX12_string KD Q 0 (padL [vR 124, vI k, vI i] 3) [] (KD, MI, ML, GR d e nw th x) := by
  unfold stBS at hQ
  refine v_X12_string_0 (c_isNode hH (rI_mk ?_))
  by_cases hin : 0 ≤ k ∧ k < (D.2.1.length : Nat)
  rotate_left
  · rw [if_neg hin] at hQ ⊢
    exact ⟨fun _ => hQ, fun z => absurd rfl z⟩
  rw [if_pos hin] at hQ ⊢
  refine ⟨fun z => by omega, fun _ => ?_⟩
  rcases hH with ⟨h1, h2⟩ | ⟨h1, bk, T, n, pl, hH⟩
  · rw [h1] at hin; have : k < 0 := hin.2; omega
  obtain ⟨kN, rfl⟩ : ∃ j : Nat, k = (j : Int) := ⟨k.toNat, by omega⟩
  obtain ⟨y, hy⟩ : ∃ y, D.2.1[kN]? = some y := ⟨_, List.getElem?_eq_getElem (by omega)⟩
  have hW := hW (fun z => by rw [z] at hy; simp at hy)
  have hgd : D.2.1.getD kN (0, 0, [], [], 0, 0) = y := by rw [List.getD_eq_getElem?_getD, hy]; rfl
  rw [Int.toNat_natCast, hgd] at hQ
  exact c_stringAt hi31 hH hW hy (rI_mk hQ)
theorem c_findings (hbd : b = 38 ∨ b = 81) (hD : DocC b T n N pl D.1 D.2.1 [] D.2.2 MI ML) (hJ : JuC (judgeS D) MI) (hQ : Q (some (vI (fnS D))) (MI, ML, GR b e nw th x)) :
    wp cs mX11_findings KD Q 0 (padL [vR 0] 1) [] (KD, MI, ML, GR b e nw th x) := by
  have hDt := hD.2.2.2.2.2.1
  unfold fnS at hQ
  refine v_X11_findings_0 hbd ?_
  cases ho : D.1.1 with
  | none =>
    rw [ho] at hDt hQ
    have h17 : MI b 17 = -1 := hDt
    rw [h17]
    exact ⟨fun _ => hQ, fun z => absurd rfl z⟩
  | some o =>
    rw [ho] at hDt hQ
    have hid : isId N (MI b 17) o := hDt
    have h0 := hid.1
    rw [hJ.1]
    exact ⟨fun z => by omega, fun _ => hQ⟩
theorem c_rfindings (hH : RefH D MI ML) (hJ : JuR (judgeS D) MI) (hQ : Q (some (vI (fnS D))) (MI, ML, GR d e nw th x)) :
    wp cs mX12_findings KD Q 0 (padL [vR 124] 1) [] (KD, MI, ML, GR d e nw th x) := by
  unfold fnS at hQ
  rcases hH with ⟨h1, h2⟩ | ⟨h1, bk, T, n, pl, hH⟩
  · rw [h1] at hQ
    exact v_X12_findings_0 ⟨fun _ => hQ, fun z => absurd h2 z⟩
  · have p7 := hH.1.2.2.2.2.2.2
    have hDt := hH.1.1.1
    refine v_X12_findings_0 ⟨fun z => by omega, fun _ => ?_⟩
    rw [hH.2.1]
    simp only [Int.toNat_natCast]
    refine ⟨by omega, ?_⟩
    cases ho : D.1.1 with
    | none =>
      rw [ho] at hDt hQ
      have h127 : MI 127 bk = 0 := hDt
      rw [h127]
      exact ⟨fun _ => hQ, fun z => absurd rfl z⟩
    | some o =>
      rw [ho] at hDt hQ
      have h127 : MI 127 bk = 1 := hDt.1
      rw [h127, hJ.1]
      exact ⟨fun z => by omega, fun _ => hQ⟩
theorem c_finding {i w : Int} (hbd : b = 38 ∨ b = 81) (hJ : JuC (judgeS D) MI) (hQ : Q (some (vI (fgS D i w))) (MI, ML, GR b e nw th x)) :
    wp cs mX11_finding KD Q 0 (padL [vR 0, vI i, vI w] 3) [] (KD, MI, ML, GR b e nw th x) := by
  unfold fgS at hQ
  have h8 := hJ.2.1
  refine v_X11_finding_0 hbd ⟨fun h0 => ?_, fun h0 => ?_⟩
  · rw [if_neg (by omega)] at hQ; exact hQ
  rw [hJ.1]
  refine ⟨fun hlt => ?_, fun hge => ?_⟩
  · rw [if_pos ⟨h0, hlt⟩] at hQ
    obtain ⟨v, hv⟩ : ∃ v, (judgeS D)[i.toNat]? = some v := ⟨_, List.getElem?_eq_getElem (by omega)⟩
    obtain ⟨a, s⟩ := v
    have hj := hJ.2.2 i.toNat a s hv
    rw [List.getD_eq_getElem?_getD, hv] at hQ
    simp only [Option.getD_some] at hQ
    refine ⟨fun hw => v_X4_numberOf_0 ⟨by omega, rI_mk ?_⟩, fun hw => ⟨fun hw1 => v_X4_subjectOf_0 ⟨by omega, rI_mk ?_⟩, fun hw1 => ?_⟩⟩
    · rw [if_pos hw] at hQ
      rw [hj.1, i_div_pos (by omega) (by omega), show (a * 1024 + s) / 1024 = a by omega]; exact hQ
    · rw [if_neg hw, if_pos hw1] at hQ
      rw [hj.1, i_rem_pos (by omega) (by omega), show (a * 1024 + s) % 1024 = s by omega]; exact hQ
    · rw [if_neg hw, if_neg hw1] at hQ; exact hQ
  · rw [if_neg (by omega)] at hQ; exact hQ
theorem c_rfinding {i w : Int} (hH : RefH D MI ML) (hJ : JuR (judgeS D) MI) (hQ : Q (some (vI (fgS D i w))) (MI, ML, GR d e nw th x)) :
    wp cs mX12_finding KD Q 0 (padL [vR 124, vI i, vI w] 3) [] (KD, MI, ML, GR d e nw th x) := by
  have h8 := hJ.2.1
  refine v_X12_finding_0 (c_rfindings hH hJ (rI_mk ?_))
  unfold fgS at hQ
  unfold fnS
  cases ho : D.1.1 with
  | none =>
    rw [judgeS_none ho] at hQ
    rw [if_neg (fun w => by have h2 : i < 0 := w.2; omega)] at hQ
    simp only
    exact ⟨fun hlt => ⟨fun _ => hQ, fun w => by omega⟩, fun _ => hQ⟩
  | some o =>
    simp only
    refine ⟨fun hlt => ⟨fun h0 => ?_, fun h0 => ?_⟩, fun hge => ?_⟩
    · rw [if_neg (by omega)] at hQ; exact hQ
    · rw [if_pos ⟨h0, hlt⟩] at hQ
      obtain ⟨v, hv⟩ : ∃ v, (judgeS D)[i.toNat]? = some v := ⟨_, List.getElem?_eq_getElem (by omega)⟩
      obtain ⟨a, s⟩ := v
      have hj := hJ.2.2 i.toNat a s hv
      rw [List.getD_eq_getElem?_getD, hv] at hQ
      simp only [Option.getD_some] at hQ
      rw [hj.1, hj.2]
      refine ⟨fun hw => ⟨by omega, ?_⟩, fun hw => ⟨fun hw1 => ⟨by omega, ?_⟩, fun hw1 => ?_⟩⟩
      · rw [if_pos hw] at hQ; exact hQ
      · rw [if_neg hw, if_pos hw1] at hQ; exact hQ
      · rw [if_neg hw, if_neg hw1] at hQ; exact hQ
    · rw [if_neg (by omega)] at hQ; exact hQ
end Pc03
