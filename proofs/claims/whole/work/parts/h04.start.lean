/-! What holds behind the two constructors. -/
theorem lk_len : ∀ (t : List (Nat × List Nat)) (i : Nat), (t.all fun q => decide (q.2.length ≤ 110)) = true → ((t.lookup i).getD []).length ≤ 110
  | [], i, _ => Nat.zero_le _
  | (a, l) :: t, i, h => by
    rw [List.all_cons, Bool.and_eq_true, decide_eq_true_iff] at h
    rw [List.lookup_cons]
    split
    · exact h.1
    · exact lk_len t i h.2
theorem lk_none : ∀ (t : List (Nat × List Nat)) (i : Nat), i ∉ t.map (fun q => q.1) → t.lookup i = none
  | [], i, _ => rfl
  | (a, l) :: t, i, h => by
    rw [List.map_cons, List.mem_cons, not_or] at h
    rw [List.lookup_cons]
    have : (i == a) = false := by simpa using h.1
    rw [this]
    exact lk_none t i h.2
def grRows : List Nat := grL.map fun q => q.1
theorem gr_in : (grRows.all fun i => (List.range 110).all fun k => decide (rdL 1000000 kR_202 i k = GR 38 81 25 26 3 i k)) = true := by decide +kernel
theorem gr_rows : (kR_202.all fun q => grRows.contains q.1 && decide (q.2.1 + q.2.2.1 ≤ 110)) = true := by decide +kernel
theorem gr_len : (grL.all fun q => decide (q.2.length ≤ 110)) = true := by decide +kernel
theorem gr_fst : grRows.contains 0 = true ∧ grRows.contains 2 = true ∧ grRows.contains 23 = true := by decide +kernel
theorem gr_end : rdL 1000000 kR_202 = GR 38 81 25 26 3 := by
  funext i k
  by_cases h : i ∈ grRows ∧ k < 110
  · have h1 := List.all_eq_true.mp gr_in i h.1
    have h2 := List.all_eq_true.mp h1 k (List.mem_range.mpr h.2)
    exact of_decide_eq_true h2
  · have hl : rdL 1000000 kR_202 i k = 1000000 := by
      unfold rdL
      rw [List.find?_eq_none.mpr (fun q hq => ?_)]
      have h1 := List.all_eq_true.mp gr_rows q hq
      rw [Bool.and_eq_true, decide_eq_true_iff] at h1
      rw [decide_eq_true_iff]
      intro w
      refine h ⟨?_, by have := w.2.2; omega⟩
      rw [← w.1]
      exact List.contains_iff_mem.mp h1.1
    have hr : GR 38 81 25 26 3 i k = 1000000 := by
      unfold GR
      have n0 : ¬ (i = 0 ∧ k = 8) := fun w => h ⟨by rw [w.1]; exact List.contains_iff_mem.mp gr_fst.1, by omega⟩
      have n1 : ¬ (i = 0 ∧ k = 9) := fun w => h ⟨by rw [w.1]; exact List.contains_iff_mem.mp gr_fst.1, by omega⟩
      have n2 : ¬ (i = 23 ∧ k = 2) := fun w => h ⟨by rw [w.1]; exact List.contains_iff_mem.mp gr_fst.2.2, by omega⟩
      have n3 : ¬ (i = 23 ∧ k = 3) := fun w => h ⟨by rw [w.1]; exact List.contains_iff_mem.mp gr_fst.2.2, by omega⟩
      have n4 : ¬ (i = 2 ∧ k = 0) := fun w => h ⟨by rw [w.1]; exact List.contains_iff_mem.mp gr_fst.2.1, by omega⟩
      rw [if_neg n0, if_neg n1, if_neg n2, if_neg n3, if_neg n4]
      by_cases hi : i ∈ grRows
      · have hk : 110 ≤ k := by
          rcases Nat.lt_or_ge k 110 with z | z
          · exact absurd ⟨hi, z⟩ h
          · exact z
        rw [List.getD_eq_getElem?_getD, List.getElem?_eq_none (Nat.le_trans (lk_len grL i gr_len) hk)]; rfl
      · rw [lk_none grL i hi]; rfl
    rw [hl, hr]
theorem inv_start : InvM (rdL 0 kI_48, rdL 0 kL_2, rdL 1000000 kR_202) := by
  obtain ⟨MI, hM⟩ : ∃ MI, MI = rdL 0 kI_48 := ⟨_, rfl⟩
  have v : ∀ i k x, rdL 0 kI_48 i k = x → MI i k = x := fun i k x h => by rw [hM]; exact h
  have z : ∀ i, noR kI_48 i = true → ∀ k, MI i k = 0 := fun i h k => by rw [hM]; exact rdL_row h k
  have heads : ∀ q, q < 256 → MI 46 q = -1 := by
    have : ∀ q, q < 256 → rdL 0 kI_48 46 q = -1 := by decide +kernel
    rw [hM]; exact this
  rw [gr_end, ← hM]
  have e010 : MI 0 10 = 0 := v 0 10 0 (by decide +kernel)
  have e011 : MI 0 11 = -1 := v 0 11 (-1) (by decide +kernel)
  have e1241 : MI 124 1 = 0 := v 124 1 0 (by decide +kernel)
  have e1246 : MI 124 6 = -1 := v 124 6 (-1) (by decide +kernel)
  have r1 := z 1 (by decide +kernel)
  have r125 := z 125 (by decide +kernel)
  have r126 := z 126 (by decide +kernel)
  refine ⟨D0, [], [], [], 38, 81, 25, 26, 3, MI, rdL 0 kL_2, rfl, Or.inl ⟨rfl, rfl⟩, Or.inl ⟨rfl, rfl⟩, ⟨⟨fun _ => 0, 0, [], 0, by decide, ⟨v 39 7 0 (by decide +kernel), by simp, fun k hk => by omega, fun k x h => (by simp at h), fun q hq => ?_, List.nodup_nil⟩, fun k x h => (by simp at h), ⟨v 47 10 0 (by decide +kernel), by simp [D0], fun j q h => (by simp [D0] at h)⟩, ⟨v 58 11 0 (by decide +kernel), by simp [D0], v 58 12 0 (by decide +kernel), by simp [D0, tkA], fun r q h => (by simp [D0] at h)⟩, ⟨v 38 16 0 (by decide +kernel), by simp [D0], v 38 15 0 (by decide +kernel), fun k x h => (by simp [D0] at h)⟩, v 38 17 (-1) (by decide +kernel), ⟨by rw [v 38 14 0 (by decide +kernel)]; omega, by rw [v 38 14 0 (by decide +kernel), v 38 15 0 (by decide +kernel)]; rfl, by omega⟩, v 38 18 0 (by decide +kernel)⟩, ⟨v 11 3 0 (by decide +kernel), by simp [judgeS, D0], fun i a s h => (by simp [judgeS, D0] at h)⟩, ⟨v 23 1 0 (by decide +kernel), by simp, fun i a h => (by simp at h)⟩, ⟨v 28 16 0 (by decide +kernel), by simp [sumL], by simp, rfl, fun i y h => (by simp at h), fun j c h => (by simp at h), ⟨fun i q h => (by simp at h), v 28 17 0 (by decide +kernel)⟩⟩, fun k => by rw [r1]; omega, by rw [e010]; omega⟩, ⟨Or.inl ⟨rfl, v 124 9 0 (by decide +kernel)⟩, by rw [v 124 7 0 (by decide +kernel)]; omega, fun h => ?_, ⟨v 124 65 0 (by decide +kernel), by simp [judgeS, D0], fun i a s h => (by simp [judgeS, D0] at h)⟩, ⟨v 124 68 0 (by decide +kernel), by simp, fun i a h => (by simp at h)⟩, ⟨v 124 86 0 (by decide +kernel), by simp, rfl, fun z hz => (by cases hz), fun i y h => (by simp at h), ⟨fun i q h => (by simp at h), fun z => absurd rfl z⟩⟩, fun k => by rw [r125]; omega, fun k => by rw [r126]; omega⟩, ⟨by rw [e1241, e010], by rw [e1246, e011], fun k hk => by rw [e010] at hk; omega⟩, fun h => absurd rfl h⟩
  · rw [heads q hq]; rfl
  · rw [v 124 9 0 (by decide +kernel)] at h; omega
theorem KD_all : KD.take 201 = KD := List.take_of_length_le (by rw [KD_len]; exact Nat.le_refl _)
theorem law_start {cs : Cs} {Q : Option AV → Mm → Prop} (hQ : ∀ M, Q (some (vI 1)) M) (hn : cs.2.2.2.2.1 ≤ 3072) (hsc : ∀ k, -2147483648 ≤ cs.2.2.2.2.2.1 k ∧ cs.2.2.2.2.2.1 k < 2147483648) : wp cs mL_law KD Q 0 (padL [vR 1000002] 4) [] ([], rdL 0 kI_0, rdL 0 kL_0, rdL 1000000 kR_0) := by
  refine wp_L (L' := [some (vR 1000002), none, none, none]) rfl ?_
  have main : wp cs mL_law (KD.take 201) Q 0 [some (vR 1000002), none, none, none] [] (KD.take 0, rdL 0 kI_0, rdL 0 kL_0, rdL 1000000 kR_0) := by
    refine kn_new (j := 0) dL_law_0 nL_7 (by decide +kernel) (by decide) (by decide +kernel) (by decide +kernel) (by decide +kernel) ?_
    refine wp_dup dL_law_3 (fun x e => by cases e) ?_
    refine wp_so (σ' := (KD.take 1, rdL 0 kI_0, rdL 0 kL_0, rdL 1000000 kR_0)) rfl ?_
    refine kn_call (mt' := mX11_init) (n := 0) (as := []) (rest := [vR 0]) (j' := 124) (il' := kI_47) (ll' := kL_2) (rl' := kR_126) dL_law_4 lL_9 kX11_init oX11_init rfl rfl (by decide) (by decide +kernel) rfl (Nat.le_of_ble_eq_true rfl) (by decide) rfl (Nat.le_of_ble_eq_true rfl) (by decide) (by decide) kc_X11_init_0 ?_
    refine wp_astore_n dL_law_7 rfl (Or.inl (by decide)) (by decide) (wp_L (L' := [some (vR 1000002), some (vR 0), none, none]) rfl ?_)
    refine wp_pc (pc' := 8) rfl ?_
    refine kn_new (j := 124) dL_law_8 nL_10 (by decide +kernel) (by decide) (by decide +kernel) (by decide +kernel) (by decide +kernel) ?_
    refine wp_dup dL_law_11 (fun x e => by cases e) ?_
    refine wp_so (σ' := (KD.take 125, rdL 0 kI_47, rdL 0 kL_2, rdL 1000000 kR_126)) rfl ?_
    refine kn_call (mt' := mX12_init) (n := 0) (as := []) (rest := [vR 124]) (j' := 201) (il' := kI_48) (ll' := kL_2) (rl' := kR_202) dL_law_12 lL_12 kX12_init oX12_init rfl rfl (by decide) (by decide +kernel) rfl (Nat.le_of_ble_eq_true rfl) (by decide) rfl (Nat.le_of_ble_eq_true rfl) (by decide) (by decide) kc_X12_init_124 ?_
    refine wp_astore_n dL_law_15 rfl (Or.inl (by decide)) (by decide) (wp_L (L' := [some (vR 1000002), some (vR 0), some (vR 124), none]) rfl ?_)
    refine wp_pc (pc' := 16) rfl ?_
    refine wp_iconst dL_law_16 (by decide) ?_
    refine wp_istore_n dL_law_17 rfl (by decide) (wp_L (L' := LL 0) rfl ?_)
    refine wp_pc (pc' := 18) rfl ?_
    rw [KD_all]
    exact law_loop hQ hn hsc (cs.2.2.2.2.1 + 1) 0 _ (by omega) (by omega) (by omega) inv_start
  rw [KD_all] at main
  exact main
