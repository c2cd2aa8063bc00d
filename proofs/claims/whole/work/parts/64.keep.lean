/-! How many NAMES there can be; a NAME is kept, the whole DOCUMENT's picture stays. -/
def nmW (N : List By) : Nat := (N.map fun x => x.length + 1).sum
def NmK (N : List By) (h : Int) : Prop := (nmW N : Int) ≤ h ∧ ∀ x ∈ N, isNs (x.headD 0)
theorem pigeon {α : Type} [DecidableEq α] : ∀ (A C : List α), A.Nodup → (∀ a ∈ A, a ∈ C) → A.length ≤ C.length
  | [], _, _, _ => Nat.zero_le _
  | a :: t, C, hn, hs => by
    have h1 := hs a List.mem_cons_self
    have h2 := List.nodup_cons.mp hn
    have := pigeon t (C.erase a) h2.2 (fun z hz => (List.mem_erase_of_ne (by intro q; subst q; exact h2.1 hz)).mpr (hs z (List.mem_cons_of_mem _ hz)))
    rw [List.length_erase_of_mem h1] at this
    have hp : 0 < C.length := List.length_pos_of_mem h1
    simp only [List.length_cons]
    omega
def one53 : List By := ((List.range 123).filter fun (c : Nat) => decide (isNs (c : Int))).map fun (c : Nat) => [(c : Int)]
theorem one53_len : one53.length = 53 := by decide +kernel
theorem nmW_ge : ∀ N : List By, (∀ x ∈ N, x ≠ []) → 3 * N.length ≤ nmW N + (N.filter fun x => decide (x.length = 1)).length
  | [], _ => by simp [nmW]
  | x :: t, h => by
    have := nmW_ge t (fun y hy => h y (List.mem_cons_of_mem _ hy))
    have hx : 0 < x.length := List.length_pos_iff.mpr (h x List.mem_cons_self)
    simp only [nmW, List.map_cons, List.sum_cons, List.length_cons, List.filter_cons] at *
    split
    · simp only [List.length_cons]; next h1 => simp at h1; omega
    · next h1 => simp at h1; omega
theorem nm_room {N : List By} {h : Int} (hN : N.Nodup) (h0 : ∀ x ∈ N, x ≠ []) (hk : NmK N h) (hh : h ≤ 6000) : N.length < 2020 := by
  have h1 := nmW_ge N h0
  have h2 : (N.filter fun x => decide (x.length = 1)).length ≤ 53 := by
    rw [← one53_len]
    refine pigeon _ _ (List.Pairwise.filter _ hN) (fun a ha => ?_)
    rw [List.mem_filter] at ha
    obtain ⟨ha1, ha2⟩ := ha
    have ha3 := hk.2 a ha1
    simp only [decide_eq_true_eq] at ha2
    match a, ha2 with
    | [c], _ =>
      simp only [List.headD_cons] at ha3
      unfold one53
      refine List.mem_map.mpr ⟨c.toNat, List.mem_filter.mpr ⟨List.mem_range.mpr (by omega), ?_⟩, ?_⟩
      · simp only [decide_eq_true_eq]; rw [show ((c.toNat : Nat) : Int) = c by omega]; exact ha3
      · rw [show ((c.toNat : Nat) : Int) = c by omega]
  have h3 := hk.1
  omega
theorem nmW_app (N : List By) (x : By) : nmW (N ++ [x]) = nmW N + (x.length + 1) := by simp [nmW]
theorem NmK_mono {N : List By} {h h' : Int} (k : NmK N h) (hh : h ≤ h') : NmK N h' := ⟨by have := k.1; omega, k.2⟩
section P64
variable {cs : Cs} {Q : Option AV → Mm → Prop} {MI ML MI' OI OL : Nat → Nat → Int} {b d e nw th : Nat} {T : Nat → Int} {n : Int} {N : List By}
theorem NamC_ne (h : NamC b T n N MI) : ∀ x ∈ N, x ≠ [] := fun x hx => by
  obtain ⟨k, hk, rfl⟩ := List.getElem_of_mem hx
  exact (h.2.2.2.1 k _ (List.getElem?_eq_getElem hk)).2.2
theorem CurC_fr {h : Int} (hc : CurC b T n OI OL h MI ML) {MI' ML' : Nat → Nat → Int} (h1 : b = 38 ∨ b = 81) (a : ∀ i, ¬ (b ≤ i ∧ i ≤ b + 42) → ¬ (4 ≤ i ∧ i ≤ 10) → MI' i = MI i) (c : ∀ i, ¬ regC b i → ML' i = ML i) : CurC b T n OI OL h MI' ML' := by
  obtain ⟨a1, a2, a3, a4, a5, a6⟩ := hc
  refine ⟨by rw [a 1 (by omega) (by omega)]; exact a1, by rw [a 2 (by omega) (by omega)]; exact a2, ⟨a3.1, a3.2.1, by rw [a 2 (by omega) (by omega)]; exact a3.2.2⟩, by rw [a 2 (by omega) (by omega)]; exact a4, a5, fun i hi => ?_⟩
  have h2 : ¬ (b ≤ i ∧ i ≤ b + 42) := fun q => hi (Or.inr (Or.inr q))
  have h3 : ¬ (4 ≤ i ∧ i ≤ 10) := fun q => hi (Or.inr (Or.inl q))
  exact ⟨(a i h2 h3).trans (a6 i hi).1, (c i hi).trans (a6 i hi).2⟩
theorem ob_byte {T : Nat → Int} {n h : Int} (hb : ∀ k, -128 ≤ T k ∧ T k < 128) (h0 : 0 ≤ h ∧ h < n) (hc : 0 ≤ ob T n h ∧ ob T n h < 128) : T h.toNat = ob T n h := by
  rw [ob_in h0] at hc ⊢
  have h1 := hb h.toNat
  have e1 := tc6 (x := T h.toNat) (by omega)
  revert hc
  unfold i_and
  intro hc
  have h2 : (Int32.ofInt (T h.toNat) &&& Int32.ofInt 255).toInt = (Int32.ofInt (T h.toNat)).toBitVec.toNat % 256 := by
    show (Int32.ofInt (T h.toNat) &&& Int32.ofInt 255).toBitVec.toInt = _
    have h3 : (Int32.ofInt (T h.toNat) &&& Int32.ofInt 255).toBitVec.toNat = (Int32.ofInt (T h.toNat)).toBitVec.toNat % 256 := by
      rw [Int32.toBitVec_and, BitVec.toNat_and]
      exact Nat.and_two_pow_sub_one_eq_mod _ 8
    rw [BitVec.toInt_eq_toNat_of_lt (by omega), h3]; rfl
  have h4 : (Int32.ofInt (T h.toNat)).toInt = (Int32.ofInt (T h.toNat)).toBitVec.toInt := rfl
  rw [h2] at hc ⊢
  rw [BitVec.toInt_eq_toNat_cond] at h4
  split at h4 <;> omega
/-- what every kept NAME is -/
theorem nb_head {T : Nat → Int} {n f g : Int} (hb : ∀ k, -128 ≤ T k ∧ T k < 128) (h0 : 0 ≤ f) (hg : nmS T n f = .inr g) : (nb T f g) ≠ [] ∧ isNs ((nb T f g).headD 0) := by
  have h1 := nmS_ok hg
  have hl : (nb T f g).length = (g - f).toNat := nb_len
  have h2 : isNs (ob T n f) := by
    unfold nmS at hg
    split at hg
    · assumption
    · cases hg
  have hfn : f < n := by
    by_cases q : f < n
    · exact q
    · rw [ob_out (by omega)] at h2; omega
  have h3 := ob_byte hb ⟨h0, hfn⟩ (by omega)
  have h4 : (nb T f g)[0]? = some (T (f.toNat + 0)) := nb_get (by omega)
  refine ⟨fun q => by rw [q] at hl; simp at hl; omega, ?_⟩
  rw [List.headD_eq_head?_getD, List.head?_eq_getElem?, h4]
  simp only [Nat.add_zero, Option.getD_some]
  rw [h3]; exact h2
theorem IdxC_add {ds : List Dc} {rs : List Rl} {x : By} (hI : IdxC b N ds rs MI) (hS : SpcC b N ds MI ML) (hR : RulC b T n N rs MI) (hx : x ∉ N)
    (h3 : ∀ k, MI' (b + 3) k = if k = N.length then -1 else MI (b + 3) k) (h4 : ∀ k, MI' (b + 4) k = if k = N.length then -1 else MI (b + 4) k) : IdxC b (N ++ [x]) ds rs MI' := by
  intro k y hy
  by_cases hk : k < N.length
  · rw [List.getElem?_append_left hk] at hy
    rw [h3, h4, if_neg (by omega), if_neg (by omega)]
    exact hI k y hy
  · have hk2 := (List.getElem?_eq_some_iff.mp hy).1
    simp only [List.length_append, List.length_singleton] at hk2
    have hk3 : k = N.length := by omega
    subst hk3
    rw [List.getElem?_append_right (Nat.le_refl _)] at hy
    simp at hy
    subst hy
    rw [h3, h4, if_pos rfl, if_pos rfl]
    refine ⟨(fIdx_none fun a ha => ?_).symm, (fIdx_none fun a ha => ?_).symm⟩
    · obtain ⟨j, hj, rfl⟩ := List.getElem_of_mem ha
      have := (hS.2.2 j _ (List.getElem?_eq_getElem hj)).2.1.2
      simp only [clN, decide_eq_false_iff_not]
      exact fun q => hx (q ▸ List.mem_of_getElem? this)
    · obtain ⟨j, hj, rfl⟩ := List.getElem_of_mem ha
      have := (hR.2.2.2.2 j _ (List.getElem?_eq_getElem hj)).2.1.2
      simp only [ofN, decide_eq_false_iff_not]
      exact fun q => hx (q ▸ List.mem_of_getElem? this)
/-- a NAME is kept: the DOCUMENT's picture stays -/
theorem c_keepD (hbd : b = 38 ∨ b = 81) (hby : ∀ k, -128 ≤ T k ∧ T k < 128) {h f : Int} {pl : Nat} {D : Dt} {ns : List Nd} {op : List Int} {dp : Int} (hc : CurC b T n OI OL h MI ML) (hl : lastN MI f (h - f)) (hf : 0 ≤ f) (hg : nmS T n f = .inr h) (hD : DocC b T n N pl D ns op dp MI ML)
    (hk : NmK N (f - 1))
    (hQ : ∀ N' i MI', DocC b T n N' pl D ns op dp MI' ML → extN N N' → isId N' i (nb T f h) → NmK N' h → CurC b T n OI OL h MI' ML → (∀ i, ¬ (b + 1 ≤ i ∧ i ≤ b + 8) → MI' i = MI i) → Q (some (vI i)) (MI', ML, GR d e nw th 1)) :
    wp cs mX5_keep KD Q 0 (padL [vR (b + 1), vR 2] 5) [] (KD, MI, ML, GR d e nw th 1) := by
  have h1 := nmS_ok hg
  have hh := hc.2.2.2.2.1
  have hn := hc.2.2.1
  have hs : slc (MI 1) n (MI 2 3) (MI 2 4) (nb T f h) := by
    rw [hc.1, hl.1, hl.2]; exact slc_nb hf (by omega) (by omega)
  obtain ⟨hx0, hxs⟩ := nb_head hby hf hg
  have hroom := nm_room hD.1.2.2.2.2.2 (NamC_ne hD.1) hk (by omega)
  refine c_keep hbd hs (fun k _ => by rw [hc.1]) hn.2.1 hx0 hD.1 hroom (fun i hi => ?_) (fun hx MI' hN' hfr h3 h4 => ?_)
  · exact hQ N i MI hD (extN_rfl N) hi (NmK_mono hk (by omega)) hc (fun _ _ => rfl)
  · refine hQ (N ++ [nb T f h]) _ MI' ?_ (extN_app N _) ⟨by omega, by simp⟩ ⟨?_, ?_⟩ (CurC_fr hc hbd (fun i h5 _ => hfr i (by omega)) (fun _ _ => rfl)) hfr
    · have up : ∀ {lo hi : Nat}, b + 9 ≤ lo → agr MI MI' lo hi := fun q i q1 q2 => hfr i (by omega)
      have eb : MI' b = MI b := hfr b (by omega)
      have hx' := extN_app N (nb T f h)
      refine ⟨hN', IdxC_add hD.2.1 hD.2.2.1 hD.2.2.2.1 hx h3 h4, SpcC_fr (SpcC_ext hx' hD.2.2.1) (up (by omega)) (fun _ _ _ => rfl), RulC_fr (RulC_ext hx' hD.2.2.2.1) (up (by omega)) (hfr _ (by omega)) (by rw [eb]), NodC_fr (NodC_ext hx' hD.2.2.2.2.1) (up (by omega)) (by rw [eb]) (by rw [eb]) (by rw [eb]), DtC_fr (DtC_ext hx' hD.2.2.2.2.2.1) (by rw [eb]), ?_, ?_⟩
      · rw [eb]; exact hD.2.2.2.2.2.2.1
      · rw [eb]; exact hD.2.2.2.2.2.2.2
    · rw [nmW_app, nb_len]; have := hk.1; omega
    · intro y hy
      rcases List.mem_append.mp hy with hy | hy
      · exact hk.2 y hy
      · rw [List.mem_singleton] at hy; subst hy; exact hxs
end P64
