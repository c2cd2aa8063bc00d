theorem fIdx_some {α : Type} {p : α → Bool} : ∀ {l : List α} {k : Nat}, fIdx p l k ≠ -1 → ∃ (j : Nat) (a : α), fIdx p l k = ((k + j : Nat) : Int) ∧ l[j]? = some a ∧ p a = true ∧ ∀ i z, i < j → l[i]? = some z → p z = false
  | [], _, h => absurd rfl h
  | a :: t, k, h => by
    rw [fIdx_cons] at h ⊢
    by_cases hp : p a = true
    · rw [if_pos hp]; exact ⟨0, a, by simp, by simp, hp, fun i z hi => by omega⟩
    · rw [if_neg hp] at h ⊢
      obtain ⟨j, c, h1, h2, h3, h4⟩ := fIdx_some h
      refine ⟨j + 1, c, by rw [h1]; congr 1; omega, by simpa using h2, h3, fun i z hi hz => ?_⟩
      cases i with
      | zero => simp at hz; subst hz; simpa using hp
      | succ i => exact h4 i z (by omega) (by simpa using hz)
theorem fIdx_m1 {α : Type} {p : α → Bool} : ∀ {l : List α} {k : Nat}, fIdx p l k = -1 → ∀ a ∈ l, p a = false
  | [], _, _, a, ha => by cases ha
  | c :: t, k, h, a, ha => by
    rw [fIdx_cons] at h
    by_cases hp : p c = true
    · rw [if_pos hp] at h; omega
    · rw [if_neg hp] at h
      rcases List.mem_cons.mp ha with rfl | ha
      · simpa using hp
      · exact fIdx_m1 h a ha
theorem fIdx_skip {α : Type} {p : α → Bool} {l : List α} : ∀ (m k : Nat), (∀ i z, k ≤ i → i < k + m → l[i]? = some z → p z = false) → k + m ≤ l.length → fIdx p (l.drop k) k = fIdx p (l.drop (k + m)) (k + m)
  | 0, k, _, _ => rfl
  | m + 1, k, h, hl => by
    have hk : k < l.length := by omega
    rw [List.drop_eq_getElem_cons hk, fIdx_cons, if_neg (by rw [h k l[k] (Nat.le_refl _) (by omega) (List.getElem?_eq_getElem hk)]; decide)]
    rw [fIdx_skip m (k + 1) (fun i z h1 h2 => h i z (by omega) (by omega)) (by omega), show k + 1 + m = k + (m + 1) by omega]
theorem fIdx_drop {α : Type} {p : α → Bool} {l : List α} {k : Nat} (h : fIdx p (l.drop k) k ≠ -1) : ∃ (r : Nat) (a : α), fIdx p (l.drop k) k = (r : Int) ∧ k ≤ r ∧ l[r]? = some a ∧ p a = true ∧ ∀ i z, k ≤ i → i < r → l[i]? = some z → p z = false := by
  obtain ⟨j, a, h1, h2, h3, h4⟩ := fIdx_some h
  refine ⟨k + j, a, h1, by omega, by rw [List.getElem?_drop] at h2; exact h2, h3, fun i z h5 h6 hz => h4 (i - k) z (by omega) (by rw [List.getElem?_drop, show k + (i - k) = i by omega]; exact hz)⟩
def ruI (rs : List Rl) (o a : By) : Int := fIdx (fun x => decide (x.1 = o) && decide (x.2.1 = a)) rs 0
theorem ruI_has {rs : List Rl} {o a : By} : ruI rs o a = -1 ↔ hasR rs o a = false := by
  unfold ruI hasR
  constructor
  · intro h
    rw [List.any_eq_false]
    intro x hx
    rw [fIdx_m1 h x hx]; decide
  · intro h
    refine fIdx_none fun x hx => ?_
    have := List.any_eq_false.mp h x hx
    simpa using this
section P71
variable {cs : Cs} {Q : Option AV → Mm → Prop} {MI ML OI OL : Nat → Nat → Int} {b d e nw th x : Nat} {T : Nat → Int} {n h : Int} {N : List By} {rs : List Rl} {o a : By} {i : Int}
theorem c_rfind_l (hbd : b = 38 ∨ b = 81) (hN : N.Nodup) (hR : RulC b T n N rs MI) (hi : isId N i a ∨ i < 0 ∧ ∀ q ∈ rs, q.2.1 ≠ a) (hQ : Q (some (vI (ruI rs o a))) (MI, ML, GR d e nw th x)) {l1 : Int} : ∀ (m k t : Nat), k + m = rs.length → t ≤ k → fIdx (fun x => decide (x.1 = o) && decide (x.2.1 = a)) (rs.drop k) k = ruI rs o a →
    wp cs mX7_find KD Q 5 [some (vR (b + 20)), some (vI l1), some (vI i), some (vI (fIdx (ofN o) (rs.drop k) k)), some (vI (t : Nat))] [] (KD, MI, ML, GR d e nw th x) := by
  have hz := hR.1
  have hz2 := hR.2.1
  intro m
  induction m using Nat.strongRecOn with
  | _ m ih =>
    intro k t hk ht hr
    have none : fIdx (ofN o) (rs.drop k) k = -1 → ruI rs o a = -1 := fun hm => by
      rw [← hr]
      refine fIdx_none fun q hq => ?_
      have := fIdx_m1 hm q hq
      simp only [ofN] at this
      rw [this]; rfl
    refine v_X7_find_5 hbd ⟨fun hlt => ⟨fun hm => ?_, fun hm => ?_⟩, fun hge => ?_⟩
    · rw [none hm] at hQ; exact hQ
    · obtain ⟨r, q, h1, h2, h3, h4, h5⟩ := fIdx_drop hm
      have hrl := (List.getElem?_eq_some_iff.mp h3).1
      have hA := hR.2.2.2.2 r q h3
      rw [h1]
      simp only [Int.toNat_natCast]
      have h4' : q.1 = o := by simpa [ofN] using h4
      refine ⟨by omega, fun he => ?_, fun he => ⟨by omega, ?_⟩⟩
      · have hqa : q.2.1 = a := by
          rcases hi with hi | ⟨hi, _⟩
          · exact (isId_eq hN hA.1 hi).mp he
          · have := hA.1.1; omega
        have : ruI rs o a = (r : Int) := by
          rw [← hr]
          have := fIdx_skip (p := fun x : Rl => decide (x.1 = o) && decide (x.2.1 = a)) (l := rs) (r - k) k (fun j z g1 g2 gz => by
            have := h5 j z g1 (by omega) gz
            simp only [ofN] at this; rw [this]; rfl) (by omega)
          rw [this, show k + (r - k) = r by omega, List.drop_eq_getElem_cons hrl, fIdx_cons]
          have e : rs[r] = q := by have := List.getElem?_eq_getElem hrl; rw [this] at h3; cases h3; rfl
          rw [e, if_pos (by simp [h4', hqa])]
        rw [this] at hQ; exact hQ
      · have hqa : q.2.1 ≠ a := by
          rcases hi with hi | ⟨_, hi⟩
          · exact fun z => he ((isId_eq hN hA.1 hi).mpr z)
          · exact hi q (List.mem_of_getElem? h3)
        have h9 := hA.2.2.2.2.2.2.2.2
        rw [h9, h4', show ((t : Nat) : Int) + 1 = ((t + 1 : Nat) : Int) by omega]
        refine ih (rs.length - (r + 1)) (by omega) (r + 1) (t + 1) (by omega) (by omega) ?_
        rw [← hr]
        have := fIdx_skip (p := fun x : Rl => decide (x.1 = o) && decide (x.2.1 = a)) (l := rs) (r + 1 - k) k (fun j z g1 g2 gz => by
            by_cases hjr : j = r
            · subst hjr; rw [gz] at h3; cases h3; simp [hqa]
            · have := h5 j z g1 (by omega) gz
              simp only [ofN] at this; rw [this]; rfl) (by omega)
        rw [this, show k + (r + 1 - k) = r + 1 by omega]
    · have : rs.drop k = [] := List.drop_eq_nil_of_le (by omega)
      rw [none (by rw [this]; rfl)] at hQ; exact hQ
theorem c_rfind (hbd : b = 38 ∨ b = 81) (hN : N.Nodup) (hR : RulC b T n N rs MI) (hi : isId N i a ∨ i < 0 ∧ ∀ q ∈ rs, q.2.1 ≠ a) (hQ : Q (some (vI (ruI rs o a))) (MI, ML, GR d e nw th x)) :
    wp cs mX7_find KD Q 0 (padL [vR (b + 20), vI (fIdx (ofN o) rs 0), vI i] 5) [] (KD, MI, ML, GR d e nw th x) := by
  refine v_X7_find_0 ?_
  exact c_rfind_l hbd hN hR hi hQ rs.length 0 0 (by omega) (by omega) rfl
theorem c_chain_l (hbd : b = 38 ∨ b = 81) (hR : RulC b T n N rs MI) (hQ : Q (some (vI (cntO rs o : Nat))) (MI, ML, GR d e nw th x)) {l1 : Int} : ∀ (m k t : Nat), k + m = rs.length → t ≤ k → t + cntO (rs.drop k) o = cntO rs o →
    wp cs mX7_chainLength KD Q 4 [some (vR (b + 20)), some (vI l1), some (vI (t : Nat)), some (vI (fIdx (ofN o) (rs.drop k) k))] [] (KD, MI, ML, GR d e nw th x) := by
  have hz := hR.1
  have hz2 := hR.2.1
  intro m
  induction m using Nat.strongRecOn with
  | _ m ih =>
    intro k t hk ht hr
    have none : fIdx (ofN o) (rs.drop k) k = -1 → t = cntO rs o := fun hm => by
      rw [← hr]
      have : cntO (rs.drop k) o = 0 := by
        unfold cntO
        rw [List.length_eq_zero_iff, List.filter_eq_nil_iff]
        intro q hq
        have := fIdx_m1 hm q hq
        simp only [ofN] at this; rw [this]; decide
      omega
    refine v_X7_chainLength_4 hbd ⟨fun hlt => ⟨fun hm => ?_, fun hm => ?_⟩, fun hge => ?_⟩
    · rw [none hm]; exact hQ
    · obtain ⟨r, q, h1, h2, h3, h4, h5⟩ := fIdx_drop hm
      have hrl := (List.getElem?_eq_some_iff.mp h3).1
      have hA := hR.2.2.2.2 r q h3
      rw [h1]
      simp only [Int.toNat_natCast]
      have h4' : q.1 = o := by simpa [ofN] using h4
      refine ⟨by omega, by omega, ?_⟩
      rw [hA.2.2.2.2.2.2.2.2, h4', show ((t : Nat) : Int) + 1 = ((t + 1 : Nat) : Int) by omega]
      refine ih (rs.length - (r + 1)) (by omega) (r + 1) (t + 1) (by omega) (by omega) ?_
      rw [← hr]
      have e : rs.drop k = (rs.drop k).take (r - k) ++ (q :: rs.drop (r + 1)) := by
        have e1 : rs[r] = q := by have := List.getElem?_eq_getElem hrl; rw [this] at h3; cases h3; rfl
        rw [← e1, ← List.drop_eq_getElem_cons hrl]
        conv => lhs; rw [← List.take_append_drop (r - k) (rs.drop k)]
        rw [List.drop_drop, show k + (r - k) = r by omega]
      rw [e]
      unfold cntO
      rw [List.filter_append, List.length_append, List.filter_cons, if_pos (by simp [h4']), List.length_cons]
      have z : ((rs.drop k).take (r - k)).filter (fun x => decide (x.1 = o)) = [] := by
        rw [List.filter_eq_nil_iff]
        intro y hy
        obtain ⟨j, hj, rfl⟩ := List.getElem_of_mem hy
        simp only [List.length_take, List.length_drop] at hj
        have := h5 (k + j) _ (by omega) (by omega) (List.getElem?_eq_getElem (by omega))
        simp only [ofN] at this
        simp only [List.getElem_take, List.getElem_drop]; rw [this]; decide
      rw [z]; simp only [List.length_nil]; omega
    · have : rs.drop k = [] := List.drop_eq_nil_of_le (by omega)
      rw [none (by rw [this]; rfl)]; exact hQ
theorem c_chain (hbd : b = 38 ∨ b = 81) (hR : RulC b T n N rs MI) (hQ : Q (some (vI (cntO rs o : Nat))) (MI, ML, GR d e nw th x)) :
    wp cs mX7_chainLength KD Q 0 (padL [vR (b + 20), vI (fIdx (ofN o) rs 0)] 4) [] (KD, MI, ML, GR d e nw th x) :=
  v_X7_chainLength_0 (c_chain_l hbd hR hQ rs.length 0 0 (by omega) (by omega) (by simp))
theorem tkA_app2 (r s : List Rl) : tkA (r ++ s) = tkA r + tkA s := by simp [tkA]
theorem tkA_app (rs : List Rl) (q : Rl) : tkA (rs ++ [q]) = tkA rs + q.2.2.2.1.length := by simp [tkA]
/-- the last RULE of a NAME is found, a new one comes behind it -/
theorem c_radd_l (hbd : b = 38 ∨ b = 81) (hR : RulC b T n N rs MI) {l2 l3 l4 : Int}
    (hQ : ∀ l5 l6 : Int, (l5 = -1 ∧ fIdx (ofN o) rs 0 = -1 ∨ ∃ (r : Nat) (q : Rl), l5 = (r : Int) ∧ rs[r]? = some q ∧ q.1 = o ∧ fIdx (ofN o) (rs.drop (r + 1)) (r + 1) = -1) → wp cs mX7_add KD Q 78 [some (vR (b + 20)), some (vR (b + 1)), some (vI l2), some (vI l3), some (vI l4), some (vI l5), some (vI l6)] [] (KD, MI, ML, GR d e nw th x)) :
    ∀ (m k t : Nat), k + m = rs.length → t ≤ k → (fIdx (ofN o) (rs.drop k) k = -1 → fIdx (ofN o) rs 0 = -1) →
    wp cs mX7_add KD Q 37 [some (vR (b + 20)), some (vR (b + 1)), some (vI l2), some (vI l3), some (vI l4), some (vI (fIdx (ofN o) (rs.drop k) k)), some (vI (t : Nat))] [] (KD, MI, ML, GR d e nw th x) := by
  have hz := hR.1
  have hz2 := hR.2.1
  intro m
  induction m using Nat.strongRecOn with
  | _ m ih =>
    intro k t hk ht hn
    refine v_X7_add_37 hbd ⟨fun hlt => ⟨fun hm => ?_, fun hm => ?_⟩, fun hge => ?_⟩
    · exact hQ _ _ (Or.inl ⟨hm, hn hm⟩)
    · obtain ⟨r, q, h1, h2, h3, h4, h5⟩ := fIdx_drop hm
      have hrl := (List.getElem?_eq_some_iff.mp h3).1
      have hA := hR.2.2.2.2 r q h3
      have h4' : q.1 = o := by simpa [ofN] using h4
      have h9 := hA.2.2.2.2.2.2.2.2
      rw [h4'] at h9
      rw [h1]
      simp only [Int.toNat_natCast]
      refine ⟨by omega, fun he => ?_, fun he => ⟨by omega, ?_⟩⟩
      · exact hQ _ _ (Or.inr ⟨r, q, rfl, h3, h4', by rw [← h9]; exact he⟩)
      · rw [h9, show ((t : Nat) : Int) + 1 = ((t + 1 : Nat) : Int) by omega]
        exact ih (rs.length - (r + 1)) (by omega) (r + 1) (t + 1) (by omega) (by omega) (fun z => absurd (h9.trans z) he)
    · have hd : rs.drop k = [] := List.drop_eq_nil_of_le (by omega)
      have hm : fIdx (ofN o) (rs.drop k) k = -1 := by rw [hd]; rfl
      exact hQ _ _ (Or.inl ⟨hm, hn hm⟩)
theorem RulA_pt {MI' : Nat → Nat → Int} {rs' : List Rl} {r : Nat} {q : Rl} (hA : RulA b T n N rs MI r q) (ht : tkA (rs'.take r) = tkA (rs.take r)) (e21 : MI' (b + 21) r = MI (b + 21) r) (e22 : MI' (b + 22) r = MI (b + 22) r) (e23 : MI' (b + 23) r = MI (b + 23) r) (e24 : MI' (b + 24) r = MI (b + 24) r) (e25 : MI' (b + 25) r = MI (b + 25) r) (e26 : MI' (b + 26) r = MI (b + 26) r) (e27 : MI' (b + 27) r = MI (b + 27) r) (e28 : MI' (b + 28) r = MI (b + 28) r)
    (e30 : ∀ j, j < tkA (rs.take r) + q.2.2.2.1.length → MI' (b + 30) j = MI (b + 30) j) (e31 : ∀ j, j < tkA (rs.take r) + q.2.2.2.1.length → MI' (b + 31) j = MI (b + 31) j) (e41 : MI' (b + 41) = MI (b + 41)) (e14 : MI' b 14 = MI b 14) (e29 : MI' (b + 29) r = fIdx (ofN q.1) (rs'.drop (r + 1)) (r + 1)) : RulA b T n N rs' MI' r q := by
  obtain ⟨a1, a2, a3, a4, a5, a6, a7, a8, a9⟩ := hA
  refine ⟨by rw [e21]; exact a1, by rw [e22]; exact a2, by rw [e23]; exact a3, by rw [e24, ht]; exact a4, by rw [e25]; exact a5, fun t y hy => ?_, by rw [e26]; exact a7, by rw [e27, e28, e41, e14]; exact a8, e29⟩
  have := (List.getElem?_eq_some_iff.mp hy).1
  rw [ht, e30 _ (by omega), e31 _ (by omega)]; exact a6 t y hy
theorem tkA_le {rs : List Rl} {r : Nat} {q : Rl} (h : rs[r]? = some q) : tkA (rs.take r) + q.2.2.2.1.length ≤ tkA rs := by
  have hr := (List.getElem?_eq_some_iff.mp h).1
  have e : rs[r] = q := by have := List.getElem?_eq_getElem hr; rw [this] at h; cases h; rfl
  have e2 : rs.take (r + 1) = rs.take r ++ [q] := by rw [List.take_succ_eq_append_getElem hr, e]
  have e3 : tkA rs = tkA (rs.take (r + 1)) + tkA (rs.drop (r + 1)) := by
    conv => lhs; rw [← List.take_append_drop (r + 1) rs]
    rw [tkA_app2]
  rw [e3, e2, tkA_app]; omega
theorem c_radd (hbd : b = 38 ∨ b = 81) {ds : List Dc} {j : Int} (hlt : rs.length < 750) (hN : NamC b T n N MI) (hI : IdxC b N ds rs MI) (hR : RulC b T n N rs MI) (hv : 0 ≤ MI b 14) (hi : isId N i o) (hj : isId N j a)
    (hQ : ∀ MI', IdxC b N ds (rs ++ [(o, a, 0, [], 0, [])]) MI' → RulC b T n N (rs ++ [(o, a, 0, [], 0, [])]) MI' → (∀ c, ¬ (b + 20 ≤ c ∧ c ≤ b + 31) → c ≠ b + 4 → MI' c = MI c) → Q (some (vI (rs.length : Nat))) (MI', ML, GR d e nw th x)) :
    wp cs mX7_add KD Q 0 (padL [vR (b + 20), vR (b + 1), vI i, vI j] 7) [] (KD, MI, ML, GR d e nw th x) := by
  have hz := hR.1
  have hi' := isId_lt hi
  have hn1 := hN.1
  have hn2 := hN.2.1
  have e4 : MI (b + 4) i.toNat = fIdx (ofN o) rs 0 := (hI i.toNat o hi.2).2
  -- the writes of the new RULE
  have fin : ∀ (m0 : Nat → Nat → Int) (l5 l6 : Int), (∀ c, c ≠ b + 4 → c ≠ b + 29 → m0 c = MI c) → (∀ k y, N[k]? = some y → m0 (b + 4) k = fIdx (ofN y) (rs ++ [(o, a, 0, [], 0, [])]) 0) → (∀ r q, rs[r]? = some q → m0 (b + 29) r = fIdx (ofN q.1) ((rs ++ [(o, a, 0, [], 0, [])]).drop (r + 1)) (r + 1)) →
      wp cs mX7_add KD Q 104 [some (vR (b + 20)), some (vR (b + 1)), some (vI i), some (vI j), some (vI (rs.length : Nat)), some (vI l5), some (vI l6)] [] (KD, m0, ML, GR d e nw th x) := by
    intro m0 l5 l6 f1 f2 f3
    refine v_X7_add_104 hbd ⟨by omega, ?_⟩
    simp only [Int.toNat_natCast]
    intro m111 e111 m119 e119 m127 e127 m135 e135
    have q12 : m135 (b + 20) 12 = (tkA rs : Nat) := by simp [e135, e127, e119, e111, up2]; rw [f1 _ (by omega) (by omega)]; exact hR.2.2.1
    rw [q12]
    intro m146 e146 m154 e154 m162 e162 m170 e170 m178 e178
    have q11 : m178 (b + 20) 11 = (rs.length : Nat) := by simp [e178, e170, e162, e154, e146, e135, e127, e119, e111, up2]; rw [f1 _ (by omega) (by omega)]; exact hz
    rw [q11]
    refine ⟨by omega, ?_⟩
    intro m186 e186
    have fr : ∀ c, ¬ (b + 20 ≤ c ∧ c ≤ b + 29) → m186 c = m0 c := fun c hc => by
      funext k; simp only [e186, e178, e170, e162, e154, e146, e135, e127, e119, e111, up2]; repeat rw [if_neg (by omega)]
    have en : ∀ r, r ≠ rs.length → m186 (b + 29) r = m0 (b + 29) r := fun r hr => by simp [e186, e178, e170, e162, e154, e146, e135, e127, e119, e111, up2, hr]
    refine hQ m186 (fun k y hy => ?_) ⟨?_, ?_, ?_, ?_, fun r q hq => ?_⟩ (fun c h1 h2 => by rw [fr c (by omega)]; exact f1 c h2 (by omega))
    · rw [fr (b + 3) (by omega), fr (b + 4) (by omega), f1 (b + 3) (by omega) (by omega)]
      exact ⟨(hI k y hy).1, f2 k y hy⟩
    · simp [e186, up2]
    · simp only [List.length_append, List.length_singleton]; omega
    · rw [tkA_app]; simp [e186, e178, e170, e162, e154, e146, e135, e127, e119, e111, up2]; rw [f1 _ (by omega) (by omega)]; exact hR.2.2.1
    · rw [tkA_app]; simp; exact hR.2.2.2.1
    · rcases last_of hq with ⟨hr, hq⟩ | ⟨rfl, rfl⟩
      · have e1 : ∀ c, c ≠ 29 → c ≤ 28 → 21 ≤ c → m186 (b + c) r = MI (b + c) r := fun c h1 h2 h3 => by
          rw [← f1 (b + c) (by omega) (by omega)]
          simp only [e186, e178, e170, e162, e154, e146, e135, e127, e119, e111, up2]; repeat rw [if_neg (by omega)]
        refine RulA_pt (hR.2.2.2.2 r q hq) (by rw [List.take_append_of_le_length (by omega)]) (e1 21 (by decide) (by decide) (by decide)) (e1 22 (by decide) (by decide) (by decide)) (e1 23 (by decide) (by decide) (by decide)) (e1 24 (by decide) (by decide) (by decide)) (e1 25 (by decide) (by decide) (by decide)) (e1 26 (by decide) (by decide) (by decide)) (e1 27 (by decide) (by decide) (by decide)) (e1 28 (by decide) (by decide) (by decide)) (fun c _ => by rw [fr _ (by omega), f1 _ (by omega) (by omega)]) (fun c _ => by rw [fr _ (by omega), f1 _ (by omega) (by omega)]) (by rw [fr _ (by omega), f1 _ (by omega) (by omega)]) (by rw [fr _ (by omega), f1 _ (by omega) (by omega)]) (by rw [en r (by omega)]; exact f3 r q hq)
      · have e14 : m186 b 14 = MI b 14 := by rw [fr _ (by omega), f1 _ (by omega) (by omega)]
        refine ⟨?_, ?_, ?_, ?_, ?_, fun t y hy => by simp at hy, ?_, ?_, ?_⟩
        · simp [e186, e178, e170, e162, e154, e146, e135, e127, e119, e111, up2]; exact hj
        · simp [e186, e178, e170, e162, e154, e146, e135, e127, e119, e111, up2]; exact hi
        · simp [e186, e178, e170, e162, e154, e146, e135, e127, e119, e111, up2]
        · rw [List.take_append_of_le_length (Nat.le_refl _), List.take_length]; simp [e186, e178, e170, e162, e154, e146, e135, e127, e119, e111, up2]
        · simp [e186, e178, e170, e162, e154, e146, e135, e127, e119, e111, up2]
        · simp [e186, e178, e170, e162, e154, e146, e135, e127, e119, e111, up2]
        · rw [e14]
          refine ⟨by simp [e186, e178, e170, up2], by simp [e186, e178, e170, up2], ?_, fun t y hy => by simp at hy⟩
          simp [e186, e178, e170, up2]; exact hv
        · rw [List.drop_eq_nil_of_le (by simp)]
          simp [e186, e178, e170, e162, e154, e146, e135, e127, e119, e111, up2, fIdx]
  refine v_X7_add_0 hbd ⟨fun _ => ?_, fun z => by omega⟩
  refine w_X5_has hbd (fun hs => rI_mk ⟨fun z => by omega, fun _ => ⟨by omega, ?_⟩⟩) (fun hs => absurd (by rw [hn1]; exact hi') hs)
  rw [e4, hz]
  refine c_radd_l hbd hR (fun l5 l6 hl => ?_) rs.length 0 0 (by omega) (by omega) (fun z => z)
  have hnew : ∀ y, ofN y (o, a, 0, [], 0, []) = true ↔ o = y := fun y => by simp [ofN]
  refine v_X7_add_78 hbd ⟨fun z5 => ⟨by omega, ?_⟩, fun z5 => ?_⟩
  · intro m91 e91
    have hnone : fIdx (ofN o) rs 0 = -1 := by
      rcases hl with hl | ⟨r, q, hl, _⟩
      · exact hl.2
      · omega
    refine fin m91 l5 l6 (fun c h1 h2 => by rw [e91]; funext k; exact up2_ne h1 k) (fun k y hy => ?_) (fun r q hq => ?_)
    · rw [fIdx_app, e91]
      by_cases hk : k = i.toNat
      · have : y = o := by subst hk; have := hy.symm.trans hi.2; cases this; rfl
        subst this
        rw [hnone, if_pos rfl, if_pos ((hnew _).mpr rfl)]
        simp [up2, hk]
      · have hne : o ≠ y := fun z => hk (by
          have := (isId_eq hN.2.2.2.2.2 (i := (k : Int)) (j := i) ⟨by omega, by simpa using hy⟩ hi).mpr z.symm
          omega)
        rw [if_neg (fun z => hne ((hnew y).mp z))]
        have := (hI k y hy).2
        simp only [up2, hk, and_false, if_false]
        rw [this]; split
        · assumption
        · rfl
    · have hrl := (List.getElem?_eq_some_iff.mp hq).1
      have hA := (hR.2.2.2.2 r q hq).2.2.2.2.2.2.2.2
      rw [List.drop_append_of_le_length (by omega), fIdx_app, e91, up2_ne (by omega), hA]
      have hne : ¬ ofN q.1 (o, a, 0, [], 0, []) = true := fun z => by
        have := fIdx_m1 hnone q (List.mem_of_getElem? hq)
        rw [(hnew q.1).mp z] at this
        simp [ofN] at this
      rw [if_neg hne]
      split
      · assumption
      · rfl
  · obtain ⟨r, q, hr1, hr2, hr3, hr4⟩ : ∃ (r : Nat) (q : Rl), l5 = (r : Int) ∧ rs[r]? = some q ∧ q.1 = o ∧ fIdx (ofN o) (rs.drop (r + 1)) (r + 1) = -1 := by
      rcases hl with hl | hl
      · exact absurd hl.1 z5
      · exact hl
    have hrl := (List.getElem?_eq_some_iff.mp hr2).1
    subst hr1
    refine ⟨by omega, ?_⟩
    simp only [Int.toNat_natCast]
    intro m103 e103
    refine fin m103 _ l6 (fun c h1 h2 => by rw [e103]; funext k; exact up2_ne h2 k) (fun k y hy => ?_) (fun r' q' hq' => ?_)
    · rw [fIdx_app, e103, up2_ne (by omega), (hI k y hy).2]
      split
      · next hm =>
        rw [if_neg (fun z => by
          have := fIdx_m1 hm q (List.mem_of_getElem? hr2)
          rw [← (hnew y).mp z, ← hr3] at this
          simp [ofN] at this), hm]
      · rfl
    · have hrl' := (List.getElem?_eq_some_iff.mp hq').1
      have hA := (hR.2.2.2.2 r' q' hq').2.2.2.2.2.2.2.2
      rw [List.drop_append_of_le_length (by omega), fIdx_app, e103]
      by_cases hrr : r' = r
      · subst hrr
        rw [hr2] at hq'; cases hq'
        rw [hr3, hr4, if_pos rfl, if_pos ((hnew _).mpr rfl)]
        simp only [up2, and_self, if_true, List.length_drop]
        omega
      · simp only [up2, hrr, and_false, if_false]
        rw [hA]
        split
        · next hm =>
          by_cases hz : ofN q'.1 (o, a, 0, [], 0, []) = true
          · exfalso
            have ho := (hnew _).mp hz
            -- r' has the owner o and nothing behind it: it is the last, so is r
            by_cases hlt : r' < r
            · have := fIdx_m1 hm q (List.mem_of_getElem? (i := r - (r' + 1)) (by rw [List.getElem?_drop, show r' + 1 + (r - (r' + 1)) = r by omega]; exact hr2))
              rw [← ho, ← hr3] at this
              simp [ofN] at this
            · have := fIdx_m1 hr4 q' (List.mem_of_getElem? (i := r' - (r + 1)) (by rw [List.getElem?_drop, show r + 1 + (r' - (r + 1)) = r' by omega]; exact hq'))
              rw [ho] at this
              simp [ofN] at this
          · rw [if_neg hz, hm]
        · rfl
end P71
