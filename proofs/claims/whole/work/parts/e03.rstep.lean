/-! The reference's reading of a PATH: a STEP, the PATH. -/
def hwR (t : Int) (o : Option By) : Int := if t = 4 then (if o.isSome = true then 3 else 4) else if t = 3 then (if o.isSome = true then 5 else 6) else t
def BrsR (T : Nat → Int) (n : Int) (j : Nat) (l : List BrM) (MI : Nat → Nat → Int) : Prop :=
  MI 184 j = (l.length : Nat) ∧ l.length ≤ 4 ∧ ∀ (t : Nat) (q : BrM), l[t]? = some q → BrkR T n (4 * j + t) q MI
def StpR (T : Nat → Int) (n : Int) (j : Nat) (s : StM) (MI : Nat → Nat → Int) : Prop :=
  MI 180 j = hwR s.1 s.2.2.1 ∧ MI 181 j = (if s.2.1 = true then 1 else 0) ∧ (∀ y, s.2.2.1 = some y → slc T n (MI 182 j) (MI 183 j) y) ∧ BrsR T n j s.2.2.2 MI
def chBR (j i k : Nat) : Prop := ch5 i k ∨ (i = 184 ∧ k = j) ∨ ((185 ≤ i ∧ i ≤ 190) ∧ 4 * j ≤ k ∧ k < 4 * j + 4)
def chPr (j i k : Nat) : Prop := ch5 i k ∨ (i = 124 ∧ k = 84) ∨ ((180 ≤ i ∧ i ≤ 184) ∧ k = j) ∨ ((185 ≤ i ∧ i ≤ 190) ∧ 4 * j ≤ k ∧ k < 4 * j + 4)
def chPR (i k : Nat) : Prop := ch5 i k ∨ (i = 124 ∧ (k = 84 ∨ k = 85)) ∨ (180 ≤ i ∧ i ≤ 190)
theorem psS_eq {T : Nat → Int} {n a : Int} {dp : Bool} {c : Nat} (hc : c < 12) : psS T n dp c a = if stb T n a [46, 46] = true then .inr ((1, dp, none, []), a + 2)
    else if ob T n a = 46 then .inr ((0, dp, none, []), a + 1) else pb (hdS T n a) fun q => pb (brsF T n 5 [] q.2.2) fun z => .inr ((q.1, dp, q.2.1, z.1), z.2) := by
  unfold psS
  by_cases hb : ob T n a = 46 ∨ ob T n a = 64 ∨ ob T n a = 42 ∨ isNs (ob T n a)
  · rw [if_pos hb, if_neg (by omega)]
  · rw [if_neg hb]
    have h46 : ob T n a ≠ 46 := fun z => hb (Or.inl z)
    have h64 : ob T n a ≠ 64 := fun z => hb (Or.inr (Or.inl z))
    have h42 : ob T n a ≠ 42 := fun z => hb (Or.inr (Or.inr (Or.inl z)))
    have hns : ¬ isNs (ob T n a) := fun z => hb (Or.inr (Or.inr (Or.inr z)))
    rw [if_neg (fun z => h46 (stb_hd z)), if_neg h46]
    have : hdS T n a = .inl (-1, a) := by
      unfold hdS
      rw [if_neg (fun z => hns (by have := stb_hd z; unfold isNs; omega)), if_neg h64, if_neg h42]
      unfold nmS
      rw [if_neg hns, pb_l]
    rw [this, pb_l]
section Pe03
variable {cs : Cs} {Q : Option AV → Mm → Prop} {MI ML OI : Nat → Nat → Int} {d e nw th x : Nat} {T : Nat → Int} {n : Int} {s : PR Int}
theorem c_rstep_304 {j : Nat} {l1 : Int} {R : PR (List BrM × Int)} (hj : j < 12)
    (hQ : ∀ MI', StP T n (pb R fun z => .inr z.2) MI' → frP (chBR j) OI MI' → (∀ l y, R = .inr (l, y) → BrsR T n j l MI') → Q none (MI', ML, GR d e nw th x)) :
    ∀ (k : Nat) (l : List BrM) (h : Int) (MI : Nat → Nat → Int), k + l.length = 5 → StP T n (.inr h) MI → frP (chBR j) OI MI → BrsR T n j l MI → R = brsF T n k l h →
    wp cs mX12_step KD Q 304 [some (vR 124), some (vI l1), some (vI (j : Nat)), none] [] (KD, MI, ML, GR d e nw th x) := by
  have bad : ∀ (g p : Int) (M : Nat → Nat → Int), StP T n (.inl (g, p)) M → frP (chBR j) OI M → R = .inl (g, p) → wp cs mX12_step KD Q 304 [some (vR 124), some (vI l1), some (vI (j : Nat)), none] [] (KD, M, ML, GR d e nw th x) := by
    intro g p M hM hfr hR
    refine v_X12_step_304 (py_isGood hM (fun a' z => by cases z) (fun g' p' z => rI_mk ⟨fun _ => hQ M ?_ hfr (fun l y hl => by rw [hR] at hl; cases hl), fun z => absurd rfl z⟩))
    rw [hR, pb_l]; exact hM
  intro k
  induction k with
  | zero => intro l h MI hk hs hfr hB; have := hB.2.1; omega
  | succ k ih =>
    intro l h MI hk hs hfr hB heq
    have h4 := hs.2.2.2.1
    have h5 := hs.2.2.2.2.2.2
    refine v_X12_step_304 (py_isGood hs (fun a' z => rI_mk ⟨fun z => by omega, fun _ => ?_⟩) (fun g p z => by cases z))
    rw [h4]
    refine py_octet hs h5.1 (rI_mk ⟨fun ho => ?_, fun ho => ?_⟩)
    · rw [brsF, if_pos ho] at heq
      have fm : ∀ {A B : Nat → Nat → Int}, l.length ≤ 4 → frP (chF j (4 * j + l.length)) A B → l.length < 4 → frP (chBR j) A B := fun h1 z h2 => frP_mono z (fun i k hp => by unfold chF at hp; unfold chBR; rcases hp with hp | hp | hp; exact Or.inl hp; exact Or.inr (Or.inl hp); exact Or.inr (Or.inr (by omega)))
      have h4l := hB.2.1
      refine c_rfilter hj hs ho hB.1 hB.2.1 (fun hc M s1 f1 => rV_mk ?_) (fun hc M s1 f1 b1 => rV_mk ?_)
      · rw [if_pos (by omega)] at heq
        exact bad (-3) h M s1 (frP_tr hfr (frP_mono f1 (fun i k hp => Or.inl hp))) heq
      · rw [if_neg (by omega)] at heq
        have f2 := frP_tr hfr (fm h4l f1 hc)
        rcases hq : brS T n (h + 1) with ⟨g, p⟩ | ⟨q, y⟩
        · rw [hq, pb_l] at s1 heq
          exact bad g p M s1 f2 heq
        · rw [hq, pb_r] at s1 heq
          rcases hw : mbS T n y 93 with ⟨g, p⟩ | w
          · rw [show (mbS T n (q, y).2 93) = mbS T n y 93 from rfl, hw] at s1
            rw [show (mbS T n (q, y).2 93) = mbS T n y 93 from rfl, hw, pb_l] at heq
            exact bad g p M s1 f2 heq
          · rw [show (mbS T n (q, y).2 93) = mbS T n y 93 from rfl, hw] at s1
            rw [show (mbS T n (q, y).2 93) = mbS T n y 93 from rfl, hw, pb_r] at heq
            obtain ⟨e1, e2⟩ := b1 q y hq
            refine ih (l ++ [q]) w M (by simp; omega) s1 f2 ⟨by rw [e1]; simp, by simp; omega, fun t q' hq' => ?_⟩ heq
            by_cases ht : t < l.length
            · rw [List.getElem?_append_left ht] at hq'
              refine BrkR_fr (hB.2.2 t q' hq') (fun i h1 h2 => f1 i _ (by unfold chF ch5; omega))
            · have ht2 := (List.getElem?_eq_some_iff.mp hq').1
              simp only [List.length_append, List.length_singleton] at ht2
              have ht3 : t = l.length := by omega
              subst ht3
              rw [List.getElem?_append_right (Nat.le_refl _)] at hq'
              simp at hq'
              subst hq'
              exact e2
    · rw [brsF, if_neg ho] at heq
      refine hQ MI (by rw [heq, pb_r]; exact hs) hfr (fun l' y hl => ?_)
      rw [heq] at hl; cases hl; exact hB
end Pe03
