/-! The reference's TOKENS and DEFAULTS. -/
theorem up2_self {MI : Nat → Nat → Int} {i k : Nat} {v : Int} (h : MI i k = v) : up2 MI i k v = MI := by
  funext a c; unfold up2; split
  · rename_i z; rw [z.1, z.2, h]
  · rfl
def chT (rJ i k : Nat) : Prop := (i = 124 ∧ fldR k) ∨ (i = 163 ∧ k = rJ) ∨ ((i = 164 ∨ i = 165) ∧ 8 * rJ ≤ k ∧ k < 8 * rJ + 8)
theorem inB_chT {bk rJ i k : Nat} (hr : 800 * bk ≤ rJ ∧ rJ < 800 * bk + 800) (h : chT rJ i k) : inB bk i k := by
  rcases h with h | h | h
  · exact Or.inl ⟨h.1, Or.inl h.2⟩
  · refine Or.inr (Or.inr ⟨by omega, by omega, by omega, ?_⟩)
    rw [h.1, show wR 163 = 800 by decide]; omega
  · refine Or.inr (Or.inr ⟨by omega, by omega, by omega, ?_⟩)
    have : wR i = 6400 := by unfold wR; rcases h.1 with z | z <;> subst z <;> decide
    rw [this]; omega
def TkR (bk : Nat) (T : Nat → Int) (n : Int) (rJ : Nat) (l : List By) (MI : Nat → Nat → Int) : Prop := MI 163 rJ = (l.length : Nat) ∧ l.length ≤ 8 ∧ ∀ (k : Nat) (y : By), l[k]? = some y → nmR bk T n (MI 164 (8 * rJ + k)) (MI 165 (8 * rJ + k)) y
theorem TkR_fr {bk : Nat} {T : Nat → Int} {n : Int} {rJ : Nat} {l : List By} {MI MI' : Nat → Nat → Int} (h : TkR bk T n rJ l MI) (e : MI' 163 rJ = MI 163 rJ) (h2 : ∀ i k, (i = 164 ∨ i = 165) → 8 * rJ ≤ k → k < 8 * rJ + 8 → MI' i k = MI i k) : TkR bk T n rJ l MI' := by
  refine ⟨by rw [e]; exact h.1, h.2.1, fun k y hk => ?_⟩
  have hk1 := (List.getElem?_eq_some_iff.mp hk).1
  have h3 := h.2.1
  rw [h2 164 _ (Or.inl rfl) (by omega) (by omega), h2 165 _ (Or.inr rfl) (by omega) (by omega)]
  exact h.2.2 k y hk
theorem TkR_mvr {bk : Nat} {T : Nat → Int} {n : Int} {rJ : Nat} {l : List By} {MI MI' : Nat → Nat → Int} (h : TkR bk T n rJ l MI) (m : mvr MI MI') : TkR bk T n rJ l MI' := TkR_fr h (by rw [m.1 163 (by decide)]) (fun i k hi _ _ => by rw [m.1 i (by omega)])
section P92
variable {cs : Cs} {Q : Option AV → Mm → Prop} {MI ML OI OL : Nat → Nat → Int} {bk d e nw th x rJ pl : Nat} {T : Nat → Int} {n B : Int} {s : PR Int}
theorem StR_Bg {a B' : Int} (hs : StR bk T n OI OL B (.inr a) MI ML) (hB : 20000 ≤ B' ∧ B' ≤ 60000) : StR bk T n OI OL B' (.inr a) MI ML := ⟨hs.1, hB, hs.2.2⟩
theorem rt_bad2 {f q l1 l2 : Int} (hs : StR bk T n OI OL B (.inl (f, q)) MI ML) (hQ : ∀ MI', StR bk T n OI OL B (.inl (f, q)) MI' ML → mvr MI MI' → Q none (MI', ML, GR d e nw th x)) : wp cs mX12_tokens KD Q 2 [some (vR 124), some (vI l1), some (vI l2), none, none] [] (KD, MI, ML, GR d e nw th x) := by
  refine v_X12_tokens_2 (ux_isGood hs (fun _ z => by cases z) (fun f' q' z => rI_mk ⟨fun _ => ?_, fun z => absurd rfl z⟩))
  refine ux_passes hs (fun y MI2 h => by cases h) (fun f' q' MI2 h s2 m2 _ => rI_mk ?_) (by decide)
  cases h
  exact hQ MI2 s2 m2
theorem rt_bad171 {f q l1 l2 l3 l4 : Int} (hs : StR bk T n OI OL B (.inl (f, q)) MI ML) (hQ : ∀ MI', StR bk T n OI OL B (.inl (f, q)) MI' ML → mvr MI MI' → Q none (MI', ML, GR d e nw th x)) : wp cs mX12_tokens KD Q 171 [some (vR 124), some (vI l1), some (vI l2), some (vI l3), some (vI l4)] [] (KD, MI, ML, GR d e nw th x) := by
  refine v_X12_tokens_171 (ux_maybeS hs (fun MI1 s1 m1 _ _ => rV_mk ?_))
  rw [pb_l] at s1
  have h4 := s1.2.2.2.2.2.1
  have go : ∀ s0 : Int, wp cs mX12_tokens KD Q 193 [some (vR 124), some (vI l1), some (vI l2), some (vI l3), some (vI l4)] [vI s0] (KD, MI1, ML, GR d e nw th x) := fun s0 => by
    refine v_X12_tokens_193 (ux_isGood s1 (fun _ z => by cases z) (fun f' q' z => rI_mk ⟨fun _ m216 e216 => ?_, fun z => absurd rfl z⟩))
    rw [up2_self rfl] at e216
    subst e216
    exact rt_bad2 s1 (fun MI' s' m' => hQ MI' s' (mvr_tr m1 m'))
  exact ux_octet s1 h4 (rI_mk ⟨fun _ => go 1, fun _ => go 0⟩)
theorem rt_bad110 {f q l1 l2 l3 l4 : Int} (hs : StR bk T n OI OL B (.inl (f, q)) MI ML) (hQ : ∀ MI', StR bk T n OI OL B (.inl (f, q)) MI' ML → mvr MI MI' → Q none (MI', ML, GR d e nw th x)) : wp cs mX12_tokens KD Q 110 [some (vR 124), some (vI l1), some (vI l2), some (vI l3), some (vI l4)] [] (KD, MI, ML, GR d e nw th x) :=
  v_X12_tokens_110 (ux_isGood hs (fun _ z => by cases z) (fun _ _ _ => rI_mk ⟨fun _ => rt_bad171 hs hQ, fun z => absurd rfl z⟩))
theorem rt_walk {l1 l2 p0 g : Int} {M0 : Nat → Nat → Int} (hp : 0 ≤ p0) (h0 : g = p0 → ∀ (l4 : Int) MI', StR bk T n OI OL B (.inl (-1, p0)) MI' ML → mvr M0 MI' → wp cs mX12_tokens KD Q 110 [some (vR 124), some (vI l1), some (vI l2), some (vI p0), some (vI l4)] [] (KD, MI', ML, GR d e nw th x))
    (h1 : g ≠ p0 → ∀ MI', StR bk T n OI OL B (.inr g) MI' ML → mvr M0 MI' → wp cs mX12_tokens KD Q 78 [some (vR 124), some (vI l1), some (vI l2), some (vI p0), some (vI (g - p0))] [] (KD, MI', ML, GR d e nw th x)) :
    ∀ (k : Nat) (a : Int) (MI : Nat → Nat → Int), (n - a).toNat = k → StR bk T n OI OL B (.inr a) MI ML → nme T n a = g → p0 ≤ a → mvr M0 MI → wp cs mX12_tokens KD Q 22 [some (vR 124), some (vI l1), some (vI l2), some (vI p0), none] [] (KD, MI, ML, GR d e nw th x) := by
  intro k
  induction k with
  | zero =>
    intro a MI hk hs hg hpa hm
    obtain ⟨b1, b2, b3, b4, b5⟩ := hs.2.2
    have hn := hs.1.2.2.1
    rw [nme_eq, if_neg (by omega)] at hg
    subst hg
    refine v_X12_tokens_22 ?_
    rw [b1]
    refine ux_octet hs b4 (rI_mk (w_X12_isNext (rI_mk ?_)))
    rw [ob_out (by omega), show bI (isNb (-1)) = 0 from if_neg (by unfold isNb; omega), b1]
    refine ⟨fun _ => ⟨by omega, ux_isGood hs (fun _ _ => rI_mk ⟨fun z => by omega, fun _ => ⟨fun hz => ?_, fun hz => ?_⟩⟩) (fun f q z => by cases z)⟩, fun z => absurd rfl z⟩
    · exact ux_fail (by decide) hs (fun MI2 s2 m2 => rV_mk (h0 (by omega) _ MI2 s2 (mvr_tr hm m2)))
    · exact h1 (by omega) MI hs hm
  | succ k ih =>
    intro a MI hk hs hg hpa hm
    obtain ⟨b1, b2, b3, b4, b5⟩ := hs.2.2
    have hn := hs.1.2.2.1
    refine v_X12_tokens_22 ?_
    rw [b1]
    refine ux_octet hs b4 (rI_mk (w_X12_isNext (rI_mk ?_)))
    rw [b1]
    rw [nme_eq] at hg
    by_cases hb : isNb (ob T n a)
    · rw [show bI (isNb (ob T n a)) = 1 from if_pos hb]
      rw [if_pos ⟨by omega, hb⟩] at hg
      refine ⟨fun z => by omega, fun _ => ⟨by omega, fun m43 e43 => ?_⟩⟩
      obtain ⟨s2, m2⟩ := StR_at hs e43 (by omega)
      exact ih (a + 1) m43 (by omega) s2 hg (by omega) (mvr_tr hm m2)
    · rw [show bI (isNb (ob T n a)) = 0 from if_neg hb]
      rw [if_neg (fun z => hb z.2)] at hg
      subst hg
      refine ⟨fun _ => ⟨by omega, ux_isGood hs (fun _ _ => rI_mk ⟨fun z => by omega, fun _ => ⟨fun hz => ?_, fun hz => ?_⟩⟩) (fun f q z => by cases z)⟩, fun z => absurd rfl z⟩
      · exact ux_fail (by decide) hs (fun MI2 s2 m2 => rV_mk (h0 (by omega) _ MI2 s2 (mvr_tr hm m2)))
      · exact h1 (by omega) MI hs hm
theorem c_rtokens_l (hr : 800 * bk ≤ rJ ∧ rJ < 800 * bk + 800) : ∀ (k : Nat) (l : List By) (h : Int) (MI : Nat → Nat → Int), l.length + k = 9 → 1 ≤ k → StR bk T n OI OL B (.inr h) MI ML → TkR bk T n rJ l MI →
    (∀ l' y MI', tkF T n k h l = .inr (l', y) → StR bk T n OI OL B (.inr y) MI' ML → TkR bk T n rJ l' MI' → frX (chT rJ) MI ML MI' ML → Q none (MI', ML, GR d e nw th x)) →
    (∀ f q MI', tkF T n k h l = .inl (f, q) → StR bk T n OI OL B (.inl (f, q)) MI' ML → frX (chT rJ) MI ML MI' ML → Q none (MI', ML, GR d e nw th x)) →
    wp cs mX12_tokens KD Q 2 [some (vR 124), some (vI (rJ : Nat)), some (vI 1), none, none] [] (KD, MI, ML, GR d e nw th x) := by
  intro k
  induction k with
  | zero => intro _ _ _ _ h; omega
  | succ k ih =>
    intro l h MI hl hk hs hK hT hF
    rw [tkF] at hT hF
    have a5 := hs.1.2.2.2.2.1
    have hn := hs.1.2.2.1
    have fld : ∀ j, fldR j → chT rJ 124 j := fun j hj => Or.inl ⟨rfl, hj⟩
    refine v_X12_tokens_2 (ux_isGood hs (fun _ _ => rI_mk ⟨fun z => by omega, fun _ => ⟨fun z => by omega, fun _ => ?_⟩⟩) (fun f q z => by cases z))
    refine ux_maybeS hs (fun MI1 s1 m1 _ _ => rV_mk ?_)
    rw [pb_r] at s1
    obtain ⟨b1, b2, b3, b4, b5⟩ := s1.2.2
    rw [b1]
    obtain ⟨p0, hp0⟩ : ∃ p0, p0 = sk T n h := ⟨_, rfl⟩
    rw [← hp0] at s1 b1 b4 b5 hT hF ⊢
    have hg := nme_le T n p0
    refine rt_walk (M0 := MI1) b4 (fun hg0 l4 MI2 s2 m2 => ?_) (fun hg1 MI2 s2 m2 => ?_) _ _ _ rfl s1 rfl (Int.le_refl _) (mvr_rfl _)
    · have ht : tokS T n p0 = .inl (-1, p0) := by unfold tokS; rw [if_pos hg0]
      rw [ht] at hF
      exact rt_bad110 s2 (fun MI' s' m' => hF _ _ MI' rfl s' (frX_mvr fld (mvr_tr m1 (mvr_tr m2 m'))))
    obtain ⟨g, eg⟩ : ∃ g, g = nme T n p0 := ⟨_, rfl⟩
    rw [← eg] at hg hg1 s2 ⊢
    have e163 : MI2 163 rJ = (l.length : Nat) := by rw [m2.1 163 (by decide), m1.1 163 (by decide)]; exact hK.1
    refine v_X12_tokens_78 (ux_isGood s2 (fun _ _ => rI_mk ⟨fun z => by omega, fun _ => ⟨fun h20 => ?_, fun h20 => ⟨by omega, ?_⟩⟩⟩) (fun f q z => by cases z))
    · have ht : tokS T n p0 = .inl (-3, p0) := by unfold tokS; rw [← eg, if_neg hg1, if_neg (by omega)]
      rw [ht] at hF
      exact ux_fail (by decide) s2 (fun MI3 s3 m3 => rV_mk (rt_bad110 s3 (fun MI' s' m' => hF _ _ MI' rfl s' (frX_mvr fld (mvr_tr m1 (mvr_tr m2 (mvr_tr m3 m')))))))
    have ht : tokS T n p0 = .inr g := by unfold tokS; rw [← eg, if_neg hg1, if_pos (by omega)]
    rw [ht, pb_r] at hT hF
    simp only [Int.toNat_natCast]
    rw [e163]
    refine ⟨fun h8 => ?_, fun h8 => ?_⟩
    · rw [if_pos (by omega)] at hF
      exact ux_fail (by decide) s2 (fun MI3 s3 m3 => rV_mk (rt_bad110 s3 (fun MI' s' m' => hF _ _ MI' rfl s' (frX_mvr fld (mvr_tr m1 (mvr_tr m2 (mvr_tr m3 m')))))))
    rw [if_neg (by omega)] at hT hF
    refine v_X12_tokens_110 (ux_isGood s2 (fun _ _ => rI_mk ⟨fun z => by omega, fun _ => ?_⟩) (fun f q z => by cases z))
    have e8 : MI2 124 8 = (bk : Int) := s2.1.2.2.2.1
    rw [e8]
    simp only [Int.toNat_natCast]
    rw [e163]
    have ei : (8 * ((rJ : Nat) : Int) + ((l.length : Nat) : Int)).toNat = 8 * rJ + l.length := by omega
    rw [ei]
    refine ⟨by omega, by omega, by omega, by omega, by omega, by omega, fun m142 e142 => ?_⟩
    have k163 : m142 163 rJ = (l.length : Nat) := by rw [e142, up2_ne (by decide)]; exact e163
    rw [k163, ei]
    refine ⟨by omega, by omega, fun m160 e160 => ?_⟩
    have j163 : m160 163 rJ = (l.length : Nat) := by rw [e160, up2_ne (by decide)]; exact k163
    rw [j163]
    refine ⟨by omega, fun m170 e170 => ?_⟩
    have fX : frX (chT rJ) MI2 ML m170 ML := by
      rw [e170, e160, e142]
      exact frX_tr (frX_tr (frX_upI (Or.inr (Or.inr ⟨Or.inl rfl, by omega, by omega⟩))) (frX_upI (Or.inr (Or.inr ⟨Or.inr rfl, by omega, by omega⟩)))) (frX_upI (Or.inr (Or.inl ⟨rfl, rfl⟩)))
    have r1 : m170 124 = MI2 124 := by rw [e170, e160, e142]; funext k; rw [up2_ne (by decide), up2_ne (by decide), up2_ne (by decide)]
    have s3 := StR_frX (fun i k z => inB_chT hr z) s2 fX (by rw [r1]) (by rw [r1]) (by rw [r1])
    have K2 : TkR bk T n rJ l MI2 := TkR_mvr hK (mvr_tr m1 m2)
    have K3 : TkR bk T n rJ (l ++ [nb T p0 g]) m170 := by
      refine ⟨by rw [e170, up2_eq]; simp, by simp; omega, fun j y hj => ?_⟩
      rcases last_of hj with ⟨hj1, hj2⟩ | ⟨rfl, rfl⟩
      · have := K2.2.2 j y hj2
        rw [e170, up2_ne (by decide), up2_ne (by decide), e160, up2_ne (by decide), up2_nk (by omega), e142, up2_nk (by omega), up2_ne (by decide)]
        exact this
      · rw [e170, up2_ne (by decide), up2_ne (by decide), e160, up2_ne (by decide), up2_eq, e142, up2_eq]
        unfold nmR
        rw [show 6000 * (bk : Int) + p0 - 6000 * (bk : Int) = p0 by omega]
        exact slc_nb (by omega) (by omega) (by omega)
    refine v_X12_tokens_171 (ux_maybeS s3 (fun MI4 s4 m4 _ _ => rV_mk ?_))
    rw [pb_r] at s4
    obtain ⟨c1, c2, c3, c4, c5⟩ := s4.2.2
    rw [c1]
    refine ux_octet s4 c4 (rI_mk ⟨fun h124 => ?_, fun h124 => ?_⟩)
    · rw [if_pos h124] at hT hF
      have := ob_lt (by decide) h124
      refine v_X12_tokens_193 (ux_isGood s4 (fun _ _ => rI_mk ⟨fun z => by omega, fun _ => ⟨fun z => by omega, fun _ => ?_⟩⟩) (fun f q z => by cases z))
      rw [c1]
      refine ⟨by omega, fun m216 e216 => ?_⟩
      obtain ⟨s5, m5⟩ := StR_at s4 e216 (by omega)
      have fA : frX (chT rJ) MI ML m216 ML := frX_tr (frX_mvr fld (mvr_tr m1 m2)) (frX_tr fX (frX_mvr fld (mvr_tr m4 m5)))
      exact ih _ _ m216 (by simp; omega) (by omega) s5 (TkR_mvr K3 (mvr_tr m4 m5)) (fun l' y MI' h1 h2 h3 h4 => hT l' y MI' h1 h2 h3 (frX_tr fA h4)) (fun f q MI' h1 h2 h3 => hF f q MI' h1 h2 (frX_tr fA h3))
    · rw [if_neg h124] at hT hF
      refine v_X12_tokens_193 (ux_isGood s4 (fun _ _ => rI_mk ⟨fun z => by omega, fun _ => ⟨fun _ m216 e216 => ?_, fun z => absurd rfl z⟩⟩) (fun f q z => by cases z))
      rw [up2_self rfl] at e216
      subst e216
      refine v_X12_tokens_2 (ux_isGood s4 (fun _ _ => rI_mk ⟨fun z => by omega, fun _ => ⟨fun _ => ?_, fun z => absurd rfl z⟩⟩) (fun f q z => by cases z))
      refine ux_passes s4 (fun y MI5 hy s5 m5 _ => rI_mk ?_) (fun f q MI5 hy s5 m5 _ => rI_mk ?_) (by decide)
      · rw [pb_r] at hy
        exact hT _ y MI5 (by rw [hy]; rfl) s5 (TkR_mvr K3 (mvr_tr m4 m5)) (frX_tr (frX_mvr fld (mvr_tr m1 m2)) (frX_tr fX (frX_mvr fld (mvr_tr m4 m5))))
      · rw [pb_r] at hy
        exact hF f q MI5 (by rw [hy]; rfl) s5 (frX_tr (frX_mvr fld (mvr_tr m1 m2)) (frX_tr fX (frX_mvr fld (mvr_tr m4 m5))))
theorem ux_tokens {h : Int} (hr : 800 * bk ≤ rJ ∧ rJ < 800 * bk + 800) (hs : StR bk T n OI OL B (.inr h) MI ML) (h0 : MI 163 rJ = 0)
    (hT : ∀ l' y MI', tkF T n 9 h [] = .inr (l', y) → StR bk T n OI OL B (.inr y) MI' ML → TkR bk T n rJ l' MI' → frX (chT rJ) MI ML MI' ML → Q none (MI', ML, GR d e nw th x))
    (hF : ∀ f q MI', tkF T n 9 h [] = .inl (f, q) → StR bk T n OI OL B (.inl (f, q)) MI' ML → frX (chT rJ) MI ML MI' ML → Q none (MI', ML, GR d e nw th x)) :
    wp cs mX12_tokens KD Q 0 (padL [vR 124, vI (rJ : Nat)] 5) [] (KD, MI, ML, GR d e nw th x) :=
  v_X12_tokens_0 (c_rtokens_l hr 9 [] h MI rfl (by decide) hs ⟨h0, by simp, fun k y hk => by simp at hk⟩ hT hF)
/-- a DEFAULT behind its S -/
def dfT (T : Nat → Int) (n : Int) (r : Nat) (g : Int) : PR (Int × By × Int) :=
  if stb T n g [35, 82, 69, 81, 85, 73, 82, 69, 68] = true then .inr (1, [], g + 9)
  else if stb T n g [35, 73, 77, 80, 76, 73, 69, 68] = true then .inr (0, [], g + 8)
  else if stb T n g [35, 70, 73, 88, 69, 68] = true then pb (msS T n (g + 6)) fun y => pb (vlS T n r y) fun q => .inr (2, q.1, q.2)
  else pb (vlS T n r g) fun q => .inr (3, q.1, q.2)
theorem dfS_T (T : Nat → Int) (n : Int) (r : Nat) (h : Int) : dfS T n r h = pb (msS T n h) (dfT T n r) := rfl
theorem wbl_REQ : wbl 2545172955043287621 8 = [35, 82, 69, 81, 85, 73, 82, 69] := by decide +kernel
theorem wbl_D : wbl 68 1 = [68] := by decide +kernel
theorem wbl_IMP : wbl 2542648471899948356 8 = [35, 73, 77, 80, 76, 73, 69, 68] := by decide +kernel
theorem wbl_FIX : wbl 38784785204548 6 = [35, 70, 73, 88, 69, 68] := by decide +kernel
def chV (bk pl i k : Nat) : Prop := (i = 124 ∧ fldR k) ∨ (i = 138 ∧ 2000 * bk + pl ≤ k ∧ k < 2000 * bk + 2000) ∨ (i = 139 ∧ k = bk)
theorem frX_valR {MI' : Nat → Nat → Int} (h : valR bk pl MI MI') : frX (chV bk pl) MI ML MI' ML := fun i k hk => ⟨by
  unfold chV fldR at hk
  by_cases h1 : i = 124
  · subst h1; exact h.2.1 k (by omega) (by omega) (by omega) (by omega) (by omega)
  · by_cases h2 : i = 138
    · subst h2; exact h.2.2.2 k (by omega)
    · by_cases h3 : i = 139
      · subst h3; exact h.2.2.1 k (by omega)
      · rw [h.1 i h1 h2 h3], rfl⟩
def chDf (bk pl rJ i k : Nat) : Prop := chV bk pl i k ∨ ((160 ≤ i ∧ i ≤ 162) ∧ k = rJ)
theorem inB_chV {i k : Nat} (h : chV bk pl i k) : inB bk i k := by
  rcases h with h | h | h
  · exact Or.inl ⟨h.1, Or.inl h.2⟩
  · refine Or.inr (Or.inr ⟨by omega, by omega, by omega, ?_⟩)
    rw [h.1, show wR 138 = 2000 by decide]; omega
  · refine Or.inr (Or.inr ⟨by omega, by omega, by omega, ?_⟩)
    rw [h.1, show wR 139 = 1 by decide]; omega
theorem inB_chDf {i k : Nat} (hr : 800 * bk ≤ rJ ∧ rJ < 800 * bk + 800) (h : chDf bk pl rJ i k) : inB bk i k := by
  rcases h with h | h
  · exact inB_chV h
  · refine Or.inr (Or.inr ⟨by omega, by omega, by omega, ?_⟩)
    have : wR i = 800 := by unfold wR; rw [if_neg (by omega), if_neg (by omega), if_neg (by omega), if_neg (by omega), if_neg (by omega), if_pos (by omega)]
    rw [this]; omega
theorem ux_defaults (hr : 800 * bk ≤ rJ ∧ rJ < 800 * bk + 800) (hs : StR bk T n OI OL B s MI ML) (hB : B + 2 ≤ 60000) (hp : MI 139 bk = (pl : Nat)) (hpl : pl ≤ 2000)
    (hT : ∀ u v y MI', pb s (dfT T n (2000 - pl)) = .inr (u, v, y) → StR bk T n OI OL (B + 2) (.inr y) MI' ML → frX (chDf bk pl rJ) MI ML MI' ML → MI' 139 bk = ((pl + v.length : Nat) : Int) → MI' 160 rJ = howR u → (2 ≤ u → poR bk MI' ((pl + v.length : Nat) : Int) (MI' 161 rJ) (MI' 162 rJ) v) → Q none (MI', ML, GR d e nw th x))
    (hF : ∀ f q MI', pb s (dfT T n (2000 - pl)) = .inl (f, q) → StR bk T n OI OL (B + 2) (.inl (f, q)) MI' ML → frX (chDf bk pl rJ) MI ML MI' ML → Q none (MI', ML, GR d e nw th x)) :
    wp cs mX12_defaults KD Q 0 (padL [vR 124, vI (rJ : Nat)] 2) [] (KD, MI, ML, GR d e nw th x) := by
  have hBB := hs.2.1
  rcases s with ⟨f, q⟩ | g
  · refine v_X12_defaults_0 (ux_isGood hs (fun _ z => by cases z) (fun f' q' z => rI_mk ⟨fun _ => ?_, fun z => absurd rfl z⟩))
    exact hF f q MI rfl (StR_B hs (by omega)) (frX_rfl _ _)
  rw [pb_r] at hT hF
  have a5 := hs.1.2.2.2.2.1
  have hn := hs.1.2.2.1
  have c16 : ∀ i, 160 ≤ i → i ≤ 162 → chDf bk pl rJ i rJ := fun i h1 h2 => Or.inr ⟨⟨h1, h2⟩, rfl⟩
  have fld : ∀ j, fldR j → chDf bk pl rJ 124 j := fun j hj => Or.inl (Or.inl ⟨rfl, hj⟩)
  refine v_X12_defaults_0 (ux_isGood hs (fun _ _ => rI_mk ⟨fun z => by omega, fun _ => ⟨by omega, fun m14 e14 => ?_⟩⟩) (fun f q z => by cases z))
  simp only [Int.toNat_natCast] at e14 ⊢
  have f14 : frX (chDf bk pl rJ) MI ML m14 ML := by rw [e14]; exact frX_upI (c16 160 (by omega) (by omega))
  have r14 : ∀ i, i ≠ 160 → m14 i = MI i := fun i hi => by rw [e14]; funext k; exact up2_ne hi k
  have s1 := StR_frX (fun i k z => inB_chDf hr z) hs f14 (by rw [r14 124 (by decide)]) (by rw [r14 124 (by decide)]) (by rw [r14 124 (by decide)])
  obtain ⟨b1, b2, b3, b4, b5⟩ := s1.2.2
  have p1 : m14 139 bk = (pl : Nat) := by rw [r14 139 (by decide)]; exact hp
  -- a word without a value
  have word : ∀ (u w : Int) (m68 m77 : Nat → Nat → Int), g + w ≤ n → 0 ≤ w → m68 = up2 m14 124 4 (g + w) → m77 = up2 m68 160 rJ (howR u) → u < 2 → dfT T n (2000 - pl) g = .inr (u, [], g + w) → Q none (m77, ML, GR d e nw th x) := by
    intro u w m68 m77 h1 h2 e68 e77 hu hd
    obtain ⟨s2, m2⟩ := StR_at s1 e68 (by omega)
    have f77 : frX (chDf bk pl rJ) m68 ML m77 ML := by rw [e77]; exact frX_upI (c16 160 (by omega) (by omega))
    have rr : ∀ i, i ≠ 160 → m77 i = m68 i := fun i hi => by rw [e77]; funext k; exact up2_ne hi k
    have s3 := StR_frX (fun i k z => inB_chDf hr z) s2 f77 (by rw [rr 124 (by decide)]) (by rw [rr 124 (by decide)]) (by rw [rr 124 (by decide)])
    exact hT u [] (g + w) m77 hd (StR_Bg s3 (by omega)) (frX_tr f14 (frX_tr (frX_mvr fld m2) f77)) (by rw [rr 139 (by decide), m2.1 139 (by decide), p1]; rfl) (by rw [e77, up2_eq]) (fun z => by omega)
  -- a value
  have val : ∀ (u : Int) (s' : PR Int) (m : Nat → Nat → Int), 2 ≤ u → StR bk T n OI OL B s' m ML → frX (chDf bk pl rJ) MI ML m ML → m 139 bk = (pl : Nat) → m 160 rJ = howR u → dfT T n (2000 - pl) g = (pb s' fun y => pb (vlS T n (2000 - pl) y) fun q => .inr (u, q.1, q.2)) →
      wp cs mX12_value KD (rI (GR d e nw th x) fun x119 m119 n119 => ∀ m122, m122 = up2 m119 161 rJ x119 → ∀ m132, m132 = up2 m122 162 rJ (m122 124 51) → Q none (m132, n119, (GR d e nw th x))) 0 (padL [vR 124] 5) [] (KD, m, ML, (GR d e nw th x)) := by
    intro u s' m hu s2 f2 p2 h160 hd
    refine ux_value s2 hB p2 hpl (fun l y m119 hv s3 v3 e139 e51 po => rI_mk (fun m122 e122 m132 e132 => ?_)) (fun f q m119 hv s3 v3 e139 => rI_mk (fun m122 e122 m132 e132 => ?_))
    · have f132 : frX (chDf bk pl rJ) m119 ML m132 ML := by rw [e132, e122]; exact frX_tr (frX_upI (c16 161 (by omega) (by omega))) (frX_upI (c16 162 (by omega) (by omega)))
      have rr : ∀ i, i ≠ 161 → i ≠ 162 → m132 i = m119 i := fun i h1 h2 => by rw [e132, e122]; funext k; rw [up2_ne h2, up2_ne h1]
      have r1 := rr 124 (by decide) (by decide)
      have s4 := StR_frX (fun i k z => inB_chDf hr z) s3 f132 (by rw [r1]) (by rw [r1]) (by rw [r1])
      have hd' : dfT T n (2000 - pl) g = .inr (u, l, y) := by
        rw [hd]
        rcases s' with w | w
        · cases hv
        · rw [pb_r] at hv ⊢; rw [hv]; rfl
      refine hT u l y m132 hd' s4 (frX_tr f2 (frX_tr (frX_mono (frX_valR v3) (fun i k z => Or.inl z)) f132)) (by rw [rr 139 (by decide) (by decide), e139]; omega) (by rw [rr 160 (by decide) (by decide), v3.1 160 (by decide) (by decide) (by decide)]; exact h160) (fun _ => ?_)
      have e1 : m132 161 rJ = 2000 * (bk : Int) + (pl : Nat) := by rw [e132, up2_ne (by decide), e122, up2_eq]
      have e2 : m132 162 rJ = (l.length : Nat) := by rw [e132, up2_eq, e122, up2_ne (by decide)]; exact e51
      rw [e1, e2]
      exact poR_grow po (fun k _ => by rw [rr 138 (by decide) (by decide)]) (by omega)
    · have f132 : frX (chDf bk pl rJ) m119 ML m132 ML := by rw [e132, e122]; exact frX_tr (frX_upI (c16 161 (by omega) (by omega))) (frX_upI (c16 162 (by omega) (by omega)))
      have r1 : m132 124 = m119 124 := by rw [e132, e122]; funext k; rw [up2_ne (by decide), up2_ne (by decide)]
      have s4 := StR_frX (fun i k z => inB_chDf hr z) s3 f132 (by rw [r1]) (by rw [r1]) (by rw [r1])
      have hd' : dfT T n (2000 - pl) g = .inl (f, q) := by
        rw [hd]
        rcases s' with w | w
        · cases hv; rfl
        · rw [pb_r] at hv ⊢; rw [hv]; rfl
      exact hF f q m132 hd' s4 (frX_tr f2 (frX_tr (frX_mono (frX_valR v3) (fun i k z => Or.inl z)) f132))
  unfold dfT at word val
  refine ux_stands2 (m := 1) (by decide) wbl_REQ (by decide) (by decide) s1 (fun hE => rI_mk ⟨fun z => by omega, fun _ => ?_⟩) (fun hE => rI_mk ⟨fun _ => ?_, fun z => absurd rfl z⟩)
  · rw [wbl_D] at hE
    have hE' : stb T n g [35, 82, 69, 81, 85, 73, 82, 69, 68] = true := hE
    have hr := stb_room _ g (by omega) (by decide) (by decide) hE'
    simp only [List.length_cons, List.length_nil] at hr
    rw [b1]
    refine ⟨by omega, fun m37 e37 m46 e46 => ?_⟩
    exact word 1 9 m37 m46 (by omega) (by omega) e37 e46 (by omega) (by rw [if_pos hE'])
  have hE' : ¬ stb T n g [35, 82, 69, 81, 85, 73, 82, 69, 68] = true := by rw [wbl_D] at hE; intro z; rw [show stb T n g [35, 82, 69, 81, 85, 73, 82, 69, 68] = false from hE] at z; cases z
  rw [if_neg hE'] at word val
  refine ux_stands (m := 8) (by decide) s1 (fun hI => rI_mk ⟨fun z => by omega, fun _ => ?_⟩) (fun hI => rI_mk ⟨fun _ => ?_, fun z => absurd rfl z⟩)
  · rw [wbl_IMP] at hI
    have hr := stb_room _ g (by omega) (by decide) (by decide) hI
    simp only [List.length_cons, List.length_nil] at hr
    rw [b1]
    refine ⟨by omega, fun m37 e37 m46 e46 => ?_⟩
    exact word 0 8 m37 m46 (by omega) (by omega) e37 e46 (by omega) (by rw [if_pos hI])
  rw [wbl_IMP] at hI
  rw [if_neg (by rw [hI]; decide)] at word val
  refine ux_stands (m := 6) (by decide) s1 (fun hX => rI_mk ⟨fun z => by omega, fun _ => ?_⟩) (fun hX => rI_mk ⟨fun _ => ?_, fun z => absurd rfl z⟩)
  · rw [wbl_FIX] at hX
    have hr' := stb_room _ g (by omega) (by decide) (by decide) hX
    simp only [List.length_cons, List.length_nil] at hr'
    rw [b1]
    refine ⟨by omega, fun m99 e99 m108 e108 => ?_⟩
    obtain ⟨s2, m2⟩ := StR_at s1 e99 (by omega)
    have f108 : frX (chDf bk pl rJ) m99 ML m108 ML := by rw [e108]; exact frX_upI (c16 160 (by omega) (by omega))
    have rr : ∀ i, i ≠ 160 → m108 i = m99 i := fun i hi => by rw [e108]; funext k; exact up2_ne hi k
    have s3 := StR_frX (fun i k z => inB_chDf hr z) s2 f108 (by rw [rr 124 (by decide)]) (by rw [rr 124 (by decide)]) (by rw [rr 124 (by decide)])
    refine ux_mustS s3 (fun m110 s4 m4 _ => rV_mk ?_)
    rw [pb_r] at s4
    rw [if_pos hX] at val
    exact val 2 _ m110 (by omega) s4 (frX_tr f14 (frX_tr (frX_mvr fld m2) (frX_tr f108 (frX_mvr fld m4)))) (by rw [m4.1 139 (by decide), rr 139 (by decide), m2.1 139 (by decide)]; exact p1) (by rw [m4.1 160 (by decide), e108, up2_eq]; rfl) rfl
  · rw [wbl_FIX] at hX
    rw [if_neg (by rw [hX]; decide)] at val
    exact val 3 (.inr g) m14 (by omega) s1 f14 p1 (by rw [e14, up2_eq]; rfl) rfl
end P92
