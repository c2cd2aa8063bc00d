/-! The reference's TEXT. -/
theorem slc_snoc {T : Nat → Int} {n f l : Int} {y : By} {c : Int} (h : slc T n f l y) (hn : f + l = n) (hc : T (f.toNat + y.length) = c) : slc T (n + 1) f (l + 1) (y ++ [c]) := by
  obtain ⟨h1, h2, h3, h4⟩ := h
  refine ⟨h1, by simp; omega, by omega, fun i z hz => ?_⟩
  rcases last_of hz with ⟨hj1, hj2⟩ | ⟨rfl, rfl⟩
  · exact h4 i z hj2
  · exact hc
section Pa01
variable {cs : Cs} {Q : Option AV → Mm → Prop} {MI ML OI OL : Nat → Nat → Int} {bk d e nw th x pl len kI : Nat} {T : Nat → Int} {n B : Int} {s : PR Int} {D : Dt} {ns : List Nd}
theorem rtx_148 {l1 : Int} {s : PR Int} (hs : StR bk T n OI OL B s MI ML) (hkI : kI = 600 * bk + len) (hlen : len < 600) (hl : 2000 * (bk : Int) ≤ l1 ∧ l1 ≤ 2000 * (bk : Int) + 2000) (hp : 0 ≤ MI 139 bk ∧ MI 139 bk ≤ 2000)
    (hQ : ∀ MI', StR bk T n OI OL B s MI' ML → (∀ i, i ≠ 134 → i ≠ 135 → MI' i = MI i) → (∀ i k, k ≠ kI → MI' i k = MI i k) → MI' 134 kI = l1 → MI' 135 kI = 2000 * (bk : Int) + MI 139 bk - l1 → Q none (MI', ML, GR d e nw th x)) :
    wp cs mX12_text KD Q 148 [some (vR 124), some (vI l1), some (vI (len : Nat)), none, none] [] (KD, MI, ML, GR d e nw th x) := by
  have a5 := hs.1.2.2.2.2.1
  have e8 : MI 124 8 = (bk : Int) := hs.1.2.2.2.1
  have ei : (600 * (bk : Int) + ((len : Nat) : Int)).toNat = kI := by omega
  refine v_X12_text_148 ⟨fun z => by omega, fun _ => ?_⟩
  rw [e8, ei]
  refine ⟨by omega, by omega, by omega, fun m167 e167 => ?_⟩
  have k8 : m167 124 8 = (bk : Int) := by rw [e167, up2_ne (by decide)]; exact e8
  rw [k8, ei]
  simp only [Int.toNat_natCast]
  have k139 : m167 139 bk = MI 139 bk := by rw [e167, up2_ne (by decide)]
  rw [k139]
  refine ⟨by omega, by omega, by omega, by omega, by omega, by omega, by omega, fun m202 e202 => ?_⟩
  have r : ∀ i, i ≠ 134 → i ≠ 135 → m202 i = MI i := fun i h1 h2 => by rw [e202, e167]; funext k; rw [up2_ne h2, up2_ne h1]
  have c13 : ∀ i, 130 ≤ i → i ≤ 137 → chA bk 0 len i kI := fun i h1 h2 => Or.inr (Or.inr (Or.inl ⟨⟨h1, h2⟩, by omega, by omega⟩))
  have fX : frX (chA bk 0 len) MI ML m202 ML := by rw [e202, e167]; exact frX_tr (frX_upI (c13 134 (by omega) (by omega))) (frX_upI (c13 135 (by omega) (by omega)))
  have r1 := r 124 (by decide) (by decide)
  refine hQ m202 (StR_frX (fun i k z => inB_chA z) hs fX (by rw [r1]) (by rw [r1]) (by rw [r1])) r (fun i k hk => ?_) ?_ ?_
  · rw [e202, e167]
    by_cases h5 : i = 135
    · subst h5; rw [up2_nk hk, up2_ne (by decide)]
    · rw [up2_ne h5]
      by_cases h4 : i = 134
      · subst h4; rw [up2_nk hk]
      · rw [up2_ne h4]
  · rw [e202, up2_ne (by decide), e167, up2_eq]
  · rw [e202, up2_eq]
theorem rtx_bad21 {l1 f q : Int} (hs : StR bk T n OI OL B (.inl (f, q)) MI ML) (hkI : kI = 600 * bk + len) (hlen : len < 600) (hl : 2000 * (bk : Int) ≤ l1 ∧ l1 ≤ 2000 * (bk : Int) + 2000) (hp : 0 ≤ MI 139 bk ∧ MI 139 bk ≤ 2000)
    (hQ : ∀ MI', StR bk T n OI OL B (.inl (f, q)) MI' ML → Q none (MI', ML, GR d e nw th x)) :
    wp cs mX12_text KD Q 21 [some (vR 124), some (vI l1), some (vI (len : Nat)), none, none] [] (KD, MI, ML, GR d e nw th x) :=
  v_X12_text_21 (ux_isGood hs (fun _ z => by cases z) (fun _ _ _ => rI_mk ⟨fun _ => rtx_148 hs hkI hlen hl hp (fun MI' s' _ _ _ _ => hQ MI' s'), fun z => absurd rfl z⟩))
theorem rtx_bad21m {l1 f q : Int} (hs : StR bk T n OI OL B (.inl (f, q)) MI ML) (hQ : Q none (MI, ML, GR d e nw th x)) :
    wp cs mX12_text KD Q 21 [some (vR 124), some (vI l1), some (vI (-1)), none, none] [] (KD, MI, ML, GR d e nw th x) :=
  v_X12_text_21 (ux_isGood hs (fun _ z => by cases z) (fun _ _ _ => rI_mk ⟨fun _ => v_X12_text_148 ⟨fun _ => hQ, fun z => by omega⟩, fun z => absurd rfl z⟩))
theorem rtx_77 {h y c l1 l2 sol : Int} {acc : By} (hs : StR bk T n OI OL B (.inr y) MI ML) (hkI : kI = 600 * bk + len) (hlen : len < 600) (hp : MI 139 bk = ((pl + acc.length : Nat) : Int)) (hpl : pl + acc.length ≤ 2000) (po : poR bk MI ((pl + acc.length : Nat) : Int) (2000 * (bk : Int) + (pl : Nat)) (acc.length : Nat) acc) (h137 : MI 137 kI = 1 - sol) (hsol : sol = 0 ∨ sol = 1) (h52 : MI 124 52 = bI (ob T n h = 38)) (hc : 0 ≤ c ∧ c < 128)
    (hT : pl + acc.length < 2000 → ∀ MI', StR bk T n OI OL B (.inr y) MI' ML → frX (chA bk pl len) MI ML MI' ML → (∀ i, 129 ≤ i → i ≤ 136 → MI' i = MI i) → MI' 139 bk = ((pl + (acc ++ [c]).length : Nat) : Int) → poR bk MI' ((pl + (acc ++ [c]).length : Nat) : Int) (2000 * (bk : Int) + (pl : Nat)) ((acc ++ [c]).length : Nat) (acc ++ [c]) → MI' 137 kI = 1 - (if sol = 1 ∨ ob T n h = 38 ∨ ¬ isSp c then 1 else 0) → wp cs mX12_text KD Q 21 [some (vR 124), some (vI l1), some (vI (len : Nat)), none, none] [] (KD, MI', ML, GR d e nw th x))
    (hF : 2000 ≤ pl + acc.length → ∀ MI', StR bk T n OI OL B (.inl (-3, h)) MI' ML → MI' 139 bk = ((pl + acc.length : Nat) : Int) → wp cs mX12_text KD Q 21 [some (vR 124), some (vI l1), some (vI (len : Nat)), none, none] [] (KD, MI', ML, GR d e nw th x)) :
    wp cs mX12_text KD Q 77 [some (vR 124), some (vI l1), some (vI l2), some (vI h), some (vI c)] [vI (len : Nat)] (KD, MI, ML, GR d e nw th x) := by
  have a5 := hs.1.2.2.2.2.1
  have ei : (600 * (bk : Int) + ((len : Nat) : Int)).toNat = kI := by omega
  have c137 : ∀ {p : Nat}, chA bk p len 137 kI := Or.inr (Or.inr (Or.inl ⟨⟨by omega, by omega⟩, by omega, by omega⟩))
  refine v_X12_text_77 (ux_isGood hs (fun _ _ => rI_mk ⟨fun z => by omega, fun _ => ?_⟩) (fun f q z => by cases z))
  -- what is written of the blank
  have wr : ∀ (m89 : Nat → Nat → Int) (s' : PR Int), StR bk T n OI OL B s' m89 ML → m89 137 kI = 1 - sol → m89 124 52 = bI (ob T n h = 38) ∨ True → (∀ (v : Int) (m144 : Nat → Nat → Int), m144 = up2 m89 137 kI v → StR bk T n OI OL B s' m144 ML → (m89 124 52 = bI (ob T n h = 38) → v = 1 - (if sol = 1 ∨ ob T n h = 38 ∨ ¬ isSp c then 1 else 0)) → wp cs mX12_text KD Q 21 [some (vR 124), some (vI l1), some (vI (len : Nat)), none, none] [] (KD, m144, ML, GR d e nw th x)) →
      (-2147483648 ≤ 600 * (m89 124 8) ∧ 600 * (m89 124 8) < 2147483648) ∧ (-2147483648 ≤ (600 * (m89 124 8)) + (len : Nat) ∧ (600 * (m89 124 8)) + (len : Nat) < 2147483648) ∧ (0 ≤ ((600 * (m89 124 8)) + (len : Nat)) ∧ ((600 * (m89 124 8)) + (len : Nat)) < 1200) ∧ (((m89 137 ((600 * (m89 124 8)) + (len : Nat)).toNat) = 0 → ∀ m144, m144 = up2 m89 137 ((600 * (m89 124 8)) + (len : Nat)).toNat 0 → wp cs mX12_text KD Q 21 [some (vR 124), some (vI l1), some (vI (len : Nat)), none, none] [] (KD, m144, ML, (GR d e nw th x))) ∧ ((m89 137 ((600 * (m89 124 8)) + (len : Nat)).toNat) ≠ 0 → wp cs mX12_isS KD (rI (GR d e nw th x) fun x126 m126 n126 => ((x126 = 0 → ∀ m144, m144 = up2 m126 137 ((600 * (m89 124 8)) + (len : Nat)).toNat 0 → wp cs mX12_text KD Q 21 [some (vR 124), some (vI l1), some (vI (len : Nat)), none, none] [] (KD, m144, n126, (GR d e nw th x))) ∧ (x126 ≠ 0 → (((m126 124 52) = 0 → ∀ m144, m144 = up2 m126 137 ((600 * (m89 124 8)) + (len : Nat)).toNat 1 → wp cs mX12_text KD Q 21 [some (vR 124), some (vI l1), some (vI (len : Nat)), none, none] [] (KD, m144, n126, (GR d e nw th x))) ∧ ((m126 124 52) ≠ 0 → ∀ m144, m144 = up2 m126 137 ((600 * (m89 124 8)) + (len : Nat)).toNat 0 → wp cs mX12_text KD Q 21 [some (vR 124), some (vI l1), some (vI (len : Nat)), none, none] [] (KD, m144, n126, (GR d e nw th x))))))) 0 (padL [vI c] 1) [] (KD, m89, ML, (GR d e nw th x)))) := by
    intro m89 s' h5 h7 _ go
    have k8 : m89 124 8 = (bk : Int) := h5.1.2.2.2.1
    rw [k8, ei, h7]
    have st : ∀ {v : Int} {m144 : Nat → Nat → Int}, m144 = up2 m89 137 kI v → StR bk T n OI OL B s' m144 ML := fun {v m144} em => StR_frX (C := chA bk 0 len) (fun i k z => inB_chA z) h5 (by rw [em]; exact frX_upI c137) (by rw [em, up2_ne (by decide)]) (by rw [em, up2_ne (by decide)]) (by rw [em, up2_ne (by decide)])
    refine ⟨by omega, by omega, by omega, fun z0 m144 e144 => go 0 m144 e144 (st e144) (fun _ => ?_), fun z0 => w_X12_isS (rI_mk ?_)⟩
    · rw [if_pos (Or.inl (by omega))]; rfl
    by_cases hsp : isSp c
    · rw [show bI (isSp c) = 1 from if_pos hsp]
      refine ⟨fun z => by omega, fun _ => ⟨fun h0 m144 e144 => go 1 m144 e144 (st e144) (fun hb => ?_), fun h0 m144 e144 => go 0 m144 e144 (st e144) (fun hb => ?_)⟩⟩
      · rw [hb] at h0
        have h38 : ob T n h ≠ 38 := fun w => by rw [w] at h0; exact absurd h0 (by decide)
        rw [if_neg (by rintro (w | w | w); omega; exact h38 w; exact w hsp)]; rfl
      · rw [hb] at h0
        have h38 : ob T n h = 38 := Decidable.byContradiction fun w => h0 (if_neg w)
        rw [if_pos (Or.inr (Or.inl h38))]; rfl
    · rw [show bI (isSp c) = 0 from if_neg hsp]
      refine ⟨fun _ m144 e144 => go 0 m144 e144 (st e144) (fun _ => ?_), fun z => absurd rfl z⟩
      rw [if_pos (Or.inr (Or.inr hsp))]; rfl
  refine ux_keep hs hp hpl (by omega) (fun hlt MI1 s1 v1 e139 e138 o138 q124 => rV_mk ?_) (fun hge MI1 s1 m1 => rV_mk ?_)
  · refine wr MI1 _ s1 (by rw [v1.1 137 (by decide) (by decide) (by decide)]; exact h137) (Or.inr trivial) (fun v m144 e144 s2 hv => ?_)
    have rr : ∀ i, i ≠ 137 → m144 i = MI1 i := fun i hi => by rw [e144]; funext k; exact up2_ne hi k
    have hla : (acc ++ [c]).length = acc.length + 1 := by simp
    refine hT hlt m144 s2 (frX_tr (frX_mono (frX_valR (ML := ML) v1) (fun i k z => chA_mono (by omega) (Nat.le_refl _) (chA_V z))) (by rw [e144]; exact frX_upI c137)) (fun i h1 h2 => by rw [rr i (by omega), v1.1 i (by omega) (by omega) (by omega)]) (by rw [rr 139 (by decide), e139, hla]; omega) ?_ ?_
    · rw [hla]
      have p1 : poR bk m144 ((pl + acc.length : Nat) : Int) (2000 * (bk : Int) + (pl : Nat)) (acc.length : Nat) acc := poR_grow po (fun k hk => by rw [rr 138 (by decide), o138 _ (by omega)]) (Int.le_refl _)
      unfold poR at p1 ⊢
      rw [show 2000 * (bk : Int) + ((pl : Nat) : Int) - 2000 * (bk : Int) = ((pl : Nat) : Int) by omega] at p1 ⊢
      have := slc_snoc (c := c) p1 (by omega) (by
        show m144 138 (2000 * bk + ((((pl : Nat) : Int)).toNat + acc.length)) = c
        rw [rr 138 (by decide), Int.toNat_natCast]; exact e138)
      rw [show ((pl + (acc.length + 1) : Nat) : Int) = ((pl + acc.length : Nat) : Int) + 1 by omega, show ((acc.length + 1 : Nat) : Int) = ((acc.length : Nat) : Int) + 1 by omega]
      exact this
    · rw [e144, up2_eq]
      exact hv (by rw [q124]; exact h52)
  · refine wr MI1 _ s1 (by rw [m1.1 137 (by decide)]; exact h137) (Or.inr trivial) (fun v m144 e144 s2 _ => ?_)
    exact hF hge m144 s2 (by rw [e144, up2_ne (by decide), m1.1 139 (by decide)]; exact hp)
theorem c_rtext_l {u : Int} {M0 : Nat → Nat → Int} (hkI : kI = 600 * bk + len) (hlen : len < 600) : ∀ (k : Nat) (acc : By) (sol h : Int) (MI : Nat → Nat → Int), (n + 1 - h).toNat ≤ k → StR bk T n OI OL B (.inr h) MI ML → MI 139 bk = ((pl + acc.length : Nat) : Int) → pl + acc.length ≤ 2000 → poR bk MI ((pl + acc.length : Nat) : Int) (2000 * (bk : Int) + (pl : Nat)) (acc.length : Nat) acc → MI 137 kI = 1 - sol → (sol = 0 ∨ sol = 1) → frX (chA bk pl len) M0 ML MI ML → (MI 130 kI = 3 ∧ MI 131 kI = u ∧ MI 133 kI = 0 ∧ MI 136 kI = 0 ∧ MI 129 bk = ((len + 1 : Nat) : Int)) →
    (∀ l z y MI', txF T n k (2000 - (pl + acc.length)) h = .inr (l, z, y) → StR bk T n OI OL B (.inr y) MI' ML → frX (chA bk pl len) M0 ML MI' ML → MI' 139 bk = ((pl + (acc ++ l).length : Nat) : Int) → NdRA bk T n (pl + (acc ++ l).length) MI' kI (3, u, [], acc ++ l, 0, if sol = 1 then 1 else z) → MI' 129 bk = ((len + 1 : Nat) : Int) → Q none (MI', ML, GR d e nw th x)) →
    (∀ f p MI', txF T n k (2000 - (pl + acc.length)) h = .inl (f, p) → StR bk T n OI OL B (.inl (f, p)) MI' ML → Q none (MI', ML, GR d e nw th x)) →
    wp cs mX12_text KD Q 21 [some (vR 124), some (vI (2000 * (bk : Int) + (pl : Nat))), some (vI (len : Nat)), none, none] [] (KD, MI, ML, GR d e nw th x) := by
  intro k
  induction k with
  | zero =>
    intro acc sol h MI hk hs
    have := hs.2.2.2.2.2
    omega
  | succ k ih =>
    intro acc sol h MI hk hs hp hpl po h137 hsol hf hN hT hF
    rw [txF] at hT hF
    have hn := hs.1.2.2.1
    have a5 := hs.1.2.2.2.2.1
    obtain ⟨b1, b2, b3, b4, b5⟩ := hs.2.2
    refine v_X12_text_21 (ux_isGood hs (fun _ _ => rI_mk ⟨fun z => by omega, fun _ => ⟨fun z => by omega, fun _ => ?_⟩⟩) (fun f q z => by cases z))
    rw [b1]
    refine ux_octet hs b4 (rI_mk ⟨fun h60 => ?_, fun h60 => ?_⟩)
    · rw [if_pos h60] at hT
      refine rtx_148 hs hkI hlen (by omega) (by omega) (fun MI' s' r' o' k134 k135 => ?_)
      have c13 : ∀ i, 130 ≤ i → i ≤ 137 → chA bk pl len i kI := fun i h1 h2 => Or.inr (Or.inr (Or.inl ⟨⟨h1, h2⟩, by omega, by omega⟩))
      have fX : frX (chA bk pl len) MI ML MI' ML := fun i k hk => ⟨by
        by_cases hh : k = kI
        · subst hh
          have h4 : i ≠ 134 := fun w => hk (by rw [w]; exact c13 134 (by omega) (by omega))
          have h5 : i ≠ 135 := fun w => hk (by rw [w]; exact c13 135 (by omega) (by omega))
          rw [r' i h4 h5]
        · exact o' i k hh, rfl⟩
      have e135 : MI' 135 kI = (acc.length : Nat) := by rw [k135, hp]; omega
      refine hT [] 0 h MI' rfl s' (frX_tr hf fX) (by rw [List.append_nil, r' 139 (by decide) (by decide)]; exact hp) ?_ (by rw [r' 129 (by decide) (by decide)]; exact hN.2.2.2.2)
      rw [List.append_nil]
      refine ⟨by rw [r' 130 (by decide) (by decide)]; exact hN.1, by rw [r' 131 (by decide) (by decide)]; exact hN.2.1, ⟨by rw [r' 133 (by decide) (by decide)]; exact hN.2.2.1, fun z => by simp at z⟩, ⟨e135, fun _ => ?_⟩, by rw [r' 136 (by decide) (by decide)]; exact hN.2.2.2.1, ?_⟩
      · rw [k134, e135]
        exact poR_grow po (fun k _ => by rw [r' 138 (by decide) (by decide)]) (Int.le_refl _)
      · rw [r' 137 (by decide) (by decide), h137]
        show 1 - sol = 1 - (if sol = 1 then 1 else 0)
        rcases hsol with z | z
        · rw [z, if_neg (by decide)]
        · rw [z, if_pos rfl]
    rw [if_neg h60] at hT hF
    refine v_X12_text_45 ?_
    rw [b1]
    refine ux_takePiece hs (fun c y MI1 hy s1 m1 e52 => rI_mk ⟨fun z => by omega, fun _ => ?_⟩) (fun f p MI1 hy s1 m1 => rI_mk ⟨fun z => by omega, fun _ => ?_⟩)
    · have hc := pcS_ok b4 hy
      rw [hy, pb_r] at hT hF
      refine rtx_77 (sol := sol) s1 hkI hlen (by rw [m1.1 139 (by decide)]; exact hp) hpl (poR_grow po (fun k _ => by rw [m1.1 138 (by decide)]) (Int.le_refl _)) (by rw [m1.1 137 (by decide)]; exact h137) hsol e52 (by have := hc.1; unfold isCh at this; omega) (fun hlt MI2 s2 f2 r2 e139 po2 k137 => ?_) (fun hge MI2 s2 e139 => ?_)
      · rw [if_neg (by omega)] at hT hF
        have hla : (acc ++ [c]).length = acc.length + 1 := by simp
        have e20 : 2000 - (pl + (acc ++ [c]).length) = 2000 - (pl + acc.length) - 1 := by omega
        obtain ⟨sol', hsl⟩ : ∃ v : Int, v = (if sol = 1 ∨ ob T n h = 38 ∨ ¬ isSp c then 1 else 0) := ⟨_, rfl⟩
        rw [← hsl] at k137
        have hs01 : sol' = 0 ∨ sol' = 1 := by rw [hsl]; split <;> simp
        refine ih (acc ++ [c]) sol' y MI2 (by omega) s2 e139 (by omega) po2 k137 hs01 (frX_tr hf (frX_tr (frX_mvr (fun k h => chA_fld h) m1) f2)) ⟨by rw [r2 130 (by omega) (by omega), m1.1 130 (by decide)]; exact hN.1, by rw [r2 131 (by omega) (by omega), m1.1 131 (by decide)]; exact hN.2.1, by rw [r2 133 (by omega) (by omega), m1.1 133 (by decide)]; exact hN.2.2.1, by rw [r2 136 (by omega) (by omega), m1.1 136 (by decide)]; exact hN.2.2.2.1, by rw [r2 129 (by omega) (by omega), m1.1 129 (by decide)]; exact hN.2.2.2.2⟩ (fun l z y' MI' h1 h2 h3 h4 h5 h6 => ?_) (fun f p MI' h1 h2 => ?_)
        · rw [e20] at h1
          rw [List.append_assoc, List.singleton_append] at h4 h5
          refine hT (c :: l) (if ob T n h = 38 ∨ ¬ isSp c then 1 else z) y' MI' (by rw [h1]; rfl) h2 h3 h4 ?_ h6
          have hz : (if sol' = 1 then 1 else z) = (if sol = 1 then 1 else if ob T n h = 38 ∨ ¬ isSp c then 1 else z) := by
            rw [hsl]
            by_cases q1 : sol = 1
            · rw [if_pos (show (if sol = 1 ∨ ob T n h = 38 ∨ ¬ isSp c then (1 : Int) else 0) = 1 from if_pos (Or.inl q1)), if_pos q1]
            · rw [if_neg q1]
              by_cases q2 : ob T n h = 38 ∨ ¬ isSp c
              · rw [if_pos (show (if sol = 1 ∨ ob T n h = 38 ∨ ¬ isSp c then (1 : Int) else 0) = 1 from if_pos (Or.inr q2)), if_pos q2]
              · rw [if_neg q2, if_neg]
                rw [if_neg (fun w => w.elim q1 q2)]; decide
          rw [hz] at h5
          exact h5
        · rw [e20] at h1
          exact hF f p MI' (by rw [h1]; rfl) h2
      · rw [if_pos (by omega)] at hF
        exact rtx_bad21 s2 hkI hlen (by omega) (by omega) (fun MI' s' => hF (-3) h MI' rfl s')
    · rw [hy, pb_l] at hF
      refine v_X12_text_77 (ux_isGood s1 (fun _ z => by cases z) (fun _ _ _ => rI_mk ⟨fun _ => ?_, fun z => absurd rfl z⟩))
      exact rtx_bad21 s1 hkI hlen (by omega) (by rw [m1.1 139 (by decide), hp]; omega) (fun MI' s' => hF f p MI' rfl s')
theorem ux_text {h : Int} {t : Tr} (hs : StR bk T n OI OL B (.inr h) MI ML) (h60 : ob T n h ≠ 60) (hR : TreR bk T n pl D t MI ML)
    (hT : ∀ pl' t' y MI', teS T n pl t h = .inr (pl', t', y) → StR bk T n OI OL B (.inr y) MI' ML → TreR bk T n pl' D t' MI' ML → Q none (MI', ML, GR d e nw th x))
    (hF : ∀ f p MI', teS T n pl t h = .inl (f, p) → StR bk T n OI OL B (.inl (f, p)) MI' ML → Q none (MI', ML, GR d e nw th x)) :
    wp cs mX12_text KD Q 0 (padL [vR 124] 5) [] (KD, MI, ML, GR d e nw th x) := by
  obtain ⟨ns, os, dp⟩ := t
  have hn := hs.1.2.2.1
  have a5 := hs.1.2.2.2.2.1
  have e8 : MI 124 8 = (bk : Int) := hs.1.2.2.2.1
  obtain ⟨b1, b2, b3, b4, b5⟩ := hs.2.2
  have hp : MI 139 bk = (pl : Nat) := hR.2.2.2.2.1
  have hpl := hR.2.2.2.2.2
  have l600 : ns.length ≤ 600 := hR.2.1.2.1
  unfold teS at hT hF
  simp only at hT hF
  refine v_X12_text_0 ?_
  rw [e8]
  simp only [Int.toNat_natCast]
  rw [hp]
  refine ⟨by omega, by omega, by omega, ?_⟩
  refine v_X12_text_21 (ux_isGood hs (fun _ _ => rI_mk ⟨fun z => by omega, fun _ => ⟨fun _ => ?_, fun z => by omega⟩⟩) (fun f q z => by cases z))
  refine v_X12_text_45 ?_
  rw [b1]
  refine ux_takePiece hs (fun c y MI1 hy s1 m1 e52 => rI_mk ⟨fun _ => ?_, fun z => by omega⟩) (fun f p MI1 hy s1 m1 => rI_mk ⟨fun _ => ?_, fun z => by omega⟩)
  · have hc := pcS_ok b4 hy
    rw [hy, pb_r] at hT hF
    refine ux_isGood s1 (fun _ _ => rI_mk ⟨fun z => by omega, fun _ => ?_⟩) (fun f q z => by cases z)
    have R1 := TreR_mvr hR m1
    refine ux_newNode (pl := pl) s1 R1.2.1.1 R1.2.1.2.1 R1.2.2.1 (fun a' MI2 ha hlt s2 f2 q124 q138 q139 e129 hnew => rI_mk ?_) (fun f p MI2 hp2 s2 m2 => rI_mk ?_)
    · cases ha
      simp only at hlt f2 e129 hnew
      have hup : (if os = [] then (if (3 : Int) = 0 then (-1 : Int) else 0) else os.headD 0) = os.headD 0 := by
        cases os with
        | nil => rfl
        | cons c os => rw [if_neg (by simp)]
      rw [hup] at hnew
      rw [if_neg (by omega)] at hT hF
      obtain ⟨kI, hkI⟩ : ∃ kI, kI = 600 * bk + ns.length := ⟨_, rfl⟩
      rw [← hkI] at hnew
      have f2' : frX (chA bk pl ns.length) MI ML MI2 ML := frX_tr (frX_mvr (fun k h => chA_fld h) m1) f2
      have hx : (n + 1).toNat = n.toNat + 1 := by omega
      rw [hx, txF, if_neg h60, hy, pb_r] at hT hF
      have p2 : MI2 139 bk = ((pl + ([] : By).length : Nat) : Int) := by rw [q139, m1.1 139 (by decide)]; exact hp
      refine rtx_77 (pl := pl) (acc := []) (sol := 0) s2 hkI hlt p2 (by simpa using hpl) ⟨by omega, rfl, by simp; omega, fun i y hy => by simp at hy⟩ hnew.2.2.2.2.2 (Or.inl rfl) (by rw [q124]; exact e52) (by have := hc.1; unfold isCh at this; omega) (fun hlt2 MI3 s3 f3 r3 e139 po3 k137 => ?_) (fun hge MI3 s3 e139 => ?_)
      · simp only [List.length_nil, Nat.add_zero] at hlt2
        rw [if_neg (show ¬ 2000 - pl = 0 by omega)] at hT hF
        have e20 : 2000 - (pl + ([] ++ [c] : By).length) = 2000 - pl - 1 := by simp; omega
        obtain ⟨sol', hsl⟩ : ∃ v : Int, v = (if (0 : Int) = 1 ∨ ob T n h = 38 ∨ ¬ isSp c then 1 else 0) := ⟨_, rfl⟩
        rw [← hsl] at k137
        have hs01 : sol' = 0 ∨ sol' = 1 := by rw [hsl]; split <;> simp
        refine c_rtext_l (pl := pl) (u := os.headD 0) (M0 := MI) hkI hlt n.toNat ([] ++ [c]) sol' y MI3 (by omega) s3 e139 (by simp; omega) po3 k137 hs01 (frX_tr f2' f3) ⟨by rw [r3 130 (by omega) (by omega)]; exact hnew.1, by rw [r3 131 (by omega) (by omega)]; exact hnew.2.1, by rw [r3 133 (by omega) (by omega)]; exact hnew.2.2.1, by rw [r3 136 (by omega) (by omega)]; exact hnew.2.2.2.2.1, by rw [r3 129 (by omega) (by omega)]; exact e129⟩ (fun l z y' MI' h1 h2 h3 h4 h5 h6 => ?_) (fun f p MI' h1 h2 => ?_)
        · rw [e20] at h1
          rw [List.nil_append, List.singleton_append] at h4 h5
          have hz : (if sol' = 1 then 1 else z) = (if ob T n h = 38 ∨ ¬ isSp c then 1 else z) := by
            rw [hsl]
            by_cases q2 : ob T n h = 38 ∨ ¬ isSp c
            · rw [if_pos (show (if (0 : Int) = 1 ∨ ob T n h = 38 ∨ ¬ isSp c then (1 : Int) else 0) = 1 from if_pos (Or.inr q2)), if_pos q2]
            · rw [if_neg q2, if_neg]
              rw [if_neg (fun w => w.elim (by decide) q2)]; decide
          rw [hz] at h5
          have tr := TreR_frA hR h3 (pl' := pl + (c :: l).length) (by omega)
          have hk : txF T n n.toNat (2000 - pl - 1) y = .inr (l, z, y') := h1
          have hvl : pl + (c :: l).length ≤ 2000 := by
            have := (txF_ch T n _ _ _ _ _ _ (by omega) h1).2.2.2.1
            simp only [List.length_cons]; omega
          refine hT (pl + (c :: l).length) (ns ++ [(3, os.headD 0, [], c :: l, 0, if ob T n h = 38 ∨ ¬ isSp c then 1 else z)], os, dp) y' MI' (by rw [hk]; rfl) h2 ⟨tr.1, ⟨by rw [h6]; simp, by simp; omega, fun k w hw => ?_⟩, tr.2.2.1, tr.2.2.2, h4, hvl⟩
          rcases last_of hw with ⟨hj1, hj2⟩ | ⟨rfl, rfl⟩
          · exact tr.2.1 k w hj2
          · rw [← hkI]; exact h5
        · rw [e20] at h1
          exact hF f p MI' (by rw [h1]; rfl) h2
      · simp only [List.length_nil, Nat.add_zero] at hge e139
        rw [if_pos (show 2000 - pl = 0 by omega), pb_l] at hF
        exact rtx_bad21 s3 hkI hlt (by omega) (by omega) (fun MI' s' => hF (-3) h MI' rfl s')
    · refine v_X12_text_77 (ux_isGood s2 (fun _ z => by cases z) (fun _ _ _ => rI_mk ⟨fun _ => ?_, fun z => absurd rfl z⟩))
      rw [pb_r] at hp2
      simp only at hp2
      split at hp2
      · cases hp2
        rw [if_pos (by assumption)] at hF
        exact rtx_bad21m s2 (hF (-3) h MI2 rfl s2)
      · cases hp2
  · rw [hy, pb_l] at hF
    refine ux_isGood s1 (fun _ z => by cases z) (fun _ _ _ => rI_mk ⟨fun _ => ?_, fun z => absurd rfl z⟩)
    refine v_X12_text_77 (ux_isGood s1 (fun _ z => by cases z) (fun _ _ _ => rI_mk ⟨fun _ => ?_, fun z => absurd rfl z⟩))
    exact rtx_bad21m s1 (hF f p MI1 rfl s1)
end Pa01
