/-! The reference's reading of a PATH: state, quoted. -/
def StP (T : Nat → Int) (n : Int) (s : PR Int) (MI : Nat → Nat → Int) : Prop := MI 126 = T ∧ MI 124 3 = n ∧ (0 ≤ n ∧ n ≤ 6000) ∧ match s with
  | .inr a => MI 124 4 = a ∧ MI 124 5 = 0 ∧ MI 124 6 = -1 ∧ 0 ≤ a ∧ a ≤ n
  | .inl (f, p) => MI 124 5 = f ∧ f ≠ 0 ∧ MI 124 6 = p ∧ 0 ≤ MI 124 4 ∧ MI 124 4 ≤ 13000
theorem mvr_P {P : Nat → Nat → Prop} {A B : Nat → Nat → Int} (h : mvr A B) (hp : ∀ k, k = 4 ∨ k = 5 ∨ k = 6 ∨ k = 51 ∨ k = 52 → P 124 k) : frP P A B := fun i k hn => by
  by_cases hi : i = 124
  · subst hi
    have : ¬ (k = 4 ∨ k = 5 ∨ k = 6 ∨ k = 51 ∨ k = 52) := fun z => hn (hp k z)
    exact h.2 k (by omega) (by omega) (by omega) (by omega) (by omega)
  · rw [h.1 i hi]
section Pe01
variable {cs : Cs} {Q : Option AV → Mm → Prop} {MI ML OI : Nat → Nat → Int} {d e nw th x : Nat} {T : Nat → Int} {n : Int} {s : PR Int}
theorem StP_good {a sz br : Int} (hs : StP T n s MI) (ha : 0 ≤ a ∧ a ≤ n) : StP T n (.inr a) (rs MI a 0 (-1) sz br) :=
  ⟨by rw [rs_row (by decide)]; exact hs.1, by rw [mvr_rs.2 3 (by decide) (by decide) (by decide) (by decide) (by decide)]; exact hs.2.1, hs.2.2.1, rs_r.1, rs_r.2.1, rs_r.2.2.1, ha.1, ha.2⟩
theorem StP_bad {g f p sz br : Int} (hs : StP T n s MI) (hg : 0 ≤ g ∧ g ≤ 13000) (hf : f ≠ 0) : StP T n (.inl (f, p)) (rs MI g f p sz br) :=
  ⟨by rw [rs_row (by decide)]; exact hs.1, by rw [mvr_rs.2 3 (by decide) (by decide) (by decide) (by decide) (by decide)]; exact hs.2.1, hs.2.2.1, rs_r.2.1, hf, rs_r.2.2.1, by rw [rs_r.1]; exact hg.1, by rw [rs_r.1]; exact hg.2⟩
theorem StP_fr {MI' : Nat → Nat → Int} (hs : StP T n s MI) (h1 : MI' 126 = MI 126) (h2 : ∀ k, k = 3 ∨ k = 4 ∨ k = 5 ∨ k = 6 → MI' 124 k = MI 124 k) : StP T n s MI' := by
  refine ⟨by rw [h1]; exact hs.1, by rw [h2 3 (by decide)]; exact hs.2.1, hs.2.2.1, ?_⟩
  have := hs.2.2.2
  rcases s with ⟨f, p⟩ | a
  · simp only at this ⊢
    rw [h2 4 (by decide), h2 5 (by decide), h2 6 (by decide)]; exact this
  · simp only at this ⊢
    rw [h2 4 (by decide), h2 5 (by decide), h2 6 (by decide)]; exact this
theorem StP_off {i k : Nat} {v : Int} (hs : StP T n s MI) (h1 : i ≠ 124) (h2 : i ≠ 126) : StP T n s (up2 MI i k v) :=
  StP_fr hs (funext fun k => up2_ne (fun z => h2 z.symm) k) (fun k _ => up2_ne (fun z => h1 z.symm) k)
theorem StP_fld {k : Nat} {v : Int} (hs : StP T n s MI) (h1 : k ≠ 3 ∧ k ≠ 4 ∧ k ≠ 5 ∧ k ≠ 6) : StP T n s (up2 MI 124 k v) :=
  StP_fr hs (funext fun k => up2_ne (by decide) k) (fun j hj => up2_nk (by omega) 124)
theorem StP_atg {a v : Int} (hs : StP T n (.inr a) MI) (hv : 0 ≤ v ∧ v ≤ n) : StP T n (.inr v) (up2 MI 124 4 v) :=
  ⟨by rw [← hs.1]; funext k; exact up2_ne (by decide) k, by rw [up2_nk (by decide)]; exact hs.2.1, hs.2.2.1, up2_eq, by rw [up2_nk (by decide)]; exact hs.2.2.2.2.1, by rw [up2_nk (by decide)]; exact hs.2.2.2.2.2.1, hv.1, hv.2⟩
theorem StP_atb {f p v : Int} (hs : StP T n (.inl (f, p)) MI) (hv : 0 ≤ v ∧ v ≤ 13000) : StP T n (.inl (f, p)) (up2 MI 124 4 v) :=
  ⟨by rw [← hs.1]; funext k; exact up2_ne (by decide) k, by rw [up2_nk (by decide)]; exact hs.2.1, hs.2.2.1, by rw [up2_nk (by decide)]; exact hs.2.2.2.1, hs.2.2.2.2.1, by rw [up2_nk (by decide)]; exact hs.2.2.2.2.2.1, by rw [up2_eq]; exact hv.1, by rw [up2_eq]; exact hv.2⟩
theorem py_isGood (hs : StP T n s MI) (hT : ∀ a, s = .inr a → Q (some (vI 1)) (MI, ML, GR d e nw th x)) (hF : ∀ f p, s = .inl (f, p) → Q (some (vI 0)) (MI, ML, GR d e nw th x)) : wp cs mX12_isGood KD Q 0 (padL [vR 124] 1) [] (KD, MI, ML, GR d e nw th x) := by
  refine wp_rs (w_X12_isGood ?_)
  unfold Mr; rw [rs_id]
  rcases s with ⟨f, p⟩ | a
  · have := hs.2.2.2
    rw [show bI (MI 124 5 = 0) = 0 from if_neg (by rw [this.1]; exact this.2.1)]
    exact hF f p rfl
  · have := hs.2.2.2
    rw [show bI (MI 124 5 = 0) = 1 from if_pos this.2.1]
    exact hT a rfl
theorem py_octet {i : Int} (hs : StP T n s MI) (hi : 0 ≤ i) (hQ : Q (some (vI (ob T n i))) (MI, ML, GR d e nw th x)) : wp cs mX12_octet KD Q 0 (padL [vR 124, vI i] 2) [] (KD, MI, ML, GR d e nw th x) := by
  obtain ⟨a1, a2, a3, -⟩ := hs
  refine wp_rs (w_X12_octet (by omega) (by omega) hi ?_)
  unfold Mr; rw [rs_id, a1, a2]; exact hQ
theorem py_stands {z : Int} {m : Nat} {a : Int} (hm : m ≤ 8) (hs : StP T n (.inr a) MI) (hT : stb T n a (wbl z m) = true → Q (some (vI 1)) (MI, ML, GR d e nw th x)) (hF : stb T n a (wbl z m) = false → Q (some (vI 0)) (MI, ML, GR d e nw th x)) : wp cs mX12_stands KD Q 0 (padL [vR 124, vL z, vI (m : Int)] 6) [] (KD, MI, ML, GR d e nw th x) := by
  obtain ⟨a1, a2, a3, b1, b2, b3, b4, b5⟩ := hs
  refine wp_rs (w_X12_stands hm (by omega) (by omega) (by omega) (fun q => ?_) (fun q => ?_))
  · unfold Mr; rw [rs_id]; rw [a1, a2, b1] at q; exact hT q
  · unfold Mr; rw [rs_id]; rw [a1, a2, b1] at q; exact hF q
theorem py_standsB {z f p : Int} {m : Nat} (hm : m ≤ 8) (hs : StP T n (.inl (f, p)) MI) (hT : Q (some (vI 1)) (MI, ML, GR d e nw th x)) (hF : Q (some (vI 0)) (MI, ML, GR d e nw th x)) : wp cs mX12_stands KD Q 0 (padL [vR 124, vL z, vI (m : Int)] 6) [] (KD, MI, ML, GR d e nw th x) := by
  obtain ⟨a1, a2, a3, b1, b2, b3, b4, b5⟩ := hs
  refine wp_rs (w_X12_stands hm (by omega) (by omega) (by omega) (fun q => ?_) (fun q => ?_))
  · unfold Mr; rw [rs_id]; exact hT
  · unfold Mr; rw [rs_id]; exact hF
theorem py_fail {f p : Int} (hf : f ≠ 0) {a : Int} (hs : StP T n (.inr a) MI) (hQ : ∀ MI', StP T n (.inl (f, p)) MI' → mvr MI MI' → MI' 124 4 = a → MI' 124 51 = MI 124 51 → Q none (MI', ML, GR d e nw th x)) : wp cs mX12_fail KD Q 0 (padL [vR 124, vI f, vI p] 3) [] (KD, MI, ML, GR d e nw th x) := by
  have hs' := hs
  obtain ⟨a1, a2, a3, b1, b2, b3, b4, b5⟩ := hs
  exact wp_rs (w_X12_fail (fun _ => hQ _ (StP_bad hs' (by omega) hf) mvr_rs (by rw [rs_r.1]; exact b1) rs_r.2.2.2.1) (fun q => absurd b2 q))
theorem py_passes {c : Int} (hs : StP T n s MI) (hT : ∀ y MI', pb s (fun a => mbS T n a c) = .inr y → StP T n (.inr y) MI' → mvr MI MI' → Q (some (vI 1)) (MI', ML, GR d e nw th x))
    (hF : ∀ f p MI', pb s (fun a => mbS T n a c) = .inl (f, p) → StP T n (.inl (f, p)) MI' → mvr MI MI' → Q (some (vI 0)) (MI', ML, GR d e nw th x)) (hc : c ≠ -1) : wp cs mX12_passes KD Q 0 (padL [vR 124, vI c] 2) [] (KD, MI, ML, GR d e nw th x) := by
  have hs' := hs
  obtain ⟨a1, a2, a3, hm⟩ := hs
  refine wp_rs ?_
  rcases s with ⟨f, p⟩ | a
  · obtain ⟨b1, b2, b3, b4, b5⟩ := hm
    rw [b1]
    refine w_passes_b b2 (by omega) ?_
    rw [← b1]; unfold Mr; rw [rs_id]; exact hF f p MI rfl hs' (mvr_rfl _)
  · obtain ⟨b1, b2, b3, b4, b5⟩ := hm
    rw [pb_r] at hT hF
    rw [b2, b3, b1]
    refine w_passes_g (by omega) (by omega) (by omega) (fun q => ?_) (fun q => ?_)
    · rw [a1, a2] at q
      have := ob_lt hc q
      exact hT (a + 1) _ (by unfold mbS; rw [if_pos q]) (StP_good hs' (by omega)) mvr_rs
    · rw [a1, a2] at q
      exact hF (-1) a _ (by unfold mbS; rw [if_neg q]) (StP_bad hs' (by omega) (by decide)) mvr_rs
theorem py_takeName {a : Int} (hs : StP T n (.inr a) MI) (hT : ∀ y MI', nmS T n a = .inr y → StP T n (.inr y) MI' → mvr MI MI' → MI' 124 51 = y - a → Q (some (vI a)) (MI', ML, GR d e nw th x))
    (hF : ∀ f p MI', nmS T n a = .inl (f, p) → StP T n (.inl (f, p)) MI' → mvr MI MI' → Q (some (vI a)) (MI', ML, GR d e nw th x)) : wp cs mX12_takeName KD Q 0 (padL [vR 124] 2) [] (KD, MI, ML, GR d e nw th x) := by
  have hs' := hs
  obtain ⟨a1, a2, a3, b1, b2, b3, b4, b5⟩ := hs
  refine wp_rs ?_
  rw [b2, b3, b1]
  refine w_takeName_g (by omega) (by omega) (by omega) (fun y q => ?_) (fun f p g z hg q hf => ?_)
  · rw [a1, a2] at q
    have := nmS_ok q
    exact hT y _ q (StP_good hs' (by omega)) mvr_rs rs_r.2.2.2.1
  · rw [a1, a2] at q
    exact hF f p _ q (StP_bad hs' (by omega) hf) mvr_rs
def chQR (f i k : Nat) : Prop := (i = 124 ∧ (k = 4 ∨ k = 5 ∨ k = 6 ∨ k = 51 ∨ k = 52)) ∨ ((i = 189 ∨ i = 190) ∧ k = f)
theorem c_rquoted {f : Nat} {a : Int} (hf : f < 48) (hs : StP T n (.inr a) MI)
    (hQ : ∀ MI', StP T n (pb (quS T n a) fun q => .inr q.2) MI' → frP (chQR f) MI MI' → (∀ v y, quS T n a = .inr (v, y) → slc T n (MI' 189 f) (MI' 190 f) v) → Q none (MI', ML, GR d e nw th x)) :
    wp cs mX12_quoted KD Q 0 (padL [vR 124, vI (f : Nat)] 3) [] (KD, MI, ML, GR d e nw th x) := by
  have h5 := hs.2.2.2.2.2.2
  have hn6 := hs.2.2.1
  have c4 : ∀ {A : Nat → Nat → Int} {v : Int}, frP (chQR f) A (up2 A 124 4 v) := fun {_ _} => frP_up (Or.inl ⟨rfl, Or.inl rfl⟩)
  have mv : ∀ {A B : Nat → Nat → Int}, mvr A B → frP (chQR f) A B := fun z => mvr_P z (fun k hk => Or.inl ⟨rfl, hk⟩)
  have bad57 : ∀ (q : Int) (M : Nat → Nat → Int) (g p : Int), StP T n (.inl (g, p)) M → M 124 4 ≤ 6100 → 0 ≤ M 189 f ∧ M 189 f ≤ 6100 → frP (chQR f) MI M → quS T n a = .inl (g, p) → wp cs mX12_quoted KD Q 57 [some (vR 124), some (vI (f : Nat)), some (vI q)] [] (KD, M, ML, GR d e nw th x) := by
    intro q M g p hM h4 h189 hfr heq
    refine v_X12_quoted_57 (py_isGood hM (fun a' z => by cases z) (fun f' p' z => rI_mk ⟨fun _ => ?_, fun z => absurd rfl z⟩))
    have h40 := hM.2.2.2.2.2.2.1
    refine v_X12_quoted_112 ?_
    simp only [Int.toNat_natCast]
    refine ⟨by omega, by omega, ?_⟩
    rintro _ rfl
    rw [up2_ne (by decide)]
    refine ⟨by omega, ?_⟩
    rintro _ rfl
    refine hQ _ ?_ (frP_tr hfr (frP_tr (frP_up (Or.inr ⟨Or.inr rfl, rfl⟩)) c4)) (fun v y hv => by rw [heq] at hv; cases hv)
    rw [heq, pb_l]
    exact StP_atb (StP_off hM (by decide) (by decide)) (by omega)
  have good57 : ∀ (q : Int), (q = 34 ∨ q = 39) → ob T n a = q → ∀ (k : Nat) (h : Int) (M : Nat → Nat → Int), StP T n (.inr h) M → a + 1 ≤ h → (n - h).toNat < k → M 189 f = a + 1 → frP (chQR f) MI M → quF T n q (n - a).toNat (a + 1) = quF T n q k h →
      wp cs mX12_quoted KD Q 57 [some (vR 124), some (vI (f : Nat)), some (vI q)] [] (KD, M, ML, GR d e nw th x) := by
    intro q hq hoa k
    have hqu : quS T n a = pb (quF T n q (n - a).toNat (a + 1)) fun y => .inr (nb T (a + 1) y, y + 1) := by
      unfold quS; rw [hoa, if_pos hq]
    induction k with
    | zero => intro h M hM ha hk; omega
    | succ k ih =>
      intro h M hM ha hk h189 hfr heq
      have h5' := hM.2.2.2.2.2.2
      have h4 := hM.2.2.2.1
      refine v_X12_quoted_57 (py_isGood hM (fun a' z => rI_mk ⟨fun z => by omega, fun _ => ?_⟩) (fun f' p' z => by cases z))
      rw [h4]
      refine py_octet hM h5'.1 (rI_mk ⟨fun ho => ?_, fun ho => ?_⟩)
      · have hlt := ob_lt (c := q) (by omega) ho
        rw [quF, if_pos ho] at heq
        refine v_X12_quoted_112 ?_
        simp only [Int.toNat_natCast]
        rw [h4, h189]
        refine ⟨by omega, by omega, ?_⟩
        rintro _ rfl
        rw [up2_ne (by decide), h4]
        refine ⟨by omega, ?_⟩
        rintro _ rfl
        refine hQ _ ?_ (frP_tr hfr (frP_tr (frP_up (Or.inr ⟨Or.inr rfl, rfl⟩)) c4)) (fun v y hv => ?_)
        · rw [hqu, heq, pb_r, pb_r]
          exact StP_atg (StP_off hM (by decide) (by decide)) (by omega)
        · rw [hqu, heq, pb_r] at hv
          cases hv
          rw [up2_ne (by decide), up2_ne (by decide), up2_ne (by decide), up2_eq, h189]
          exact slc_nb (by omega) (by omega) (by omega)
      · rw [h4]
        refine py_octet hM h5'.1 (rI_mk (w_X12_isChar (rI_mk ⟨fun z => ?_, fun z => ?_⟩)))
        · have hnc : ¬ isCh (ob T n h) := fun w => by rw [bI, if_pos w] at z; omega
          rw [quF, if_neg ho, if_neg hnc] at heq
          rw [h4]
          refine py_fail (by decide) hM (fun M2 s2 m2 e2 _ => rV_mk ?_)
          rw [e2]
          refine ⟨by omega, ?_⟩
          rintro _ rfl
          refine bad57 q _ (-1) h (StP_atb s2 (by omega)) (by rw [up2_eq]; omega) (by rw [up2_ne (by decide), m2.1 189 (by decide), h189]; omega) (frP_tr hfr (frP_tr (mv m2) c4)) ?_
          rw [hqu, heq, pb_l]
        · have hch : isCh (ob T n h) := Decidable.byContradiction fun w => z (by rw [bI, if_neg w])
          have hlt := ob_lt (c := ob T n h) (by unfold isCh at hch; omega) rfl
          rw [quF, if_neg ho, if_pos hch] at heq
          rw [h4]
          refine ⟨by omega, ?_⟩
          rintro _ rfl
          exact ih (h + 1) _ (StP_atg hM (by omega)) (by omega) (by omega) (by rw [up2_ne (by decide)]; exact h189) (frP_tr hfr c4) heq
  have h4 := hs.2.2.2.1
  refine v_X12_quoted_0 ?_
  rw [h4]
  have go : ∀ q, (q = 34 ∨ q = 39) → ob T n a = q → wp cs mX12_quoted KD Q 37 [some (vR 124), some (vI (f : Nat)), some (vI (ob T n a))] [] (KD, MI, ML, GR d e nw th x) := by
    intro q hq ho
    have hlt := ob_lt (c := q) (by omega) ho
    rw [ho]
    refine v_X12_quoted_37 ?_
    simp only [Int.toNat_natCast]
    rw [h4]
    refine ⟨by omega, ?_⟩
    rintro _ rfl
    refine ⟨by omega, ?_⟩
    rintro _ rfl
    rw [up2_eq]
    exact good57 q hq ho (n - a).toNat (a + 1) _ (StP_off (StP_atg hs (by omega)) (by decide) (by decide)) (by omega) (by omega) up2_eq (frP_tr c4 (frP_up (Or.inr ⟨Or.inl rfl, rfl⟩))) rfl
  refine py_octet hs h5.1 (rI_mk (py_isGood hs (fun a' z => rI_mk ⟨fun z => by omega, fun _ => ⟨fun ho => go 34 (Or.inl rfl) ho, fun ho => ⟨fun ho2 => go 39 (Or.inr rfl) ho2, fun ho2 => ?_⟩⟩⟩) (fun f' p' z => by cases z)))
  rw [h4]
  refine py_fail (by decide) hs (fun M2 s2 m2 e2 _ => rV_mk ?_)
  refine v_X12_quoted_37 ?_
  simp only [Int.toNat_natCast]
  rw [e2]
  refine ⟨by omega, ?_⟩
  rintro _ rfl
  refine ⟨by omega, ?_⟩
  rintro _ rfl
  rw [up2_eq]
  refine bad57 _ _ (-1) a (StP_off (StP_atb s2 (by omega)) (by decide) (by decide)) (by rw [up2_ne (by decide), up2_eq]; omega) (by rw [up2_eq]; omega) (frP_tr (frP_tr (mv m2) c4) (frP_up (Or.inr ⟨Or.inl rfl, rfl⟩))) ?_
  unfold quS
  rw [if_neg (by omega)]
end Pe01
