/-! The class's select. -/
theorem BrV_i {t v : Int} {x : By} {o : Option By} (h0 : 0 ≤ t) (h4 : t ≤ 4) (h2 : t = 2 → ∃ v, o = some v) : BrV (t, v, x, o) := ⟨h0, h4, h2⟩
theorem brS_V {T : Nat → Int} {n h y : Int} {q : BrM} (hq : brS T n h = .inr (q, y)) : BrV q := by
  unfold brS at hq
  split at hq
  · cases hq; exact BrV_i (by decide) (by decide) (fun z => absurd z (by decide))
  · split at hq
    · cases hq; exact BrV_i (by decide) (by decide) (fun z => absurd z (by decide))
    · split at hq
      · obtain ⟨a, h1, h2⟩ := pb_inr hq
        cases h2; exact BrV_i (by decide) (by decide) (fun _ => ⟨_, rfl⟩)
      · obtain ⟨a, h1, h2⟩ := pb_inr hq
        have e : ∀ (x : By) (o : Option By), BrV (if ob T n h = 64 then 3 else 4, 0, x, o) := fun x o => by
          by_cases w : ob T n h = 64
          · rw [if_pos w]; exact BrV_i (by decide) (by decide) (fun z => absurd z (by decide))
          · rw [if_neg w]; exact BrV_i (by decide) (by decide) (fun z => absurd z (by decide))
        by_cases w : ob T n a = 61
        · rw [if_pos w] at h2
          obtain ⟨a', h3, h4⟩ := pb_inr h2
          cases h4; exact e _ _
        · rw [if_neg w] at h2
          cases h2; exact e _ _
theorem brsF_V (T : Nat → Int) (n : Int) : ∀ (k : Nat) (l : List BrM) (h : Int) (l' : List BrM) (y : Int), (∀ q ∈ l, BrV q) → brsF T n k l h = .inr (l', y) → ∀ q ∈ l', BrV q
  | 0, l, h, l', y, hl, hr => by simp only [brsF] at hr; cases hr; exact hl
  | k + 1, l, h, l', y, hl, hr => by
    unfold brsF at hr
    split at hr
    · split at hr
      · cases hr
      · obtain ⟨a, h1, h2⟩ := pb_inr hr
        obtain ⟨a', h3, h4⟩ := pb_inr h2
        refine brsF_V T n k _ _ l' y (fun q hq => ?_) h4
        rcases List.mem_append.mp hq with z | z
        · exact hl q z
        · rw [List.mem_singleton] at z; rw [z]; exact brS_V (q := a.1) (y := a.2) h1
    · cases hr; exact hl
theorem hdS_V {T : Nat → Int} {n h : Int} {q : Int × Option By × Int} (h1 : hdS T n h = .inr q) : (0 ≤ q.1 ∧ q.1 ≤ 4) ∧ (q.1 = 2 → q.2.1 = none) := by
  have i1 : ∀ {t g : Int} {o : Option By}, 0 ≤ t → t ≤ 4 → (t = 2 → o = none) → q = (t, o, g) → (0 ≤ q.1 ∧ q.1 ≤ 4) ∧ (q.1 = 2 → q.2.1 = none) := fun a1 a2 a3 a4 => by rw [a4]; exact ⟨⟨a1, a2⟩, a3⟩
  unfold hdS at h1
  split at h1
  · cases h1; exact i1 (by decide) (by decide) (fun _ => rfl) rfl
  · by_cases w : ob T n h = 64
    · rw [if_pos w, if_pos w] at h1
      split at h1
      · cases h1; exact i1 (by decide) (by decide) (fun _ => rfl) rfl
      · obtain ⟨a', h5, h6⟩ := pb_inr h1
        cases h6; exact i1 (by decide) (by decide) (fun z => absurd z (by decide)) rfl
    · rw [if_neg w, if_neg w] at h1
      split at h1
      · cases h1; exact i1 (by decide) (by decide) (fun _ => rfl) rfl
      · obtain ⟨a', h5, h6⟩ := pb_inr h1
        cases h6; exact i1 (by decide) (by decide) (fun z => absurd z (by decide)) rfl
theorem StV_i {t : Int} {dp : Bool} {o : Option By} {l : List BrM} (h0 : 0 ≤ t ∧ t ≤ 4) (h2 : t = 2 → o = none) (hl : ∀ q ∈ l, BrV q) : StV (t, dp, o, l) := ⟨h0, h2, hl⟩
theorem psS_V {T : Nat → Int} {n h y : Int} {dp : Bool} {c : Nat} {s : StM} (hs : psS T n dp c h = .inr (s, y)) : StV s := by
  unfold psS at hs
  split at hs
  · split at hs
    · cases hs
    · split at hs
      · cases hs; exact StV_i (by decide) (fun _ => rfl) (fun q hq => by cases hq)
      · split at hs
        · cases hs; exact StV_i (by decide) (fun _ => rfl) (fun q hq => by cases hq)
        · obtain ⟨a, h1, h2⟩ := pb_inr hs
          obtain ⟨z, h3, h4⟩ := pb_inr h2
          cases h4
          have hb := brsF_V T n 5 [] a.2.2 z.1 z.2 (fun q hq => by cases hq) h3
          have hh := hdS_V h1
          exact StV_i hh.1 hh.2 hb
  · cases hs
theorem paF_V (T : Nat → Int) (n : Int) : ∀ (k : Nat) (l : List StM) (dp : Bool) (h : Int) (l' : List StM), (∀ s ∈ l, StV s) → paF T n k l dp h = .inr l' → ∀ s ∈ l', StV s
  | 0, l, dp, h, l', hl, hr => by simp [paF] at hr
  | k + 1, l, dp, h, l', hl, hr => by
    unfold paF at hr
    obtain ⟨a, h1, h2⟩ := pb_inr hr
    have hv := psS_V (s := a.1) (y := a.2) h1
    have hl2 : ∀ s ∈ l ++ [a.1], StV s := fun s hs => by
      rcases List.mem_append.mp hs with z | z
      · exact hl s z
      · rw [List.mem_singleton] at z; rw [z]; exact hv
    split at h2
    · cases h2; exact hl2
    · split at h2
      · exact paF_V T n k _ _ _ l' hl2 h2
      · obtain ⟨a', h3, h4⟩ := pb_inr h2
        exact paF_V T n k _ _ _ l' hl2 h4
theorem paS_V {T : Nat → Int} {n : Int} {fr : Bool} {l : List StM} (hr : paS T n = .inr (fr, l)) : ∀ s ∈ l, StV s := by
  have go : ∀ {dp : Bool} {h : Int} {fr' : Bool}, (pb (paF T n 13 [] dp h) fun l => (.inr (fr', l) : PR (Bool × List StM))) = .inr (fr, l) → ∀ s ∈ l, StV s := fun hz => by
    obtain ⟨a, h1, h2⟩ := pb_inr hz
    cases h2
    exact paF_V T n 13 [] _ _ _ (fun s hs => by cases hs) h1
  unfold paS at hr
  split at hr
  · exact go hr
  · split at hr
    · split at hr
      · cases hr; intro s hs; cases hs
      · exact go hr
    · exact go hr
def ChoC (l : List Nat) (MI : Nat → Nat → Int) : Prop := MI 23 1 = (l.length : Nat) ∧ l.length ≤ 600 ∧ ∀ (i a : Nat), l[i]? = some a → MI 24 i = (a : Int)
def chW (i _k : Nat) : Prop := 23 ≤ i ∧ i ≤ 27
def chSF (i k : Nat) : Prop := chP i k ∨ (i = 0 ∧ (k = 10 ∨ k = 11))
def chST (i k : Nat) : Prop := chSF i k ∨ (23 ≤ i ∧ i ≤ 27)
section Pd09
variable {cs : Cs} {Q : Option AV → Mm → Prop} {MI ML OI : Nat → Nat → Int} {b d e pl : Nat} {T TD : Nat → Int} {n nD : Int} {N : List By} {D : Dt} {ns : List Nd} {dp : Int} {S : Nat → Bool}
theorem c_follow_75 {nw th : Nat} {l3 : Int} (hbd : b = 38 ∨ b = 81) (hnw : nw = 25 ∨ nw = 26)
    (hQ : ∀ MI', ChoC ((List.range ns.length).filter S) MI' → frP chW OI MI' → Q none (MI', ML, GR d e nw th 1)) :
    ∀ (m k : Nat) (pre : List Nat) (MI : Nat → Nat → Int), k + m = ns.length → pre.length ≤ k → pre ++ (List.range' k (ns.length - k)).filter S = (List.range ns.length).filter S → ChoC pre MI → DocC b TD nD N pl D ns [] dp MI ML → (∀ i, i < ns.length → (MI nw i ≠ 0 ↔ S i = true)) → frP chW OI MI →
    wp cs mX8_follow KD Q 75 [some (vR 23), some (vR b), some (vR 14), some (vI l3), some (vI (k : Nat))] [] (KD, MI, ML, GR d e nw th 1) := by
  intro m
  induction m with
  | zero =>
    intro k pre MI hk hp heq hC hD hN hfr
    refine v_X8_follow_75 hbd hnw ?_
    rw [hD.2.2.2.2.1.1]
    refine ⟨fun z => by omega, fun _ => hQ MI ?_ hfr⟩
    rw [rg_nil (fun i a1 a2 => by omega), List.append_nil] at heq
    rw [← heq]; exact hC
  | succ m ih =>
    intro k pre MI hk hp heq hC hD hN hfr
    have h600 := hD.2.2.2.2.1.2.1
    have ek : ((k : Nat) : Int) + 1 = ((k + 1 : Nat) : Int) := by omega
    have hNk := hN k (by omega)
    rw [rg_cons (by omega)] at heq
    refine v_X8_follow_75 hbd hnw ?_
    simp only [Int.toNat_natCast]
    rw [hD.2.2.2.2.1.1, ek]
    refine ⟨fun _ => ⟨by omega, fun h0 => ⟨by omega, ?_⟩, fun h0 => ?_⟩, fun z => by omega⟩
    · have hSk : S k = false := by
        cases hz : S k with
        | false => rfl
        | true => exact absurd h0 (hNk.mpr hz)
      rw [List.filter_cons_of_neg (by rw [hSk]; decide)] at heq
      exact ih (k + 1) pre MI (by omega) (by omega) heq hC hD hN hfr
    · have hSk := hNk.mp h0
      rw [List.filter_cons_of_pos hSk] at heq
      rw [hC.1]
      simp only [Int.toNat_natCast]
      refine ⟨by omega, ?_⟩
      rintro _ rfl
      rw [up2_ne (by decide), hC.1]
      refine ⟨by omega, ?_⟩
      rintro _ rfl
      have f1 : frP chW MI (up2 (up2 MI 24 pre.length (k : Nat)) 23 1 ((pre.length : Nat) + 1)) := frP_tr (frP_up (by unfold chW; omega)) (frP_up (by unfold chW; omega))
      refine ⟨by omega, ih (k + 1) (pre ++ [k]) _ (by omega) (by simp; omega) (by rw [List.append_assoc]; exact heq) ⟨by rw [up2_eq]; simp, by simp; omega, fun i c hc => ?_⟩ (DocC_fr hD (fun i z1 z2 => frP_row f1 (fun k z => by unfold chW at z; omega)) (fun _ _ _ => rfl)) (fun i hi => ?_) (frP_tr hfr f1)⟩
      · rw [up2_ne (by decide)]
        by_cases hi : i < pre.length
        · rw [List.getElem?_append_left hi] at hc
          rw [up2_nk (by omega)]; exact hC.2.2 i c hc
        · have ht2 := (List.getElem?_eq_some_iff.mp hc).1
          simp only [List.length_append, List.length_singleton] at ht2
          have ht3 : i = pre.length := by omega
          subst ht3
          rw [List.getElem?_append_right (Nat.le_refl _)] at hc
          simp at hc
          subst hc
          exact up2_eq
      · rw [up2_ne (by omega), up2_ne (by omega)]; exact hN i hi
theorem c_follow_l {l : List StM} {fr : Bool} {k : Nat} {l3 : Int} (hbd : b = 38 ∨ b = 81) (hW : WfN ns) (hAt : AtW ns) (hn : n ≤ 6000) (hV : ∀ s ∈ l, StV s)
    (hQ : ∀ nw th MI', (nw = 25 ∧ th = 26 ∨ nw = 26 ∧ th = 25) → ChoC (selS ns fr l k) MI' → frP chW OI MI' → Q none (MI', ML, GR d e nw th 1)) :
    ∀ (r : List StM) (j : Nat) (S : Nat → Bool) (nw th : Nat) (MI : Nat → Nat → Int), (nw = 25 ∧ th = 26 ∨ nw = 26 ∧ th = 25) → l.drop j = r → j ≤ l.length → selS ns fr l k = (List.range ns.length).filter (r.foldl (fun S s => goS ns s S) S) → MI 1 = T → SpsC N T n l MI → DocC b TD nD N pl D ns [] dp MI ML → (∀ i, i < ns.length → (MI nw i ≠ 0 ↔ S i = true)) → frP chW OI MI →
    wp cs mX8_follow KD Q 29 [some (vR 23), some (vR b), some (vR 14), some (vI l3), some (vI (j : Nat))] [] (KD, MI, ML, GR d e nw th 1) := by
  intro r
  induction r with
  | nil =>
    intro j S nw th MI hnt hdr hjl heq hT1 hP hD hN hfr
    have hge : l.length ≤ j := List.drop_eq_nil_iff.mp hdr
    refine v_X8_follow_29 hbd ?_
    rw [hP.1]
    refine ⟨fun z => by omega, fun _ => ?_⟩
    rintro _ rfl
    have f1 : frP chW MI (up2 MI 23 1 0) := frP_up (by unfold chW; omega)
    rw [List.foldl_nil] at heq
    refine c_follow_75 (S := S) (OI := OI) hbd (by omega) (fun M c f => hQ nw th M hnt (by rw [heq]; exact c) f) ns.length 0 [] _ (by omega) (by simp) (by rw [rg_0]; rfl) ⟨up2_eq, by simp, fun i a ha => by simp at ha⟩ (DocC_fr hD (fun i z1 z2 => frP_row f1 (fun k z => by unfold chW at z; omega)) (fun _ _ _ => rfl)) (fun i hi => ?_) (frP_tr hfr f1)
    rw [up2_ne (by omega)]; exact hN i hi
  | cons s r ih =>
    intro j S nw th MI hnt hdr hjl heq hT1 hP hD hN hfr
    have hlt : j < l.length := by
      refine Decidable.byContradiction fun w => ?_
      rw [List.drop_eq_nil_of_le (by omega)] at hdr; cases hdr
    have hs : l[j]? = some s := by
      have hz := List.getElem?_drop (xs := l) (i := j) (j := 0)
      rw [hdr] at hz
      simpa using hz.symm
    have hdr' : l.drop (j + 1) = r := by rw [← List.drop_drop, hdr]; rfl
    have h12 := hP.2.1
    have hst := hP.2.2 j s hs
    have hv := hV s (List.mem_of_getElem? hs)
    have ej : ((j : Nat) : Int) + 1 = ((j + 1 : Nat) : Int) := by omega
    rw [List.foldl_cons] at heq
    have SpsW : ∀ {M : Nat → Nat → Int}, frP chW MI M → SpsC N T n l M := fun f => ⟨by rw [frP_row f (fun k z => by unfold chW at z; omega)]; exact hP.1, hP.2.1, fun j s hs => StpC_fr (hP.2.2 j s hs) (fun i h1 h2 => f i j (by unfold chW; omega)) (fun i k h1 h2 h3 h4 => f i k (by unfold chW; omega))⟩
    have DocW : ∀ {M : Nat → Nat → Int}, frP chW MI M → DocC b TD nD N pl D ns [] dp M ML := fun f => DocC_fr hD (fun i z1 z2 => frP_row f (fun k z => by unfold chW at z; omega)) (fun _ _ _ => rfl)
    have step : ∀ (S' : Nat → Bool) (M : Nat → Nat → Int), goS ns s S = stpS ns s S' → frP chW MI M → (∀ i, i < ns.length → (M nw i ≠ 0 ↔ S' i = true)) →
        wp cs mX8_takeStep KD (rV (GR d e th nw 1) fun m58 n58 => (-2147483648 ≤ ((j : Nat) : Int) + 1 ∧ ((j : Nat) : Int) + 1 < 2147483648) ∧ wp cs mX8_follow KD Q 29 [some (vR 23), some (vR b), some (vR 14), some (vI l3), some (vI (((j : Nat) : Int) + 1))] [] (KD, m58, n58, (GR d e th nw 1))) 0 (padL [vR 23, vR b, vR 14, vI (j : Nat)] 6) [] (KD, M, ML, (GR d e nw th 1)) := by
      intro S' M hgo f hM
      rw [hgo] at heq
      refine c_takeStep hbd hnt hW hAt (by omega) hn hv (by rw [frP_row f (fun k z => by unfold chW at z; omega)]; exact hT1) (DocW f) ((SpsW f).2.2 j s hs) hM (fun M2 b2 f2 => rV_mk ⟨by omega, ?_⟩)
      have f3 : frP chW MI M2 := frP_tr f (frP_mono f2 (fun i k hp => by unfold chX at hp; unfold chW; omega))
      rw [ej]
      exact ih (j + 1) (stpS ns s S') th nw M2 (by omega) hdr' (by omega) heq (by rw [frP_row f3 (fun k z => by unfold chW at z; omega)]; exact hT1) (SpsW f3) (DocW f3) b2 (frP_tr hfr f3)
    refine v_X8_follow_29 hbd ?_
    simp only [Int.toNat_natCast]
    rw [hP.1, hst.2.1]
    refine ⟨fun _ => ⟨by omega, fun h0 => ?_, fun h0 => ?_⟩, fun z => by omega⟩
    · have hdp : s.2.1 = false := by
        cases hz : s.2.1 with
        | false => rfl
        | true => rw [hz, if_pos rfl] at h0; omega
      exact step S MI (by unfold goS; rw [hdp, if_neg (by decide)]) (frP_rfl _ _) hN
    · have hdp : s.2.1 = true := by
        cases hz : s.2.1 with
        | true => rfl
        | false => rw [hz, if_neg (by decide)] at h0; exact absurd rfl h0
      refine c_spread hbd (by omega) hW hD hN (fun M b1 f1 => rV_mk (step (sprS ns S) M (by unfold goS; rw [hdp, if_pos rfl]) (frP_mono f1 (fun i k hp => by unfold chW; omega)) b1))
theorem c_follow {l : List StM} {fr : Bool} {k nw th : Nat} (hbd : b = 38 ∨ b = 81) (hnt : nw = 25 ∧ th = 26 ∨ nw = 26 ∧ th = 25) (hW : WfN ns) (hAt : AtW ns) (hn : n ≤ 6000) (hV : ∀ s ∈ l, StV s) (hk : k < ns.length) (hT1 : MI 1 = T) (hP : SpsC N T n l MI) (h10 : MI 14 10 = (if fr = true then 1 else 0)) (hD : DocC b TD nD N pl D ns [] dp MI ML)
    (hQ : ∀ nw th MI', (nw = 25 ∧ th = 26 ∨ nw = 26 ∧ th = 25) → ChoC (selS ns fr l k) MI' → frP chW MI MI' → Q none (MI', ML, GR d e nw th 1)) :
    wp cs mX8_follow KD Q 0 (padL [vR 23, vR b, vR 14, vI (k : Nat)] 5) [] (KD, MI, ML, GR d e nw th 1) := by
  have hnw : nw = 25 ∨ nw = 26 := by omega
  have h600 := hD.2.2.2.2.1.2.1
  have f1 : frP chW MI (fl MI nw 600 0) := fun i k hp => by
    unfold fl; rw [if_neg (fun z => hp (by unfold chW; omega))]
  refine v_X8_follow_0 hbd hnw (w_fillB (kd_nt hnw) (by omega) (by decide) (by decide) (rV_mk ?_))
  have e10 : fl MI nw 600 0 14 10 = (if fr = true then 1 else 0) := by rw [f1 14 10 (by unfold chW; omega)]; exact h10
  rw [e10]
  have go : ∀ k0 : Nat, k0 < ns.length → (k0 = if fr = true then 0 else k) → wp cs mX8_follow KD Q 29 [some (vR 23), some (vR b), some (vR 14), some (vI (k : Nat)), some (vI 0)] [] (KD, up2 (fl MI nw 600 0) nw k0 1, ML, GR d e nw th 1) := by
    intro k0 hk0 e0
    have f2 : frP chW MI (up2 (fl MI nw 600 0) nw k0 1) := frP_tr f1 (frP_up (by unfold chW; omega))
    refine c_follow_l (OI := MI) hbd hW hAt hn hV hQ l 0 (fun i => decide (i = if fr = true then 0 else k)) nw th _ hnt rfl (by omega) rfl (by rw [frP_row f2 (fun k z => by unfold chW at z; omega)]; exact hT1) ⟨by rw [frP_row f2 (fun k z => by unfold chW at z; omega)]; exact hP.1, hP.2.1, fun j s hs => StpC_fr (hP.2.2 j s hs) (fun i h1 h2 => f2 i j (by unfold chW; omega)) (fun i k h1 h2 h3 h4 => f2 i k (by unfold chW; omega))⟩ (DocC_fr hD (fun i z1 z2 => frP_row f2 (fun k z => by unfold chW at z; omega)) (fun _ _ _ => rfl)) (fun i hi => ?_) f2
    rw [← e0, decide_eq_true_iff]
    by_cases hik : i = k0
    · subst hik; rw [up2_eq]; simp
    · rw [up2_nk hik]
      unfold fl
      rw [if_pos ⟨rfl, by omega⟩]
      simp [hik]
  simp only [Int.toNat_natCast]
  cases fr with
  | false =>
    refine ⟨fun _ => ⟨by omega, ?_⟩, fun z => absurd rfl z⟩
    rintro _ rfl
    exact go k hk rfl
  | true =>
    refine ⟨fun z => absurd z (by decide), fun _ => ?_⟩
    rintro _ rfl
    exact go 0 (by omega) rfl
theorem c_select {nw th x : Nat} {k : Int} (hbd : b = 38 ∨ b = 81) (hnt : nw = 25 ∧ th = 26 ∨ nw = 26 ∧ th = 25) (hW : ns ≠ [] → WfN ns ∧ AtW ns) (hnD : nD ≤ 6000) (ht : 0 ≤ MI 0 10 ∧ MI 0 10 ≤ 6000) (hD : DocC b TD nD N pl D ns [] dp MI ML)
    (hZ : ¬ (0 ≤ k ∧ k < (ns.length : Nat)) ∨ n < 0 ∨ MI 0 10 < n → Q (some (vI (-9))) (MI, ML, GR b e nw th x))
    (hF : 0 ≤ k ∧ k < (ns.length : Nat) → 0 ≤ n ∧ n ≤ MI 0 10 → ∀ f p, paS (MI 1) n = .inl (f, p) → ∀ MI', frP chSF MI MI' → MI' 0 10 = 0 → MI' 0 11 = p → Q (some (vI f)) (MI', ML, GR b e nw th 1))
    (hT : 0 ≤ k ∧ k < (ns.length : Nat) → 0 ≤ n ∧ n ≤ MI 0 10 → ∀ fr l, paS (MI 1) n = .inr (fr, l) → ∀ nw th MI', (nw = 25 ∧ th = 26 ∨ nw = 26 ∧ th = 25) → frP chST MI MI' → MI' 0 10 = 0 → MI' 0 11 = -1 → ChoC (selS ns fr l k.toNat) MI' → Q (some (vI ((selS ns fr l k.toNat).length : Nat))) (MI', ML, GR b e nw th 1)) :
    wp cs mX11_select KD Q 0 (padL [vR 0, vI k, vI n] 4) [] (KD, MI, ML, GR b e nw th x) := by
  have h16 := hD.2.2.2.2.1.1
  refine v_X11_select_0 hbd (by omega) (w_X3_has hbd (fun h => rI_mk ⟨fun z => by omega, fun _ => ⟨fun h1 => hZ (Or.inr (Or.inl h1)), fun h1 => ⟨fun h2 => hZ (Or.inr (Or.inr h2)), fun h2 => ?_⟩⟩⟩) (fun h => rI_mk ⟨fun _ => hZ (Or.inl (by rw [h16] at h; exact h)), fun z => absurd rfl z⟩))
  rw [h16] at h
  have hF' := hF h ⟨h1, h2⟩
  have hT' := hT h ⟨h1, h2⟩
  obtain ⟨kN, rfl⟩ : ∃ j : Nat, k = (j : Int) := ⟨k.toNat, by omega⟩
  rw [Int.toNat_natCast] at hT'
  have hkn : kN < ns.length := by omega
  obtain ⟨hWf, hAt⟩ := hW (fun z => by rw [z] at hkn; exact absurd hkn (by simp))
  intro m28 e28
  refine wp_M (M' := (cu m28 (m28 2 2) (m28 2 3) (m28 2 4) (m28 2 5) (m28 2 6), ML, GR b e nw th x)) (by rw [cu_id]) ?_
  refine w_X1_begin ⟨h1, by omega⟩ (rV_mk ?_)
  obtain ⟨M0, hM0⟩ : ∃ O, O = cu (up2 m28 2 1 n) 0 0 0 0 (-1) := ⟨_, rfl⟩
  rw [← hM0]
  have r0 : ∀ j, j ≠ 0 → j ≠ 2 → M0 j = MI j := fun j z1 z2 => by rw [hM0, cu_row z2]; funext k; rw [up2_ne z2, e28, up2_ne z1]
  have f0 : frP chSF MI M0 := fun i k hp => by
    by_cases i2 : i = 2
    · exact absurd (Or.inl (Or.inl i2)) hp
    · by_cases i0 : i = 0
      · subst i0
        rw [hM0, cu_row (by decide), up2_ne (by decide), e28, up2_nk (fun z => hp (Or.inr ⟨rfl, Or.inl z⟩))]
      · rw [r0 i i0 i2]
  have t10 : M0 0 10 = 0 := by rw [hM0, cu_row (by decide), up2_ne (by decide), e28, up2_eq]
  have c0 : CurP (MI 1) n 0 M0 := by
    refine ⟨r0 1 (by decide) (by decide), ?_, ⟨h1, by omega, ?_⟩, ?_, ⟨by omega, h1⟩⟩
    · rw [hM0, cu_r2.2.1, up2_eq]
    · rw [hM0]; exact cu_r2.2.2.2.2.2
    · rw [hM0]; exact cu_r2.1
  have d0 : DocC b TD nD N pl D ns [] dp M0 ML := DocC_fr hD (fun i z1 z2 => r0 i (by omega) (by omega)) (fun _ _ _ => rfl)
  refine c_parse hbd hnD d0.1 c0 (fun fr l y M1 hp c1 f1 s1 e1 => rI_mk ?_) (fun f p M1 hp hfa => rI_mk ?_)
  · rintro _ rfl
    have f2 : frP chSF MI (up2 M1 0 11 (M1 2 6)) := frP_tr (frP_tr f0 (frP_mono f1 (fun i k hp => Or.inl hp))) (frP_up (Or.inr ⟨rfl, Or.inr rfl⟩))
    refine ⟨fun z => by omega, fun _ => ?_⟩
    have d2 : DocC b TD nD N pl D ns [] dp (up2 M1 0 11 (M1 2 6)) ML := DocC_fr d0 (fun i z1 z2 => by
      funext k
      rw [up2_ne (by omega)]
      exact f1 i k (by unfold chP; omega)) (fun _ _ _ => rfl)
    have t10' : M1 0 10 = 0 := by rw [f1 0 10 (by unfold chP; omega)]; exact t10
    refine c_follow (T := MI 1) (n := n) (fr := fr) hbd hnt hWf hAt (by omega) (paS_V hp) hkn ?_ ?_ ?_ d2 (fun nw' th' M3 nt3 ch3 f3 => rW_mk nt3 ?_)
    · rw [show up2 M1 0 11 (M1 2 6) 1 = M1 1 from funext fun k => up2_ne (by decide) k]; exact c1.1
    · refine ⟨by rw [up2_ne (by decide)]; exact s1.1, s1.2.1, fun j s hs => StpC_fr (s1.2.2 j s hs) (fun i h1 h2 => up2_ne (by omega) _) (fun i k h1 h2 h3 h4 => up2_ne (by omega) _)⟩
    · rw [up2_ne (by decide)]; exact e1
    · rw [ch3.1]
      refine hT' fr l hp nw' th' M3 nt3 (frP_tr (frP_mono f2 (fun i k hp => Or.inl hp)) (frP_mono f3 (fun i k hp => Or.inr hp))) ?_ ?_ ch3
      · rw [f3 0 10 (by unfold chW; omega), up2_nk (by decide)]; exact t10'
      · rw [f3 0 11 (by unfold chW; omega), up2_eq]; exact c1.2.2.1.2.2
  · rintro _ rfl
    have f2 : frP chSF MI (up2 M1 0 11 (M1 2 6)) := frP_tr (frP_tr f0 (frP_mono hfa.2.2 (fun i k hp => Or.inl hp))) (frP_up (Or.inr ⟨rfl, Or.inr rfl⟩))
    refine ⟨fun _ => ?_, fun z => absurd rfl z⟩
    rw [up2_ne (by decide), hfa.1]
    refine hF' f p hp _ f2 ?_ ?_
    · rw [up2_nk (by decide), hfa.2.2 0 10 (by unfold chP; omega)]; exact t10
    · rw [up2_eq]; exact hfa.2.1
end Pd09
