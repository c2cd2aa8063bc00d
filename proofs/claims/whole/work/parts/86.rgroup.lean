/-! The reference's SPECS: the one that is being read, at dI. -/
def chS (dI i k : Nat) : Prop := (i = 124 ∧ fldR k) ∨ (168 ≤ i ∧ i ≤ 172) ∨ ((i = 146 ∨ i = 147 ∨ i = 150 ∨ i = 151 ∨ i = 152) ∧ k = dI) ∨ ((i = 148 ∨ i = 149 ∨ i = 153) ∧ 40 * dI ≤ k ∧ k < 40 * dI + 40)
def frS (dI : Nat) (MI ML MI' ML' : Nat → Nat → Int) : Prop := ∀ i k, ¬ chS dI i k → MI' i k = MI i k ∧ ML' i k = ML i k
theorem frS_rfl (dI : Nat) (MI ML : Nat → Nat → Int) : frS dI MI ML MI ML := fun _ _ _ => ⟨rfl, rfl⟩
theorem frS_tr {dI : Nat} {A AL B BL C CL : Nat → Nat → Int} (h : frS dI A AL B BL) (k : frS dI B BL C CL) : frS dI A AL C CL := fun i j hj => ⟨(k i j hj).1.trans (h i j hj).1, (k i j hj).2.trans (h i j hj).2⟩
theorem frS_mvr {dI : Nat} {MI MI' ML : Nat → Nat → Int} (h : mvr MI MI') : frS dI MI ML MI' ML := fun i k hk => ⟨by
  by_cases hi : i = 124
  · subst hi
    have : ¬ fldR k := fun z => hk (Or.inl ⟨rfl, z⟩)
    unfold fldR at this
    exact h.2 k (by omega) (by omega) (by omega) (by omega) (by omega)
  · rw [h.1 i hi], rfl⟩
theorem frS_upI {dI i k : Nat} {v : Int} {MI ML : Nat → Nat → Int} (h : chS dI i k) : frS dI MI ML (up2 MI i k v) ML := fun a c hc => ⟨by
  unfold up2
  rw [if_neg (fun z => hc (by rw [z.1, z.2]; exact h))], rfl⟩
theorem frS_upL {dI i k : Nat} {v : Int} {MI ML : Nat → Nat → Int} (h : chS dI i k) : frS dI MI ML MI (up2 ML i k v) := fun a c hc => ⟨rfl, by
  unfold up2
  rw [if_neg (fun z => hc (by rw [z.1, z.2]; exact h))]⟩
def PlR (bk : Nat) (T : Nat → Int) (n : Int) (dI : Nat) (p : Pl) (MI ML : Nat → Nat → Int) : Prop := MI 147 dI = (p.1.length : Nat) ∧ p.1.length ≤ 40 ∧ p.2.length = p.1.length ∧ (∀ (k : Nat) (y : By), p.1[k]? = some y → nmR bk T n (MI 148 (40 * dI + k)) (MI 149 (40 * dI + k)) y) ∧ ∀ (k : Nat) (y : Int), p.2[k]? = some y → ML 153 (40 * dI + k) = y
def GrRA (MI ML : Nat → Nat → Int) (i : Nat) (g : Gp) : Prop := MI 168 i = g.1 ∧ (MI 169 i = 0 ↔ g.2.1 = false) ∧ (g.2.1 = true → MI 170 i = g.2.2.1 ∧ (g.2.2.1 = 0 ∨ g.2.2.1 = 1) ∧ ML 171 i = g.2.2.2.1 ∧ ML 172 i = g.2.2.2.2)
def GrRF (MI ML : Nat → Nat → Int) : List Gp → Prop
  | [] => True
  | g :: t => GrRA MI ML t.length g ∧ GrRF MI ML t
def PtR (q : Pt) (MI ML : Nat → Nat → Int) : Prop := MI 124 59 = q.1 ∧ (q.1 = 0 ∨ q.1 = 1) ∧ ML 124 60 = q.2.1 ∧ ML 124 61 = q.2.2
theorem GrRF_fr {MI ML MI' ML' : Nat → Nat → Int} : ∀ {gs : List Gp}, GrRF MI ML gs → (∀ i, i < gs.length → MI' 168 i = MI 168 i ∧ MI' 169 i = MI 169 i ∧ MI' 170 i = MI 170 i ∧ ML' 171 i = ML 171 i ∧ ML' 172 i = ML 172 i) → GrRF MI' ML' gs
  | [], _, _ => trivial
  | g :: t, h, e => by
    obtain ⟨e1, e2, e3, e4, e5⟩ := e t.length (by simp)
    obtain ⟨⟨a1, a2, a3⟩, h2⟩ := h
    exact ⟨⟨by rw [e1]; exact a1, by rw [e2]; exact a2, fun z => by rw [e3, e4, e5]; exact a3 z⟩, GrRF_fr h2 (fun i hi => e i (by simp only [List.length_cons]; omega))⟩
section P86
variable {cs : Cs} {Q : Option AV → Mm → Prop} {MI ML OI OL : Nat → Nat → Int} {bk d e nw th x dI : Nat} {T : Nat → Int} {n B : Int} {s : PR Int} {p : Pl} {pt : Pt}
theorem PlR_fr {MI' ML' : Nat → Nat → Int} (h : PlR bk T n dI p MI ML) (e1 : MI' 147 = MI 147) (e2 : MI' 148 = MI 148) (e3 : MI' 149 = MI 149) (e4 : ML' 153 = ML 153) : PlR bk T n dI p MI' ML' := by
  unfold PlR at *; rw [e1, e2, e3, e4]; exact h
theorem frR_frS {MI' ML' : Nat → Nat → Int} (hd : 30 * bk ≤ dI ∧ dI < 30 * bk + 30) (hf : frR bk OI OL MI ML) (h : frS dI MI ML MI' ML') : frR bk OI OL MI' ML' := by
  refine ⟨fun i h1 h2 => ?_, fun k hk => ?_, fun i k h1 h2 h3 => ?_⟩
  · have : ∀ k, MI' i k = MI i k ∧ ML' i k = ML i k := fun k => h i k (by unfold chS; omega)
    rw [show MI' i = MI i from funext fun k => (this k).1, show ML' i = ML i from funext fun k => (this k).2]
    exact hf.1 i h1 h2
  · have := h 124 k (fun z => by unfold chS at z; rcases z with z | z | z | z; exact hk (Or.inl z.2); omega; omega; omega)
    rw [this.1, this.2]; exact hf.2.1 k hk
  · have hn : ¬ chS dI i k := by
      intro hc
      unfold chS at hc
      rcases hc with hc | hc | hc | hc
      · omega
      · omega
      · apply h3
        have : wR i = 30 := by unfold wR; rcases hc.1 with z | z | z | z | z <;> subst z <;> decide
        rw [this]; omega
      · apply h3
        have : wR i = 1200 := by unfold wR; rcases hc.1 with z | z | z <;> subst z <;> decide
        rw [this]; omega
    rw [(h i k hn).1, (h i k hn).2]; exact hf.2.2 i k h1 h2 h3
theorem BasR_frS {MI' ML' : Nat → Nat → Int} (hd : 30 * bk ≤ dI ∧ dI < 30 * bk + 30) (hb : BasR bk T n OI OL MI ML) (h : frS dI MI ML MI' ML') : BasR bk T n OI OL MI' ML' := by
  obtain ⟨a1, a2, a3, a4, a5, a6, a7⟩ := hb
  have r : ∀ i, ¬ (144 ≤ i ∧ i ≤ 172) → i ≠ 124 → MI' i = MI i := fun i h1 h2 => funext fun k => (h i k (by unfold chS; omega)).1
  have f : ∀ k, ¬ fldR k → MI' 124 k = MI 124 k := fun k hk => (h 124 k (fun z => by unfold chS at z; rcases z with z | z | z | z; exact hk z.2; omega; omega; omega)).1
  exact ⟨by rw [r 126 (by omega) (by omega)]; exact a1, by rw [f 3 (by unfold fldR; omega)]; exact a2, a3, by rw [f 8 (by unfold fldR; omega)]; exact a4, a5, by rw [r 128 (by omega) (by omega)]; exact a6, frR_frS hd a7 h⟩
/-- a write that leaves at, wrong and place alone -/
theorem StR_frS {MI' ML' : Nat → Nat → Int} (hd : 30 * bk ≤ dI ∧ dI < 30 * bk + 30) (hs : StR bk T n OI OL B s MI ML) (h : frS dI MI ML MI' ML') (e4 : MI' 124 4 = MI 124 4) (e5 : MI' 124 5 = MI 124 5) (e6 : MI' 124 6 = MI 124 6) : StR bk T n OI OL B s MI' ML' := by
  refine ⟨BasR_frS hd hs.1 h, hs.2.1, ?_⟩
  have := hs.2.2
  rcases s with ⟨g, q⟩ | a
  · simp only at this ⊢; rw [e4, e5, e6]; exact this
  · simp only at this ⊢; rw [e4, e5, e6]; exact this
theorem c_joinFollows_l {a z : Int} (hd : dI < 60) (hQ : ∀ ML', PlR bk T n dI (p.1, lkL p.2 a z) MI ML' → (∀ i k, ¬ (i = 153 ∧ 40 * dI ≤ k ∧ k < 40 * dI + 40) → ML' i k = ML i k) → Q none (MI, ML', GR d e nw th x)) :
    ∀ (m k : Nat) (ML' : Nat → Nat → Int), k + m = 40 → (∀ i j, ¬ (i = 153 ∧ 40 * dI ≤ j ∧ j < 40 * dI + 40) → ML' i j = ML i j) → PlR bk T n dI p MI ML → (∀ j, j < 40 → ML' 153 (40 * dI + j) = if j < k ∧ bt a j = true then l_or (ML 153 (40 * dI + j)) z else ML 153 (40 * dI + j)) →
    wp cs mX12_joinFollows KD Q 3 [some (vR 124), some (vI (dI : Nat)), some (vL a), none, some (vL z), none, some (vI (k : Nat))] [] (KD, MI, ML', GR d e nw th x) := by
  intro m
  induction m with
  | zero =>
    intro k ML' hk hfr hP hm
    refine v_X12_joinFollows_3 ⟨fun q => by omega, fun _ => hQ ML' ⟨hP.1, hP.2.1, by simp [lkL]; exact hP.2.2.1, hP.2.2.2.1, fun j y hy => ?_⟩ hfr⟩
    simp only [lkL, List.getElem?_mapIdx, Option.map_eq_some_iff] at hy
    obtain ⟨w, hw, rfl⟩ := hy
    have hj := (List.getElem?_eq_some_iff.mp hw).1
    have h1 := hP.2.1
    have h2 := hP.2.2.1
    rw [hm j (by omega), hP.2.2.2.2 j w hw]
    by_cases hb : bt a j = true
    · rw [if_pos ⟨by omega, hb⟩, if_pos hb]
    · rw [if_neg (fun z => hb z.2), if_neg hb]
  | succ m ih =>
    intro k ML' hk hfr hP hm
    have e40 : (40 * ((dI : Nat) : Int) + (k : Nat)).toNat = 40 * dI + k := by omega
    have ek : ML' 153 (40 * dI + k) = ML 153 (40 * dI + k) := by rw [hm k (by omega), if_neg (by omega)]
    refine v_X12_joinFollows_3 ⟨fun _ => ⟨fun hb => ⟨by omega, by omega, by omega, ?_⟩, fun hb => ⟨by omega, ?_⟩⟩, fun q => by omega⟩
    · have hbt : bt a k = true := by unfold bt; simpa using hb
      rw [e40, ek]
      intro n37 f37
      refine ⟨by omega, ?_⟩
      rw [show ((k : Nat) : Int) + 1 = ((k + 1 : Nat) : Int) by omega]
      refine ih (k + 1) n37 (by omega) (fun i j hj => ?_) hP (fun j hj => ?_)
      · rw [← hfr i j hj, f37]; unfold up2; rw [if_neg (by omega)]
      · rw [f37]
        by_cases hjk : j = k
        · subst hjk; rw [up2_eq, if_pos ⟨by omega, hbt⟩]
        · rw [up2_nk (by omega), hm j hj]
          by_cases hc : j < k ∧ bt a j = true
          · rw [if_pos hc, if_pos ⟨by omega, hc.2⟩]
          · rw [if_neg hc, if_neg (fun z => hc ⟨by omega, z.2⟩)]
    · have hbt : ¬ bt a k = true := by unfold bt; simpa using hb
      rw [show ((k : Nat) : Int) + 1 = ((k + 1 : Nat) : Int) by omega]
      refine ih (k + 1) ML' (by omega) hfr hP (fun j hj => ?_)
      rw [hm j hj]
      by_cases hc : j < k ∧ bt a j = true
      · rw [if_pos hc, if_pos ⟨by omega, hc.2⟩]
      · rw [if_neg hc, if_neg (fun z => by
          by_cases hjk : j = k
          · subst hjk; exact hbt z.2
          · exact hc ⟨by omega, z.2⟩)]
theorem c_joinFollows {a z : Int} (hd : dI < 60) (hP : PlR bk T n dI p MI ML) (hQ : ∀ ML', PlR bk T n dI (p.1, lkL p.2 a z) MI ML' → (∀ i k, ¬ (i = 153 ∧ 40 * dI ≤ k ∧ k < 40 * dI + 40) → ML' i k = ML i k) → Q none (MI, ML', GR d e nw th x)) :
    wp cs mX12_joinFollows KD Q 0 (padL [vR 124, vI (dI : Nat), vL a, vL z] 7) [] (KD, MI, ML, GR d e nw th x) :=
  v_X12_joinFollows_0 (c_joinFollows_l hd hQ 40 0 ML (by omega) (fun _ _ _ => rfl) hP (fun j hj => by rw [if_neg (by omega)]))
/-- a PART comes to the innermost GROUP -/
theorem c_comes {g : Gp} {t : List Gp} (hd : dI < 60) (ht : t.length < 8) (hP : PlR bk T n dI p MI ML) (hG : GrRF MI ML (g :: t)) (hT : PtR pt MI ML)
    (hQ : ∀ MI' ML', PlR bk T n dI (cmG p pt g).1 MI' ML' → GrRF MI' ML' ((cmG p pt g).2 :: t) → frS dI MI ML MI' ML' → MI' 124 = MI 124 → ML' 124 = ML 124 → MI' 146 = MI 146 → Q none (MI', ML', GR d e nw th x)) :
    wp cs mX12_comes KD Q 0 (padL [vR 124, vI (dI : Nat), vI (t.length : Nat)] 3) [] (KD, MI, ML, GR d e nw th x) := by
  refine wp_ok fun hM _ _ => ?_
  obtain ⟨⟨a1, a2, a3⟩, hGt⟩ := hG
  obtain ⟨t1, t2, t3, t4⟩ := hT
  have r171 := hM.2 171 t.length
  simp only at r171
  have cS : ∀ {i k : Nat}, 168 ≤ i ∧ i ≤ 172 → chS dI i k := fun h => Or.inr (Or.inl h)
  refine v_X12_comes_0 ⟨by omega, ?_⟩
  simp only [Int.toNat_natCast]
  refine ⟨fun h0 => ?_, fun h0 => ?_⟩
  · have hbg := a2.mp h0
    have hc : cmG p pt g = (p, (g.1, true, pt.1, pt.2.1, pt.2.2)) := by unfold cmG; rw [if_pos hbg]
    intro m15 e15
    have q59 : m15 124 59 = pt.1 := by rw [e15, up2_ne (by decide)]; exact t1
    rw [q59]
    refine ⟨t2, ?_⟩
    intro m25 e25 n35 f35 n45 f45
    have g61 : n35 124 61 = pt.2.2 := by rw [f35, up2_ne (by decide)]; exact t4
    rw [g61] at f45
    rw [t3] at f35
    rw [hc] at hQ
    refine hQ m25 n45 (PlR_fr hP (by rw [e25, e15]; funext k; rw [up2_ne (by decide), up2_ne (by decide)]) (by rw [e25, e15]; funext k; rw [up2_ne (by decide), up2_ne (by decide)]) (by rw [e25, e15]; funext k; rw [up2_ne (by decide), up2_ne (by decide)]) (by rw [f45, f35]; funext k; rw [up2_ne (by decide), up2_ne (by decide)])) ⟨⟨?_, ?_, fun _ => ⟨?_, t2, ?_, ?_⟩⟩, GrRF_fr hGt (fun i hi => ⟨?_, ?_, ?_, ?_, ?_⟩)⟩ ?_ (by rw [e25, e15]; funext k; rw [up2_ne (by decide), up2_ne (by decide)]) (by rw [f45, f35]; funext k; rw [up2_ne (by decide), up2_ne (by decide)]) (by rw [e25, e15]; funext k; rw [up2_ne (by decide), up2_ne (by decide)])
    · simp [e25, e15, up2]; exact a1
    · simp [e25, e15, up2]
    · simp [e25, up2]
    · simp [f45, f35, up2]
    · simp [f45, up2]
    · simp [e25, e15, up2]
    · simp [e25, e15, up2]; omega
    · simp [e25, e15, up2]; omega
    · simp [f45, f35, up2]; omega
    · simp [f45, f35, up2]; omega
    · rw [e25, e15, f45, f35]
      exact frS_tr (frS_tr (frS_upI (cS (by omega))) (frS_upI (cS (by omega)))) (frS_tr (frS_upL (cS (by omega))) (frS_upL (cS (by omega))))
  · have hbg : g.2.1 = true := by
      cases hq : g.2.1 with
      | true => rfl
      | false => exact absurd (a2.mpr hq) h0
    have hbg' : ¬ g.2.1 = false := by rw [hbg]; decide
    obtain ⟨b1, b2, b3, b4⟩ := a3 hbg
    rw [a1, b1, t1]
    refine ⟨fun hs => ?_, fun hs => ?_⟩
    · have hc : cmG p pt g = (p, (g.1, true, (if g.2.2.1 = 0 ∧ pt.1 = 0 then 0 else 1), l_or g.2.2.2.1 pt.2.1, l_or g.2.2.2.2 pt.2.2)) := by unfold cmG; rw [if_neg hbg', if_pos hs]
      rw [hc] at hQ
      have fin : ∀ v : Int, v = (if g.2.2.1 = 0 ∧ pt.1 = 0 then 0 else 1) → wp cs mX12_comes KD Q 86 [some (vR 124), some (vI (dI : Nat)), some (vI (t.length : Nat))] [vI v, vI (t.length : Nat), vR 170] (KD, MI, ML, GR d e nw th x) := by
        intro v hv
        have hv2 : v = 0 ∨ v = 1 := by rw [hv]; split <;> simp
        refine v_X12_comes_86 ⟨by omega, hv2, ?_⟩
        simp only [Int.toNat_natCast]
        intro m86 e86
        refine ⟨by omega, ?_⟩
        rw [b3, t3]
        intro n99 f99
        have q1 : n99 172 t.length = g.2.2.2.2 := by rw [f99, up2_ne (by decide)]; exact b4
        have q2 : n99 124 61 = pt.2.2 := by rw [f99, up2_ne (by decide)]; exact t4
        rw [q1, q2]
        intro n112 f112
        refine hQ m86 n112 (PlR_fr hP (by rw [e86]; funext k; rw [up2_ne (by decide)]) (by rw [e86]; funext k; rw [up2_ne (by decide)]) (by rw [e86]; funext k; rw [up2_ne (by decide)]) (by rw [f112, f99]; funext k; rw [up2_ne (by decide), up2_ne (by decide)])) ⟨⟨?_, ?_, fun _ => ⟨?_, ?_, ?_, ?_⟩⟩, GrRF_fr hGt (fun i hi => ⟨?_, ?_, ?_, ?_, ?_⟩)⟩ ?_ (by rw [e86]; funext k; rw [up2_ne (by decide)]) (by rw [f112, f99]; funext k; rw [up2_ne (by decide), up2_ne (by decide)]) (by rw [e86]; funext k; rw [up2_ne (by decide)])
        · simp [e86, up2]; exact a1
        · simp [e86, up2]; exact h0
        · simp [e86, up2, hv]
        · rw [← hv]; exact hv2
        · simp [f112, f99, up2]
        · simp [f112, up2]
        · simp [e86, up2]
        · simp [e86, up2]
        · simp [e86, up2]; omega
        · simp [f112, f99, up2]; omega
        · simp [f112, f99, up2]; omega
        · rw [e86, f112, f99]
          exact frS_tr (frS_upI (cS (by omega))) (frS_tr (frS_upL (cS (by omega))) (frS_upL (cS (by omega))))
      refine ⟨fun z1 => ⟨fun z2 => fin 0 (by rw [if_pos ⟨z1, z2⟩]), fun z2 => fin 1 (by rw [if_neg (fun z => z2 z.2)])⟩, fun z1 => fin 1 (by rw [if_neg (fun z => z1 z.1)])⟩
    · have hc : cmG p pt g = ((p.1, lkL p.2 g.2.2.2.2 pt.2.1), (g.1, true, (if g.2.2.1 = 0 ∨ pt.1 = 0 then 0 else 1), (if g.2.2.1 = 0 then g.2.2.2.1 else l_or g.2.2.2.1 pt.2.1), if pt.1 = 0 then pt.2.2 else l_or g.2.2.2.2 pt.2.2)) := by unfold cmG; rw [if_neg hbg', if_neg hs]
      rw [hc] at hQ
      rw [b4, t3]
      refine c_joinFollows hd hP (fun ML1 p1 f1 => rV_mk ?_)
      have k171 : ML1 171 t.length = g.2.2.2.1 := by rw [f1 _ _ (by omega)]; exact b3
      have k172 : ML1 172 t.length = g.2.2.2.2 := by rw [f1 _ _ (by omega)]; exact b4
      have k60 : ML1 124 60 = pt.2.1 := by rw [f1 _ _ (by omega)]; exact t3
      have k61 : ML1 124 61 = pt.2.2 := by rw [f1 _ _ (by omega)]; exact t4
      have g3 := b3
      rw [k171, k60, b1, t1]
      have fS1 : frS dI MI ML MI ML1 := fun i k hk => ⟨rfl, f1 i k (fun z => hk (Or.inr (Or.inr (Or.inr ⟨by omega, z.2⟩))))⟩
      -- the last writes
      have fin : ∀ (n156 : Nat → Nat → Int) (F L0 : Int), n156 = up2 ML1 171 t.length F → F = (if g.2.2.1 = 0 then g.2.2.2.1 else l_or g.2.2.2.1 pt.2.1) → l_or pt.2.2 L0 = (if pt.1 = 0 then pt.2.2 else l_or g.2.2.2.2 pt.2.2) → wp cs mX12_comes KD Q 183 [some (vR 124), some (vI (dI : Nat)), some (vI (t.length : Nat))] [vL L0, vL pt.2.2, vI (t.length : Nat), vR 172] (KD, MI, n156, GR d e nw th x) := by
        intro n156 F L0 e156 hF hL
        refine v_X12_comes_183 ⟨by omega, ?_⟩
        simp only [Int.toNat_natCast]
        intro n184 f184
        refine ⟨by omega, ?_⟩
        rw [b1, t1]
        have last : ∀ (v : Int) (m : Nat → Nat → Int), v = (if g.2.2.1 = 0 ∨ pt.1 = 0 then 0 else 1) → m = up2 MI 170 t.length v → Q none (m, n184, GR d e nw th x) := by
          intro v m hv em
          have hv2 : v = 0 ∨ v = 1 := by rw [hv]; split <;> simp
          refine hQ m n184 (PlR_fr p1 (by rw [em]; funext k; rw [up2_ne (by decide)]) (by rw [em]; funext k; rw [up2_ne (by decide)]) (by rw [em]; funext k; rw [up2_ne (by decide)]) (by rw [f184, e156]; funext k; rw [up2_ne (by decide), up2_ne (by decide)])) ⟨⟨?_, ?_, fun _ => ⟨?_, ?_, ?_, ?_⟩⟩, GrRF_fr hGt (fun i hi => ⟨?_, ?_, ?_, ?_, ?_⟩)⟩ ?_ (by rw [em]; funext k; rw [up2_ne (by decide)]) ?_ (by rw [em]; funext k; rw [up2_ne (by decide)])
          · simp [em, up2]; exact a1
          · simp [em, up2]; exact h0
          · simp [em, up2, hv]
          · rw [← hv]; exact hv2
          · simp [f184, e156, up2, hF]
          · simp [f184, up2, hL]
          · simp [em, up2]
          · simp [em, up2]
          · simp [em, up2]; omega
          · simp [f184, e156, up2]; rw [f1 _ _ (by omega), if_neg (by omega)]
          · simp [f184, e156, up2]; rw [f1 _ _ (by omega), if_neg (by omega)]
          · rw [em, f184, e156]
            exact frS_tr fS1 (frS_tr (frS_upI (cS (by omega))) (frS_tr (frS_upL (cS (by omega))) (frS_upL (cS (by omega)))))
          · rw [f184, e156]; funext k; rw [up2_ne (by decide), up2_ne (by decide), f1 _ _ (by omega)]
        exact ⟨fun z1 m em => last 0 m (by rw [if_pos (Or.inl z1)]) em, fun z1 => ⟨fun z2 m em => last 0 m (by rw [if_pos (Or.inr z2)]) em, fun z2 m em => last 1 m (by rw [if_neg (fun z => z.elim z1 z2)]) em⟩⟩
      have rF : -9223372036854775808 ≤ g.2.2.2.1 ∧ g.2.2.2.1 < 9223372036854775808 := by rw [← b3]; exact r171
      have r61 : -9223372036854775808 ≤ pt.2.2 ∧ pt.2.2 < 9223372036854775808 := by have := hM.2 124 61; simp only at this; rw [← t4]; exact this
      have lcomm : l_or pt.2.2 g.2.2.2.2 = l_or g.2.2.2.2 pt.2.2 := bv_ext (l_or_ok _ _) (l_or_ok _ _) (fun k _ => by rw [bv_or, bv_or, Bool.or_comm])
      have tail : ∀ (n156 : Nat → Nat → Int) (F : Int), n156 = up2 ML1 171 t.length F → F = (if g.2.2.1 = 0 then g.2.2.2.1 else l_or g.2.2.2.1 pt.2.1) → ((pt.1 = 0 → wp cs mX12_comes KD Q 183 [some (vR 124), some (vI (dI : Nat)), some (vI (t.length : Nat))] [vL 0, vL (n156 124 61), vI (t.length : Nat), vR 172] (KD, MI, n156, (GR d e nw th x))) ∧ (pt.1 ≠ 0 → wp cs mX12_comes KD Q 183 [some (vR 124), some (vI (dI : Nat)), some (vI (t.length : Nat))] [vL (n156 172 t.length), vL (n156 124 61), vI (t.length : Nat), vR 172] (KD, MI, n156, (GR d e nw th x)))) := by
        intro n156 F e156 hF
        have q61 : n156 124 61 = pt.2.2 := by rw [e156, up2_ne (by decide)]; exact k61
        have q172 : n156 172 t.length = g.2.2.2.2 := by rw [e156, up2_ne (by decide)]; exact k172
        rw [q61, q172]
        exact ⟨fun z => fin n156 F 0 e156 hF (by rw [if_pos z, l_or_0r r61]), fun z => fin n156 F _ e156 hF (by rw [if_neg z, lcomm])⟩
      refine ⟨fun z n156 e156 => tail n156 _ e156 (by rw [if_pos z, l_or_0r rF]), fun z n156 e156 => tail n156 _ e156 (by rw [if_neg z])⟩
end P86
