/-! THE MODEL of lines and pages. -/
abbrev Ln : Type := By × Nat
/-- lines, the line that is open (none: no bytes), the WORD's place and length -/
abbrev SM : Type := List Ln × Ln × Nat × Nat
def slX (X : By) (f l : Nat) : By := (X.drop f).take l
def finL (s : SM) : SM := if s.2.1.1 = [] then s else (s.1 ++ [s.2.1], ([], 0), s.2.2)
def appL (X : By) (l : Nat) (s : SM) : SM := (s.1, (if s.2.1.1 = [] then (slX X s.2.2.1 l, s.2.2.1) else (s.2.1.1 ++ 32 :: slX X s.2.2.1 l, s.2.1.2)), s.2.2)
def movW (wd : Nat) (s : SM) : SM := (s.1, s.2.1, s.2.2.1 + wd, s.2.2.2 - wd)
def chkF (X : By) (wd : Nat) : Nat → SM → SM
  | 0, s => s
  | k + 1, s => if wd < s.2.2.2 then chkF X wd k (movW wd (finL (appL X wd s))) else s
def noW (s : SM) : SM := (s.1, s.2.1, s.2.2.1, 0)
def putW (X : By) (wd : Nat) (s : SM) : SM := if 0 < s.2.2.2 then appL X s.2.2.2 (if wd < s.2.1.1.length + 1 + s.2.2.2 then finL s else s) else s
def endW (X : By) (wd : Nat) (s : SM) : SM := noW (putW X wd (if wd < s.2.2.2 then chkF X wd s.2.2.2 (finL s) else s))
def endL (X : By) (wd : Nat) (s : SM) : SM := finL (endW X wd s)
def byW (p : Nat) (s : SM) : SM := (s.1, s.2.1, (if s.2.2.2 = 0 then p else s.2.2.1), s.2.2.2 + 1)
def txF_ (X : By) (wd : Nat) : Nat → Nat → SM → SM
  | 0, _, s => s
  | m + 1, p, s => txF_ X wd m (p + 1) (if isSp (X.getD p 0) then endW X wd s else byW p s)
/-- lines; open BLOCKS and where they began; kept BLOCKS: from, to -/
abbrev SB : Type := SM × List (Nat × Nat) × List (Nat × Nat)
def blkB (ns : List Nd) (k : Nat) : Bool := decide ((ndA ns k).1 = 1 ∧ 65 ≤ (ndA ns k).2.2.1.headD 0 ∧ (ndA ns k).2.2.1.headD 0 ≤ 90)
def kepB (ns : List Nd) (e : Nat) : Bool := (List.range ns.length).any fun c => decide ((ndA ns c).1 = 2 ∧ (ndA ns c).2.1 = (e : Int) ∧ (ndA ns c).2.2.1 = [107, 101, 101, 112] ∧ (ndA ns c).2.2.2.1 = [49])
def clsS (ns : List Nd) (X : By) (wd k : Nat) : List (Nat × Nat) → SM → List (Nat × Nat) → SB
  | [], m, ks => (m, [], ks)
  | eo :: t, m, ks => if eS ns eo.1 ≤ k then clsS ns X wd k t (endL X wd m) (if kepB ns eo.1 = true then ks ++ [(eo.2, (endL X wd m).1.length)] else ks) else (m, eo :: t, ks)
def opnS (ns : List Nd) (X : By) (wd k : Nat) (c : SB) : SB := if (ndA ns k).1 = 3 then (txF_ X wd (tl ns (k + 1) - tl ns k) (tl ns k) c.1, c.2)
  else if blkB ns k = true then (endL X wd c.1, (k, (endL X wd c.1).1.length) :: c.2.1, c.2.2) else c
def nodS (ns : List Nd) (X : By) (wd k : Nat) (c : SB) : SB := opnS ns X wd k (clsS ns X wd k c.2.1 c.1 c.2.2)
def nodF (ns : List Nd) (X : By) (wd : Nat) : Nat → Nat → SB → SB
  | 0, _, c => c
  | m + 1, k, c => nodF ns X wd m (k + 1) (nodS ns X wd k c)
def sm0 : SM := ([], ([], 0), 0, 0)
def allX (ns : List Nd) : By := cT ns 0 ns.length
def runS (ns : List Nd) (wd : Nat) : SB := nodF ns (allX ns) wd ns.length 0 (sm0, [], [])
def setB (ns : List Nd) (wd : Nat) : SB := clsS ns (allX ns) wd ns.length (runS ns wd).2.1 (runS ns wd).1 (runS ns wd).2.2
def setL (ns : List Nd) (wd : Nat) : List Ln := (endL (allX ns) wd (setB ns wd).1).1
def brkB (ks : List (Nat × Nat)) (H i u : Nat) : Bool := decide (H ≤ u) || ks.any fun q => decide (q.1 = i ∧ q.2 - q.1 ≤ H ∧ H < u + (q.2 - q.1))
def pgF (ks : List (Nat × Nat)) (H : Nat) : Nat → Nat → Nat → Nat → List (Nat × Nat)
  | 0, _, _, _ => []
  | m + 1, i, p, u => if brkB ks H i u = true then (p + 1, 0) :: pgF ks H m (i + 1) (p + 1) 1 else (p, u) :: pgF ks H m (i + 1) p (u + 1)
def setP (ns : List Nd) (wd H : Nat) : List (Nat × Nat) := pgF (setB ns wd).2.2 H (setL ns wd).length 0 0 0
def pgN (pg : List (Nat × Nat)) : Nat := match pg.getLast? with
  | none => 0
  | some q => q.1 + 1
def sumL (l : List Ln) : Nat := (l.map fun x => x.1.length).sum
def tot (s : SM) : Nat := sumL s.1 + s.2.1.1.length
def LnV (wd : Nat) (l : List Ln) : Prop := ∀ x ∈ l, 0 < x.1.length ∧ x.1.length ≤ wd
/-- pos bytes of the texts are taken -/
def SmI (X : By) (wd pos : Nat) (s : SM) : Prop := tot s + s.2.2.2 + (if s.2.1.1 = [] then 0 else 1) ≤ pos ∧ pos ≤ X.length ∧ (0 < s.2.2.2 → s.2.2.1 + s.2.2.2 = pos) ∧ s.2.1.1.length ≤ wd ∧ LnV wd s.1
theorem sumL_app (l : List Ln) (x : Ln) : sumL (l ++ [x]) = sumL l + x.1.length := by simp [sumL]
theorem sumL_ge {wd : Nat} : ∀ {l : List Ln}, LnV wd l → l.length ≤ sumL l
  | [], _ => Nat.zero_le _
  | x :: t, h => by
    have h1 := h x List.mem_cons_self
    have h2 := sumL_ge (l := t) (fun y hy => h y (List.mem_cons_of_mem _ hy))
    unfold sumL at *
    simp only [List.map_cons, List.sum_cons, List.length_cons]
    omega
theorem slX_len {X : By} {f l : Nat} (h : f + l ≤ X.length) : (slX X f l).length = l := by unfold slX; rw [List.length_take, List.length_drop]; omega
theorem finL_w (s : SM) : (finL s).2.2 = s.2.2 ∧ (finL s).2.1.1 = [] ∧ tot (finL s) = tot s ∧ (s.2.1.1.length ≤ 0 → finL s = s) := by
  unfold finL
  split
  · next h => exact ⟨rfl, h, rfl, fun _ => rfl⟩
  · next h =>
    refine ⟨rfl, rfl, ?_, fun z => absurd (List.eq_nil_of_length_eq_zero (by omega)) h⟩
    show sumL (s.1 ++ [s.2.1]) + 0 = sumL s.1 + s.2.1.1.length
    rw [sumL_app]; omega
theorem finL_V {wd : Nat} {s : SM} (h : LnV wd s.1) (hc : s.2.1.1.length ≤ wd) : LnV wd (finL s).1 := by
  unfold finL
  split
  · exact h
  · next hne =>
    intro x hx
    rcases List.mem_append.mp hx with z | z
    · exact h x z
    · rw [List.mem_singleton] at z
      subst z
      exact ⟨List.length_pos_iff.mpr hne, hc⟩
theorem finL_I {X : By} {wd pos : Nat} {s : SM} (h : SmI X wd pos s) : SmI X wd pos (finL s) := by
  obtain ⟨h1, h2, h3, h4, h5⟩ := h
  obtain ⟨w1, w2, w3, w4⟩ := finL_w s
  refine ⟨?_, h2, by rw [w1]; exact h3, by rw [w2]; simp, finL_V h5 h4⟩
  rw [w1, w2, w3, if_pos rfl]
  have : (if s.2.1.1 = [] then 0 else 1) ≥ 0 := Nat.zero_le _
  omega
/-- the first l bytes of the WORD, behind the line -/
theorem appL_ok {X : By} {wd pos l : Nat} {s : SM} (h : SmI X wd pos s) (hl : 0 < l ∧ l ≤ s.2.2.2) (hw : s.2.1.1.length + (if s.2.1.1 = [] then 0 else 1) + l ≤ wd) :
    tot (appL X l s) = tot s + (if s.2.1.1 = [] then 0 else 1) + l ∧ (appL X l s).2.1.1 ≠ [] ∧ (appL X l s).2.1.1.length = s.2.1.1.length + (if s.2.1.1 = [] then 0 else 1) + l ∧ s.2.2.1 + l ≤ X.length ∧ (slX X s.2.2.1 l).length = l := by
  obtain ⟨h1, h2, h3, h4, h5⟩ := h
  have hs : s.2.2.1 + l ≤ X.length := by have := h3 (by omega); omega
  have hsl := slX_len hs
  unfold appL tot
  simp only
  by_cases hc : s.2.1.1 = []
  · rw [if_pos hc, if_pos hc]
    simp only [hsl, hc, List.length_nil]
    refine ⟨by omega, fun z => ?_, by omega, hs, trivial⟩
    rw [z] at hsl; simp at hsl; omega
  · rw [if_neg hc, if_neg hc]
    simp only [List.length_append, List.length_cons, hsl]
    refine ⟨by omega, by simp, by omega, hs, trivial⟩
/-- a chunk of the WORD becomes a line -/
theorem chk_I {X : By} {wd pos : Nat} {s : SM} (h : SmI X wd pos s) (hc : s.2.1.1 = []) (hw : 0 < wd) (hl : wd < s.2.2.2) : SmI X wd pos (movW wd (finL (appL X wd s))) ∧ (movW wd (finL (appL X wd s))).2.1.1 = [] ∧ (movW wd (finL (appL X wd s))).2.2.2 = s.2.2.2 - wd := by
  have ha := appL_ok (l := wd) h ⟨hw, by omega⟩ (by rw [hc, if_pos rfl]; simp)
  obtain ⟨h1, h2, h3, h4, h5⟩ := h
  rw [hc, if_pos rfl] at ha h1
  obtain ⟨a1, a2, a3, a4, a5⟩ := ha
  obtain ⟨w1, w2, w3, w4⟩ := finL_w (appL X wd s)
  have e2 : (finL (appL X wd s)).2.2 = s.2.2 := w1
  have l2 : LnV wd (finL (appL X wd s)).1 := finL_V h5 (by rw [a3]; simp)
  have h3' := h3 (by omega)
  refine ⟨⟨?_, h2, fun _ => ?_, ?_, l2⟩, w2, ?_⟩
  · show tot (finL (appL X wd s)) + ((finL (appL X wd s)).2.2.2 - wd) + (if (finL (appL X wd s)).2.1.1 = [] then 0 else 1) ≤ pos
    rw [w3, w2, if_pos rfl, a1, e2]
    omega
  · show (finL (appL X wd s)).2.2.1 + wd + ((finL (appL X wd s)).2.2.2 - wd) = pos
    rw [e2]; omega
  · show (finL (appL X wd s)).2.1.1.length ≤ wd
    rw [w2]; simp
  · show (finL (appL X wd s)).2.2.2 - wd = _
    rw [e2]
theorem chkF_I {X : By} {wd pos : Nat} (hw : 0 < wd) : ∀ (k : Nat) (s : SM), SmI X wd pos s → s.2.1.1 = [] → 0 < s.2.2.2 → s.2.2.2 ≤ k → SmI X wd pos (chkF X wd k s) ∧ (chkF X wd k s).2.1.1 = [] ∧ 0 < (chkF X wd k s).2.2.2 ∧ (chkF X wd k s).2.2.2 ≤ wd
  | 0, s, h, hc, h0, hk => by omega
  | k + 1, s, h, hc, h0, hk => by
    unfold chkF
    split
    · next hl =>
      obtain ⟨c1, c2, c3⟩ := chk_I h hc hw hl
      exact chkF_I hw k _ c1 c2 (by rw [c3]; omega) (by rw [c3]; omega)
    · exact ⟨h, hc, h0, by omega⟩
theorem endW_ok {X : By} {wd pos : Nat} {s : SM} (hw : 0 < wd) (h : SmI X wd pos s) : (endW X wd s).2.2.2 = 0 ∧ tot (endW X wd s) ≤ pos ∧ (endW X wd s).2.1.1.length ≤ wd ∧ LnV wd (endW X wd s).1 ∧ (s.2.2.2 = 0 → (endW X wd s).2.1 = s.2.1 ∧ (endW X wd s).1 = s.1) := by
  have pre : ∃ s1, s1 = (if wd < s.2.2.2 then chkF X wd s.2.2.2 (finL s) else s) ∧ SmI X wd pos s1 ∧ s1.2.2.2 ≤ wd ∧ (s.2.2.2 = 0 → s1 = s) := by
    refine ⟨_, rfl, ?_⟩
    by_cases hl : wd < s.2.2.2
    · rw [if_pos hl]
      obtain ⟨w1, w2, w3, w4⟩ := finL_w s
      have := chkF_I (X := X) (pos := pos) hw s.2.2.2 (finL s) (finL_I h) w2 (by rw [w1]; omega) (by rw [w1]; omega)
      exact ⟨this.1, this.2.2.2, fun z => by omega⟩
    · rw [if_neg hl]; exact ⟨h, by omega, fun _ => rfl⟩
  obtain ⟨s1, e1, i1, l1, z1⟩ := pre
  unfold endW
  rw [← e1]
  have post : tot (putW X wd s1) ≤ pos ∧ (putW X wd s1).2.1.1.length ≤ wd ∧ LnV wd (putW X wd s1).1 ∧ (s1.2.2.2 = 0 → putW X wd s1 = s1) := by
    unfold putW
    by_cases h0 : 0 < s1.2.2.2
    · rw [if_pos h0]
      refine ⟨?_, ?_, ?_, fun z => by omega⟩
      all_goals
        by_cases hf : wd < s1.2.1.1.length + 1 + s1.2.2.2
        · rw [if_pos hf]
          have i2 := finL_I i1
          obtain ⟨w1, w2, w3, w4⟩ := finL_w s1
          have ha := appL_ok (l := s1.2.2.2) i2 ⟨h0, by rw [w1]; exact Nat.le_refl _⟩ (by rw [w2, if_pos rfl]; simp; omega)
          rw [w2, if_pos rfl, w3] at ha
          have hi := i1.1
          first
          | (rw [ha.1]; split at hi <;> omega)
          | (rw [ha.2.2.1]; simp; omega)
          | exact i2.2.2.2.2
        · rw [if_neg hf]
          have ha := appL_ok (l := s1.2.2.2) i1 ⟨h0, Nat.le_refl _⟩ (by split <;> omega)
          have hi := i1.1
          first
          | (rw [ha.1]; omega)
          | (rw [ha.2.2.1]; split <;> omega)
          | exact i1.2.2.2.2
    · rw [if_neg h0]
      have hi := i1.1
      exact ⟨by split at hi <;> omega, i1.2.2.2.1, i1.2.2.2.2, fun _ => rfl⟩
  refine ⟨rfl, post.1, post.2.1, post.2.2.1, fun z => ?_⟩
  have := z1 z
  have h2 := post.2.2.2 (by rw [this]; exact z)
  rw [h2, this]
  exact ⟨rfl, rfl⟩
theorem endW_S {X : By} {wd pos : Nat} {s : SM} (hw : 0 < wd) (h : SmI X wd pos s) (hp : pos < X.length) : SmI X wd (pos + 1) (endW X wd s) := by
  obtain ⟨e1, e2, e3, e4, e5⟩ := endW_ok hw h
  exact ⟨by rw [e1]; split <;> omega, by omega, fun z => by omega, e3, e4⟩
theorem endL_I {X : By} {wd pos : Nat} {s : SM} (hw : 0 < wd) (h : SmI X wd pos s) : SmI X wd pos (endL X wd s) ∧ (endL X wd s).2.1.1 = [] ∧ (endL X wd s).2.2.2 = 0 := by
  obtain ⟨e1, e2, e3, e4, e5⟩ := endW_ok hw h
  obtain ⟨w1, w2, w3, w4⟩ := finL_w (endW X wd s)
  refine ⟨⟨?_, h.2.1, fun z => ?_, ?_, finL_V e4 e3⟩, w2, ?_⟩
  · show tot (finL (endW X wd s)) + (finL (endW X wd s)).2.2.2 + (if (finL (endW X wd s)).2.1.1 = [] then 0 else 1) ≤ pos
    rw [w3, w1, w2, if_pos rfl, e1]; omega
  · exfalso
    have z' : 0 < (finL (endW X wd s)).2.2.2 := z
    rw [w1, e1] at z'; omega
  · show (finL (endW X wd s)).2.1.1.length ≤ wd
    rw [w2]; simp
  · show (finL (endW X wd s)).2.2.2 = 0
    rw [w1]; exact e1
theorem byW_I {X : By} {wd pos : Nat} {s : SM} (h : SmI X wd pos s) (hp : pos < X.length) : SmI X wd (pos + 1) (byW pos s) := by
  obtain ⟨h1, h2, h3, h4, h5⟩ := h
  refine ⟨?_, by omega, fun _ => ?_, h4, h5⟩
  · show tot s + (s.2.2.2 + 1) + (if s.2.1.1 = [] then 0 else 1) ≤ pos + 1
    omega
  · show (if s.2.2.2 = 0 then pos else s.2.2.1) + (s.2.2.2 + 1) = pos + 1
    split
    · omega
    · have := h3 (by omega); omega
theorem txF_I {X : By} {wd : Nat} (hw : 0 < wd) : ∀ (m p : Nat) (s : SM), SmI X wd p s → p + m ≤ X.length → SmI X wd (p + m) (txF_ X wd m p s)
  | 0, p, s, h, _ => h
  | m + 1, p, s, h, hp => by
    unfold txF_
    rw [show p + (m + 1) = p + 1 + m by omega]
    refine txF_I hw m (p + 1) _ ?_ (by omega)
    split
    · exact endW_S hw h (by omega)
    · exact byW_I h (by omega)
