/-! THE MODEL of a PATH, and the class's reading of it. -/
/-- a bracket: test (0 number, 1 last, 2 own STRING, 3 has attribute, 4 has ELEMENT), number, NAME, what is quoted -/
abbrev BrM : Type := Int × Int × By × Option By
/-- a STEP: kind (0 itself, 1 upward, 2 TEXTS, 3 attributes, 4 ELEMENTS), deep, NAME, brackets -/
abbrev StM : Type := Int × Bool × Option By × List BrM
def dgP (T : Nat → Int) (n : Int) : Nat → Int → Int → Int × Int
  | 0, v, h => (v, h)
  | k + 1, v, h => if isDg (ob T n h) then dgP T n k (v * 10 + ob T n h - 48) (h + 1) else (v, h)
def quF (T : Nat → Int) (n q : Int) : Nat → Int → PR Int
  | 0, h => .inl (-1, h)
  | k + 1, h => if ob T n h = q then .inr h else if isCh (ob T n h) then quF T n q k (h + 1) else .inl (-1, h)
def quS (T : Nat → Int) (n h : Int) : PR (By × Int) := if ob T n h = 34 ∨ ob T n h = 39 then pb (quF T n (ob T n h) (n - h).toNat (h + 1)) fun y => .inr (nb T (h + 1) y, y + 1) else .inl (-1, h)
/-- behind [ -/
def brS (T : Nat → Int) (n h : Int) : PR (BrM × Int) :=
  if isDg (ob T n h) then .inr ((0, (dgP T n 4 0 h).1, [], none), (dgP T n 4 0 h).2)
  else if stb T n h [108, 97, 115, 116, 40, 41] = true then .inr ((1, 0, [], none), h + 6)
  else if stb T n h [46, 61] = true then pb (quS T n (h + 2)) fun q => .inr ((2, 0, [], some q.1), q.2)
  else pb (nmS T n (if ob T n h = 64 then h + 1 else h)) fun y =>
    if ob T n y = 61 then pb (quS T n (y + 1)) fun q => .inr ((if ob T n h = 64 then 3 else 4, 0, nb T (if ob T n h = 64 then h + 1 else h) y, some q.1), q.2)
    else .inr ((if ob T n h = 64 then 3 else 4, 0, nb T (if ob T n h = 64 then h + 1 else h) y, none), y)
def brsF (T : Nat → Int) (n : Int) : Nat → List BrM → Int → PR (List BrM × Int)
  | 0, l, h => .inr (l, h)
  | k + 1, l, h => if ob T n h = 91 then (if 4 ≤ l.length then .inl (-3, h) else pb (brS T n (h + 1)) fun q => pb (mbS T n q.2 93) fun y => brsF T n k (l ++ [q.1]) y) else .inr (l, h)
/-- kind, NAME, behind them -/
def hdS (T : Nat → Int) (n h : Int) : PR (Int × Option By × Int) :=
  if stb T n h [116, 101, 120, 116, 40, 41] = true then .inr (2, none, h + 6)
  else if ob T n (if ob T n h = 64 then h + 1 else h) = 42 then .inr (if ob T n h = 64 then 3 else 4, none, (if ob T n h = 64 then h + 1 else h) + 1)
  else pb (nmS T n (if ob T n h = 64 then h + 1 else h)) fun y => .inr (if ob T n h = 64 then 3 else 4, some (nb T (if ob T n h = 64 then h + 1 else h) y), y)
def psS (T : Nat → Int) (n : Int) (dp : Bool) (c : Nat) (h : Int) : PR (StM × Int) :=
  if ob T n h = 46 ∨ ob T n h = 64 ∨ ob T n h = 42 ∨ isNs (ob T n h) then (if 12 ≤ c then .inl (-3, h)
    else if stb T n h [46, 46] = true then .inr ((1, dp, none, []), h + 2)
    else if ob T n h = 46 then .inr ((0, dp, none, []), h + 1)
    else pb (hdS T n h) fun q => pb (brsF T n 5 [] q.2.2) fun z => .inr ((q.1, dp, q.2.1, z.1), z.2))
  else .inl (-1, h)
def paF (T : Nat → Int) (n : Int) : Nat → List StM → Bool → Int → PR (List StM)
  | 0, _, _, h => .inl (-1, h)
  | k + 1, l, dp, h => pb (psS T n dp l.length h) fun q => if ob T n q.2 = -1 then .inr (l ++ [q.1])
      else if stb T n q.2 [47, 47] = true then paF T n k (l ++ [q.1]) true (q.2 + 2)
      else pb (mbS T n q.2 47) fun y => paF T n k (l ++ [q.1]) false y
/-- a PATH: from the root, its STEPS -/
def paS (T : Nat → Int) (n : Int) : PR (Bool × List StM) :=
  if stb T n 0 [47, 47] = true then pb (paF T n 13 [] true 2) fun l => .inr (true, l)
  else if ob T n 0 = 47 then (if ob T n 1 = -1 then .inr (true, []) else pb (paF T n 13 [] false 1) fun l => .inr (true, l))
  else pb (paF T n 13 [] false 0) fun l => .inr (false, l)
/-- outside of P nothing changes -/
def frP (P : Nat → Nat → Prop) (MI MI' : Nat → Nat → Int) : Prop := ∀ i k, ¬ P i k → MI' i k = MI i k
theorem frP_rfl (P : Nat → Nat → Prop) (MI : Nat → Nat → Int) : frP P MI MI := fun _ _ _ => rfl
theorem frP_tr {P : Nat → Nat → Prop} {A B C : Nat → Nat → Int} (h : frP P A B) (k : frP P B C) : frP P A C := fun i j hp => (k i j hp).trans (h i j hp)
theorem frP_mono {P R : Nat → Nat → Prop} {A B : Nat → Nat → Int} (h : frP P A B) (hp : ∀ i k, P i k → R i k) : frP R A B := fun i k hr => h i k fun z => hr (hp i k z)
theorem frP_up {P : Nat → Nat → Prop} {MI : Nat → Nat → Int} {i k : Nat} {v : Int} (h : P i k) : frP P MI (up2 MI i k v) := fun a c hn => by
  unfold up2
  rw [if_neg]
  rintro ⟨rfl, rfl⟩
  exact hn h
theorem frP_mvd {P : Nat → Nat → Prop} {MI MI' : Nat → Nat → Int} (h : mvd MI MI') (hp : ∀ k, P 2 k) : frP P MI MI' := fun i k hn => by
  rw [h i (fun z => by subst z; exact hn (hp k))]
theorem frP_row {P : Nat → Nat → Prop} {MI MI' : Nat → Nat → Int} (h : frP P MI MI') {i : Nat} (hi : ∀ k, ¬ P i k) : MI' i = MI i := funext fun k => h i k (hi k)
def chP (i _k : Nat) : Prop := i = 2 ∨ (4 ≤ i ∧ i ≤ 10) ∨ (14 ≤ i ∧ i ≤ 22) ∨ (1000 ≤ i ∧ i ≤ 1042)
def CurP (T : Nat → Int) (n h : Int) (MI : Nat → Nat → Int) : Prop := MI 1 = T ∧ MI 2 1 = n ∧ (0 ≤ n ∧ n ≤ 6000 ∧ MI 2 6 = -1) ∧ MI 2 2 = h ∧ (0 ≤ h ∧ h ≤ n)
def FaiP (OI : Nat → Nat → Int) (f p : Int) (MI : Nat → Nat → Int) : Prop := MI 2 5 = f ∧ MI 2 6 = p ∧ frP chP OI MI
section Pd01
variable {cs : Cs} {Q : Option AV → Mm → Prop} {MI ML OI : Nat → Nat → Int} {b d e nw th : Nat} {T TD : Nat → Int} {n nD h : Int} {N : List By}
theorem CurP_C (hc : CurP T n h MI) : CurC 1000 T n MI ML h MI ML := ⟨hc.1, hc.2.1, hc.2.2.1, hc.2.2.2.1, hc.2.2.2.2, fun _ _ => ⟨rfl, rfl⟩⟩
theorem CurC_P {MI' ML' OL : Nat → Nat → Int} (hc : CurC 1000 T n OI OL h MI' ML') : CurP T n h MI' := ⟨hc.1, hc.2.1, hc.2.2.1, hc.2.2.2.1, hc.2.2.2.2.1⟩
theorem FaiC_P {f p : Int} {MI' ML' OL : Nat → Nat → Int} (hf : FaiC 1000 MI OL f p MI' ML') : FaiP MI f p MI' := ⟨hf.1, hf.2.1, fun i k hn => by
  have := (hf.2.2 i (fun z => hn (by unfold regC at z; unfold chP; omega))).1
  rw [this]⟩
theorem FaiP_tr {f p : Int} {MI' : Nat → Nat → Int} (h1 : frP chP OI MI) (h2 : FaiP MI f p MI') : FaiP OI f p MI' := ⟨h2.1, h2.2.1, frP_tr h1 h2.2.2⟩
theorem CurP_fr {MI' : Nat → Nat → Int} (hc : CurP T n h MI) (h1 : MI' 1 = MI 1) (h2 : MI' 2 = MI 2) : CurP T n h MI' := by unfold CurP; rw [h1, h2]; exact hc
theorem CurP_up {h' : Int} (hc : CurP T n h MI) (hh : 0 ≤ h' ∧ h' ≤ n) : CurP T n h' (up2 MI 2 2 h') :=
  ⟨by rw [← hc.1]; funext k; exact up2_ne (by decide) k, by rw [up2_nk (by decide)]; exact hc.2.1, ⟨hc.2.2.1.1, hc.2.2.1.2.1, by rw [up2_nk (by decide)]; exact hc.2.2.1.2.2⟩, up2_eq, hh⟩
theorem mvd_up {h' : Int} : mvd MI (up2 MI 2 2 h') := fun i hi => funext fun k => up2_ne hi k
theorem px_peek (hc : CurP T n h MI) (hQ : Q (some (vI (ob T n h))) (MI, ML, GR d e nw th 1)) : wp cs mX1_peek KD Q 0 (padL [vR 2] 1) [] (KD, MI, ML, GR d e nw th 1) := lx_peek (CurP_C (ML := ML) hc) hQ
theorem px_takeIf {k : Nat} (hk : k < strB.length) (hc : CurP T n h MI) (hT : stb T n h (sB k) = true → ∀ MI', CurP T n (h + sl k) MI' → mvd MI MI' → Q (some (vI 1)) (MI', ML, GR d e nw th 1)) (hF : stb T n h (sB k) = false → Q (some (vI 0)) (MI, ML, GR d e nw th 1)) :
    wp cs mX1_takeIf KD Q 0 (padL [vR 2, vR (1000003 + k)] 4) [] (KD, MI, ML, GR d e nw th 1) := lx_takeIf hk (CurP_C (ML := ML) hc) (fun hs MI' c m => hT hs MI' (CurC_P c) m) hF
theorem px_take1 {k : Nat} {c : Int} (hk : k < strB.length) (hb : sB k = [c]) (hc : CurP T n h MI)
    (hT : ∀ y, mbS T n h c = .inr y → ∀ MI', CurP T n y MI' → mvd MI MI' → Q (some (vI 1)) (MI', ML, GR d e nw th 1)) (hF : ∀ f p, mbS T n h c = .inl (f, p) → ∀ MI', FaiP MI f p MI' → Q (some (vI 0)) (MI', ML, GR d e nw th 1)) :
    wp cs mX1_take KD Q 0 (padL [vR 2, vR (1000003 + k)] 2) [] (KD, MI, ML, GR d e nw th 1) := lx_take1 hk hb (CurP_C (ML := ML) hc) (fun y hy MI' c m => hT y hy MI' (CurC_P c) m) (fun f p hy MI' hf => hF f p hy MI' (FaiC_P hf))
theorem px_needName (hc : CurP T n h MI) (hT : ∀ y, nmS T n h = .inr y → ∀ MI', CurP T n y MI' → mvd MI MI' → lastN MI' h (y - h) → Q (some (vI 1)) (MI', ML, GR d e nw th 1)) (hF : ∀ f p, nmS T n h = .inl (f, p) → ∀ MI', FaiP MI f p MI' → Q (some (vI 0)) (MI', ML, GR d e nw th 1)) :
    wp cs mX1_needName KD Q 0 (padL [vR 2] 1) [] (KD, MI, ML, GR d e nw th 1) := lx_needName (CurP_C (ML := ML) hc) (fun y hy MI' c m l => hT y hy MI' (CurC_P c) m l) (fun f p hy MI' hf => hF f p hy MI' (FaiC_P hf))
theorem px_refuse {f p : Int} (hQ : ∀ MI', FaiP MI f p MI' → Q (some (vI 0)) (MI', ML, GR d e nw th 1)) : wp cs mX1_refuse KD Q 0 (padL [vR 2, vI f, vI p] 3) [] (KD, MI, ML, GR d e nw th 1) :=
  lx_refuse (b := 1000) (OI := MI) (OL := ML) (fun _ _ => ⟨rfl, rfl⟩) (fun MI' hf => hQ MI' (FaiC_P hf))
def dgB (k : Nat) : Int := if k = 0 then 9999 else if k = 1 then 999 else if k = 2 then 99 else if k = 3 then 9 else 0
theorem c_takeNumber_l : ∀ (k : Nat) (v l2 h : Int) (MI : Nat → Nat → Int), CurP T n h MI → 0 ≤ v ∧ v ≤ dgB k → l2 + k = 4 ∧ 0 ≤ l2 → (∀ MI', CurP T n (dgP T n k v h).2 MI' → mvd MI MI' → Q (some (vI (dgP T n k v h).1)) (MI', ML, GR d e nw th 1)) →
    wp cs mX6_takeNumber KD Q 4 [some (vR 14), some (vI v), some (vI l2)] [] (KD, MI, ML, GR d e nw th 1)
  | 0, v, l2, h, MI, hc, hv, hk, hQ => v_X6_takeNumber_4 ⟨fun z => by omega, fun _ => hQ MI hc (fun _ _ => rfl)⟩
  | k + 1, v, l2, h, MI, hc, hv, hk, hQ => by
    refine v_X6_takeNumber_4 ⟨fun _ => px_peek hc (rI_mk (w_X1_isDigit (rI_mk ⟨fun z => ?_, fun z => ?_⟩))), fun z => by omega⟩
    · have hd : ¬ isDg (ob T n h) := fun w => by rw [bI, if_pos w] at z; omega
      rw [dgP, if_neg hd] at hQ
      exact hQ MI hc (fun _ _ => rfl)
    · have hd : isDg (ob T n h) := Decidable.byContradiction fun w => z (by rw [bI, if_neg w])
      rw [dgP, if_pos hd] at hQ
      have hln := ob_lt (c := ob T n h) (by unfold isDg at hd; omega) rfl
      have h5 := hc.2.2.2.2
      have h22 := hc.2.2.2.1
      have h60 := hc.2.2.1
      have hb : v ≤ 999 ∧ v * 10 + 9 ≤ dgB k := by
        have : k = 0 ∨ k = 1 ∨ k = 2 ∨ 3 ≤ k := by omega
        unfold dgB at hv ⊢
        rcases this with w | w | w | w
        · subst w; simp at hv ⊢; omega
        · subst w; simp at hv ⊢; omega
        · subst w; simp at hv ⊢; omega
        · rw [if_neg (by omega), if_neg (by omega), if_neg (by omega)]
          by_cases w3 : k = 3
          · subst w3; simp at hv ⊢; omega
          · omega
      have hd' : 48 ≤ ob T n h ∧ ob T n h ≤ 57 := hd
      refine ⟨by omega, px_peek hc (rI_mk ?_)⟩
      rw [h22]
      refine ⟨by omega, by omega, by omega, ?_⟩
      rintro _ rfl
      refine ⟨by omega, c_takeNumber_l k (v * 10 + ob T n h - 48) (l2 + 1) (h + 1) _ (CurP_up hc (by omega)) (by omega) (by omega) (fun MI' c m => hQ MI' c (mvd_tr mvd_up m))⟩
theorem c_takeNumber (hc : CurP T n h MI) (hQ : ∀ MI', CurP T n (dgP T n 4 0 h).2 MI' → mvd MI MI' → Q (some (vI (dgP T n 4 0 h).1)) (MI', ML, GR d e nw th 1)) : wp cs mX6_takeNumber KD Q 0 (padL [vR 14] 3) [] (KD, MI, ML, GR d e nw th 1) :=
  v_X6_takeNumber_0 (c_takeNumber_l 4 0 0 h MI hc (by unfold dgB; simp) ⟨by omega, by omega⟩ hQ)
def chQ_ (f i k : Nat) : Prop := i = 2 ∨ ((i = 21 ∨ i = 22) ∧ k = f)
theorem quF_ok (T : Nat → Int) (n q : Int) (hq : q ≠ -1) : ∀ (k : Nat) (h y : Int), quF T n q k h = .inr y → h ≤ y ∧ y < n ∧ ob T n y = q
  | 0, h, y, hy => by simp [quF] at hy
  | k + 1, h, y, hy => by
    unfold quF at hy
    split at hy
    · next h1 => cases hy; exact ⟨by omega, ob_lt hq h1, h1⟩
    · split at hy
      · have := quF_ok T n q hq k (h + 1) y hy; omega
      · cases hy
theorem c_readQuoted_l {f : Nat} {q g : Int} (hf : f < 48) (hq : q = 34 ∨ q = 39) (hg : 0 ≤ g)
    (hT : ∀ y MI', quF T n q (n - g + 1).toNat g = .inr y → CurP T n (y + 1) MI' → frP (chQ_ f) OI MI' → MI' 21 f = g → MI' 22 f = y - g → Q (some (vI 1)) (MI', ML, GR d e nw th 1))
    (hF : ∀ g' p MI', quF T n q (n - g + 1).toNat g = .inl (g', p) → FaiP OI g' p MI' → Q (some (vI 0)) (MI', ML, GR d e nw th 1)) :
    ∀ (k : Nat) (h : Int) (MI : Nat → Nat → Int), CurP T n h MI → (n - h).toNat < k → g ≤ h → MI 21 f = g → frP (chQ_ f) OI MI → quF T n q (n - g + 1).toNat g = quF T n q k h →
    wp cs mX6_readQuoted KD Q 62 [some (vR 14), some (vI (f : Nat)), some (vI q)] [] (KD, MI, ML, GR d e nw th 1) := by
  have mon : ∀ {MI : Nat → Nat → Int}, frP (chQ_ f) OI MI → frP chP OI MI := fun hfr => frP_mono hfr (fun i k hp => by unfold chQ_ at hp; unfold chP; omega)
  intro k
  induction k with
  | zero => intro h MI hc hk; omega
  | succ k ih =>
    intro h MI hc hk hgh h21 hfr heq
    have h22 := hc.2.2.2.1
    have h5 := hc.2.2.2.2
    have h60 := hc.2.2.1
    -- the end of it
    have fin : (ob T n h = q ∨ n ≤ h) → wp cs mX6_readQuoted KD Q 135 [some (vR 14), some (vI (f : Nat)), some (vI q)] [] (KD, MI, ML, GR d e nw th 1) := by
      intro hfin
      refine v_X6_readQuoted_135 ?_
      simp only [Int.toNat_natCast]
      rw [h22, h21]
      refine ⟨by omega, by omega, ?_⟩
      rintro _ rfl
      have hc2 : CurP T n h (up2 MI 22 f (h - g)) := CurP_fr hc (funext fun k => up2_ne (by decide) k) (funext fun k => up2_ne (by decide) k)
      have f2 : frP (chQ_ f) OI (up2 MI 22 f (h - g)) := frP_tr hfr (frP_up (by unfold chQ_; omega))
      have okT : ∀ y, mbS T n h q = .inr y → ∀ MI', CurP T n y MI' → mvd (up2 MI 22 f (h - g)) MI' → (((1 : Int) = 0 ∨ (1 : Int) = 1) ∧ Q (some (vI 1)) (MI', ML, GR d e nw th 1)) := by
        intro y hy MI' c m
        unfold mbS at hy
        split at hy
        · next ho =>
          cases hy
          rw [quF, if_pos ho] at heq
          refine ⟨Or.inr rfl, hT h MI' heq c (frP_tr f2 (frP_mvd m (fun k => Or.inl rfl))) ?_ ?_⟩
          · rw [m 21 (by decide), up2_ne (by decide)]; exact h21
          · rw [m 22 (by decide), up2_eq]
        · cases hy
      have okF : ∀ f' p, mbS T n h q = .inl (f', p) → ∀ MI', FaiP (up2 MI 22 f (h - g)) f' p MI' → (((0 : Int) = 0 ∨ (0 : Int) = 1) ∧ Q (some (vI 0)) (MI', ML, GR d e nw th 1)) := by
        intro f' p hy MI' hfa
        unfold mbS at hy
        split at hy
        · cases hy
        · next ho =>
          cases hy
          have hnc : ¬ isCh (ob T n h) := by
            rw [ob_out (by omega)]; decide
          rw [quF, if_neg ho, if_neg hnc] at heq
          exact ⟨Or.inl rfl, hF _ _ MI' heq (FaiP_tr (mon f2) hfa)⟩
      rcases hq with e1 | e1
      · subst e1
        exact ⟨fun _ => px_take1 (k := 39) (by decide +kernel) rfl hc2 (fun y hy MI' c m => rI_mk (okT y hy MI' c m)) (fun f' p hy MI' hfa => rI_mk (okF f' p hy MI' hfa)), fun z => absurd rfl z⟩
      · subst e1
        exact ⟨fun z => by omega, fun _ => px_take1 (k := 40) (by decide +kernel) rfl hc2 (fun y hy MI' c m => rI_mk (okT y hy MI' c m)) (fun f' p hy MI' hfa => rI_mk (okF f' p hy MI' hfa))⟩
    refine v_X6_readQuoted_62 ?_
    rw [h22, hc.2.1]
    refine ⟨fun hlt => px_peek hc (rI_mk ⟨fun ho => fin (Or.inl ho), fun ho => px_peek hc (rI_mk (w_X1_isChar (rI_mk ⟨fun z => ?_, fun z => ?_⟩)))⟩), fun hge => fin (Or.inr hge)⟩
    · have hnc : ¬ isCh (ob T n h) := fun w => by rw [bI, if_pos w] at z; omega
      rw [quF, if_neg ho, if_neg hnc] at heq
      rw [h22]
      exact px_refuse (fun MI' hfa => rI_mk ⟨Or.inl rfl, hF _ _ MI' heq (FaiP_tr (mon hfr) hfa)⟩)
    · have hch : isCh (ob T n h) := Decidable.byContradiction fun w => z (by rw [bI, if_neg w])
      rw [quF, if_neg ho, if_pos hch] at heq
      rw [h22]
      refine ⟨by omega, ?_⟩
      rintro _ rfl
      refine ih (h + 1) _ (CurP_up hc (by omega)) (by omega) (by omega) ?_ (frP_tr hfr (frP_up (Or.inl rfl))) heq
      rw [up2_ne (by decide)]; exact h21
theorem c_readQuoted {f : Nat} (hf : f < 48) (hc : CurP T n h MI)
    (hT : ∀ v y MI', quS T n h = .inr (v, y) → CurP T n y MI' → frP (chQ_ f) MI MI' → slc T n (MI' 21 f) (MI' 22 f) v → Q (some (vI 1)) (MI', ML, GR d e nw th 1))
    (hF : ∀ g' p MI', quS T n h = .inl (g', p) → FaiP MI g' p MI' → Q (some (vI 0)) (MI', ML, GR d e nw th 1)) :
    wp cs mX6_readQuoted KD Q 0 (padL [vR 14, vI (f : Nat)] 3) [] (KD, MI, ML, GR d e nw th 1) := by
  have h22 := hc.2.2.2.1
  have h5 := hc.2.2.2.2
  have h60 := hc.2.2.1
  have go : ∀ q, (q = 34 ∨ q = 39) → ob T n h = q → wp cs mX6_readQuoted KD Q 62 [some (vR 14), some (vI (f : Nat)), some (vI q)] [] (KD, up2 (up2 MI 2 2 (h + 1)) 21 f (h + 1), ML, GR d e nw th 1) := by
    intro q hq ho
    have hln := ob_lt (c := q) (by omega) ho
    have c1 := CurP_up (h' := h + 1) hc (by omega)
    refine c_readQuoted_l (OI := MI) (g := h + 1) hf hq (by omega) (fun y MI' hy c fr e1 e2 => ?_) (fun g' p MI' hy hfa => ?_) ((n - (h + 1) + 1).toNat) (h + 1) _ (CurP_fr c1 (funext fun k => up2_ne (by decide) k) (funext fun k => up2_ne (by decide) k)) (by omega) (by omega) up2_eq (frP_tr (frP_up (Or.inl rfl)) (frP_up (Or.inr ⟨Or.inl rfl, rfl⟩))) rfl
    · rw [show (n - (h + 1) + 1).toNat = (n - h).toNat by omega] at hy
      have hok := quF_ok T n q (by omega) _ _ _ hy
      refine hT (nb T (h + 1) y) (y + 1) MI' ?_ c fr ?_
      · unfold quS
        rw [ho, if_pos hq, hy, pb_r]
      · rw [e1, e2]; exact slc_nb (by omega) hok.1 (by omega)
    · rw [show (n - (h + 1) + 1).toNat = (n - h).toNat by omega] at hy
      refine hF g' p MI' ?_ hfa
      unfold quS
      rw [ho, if_pos hq, hy, pb_l]
  refine v_X6_readQuoted_0 (px_peek hc (rI_mk ⟨fun ho => ?_, fun ho => ⟨fun ho2 => ?_, fun ho2 => ?_⟩⟩))
  · rw [h22, ho]
    refine ⟨by omega, ?_⟩
    rintro _ rfl
    refine ⟨by omega, ?_⟩
    rintro _ rfl
    rw [up2_eq]
    simp only [Int.toNat_natCast]
    exact go 34 (Or.inl rfl) ho
  · rw [h22, ho2]
    refine ⟨by omega, ?_⟩
    rintro _ rfl
    refine ⟨by omega, ?_⟩
    rintro _ rfl
    rw [up2_eq]
    simp only [Int.toNat_natCast]
    exact go 39 (Or.inr rfl) ho2
  · rw [h22]
    refine px_refuse (fun MI' hfa => rI_mk ⟨Or.inl rfl, hF _ _ MI' ?_ hfa⟩)
    unfold quS
    rw [if_neg (by omega)]
end Pd01
