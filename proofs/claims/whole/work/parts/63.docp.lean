/-! The class's picture of a DOCUMENT at base b. -/
def agr (MI MI' : Nat → Nat → Int) (lo hi : Nat) : Prop := ∀ i, lo ≤ i → i ≤ hi → MI' i = MI i
/-- the first place from k on where p holds -/
def fIdx {α : Type} (p : α → Bool) : List α → Nat → Int
  | [], _ => -1
  | a :: t, k => if p a = true then (k : Int) else fIdx p t (k + 1)
def ofN (o : By) (r : Rl) : Bool := decide (r.1 = o)
def clN (o : By) (q : Dc) : Bool := decide (q.1 = o)
def IdxC (b : Nat) (N : List By) (ds : List Dc) (rs : List Rl) (MI : Nat → Nat → Int) : Prop :=
  ∀ (k : Nat) (x : By), N[k]? = some x → MI (b + 3) k = fIdx (clN x) ds 0 ∧ MI (b + 4) k = fIdx (ofN x) rs 0
/-- the places of a NAME, as bits -/
def nmdF (x : By) : List By → Nat → Int → Int
  | [], _, a => a
  | y :: t, k, a => nmdF x t (k + 1) (if y = x then l_or a (l_shl 1 (k : Int)) else a)
def nmd (l : List By) (x : By) : Int := nmdF x l 0 0
def SpcA (b : Nat) (N : List By) (MI ML : Nat → Nat → Int) (j : Nat) (q : Dc) : Prop :=
  MI (b + 10) j = q.2.1 ∧ isId N (MI (b + 11) j) q.1 ∧ MI (b + 12) j = (q.2.2.1 : Nat) ∧ MI (b + 13) j = (q.2.2.2.1.length : Nat) ∧ q.2.2.2.1.length ≤ 40 ∧ q.2.2.2.2.1.length = q.2.2.2.1.length ∧
  (∀ p y, q.2.2.2.1[p]? = some y → isId N (MI (b + 14) (40 * j + p)) y ∧ ML (b + 16) (40 * j + p) = l_and (nmd (q.2.2.2.1.take p) y) (-1)) ∧ (∀ p y, q.2.2.2.2.1[p]? = some y → ML (b + 15) (40 * j + p) = y) ∧
  ML (b + 17) j = q.2.2.2.2.2.1 ∧ ML (b + 18) j = q.2.2.2.2.2.2.1 ∧ MI (b + 19) j = q.2.2.2.2.2.2.2
def SpcC (b : Nat) (N : List By) (ds : List Dc) (MI ML : Nat → Nat → Int) : Prop :=
  MI (b + 9) 10 = (ds.length : Nat) ∧ ds.length ≤ 30 ∧ ∀ j q, ds[j]? = some q → SpcA b N MI ML j q
def tkA (rs : List Rl) : Nat := (rs.map fun q => q.2.2.2.1.length).sum
def RulA (b : Nat) (T : Nat → Int) (n : Int) (N : List By) (rs : List Rl) (MI : Nat → Nat → Int) (r : Nat) (q : Rl) : Prop :=
  isId N (MI (b + 21) r) q.2.1 ∧ isId N (MI (b + 22) r) q.1 ∧ MI (b + 23) r = q.2.2.1 ∧ MI (b + 24) r = (tkA (rs.take r) : Nat) ∧ MI (b + 25) r = (q.2.2.2.1.length : Nat) ∧
  (∀ t y, q.2.2.2.1[t]? = some y → slc T n (MI (b + 30) (tkA (rs.take r) + t)) (MI (b + 31) (tkA (rs.take r) + t)) y) ∧ MI (b + 26) r = q.2.2.2.2.1 ∧
  slc (MI (b + 41)) (MI b 14) (MI (b + 27) r) (MI (b + 28) r - MI (b + 27) r) q.2.2.2.2.2 ∧ MI (b + 29) r = fIdx (ofN q.1) (rs.drop (r + 1)) (r + 1)
def RulC (b : Nat) (T : Nat → Int) (n : Int) (N : List By) (rs : List Rl) (MI : Nat → Nat → Int) : Prop :=
  MI (b + 20) 11 = (rs.length : Nat) ∧ rs.length ≤ 750 ∧ MI (b + 20) 12 = (tkA rs : Nat) ∧ tkA rs ≤ 3000 ∧ ∀ r q, rs[r]? = some q → RulA b T n N rs MI r q
def cntI (ns : List Nd) (e : Int) : Nat := (ns.filter fun x => !decide (x.1 = 2) && decide (x.2.1 = e)).length
def tle (ns : List Nd) : Nat := (ns.map fun x => if x.1 = 3 then x.2.2.2.1.length else 0).sum
def tl (ns : List Nd) (k : Nat) : Nat := tle (ns.take k)
/-- behind the NODES within k -/
def eS (ns : List Nd) (k : Nat) : Nat := k + 1 + ((ns.drop (k + 1)).takeWhile fun x => decide ((k : Int) ≤ x.2.1)).length
def NodA (b : Nat) (N : List By) (ns : List Nd) (op : List Int) (MI : Nat → Nat → Int) (k : Nat) (x : Nd) : Prop :=
  MI (b + 32) k = x.1 ∧ MI (b + 33) k = x.2.1 ∧ (x.2.2.1 = [] ∧ MI (b + 34) k = -1 ∨ isId N (MI (b + 34) k) x.2.2.1) ∧ MI (b + 35) k = (cntA ns (k : Nat) : Nat) ∧ MI (b + 36) k = (cntI ns (k : Nat) : Nat) ∧
  MI (b + 37) k = x.2.2.2.2.1 + 2 * x.2.2.2.2.2 ∧ (x.1 = 2 → slc (MI (b + 41)) (MI b 14) (MI (b + 39) k) (MI (b + 40) k - MI (b + 39) k) x.2.2.2.1 ∧ MI (b + 38) k = (k : Nat) + 1) ∧
  (x.1 ≠ 2 → MI (b + 39) k = (tl ns k : Nat)) ∧ (x.1 = 3 → slc (MI (b + 42)) (tle ns : Nat) (tl ns k : Nat) (x.2.2.2.1.length : Nat) x.2.2.2.1) ∧
  (x.1 ≠ 2 → (k : Int) ∉ op → MI (b + 38) k = (eS ns k : Nat) ∧ MI (b + 40) k = (tl ns (eS ns k) : Nat))
def NodC (b : Nat) (N : List By) (ns : List Nd) (op : List Int) (MI : Nat → Nat → Int) : Prop :=
  MI b 16 = (ns.length : Nat) ∧ ns.length ≤ 600 ∧ MI b 15 = (tle ns : Nat) ∧ ∀ k x, ns[k]? = some x → NodA b N ns op MI k x
/-- the doctype's NAME; the bytes kept; the deepest -/
def DtC (b : Nat) (N : List By) (o : Option By) (MI : Nat → Nat → Int) : Prop := match o with
  | none => MI b 17 = -1
  | some x => isId N (MI b 17) x
def DocC (b : Nat) (T : Nat → Int) (n : Int) (N : List By) (pl : Nat) (D : Dt) (ns : List Nd) (op : List Int) (dp : Int) (MI ML : Nat → Nat → Int) : Prop :=
  NamC b T n N MI ∧ IdxC b N D.2.1 D.2.2 MI ∧ SpcC b N D.2.1 MI ML ∧ RulC b T n N D.2.2 MI ∧ NodC b N ns op MI ∧ DtC b N D.1 MI ∧ (0 ≤ MI b 14 ∧ MI b 14 + MI b 15 = (pl : Nat) ∧ pl ≤ 2000) ∧ MI b 18 = dp
theorem fIdx_cons {α : Type} (p : α → Bool) (a : α) (t : List α) (k : Nat) : fIdx p (a :: t) k = if p a = true then (k : Int) else fIdx p t (k + 1) := rfl
theorem fIdx_app {α : Type} (p : α → Bool) (y : α) : ∀ (l : List α) (k : Nat), fIdx p (l ++ [y]) k = if fIdx p l k = -1 then (if p y = true then ((k + l.length : Nat) : Int) else -1) else fIdx p l k
  | [], k => by simp [fIdx]
  | a :: t, k => by
    rw [List.cons_append, fIdx_cons, fIdx_cons]
    by_cases h : p a = true
    · rw [if_pos h, if_pos h, if_neg (by omega)]
    · rw [if_neg h, if_neg h, fIdx_app p y t (k + 1)]
      simp only [List.length_cons]
      rw [show k + 1 + t.length = k + (t.length + 1) by omega]
theorem fIdx_none {α : Type} {p : α → Bool} : ∀ {l : List α} {k : Nat}, (∀ a ∈ l, p a = false) → fIdx p l k = -1
  | [], _, _ => rfl
  | a :: t, k, h => by
    simp only [fIdx]
    rw [if_neg (by rw [h a List.mem_cons_self]; decide)]
    exact fIdx_none fun z hz => h z (List.mem_cons_of_mem _ hz)
theorem fIdx_lt {α : Type} (p : α → Bool) : ∀ (l : List α) (k : Nat), fIdx p l k = -1 ∨ ((k : Int) ≤ fIdx p l k ∧ fIdx p l k < k + l.length)
  | [], _ => Or.inl rfl
  | a :: t, k => by
    simp only [fIdx, List.length_cons]
    by_cases h : p a = true
    · rw [if_pos h]; right; omega
    · rw [if_neg h]
      rcases fIdx_lt p t (k + 1) with h | h
      · exact Or.inl h
      · right; omega
section P63
variable {cs : Cs} {Q : Option AV → Mm → Prop} {MI ML MI' ML' OI OL : Nat → Nat → Int} {b d e nw th : Nat} {T : Nat → Int} {n : Int} {N : List By} {x : By}
theorem NamC_fr (h : NamC b T n N MI) (a : agr MI MI' (b + 1) (b + 8)) : NamC b T n N MI' := by
  unfold NamC at *
  rw [a (b + 1) (by omega) (by omega), a (b + 2) (by omega) (by omega), a (b + 5) (by omega) (by omega), a (b + 6) (by omega) (by omega), a (b + 7) (by omega) (by omega), a (b + 8) (by omega) (by omega)]
  exact h
theorem IdxC_fr {ds : List Dc} {rs : List Rl} (h : IdxC b N ds rs MI) (a : agr MI MI' (b + 3) (b + 4)) : IdxC b N ds rs MI' := by
  unfold IdxC at *
  rw [a (b + 3) (by omega) (by omega), a (b + 4) (by omega) (by omega)]
  exact h
theorem SpcA_fr {j : Nat} {q : Dc} (h : SpcA b N MI ML j q) (a : agr MI MI' (b + 9) (b + 19)) (c : agr ML ML' (b + 9) (b + 19)) : SpcA b N MI' ML' j q := by
  unfold SpcA at *
  rw [a (b + 10) (by omega) (by omega), a (b + 11) (by omega) (by omega), a (b + 12) (by omega) (by omega), a (b + 13) (by omega) (by omega), a (b + 14) (by omega) (by omega), c (b + 15) (by omega) (by omega), c (b + 16) (by omega) (by omega), c (b + 17) (by omega) (by omega), c (b + 18) (by omega) (by omega), a (b + 19) (by omega) (by omega)]
  exact h
theorem SpcC_fr {ds : List Dc} (h : SpcC b N ds MI ML) (a : agr MI MI' (b + 9) (b + 19)) (c : agr ML ML' (b + 9) (b + 19)) : SpcC b N ds MI' ML' := by
  refine ⟨by rw [a (b + 9) (by omega) (by omega)]; exact h.1, h.2.1, fun j q hq => SpcA_fr (h.2.2 j q hq) a c⟩
theorem RulA_fr {rs : List Rl} {r : Nat} {q : Rl} (h : RulA b T n N rs MI r q) (a : agr MI MI' (b + 20) (b + 31)) (c : MI' (b + 41) = MI (b + 41)) (v : MI' b 14 = MI b 14) : RulA b T n N rs MI' r q := by
  unfold RulA at *
  rw [a (b + 21) (by omega) (by omega), a (b + 22) (by omega) (by omega), a (b + 23) (by omega) (by omega), a (b + 24) (by omega) (by omega), a (b + 25) (by omega) (by omega), a (b + 26) (by omega) (by omega), a (b + 27) (by omega) (by omega), a (b + 28) (by omega) (by omega), a (b + 29) (by omega) (by omega), a (b + 30) (by omega) (by omega), a (b + 31) (by omega) (by omega), c, v]
  exact h
theorem RulC_fr {rs : List Rl} (h : RulC b T n N rs MI) (a : agr MI MI' (b + 20) (b + 31)) (c : MI' (b + 41) = MI (b + 41)) (v : MI' b 14 = MI b 14) : RulC b T n N rs MI' := by
  refine ⟨by rw [a (b + 20) (by omega) (by omega)]; exact h.1, h.2.1, by rw [a (b + 20) (by omega) (by omega)]; exact h.2.2.1, h.2.2.2.1, fun r q hq => RulA_fr (h.2.2.2.2 r q hq) a c v⟩
theorem NodC_fr {ns : List Nd} {op : List Int} (h : NodC b N ns op MI) (a : agr MI MI' (b + 32) (b + 42)) (v : MI' b 14 = MI b 14) (v2 : MI' b 15 = MI b 15) (v3 : MI' b 16 = MI b 16) : NodC b N ns op MI' := by
  refine ⟨by rw [v3]; exact h.1, h.2.1, by rw [v2]; exact h.2.2.1, fun k x hx => ?_⟩
  have := h.2.2.2 k x hx
  unfold NodA at *
  rw [a (b + 32) (by omega) (by omega), a (b + 33) (by omega) (by omega), a (b + 34) (by omega) (by omega), a (b + 35) (by omega) (by omega), a (b + 36) (by omega) (by omega), a (b + 37) (by omega) (by omega), a (b + 38) (by omega) (by omega), a (b + 39) (by omega) (by omega), a (b + 40) (by omega) (by omega), a (b + 41) (by omega) (by omega), a (b + 42) (by omega) (by omega), v]
  exact this
theorem DtC_fr {o : Option By} (h : DtC b N o MI) (v : MI' b 17 = MI b 17) : DtC b N o MI' := by
  cases o <;> simp only [DtC] at * <;> rw [v] <;> exact h
theorem DocC_fr {pl : Nat} {D : Dt} {ns : List Nd} {op : List Int} {dp : Int} (h : DocC b T n N pl D ns op dp MI ML) (a : agr MI MI' b (b + 42)) (c : agr ML ML' b (b + 42)) : DocC b T n N pl D ns op dp MI' ML' := by
  have hb := a b (by omega) (by omega)
  have up : ∀ {lo hi : Nat}, b ≤ lo → hi ≤ b + 42 → agr MI MI' lo hi := fun h1 h2 i h3 h4 => a i (by omega) (by omega)
  refine ⟨NamC_fr h.1 (up (by omega) (by omega)), IdxC_fr h.2.1 (up (by omega) (by omega)), SpcC_fr h.2.2.1 (up (by omega) (by omega)) (fun i h1 h2 => c i (by omega) (by omega)), RulC_fr h.2.2.2.1 (up (by omega) (by omega)) (a _ (by omega) (by omega)) (by rw [hb]), NodC_fr h.2.2.2.2.1 (up (by omega) (by omega)) (by rw [hb]) (by rw [hb]) (by rw [hb]), DtC_fr h.2.2.2.2.2.1 (by rw [hb]), ?_, ?_⟩
  · rw [hb]; exact h.2.2.2.2.2.2.1
  · rw [hb]; exact h.2.2.2.2.2.2.2
/-- the ids stay when a NAME comes -/
def extN (N N' : List By) : Prop := ∀ (k : Nat) (x : By), N[k]? = some x → N'[k]? = some x
theorem extN_id {N N' : List By} (h : extN N N') {i : Int} {x : By} (hi : isId N i x) : isId N' i x := ⟨hi.1, h _ _ hi.2⟩
theorem extN_rfl (N : List By) : extN N N := fun _ _ h => h
theorem extN_tr {A B C : List By} (h : extN A B) (k : extN B C) : extN A C := fun i x q => k i x (h i x q)
theorem extN_app (N : List By) (y : By) : extN N (N ++ [y]) := fun k x h => by
  rw [List.getElem?_append_left (List.getElem?_eq_some_iff.mp h).1]; exact h
theorem SpcC_ext {N' : List By} (hx : extN N N') {ds : List Dc} (h : SpcC b N ds MI ML) : SpcC b N' ds MI ML := by
  refine ⟨h.1, h.2.1, fun j q hq => ?_⟩
  obtain ⟨a1, a2, a3, a4, a5, a6, a7, a8, a9⟩ := h.2.2 j q hq
  exact ⟨a1, extN_id hx a2, a3, a4, a5, a6, fun p y hy => ⟨extN_id hx (a7 p y hy).1, (a7 p y hy).2⟩, a8, a9⟩
theorem RulC_ext {N' : List By} (hx : extN N N') {rs : List Rl} (h : RulC b T n N rs MI) : RulC b T n N' rs MI := by
  refine ⟨h.1, h.2.1, h.2.2.1, h.2.2.2.1, fun r q hq => ?_⟩
  obtain ⟨a1, a2, a3⟩ := h.2.2.2.2 r q hq
  exact ⟨extN_id hx a1, extN_id hx a2, a3⟩
theorem NodC_ext {N' : List By} (hx : extN N N') {ns : List Nd} {op : List Int} (h : NodC b N ns op MI) : NodC b N' ns op MI := by
  refine ⟨h.1, h.2.1, h.2.2.1, fun k x hq => ?_⟩
  obtain ⟨a1, a2, a3, a4⟩ := h.2.2.2 k x hq
  exact ⟨a1, a2, a3.imp id (extN_id hx), a4⟩
theorem DtC_ext {N' : List By} (hx : extN N N') {o : Option By} (h : DtC b N o MI) : DtC b N' o MI := by
  cases o <;> simp only [DtC] at *
  · exact h
  · exact extN_id hx h
/-- a NAME is kept -/
theorem c_keep (hbd : b = 38 ∨ b = 81) (hs : slc (MI 1) n (MI 2 3) (MI 2 4) x) (hT1 : ∀ k : Nat, (k : Int) < n → MI 1 k = T k) (hn : n ≤ 6000) (hx0 : x ≠ []) (hN : NamC b T n N MI) (hr : N.length < 2020)
    (hA : ∀ i, isId N i x → Q (some (vI i)) (MI, ML, GR d e nw th 1))
    (hB : x ∉ N → ∀ MI', NamC b T n (N ++ [x]) MI' → (∀ i, ¬ (b + 1 ≤ i ∧ i ≤ b + 8) → MI' i = MI i) → (∀ k, MI' (b + 3) k = if k = N.length then -1 else MI (b + 3) k) → (∀ k, MI' (b + 4) k = if k = N.length then -1 else MI (b + 4) k) →
      Q (some (vI (N.length : Nat))) (MI', ML, GR d e nw th 1)) :
    wp cs mX5_keep KD Q 0 (padL [vR (b + 1), vR 2] 5) [] (KD, MI, ML, GR d e nw th 1) := by
  have hz := hN.1
  refine v_X5_keep_0 hbd (c_find hbd hs hn hn hN (fun i hi => rI_mk ⟨fun q => ?_, fun _ => hA i hi⟩) (fun hxN => rI_mk ⟨fun _ => ⟨fun _ => ?_, fun q => by omega⟩, fun q => absurd rfl q⟩))
  · have := isId_lt hi; omega
  · have hbk := i_and255 (i_xor (bkF x) (i_ushr (bkF x) 8))
    refine c_bucketOf hs hn (rI_mk ⟨by omega, ?_⟩)
    rintro _ rfl _ rfl _ rfl _ rfl
    refine ⟨hbk, ?_⟩
    rintro _ rfl _ rfl
    have e7 : (up2 (up2 (up2 (up2 (up2 (up2 MI (b + 5) (MI (b + 1) 7).toNat (MI 2 3)) (b + 6) (MI (b + 1) 7).toNat (up2 MI (b + 5) (MI (b + 1) 7).toNat (MI 2 3) 2 4)) (b + 3) (MI (b + 1) 7).toNat (-1)) (b + 4) (MI (b + 1) 7).toNat (-1)) (b + 7) (MI (b + 1) 7).toNat (up2 (up2 (up2 (up2 MI (b + 5) (MI (b + 1) 7).toNat (MI 2 3)) (b + 6) (MI (b + 1) 7).toNat (up2 MI (b + 5) (MI (b + 1) 7).toNat (MI 2 3) 2 4)) (b + 3) (MI (b + 1) 7).toNat (-1)) (b + 4) (MI (b + 1) 7).toNat (-1) (b + 8) (bkt x).toNat)) (b + 8) (bkt x).toNat (MI (b + 1) 7)) (b + 1) 7 = MI (b + 1) 7 := by simp [up2]
    refine ⟨by rw [e7]; omega, ?_⟩
    rintro _ rfl
    rw [e7, hz]
    simp only [Int.toNat_natCast]
    have e1 : ∀ k, up2 MI (b + 5) N.length (MI 2 3) 2 k = MI 2 k := fun k => up2_ne (by omega) k
    rw [e1]
    have hb8 : MI (b + 8) (bkt x).toNat = prv N (bkt x) N.length := by
      have := hN.2.2.2.2.1 (bkt x).toNat (by unfold bkt; omega)
      rw [this, show (((bkt x).toNat : Nat) : Int) = bkt x by unfold bkt; omega]
    refine hB hxN _ ⟨?_, ?_, ?_, ?_, ?_, ?_⟩ ?_ ?_ ?_
    · simp [up2]
    · simp only [List.length_append, List.length_singleton]; omega
    · intro k hk; simp [up2]; exact hN.2.2.1 k hk
    · intro k y hy
      by_cases hk : k < N.length
      · rw [List.getElem?_append_left hk] at hy
        obtain ⟨a1, a2, a3⟩ := hN.2.2.2.1 k y hy
        refine ⟨?_, ?_, a3⟩
        · simpa [up2, show k ≠ N.length by omega] using a1
        · rw [prv_app N x _ k (by omega), ← a2]
          simp [up2, show k ≠ N.length by omega]
      · have hk2 := (List.getElem?_eq_some_iff.mp hy).1
        simp only [List.length_append, List.length_singleton] at hk2
        have hk3 : k = N.length := by omega
        subst hk3
        rw [List.getElem?_append_right (Nat.le_refl _)] at hy
        simp at hy
        subst hy
        refine ⟨?_, ?_, hx0⟩
        · simp [up2]
          have hs2 := slc_copy (T' := T) hs (fun k hk => (hT1 k hk).symm)
          exact hs2
        · rw [prv_app N x _ _ (Nat.le_refl _), ← hb8]
          simp [up2]
    · intro q hq
      have hz8 := hN.2.2.2.2.1 q hq
      simp only [List.length_append, List.length_singleton]
      unfold prv
      rw [prv_app N x _ _ (Nat.le_refl _), show (N ++ [x]).getD N.length [] = x by simp]
      by_cases hq2 : q = (bkt x).toNat
      · rw [if_pos (by subst hq2; unfold bkt; omega)]
        subst hq2
        simp [up2]
      · rw [if_neg (by intro h; apply hq2; rw [h]; simp)]
        rw [← hz8]
        simp [up2, hq2]
    · exact List.nodup_append.mpr ⟨hN.2.2.2.2.2, by simp, fun a ha c hc => by simp at hc; subst hc; exact fun q => hxN (q ▸ ha)⟩
    · intro i hi
      funext k
      simp only [up2]
      rw [if_neg (by omega), if_neg (by omega), if_neg (by omega), if_neg (by omega), if_neg (by omega), if_neg (by omega), if_neg (by omega)]
    · intro k; simp [up2]
    · intro k; simp [up2]
end P63
