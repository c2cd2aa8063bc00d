theorem i_and255 (x : Int) : 0 ≤ i_and x 255 ∧ i_and x 255 < 256 := by
  have h1 : (Int32.ofInt x &&& Int32.ofInt 255).toBitVec.toNat ≤ 255 := by
    rw [Int32.toBitVec_and, BitVec.toNat_and]; exact Nat.and_le_right
  show 0 ≤ (Int32.ofInt x &&& Int32.ofInt 255).toBitVec.toInt ∧ (Int32.ofInt x &&& Int32.ofInt 255).toBitVec.toInt < 256
  rw [BitVec.toInt_eq_toNat_of_lt (by omega)]; omega
/-- x stands at f, l bytes long, in the first n of T -/
def slc (T : Nat → Int) (n f l : Int) (x : By) : Prop := 0 ≤ f ∧ l = (x.length : Nat) ∧ f + l ≤ n ∧ ∀ i y, x[i]? = some y → T (f.toNat + i) = y
theorem slc_nb {T : Nat → Int} {n f g : Int} (h0 : 0 ≤ f) (h1 : f ≤ g) (h2 : g ≤ n) : slc T n f (g - f) (nb T f g) := by
  refine ⟨h0, by rw [nb_len]; omega, by omega, fun i y hy => ?_⟩
  by_cases hi : i < (g - f).toNat
  · rw [nb_get hi] at hy; cases hy; rfl
  · rw [List.getElem?_eq_none (by rw [nb_len]; omega)] at hy; cases hy
theorem slc_eq {T T' : Nat → Int} {n n' f l f' : Int} {x y : By} (hx : slc T n f l x) (hy : slc T' n' f' l y) (h : ∀ i : Nat, (i : Int) < l → T (f.toNat + i) = T' (f'.toNat + i)) : x = y := by
  apply List.ext_getElem?
  intro i
  have e1 := hx.2.1
  have e2 := hy.2.1
  by_cases hi : (i : Int) < l
  · have a1 : x[i]? = some x[i] := List.getElem?_eq_getElem (by omega)
    have a2 : y[i]? = some y[i] := List.getElem?_eq_getElem (by omega)
    rw [a1, a2]
    have := h i hi
    rw [hx.2.2.2 i _ a1, hy.2.2.2 i _ a2] at this
    rw [this]
  · rw [List.getElem?_eq_none (by omega), List.getElem?_eq_none (by omega)]
theorem slc_mono {T : Nat → Int} {n n' f l : Int} {x : By} (h : slc T n f l x) (hn : n ≤ n') : slc T n' f l x := ⟨h.1, h.2.1, by have := h.2.2.1; omega, h.2.2.2⟩
theorem slc_at {T : Nat → Int} {n f l : Int} {x : By} (h : slc T n f l x) {i : Nat} (hi : i < x.length) : T (f.toNat + i) = x.getD i 0 := by
  rw [h.2.2.2 i x[i] (List.getElem?_eq_getElem hi), List.getD_eq_getElem?_getD, List.getElem?_eq_getElem hi]; rfl
/-- the hash of a NAME -/
def bkF (x : By) : Int := x.foldl (fun h c => w32 (w32 (h * 31) + c)) 0
def bkt (x : By) : Int := i_and (i_xor (bkF x) (i_ushr (bkF x) 8)) 255
theorem bkF_app (p : By) (c : Int) : bkF (p ++ [c]) = w32 (w32 (bkF p * 31) + c) := by simp [bkF]
section P61
variable {cs : Cs} {Q : Option AV → Mm → Prop} {MI ML : Nat → Nat → Int} {b d e nw th : Nat} {n : Int} {x : By}
theorem c_bucketOf_l (hs : slc (MI 1) n (MI 2 3) (MI 2 4) x) (hn : n ≤ 6000) (hQ : Q (some (vI (bkt x))) (MI, ML, GR d e nw th 1)) : ∀ (r p : By), x = p ++ r →
    wp cs mX5_bucketOf KD Q 4 [some (vR 2), some (vI (bkF p)), some (vI (p.length : Nat))] [] (KD, MI, ML, GR d e nw th 1) := by
  have h0 := hs.1
  have h1 := hs.2.1
  have h2 := hs.2.2.1
  intro r
  induction r with
  | nil =>
    intro p hp
    subst hp
    simp only [List.append_nil] at hs hQ h1
    exact v_X5_bucketOf_4 ⟨fun q => by omega, fun _ => hQ⟩
  | cons c t ih =>
    intro p hp
    have hl : x.length = p.length + (t.length + 1) := by rw [hp]; simp
    have hc := slc_at hs (i := p.length) (by omega)
    rw [show x.getD p.length 0 = c by rw [hp]; simp] at hc
    refine v_X5_bucketOf_4 ⟨fun q => ⟨by omega, by omega, by omega, ?_⟩, fun q => by omega⟩
    have := ih (p ++ [c]) (by rw [hp]; simp)
    rw [bkF_app, List.length_append] at this
    rw [show (MI 2 3 + (p.length : Nat)).toNat = (MI 2 3).toNat + p.length by omega, hc]
    exact this
theorem c_bucketOf (hs : slc (MI 1) n (MI 2 3) (MI 2 4) x) (hn : n ≤ 6000) (hQ : Q (some (vI (bkt x))) (MI, ML, GR d e nw th 1)) :
    wp cs mX5_bucketOf KD Q 0 (padL [vR 2] 3) [] (KD, MI, ML, GR d e nw th 1) :=
  v_X5_bucketOf_0 (c_bucketOf_l hs hn hQ x [] rfl)
/-- an id's NAME, the NAME that the cursor read last -/
theorem c_isThat_l (hbd : b = 38 ∨ b = 81) {y : By} {j : Int} (hj : 0 ≤ j ∧ j < 2020) (hs : slc (MI 1) n (MI 2 3) (MI 2 4) x) (hy : slc (MI (b + 2)) n (MI (b + 5) j.toNat) (MI (b + 6) j.toNat) y) (hn : n ≤ 6000) (hl : MI (b + 6) j.toNat = MI 2 4)
    (hT : y = x → Q (some (vI 1)) (MI, ML, GR d e nw th 1)) (hF : y ≠ x → Q (some (vI 0)) (MI, ML, GR d e nw th 1)) : ∀ (k i : Nat), (i : Int) + k = MI 2 4 → (∀ q : Nat, q < i → MI (b + 2) ((MI (b + 5) j.toNat).toNat + q) = MI 1 ((MI 2 3).toNat + q)) →
    wp cs mX5_isThat KD Q 17 [some (vR (b + 1)), some (vI j), some (vR 2), some (vI (i : Nat))] [] (KD, MI, ML, GR d e nw th 1) := by
  have h0 := hs.1
  have h1 := hs.2.1
  have h2 := hs.2.2.1
  have g0 := hy.1
  have g2 := hy.2.2.1
  intro k
  induction k with
  | zero =>
    intro i hi hq
    refine v_X5_isThat_17 hbd ⟨hj, fun q => by omega, fun _ => hT ?_⟩
    rw [hl] at hy
    exact slc_eq hy hs (fun q hq' => hq q (by omega))
  | succ k ih =>
    intro i hi hq
    refine v_X5_isThat_17 hbd ⟨hj, fun q => ⟨by omega, by omega, by omega, by omega, fun he => ⟨by omega, ?_⟩, fun he => hF ?_⟩, fun q => by omega⟩
    · rw [show ((i : Int) + 1) = ((i + 1 : Nat) : Int) by omega]
      refine ih (i + 1) (by omega) (fun q hq' => ?_)
      by_cases hqi : q < i
      · exact hq q hqi
      · rw [show q = i by omega]
        rw [show (MI (b + 5) j.toNat).toNat + i = (MI (b + 5) j.toNat + (i : Int)).toNat by omega, show (MI 2 3).toNat + i = (MI 2 3 + (i : Int)).toNat by omega]
        exact he
    · intro hxy
      subst hxy
      rw [hl] at hy
      have hiy : i < y.length := by omega
      apply he
      rw [show (MI (b + 5) j.toNat + (i : Int)).toNat = (MI (b + 5) j.toNat).toNat + i by omega, show (MI 2 3 + (i : Int)).toNat = (MI 2 3).toNat + i by omega]
      rw [slc_at hy hiy, slc_at hs hiy]
theorem c_isThat (hbd : b = 38 ∨ b = 81) {y : By} {j : Int} (hj : 0 ≤ j ∧ j < 2020) (hs : slc (MI 1) n (MI 2 3) (MI 2 4) x) (hy : slc (MI (b + 2)) n (MI (b + 5) j.toNat) (MI (b + 6) j.toNat) y) (hn : n ≤ 6000)
    (hT : y = x → Q (some (vI 1)) (MI, ML, GR d e nw th 1)) (hF : y ≠ x → Q (some (vI 0)) (MI, ML, GR d e nw th 1)) :
    wp cs mX5_isThat KD Q 0 (padL [vR (b + 1), vI j, vR 2] 4) [] (KD, MI, ML, GR d e nw th 1) := by
  have h1 := hs.2.1
  refine v_X5_isThat_0 hbd ⟨hj, fun q => ?_, fun q => hF ?_⟩
  · exact c_isThat_l hbd hj hs hy hn q hT hF x.length 0 (by omega) (fun q hq => by omega)
  · intro hxy
    subst hxy
    exact q (hy.2.1.trans hs.2.1.symm)
/-- the latest id ahead of k whose NAME has the hash q -/
def prv (N : List By) (q : Int) : Nat → Int
  | 0 => -1
  | k + 1 => if bkt (N.getD k []) = q then (k : Int) else prv N q k
theorem prv_lt (N : List By) (q : Int) : ∀ k, -1 ≤ prv N q k ∧ prv N q k < k
  | 0 => by simp [prv]
  | k + 1 => by have := prv_lt N q k; unfold prv; split <;> omega
theorem prv_app (N : List By) (y : By) (q : Int) : ∀ k, k ≤ N.length → prv (N ++ [y]) q k = prv N q k
  | 0, _ => rfl
  | k + 1, h => by
    unfold prv
    rw [prv_app N y q k (by omega), show (N ++ [y]).getD k [] = N.getD k [] by simp [List.getD_eq_getElem?_getD, List.getElem?_append_left (show k < N.length by omega)]]
theorem prv_at {N : List By} {q : Int} : ∀ {k : Nat}, prv N q k ≠ -1 → bkt (N.getD (prv N q k).toNat []) = q ∧ ∀ j, (prv N q k).toNat < j → j < k → bkt (N.getD j []) ≠ q
  | 0, h => by simp [prv] at h
  | k + 1, h => by
    unfold prv at h ⊢
    split
    · next hk => exact ⟨by simpa using hk, fun j h1 h2 => by omega⟩
    · next hk =>
      rw [if_neg hk] at h
      obtain ⟨a, c⟩ := prv_at h
      refine ⟨a, fun j h1 h2 => ?_⟩
      by_cases hj : j = k
      · subst hj; exact hk
      · exact c j h1 (by omega)
theorem prv_none {N : List By} {q : Int} : ∀ {k : Nat}, prv N q k = -1 → ∀ j, j < k → bkt (N.getD j []) ≠ q
  | 0, _, j, hj => by omega
  | k + 1, h, j, hj => by
    unfold prv at h
    split at h
    · omega
    · next hk =>
      by_cases hjk : j = k
      · subst hjk; exact hk
      · exact prv_none h j (by omega)
/-- the class's NAMES: N by number -/
def NamC (b : Nat) (T : Nat → Int) (n : Int) (N : List By) (MI : Nat → Nat → Int) : Prop :=
  MI (b + 1) 7 = (N.length : Nat) ∧ N.length ≤ 2020 ∧ (∀ k : Nat, (k : Int) < n → MI (b + 2) k = T k) ∧
  (∀ (k : Nat) (x : By), N[k]? = some x → slc T n (MI (b + 5) k) (MI (b + 6) k) x ∧ MI (b + 7) k = prv N (bkt x) k ∧ x ≠ []) ∧
  (∀ q : Nat, q < 256 → MI (b + 8) q = prv N (q : Int) N.length) ∧ N.Nodup
def isId (N : List By) (i : Int) (x : By) : Prop := 0 ≤ i ∧ N[i.toNat]? = some x
theorem isId_app {N : List By} {i : Int} {x y : By} (h : isId N i x) : isId (N ++ [y]) i x := by
  refine ⟨h.1, ?_⟩
  have := List.getElem?_eq_some_iff.mp h.2
  rw [List.getElem?_append_left this.1]; exact h.2
theorem isId_eq {N : List By} {i j : Int} {x y : By} (hN : N.Nodup) (hx : isId N i x) (hy : isId N j y) : i = j ↔ x = y := by
  constructor
  · intro h; subst h; have := hx.2.symm.trans hy.2; cases this; rfl
  · intro h
    subst h
    have a := (List.getElem?_eq_some_iff.mp hx.2).1
    have := (List.getElem?_inj a hN).mp (hx.2.trans hy.2.symm)
    have h1 := hx.1
    have h2 := hy.1
    omega
theorem isId_lt {N : List By} {i : Int} {x : By} (h : isId N i x) : 0 ≤ i ∧ i < (N.length : Nat) := by
  have := (List.getElem?_eq_some_iff.mp h.2).1
  have h1 := h.1
  omega
theorem slc_copy {T T' : Nat → Int} {n f l : Int} {x : By} (h : slc T n f l x) (hT : ∀ k : Nat, (k : Int) < n → T' k = T k) : slc T' n f l x := by
  refine ⟨h.1, h.2.1, h.2.2.1, fun i y hy => ?_⟩
  have hi := (List.getElem?_eq_some_iff.mp hy).1
  have h0 := h.1
  have h1 := h.2.1
  have h2 := h.2.2.1
  rw [hT _ (by omega)]
  exact h.2.2.2 i y hy
theorem c_find_l (hbd : b = 38 ∨ b = 81) {m : Int} {T : Nat → Int} {N : List By} (hs : slc (MI 1) m (MI 2 3) (MI 2 4) x) (hm : m ≤ 6000) (hn : n ≤ 6000) (hN : NamC b T n N MI)
    (hT : ∀ i, isId N i x → Q (some (vI i)) (MI, ML, GR d e nw th 1)) (hF : x ∉ N → Q (some (vI (-1))) (MI, ML, GR d e nw th 1)) : ∀ (k : Nat) (t : Nat), k ≤ N.length → t + k ≤ N.length → (∀ j, k ≤ j → N[j]? ≠ some x) →
    wp cs mX5_find KD Q 12 [some (vR (b + 1)), some (vR 2), some (vI (prv N (bkt x) k)), some (vI (t : Nat))] [] (KD, MI, ML, GR d e nw th 1) := by
  intro k
  induction k using Nat.strongRecOn with
  | _ k ih =>
    intro t hk ht hno
    have hp := prv_lt N (bkt x) k
    by_cases he : prv N (bkt x) k = -1
    · have hx : x ∉ N := by
        intro hx
        obtain ⟨j, hj1, hj2⟩ := List.getElem_of_mem hx
        by_cases hjk : k ≤ j
        · exact hno j hjk (List.getElem?_eq_some_iff.mpr ⟨hj1, hj2⟩)
        · refine prv_none he j (by omega) ?_
          rw [List.getD_eq_getElem?_getD, List.getElem?_eq_getElem hj1, hj2]; rfl
      rw [he]
      exact v_X5_find_12 hbd ⟨fun _ => ⟨fun _ => hF hx, fun q => absurd rfl q⟩, fun _ => hF hx⟩
    · have hlt : (prv N (bkt x) k).toNat < N.length := by omega
      obtain ⟨y, hy⟩ : ∃ y, N[(prv N (bkt x) k).toNat]? = some y := ⟨_, List.getElem?_eq_getElem hlt⟩
      obtain ⟨a1, a2, a3⟩ := hN.2.2.2.1 _ y hy
      obtain ⟨p1, p2⟩ := prv_at he
      rw [List.getD_eq_getElem?_getD, hy] at p1
      simp only [Option.getD_some] at p1
      have hz := hN.1
      have hz2 := hN.2.1
      refine v_X5_find_12 hbd ⟨fun _ => ⟨fun q => absurd q he, fun _ => ?_⟩, fun q => by omega⟩
      refine c_isThat hbd (n := 6000) (by omega) (slc_mono hs hm) (slc_mono (slc_copy a1 hN.2.2.1) hn) (Int.le_refl _) (fun hxy => rI_mk ⟨fun q => absurd q (by decide), fun _ => ?_⟩) (fun hxy => rI_mk ⟨fun _ => ⟨by omega, by omega, ?_⟩, fun q => absurd rfl q⟩)
      · subst hxy
        exact hT _ ⟨by omega, hy⟩
      · rw [a2, p1, show ((t : Int) + 1) = ((t + 1 : Nat) : Int) by omega]
        refine ih _ (by omega) (t + 1) (by omega) (by omega) (fun j hj => ?_)
        by_cases hjk : k ≤ j
        · exact hno j hjk
        · by_cases hje : j = (prv N (bkt x) k).toNat
          · subst hje; rw [hy]; intro q; cases q; exact hxy rfl
          · intro q
            refine p2 j (by omega) (by omega) ?_
            rw [List.getD_eq_getElem?_getD, q]; rfl
theorem c_find (hbd : b = 38 ∨ b = 81) {m : Int} {T : Nat → Int} {N : List By} (hs : slc (MI 1) m (MI 2 3) (MI 2 4) x) (hm : m ≤ 6000) (hn : n ≤ 6000) (hN : NamC b T n N MI)
    (hT : ∀ i, isId N i x → Q (some (vI i)) (MI, ML, GR d e nw th 1)) (hF : x ∉ N → Q (some (vI (-1))) (MI, ML, GR d e nw th 1)) :
    wp cs mX5_find KD Q 0 (padL [vR (b + 1), vR 2] 4) [] (KD, MI, ML, GR d e nw th 1) := by
  refine v_X5_find_0 hbd (c_bucketOf hs hm (rI_mk ⟨i_and255 _, ?_⟩))
  have h1 := i_and255 (i_xor (bkF x) (i_ushr (bkF x) 8))
  have e1 : MI (b + 8) (bkt x).toNat = prv N (bkt x) N.length := by
    rw [hN.2.2.2.2.1 (bkt x).toNat (by unfold bkt; omega), show (((bkt x).toNat : Nat) : Int) = bkt x by unfold bkt; omega]
  rw [e1]
  exact c_find_l hbd hs hm hn hN hT hF N.length 0 (Nat.le_refl _) (by omega) (fun j hj q => by rw [List.getElem?_eq_none hj] at q; cases q)
end P61
