/-! THE MODEL of a judgement: a pure function of a DOCUMENT. -/
abbrev Fi : Type := List (Int × Int)
/-- two places of a set have the same NAME -/
def dblS (l : List By) (set : Int) : Bool := (List.range l.length).any fun p => bv set p && (List.range p).any fun k => bv set k && decide (l[k]? = l[p]?)
def jdS (ds : List Dc) (k : Nat) (q : Dc) : Fi := (if fIdx (clN q.1) ds 0 ≠ (k : Int) then [(1, (k : Int))] else []) ++ ((if q.2.1 = 3 ∧ (dblS q.2.2.2.1 q.2.2.2.2.2.1 = true ∨ ∃ f ∈ q.2.2.2.2.1, dblS q.2.2.2.1 f = true) then [(2, (k : Int))] else []) ++ (if q.2.1 = 2 ∧ dblS q.2.2.2.1 (-1) = true then [(3, (k : Int))] else []))
/-- bytes that are a NAME -/
def isNmB (v : By) : Bool := decide (0 < v.length ∧ v.length ≤ 20 ∧ isNs (v.headD 0)) && v.all fun c => decide (isNb c)
/-- a value of a RULE's type -/
def ofT (q : Rl) (v : By) : Bool := if q.2.2.1 = 0 then true else if q.2.2.1 = 1 then isNmB v else decide (v ∈ q.2.2.2.1)
def erI (rs : List Rl) (r : Nat) (o : By) : Bool := (rs.take r).any fun x => decide (x.2.2.1 = 1) && decide (x.1 = o)
def jrS (rs : List Rl) (r : Nat) (q : Rl) : Fi := (if q.2.2.1 = 1 ∧ (2 ≤ q.2.2.2.2.1 ∨ erI rs r q.1 = true) then [(4, (r : Int))] else []) ++ (if 2 ≤ q.2.2.2.2.1 ∧ ofT q q.2.2.2.2.2 = false then [(5, (r : Int))] else [])
/-- m RULES from r on -/
def jrR (rs : List Rl) : Nat → Nat → Fi
  | 0, _ => []
  | m + 1, r => (match rs[r]? with | some q => jrS rs r q | none => []) ++ jrR rs m (r + 1)
def jdF (ds0 : List Dc) (rs : List Rl) : List Dc → Nat → Nat → Fi
  | [], _, r => jrR rs (rs.length - r) r
  | q :: t, j, r => jrR rs (q.2.2.1 - r) r ++ (jdS ds0 j q ++ jdF ds0 rs t (j + 1) (if r < q.2.2.1 then q.2.2.1 else r))
/-- what is right in an ELEMENT, attributes aside -/
def chN (ns : List Nd) (e : Int) : List Nd := ns.filter fun y => !decide (y.1 = 2) && decide (y.2.1 = e)
def bhF (now : Int) : List Int → Nat → Int → Int
  | [], _, a => a
  | f :: t, k, a => bhF now t (k + 1) (if bv now k = true then l_or a f else a)
def fitF (ds : List Dc) (q : Dc) : List Nd → Int → Bool → Bool
  | [], _, dn => decide (q.2.1 ≠ 3) || dn
  | y :: t, nx, dn => if q.2.1 = 0 then false
    else if y.1 = 1 then (if q.2.1 = 3 then (if l_and (nmd q.2.2.2.1 y.2.2.1) nx = 0 then false else fitF ds q t (bhF (l_and (nmd q.2.2.2.1 y.2.2.1) nx) q.2.2.2.2.1 0 0) (decide (l_and (l_and (nmd q.2.2.2.1 y.2.2.1) nx) q.2.2.2.2.2.2.1 ≠ 0)))
      else if q.2.1 = 1 then (if fIdx (clN y.2.2.1) ds 0 = -1 then false else fitF ds q t nx dn)
      else (if nmd q.2.2.2.1 y.2.2.1 = 0 then false else fitF ds q t nx dn))
    else (if q.2.1 = 3 ∧ y.2.2.2.2.2 = 1 then false else fitF ds q t nx dn)
def fitS (ds : List Dc) (ns : List Nd) (e : Int) (q : Dc) : Bool := fitF ds q (chN ns e) q.2.2.2.2.2.1 (decide (q.2.2.2.2.2.2.2 ≠ 0))
def dcA (ds : List Dc) (d : Int) : Dc := ds.getD d.toNat ([], 0, 0, [], [], 0, 0, 0)
def rlA (rs : List Rl) (r : Int) : Rl := rs.getD r.toNat ([], [], 0, [], 0, [])
def nmA (ns : List Nd) (e : Int) : By := (ns.getD e.toNat (0, 0, [], [], 0, 0)).2.2.1
/-- an attribute that stands, of type ID -/
def idA (rs : List Rl) (ns : List Nd) (y : Nd) : Bool := decide (y.1 = 2 ∧ y.2.2.2.2.1 = 0 ∧ ruI rs (nmA ns y.2.1) y.2.2.1 ≠ -1 ∧ (rlA rs (ruI rs (nmA ns y.2.1) y.2.2.1)).2.2.1 = 1)
def takS (rs : List Rl) (ns : List Nd) (a : Nat) (v : By) : Bool := (ns.take a).any fun y => idA rs ns y && decide (y.2.2.2.1 = v)
def jaS (rs : List Rl) (ns : List Nd) (o : By) (a : Nat) (y : Nd) : Fi := if ruI rs o y.2.2.1 = -1 then [(9, (a : Int))]
  else if ofT (rlA rs (ruI rs o y.2.2.1)) y.2.2.2.1 = false ∨ ((rlA rs (ruI rs o y.2.2.1)).2.2.2.2.1 = 2 ∧ (rlA rs (ruI rs o y.2.2.1)).2.2.2.2.2 ≠ y.2.2.2.1) then [(10, (a : Int))]
  else if (rlA rs (ruI rs o y.2.2.1)).2.2.1 = 1 ∧ takS rs ns a y.2.2.2.1 = true then [(11, (a : Int))] else []
def jasF (rs : List Rl) (ns : List Nd) (o : By) : List Nd → Nat → Fi
  | [], _ => []
  | y :: t, a => (if y.2.2.2.2.1 = 0 then jaS rs ns o a y else []) ++ jasF rs ns o t (a + 1)
def jqF (ns : List Nd) (e : Nat) (o : By) : List Rl → Fi
  | [] => []
  | q :: t => (if q.1 = o ∧ q.2.2.2.2.1 = 1 ∧ hasA ns (e : Int) q.2.1 = false then [(12, (e : Int))] else []) ++ jqF ns e o t
def jeS (ds : List Dc) (rs : List Rl) (ns : List Nd) (e : Nat) (y : Nd) : Fi :=
  (if fIdx (clN y.2.2.1) ds 0 = -1 then [(7, (e : Int))] else if fitS ds ns (e : Int) (dcA ds (fIdx (clN y.2.2.1) ds 0)) = false then [(8, (e : Int))] else []) ++
  (jasF rs ns y.2.2.1 ((ns.drop (e + 1)).take (cntA ns (e : Int))) (e + 1) ++ jqF ns e y.2.2.1 rs)
def jnF (ds : List Dc) (rs : List Rl) (ns : List Nd) : List Nd → Nat → Fi
  | [], _ => []
  | y :: t, e => (if y.1 = 1 then jeS ds rs ns e y else []) ++ jnF ds rs ns t (e + 1)
def judgeS (D : Dm) : Fi := match D.1.1 with
  | none => []
  | some o => jdF D.1.2.1 D.1.2.2 D.1.2.1 0 0 ++ ((if nmA D.2.1 1 ≠ o then [(6, 1)] else []) ++ jnF D.1.2.1 D.1.2.2 D.2.1 D.2.1 0)
theorem nmdF_bv (x : By) : ∀ (l : List By) (k : Nat) (a : Int) (i : Nat), k + l.length ≤ 64 → i < 64 → bv (nmdF x l k a) i = (bv a i || decide (k ≤ i ∧ l[i - k]? = some x))
  | [], k, a, i, _, _ => by simp [nmdF]
  | y :: t, k, a, i, hk, hi => by
    simp only [List.length_cons] at hk
    rw [nmdF, nmdF_bv x t (k + 1) _ i (by omega) hi]
    by_cases hik : i = k
    · subst hik
      have h1 : decide (i + 1 ≤ i ∧ t[i - (i + 1)]? = some x) = false := decide_eq_false (fun z => by omega)
      rw [h1, Nat.sub_self, List.getElem?_cons_zero]
      by_cases hy : y = x
      · rw [if_pos hy, bv_or, bv_shl (by omega) hi]; simp [hy]
      · rw [if_neg hy]; simp [hy]
    · have h2 : bv (if y = x then l_or a (l_shl 1 (k : Int)) else a) i = bv a i := by
        split
        · rw [bv_or, bv_shl (by omega) hi, decide_eq_false hik, Bool.or_false]
        · rfl
      rw [h2]
      congr 1
      apply decide_eq_decide.mpr
      constructor
      · rintro ⟨z1, z2⟩
        refine ⟨by omega, ?_⟩
        rw [show i - k = (i - (k + 1)) + 1 by omega, List.getElem?_cons_succ]; exact z2
      · rintro ⟨z1, z2⟩
        rw [show i - k = (i - (k + 1)) + 1 by omega, List.getElem?_cons_succ] at z2
        exact ⟨by omega, z2⟩
theorem nmd_bv {x : By} {l : List By} {i : Nat} (hl : l.length ≤ 64) (hi : i < 64) : bv (nmd l x) i = decide (l[i]? = some x) := by
  unfold nmd
  rw [nmdF_bv x l 0 0 i (by omega) hi, bv_0, Bool.false_or]
  apply decide_eq_decide.mpr
  simp
theorem nmdF_ok (x : By) : ∀ (l : List By) (k : Nat) (a : Int), (-9223372036854775808 ≤ a ∧ a < 9223372036854775808) → (-9223372036854775808 ≤ nmdF x l k a ∧ nmdF x l k a < 9223372036854775808)
  | [], k, a, h => h
  | y :: t, k, a, h => by
    rw [nmdF]
    refine nmdF_ok x t (k + 1) _ ?_
    split
    · exact l_or_ok _ _
    · exact h
theorem nmd_ok (l : List By) (x : By) : -9223372036854775808 ≤ nmd l x ∧ nmd l x < 9223372036854775808 := nmdF_ok x l 0 0 (by omega)
theorem bv_ne0 {z : Int} (hz : -9223372036854775808 ≤ z ∧ z < 9223372036854775808) : z ≠ 0 ↔ ∃ k, k < 64 ∧ bv z k = true := by
  constructor
  · intro h
    refine Decidable.byContradiction fun w => h (bv_ext hz (by omega) (fun k hk => ?_))
    rw [bv_0]
    cases hb : bv z k with
    | false => rfl
    | true => exact absurd ⟨k, hk, hb⟩ w
  · rintro ⟨k, hk, hb⟩ rfl
    rw [bv_0] at hb; cases hb
/-- the class's twins -/
theorem twin_ne0 {l : List By} {set : Int} {p : Nat} {y : By} (hl : l.length ≤ 40) (hy : l[p]? = some y) : l_and set (l_and (nmd (l.take p) y) (-1)) ≠ 0 ↔ ((List.range p).any fun k => bv set k && decide (l[k]? = l[p]?)) = true := by
  have hp := (List.getElem?_eq_some_iff.mp hy).1
  rw [l_and_m1 (nmd_ok _ _), bv_ne0 (l_and_ok _ _), List.any_eq_true]
  constructor
  · rintro ⟨k, hk, hb⟩
    rw [bv_and, nmd_bv (by rw [List.length_take]; omega) hk, Bool.and_eq_true] at hb
    have h2 := of_decide_eq_true hb.2
    rw [List.getElem?_take] at h2
    split at h2
    · refine ⟨k, by rw [List.mem_range]; omega, ?_⟩
      rw [hb.1, h2, hy]; simp
    · cases h2
  · rintro ⟨k, hk, hb⟩
    rw [List.mem_range] at hk
    rw [Bool.and_eq_true] at hb
    have h2 := of_decide_eq_true hb.2
    refine ⟨k, by omega, ?_⟩
    rw [bv_and, nmd_bv (by rw [List.length_take]; omega) (by omega), hb.1, List.getElem?_take, if_pos hk, h2, hy]; simp
