/-! THE MODEL of a reading: a pure function of the text. Names are rows of bytes. -/
abbrev By : Type := List Int
/-- a NODE: kind, the one in which it is, NAME, own bytes, by default, solid -/
abbrev Nd : Type := Int × Int × By × By × Int × Int
/-- an <!ELEMENT: NAME, kind of SPEC, RULES ahead, its places' NAMES, their followers, first, last, may be none -/
abbrev Dc : Type := By × Int × Nat × List By × List Int × Int × Int × Int
/-- a RULE: of, attribute, type, tokens, how (0 implied, 1 required, 2 fixed, 3 plain), value -/
abbrev Rl : Type := By × By × Int × List By × Int × By
/-- declarations: doctype's NAME, <!ELEMENTs, RULES -/
abbrev Dt : Type := Option By × List Dc × List Rl
/-- the tree so far: NODES, those that are open (the innermost first), deepest -/
abbrev Tr : Type := List Nd × List Int × Int
def pb {α β : Type} (x : PR α) (f : α → PR β) : PR β := match x with
  | .inl e => .inl e
  | .inr a => f a
theorem pb_r {α β : Type} {a : α} {f : α → PR β} : pb (.inr a) f = f a := rfl
theorem pb_l {α β : Type} {e : Int × Int} {f : α → PR β} : pb (.inl e) f = .inl e := rfl
theorem pb_inr {α β : Type} {x : PR α} {f : α → PR β} {y : β} (h : pb x f = .inr y) : ∃ a, x = .inr a ∧ f a = .inr y := by
  rcases x with e | a
  · cases h
  · exact ⟨a, rfl, h⟩
/-- the bytes from f up to g -/
def nb (T : Nat → Int) (f g : Int) : By := (List.range (g - f).toNat).map (fun i => T (f.toNat + i))
theorem nb_len {T : Nat → Int} {f g : Int} : (nb T f g).length = (g - f).toNat := by simp [nb]
theorem nb_get {T : Nat → Int} {f g : Int} {i : Nat} (h : i < (g - f).toNat) : (nb T f g)[i]? = some (T (f.toNat + i)) := by
  simp [nb, h]
/-- S must stand; a byte must stand -/
def msS (T : Nat → Int) (n h : Int) : PR Int := if isSp (ob T n h) then .inr (sk T n h) else .inl (-1, h)
def mbS (T : Nat → Int) (n h c : Int) : PR Int := if ob T n h = c then .inr (h + 1) else .inl (-1, h)
/-- TOKENS: c are there, k more turns -/
def tkF (T : Nat → Int) (n : Int) : Nat → Int → List By → PR (List By × Int)
  | 0, h, _ => .inl (-1, h)
  | k + 1, h, l => pb (tokS T n (sk T n h)) fun g => if 8 ≤ l.length then .inl (-3, sk T n h)
      else if ob T n (sk T n g) = 124 then tkF T n k (sk T n g + 1) (l ++ [nb T (sk T n h) g])
      else pb (mbS T n (sk T n g) 41) fun y => .inr (l ++ [nb T (sk T n h) g], y)
/-- a TYPE behind S: type, tokens, behind it -/
def tyS (T : Nat → Int) (n h : Int) : PR (Int × List By × Int) := pb (msS T n h) fun g =>
  if stb T n g [67, 68, 65, 84, 65] = true then .inr (0, [], g + 5)
  else if stb T n g [73, 68] = true then .inr (1, [], g + 2)
  else pb (mbS T n g 40) fun y => pb (tkF T n 9 y []) fun q => .inr (2, q.1, q.2)
/-- a DEFAULT behind S, r bytes more may be kept: how, value, behind it -/
def dfS (T : Nat → Int) (n : Int) (r : Nat) (h : Int) : PR (Int × By × Int) := pb (msS T n h) fun g =>
  if stb T n g [35, 82, 69, 81, 85, 73, 82, 69, 68] = true then .inr (1, [], g + 9)
  else if stb T n g [35, 73, 77, 80, 76, 73, 69, 68] = true then .inr (0, [], g + 8)
  else if stb T n g [35, 70, 73, 88, 69, 68] = true then pb (msS T n (g + 6)) fun y => pb (vlS T n r y) fun q => .inr (2, q.1, q.2)
  else pb (vlS T n r g) fun q => .inr (3, q.1, q.2)
def hasR (rs : List Rl) (o a : By) : Bool := rs.any fun x => decide (x.1 = o) && decide (x.2.1 = a)
def cntO (rs : List Rl) (o : By) : Nat := (rs.filter fun x => decide (x.1 = o)).length
/-- a RULE at its NAME: kept bytes, RULES, behind it -/
def ruS (T : Nat → Int) (n : Int) (pl : Nat) (rs : List Rl) (o : By) (h : Int) : PR (Nat × List Rl × Int) := pb (nmS T n h) fun g =>
  if hasR rs o (nb T h g) = false ∧ 10 ≤ cntO rs o then .inl (-3, h)
  else pb (tyS T n g) fun q => pb (dfS T n (2000 - pl) q.2.2) fun z =>
    .inr (pl + z.2.1.length, if hasR rs o (nb T h g) = true then rs else rs ++ [(o, nb T h g, q.1, q.2.1, z.1, z.2.1)], z.2.2)
def rusF (T : Nat → Int) (n : Int) (o : By) : Nat → Nat → List Rl → Int → PR (Nat × List Rl × Int)
  | 0, _, _, h => .inl (-1, h)
  | k + 1, pl, rs, h => if h < sk T n h ∧ isNs (ob T n (sk T n h)) then pb (ruS T n pl rs o (sk T n h)) fun q => rusF T n o k q.1 q.2.1 q.2.2
      else pb (mbS T n (sk T n h) 62) fun y => .inr (pl, rs, y)
/-- what stands behind <!ATTLIST -/
def alS (T : Nat → Int) (n : Int) (pl : Nat) (rs : List Rl) (h : Int) : PR (Nat × List Rl × Int) := pb (msS T n h) fun g => pb (nmS T n g) fun y =>
  rusF T n (nb T g y) (n + 1).toNat pl rs y
/-- a bit of a set of places -/
def bt (x : Int) (k : Nat) : Bool := decide (l_and (l_shr x (k : Int)) 1 = 1)
def lkL (fo : List Int) (a z : Int) : List Int := fo.mapIdx fun k y => if bt a k = true then l_or y z else y
/-- a SPEC's places with their followers; a GROUP that is open: sign, begun, none, first, last; a PART: none, first, last -/
abbrev Pl : Type := List By × List Int
abbrev Gp : Type := Int × Bool × Int × Int × Int
abbrev Pt : Type := Int × Int × Int
/-- ?, * or + behind a PART -/
def mkS (T : Nat → Int) (n h : Int) (p : Pl) (q : Pt) : Pl × Pt × Int :=
  if ob T n h = 63 then (p, (1, q.2), h + 1)
  else if ob T n h = 42 then ((p.1, lkL p.2 q.2.2 q.2.1), (1, q.2), h + 1)
  else if ob T n h = 43 then ((p.1, lkL p.2 q.2.2 q.2.1), q, h + 1)
  else (p, q, h)
/-- a PART comes to a GROUP -/
def cmG (p : Pl) (q : Pt) (g : Gp) : Pl × Gp :=
  if g.2.1 = false then (p, (g.1, true, q.1, q.2.1, q.2.2))
  else if g.1 = 124 then (p, (g.1, true, (if g.2.2.1 = 0 ∧ q.1 = 0 then 0 else 1), l_or g.2.2.2.1 q.2.1, l_or g.2.2.2.2 q.2.2))
  else ((p.1, lkL p.2 g.2.2.2.2 q.2.1), (g.1, true, (if g.2.2.1 = 0 ∨ q.1 = 0 then 0 else 1), (if g.2.2.1 = 0 then g.2.2.2.1 else l_or g.2.2.2.1 q.2.1), if q.1 = 0 then q.2.2 else l_or g.2.2.2.2 q.2.2))
/-- a NAME of a SPEC -/
def plS (T : Nat → Int) (n : Int) (p : Pl) (h : Int) : PR (Pl × Int) := pb (nmS T n h) fun g => if 40 ≤ p.1.length then .inl (-3, h) else .inr ((p.1 ++ [nb T h g], p.2 ++ [0]), g)
/-- a GROUP's rest; w: a PART is wanted; the open GROUPS, the innermost first -/
def grF (T : Nat → Int) (n : Int) : Nat → Bool → Pl → List Gp → Int → PR (Pl × Pt × Int)
  | 0, _, _, _, h => .inl (-1, h)
  | _ + 1, _, _, [], h => .inl (-1, h)
  | k + 1, true, p, g :: gs, h =>
    if ob T n (sk T n h) = 40 then (if 6 ≤ (g :: gs).length then .inl (-3, sk T n h) else grF T n k true p ((0, false, 0, 0, 0) :: g :: gs) (sk T n h + 1))
    else pb (plS T n p (sk T n h)) fun q =>
      let z := mkS T n q.2 q.1 (0, l_shl 1 (p.1.length : Nat), l_shl 1 (p.1.length : Nat))
      let c := cmG z.1 z.2.1 g
      grF T n k false c.1 (c.2 :: gs) z.2.2
  | k + 1, false, p, g :: gs, h =>
    if ob T n (sk T n h) = 41 then
      let z := mkS T n (sk T n h + 1) p g.2.2
      (match gs with
      | [] => .inr z
      | g' :: t => let c := cmG z.1 z.2.1 g'; grF T n k false c.1 (c.2 :: t) z.2.2)
    else if (ob T n (sk T n h) = 124 ∨ ob T n (sk T n h) = 44) ∧ (g.1 = 0 ∨ g.1 = ob T n (sk T n h)) then grF T n k true p ((ob T n (sk T n h), g.2) :: gs) (sk T n h + 1)
    else .inl (-1, sk T n h)
/-- what stands behind #PCDATA (and S) -/
def mxF (T : Nat → Int) (n : Int) : Nat → Pl → Int → PR (Pl × Int)
  | 0, _, h => .inl (-1, h)
  | k + 1, p, h => if ob T n h = 124 then pb (plS T n p (sk T n (h + 1))) fun q => mxF T n k q.1 (sk T n q.2)
      else pb (mbS T n h 41) fun y => if ob T n y = 42 then .inr (p, y + 1) else if p.1 = [] then .inr (p, y) else .inl (-1, y)
/-- a SPEC: kind, places, first, last, none -/
def spS (T : Nat → Int) (n h : Int) : PR ((Int × Pl × Pt) × Int) :=
  if stb T n h [69, 77, 80, 84, 89] = true then .inr ((0, ([], []), (0, 0, 0)), h + 5)
  else if stb T n h [65, 78, 89] = true then .inr ((1, ([], []), (0, 0, 0)), h + 3)
  else pb (mbS T n h 40) fun g => if stb T n (sk T n g) [35, 80, 67, 68, 65, 84, 65] = true then pb (mxF T n (n + 1).toNat ([], []) (sk T n (sk T n g + 7))) fun q => .inr ((2, q.1, (0, 0, 0)), q.2)
    else pb (grF T n (n + 1).toNat true ([], []) [(0, false, 0, 0, 0)] (sk T n g)) fun q => .inr ((3, q.1, q.2.1), q.2.2)
/-- <!ELEMENT at h -/
def deS (T : Nat → Int) (n : Int) (ds : List Dc) (nr : Nat) (h : Int) : PR (List Dc × Int) :=
  if 30 ≤ ds.length then .inl (-3, h) else pb (msS T n (h + 9)) fun g => pb (nmS T n g) fun y => pb (msS T n y) fun z => pb (spS T n z) fun q =>
    pb (mbS T n (sk T n q.2) 62) fun w => .inr (ds ++ [(nb T g y, q.1.1, nr, q.1.2.1.1, q.1.2.1.2, q.1.2.2.2.1, q.1.2.2.2.2, q.1.2.2.1)], w)
/-- the declarations, up to ] -/
def dcF (T : Nat → Int) (n : Int) : Nat → Nat → List Dc → List Rl → Int → PR (Nat × List Dc × List Rl × Int)
  | 0, _, _, _, h => .inl (-1, h)
  | k + 1, pl, ds, rs, h => if ob T n h = 93 then .inr (pl, ds, rs, h + 1)
      else if stb T n h [60, 33, 69, 76, 69, 77, 69, 78, 84] = true then pb (deS T n ds rs.length h) fun q => pb (mcS T n q.2) fun y => dcF T n k pl q.1 rs y
      else if stb T n h [60, 33, 65, 84, 84, 76, 73, 83, 84] = true then pb (alS T n pl rs (h + 9)) fun q => pb (mcS T n q.2.2) fun y => dcF T n k q.1 ds q.2.1 y
      else .inl (-1, h)
/-- a DOCTYPE, if there is one, and what follows it: kept bytes, declarations, behind it -/
def dtS (T : Nat → Int) (n h : Int) : PR (Nat × Dt × Int) :=
  if stb T n h [60, 33, 68, 79, 67, 84, 89, 80, 69] = true then pb (msS T n (h + 9)) fun g => pb (nmS T n g) fun y => pb (mbS T n (sk T n y) 91) fun z => pb (mcS T n z) fun w =>
    pb (dcF T n (n + 1).toNat 0 [] [] w) fun q => pb (mbS T n (sk T n q.2.2.2) 62) fun v => pb (mcS T n v) fun u => .inr (q.1, (some (nb T g y), q.2.1, q.2.2.1), u)
  else .inr (0, (none, [], []), h)
def hasA (ns : List Nd) (e : Int) (a : By) : Bool := ns.any fun x => decide (x.1 = 2) && decide (x.2.1 = e) && decide (x.2.2.1 = a)
def cntA (ns : List Nd) (e : Int) : Nat := (ns.filter fun x => decide (x.1 = 2) && decide (x.2.1 = e)).length
/-- the attributes that stand in the ELEMENT e -/
def atsF (T : Nat → Int) (n e : Int) : Nat → Nat → List Nd → Int → PR (Nat × List Nd × Int)
  | 0, _, _, h => .inl (-1, h)
  | k + 1, pl, ns, h => if h < sk T n h ∧ isNs (ob T n (sk T n h)) then pb (nmS T n (sk T n h)) fun g =>
        if hasA ns e (nb T (sk T n h) g) = true then .inl (-2, sk T n h)
        else if 8 ≤ cntA ns e ∨ 600 ≤ ns.length then .inl (-3, sk T n h)
        else pb (mbS T n (sk T n g) 61) fun y => pb (vlS T n (2000 - pl) (sk T n y)) fun q => atsF T n e k (pl + q.1.length) (ns ++ [(2, e, nb T (sk T n h) g, q.1, 0, 0)]) q.2
      else .inr (pl, ns, sk T n h)
/-- the attributes by default; none: one more than may be -/
def dfF (e : Int) (o : By) : List Rl → List Nd → Option (List Nd)
  | [], ns => some ns
  | r :: rs, ns => if r.1 = o ∧ 2 ≤ r.2.2.2.2.1 ∧ hasA ns e r.2.1 = false then (if 8 ≤ cntA ns e ∨ 600 ≤ ns.length then none else dfF e o rs (ns ++ [(2, e, r.2.1, r.2.2.2.2.2, 1, 0)])) else dfF e o rs ns
/-- an ELEMENT's beginning, at its NAME -/
def tgS (T : Nat → Int) (n : Int) (rs : List Rl) (pl : Nat) (t : Tr) (h : Int) : PR (Nat × Tr × Int) := pb (nmS T n h) fun g =>
  if 30 ≤ t.2.1.length ∨ 600 ≤ t.1.length then .inl (-3, h)
  else pb (atsF T n (t.1.length : Nat) (n + 1).toNat pl (t.1 ++ [(1, t.2.1.headD 0, nb T h g, [], 0, 0)]) g) fun q =>
    let cl := stb T n q.2.2 [47, 62]
    pb (if cl = true then .inr (q.2.2 + 2) else mbS T n q.2.2 62) fun y => (match dfF (t.1.length : Nat) (nb T h g) rs q.2.1 with
      | none => .inl (-3, q.2.2)
      | some ns => .inr (q.1, (ns, (if cl = true then t.2.1 else ((t.1.length : Nat) : Int) :: t.2.1), if t.2.2 < (t.2.1.length : Nat) + 1 then (t.2.1.length : Nat) + 1 else t.2.2), y))
/-- PIECES up to <, r bytes more may be kept: bytes, solid, behind -/
def txF (T : Nat → Int) (n : Int) : Nat → Nat → Int → PR (By × Int × Int)
  | 0, _, h => .inl (-1, h)
  | k + 1, r, h => if ob T n h = 60 then .inr ([], 0, h) else pb (pcS T n h) fun q => if r = 0 then .inl (-3, h)
      else pb (txF T n k (r - 1) q.2) fun z => .inr (q.1 :: z.1, (if ob T n h = 38 ∨ ¬ isSp q.1 then 1 else z.2.1), z.2.2)
/-- a TEXT at h (no < is there) -/
def teS (T : Nat → Int) (n : Int) (pl : Nat) (t : Tr) (h : Int) : PR (Nat × Tr × Int) := pb (pcS T n h) fun _ => if 600 ≤ t.1.length then .inl (-3, h)
  else pb (txF T n (n + 1).toNat (2000 - pl) h) fun q => .inr (pl + q.1.length, (t.1 ++ [(3, t.2.1.headD 0, [], q.1, 0, q.2.1)], t.2), q.2.2)
/-- </ at h -/
def enS (T : Nat → Int) (n : Int) (t : Tr) (h : Int) : PR (Tr × Int) := pb (nmS T n (h + 2)) fun g =>
  if nb T (h + 2) g ≠ (t.1.getD (t.2.1.headD 0).toNat (0, 0, [], [], 0, 0)).2.2.1 then .inl (-2, h + 2) else pb (mbS T n (sk T n g) 62) fun y => .inr ((t.1, t.2.1.tail, t.2.2), y)
/-- CONTENT, till the outermost ELEMENT ends -/
def ctF (T : Nat → Int) (n : Int) (rs : List Rl) : Nat → Nat → Tr → Int → PR (Nat × Tr × Int)
  | 0, _, _, h => .inl (-1, h)
  | k + 1, pl, t, h => if t.2.1 = [] then .inr (pl, t, h)
      else if stb T n h [60, 47] = true then pb (enS T n t h) fun q => ctF T n rs k pl q.1 q.2
      else if stb T n h [60, 33, 45, 45] = true then pb (cmS T n (h + 4)) fun y => ctF T n rs k pl t y
      else if ob T n h = 60 then pb (tgS T n rs pl t (h + 1)) fun q => ctF T n rs k q.1 q.2.1 q.2.2
      else pb (teS T n pl t h) fun q => ctF T n rs k q.1 q.2.1 q.2.2
/-- a DOCUMENT: declarations, NODES, deepest -/
abbrev Dm : Type := Dt × List Nd × Int
def rdS (T : Nat → Int) (n : Int) : PR Dm := pb (mcS T n 0) fun a => pb (dtS T n a) fun q => pb (mbS T n q.2.2 60) fun g => pb (tgS T n q.2.1.2.2 q.1 ([(0, -1, [], [], 0, 0)], [], 0) g) fun z =>
  pb (ctF T n q.2.1.2.2 (n + 1).toNat z.1 z.2.1 z.2.2) fun w => pb (mcS T n w.2.2) fun y => if y < n then .inl (-1, y) else .inr (q.2.1, w.2.1.1, w.2.1.2.2)
