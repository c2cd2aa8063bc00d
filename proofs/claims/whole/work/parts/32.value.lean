/-! what a PIECE is, and the bytes of a VALUE -/
theorem ob_lt {T : Nat → Int} {n h c : Int} (hc : c ≠ -1) (e : ob T n h = c) : h < n := by
  by_cases z : 0 ≤ h ∧ h < n
  · exact z.2
  · rw [ob_out z] at e; exact absurd e.symm hc
theorem dg_pos (T : Nat → Int) (n : Int) : ∀ (k : Nat) (v : Int) (c : Nat) (p : Int), p ≤ (dg T n k v c p).2.2
  | 0, v, c, p => by simp [dg]
  | k + 1, v, c, p => by
    rw [dg]
    split
    · have := dg_pos T n k (v * 10 + ob T n p - 48) (c + 1) (p + 1); omega
    · simp
theorem numS_ok {T : Nat → Int} {n h b y : Int} (hy : numS T n h = .inr (b, y)) : isCh b ∧ h < y ∧ y ≤ n := by
  unfold numS at hy
  split at hy
  · cases hy
  · rename_i q
    have e := Sum.inr.inj hy
    have e1 : (numQ T n h).1 = b := congrArg Prod.fst e
    have e2 : (numQ T n h).2.2 + 1 = y := congrArg Prod.snd e
    have q2 : ob T n (numQ T n h).2.2 = 59 := by
      by_cases z : ob T n (numQ T n h).2.2 = 59
      · exact z
      · exact absurd (Or.inr (Or.inl z)) q
    have q3 : isCh (numQ T n h).1 := by
      by_cases z : isCh (numQ T n h).1
      · exact z
      · exact absurd (Or.inr (Or.inr z)) q
    have q4 := ob_lt (by decide) q2
    have q5 : h + 1 ≤ (numQ T n h).2.2 := by
      unfold numQ
      split
      · have := dg_pos T n 6 0 0 (h + 1 + 1); omega
      · simp
    rw [e1] at q3
    exact ⟨q3, by omega, by omega⟩
theorem pcS_ok {T : Nat → Int} {n h b y : Int} (hh : 0 ≤ h) (hy : pcS T n h = .inr (b, y)) : isCh b ∧ h < y ∧ y ≤ n := by
  unfold pcS at hy
  have key : ∀ {c : Int} {l : List Int} {m : Int}, stb T n h l = true → (∀ b ∈ l, 0 ≤ b) → l ≠ [] → (l.length : Int) = m → isCh c → ((.inr (c, h + m) : PR (Int × Int)) = .inr (b, y)) → isCh b ∧ h < y ∧ y ≤ n := by
    intro c l m hs hb hl hm hc e
    have e := Sum.inr.inj e
    have e1 : c = b := congrArg Prod.fst e
    have e2 : h + m = y := congrArg Prod.snd e
    have := stb_room l h hh hb hl hs
    have h0 : 0 < l.length := List.length_pos_iff.mpr hl
    subst e1
    exact ⟨hc, by omega, by omega⟩
  split at hy
  · split at hy
    · rename_i q1 q2
      have e := Sum.inr.inj hy
      have e1 : ob T n h = b := congrArg Prod.fst e
      have e2 : h + 1 = y := congrArg Prod.snd e
      have := isCh_lt q2
      rw [e1] at q2
      exact ⟨q2, by omega, by omega⟩
    · cases hy
  · split at hy
    · rename_i q; exact key q (by decide) (by decide) rfl (by decide) hy
    · split at hy
      · rename_i q; exact key q (by decide) (by decide) rfl (by decide) hy
      · split at hy
        · rename_i q; exact key q (by decide) (by decide) rfl (by decide) hy
        · split at hy
          · rename_i q; exact key q (by decide) (by decide) rfl (by decide) hy
          · split at hy
            · rename_i q; exact key q (by decide) (by decide) rfl (by decide) hy
            · exact numS_ok hy
/-- the bytes of a VALUE behind its quote, up to the quote; r more may be kept -/
def vlF (T : Nat → Int) (n q : Int) : Nat → Nat → Int → PR (List Int × Int)
  | 0, _, h => .inl (-1, h)
  | k + 1, r, h => if ob T n h = q then .inr ([], h + 1) else if ob T n h = 60 then .inl (-1, h) else (match pcS T n h with
      | .inl f => .inl f
      | .inr (b, y) => if r = 0 then .inl (-3, h) else (match vlF T n q k (r - 1) y with
          | .inl f => .inl f
          | .inr (l, z) => .inr ((if isSp (ob T n h) then 32 else b) :: l, z)))
/-- a VALUE at h, r bytes more may be kept: its bytes, and behind it -/
def vlS (T : Nat → Int) (n : Int) (r : Nat) (h : Int) : PR (List Int × Int) := if ob T n h = 34 ∨ ob T n h = 39 then vlF T n (ob T n h) (n - h).toNat r (h + 1) else .inl (-1, h)
/-- appending to a row -/
def gl (l : List Int) : Nat → Int := fun j => l.getD j 0
theorem fed_cons {MI : Nat → Nat → Int} {c i0 k0 : Nat} {s v : Int} {l : List Int} (hc : c ≠ i0) (hs : 0 ≤ s) : fed (up2 (up2 MI c s.toNat v) i0 k0 (s + 1)) c i0 k0 (s + 1) (gl l) l.length = fed MI c i0 k0 s (gl (v :: l)) (l.length + 1) := by
  funext i k
  unfold fed up2 gl
  by_cases h1 : i = i0 ∧ k = k0
  · rw [if_pos h1, if_pos h1]; omega
  · rw [if_neg h1, if_neg h1, if_neg h1]
    by_cases h2 : i = c
    · subst h2
      by_cases h3 : k = s.toNat
      · subst h3
        rw [if_neg (by omega), if_pos ⟨rfl, rfl⟩, if_pos ⟨rfl, by omega, by omega⟩, show ((s.toNat : Int) - s).toNat = 0 by omega]
        rfl
      · by_cases h4 : s ≤ k ∧ (k : Int) < s + ((l.length + 1 : Nat) : Int)
        · rw [if_pos ⟨rfl, by omega, by omega⟩, if_pos ⟨rfl, h4⟩, show ((k : Int) - s).toNat = ((k : Int) - (s + 1)).toNat + 1 by omega]
          rfl
        · rw [if_neg (by omega), if_neg (fun q => h3 q.2), if_neg (by omega)]
    · rw [if_neg (fun q => h2 q.1), if_neg (fun q => h2 q.1), if_neg (fun q => h2 q.1)]
