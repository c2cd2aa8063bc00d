/-! The reference's RULES. -/
theorem up2_up {MI : Nat → Nat → Int} {i k : Nat} {v w : Int} : up2 (up2 MI i k v) i k w = up2 MI i k w := by
  funext a c; unfold up2; split <;> simp_all
theorem up2_back {MI : Nat → Nat → Int} {i k : Nat} {v w : Int} (h : MI i k = w) : up2 (up2 MI i k v) i k w = MI := by
  rw [up2_up]; funext a c; unfold up2; split
  · rename_i z; rw [z.1, z.2, h]
  · rfl
theorem stb_app {T : Nat → Int} {n : Int} (r : List Int) : ∀ (l : List Int) (h : Int), stb T n h (l ++ r) = (stb T n h l && stb T n (h + l.length) r)
  | [], h => by simp [stb]
  | b :: l, h => by
    rw [List.cons_append, stb, stb, stb_app r l (h + 1), Bool.and_assoc]
    rw [show h + 1 + (l.length : Int) = h + ((b :: l).length : Nat) by simp only [List.length_cons]; omega]
def howR (u : Int) : Int := if u = 0 then 1 else if u = 1 then 0 else u
def RuAR (bk : Nat) (T : Nat → Int) (n : Int) (pl : Nat) (MI : Nat → Nat → Int) (rI : Nat) (q : Rl) : Prop :=
  nmR bk T n (MI 155 rI) (MI 156 rI) q.1 ∧ nmR bk T n (MI 157 rI) (MI 158 rI) q.2.1 ∧ MI 159 rI = q.2.2.1 ∧ (MI 163 rI = (q.2.2.2.1.length : Nat) ∧ q.2.2.2.1.length ≤ 8 ∧ ∀ (k : Nat) (y : By), q.2.2.2.1[k]? = some y → nmR bk T n (MI 164 (8 * rI + k)) (MI 165 (8 * rI + k)) y) ∧ MI 160 rI = howR q.2.2.2.2.1 ∧ (2 ≤ q.2.2.2.2.1 → poR bk MI (pl : Nat) (MI 161 rI) (MI 162 rI) q.2.2.2.2.2)
def RuRR (bk : Nat) (T : Nat → Int) (n : Int) (pl : Nat) (rs : List Rl) (MI : Nat → Nat → Int) : Prop := MI 154 bk = (rs.length : Nat) ∧ rs.length ≤ 750 ∧ ∀ (r : Nat) (q : Rl), rs[r]? = some q → RuAR bk T n pl MI (800 * bk + r) q
theorem hasR_app (rs : List Rl) (q : Rl) (o a : By) : hasR (rs ++ [q]) o a = (hasR rs o a || (decide (q.1 = o) && decide (q.2.1 = a))) := by simp [hasR]
theorem cntO_len (rs : List Rl) (o : By) : cntO rs o ≤ rs.length := List.length_filter_le _ _
section P91
variable {cs : Cs} {Q : Option AV → Mm → Prop} {MI ML OI OL : Nat → Nat → Int} {bk d e nw th x : Nat} {T : Nat → Int} {n B : Int} {s : PR Int}
theorem ux_stands2 {z1 z2 a : Int} {m : Nat} {w : List Int} (hm : m ≤ 8) (hw : wbl z1 8 = w) (hw0 : ∀ b ∈ w, 0 ≤ b) (hw8 : w.length = 8) (hs : StR bk T n OI OL B (.inr a) MI ML) (hT : stb T n a (w ++ wbl z2 m) = true → Q (some (vI 1)) (MI, ML, GR d e nw th x)) (hF : stb T n a (w ++ wbl z2 m) = false → Q (some (vI 0)) (MI, ML, GR d e nw th x)) :
    wp cs mX12_stands2 KD Q 0 (padL [vR 124, vL z1, vL z2, vI (m : Int)] 7) [] (KD, MI, ML, GR d e nw th x) := by
  obtain ⟨b1, b2, b3, b4, b5⟩ := hs.2.2
  have hn := hs.1.2.2.1
  rw [stb_app, hw8] at hT hF
  refine v_X12_stands2_0 (ux_stands (m := 8) (by decide) hs (fun h1 => rI_mk ?_) (fun h1 => rI_mk ?_))
  · rw [hw] at h1
    have hr := stb_room _ a (by omega) hw0 (by intro z; rw [z] at hw8; cases hw8) h1
    rw [hw8] at hr
    rw [h1] at hT hF
    rw [b1]
    refine ⟨by omega, fun m17 e17 => ⟨fun z => by omega, fun _ => ?_⟩⟩
    obtain ⟨s1, m1⟩ := StR_at hs e17 (by omega)
    have e4 : m17 124 4 = a + 8 := by rw [e17, up2_eq]
    refine ux_stands hm s1 (fun h2 => rI_mk ⟨fun z => by omega, fun _ => ?_⟩) (fun h2 => rI_mk ⟨fun _ => ?_, fun z => absurd rfl z⟩)
    · rw [e4]
      refine ⟨by omega, fun m50 e50 => ?_⟩
      rw [e17, show a + 8 - 8 = a by omega, up2_back b1] at e50
      rw [e50]; exact hT h2
    · rw [e4]
      refine ⟨by omega, fun m50 e50 => ?_⟩
      rw [e17, show a + 8 - 8 = a by omega, up2_back b1] at e50
      rw [e50]; exact hF h2
  · rw [hw] at h1
    rw [h1] at hF
    rw [b1]
    refine ⟨by omega, fun m17 e17 => ⟨fun _ => ?_, fun z => absurd rfl z⟩⟩
    have e4 : m17 124 4 = a + 8 := by rw [e17, up2_eq]
    rw [e4]
    refine ⟨by omega, fun m50 e50 => ?_⟩
    rw [e17, show a + 8 - 8 = a by omega, up2_back b1] at e50
    rw [e50]; exact hF rfl
theorem c_hasRule_l {F L G M : Int} {o a : By} {rs : List Rl} {pl : Nat} (e8 : MI 124 8 = (bk : Int)) (hb : bk ≤ 1) (hn : n ≤ 6000) (htx : ∀ k : Nat, (k : Int) < n → MI 128 (6000 * bk + k) = T k) (hR : RuRR bk T n pl rs MI) (ho : nmR bk T n F L o) (ha : nmR bk T n G M a)
    (hQ : ∀ m, m = up2 MI 124 62 (cntO rs o : Nat) → Q (some (vI (if hasR rs o a = true then 1 else 0))) (m, ML, GR d e nw th x)) :
    ∀ (u pre : List Rl) (m : Nat → Nat → Int), pre ++ u = rs → m = up2 MI 124 62 (cntO pre o : Nat) → wp cs mX12_hasRule KD Q 18 [some (vR 124), some (vI F), some (vI L), some (vI G), some (vI M), some (vI (if hasR pre o a = true then 1 else 0)), some (vI ((800 * bk + pre.length : Nat) : Int))] [] (KD, m, ML, GR d e nw th x) := by
  intro u
  induction u with
  | nil =>
    intro pre m hp em
    rw [List.append_nil] at hp
    subst hp
    have q8 : m 124 8 = (bk : Int) := by rw [em, up2_nk (by decide)]; exact e8
    have q154 : m 154 bk = (pre.length : Nat) := by rw [em, up2_ne (by decide)]; exact hR.1
    have hl := hR.2.1
    refine v_X12_hasRule_18 ?_
    rw [q8]
    simp only [Int.toNat_natCast]
    rw [q154]
    exact ⟨by omega, by omega, by omega, fun z => by omega, fun _ => ⟨by split <;> simp, hQ m em⟩⟩
  | cons q u ih =>
    intro pre m hp em
    have q8 : m 124 8 = (bk : Int) := by rw [em, up2_nk (by decide)]; exact e8
    have q154 : m 154 bk = (rs.length : Nat) := by rw [em, up2_ne (by decide)]; exact hR.1
    have hl := hR.2.1
    have hlen : pre.length < rs.length := by rw [← hp]; simp
    have hq : rs[pre.length]? = some q := by rw [← hp]; simp
    obtain ⟨r1, r2, -⟩ := hR.2.2 pre.length q hq
    have hp' : (pre ++ [q]) ++ u = rs := by rw [List.append_assoc]; exact hp
    have el : ((800 * bk + pre.length : Nat) : Int) + 1 = ((800 * bk + (pre ++ [q]).length : Nat) : Int) := by rw [List.length_append, List.length_singleton]; omega
    have hc := cntO_len pre o
    have rw1 : ∀ i, i ≠ 124 → m i = MI i := fun i hi => by rw [em]; funext k; exact up2_ne hi k
    refine v_X12_hasRule_18 ?_
    rw [q8]
    simp only [Int.toNat_natCast]
    rw [q154]
    refine ⟨by omega, by omega, by omega, fun _ => ⟨by omega, ?_⟩, fun z => by omega⟩
    rw [rw1 155 (by decide), rw1 156 (by decide)]
    refine c_isSame hb hn (fun k hk => by rw [rw1 128 (by decide)]; exact htx k hk) r1 ho (fun r hr => rI_mk ⟨fun z => ⟨by omega, ?_⟩, fun z => ?_⟩)
    · have hne : q.1 ≠ o := fun w => by rw [if_pos w] at hr; omega
      rw [el]
      have := ih (pre ++ [q]) m hp' (by rw [cntO_app, if_neg hne, Nat.add_zero]; exact em)
      rw [hasR_app, decide_eq_false hne, Bool.false_and, Bool.or_false] at this
      exact this
    · have heq : q.1 = o := Decidable.byContradiction fun w => by rw [if_neg w] at hr; exact z hr
      have e62 : m 124 62 = (cntO pre o : Nat) := by rw [em, up2_eq]
      rw [e62]
      refine ⟨by omega, fun m71 e71 => ?_⟩
      have em2 : m71 = up2 MI 124 62 (cntO (pre ++ [q]) o : Nat) := by rw [e71, em, up2_up, cntO_app, if_pos heq]; rfl
      have rw2 : ∀ i, i ≠ 124 → m71 i = MI i := fun i hi => by rw [em2]; funext k; exact up2_ne hi k
      have nxt := ih (pre ++ [q]) m71 hp' em2
      rw [hasR_app, decide_eq_true heq, Bool.true_and] at nxt
      refine ⟨fun z0 => ?_, fun z1 => ⟨by omega, ?_⟩⟩
      · have hf : hasR pre o a = false := by
          cases hh : hasR pre o a with
          | false => rfl
          | true => rw [hh, if_pos rfl] at z0; omega
        rw [rw2 157 (by decide), rw2 158 (by decide)]
        refine c_isSame hb hn (fun k hk => by rw [rw2 128 (by decide)]; exact htx k hk) r2 ha (fun r' hr' => rI_mk ⟨fun z => ⟨by omega, ?_⟩, fun z => ⟨by omega, ?_⟩⟩)
        · have hne : q.2.1 ≠ a := fun w => by rw [if_pos w] at hr'; omega
          rw [hf, decide_eq_false hne] at nxt
          rw [el]; exact nxt
        · have he2 : q.2.1 = a := Decidable.byContradiction fun w => by rw [if_neg w] at hr'; exact z hr'
          rw [hf, decide_eq_true he2] at nxt
          rw [el]; exact nxt
      · have ht : hasR pre o a = true := by
          cases hh : hasR pre o a with
          | true => rfl
          | false => rw [hh] at z1; exact absurd rfl z1
        rw [ht, Bool.true_or] at nxt
        rw [el]; exact nxt
theorem c_hasRule {F L G M : Int} {o a : By} {rs : List Rl} {pl : Nat} (hs : StR bk T n OI OL B s MI ML) (hR : RuRR bk T n pl rs MI) (ho : nmR bk T n F L o) (ha : nmR bk T n G M a)
    (hQ : ∀ m, m = up2 MI 124 62 (cntO rs o : Nat) → Q (some (vI (if hasR rs o a = true then 1 else 0))) (m, ML, GR d e nw th x)) :
    wp cs mX12_hasRule KD Q 0 (padL [vR 124, vI F, vI L, vI G, vI M] 7) [] (KD, MI, ML, GR d e nw th x) := by
  obtain ⟨a1, a2, a3, a4, a5, a6, a7⟩ := hs.1
  refine v_X12_hasRule_0 (fun m5 e5 => ?_)
  have q8 : m5 124 8 = (bk : Int) := by rw [e5, up2_nk (by decide)]; exact a4
  rw [q8]
  refine ⟨by omega, ?_⟩
  have := c_hasRule_l (cs := cs) (d := d) (e := e) (nw := nw) (th := th) (x := x) (ML := ML) a4 a5 a3.2 a6 hR ho ha hQ rs [] m5 rfl (by rw [e5]; rfl)
  rw [show ((800 * bk + ([] : List Rl).length : Nat) : Int) = 800 * (bk : Int) by simp] at this
  exact this
end P91
