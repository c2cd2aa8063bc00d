/-- bytes that come onto a tape (cell c), whose size is field (i0, k0): m of them, g j the j-th -/
def fed (MI : Nat → Nat → Int) (c i0 k0 : Nat) (ts : Int) (g : Nat → Int) (m : Nat) : Nat → Nat → Int := fun i k => if i = i0 ∧ k = k0 then ts + m else if i = c ∧ ts ≤ k ∧ (k : Int) < ts + m then g ((k : Int) - ts).toNat else MI i k
theorem fed_step {MI : Nat → Nat → Int} {c i0 k0 : Nat} {ts : Int} {g : Nat → Int} {m : Nat} {v : Int} (hc : c ≠ i0) (ht : 0 ≤ ts) (hv : v = g m) : up2 (up2 (fed MI c i0 k0 ts g m) c (ts + m).toNat v) i0 k0 (ts + m + 1) = fed MI c i0 k0 ts g (m + 1) := by
  funext i k
  unfold up2 fed
  by_cases h1 : i = i0 ∧ k = k0
  · rw [if_pos h1, if_pos h1]; omega
  · rw [if_neg h1, if_neg h1, if_neg h1]
    by_cases h2 : i = c ∧ k = (ts + m).toNat
    · obtain ⟨rfl, rfl⟩ := h2
      rw [if_pos ⟨rfl, rfl⟩, if_pos ⟨rfl, by omega, by omega⟩, hv]
      congr 1
      omega
    · rw [if_neg h2]
      by_cases h3 : i = c ∧ ts ≤ k ∧ (k : Int) < ts + m
      · rw [if_pos h3, if_pos ⟨h3.1, h3.2.1, by omega⟩]
      · rw [if_neg h3, if_neg (fun q => h3 ⟨q.1, q.2.1, by have := fun e => h2 ⟨q.1, e⟩; omega⟩)]
theorem fed_0 {MI : Nat → Nat → Int} {c i0 k0 : Nat} {g : Nat → Int} : fed MI c i0 k0 (MI i0 k0) g 0 = MI := by
  funext i k
  unfold fed
  by_cases h1 : i = i0 ∧ k = k0
  · rw [if_pos h1, h1.1, h1.2]; simp
  · rw [if_neg h1, if_neg (by omega)]
theorem b_2b (x : Int) : -128 ≤ i_2b x ∧ i_2b x < 128 := by
  unfold i_2b
  have h1 := Int8.le_toInt (Int32.ofInt x).toInt8
  have h2 := Int8.toInt_lt (Int32.ofInt x).toInt8
  have e : (Int32.ofInt x).toInt8.toInt32.toInt = (Int32.ofInt x).toInt8.toInt := Int8.toInt_toInt32 _
  rw [e]
  exact ⟨h1, h2⟩
section P27
variable {cs : Cs} {Q : Option AV → Mm → Prop} {MI ML : Nat → Nat → Int} {MR : Nat → Nat → Nat} {d e nw th x : Nat} {ts : Int} {g : Nat → Int} {m : Nat}
theorem dX11_keepNumber_0 : decode cX11_keepNumber 0 = .ok (.bipush 24, 2) := by decide +kernel
theorem dX11_keepNumber_2 : decode cX11_keepNumber 2 = .ok (.istore_n 2, 1) := by decide +kernel
theorem dX11_keepNumber_3 : decode cX11_keepNumber 3 = .ok (.iload_n 2, 1) := by decide +kernel
theorem dX11_keepNumber_4 : decode cX11_keepNumber 4 = .ok (.ifCond .lt 42, 3) := by decide +kernel
theorem dX11_keepNumber_7 : decode cX11_keepNumber 7 = .ok (.aload_n 0, 1) := by decide +kernel
theorem dX11_keepNumber_8 : decode cX11_keepNumber 8 = .ok (.getfield 74, 3) := by decide +kernel
theorem dX11_keepNumber_11 : decode cX11_keepNumber 11 = .ok (.sipush 6000, 3) := by decide +kernel
theorem dX11_keepNumber_14 : decode cX11_keepNumber 14 = .ok (.if_icmp .ge 32, 3) := by decide +kernel
theorem dX11_keepNumber_17 : decode cX11_keepNumber 17 = .ok (.aload_n 0, 1) := by decide +kernel
theorem dX11_keepNumber_18 : decode cX11_keepNumber 18 = .ok (.getfield 9, 3) := by decide +kernel
theorem dX11_keepNumber_21 : decode cX11_keepNumber 21 = .ok (.aload_n 0, 1) := by decide +kernel
theorem dX11_keepNumber_22 : decode cX11_keepNumber 22 = .ok (.getfield 74, 3) := by decide +kernel
theorem dX11_keepNumber_25 : decode cX11_keepNumber 25 = .ok (.iload_n 1, 1) := by decide +kernel
theorem dX11_keepNumber_26 : decode cX11_keepNumber 26 = .ok (.iload_n 2, 1) := by decide +kernel
theorem dX11_keepNumber_27 : decode cX11_keepNumber 27 = .ok (.iushr, 1) := by decide +kernel
theorem dX11_keepNumber_28 : decode cX11_keepNumber 28 = .ok (.i2b, 1) := by decide +kernel
theorem dX11_keepNumber_29 : decode cX11_keepNumber 29 = .ok (.bastore, 1) := by decide +kernel
theorem dX11_keepNumber_30 : decode cX11_keepNumber 30 = .ok (.aload_n 0, 1) := by decide +kernel
theorem dX11_keepNumber_31 : decode cX11_keepNumber 31 = .ok (.dup, 1) := by decide +kernel
theorem dX11_keepNumber_32 : decode cX11_keepNumber 32 = .ok (.getfield 74, 3) := by decide +kernel
theorem dX11_keepNumber_35 : decode cX11_keepNumber 35 = .ok (.iconst 1, 1) := by decide +kernel
theorem dX11_keepNumber_36 : decode cX11_keepNumber 36 = .ok (.iadd, 1) := by decide +kernel
theorem dX11_keepNumber_37 : decode cX11_keepNumber 37 = .ok (.putfield 74, 3) := by decide +kernel
theorem dX11_keepNumber_40 : decode cX11_keepNumber 40 = .ok (.iinc 2 (-8), 3) := by decide +kernel
theorem dX11_keepNumber_43 : decode cX11_keepNumber 43 = .ok (.goto (-40), 3) := by decide +kernel
theorem dX11_keepNumber_46 : decode cX11_keepNumber 46 = .ok (.return_, 1) := by decide +kernel
theorem w_keepNumber {v : Int} (ht0 : 0 ≤ ts) (ht : ts + m + 4 ≤ 6000) (hg0 : g m = i_2b (i_ushr v 24)) (hg1 : g (m + 1) = i_2b (i_ushr v 16)) (hg2 : g (m + 2) = i_2b (i_ushr v 8)) (hg3 : g (m + 3) = i_2b (i_ushr v 0)) (hQ : Q none (fed MI 1 0 10 ts g (m + 4), ML, GR d e nw th x)) : wp cs mX11_keepNumber KD Q 0 (padL [vR 0, vI v] 3) [] (KD, fed MI 1 0 10 ts g m, ML, GR d e nw th x) := by
  refine wp_L (L' := [some (vR 0), some (vI v), none]) rfl ?_
  refine wp_bipush dX11_keepNumber_0 (by decide +kernel) (by decide) ?_
  refine wp_istore_n dX11_keepNumber_2 rfl (by decide) (wp_L (L' := [some (vR 0), some (vI v), some (vI 24)]) rfl ?_)
  refine wp_iload_n dX11_keepNumber_3 rfl rfl ?_
  refine wp_if_lt (tgt := 46) dX11_keepNumber_4 (by decide) (fun q => absurd q (by decide)) (fun _ => ?_)
  refine wp_aload_n dX11_keepNumber_7 rfl rfl (by first | exact Or.inl (by decide) | exact Or.inl (by omega) | exact Or.inr (by decide) | exact Or.inr (by omega)) ?_
  refine wp_getI dX11_keepNumber_8 fX11_74 rfl (by decide) ?_
  refine wp_topI (x' := (ts + (m : Nat))) rfl ?_
  refine wp_sipush dX11_keepNumber_11 (by decide +kernel) (by decide) ?_
  refine wp_pc (pc' := 14) rfl ?_
  refine wp_icmp_ge (tgt := 46) dX11_keepNumber_14 (by decide) (fun h14 => ?_) (fun h14 => ?_)
  · exfalso; omega
  · refine wp_aload_n dX11_keepNumber_17 rfl rfl (by first | exact Or.inl (by decide) | exact Or.inl (by omega) | exact Or.inr (by decide) | exact Or.inr (by omega)) ?_
    refine wp_getR dX11_keepNumber_18 fX11_9 rfl (by decide) ?_
    refine wp_topR (x' := 1) rfl ?_
    refine wp_aload_n dX11_keepNumber_21 rfl rfl (by first | exact Or.inl (by decide) | exact Or.inl (by omega) | exact Or.inr (by decide) | exact Or.inr (by omega)) ?_
    refine wp_getI dX11_keepNumber_22 fX11_74 rfl (by decide) ?_
    refine wp_topI (x' := (ts + (m : Nat))) rfl ?_
    refine wp_iload_n dX11_keepNumber_25 rfl rfl ?_
    refine wp_iload_n dX11_keepNumber_26 rfl rfl ?_
    refine wp_iushr dX11_keepNumber_27 ?_
    refine wp_pc (pc' := 28) rfl ?_
    refine wp_i2b dX11_keepNumber_28 ?_
    refine wp_bast dX11_keepNumber_29 rfl (by decide) (by omega) (b_2b _) ?_
    refine wp_aload_n dX11_keepNumber_30 rfl rfl (by first | exact Or.inl (by decide) | exact Or.inl (by omega) | exact Or.inr (by decide) | exact Or.inr (by omega)) ?_
    refine wp_dup dX11_keepNumber_31 (fun x e => by cases e) ?_
    refine wp_getI dX11_keepNumber_32 fX11_74 rfl (by decide) ?_
    refine wp_topI (x' := (ts + (m : Nat))) rfl ?_
    refine wp_iconst dX11_keepNumber_35 (by decide) ?_
    refine wp_iaddr dX11_keepNumber_36 (by omega) ?_
    refine wp_putI dX11_keepNumber_37 pX11_74 rfl (by decide) ?_
    refine wp_M (M' := ((fed MI 1 0 10 ts g (m + 1)), ML, (GR d e nw th x))) (by rw [fed_step (m := m) (by decide) ht0 (by first | (simp only [hg0, hg1, hg2, hg3]; done) | rfl)]) ?_
    refine wp_pc (pc' := 40) rfl ?_
    refine wp_iincr dX11_keepNumber_40 rfl (by decide) (by omega) (wp_L (L' := [some (vR 0), some (vI v), some (vI 16)]) rfl ?_)
    refine wp_goto (tgt := 3) dX11_keepNumber_43 (by decide) ?_
    refine wp_iload_n dX11_keepNumber_3 rfl rfl ?_
    refine wp_if_lt (tgt := 46) dX11_keepNumber_4 (by decide) (fun q => absurd q (by decide)) (fun _ => ?_)
    refine wp_aload_n dX11_keepNumber_7 rfl rfl (by first | exact Or.inl (by decide) | exact Or.inl (by omega) | exact Or.inr (by decide) | exact Or.inr (by omega)) ?_
    refine wp_getI dX11_keepNumber_8 fX11_74 rfl (by decide) ?_
    refine wp_topI (x' := (ts + ((m + 1) : Nat))) rfl ?_
    refine wp_sipush dX11_keepNumber_11 (by decide +kernel) (by decide) ?_
    refine wp_icmp_ge (tgt := 46) dX11_keepNumber_14 (by decide) (fun h14 => ?_) (fun h14 => ?_)
    · exfalso; omega
    · refine wp_aload_n dX11_keepNumber_17 rfl rfl (by first | exact Or.inl (by decide) | exact Or.inl (by omega) | exact Or.inr (by decide) | exact Or.inr (by omega)) ?_
      refine wp_getR dX11_keepNumber_18 fX11_9 rfl (by decide) ?_
      refine wp_topR (x' := 1) rfl ?_
      refine wp_aload_n dX11_keepNumber_21 rfl rfl (by first | exact Or.inl (by decide) | exact Or.inl (by omega) | exact Or.inr (by decide) | exact Or.inr (by omega)) ?_
      refine wp_getI dX11_keepNumber_22 fX11_74 rfl (by decide) ?_
      refine wp_topI (x' := (ts + ((m + 1) : Nat))) rfl ?_
      refine wp_iload_n dX11_keepNumber_25 rfl rfl ?_
      refine wp_iload_n dX11_keepNumber_26 rfl rfl ?_
      refine wp_iushr dX11_keepNumber_27 ?_
      refine wp_pc (pc' := 28) rfl ?_
      refine wp_i2b dX11_keepNumber_28 ?_
      refine wp_bast dX11_keepNumber_29 rfl (by decide) (by omega) (b_2b _) ?_
      refine wp_aload_n dX11_keepNumber_30 rfl rfl (by first | exact Or.inl (by decide) | exact Or.inl (by omega) | exact Or.inr (by decide) | exact Or.inr (by omega)) ?_
      refine wp_dup dX11_keepNumber_31 (fun x e => by cases e) ?_
      refine wp_getI dX11_keepNumber_32 fX11_74 rfl (by decide) ?_
      refine wp_topI (x' := (ts + ((m + 1) : Nat))) rfl ?_
      refine wp_iconst dX11_keepNumber_35 (by decide) ?_
      refine wp_iaddr dX11_keepNumber_36 (by omega) ?_
      refine wp_putI dX11_keepNumber_37 pX11_74 rfl (by decide) ?_
      refine wp_M (M' := ((fed MI 1 0 10 ts g (m + 2)), ML, (GR d e nw th x))) (by rw [fed_step (m := (m + 1)) (by decide) ht0 (by first | (simp only [hg0, hg1, hg2, hg3]; done) | rfl)]) ?_
      refine wp_pc (pc' := 40) rfl ?_
      refine wp_iincr dX11_keepNumber_40 rfl (by decide) (by omega) (wp_L (L' := [some (vR 0), some (vI v), some (vI 8)]) rfl ?_)
      refine wp_goto (tgt := 3) dX11_keepNumber_43 (by decide) ?_
      refine wp_iload_n dX11_keepNumber_3 rfl rfl ?_
      refine wp_if_lt (tgt := 46) dX11_keepNumber_4 (by decide) (fun q => absurd q (by decide)) (fun _ => ?_)
      refine wp_aload_n dX11_keepNumber_7 rfl rfl (by first | exact Or.inl (by decide) | exact Or.inl (by omega) | exact Or.inr (by decide) | exact Or.inr (by omega)) ?_
      refine wp_getI dX11_keepNumber_8 fX11_74 rfl (by decide) ?_
      refine wp_topI (x' := (ts + ((m + 2) : Nat))) rfl ?_
      refine wp_sipush dX11_keepNumber_11 (by decide +kernel) (by decide) ?_
      refine wp_icmp_ge (tgt := 46) dX11_keepNumber_14 (by decide) (fun h14 => ?_) (fun h14 => ?_)
      · exfalso; omega
      · refine wp_aload_n dX11_keepNumber_17 rfl rfl (by first | exact Or.inl (by decide) | exact Or.inl (by omega) | exact Or.inr (by decide) | exact Or.inr (by omega)) ?_
        refine wp_getR dX11_keepNumber_18 fX11_9 rfl (by decide) ?_
        refine wp_topR (x' := 1) rfl ?_
        refine wp_aload_n dX11_keepNumber_21 rfl rfl (by first | exact Or.inl (by decide) | exact Or.inl (by omega) | exact Or.inr (by decide) | exact Or.inr (by omega)) ?_
        refine wp_getI dX11_keepNumber_22 fX11_74 rfl (by decide) ?_
        refine wp_topI (x' := (ts + ((m + 2) : Nat))) rfl ?_
        refine wp_iload_n dX11_keepNumber_25 rfl rfl ?_
        refine wp_iload_n dX11_keepNumber_26 rfl rfl ?_
        refine wp_iushr dX11_keepNumber_27 ?_
        refine wp_pc (pc' := 28) rfl ?_
        refine wp_i2b dX11_keepNumber_28 ?_
        refine wp_bast dX11_keepNumber_29 rfl (by decide) (by omega) (b_2b _) ?_
        refine wp_aload_n dX11_keepNumber_30 rfl rfl (by first | exact Or.inl (by decide) | exact Or.inl (by omega) | exact Or.inr (by decide) | exact Or.inr (by omega)) ?_
        refine wp_dup dX11_keepNumber_31 (fun x e => by cases e) ?_
        refine wp_getI dX11_keepNumber_32 fX11_74 rfl (by decide) ?_
        refine wp_topI (x' := (ts + ((m + 2) : Nat))) rfl ?_
        refine wp_iconst dX11_keepNumber_35 (by decide) ?_
        refine wp_iaddr dX11_keepNumber_36 (by omega) ?_
        refine wp_putI dX11_keepNumber_37 pX11_74 rfl (by decide) ?_
        refine wp_M (M' := ((fed MI 1 0 10 ts g (m + 3)), ML, (GR d e nw th x))) (by rw [fed_step (m := (m + 2)) (by decide) ht0 (by first | (simp only [hg0, hg1, hg2, hg3]; done) | rfl)]) ?_
        refine wp_pc (pc' := 40) rfl ?_
        refine wp_iincr dX11_keepNumber_40 rfl (by decide) (by omega) (wp_L (L' := [some (vR 0), some (vI v), some (vI 0)]) rfl ?_)
        refine wp_goto (tgt := 3) dX11_keepNumber_43 (by decide) ?_
        refine wp_iload_n dX11_keepNumber_3 rfl rfl ?_
        refine wp_if_lt (tgt := 46) dX11_keepNumber_4 (by decide) (fun q => absurd q (by decide)) (fun _ => ?_)
        refine wp_aload_n dX11_keepNumber_7 rfl rfl (by first | exact Or.inl (by decide) | exact Or.inl (by omega) | exact Or.inr (by decide) | exact Or.inr (by omega)) ?_
        refine wp_getI dX11_keepNumber_8 fX11_74 rfl (by decide) ?_
        refine wp_topI (x' := (ts + ((m + 3) : Nat))) rfl ?_
        refine wp_sipush dX11_keepNumber_11 (by decide +kernel) (by decide) ?_
        refine wp_icmp_ge (tgt := 46) dX11_keepNumber_14 (by decide) (fun h14 => ?_) (fun h14 => ?_)
        · exfalso; omega
        · refine wp_aload_n dX11_keepNumber_17 rfl rfl (by first | exact Or.inl (by decide) | exact Or.inl (by omega) | exact Or.inr (by decide) | exact Or.inr (by omega)) ?_
          refine wp_getR dX11_keepNumber_18 fX11_9 rfl (by decide) ?_
          refine wp_topR (x' := 1) rfl ?_
          refine wp_aload_n dX11_keepNumber_21 rfl rfl (by first | exact Or.inl (by decide) | exact Or.inl (by omega) | exact Or.inr (by decide) | exact Or.inr (by omega)) ?_
          refine wp_getI dX11_keepNumber_22 fX11_74 rfl (by decide) ?_
          refine wp_topI (x' := (ts + ((m + 3) : Nat))) rfl ?_
          refine wp_iload_n dX11_keepNumber_25 rfl rfl ?_
          refine wp_iload_n dX11_keepNumber_26 rfl rfl ?_
          refine wp_iushr dX11_keepNumber_27 ?_
          refine wp_pc (pc' := 28) rfl ?_
          refine wp_i2b dX11_keepNumber_28 ?_
          refine wp_bast dX11_keepNumber_29 rfl (by decide) (by omega) (b_2b _) ?_
          refine wp_aload_n dX11_keepNumber_30 rfl rfl (by first | exact Or.inl (by decide) | exact Or.inl (by omega) | exact Or.inr (by decide) | exact Or.inr (by omega)) ?_
          refine wp_dup dX11_keepNumber_31 (fun x e => by cases e) ?_
          refine wp_getI dX11_keepNumber_32 fX11_74 rfl (by decide) ?_
          refine wp_topI (x' := (ts + ((m + 3) : Nat))) rfl ?_
          refine wp_iconst dX11_keepNumber_35 (by decide) ?_
          refine wp_iaddr dX11_keepNumber_36 (by omega) ?_
          refine wp_putI dX11_keepNumber_37 pX11_74 rfl (by decide) ?_
          refine wp_M (M' := ((fed MI 1 0 10 ts g (m + 4)), ML, (GR d e nw th x))) (by rw [fed_step (m := (m + 3)) (by decide) ht0 (by first | (simp only [hg0, hg1, hg2, hg3]; done) | rfl)]) ?_
          refine wp_pc (pc' := 40) rfl ?_
          refine wp_iincr dX11_keepNumber_40 rfl (by decide) (by omega) (wp_L (L' := [some (vR 0), some (vI v), some (vI ((-8)))]) rfl ?_)
          refine wp_goto (tgt := 3) dX11_keepNumber_43 (by decide) ?_
          refine wp_iload_n dX11_keepNumber_3 rfl rfl ?_
          refine wp_if_lt (tgt := 46) dX11_keepNumber_4 (by decide) (fun _ => ?_) (fun q => absurd q (by decide))
          exact wp_vret dX11_keepNumber_46 rfl (fun _ => hQ)
/-- the twenty bytes, as the class and as the reference take them -/
def selF (v1 v2 v3 v4 v5 : Int) (j : Nat) : Int := if j < 4 then v1 else if j < 8 then v2 else if j < 12 then v3 else if j < 16 then v4 else v5
def gF (v1 v2 v3 v4 v5 : Int) (j : Nat) : Int := i_2b (i_ushr (selF v1 v2 v3 v4 v5 j) (24 - 8 * ((j % 4 : Nat) : Int)))
def gR (v1 v2 v3 v4 v5 : Int) (j : Nat) : Int := i_2b (i_shr (selF v1 v2 v3 v4 v5 j) (24 - 8 * ((j % 4 : Nat) : Int)))
theorem dX11_feed_0 : decode cX11_feed 0 = .ok (.aload_n 0, 1) := by decide +kernel
theorem dX11_feed_1 : decode cX11_feed 1 = .ok (.getfield 74, 3) := by decide +kernel
theorem dX11_feed_4 : decode cX11_feed 4 = .ok (.bipush 20, 2) := by decide +kernel
theorem dX11_feed_6 : decode cX11_feed 6 = .ok (.iadd, 1) := by decide +kernel
theorem dX11_feed_7 : decode cX11_feed 7 = .ok (.sipush 6000, 3) := by decide +kernel
theorem dX11_feed_10 : decode cX11_feed 10 = .ok (.if_icmp .le 5, 3) := by decide +kernel
theorem dX11_feed_13 : decode cX11_feed 13 = .ok (.iconst (-1), 1) := by decide +kernel
theorem dX11_feed_14 : decode cX11_feed 14 = .ok (.ireturn, 1) := by decide +kernel
theorem dX11_feed_15 : decode cX11_feed 15 = .ok (.aload_n 0, 1) := by decide +kernel
theorem dX11_feed_16 : decode cX11_feed 16 = .ok (.iload_n 1, 1) := by decide +kernel
theorem dX11_feed_17 : decode cX11_feed 17 = .ok (.invokevirtual 81, 3) := by decide +kernel
theorem dX11_feed_20 : decode cX11_feed 20 = .ok (.aload_n 0, 1) := by decide +kernel
theorem dX11_feed_21 : decode cX11_feed 21 = .ok (.iload_n 2, 1) := by decide +kernel
theorem dX11_feed_22 : decode cX11_feed 22 = .ok (.invokevirtual 81, 3) := by decide +kernel
theorem dX11_feed_25 : decode cX11_feed 25 = .ok (.aload_n 0, 1) := by decide +kernel
theorem dX11_feed_26 : decode cX11_feed 26 = .ok (.iload_n 3, 1) := by decide +kernel
theorem dX11_feed_27 : decode cX11_feed 27 = .ok (.invokevirtual 81, 3) := by decide +kernel
theorem dX11_feed_30 : decode cX11_feed 30 = .ok (.aload_n 0, 1) := by decide +kernel
theorem dX11_feed_31 : decode cX11_feed 31 = .ok (.iload 4, 2) := by decide +kernel
theorem dX11_feed_33 : decode cX11_feed 33 = .ok (.invokevirtual 81, 3) := by decide +kernel
theorem dX11_feed_36 : decode cX11_feed 36 = .ok (.aload_n 0, 1) := by decide +kernel
theorem dX11_feed_37 : decode cX11_feed 37 = .ok (.iload 5, 2) := by decide +kernel
theorem dX11_feed_39 : decode cX11_feed 39 = .ok (.invokevirtual 81, 3) := by decide +kernel
theorem dX11_feed_42 : decode cX11_feed 42 = .ok (.aload_n 0, 1) := by decide +kernel
theorem dX11_feed_43 : decode cX11_feed 43 = .ok (.getfield 74, 3) := by decide +kernel
theorem dX11_feed_46 : decode cX11_feed 46 = .ok (.ireturn, 1) := by decide +kernel
theorem w_X11_feed {v1 v2 v3 v4 v5 : Int} (ht0 : 0 ≤ MI 0 10 ∧ MI 0 10 ≤ 6000) (hT : MI 0 10 + 20 ≤ 6000 → Q (some (vI (MI 0 10 + (20 : Nat)))) (fed MI 1 0 10 (MI 0 10) (gF v1 v2 v3 v4 v5) 20, ML, GR d e nw th x)) (hF : 6000 < MI 0 10 + 20 → Q (some (vI (-1))) (MI, ML, GR d e nw th x)) : wp cs mX11_feed KD Q 0 (padL [vR 0, vI v1, vI v2, vI v3, vI v4, vI v5] 6) [] (KD, MI, ML, GR d e nw th x) := by
  refine wp_L (L' := [some (vR 0), some (vI v1), some (vI v2), some (vI v3), some (vI v4), some (vI v5)]) rfl ?_
  refine wp_aload_n dX11_feed_0 rfl rfl (by first | exact Or.inl (by decide) | exact Or.inl (by omega) | exact Or.inr (by decide) | exact Or.inr (by omega)) ?_
  refine wp_getI dX11_feed_1 fX11_74 rfl (by decide) ?_
  refine wp_bipush dX11_feed_4 (by decide +kernel) (by decide) ?_
  refine wp_iaddr dX11_feed_6 (by omega) ?_
  refine wp_sipush dX11_feed_7 (by decide +kernel) (by decide) ?_
  refine wp_icmp_le (tgt := 15) dX11_feed_10 (by decide) (fun h10 => ?_) (fun h10 => ?_)
  · refine wp_M (M' := ((fed MI 1 0 10 (MI 0 10) (gF v1 v2 v3 v4 v5) 0), ML, GR d e nw th x)) (by rw [fed_0]) ?_
    refine wp_aload_n dX11_feed_15 rfl rfl (by first | exact Or.inl (by decide) | exact Or.inl (by omega) | exact Or.inr (by decide) | exact Or.inr (by omega)) ?_
    refine wp_iload_n dX11_feed_16 rfl rfl ?_
    refine wp_cV (n := 1) (mt' := mX11_keepNumber) (as := [vI v1]) (rest := []) none ((fed MI 1 0 10 (MI 0 10) (gF v1 v2 v3 v4 v5) 4), ML, (GR d e nw th x)) dX11_feed_17 lX11_81 kX11_keepNumber vX11_keepNumber (by decide) (by decide +kernel) rfl (Nat.le_of_ble_eq_true rfl) (by decide) rfl rfl rfl (Nat.le_of_ble_eq_true rfl) (fun hM hS Q' hq => w_keepNumber (m := 0) (g := gF v1 v2 v3 v4 v5) (by omega) (by omega) rfl rfl rfl rfl hq) (fun hM => ?_)
    refine wp_aload_n dX11_feed_20 rfl rfl (by first | exact Or.inl (by decide) | exact Or.inl (by omega) | exact Or.inr (by decide) | exact Or.inr (by omega)) ?_
    refine wp_iload_n dX11_feed_21 rfl rfl ?_
    refine wp_cV (n := 1) (mt' := mX11_keepNumber) (as := [vI v2]) (rest := []) none ((fed MI 1 0 10 (MI 0 10) (gF v1 v2 v3 v4 v5) 8), ML, (GR d e nw th x)) dX11_feed_22 lX11_81 kX11_keepNumber vX11_keepNumber (by decide) (by decide +kernel) rfl (Nat.le_of_ble_eq_true rfl) (by decide) rfl rfl rfl (Nat.le_of_ble_eq_true rfl) (fun hM hS Q' hq => w_keepNumber (m := 4) (g := gF v1 v2 v3 v4 v5) (by omega) (by omega) rfl rfl rfl rfl hq) (fun hM => ?_)
    refine wp_aload_n dX11_feed_25 rfl rfl (by first | exact Or.inl (by decide) | exact Or.inl (by omega) | exact Or.inr (by decide) | exact Or.inr (by omega)) ?_
    refine wp_pc (pc' := 26) rfl ?_
    refine wp_iload_n dX11_feed_26 rfl rfl ?_
    refine wp_cV (n := 1) (mt' := mX11_keepNumber) (as := [vI v3]) (rest := []) none ((fed MI 1 0 10 (MI 0 10) (gF v1 v2 v3 v4 v5) 12), ML, (GR d e nw th x)) dX11_feed_27 lX11_81 kX11_keepNumber vX11_keepNumber (by decide) (by decide +kernel) rfl (Nat.le_of_ble_eq_true rfl) (by decide) rfl rfl rfl (Nat.le_of_ble_eq_true rfl) (fun hM hS Q' hq => w_keepNumber (m := 8) (g := gF v1 v2 v3 v4 v5) (by omega) (by omega) rfl rfl rfl rfl hq) (fun hM => ?_)
    refine wp_aload_n dX11_feed_30 rfl rfl (by first | exact Or.inl (by decide) | exact Or.inl (by omega) | exact Or.inr (by decide) | exact Or.inr (by omega)) ?_
    refine wp_iload dX11_feed_31 rfl ?_
    refine wp_cV (n := 1) (mt' := mX11_keepNumber) (as := [vI v4]) (rest := []) none ((fed MI 1 0 10 (MI 0 10) (gF v1 v2 v3 v4 v5) 16), ML, (GR d e nw th x)) dX11_feed_33 lX11_81 kX11_keepNumber vX11_keepNumber (by decide) (by decide +kernel) rfl (Nat.le_of_ble_eq_true rfl) (by decide) rfl rfl rfl (Nat.le_of_ble_eq_true rfl) (fun hM hS Q' hq => w_keepNumber (m := 12) (g := gF v1 v2 v3 v4 v5) (by omega) (by omega) rfl rfl rfl rfl hq) (fun hM => ?_)
    refine wp_aload_n dX11_feed_36 rfl rfl (by first | exact Or.inl (by decide) | exact Or.inl (by omega) | exact Or.inr (by decide) | exact Or.inr (by omega)) ?_
    refine wp_iload dX11_feed_37 rfl ?_
    refine wp_cV (n := 1) (mt' := mX11_keepNumber) (as := [vI v5]) (rest := []) none ((fed MI 1 0 10 (MI 0 10) (gF v1 v2 v3 v4 v5) 20), ML, (GR d e nw th x)) dX11_feed_39 lX11_81 kX11_keepNumber vX11_keepNumber (by decide) (by decide +kernel) rfl (Nat.le_of_ble_eq_true rfl) (by decide) rfl rfl rfl (Nat.le_of_ble_eq_true rfl) (fun hM hS Q' hq => w_keepNumber (m := 16) (g := gF v1 v2 v3 v4 v5) (by omega) (by omega) rfl rfl rfl rfl hq) (fun hM => ?_)
    refine wp_pc (pc' := 42) rfl ?_
    refine wp_aload_n dX11_feed_42 rfl rfl (by first | exact Or.inl (by decide) | exact Or.inl (by omega) | exact Or.inr (by decide) | exact Or.inr (by omega)) ?_
    refine wp_getI dX11_feed_43 fX11_74 rfl (by decide) ?_
    refine wp_topI (x' := (MI 0 10 + (20 : Nat))) rfl ?_
    exact wp_iret dX11_feed_46 rfl (fun _ => hT (by omega))
  · refine wp_iconst dX11_feed_13 (by decide) ?_
    exact wp_iret dX11_feed_14 rfl (fun _ => hF (by omega))
theorem dX12_feed_0 : decode cX12_feed 0 = .ok (.aload_n 0, 1) := by decide +kernel
theorem dX12_feed_1 : decode cX12_feed 1 = .ok (.getfield 476, 3) := by decide +kernel
theorem dX12_feed_4 : decode cX12_feed 4 = .ok (.bipush 20, 2) := by decide +kernel
theorem dX12_feed_6 : decode cX12_feed 6 = .ok (.iadd, 1) := by decide +kernel
theorem dX12_feed_7 : decode cX12_feed 7 = .ok (.sipush 6000, 3) := by decide +kernel
theorem dX12_feed_10 : decode cX12_feed 10 = .ok (.if_icmp .le 5, 3) := by decide +kernel
theorem dX12_feed_13 : decode cX12_feed 13 = .ok (.iconst (-1), 1) := by decide +kernel
theorem dX12_feed_14 : decode cX12_feed 14 = .ok (.ireturn, 1) := by decide +kernel
theorem dX12_feed_15 : decode cX12_feed 15 = .ok (.iconst 0, 1) := by decide +kernel
theorem dX12_feed_16 : decode cX12_feed 16 = .ok (.istore 6, 2) := by decide +kernel
theorem dX12_feed_18 : decode cX12_feed 18 = .ok (.iload 6, 2) := by decide +kernel
theorem dX12_feed_20 : decode cX12_feed 20 = .ok (.bipush 20, 2) := by decide +kernel
theorem dX12_feed_22 : decode cX12_feed 22 = .ok (.if_icmp .ge 90, 3) := by decide +kernel
theorem dX12_feed_25 : decode cX12_feed 25 = .ok (.iload 6, 2) := by decide +kernel
theorem dX12_feed_27 : decode cX12_feed 27 = .ok (.iconst 4, 1) := by decide +kernel
theorem dX12_feed_28 : decode cX12_feed 28 = .ok (.if_icmp .ge 7, 3) := by decide +kernel
theorem dX12_feed_31 : decode cX12_feed 31 = .ok (.iload_n 1, 1) := by decide +kernel
theorem dX12_feed_32 : decode cX12_feed 32 = .ok (.goto 39, 3) := by decide +kernel
theorem dX12_feed_35 : decode cX12_feed 35 = .ok (.iload 6, 2) := by decide +kernel
theorem dX12_feed_37 : decode cX12_feed 37 = .ok (.bipush 8, 2) := by decide +kernel
theorem dX12_feed_39 : decode cX12_feed 39 = .ok (.if_icmp .ge 7, 3) := by decide +kernel
theorem dX12_feed_42 : decode cX12_feed 42 = .ok (.iload_n 2, 1) := by decide +kernel
theorem dX12_feed_43 : decode cX12_feed 43 = .ok (.goto 28, 3) := by decide +kernel
theorem dX12_feed_46 : decode cX12_feed 46 = .ok (.iload 6, 2) := by decide +kernel
theorem dX12_feed_48 : decode cX12_feed 48 = .ok (.bipush 12, 2) := by decide +kernel
theorem dX12_feed_50 : decode cX12_feed 50 = .ok (.if_icmp .ge 7, 3) := by decide +kernel
theorem dX12_feed_53 : decode cX12_feed 53 = .ok (.iload_n 3, 1) := by decide +kernel
theorem dX12_feed_54 : decode cX12_feed 54 = .ok (.goto 17, 3) := by decide +kernel
theorem dX12_feed_57 : decode cX12_feed 57 = .ok (.iload 6, 2) := by decide +kernel
theorem dX12_feed_59 : decode cX12_feed 59 = .ok (.bipush 16, 2) := by decide +kernel
theorem dX12_feed_61 : decode cX12_feed 61 = .ok (.if_icmp .ge 8, 3) := by decide +kernel
theorem dX12_feed_64 : decode cX12_feed 64 = .ok (.iload 4, 2) := by decide +kernel
theorem dX12_feed_66 : decode cX12_feed 66 = .ok (.goto 5, 3) := by decide +kernel
theorem dX12_feed_69 : decode cX12_feed 69 = .ok (.iload 5, 2) := by decide +kernel
theorem dX12_feed_71 : decode cX12_feed 71 = .ok (.istore 7, 2) := by decide +kernel
theorem dX12_feed_73 : decode cX12_feed 73 = .ok (.aload_n 0, 1) := by decide +kernel
theorem dX12_feed_74 : decode cX12_feed 74 = .ok (.getfield 7, 3) := by decide +kernel
theorem dX12_feed_77 : decode cX12_feed 77 = .ok (.aload_n 0, 1) := by decide +kernel
theorem dX12_feed_78 : decode cX12_feed 78 = .ok (.getfield 476, 3) := by decide +kernel
theorem dX12_feed_81 : decode cX12_feed 81 = .ok (.iload 7, 2) := by decide +kernel
theorem dX12_feed_83 : decode cX12_feed 83 = .ok (.bipush 24, 2) := by decide +kernel
theorem dX12_feed_85 : decode cX12_feed 85 = .ok (.bipush 8, 2) := by decide +kernel
theorem dX12_feed_87 : decode cX12_feed 87 = .ok (.iload 6, 2) := by decide +kernel
theorem dX12_feed_89 : decode cX12_feed 89 = .ok (.iconst 4, 1) := by decide +kernel
theorem dX12_feed_90 : decode cX12_feed 90 = .ok (.irem, 1) := by decide +kernel
theorem dX12_feed_91 : decode cX12_feed 91 = .ok (.imul, 1) := by decide +kernel
theorem dX12_feed_92 : decode cX12_feed 92 = .ok (.isub, 1) := by decide +kernel
theorem dX12_feed_93 : decode cX12_feed 93 = .ok (.ishr, 1) := by decide +kernel
theorem dX12_feed_94 : decode cX12_feed 94 = .ok (.i2b, 1) := by decide +kernel
theorem dX12_feed_95 : decode cX12_feed 95 = .ok (.bastore, 1) := by decide +kernel
theorem dX12_feed_96 : decode cX12_feed 96 = .ok (.aload_n 0, 1) := by decide +kernel
theorem dX12_feed_97 : decode cX12_feed 97 = .ok (.dup, 1) := by decide +kernel
theorem dX12_feed_98 : decode cX12_feed 98 = .ok (.getfield 476, 3) := by decide +kernel
theorem dX12_feed_101 : decode cX12_feed 101 = .ok (.iconst 1, 1) := by decide +kernel
theorem dX12_feed_102 : decode cX12_feed 102 = .ok (.iadd, 1) := by decide +kernel
theorem dX12_feed_103 : decode cX12_feed 103 = .ok (.putfield 476, 3) := by decide +kernel
theorem dX12_feed_106 : decode cX12_feed 106 = .ok (.iinc 6 1, 3) := by decide +kernel
theorem dX12_feed_109 : decode cX12_feed 109 = .ok (.goto (-91), 3) := by decide +kernel
theorem dX12_feed_112 : decode cX12_feed 112 = .ok (.aload_n 0, 1) := by decide +kernel
theorem dX12_feed_113 : decode cX12_feed 113 = .ok (.getfield 476, 3) := by decide +kernel
theorem dX12_feed_116 : decode cX12_feed 116 = .ok (.ireturn, 1) := by decide +kernel
set_option maxHeartbeats 4000000 in
theorem w_X12_feed {v1 v2 v3 v4 v5 : Int} (ht0 : 0 ≤ MI 124 1 ∧ MI 124 1 ≤ 6000) (hT : MI 124 1 + 20 ≤ 6000 → Q (some (vI (MI 124 1 + (20 : Nat)))) (fed MI 125 124 1 (MI 124 1) (gR v1 v2 v3 v4 v5) 20, ML, GR d e nw th x)) (hF : 6000 < MI 124 1 + 20 → Q (some (vI (-1))) (MI, ML, GR d e nw th x)) : wp cs mX12_feed KD Q 0 (padL [vR 124, vI v1, vI v2, vI v3, vI v4, vI v5] 8) [] (KD, MI, ML, GR d e nw th x) := by
  refine wp_L (L' := [some (vR 124), some (vI v1), some (vI v2), some (vI v3), some (vI v4), some (vI v5), none, none]) rfl ?_
  refine wp_aload_n dX12_feed_0 rfl rfl (by first | exact Or.inl (by decide) | exact Or.inl (by omega) | exact Or.inr (by decide) | exact Or.inr (by omega)) ?_
  refine wp_getI dX12_feed_1 fX12_476 rfl (by decide) ?_
  refine wp_bipush dX12_feed_4 (by decide +kernel) (by decide) ?_
  refine wp_iaddr dX12_feed_6 (by omega) ?_
  refine wp_sipush dX12_feed_7 (by decide +kernel) (by decide) ?_
  refine wp_icmp_le (tgt := 15) dX12_feed_10 (by decide) (fun h10 => ?_) (fun h10 => ?_)
  · refine wp_M (M' := ((fed MI 125 124 1 (MI 124 1) (gR v1 v2 v3 v4 v5) 0), ML, GR d e nw th x)) (by rw [fed_0]) ?_
    refine wp_iconst dX12_feed_15 (by decide) ?_
    refine wp_istore dX12_feed_16 (by decide) (wp_L (L' := [some (vR 124), some (vI v1), some (vI v2), some (vI v3), some (vI v4), some (vI v5), some (vI 0), none]) rfl ?_)
    refine wp_iload dX12_feed_18 rfl ?_
    refine wp_bipush dX12_feed_20 (by decide +kernel) (by decide) ?_
    refine wp_icmp_ge (tgt := 112) dX12_feed_22 (by decide) (fun q => absurd q (by decide)) (fun _ => ?_)
    refine wp_iload dX12_feed_25 rfl ?_
    refine wp_iconst dX12_feed_27 (by decide) ?_
    refine wp_pc (pc' := 28) rfl ?_
    refine wp_icmp_ge (tgt := 35) dX12_feed_28 (by decide) (fun q => absurd q (by decide)) (fun _ => ?_)
    refine wp_iload_n dX12_feed_31 rfl rfl ?_
    refine wp_goto (tgt := 71) dX12_feed_32 (by decide) ?_
    refine wp_istore dX12_feed_71 (by decide) (wp_L (L' := [some (vR 124), some (vI v1), some (vI v2), some (vI v3), some (vI v4), some (vI v5), some (vI 0), some (vI v1)]) rfl ?_)
    refine wp_aload_n dX12_feed_73 rfl rfl (by first | exact Or.inl (by decide) | exact Or.inl (by omega) | exact Or.inr (by decide) | exact Or.inr (by omega)) ?_
    refine wp_getR dX12_feed_74 fX12_7 rfl (by decide) ?_
    refine wp_topR (x' := 125) rfl ?_
    refine wp_aload_n dX12_feed_77 rfl rfl (by first | exact Or.inl (by decide) | exact Or.inl (by omega) | exact Or.inr (by decide) | exact Or.inr (by omega)) ?_
    refine wp_getI dX12_feed_78 fX12_476 rfl (by decide) ?_
    refine wp_topI (x' := (MI 124 1 + (0 : Nat))) rfl ?_
    refine wp_pc (pc' := 81) rfl ?_
    refine wp_iload dX12_feed_81 rfl ?_
    refine wp_bipush dX12_feed_83 (by decide +kernel) (by decide) ?_
    refine wp_bipush dX12_feed_85 (by decide +kernel) (by decide) ?_
    refine wp_iload dX12_feed_87 rfl ?_
    refine wp_iconst dX12_feed_89 (by decide) ?_
    refine wp_irem dX12_feed_90 (by omega) ?_
    refine wp_topI (x' := 0) (by decide +kernel) ?_
    refine wp_imulr dX12_feed_91 (by omega) ?_
    refine wp_topI (x' := 0) (by decide) ?_
    refine wp_isubr dX12_feed_92 (by omega) ?_
    refine wp_topI (x' := 24) (by decide) ?_
    refine wp_pc (pc' := 93) rfl ?_
    refine wp_ishr dX12_feed_93 ?_
    refine wp_i2b dX12_feed_94 ?_
    refine wp_bast dX12_feed_95 rfl (by decide) (by omega) (b_2b _) ?_
    refine wp_aload_n dX12_feed_96 rfl rfl (by first | exact Or.inl (by decide) | exact Or.inl (by omega) | exact Or.inr (by decide) | exact Or.inr (by omega)) ?_
    refine wp_dup dX12_feed_97 (fun x e => by cases e) ?_
    refine wp_getI dX12_feed_98 fX12_476 rfl (by decide) ?_
    refine wp_topI (x' := (MI 124 1 + (0 : Nat))) rfl ?_
    refine wp_iconst dX12_feed_101 (by decide) ?_
    refine wp_iaddr dX12_feed_102 (by omega) ?_
    refine wp_pc (pc' := 103) rfl ?_
    refine wp_putI dX12_feed_103 pX12_476 rfl (by decide) ?_
    refine wp_M (M' := ((fed MI 125 124 1 (MI 124 1) (gR v1 v2 v3 v4 v5) 1), ML, (GR d e nw th x))) (congrArg (fun f => (f, ML, GR d e nw th x)) (fed_step (m := 0) (g := gR v1 v2 v3 v4 v5) (by decide) (by omega) rfl)) ?_
    refine wp_iincr dX12_feed_106 rfl (by decide) (by omega) (wp_L (L' := [some (vR 124), some (vI v1), some (vI v2), some (vI v3), some (vI v4), some (vI v5), some (vI 1), some (vI v1)]) rfl ?_)
    refine wp_goto (tgt := 18) dX12_feed_109 (by decide) ?_
    refine wp_iload dX12_feed_18 rfl ?_
    refine wp_bipush dX12_feed_20 (by decide +kernel) (by decide) ?_
    refine wp_icmp_ge (tgt := 112) dX12_feed_22 (by decide) (fun q => absurd q (by decide)) (fun _ => ?_)
    refine wp_iload dX12_feed_25 rfl ?_
    refine wp_iconst dX12_feed_27 (by decide) ?_
    refine wp_pc (pc' := 28) rfl ?_
    refine wp_icmp_ge (tgt := 35) dX12_feed_28 (by decide) (fun q => absurd q (by decide)) (fun _ => ?_)
    refine wp_iload_n dX12_feed_31 rfl rfl ?_
    refine wp_goto (tgt := 71) dX12_feed_32 (by decide) ?_
    refine wp_istore dX12_feed_71 (by decide) (wp_L (L' := [some (vR 124), some (vI v1), some (vI v2), some (vI v3), some (vI v4), some (vI v5), some (vI 1), some (vI v1)]) rfl ?_)
    refine wp_aload_n dX12_feed_73 rfl rfl (by first | exact Or.inl (by decide) | exact Or.inl (by omega) | exact Or.inr (by decide) | exact Or.inr (by omega)) ?_
    refine wp_getR dX12_feed_74 fX12_7 rfl (by decide) ?_
    refine wp_topR (x' := 125) rfl ?_
    refine wp_aload_n dX12_feed_77 rfl rfl (by first | exact Or.inl (by decide) | exact Or.inl (by omega) | exact Or.inr (by decide) | exact Or.inr (by omega)) ?_
    refine wp_getI dX12_feed_78 fX12_476 rfl (by decide) ?_
    refine wp_topI (x' := (MI 124 1 + (1 : Nat))) rfl ?_
    refine wp_pc (pc' := 81) rfl ?_
    refine wp_iload dX12_feed_81 rfl ?_
    refine wp_bipush dX12_feed_83 (by decide +kernel) (by decide) ?_
    refine wp_bipush dX12_feed_85 (by decide +kernel) (by decide) ?_
    refine wp_iload dX12_feed_87 rfl ?_
    refine wp_iconst dX12_feed_89 (by decide) ?_
    refine wp_irem dX12_feed_90 (by omega) ?_
    refine wp_topI (x' := 1) (by decide +kernel) ?_
    refine wp_imulr dX12_feed_91 (by omega) ?_
    refine wp_topI (x' := 8) (by decide) ?_
    refine wp_isubr dX12_feed_92 (by omega) ?_
    refine wp_topI (x' := 16) (by decide) ?_
    refine wp_pc (pc' := 93) rfl ?_
    refine wp_ishr dX12_feed_93 ?_
    refine wp_i2b dX12_feed_94 ?_
    refine wp_bast dX12_feed_95 rfl (by decide) (by omega) (b_2b _) ?_
    refine wp_aload_n dX12_feed_96 rfl rfl (by first | exact Or.inl (by decide) | exact Or.inl (by omega) | exact Or.inr (by decide) | exact Or.inr (by omega)) ?_
    refine wp_dup dX12_feed_97 (fun x e => by cases e) ?_
    refine wp_getI dX12_feed_98 fX12_476 rfl (by decide) ?_
    refine wp_topI (x' := (MI 124 1 + (1 : Nat))) rfl ?_
    refine wp_iconst dX12_feed_101 (by decide) ?_
    refine wp_iaddr dX12_feed_102 (by omega) ?_
    refine wp_pc (pc' := 103) rfl ?_
    refine wp_putI dX12_feed_103 pX12_476 rfl (by decide) ?_
    refine wp_M (M' := ((fed MI 125 124 1 (MI 124 1) (gR v1 v2 v3 v4 v5) 2), ML, (GR d e nw th x))) (congrArg (fun f => (f, ML, GR d e nw th x)) (fed_step (m := 1) (g := gR v1 v2 v3 v4 v5) (by decide) (by omega) rfl)) ?_
    refine wp_iincr dX12_feed_106 rfl (by decide) (by omega) (wp_L (L' := [some (vR 124), some (vI v1), some (vI v2), some (vI v3), some (vI v4), some (vI v5), some (vI 2), some (vI v1)]) rfl ?_)
    refine wp_goto (tgt := 18) dX12_feed_109 (by decide) ?_
    refine wp_iload dX12_feed_18 rfl ?_
    refine wp_bipush dX12_feed_20 (by decide +kernel) (by decide) ?_
    refine wp_icmp_ge (tgt := 112) dX12_feed_22 (by decide) (fun q => absurd q (by decide)) (fun _ => ?_)
    refine wp_iload dX12_feed_25 rfl ?_
    refine wp_iconst dX12_feed_27 (by decide) ?_
    refine wp_pc (pc' := 28) rfl ?_
    refine wp_icmp_ge (tgt := 35) dX12_feed_28 (by decide) (fun q => absurd q (by decide)) (fun _ => ?_)
    refine wp_iload_n dX12_feed_31 rfl rfl ?_
    refine wp_goto (tgt := 71) dX12_feed_32 (by decide) ?_
    refine wp_istore dX12_feed_71 (by decide) (wp_L (L' := [some (vR 124), some (vI v1), some (vI v2), some (vI v3), some (vI v4), some (vI v5), some (vI 2), some (vI v1)]) rfl ?_)
    refine wp_aload_n dX12_feed_73 rfl rfl (by first | exact Or.inl (by decide) | exact Or.inl (by omega) | exact Or.inr (by decide) | exact Or.inr (by omega)) ?_
    refine wp_getR dX12_feed_74 fX12_7 rfl (by decide) ?_
    refine wp_topR (x' := 125) rfl ?_
    refine wp_aload_n dX12_feed_77 rfl rfl (by first | exact Or.inl (by decide) | exact Or.inl (by omega) | exact Or.inr (by decide) | exact Or.inr (by omega)) ?_
    refine wp_getI dX12_feed_78 fX12_476 rfl (by decide) ?_
    refine wp_topI (x' := (MI 124 1 + (2 : Nat))) rfl ?_
    refine wp_pc (pc' := 81) rfl ?_
    refine wp_iload dX12_feed_81 rfl ?_
    refine wp_bipush dX12_feed_83 (by decide +kernel) (by decide) ?_
    refine wp_bipush dX12_feed_85 (by decide +kernel) (by decide) ?_
    refine wp_iload dX12_feed_87 rfl ?_
    refine wp_iconst dX12_feed_89 (by decide) ?_
    refine wp_irem dX12_feed_90 (by omega) ?_
    refine wp_topI (x' := 2) (by decide +kernel) ?_
    refine wp_imulr dX12_feed_91 (by omega) ?_
    refine wp_topI (x' := 16) (by decide) ?_
    refine wp_isubr dX12_feed_92 (by omega) ?_
    refine wp_topI (x' := 8) (by decide) ?_
    refine wp_pc (pc' := 93) rfl ?_
    refine wp_ishr dX12_feed_93 ?_
    refine wp_i2b dX12_feed_94 ?_
    refine wp_bast dX12_feed_95 rfl (by decide) (by omega) (b_2b _) ?_
    refine wp_aload_n dX12_feed_96 rfl rfl (by first | exact Or.inl (by decide) | exact Or.inl (by omega) | exact Or.inr (by decide) | exact Or.inr (by omega)) ?_
    refine wp_dup dX12_feed_97 (fun x e => by cases e) ?_
    refine wp_getI dX12_feed_98 fX12_476 rfl (by decide) ?_
    refine wp_topI (x' := (MI 124 1 + (2 : Nat))) rfl ?_
    refine wp_iconst dX12_feed_101 (by decide) ?_
    refine wp_iaddr dX12_feed_102 (by omega) ?_
    refine wp_pc (pc' := 103) rfl ?_
    refine wp_putI dX12_feed_103 pX12_476 rfl (by decide) ?_
    refine wp_M (M' := ((fed MI 125 124 1 (MI 124 1) (gR v1 v2 v3 v4 v5) 3), ML, (GR d e nw th x))) (congrArg (fun f => (f, ML, GR d e nw th x)) (fed_step (m := 2) (g := gR v1 v2 v3 v4 v5) (by decide) (by omega) rfl)) ?_
    refine wp_iincr dX12_feed_106 rfl (by decide) (by omega) (wp_L (L' := [some (vR 124), some (vI v1), some (vI v2), some (vI v3), some (vI v4), some (vI v5), some (vI 3), some (vI v1)]) rfl ?_)
    refine wp_goto (tgt := 18) dX12_feed_109 (by decide) ?_
    refine wp_iload dX12_feed_18 rfl ?_
    refine wp_bipush dX12_feed_20 (by decide +kernel) (by decide) ?_
    refine wp_icmp_ge (tgt := 112) dX12_feed_22 (by decide) (fun q => absurd q (by decide)) (fun _ => ?_)
    refine wp_iload dX12_feed_25 rfl ?_
    refine wp_iconst dX12_feed_27 (by decide) ?_
    refine wp_pc (pc' := 28) rfl ?_
    refine wp_icmp_ge (tgt := 35) dX12_feed_28 (by decide) (fun q => absurd q (by decide)) (fun _ => ?_)
    refine wp_iload_n dX12_feed_31 rfl rfl ?_
    refine wp_goto (tgt := 71) dX12_feed_32 (by decide) ?_
    refine wp_istore dX12_feed_71 (by decide) (wp_L (L' := [some (vR 124), some (vI v1), some (vI v2), some (vI v3), some (vI v4), some (vI v5), some (vI 3), some (vI v1)]) rfl ?_)
    refine wp_aload_n dX12_feed_73 rfl rfl (by first | exact Or.inl (by decide) | exact Or.inl (by omega) | exact Or.inr (by decide) | exact Or.inr (by omega)) ?_
    refine wp_getR dX12_feed_74 fX12_7 rfl (by decide) ?_
    refine wp_topR (x' := 125) rfl ?_
    refine wp_aload_n dX12_feed_77 rfl rfl (by first | exact Or.inl (by decide) | exact Or.inl (by omega) | exact Or.inr (by decide) | exact Or.inr (by omega)) ?_
    refine wp_getI dX12_feed_78 fX12_476 rfl (by decide) ?_
    refine wp_topI (x' := (MI 124 1 + (3 : Nat))) rfl ?_
    refine wp_pc (pc' := 81) rfl ?_
    refine wp_iload dX12_feed_81 rfl ?_
    refine wp_bipush dX12_feed_83 (by decide +kernel) (by decide) ?_
    refine wp_bipush dX12_feed_85 (by decide +kernel) (by decide) ?_
    refine wp_iload dX12_feed_87 rfl ?_
    refine wp_iconst dX12_feed_89 (by decide) ?_
    refine wp_irem dX12_feed_90 (by omega) ?_
    refine wp_topI (x' := 3) (by decide +kernel) ?_
    refine wp_imulr dX12_feed_91 (by omega) ?_
    refine wp_topI (x' := 24) (by decide) ?_
    refine wp_isubr dX12_feed_92 (by omega) ?_
    refine wp_topI (x' := 0) (by decide) ?_
    refine wp_pc (pc' := 93) rfl ?_
    refine wp_ishr dX12_feed_93 ?_
    refine wp_i2b dX12_feed_94 ?_
    refine wp_bast dX12_feed_95 rfl (by decide) (by omega) (b_2b _) ?_
    refine wp_aload_n dX12_feed_96 rfl rfl (by first | exact Or.inl (by decide) | exact Or.inl (by omega) | exact Or.inr (by decide) | exact Or.inr (by omega)) ?_
    refine wp_dup dX12_feed_97 (fun x e => by cases e) ?_
    refine wp_getI dX12_feed_98 fX12_476 rfl (by decide) ?_
    refine wp_topI (x' := (MI 124 1 + (3 : Nat))) rfl ?_
    refine wp_iconst dX12_feed_101 (by decide) ?_
    refine wp_iaddr dX12_feed_102 (by omega) ?_
    refine wp_pc (pc' := 103) rfl ?_
    refine wp_putI dX12_feed_103 pX12_476 rfl (by decide) ?_
    refine wp_M (M' := ((fed MI 125 124 1 (MI 124 1) (gR v1 v2 v3 v4 v5) 4), ML, (GR d e nw th x))) (congrArg (fun f => (f, ML, GR d e nw th x)) (fed_step (m := 3) (g := gR v1 v2 v3 v4 v5) (by decide) (by omega) rfl)) ?_
    refine wp_iincr dX12_feed_106 rfl (by decide) (by omega) (wp_L (L' := [some (vR 124), some (vI v1), some (vI v2), some (vI v3), some (vI v4), some (vI v5), some (vI 4), some (vI v1)]) rfl ?_)
    refine wp_goto (tgt := 18) dX12_feed_109 (by decide) ?_
    refine wp_iload dX12_feed_18 rfl ?_
    refine wp_bipush dX12_feed_20 (by decide +kernel) (by decide) ?_
    refine wp_icmp_ge (tgt := 112) dX12_feed_22 (by decide) (fun q => absurd q (by decide)) (fun _ => ?_)
    refine wp_iload dX12_feed_25 rfl ?_
    refine wp_iconst dX12_feed_27 (by decide) ?_
    refine wp_pc (pc' := 28) rfl ?_
    refine wp_icmp_ge (tgt := 35) dX12_feed_28 (by decide) (fun _ => ?_) (fun q => absurd q (by decide))
    refine wp_iload dX12_feed_35 rfl ?_
    refine wp_bipush dX12_feed_37 (by decide +kernel) (by decide) ?_
    refine wp_icmp_ge (tgt := 46) dX12_feed_39 (by decide) (fun q => absurd q (by decide)) (fun _ => ?_)
    refine wp_iload_n dX12_feed_42 rfl rfl ?_
    refine wp_goto (tgt := 71) dX12_feed_43 (by decide) ?_
    refine wp_istore dX12_feed_71 (by decide) (wp_L (L' := [some (vR 124), some (vI v1), some (vI v2), some (vI v3), some (vI v4), some (vI v5), some (vI 4), some (vI v2)]) rfl ?_)
    refine wp_aload_n dX12_feed_73 rfl rfl (by first | exact Or.inl (by decide) | exact Or.inl (by omega) | exact Or.inr (by decide) | exact Or.inr (by omega)) ?_
    refine wp_pc (pc' := 74) rfl ?_
    refine wp_getR dX12_feed_74 fX12_7 rfl (by decide) ?_
    refine wp_topR (x' := 125) rfl ?_
    refine wp_aload_n dX12_feed_77 rfl rfl (by first | exact Or.inl (by decide) | exact Or.inl (by omega) | exact Or.inr (by decide) | exact Or.inr (by omega)) ?_
    refine wp_getI dX12_feed_78 fX12_476 rfl (by decide) ?_
    refine wp_topI (x' := (MI 124 1 + (4 : Nat))) rfl ?_
    refine wp_iload dX12_feed_81 rfl ?_
    refine wp_bipush dX12_feed_83 (by decide +kernel) (by decide) ?_
    refine wp_bipush dX12_feed_85 (by decide +kernel) (by decide) ?_
    refine wp_iload dX12_feed_87 rfl ?_
    refine wp_iconst dX12_feed_89 (by decide) ?_
    refine wp_pc (pc' := 90) rfl ?_
    refine wp_irem dX12_feed_90 (by omega) ?_
    refine wp_topI (x' := 0) (by decide +kernel) ?_
    refine wp_imulr dX12_feed_91 (by omega) ?_
    refine wp_topI (x' := 0) (by decide) ?_
    refine wp_isubr dX12_feed_92 (by omega) ?_
    refine wp_topI (x' := 24) (by decide) ?_
    refine wp_ishr dX12_feed_93 ?_
    refine wp_i2b dX12_feed_94 ?_
    refine wp_bast dX12_feed_95 rfl (by decide) (by omega) (b_2b _) ?_
    refine wp_aload_n dX12_feed_96 rfl rfl (by first | exact Or.inl (by decide) | exact Or.inl (by omega) | exact Or.inr (by decide) | exact Or.inr (by omega)) ?_
    refine wp_dup dX12_feed_97 (fun x e => by cases e) ?_
    refine wp_pc (pc' := 98) rfl ?_
    refine wp_getI dX12_feed_98 fX12_476 rfl (by decide) ?_
    refine wp_topI (x' := (MI 124 1 + (4 : Nat))) rfl ?_
    refine wp_iconst dX12_feed_101 (by decide) ?_
    refine wp_iaddr dX12_feed_102 (by omega) ?_
    refine wp_putI dX12_feed_103 pX12_476 rfl (by decide) ?_
    refine wp_M (M' := ((fed MI 125 124 1 (MI 124 1) (gR v1 v2 v3 v4 v5) 5), ML, (GR d e nw th x))) (congrArg (fun f => (f, ML, GR d e nw th x)) (fed_step (m := 4) (g := gR v1 v2 v3 v4 v5) (by decide) (by omega) rfl)) ?_
    refine wp_iincr dX12_feed_106 rfl (by decide) (by omega) (wp_L (L' := [some (vR 124), some (vI v1), some (vI v2), some (vI v3), some (vI v4), some (vI v5), some (vI 5), some (vI v2)]) rfl ?_)
    refine wp_goto (tgt := 18) dX12_feed_109 (by decide) ?_
    refine wp_iload dX12_feed_18 rfl ?_
    refine wp_bipush dX12_feed_20 (by decide +kernel) (by decide) ?_
    refine wp_pc (pc' := 22) rfl ?_
    refine wp_icmp_ge (tgt := 112) dX12_feed_22 (by decide) (fun q => absurd q (by decide)) (fun _ => ?_)
    refine wp_iload dX12_feed_25 rfl ?_
    refine wp_iconst dX12_feed_27 (by decide) ?_
    refine wp_icmp_ge (tgt := 35) dX12_feed_28 (by decide) (fun _ => ?_) (fun q => absurd q (by decide))
    refine wp_iload dX12_feed_35 rfl ?_
    refine wp_bipush dX12_feed_37 (by decide +kernel) (by decide) ?_
    refine wp_icmp_ge (tgt := 46) dX12_feed_39 (by decide) (fun q => absurd q (by decide)) (fun _ => ?_)
    refine wp_iload_n dX12_feed_42 rfl rfl ?_
    refine wp_pc (pc' := 43) rfl ?_
    refine wp_goto (tgt := 71) dX12_feed_43 (by decide) ?_
    refine wp_istore dX12_feed_71 (by decide) (wp_L (L' := [some (vR 124), some (vI v1), some (vI v2), some (vI v3), some (vI v4), some (vI v5), some (vI 5), some (vI v2)]) rfl ?_)
    refine wp_aload_n dX12_feed_73 rfl rfl (by first | exact Or.inl (by decide) | exact Or.inl (by omega) | exact Or.inr (by decide) | exact Or.inr (by omega)) ?_
    refine wp_getR dX12_feed_74 fX12_7 rfl (by decide) ?_
    refine wp_topR (x' := 125) rfl ?_
    refine wp_aload_n dX12_feed_77 rfl rfl (by first | exact Or.inl (by decide) | exact Or.inl (by omega) | exact Or.inr (by decide) | exact Or.inr (by omega)) ?_
    refine wp_getI dX12_feed_78 fX12_476 rfl (by decide) ?_
    refine wp_topI (x' := (MI 124 1 + (5 : Nat))) rfl ?_
    refine wp_iload dX12_feed_81 rfl ?_
    refine wp_bipush dX12_feed_83 (by decide +kernel) (by decide) ?_
    refine wp_pc (pc' := 85) rfl ?_
    refine wp_bipush dX12_feed_85 (by decide +kernel) (by decide) ?_
    refine wp_iload dX12_feed_87 rfl ?_
    refine wp_iconst dX12_feed_89 (by decide) ?_
    refine wp_irem dX12_feed_90 (by omega) ?_
    refine wp_topI (x' := 1) (by decide +kernel) ?_
    refine wp_imulr dX12_feed_91 (by omega) ?_
    refine wp_topI (x' := 8) (by decide) ?_
    refine wp_isubr dX12_feed_92 (by omega) ?_
    refine wp_topI (x' := 16) (by decide) ?_
    refine wp_ishr dX12_feed_93 ?_
    refine wp_i2b dX12_feed_94 ?_
    refine wp_pc (pc' := 95) rfl ?_
    refine wp_bast dX12_feed_95 rfl (by decide) (by omega) (b_2b _) ?_
    refine wp_aload_n dX12_feed_96 rfl rfl (by first | exact Or.inl (by decide) | exact Or.inl (by omega) | exact Or.inr (by decide) | exact Or.inr (by omega)) ?_
    refine wp_dup dX12_feed_97 (fun x e => by cases e) ?_
    refine wp_getI dX12_feed_98 fX12_476 rfl (by decide) ?_
    refine wp_topI (x' := (MI 124 1 + (5 : Nat))) rfl ?_
    refine wp_iconst dX12_feed_101 (by decide) ?_
    refine wp_iaddr dX12_feed_102 (by omega) ?_
    refine wp_putI dX12_feed_103 pX12_476 rfl (by decide) ?_
    refine wp_M (M' := ((fed MI 125 124 1 (MI 124 1) (gR v1 v2 v3 v4 v5) 6), ML, (GR d e nw th x))) (congrArg (fun f => (f, ML, GR d e nw th x)) (fed_step (m := 5) (g := gR v1 v2 v3 v4 v5) (by decide) (by omega) rfl)) ?_
    refine wp_iincr dX12_feed_106 rfl (by decide) (by omega) (wp_L (L' := [some (vR 124), some (vI v1), some (vI v2), some (vI v3), some (vI v4), some (vI v5), some (vI 6), some (vI v2)]) rfl ?_)
    refine wp_pc (pc' := 109) rfl ?_
    refine wp_goto (tgt := 18) dX12_feed_109 (by decide) ?_
    refine wp_iload dX12_feed_18 rfl ?_
    refine wp_bipush dX12_feed_20 (by decide +kernel) (by decide) ?_
    refine wp_icmp_ge (tgt := 112) dX12_feed_22 (by decide) (fun q => absurd q (by decide)) (fun _ => ?_)
    refine wp_iload dX12_feed_25 rfl ?_
    refine wp_iconst dX12_feed_27 (by decide) ?_
    refine wp_icmp_ge (tgt := 35) dX12_feed_28 (by decide) (fun _ => ?_) (fun q => absurd q (by decide))
    refine wp_iload dX12_feed_35 rfl ?_
    refine wp_pc (pc' := 37) rfl ?_
    refine wp_bipush dX12_feed_37 (by decide +kernel) (by decide) ?_
    refine wp_icmp_ge (tgt := 46) dX12_feed_39 (by decide) (fun q => absurd q (by decide)) (fun _ => ?_)
    refine wp_iload_n dX12_feed_42 rfl rfl ?_
    refine wp_goto (tgt := 71) dX12_feed_43 (by decide) ?_
    refine wp_istore dX12_feed_71 (by decide) (wp_L (L' := [some (vR 124), some (vI v1), some (vI v2), some (vI v3), some (vI v4), some (vI v5), some (vI 6), some (vI v2)]) rfl ?_)
    refine wp_aload_n dX12_feed_73 rfl rfl (by first | exact Or.inl (by decide) | exact Or.inl (by omega) | exact Or.inr (by decide) | exact Or.inr (by omega)) ?_
    refine wp_getR dX12_feed_74 fX12_7 rfl (by decide) ?_
    refine wp_topR (x' := 125) rfl ?_
    refine wp_aload_n dX12_feed_77 rfl rfl (by first | exact Or.inl (by decide) | exact Or.inl (by omega) | exact Or.inr (by decide) | exact Or.inr (by omega)) ?_
    refine wp_pc (pc' := 78) rfl ?_
    refine wp_getI dX12_feed_78 fX12_476 rfl (by decide) ?_
    refine wp_topI (x' := (MI 124 1 + (6 : Nat))) rfl ?_
    refine wp_iload dX12_feed_81 rfl ?_
    refine wp_bipush dX12_feed_83 (by decide +kernel) (by decide) ?_
    refine wp_bipush dX12_feed_85 (by decide +kernel) (by decide) ?_
    refine wp_iload dX12_feed_87 rfl ?_
    refine wp_iconst dX12_feed_89 (by decide) ?_
    refine wp_irem dX12_feed_90 (by omega) ?_
    refine wp_topI (x' := 2) (by decide +kernel) ?_
    refine wp_imulr dX12_feed_91 (by omega) ?_
    refine wp_topI (x' := 16) (by decide) ?_
    refine wp_pc (pc' := 92) rfl ?_
    refine wp_isubr dX12_feed_92 (by omega) ?_
    refine wp_topI (x' := 8) (by decide) ?_
    refine wp_ishr dX12_feed_93 ?_
    refine wp_i2b dX12_feed_94 ?_
    refine wp_bast dX12_feed_95 rfl (by decide) (by omega) (b_2b _) ?_
    refine wp_aload_n dX12_feed_96 rfl rfl (by first | exact Or.inl (by decide) | exact Or.inl (by omega) | exact Or.inr (by decide) | exact Or.inr (by omega)) ?_
    refine wp_dup dX12_feed_97 (fun x e => by cases e) ?_
    refine wp_getI dX12_feed_98 fX12_476 rfl (by decide) ?_
    refine wp_topI (x' := (MI 124 1 + (6 : Nat))) rfl ?_
    refine wp_iconst dX12_feed_101 (by decide) ?_
    refine wp_pc (pc' := 102) rfl ?_
    refine wp_iaddr dX12_feed_102 (by omega) ?_
    refine wp_putI dX12_feed_103 pX12_476 rfl (by decide) ?_
    refine wp_M (M' := ((fed MI 125 124 1 (MI 124 1) (gR v1 v2 v3 v4 v5) 7), ML, (GR d e nw th x))) (congrArg (fun f => (f, ML, GR d e nw th x)) (fed_step (m := 6) (g := gR v1 v2 v3 v4 v5) (by decide) (by omega) rfl)) ?_
    refine wp_iincr dX12_feed_106 rfl (by decide) (by omega) (wp_L (L' := [some (vR 124), some (vI v1), some (vI v2), some (vI v3), some (vI v4), some (vI v5), some (vI 7), some (vI v2)]) rfl ?_)
    refine wp_goto (tgt := 18) dX12_feed_109 (by decide) ?_
    refine wp_iload dX12_feed_18 rfl ?_
    refine wp_bipush dX12_feed_20 (by decide +kernel) (by decide) ?_
    refine wp_icmp_ge (tgt := 112) dX12_feed_22 (by decide) (fun q => absurd q (by decide)) (fun _ => ?_)
    refine wp_iload dX12_feed_25 rfl ?_
    refine wp_pc (pc' := 27) rfl ?_
    refine wp_iconst dX12_feed_27 (by decide) ?_
    refine wp_icmp_ge (tgt := 35) dX12_feed_28 (by decide) (fun _ => ?_) (fun q => absurd q (by decide))
    refine wp_iload dX12_feed_35 rfl ?_
    refine wp_bipush dX12_feed_37 (by decide +kernel) (by decide) ?_
    refine wp_icmp_ge (tgt := 46) dX12_feed_39 (by decide) (fun q => absurd q (by decide)) (fun _ => ?_)
    refine wp_iload_n dX12_feed_42 rfl rfl ?_
    refine wp_goto (tgt := 71) dX12_feed_43 (by decide) ?_
    refine wp_istore dX12_feed_71 (by decide) (wp_L (L' := [some (vR 124), some (vI v1), some (vI v2), some (vI v3), some (vI v4), some (vI v5), some (vI 7), some (vI v2)]) rfl ?_)
    refine wp_pc (pc' := 73) rfl ?_
    refine wp_aload_n dX12_feed_73 rfl rfl (by first | exact Or.inl (by decide) | exact Or.inl (by omega) | exact Or.inr (by decide) | exact Or.inr (by omega)) ?_
    refine wp_getR dX12_feed_74 fX12_7 rfl (by decide) ?_
    refine wp_topR (x' := 125) rfl ?_
    refine wp_aload_n dX12_feed_77 rfl rfl (by first | exact Or.inl (by decide) | exact Or.inl (by omega) | exact Or.inr (by decide) | exact Or.inr (by omega)) ?_
    refine wp_getI dX12_feed_78 fX12_476 rfl (by decide) ?_
    refine wp_topI (x' := (MI 124 1 + (7 : Nat))) rfl ?_
    refine wp_iload dX12_feed_81 rfl ?_
    refine wp_bipush dX12_feed_83 (by decide +kernel) (by decide) ?_
    refine wp_bipush dX12_feed_85 (by decide +kernel) (by decide) ?_
    refine wp_iload dX12_feed_87 rfl ?_
    refine wp_pc (pc' := 89) rfl ?_
    refine wp_iconst dX12_feed_89 (by decide) ?_
    refine wp_irem dX12_feed_90 (by omega) ?_
    refine wp_topI (x' := 3) (by decide +kernel) ?_
    refine wp_imulr dX12_feed_91 (by omega) ?_
    refine wp_topI (x' := 24) (by decide) ?_
    refine wp_isubr dX12_feed_92 (by omega) ?_
    refine wp_topI (x' := 0) (by decide) ?_
    refine wp_ishr dX12_feed_93 ?_
    refine wp_i2b dX12_feed_94 ?_
    refine wp_bast dX12_feed_95 rfl (by decide) (by omega) (b_2b _) ?_
    refine wp_aload_n dX12_feed_96 rfl rfl (by first | exact Or.inl (by decide) | exact Or.inl (by omega) | exact Or.inr (by decide) | exact Or.inr (by omega)) ?_
    refine wp_pc (pc' := 97) rfl ?_
    refine wp_dup dX12_feed_97 (fun x e => by cases e) ?_
    refine wp_getI dX12_feed_98 fX12_476 rfl (by decide) ?_
    refine wp_topI (x' := (MI 124 1 + (7 : Nat))) rfl ?_
    refine wp_iconst dX12_feed_101 (by decide) ?_
    refine wp_iaddr dX12_feed_102 (by omega) ?_
    refine wp_putI dX12_feed_103 pX12_476 rfl (by decide) ?_
    refine wp_M (M' := ((fed MI 125 124 1 (MI 124 1) (gR v1 v2 v3 v4 v5) 8), ML, (GR d e nw th x))) (congrArg (fun f => (f, ML, GR d e nw th x)) (fed_step (m := 7) (g := gR v1 v2 v3 v4 v5) (by decide) (by omega) rfl)) ?_
    refine wp_iincr dX12_feed_106 rfl (by decide) (by omega) (wp_L (L' := [some (vR 124), some (vI v1), some (vI v2), some (vI v3), some (vI v4), some (vI v5), some (vI 8), some (vI v2)]) rfl ?_)
    refine wp_goto (tgt := 18) dX12_feed_109 (by decide) ?_
    refine wp_iload dX12_feed_18 rfl ?_
    refine wp_pc (pc' := 20) rfl ?_
    refine wp_bipush dX12_feed_20 (by decide +kernel) (by decide) ?_
    refine wp_icmp_ge (tgt := 112) dX12_feed_22 (by decide) (fun q => absurd q (by decide)) (fun _ => ?_)
    refine wp_iload dX12_feed_25 rfl ?_
    refine wp_iconst dX12_feed_27 (by decide) ?_
    refine wp_icmp_ge (tgt := 35) dX12_feed_28 (by decide) (fun _ => ?_) (fun q => absurd q (by decide))
    refine wp_iload dX12_feed_35 rfl ?_
    refine wp_bipush dX12_feed_37 (by decide +kernel) (by decide) ?_
    refine wp_icmp_ge (tgt := 46) dX12_feed_39 (by decide) (fun _ => ?_) (fun q => absurd q (by decide))
    refine wp_pc (pc' := 46) rfl ?_
    refine wp_iload dX12_feed_46 rfl ?_
    refine wp_bipush dX12_feed_48 (by decide +kernel) (by decide) ?_
    refine wp_icmp_ge (tgt := 57) dX12_feed_50 (by decide) (fun q => absurd q (by decide)) (fun _ => ?_)
    refine wp_iload_n dX12_feed_53 rfl rfl ?_
    refine wp_goto (tgt := 71) dX12_feed_54 (by decide) ?_
    refine wp_istore dX12_feed_71 (by decide) (wp_L (L' := [some (vR 124), some (vI v1), some (vI v2), some (vI v3), some (vI v4), some (vI v5), some (vI 8), some (vI v3)]) rfl ?_)
    refine wp_aload_n dX12_feed_73 rfl rfl (by first | exact Or.inl (by decide) | exact Or.inl (by omega) | exact Or.inr (by decide) | exact Or.inr (by omega)) ?_
    refine wp_getR dX12_feed_74 fX12_7 rfl (by decide) ?_
    refine wp_topR (x' := 125) rfl ?_
    refine wp_pc (pc' := 77) rfl ?_
    refine wp_aload_n dX12_feed_77 rfl rfl (by first | exact Or.inl (by decide) | exact Or.inl (by omega) | exact Or.inr (by decide) | exact Or.inr (by omega)) ?_
    refine wp_getI dX12_feed_78 fX12_476 rfl (by decide) ?_
    refine wp_topI (x' := (MI 124 1 + (8 : Nat))) rfl ?_
    refine wp_iload dX12_feed_81 rfl ?_
    refine wp_bipush dX12_feed_83 (by decide +kernel) (by decide) ?_
    refine wp_bipush dX12_feed_85 (by decide +kernel) (by decide) ?_
    refine wp_iload dX12_feed_87 rfl ?_
    refine wp_iconst dX12_feed_89 (by decide) ?_
    refine wp_irem dX12_feed_90 (by omega) ?_
    refine wp_topI (x' := 0) (by decide +kernel) ?_
    refine wp_pc (pc' := 91) rfl ?_
    refine wp_imulr dX12_feed_91 (by omega) ?_
    refine wp_topI (x' := 0) (by decide) ?_
    refine wp_isubr dX12_feed_92 (by omega) ?_
    refine wp_topI (x' := 24) (by decide) ?_
    refine wp_ishr dX12_feed_93 ?_
    refine wp_i2b dX12_feed_94 ?_
    refine wp_bast dX12_feed_95 rfl (by decide) (by omega) (b_2b _) ?_
    refine wp_aload_n dX12_feed_96 rfl rfl (by first | exact Or.inl (by decide) | exact Or.inl (by omega) | exact Or.inr (by decide) | exact Or.inr (by omega)) ?_
    refine wp_dup dX12_feed_97 (fun x e => by cases e) ?_
    refine wp_getI dX12_feed_98 fX12_476 rfl (by decide) ?_
    refine wp_topI (x' := (MI 124 1 + (8 : Nat))) rfl ?_
    refine wp_pc (pc' := 101) rfl ?_
    refine wp_iconst dX12_feed_101 (by decide) ?_
    refine wp_iaddr dX12_feed_102 (by omega) ?_
    refine wp_putI dX12_feed_103 pX12_476 rfl (by decide) ?_
    refine wp_M (M' := ((fed MI 125 124 1 (MI 124 1) (gR v1 v2 v3 v4 v5) 9), ML, (GR d e nw th x))) (congrArg (fun f => (f, ML, GR d e nw th x)) (fed_step (m := 8) (g := gR v1 v2 v3 v4 v5) (by decide) (by omega) rfl)) ?_
    refine wp_iincr dX12_feed_106 rfl (by decide) (by omega) (wp_L (L' := [some (vR 124), some (vI v1), some (vI v2), some (vI v3), some (vI v4), some (vI v5), some (vI 9), some (vI v3)]) rfl ?_)
    refine wp_goto (tgt := 18) dX12_feed_109 (by decide) ?_
    refine wp_iload dX12_feed_18 rfl ?_
    refine wp_bipush dX12_feed_20 (by decide +kernel) (by decide) ?_
    refine wp_icmp_ge (tgt := 112) dX12_feed_22 (by decide) (fun q => absurd q (by decide)) (fun _ => ?_)
    refine wp_pc (pc' := 25) rfl ?_
    refine wp_iload dX12_feed_25 rfl ?_
    refine wp_iconst dX12_feed_27 (by decide) ?_
    refine wp_icmp_ge (tgt := 35) dX12_feed_28 (by decide) (fun _ => ?_) (fun q => absurd q (by decide))
    refine wp_iload dX12_feed_35 rfl ?_
    refine wp_bipush dX12_feed_37 (by decide +kernel) (by decide) ?_
    refine wp_icmp_ge (tgt := 46) dX12_feed_39 (by decide) (fun _ => ?_) (fun q => absurd q (by decide))
    refine wp_iload dX12_feed_46 rfl ?_
    refine wp_bipush dX12_feed_48 (by decide +kernel) (by decide) ?_
    refine wp_pc (pc' := 50) rfl ?_
    refine wp_icmp_ge (tgt := 57) dX12_feed_50 (by decide) (fun q => absurd q (by decide)) (fun _ => ?_)
    refine wp_iload_n dX12_feed_53 rfl rfl ?_
    refine wp_goto (tgt := 71) dX12_feed_54 (by decide) ?_
    refine wp_istore dX12_feed_71 (by decide) (wp_L (L' := [some (vR 124), some (vI v1), some (vI v2), some (vI v3), some (vI v4), some (vI v5), some (vI 9), some (vI v3)]) rfl ?_)
    refine wp_aload_n dX12_feed_73 rfl rfl (by first | exact Or.inl (by decide) | exact Or.inl (by omega) | exact Or.inr (by decide) | exact Or.inr (by omega)) ?_
    refine wp_getR dX12_feed_74 fX12_7 rfl (by decide) ?_
    refine wp_topR (x' := 125) rfl ?_
    refine wp_aload_n dX12_feed_77 rfl rfl (by first | exact Or.inl (by decide) | exact Or.inl (by omega) | exact Or.inr (by decide) | exact Or.inr (by omega)) ?_
    refine wp_getI dX12_feed_78 fX12_476 rfl (by decide) ?_
    refine wp_topI (x' := (MI 124 1 + (9 : Nat))) rfl ?_
    refine wp_pc (pc' := 81) rfl ?_
    refine wp_iload dX12_feed_81 rfl ?_
    refine wp_bipush dX12_feed_83 (by decide +kernel) (by decide) ?_
    refine wp_bipush dX12_feed_85 (by decide +kernel) (by decide) ?_
    refine wp_iload dX12_feed_87 rfl ?_
    refine wp_iconst dX12_feed_89 (by decide) ?_
    refine wp_irem dX12_feed_90 (by omega) ?_
    refine wp_topI (x' := 1) (by decide +kernel) ?_
    refine wp_imulr dX12_feed_91 (by omega) ?_
    refine wp_topI (x' := 8) (by decide) ?_
    refine wp_isubr dX12_feed_92 (by omega) ?_
    refine wp_topI (x' := 16) (by decide) ?_
    refine wp_pc (pc' := 93) rfl ?_
    refine wp_ishr dX12_feed_93 ?_
    refine wp_i2b dX12_feed_94 ?_
    refine wp_bast dX12_feed_95 rfl (by decide) (by omega) (b_2b _) ?_
    refine wp_aload_n dX12_feed_96 rfl rfl (by first | exact Or.inl (by decide) | exact Or.inl (by omega) | exact Or.inr (by decide) | exact Or.inr (by omega)) ?_
    refine wp_dup dX12_feed_97 (fun x e => by cases e) ?_
    refine wp_getI dX12_feed_98 fX12_476 rfl (by decide) ?_
    refine wp_topI (x' := (MI 124 1 + (9 : Nat))) rfl ?_
    refine wp_iconst dX12_feed_101 (by decide) ?_
    refine wp_iaddr dX12_feed_102 (by omega) ?_
    refine wp_pc (pc' := 103) rfl ?_
    refine wp_putI dX12_feed_103 pX12_476 rfl (by decide) ?_
    refine wp_M (M' := ((fed MI 125 124 1 (MI 124 1) (gR v1 v2 v3 v4 v5) 10), ML, (GR d e nw th x))) (congrArg (fun f => (f, ML, GR d e nw th x)) (fed_step (m := 9) (g := gR v1 v2 v3 v4 v5) (by decide) (by omega) rfl)) ?_
    refine wp_iincr dX12_feed_106 rfl (by decide) (by omega) (wp_L (L' := [some (vR 124), some (vI v1), some (vI v2), some (vI v3), some (vI v4), some (vI v5), some (vI 10), some (vI v3)]) rfl ?_)
    refine wp_goto (tgt := 18) dX12_feed_109 (by decide) ?_
    refine wp_iload dX12_feed_18 rfl ?_
    refine wp_bipush dX12_feed_20 (by decide +kernel) (by decide) ?_
    refine wp_icmp_ge (tgt := 112) dX12_feed_22 (by decide) (fun q => absurd q (by decide)) (fun _ => ?_)
    refine wp_iload dX12_feed_25 rfl ?_
    refine wp_iconst dX12_feed_27 (by decide) ?_
    refine wp_pc (pc' := 28) rfl ?_
    refine wp_icmp_ge (tgt := 35) dX12_feed_28 (by decide) (fun _ => ?_) (fun q => absurd q (by decide))
    refine wp_iload dX12_feed_35 rfl ?_
    refine wp_bipush dX12_feed_37 (by decide +kernel) (by decide) ?_
    refine wp_icmp_ge (tgt := 46) dX12_feed_39 (by decide) (fun _ => ?_) (fun q => absurd q (by decide))
    refine wp_iload dX12_feed_46 rfl ?_
    refine wp_bipush dX12_feed_48 (by decide +kernel) (by decide) ?_
    refine wp_icmp_ge (tgt := 57) dX12_feed_50 (by decide) (fun q => absurd q (by decide)) (fun _ => ?_)
    refine wp_iload_n dX12_feed_53 rfl rfl ?_
    refine wp_pc (pc' := 54) rfl ?_
    refine wp_goto (tgt := 71) dX12_feed_54 (by decide) ?_
    refine wp_istore dX12_feed_71 (by decide) (wp_L (L' := [some (vR 124), some (vI v1), some (vI v2), some (vI v3), some (vI v4), some (vI v5), some (vI 10), some (vI v3)]) rfl ?_)
    refine wp_aload_n dX12_feed_73 rfl rfl (by first | exact Or.inl (by decide) | exact Or.inl (by omega) | exact Or.inr (by decide) | exact Or.inr (by omega)) ?_
    refine wp_getR dX12_feed_74 fX12_7 rfl (by decide) ?_
    refine wp_topR (x' := 125) rfl ?_
    refine wp_aload_n dX12_feed_77 rfl rfl (by first | exact Or.inl (by decide) | exact Or.inl (by omega) | exact Or.inr (by decide) | exact Or.inr (by omega)) ?_
    refine wp_getI dX12_feed_78 fX12_476 rfl (by decide) ?_
    refine wp_topI (x' := (MI 124 1 + (10 : Nat))) rfl ?_
    refine wp_iload dX12_feed_81 rfl ?_
    refine wp_bipush dX12_feed_83 (by decide +kernel) (by decide) ?_
    refine wp_pc (pc' := 85) rfl ?_
    refine wp_bipush dX12_feed_85 (by decide +kernel) (by decide) ?_
    refine wp_iload dX12_feed_87 rfl ?_
    refine wp_iconst dX12_feed_89 (by decide) ?_
    refine wp_irem dX12_feed_90 (by omega) ?_
    refine wp_topI (x' := 2) (by decide +kernel) ?_
    refine wp_imulr dX12_feed_91 (by omega) ?_
    refine wp_topI (x' := 16) (by decide) ?_
    refine wp_isubr dX12_feed_92 (by omega) ?_
    refine wp_topI (x' := 8) (by decide) ?_
    refine wp_ishr dX12_feed_93 ?_
    refine wp_i2b dX12_feed_94 ?_
    refine wp_pc (pc' := 95) rfl ?_
    refine wp_bast dX12_feed_95 rfl (by decide) (by omega) (b_2b _) ?_
    refine wp_aload_n dX12_feed_96 rfl rfl (by first | exact Or.inl (by decide) | exact Or.inl (by omega) | exact Or.inr (by decide) | exact Or.inr (by omega)) ?_
    refine wp_dup dX12_feed_97 (fun x e => by cases e) ?_
    refine wp_getI dX12_feed_98 fX12_476 rfl (by decide) ?_
    refine wp_topI (x' := (MI 124 1 + (10 : Nat))) rfl ?_
    refine wp_iconst dX12_feed_101 (by decide) ?_
    refine wp_iaddr dX12_feed_102 (by omega) ?_
    refine wp_putI dX12_feed_103 pX12_476 rfl (by decide) ?_
    refine wp_M (M' := ((fed MI 125 124 1 (MI 124 1) (gR v1 v2 v3 v4 v5) 11), ML, (GR d e nw th x))) (congrArg (fun f => (f, ML, GR d e nw th x)) (fed_step (m := 10) (g := gR v1 v2 v3 v4 v5) (by decide) (by omega) rfl)) ?_
    refine wp_iincr dX12_feed_106 rfl (by decide) (by omega) (wp_L (L' := [some (vR 124), some (vI v1), some (vI v2), some (vI v3), some (vI v4), some (vI v5), some (vI 11), some (vI v3)]) rfl ?_)
    refine wp_pc (pc' := 109) rfl ?_
    refine wp_goto (tgt := 18) dX12_feed_109 (by decide) ?_
    refine wp_iload dX12_feed_18 rfl ?_
    refine wp_bipush dX12_feed_20 (by decide +kernel) (by decide) ?_
    refine wp_icmp_ge (tgt := 112) dX12_feed_22 (by decide) (fun q => absurd q (by decide)) (fun _ => ?_)
    refine wp_iload dX12_feed_25 rfl ?_
    refine wp_iconst dX12_feed_27 (by decide) ?_
    refine wp_icmp_ge (tgt := 35) dX12_feed_28 (by decide) (fun _ => ?_) (fun q => absurd q (by decide))
    refine wp_iload dX12_feed_35 rfl ?_
    refine wp_pc (pc' := 37) rfl ?_
    refine wp_bipush dX12_feed_37 (by decide +kernel) (by decide) ?_
    refine wp_icmp_ge (tgt := 46) dX12_feed_39 (by decide) (fun _ => ?_) (fun q => absurd q (by decide))
    refine wp_iload dX12_feed_46 rfl ?_
    refine wp_bipush dX12_feed_48 (by decide +kernel) (by decide) ?_
    refine wp_icmp_ge (tgt := 57) dX12_feed_50 (by decide) (fun q => absurd q (by decide)) (fun _ => ?_)
    refine wp_iload_n dX12_feed_53 rfl rfl ?_
    refine wp_goto (tgt := 71) dX12_feed_54 (by decide) ?_
    refine wp_istore dX12_feed_71 (by decide) (wp_L (L' := [some (vR 124), some (vI v1), some (vI v2), some (vI v3), some (vI v4), some (vI v5), some (vI 11), some (vI v3)]) rfl ?_)
    refine wp_pc (pc' := 73) rfl ?_
    refine wp_aload_n dX12_feed_73 rfl rfl (by first | exact Or.inl (by decide) | exact Or.inl (by omega) | exact Or.inr (by decide) | exact Or.inr (by omega)) ?_
    refine wp_getR dX12_feed_74 fX12_7 rfl (by decide) ?_
    refine wp_topR (x' := 125) rfl ?_
    refine wp_aload_n dX12_feed_77 rfl rfl (by first | exact Or.inl (by decide) | exact Or.inl (by omega) | exact Or.inr (by decide) | exact Or.inr (by omega)) ?_
    refine wp_getI dX12_feed_78 fX12_476 rfl (by decide) ?_
    refine wp_topI (x' := (MI 124 1 + (11 : Nat))) rfl ?_
    refine wp_iload dX12_feed_81 rfl ?_
    refine wp_bipush dX12_feed_83 (by decide +kernel) (by decide) ?_
    refine wp_bipush dX12_feed_85 (by decide +kernel) (by decide) ?_
    refine wp_iload dX12_feed_87 rfl ?_
    refine wp_pc (pc' := 89) rfl ?_
    refine wp_iconst dX12_feed_89 (by decide) ?_
    refine wp_irem dX12_feed_90 (by omega) ?_
    refine wp_topI (x' := 3) (by decide +kernel) ?_
    refine wp_imulr dX12_feed_91 (by omega) ?_
    refine wp_topI (x' := 24) (by decide) ?_
    refine wp_isubr dX12_feed_92 (by omega) ?_
    refine wp_topI (x' := 0) (by decide) ?_
    refine wp_ishr dX12_feed_93 ?_
    refine wp_i2b dX12_feed_94 ?_
    refine wp_bast dX12_feed_95 rfl (by decide) (by omega) (b_2b _) ?_
    refine wp_aload_n dX12_feed_96 rfl rfl (by first | exact Or.inl (by decide) | exact Or.inl (by omega) | exact Or.inr (by decide) | exact Or.inr (by omega)) ?_
    refine wp_pc (pc' := 97) rfl ?_
    refine wp_dup dX12_feed_97 (fun x e => by cases e) ?_
    refine wp_getI dX12_feed_98 fX12_476 rfl (by decide) ?_
    refine wp_topI (x' := (MI 124 1 + (11 : Nat))) rfl ?_
    refine wp_iconst dX12_feed_101 (by decide) ?_
    refine wp_iaddr dX12_feed_102 (by omega) ?_
    refine wp_putI dX12_feed_103 pX12_476 rfl (by decide) ?_
    refine wp_M (M' := ((fed MI 125 124 1 (MI 124 1) (gR v1 v2 v3 v4 v5) 12), ML, (GR d e nw th x))) (congrArg (fun f => (f, ML, GR d e nw th x)) (fed_step (m := 11) (g := gR v1 v2 v3 v4 v5) (by decide) (by omega) rfl)) ?_
    refine wp_iincr dX12_feed_106 rfl (by decide) (by omega) (wp_L (L' := [some (vR 124), some (vI v1), some (vI v2), some (vI v3), some (vI v4), some (vI v5), some (vI 12), some (vI v3)]) rfl ?_)
    refine wp_goto (tgt := 18) dX12_feed_109 (by decide) ?_
    refine wp_iload dX12_feed_18 rfl ?_
    refine wp_pc (pc' := 20) rfl ?_
    refine wp_bipush dX12_feed_20 (by decide +kernel) (by decide) ?_
    refine wp_icmp_ge (tgt := 112) dX12_feed_22 (by decide) (fun q => absurd q (by decide)) (fun _ => ?_)
    refine wp_iload dX12_feed_25 rfl ?_
    refine wp_iconst dX12_feed_27 (by decide) ?_
    refine wp_icmp_ge (tgt := 35) dX12_feed_28 (by decide) (fun _ => ?_) (fun q => absurd q (by decide))
    refine wp_iload dX12_feed_35 rfl ?_
    refine wp_bipush dX12_feed_37 (by decide +kernel) (by decide) ?_
    refine wp_icmp_ge (tgt := 46) dX12_feed_39 (by decide) (fun _ => ?_) (fun q => absurd q (by decide))
    refine wp_pc (pc' := 46) rfl ?_
    refine wp_iload dX12_feed_46 rfl ?_
    refine wp_bipush dX12_feed_48 (by decide +kernel) (by decide) ?_
    refine wp_icmp_ge (tgt := 57) dX12_feed_50 (by decide) (fun _ => ?_) (fun q => absurd q (by decide))
    refine wp_iload dX12_feed_57 rfl ?_
    refine wp_bipush dX12_feed_59 (by decide +kernel) (by decide) ?_
    refine wp_icmp_ge (tgt := 69) dX12_feed_61 (by decide) (fun q => absurd q (by decide)) (fun _ => ?_)
    refine wp_iload dX12_feed_64 rfl ?_
    refine wp_goto (tgt := 71) dX12_feed_66 (by decide) ?_
    refine wp_pc (pc' := 71) rfl ?_
    refine wp_istore dX12_feed_71 (by decide) (wp_L (L' := [some (vR 124), some (vI v1), some (vI v2), some (vI v3), some (vI v4), some (vI v5), some (vI 12), some (vI v4)]) rfl ?_)
    refine wp_aload_n dX12_feed_73 rfl rfl (by first | exact Or.inl (by decide) | exact Or.inl (by omega) | exact Or.inr (by decide) | exact Or.inr (by omega)) ?_
    refine wp_getR dX12_feed_74 fX12_7 rfl (by decide) ?_
    refine wp_topR (x' := 125) rfl ?_
    refine wp_aload_n dX12_feed_77 rfl rfl (by first | exact Or.inl (by decide) | exact Or.inl (by omega) | exact Or.inr (by decide) | exact Or.inr (by omega)) ?_
    refine wp_getI dX12_feed_78 fX12_476 rfl (by decide) ?_
    refine wp_topI (x' := (MI 124 1 + (12 : Nat))) rfl ?_
    refine wp_iload dX12_feed_81 rfl ?_
    refine wp_bipush dX12_feed_83 (by decide +kernel) (by decide) ?_
    refine wp_bipush dX12_feed_85 (by decide +kernel) (by decide) ?_
    refine wp_pc (pc' := 87) rfl ?_
    refine wp_iload dX12_feed_87 rfl ?_
    refine wp_iconst dX12_feed_89 (by decide) ?_
    refine wp_irem dX12_feed_90 (by omega) ?_
    refine wp_topI (x' := 0) (by decide +kernel) ?_
    refine wp_imulr dX12_feed_91 (by omega) ?_
    refine wp_topI (x' := 0) (by decide) ?_
    refine wp_isubr dX12_feed_92 (by omega) ?_
    refine wp_topI (x' := 24) (by decide) ?_
    refine wp_ishr dX12_feed_93 ?_
    refine wp_i2b dX12_feed_94 ?_
    refine wp_bast dX12_feed_95 rfl (by decide) (by omega) (b_2b _) ?_
    refine wp_pc (pc' := 96) rfl ?_
    refine wp_aload_n dX12_feed_96 rfl rfl (by first | exact Or.inl (by decide) | exact Or.inl (by omega) | exact Or.inr (by decide) | exact Or.inr (by omega)) ?_
    refine wp_dup dX12_feed_97 (fun x e => by cases e) ?_
    refine wp_getI dX12_feed_98 fX12_476 rfl (by decide) ?_
    refine wp_topI (x' := (MI 124 1 + (12 : Nat))) rfl ?_
    refine wp_iconst dX12_feed_101 (by decide) ?_
    refine wp_iaddr dX12_feed_102 (by omega) ?_
    refine wp_putI dX12_feed_103 pX12_476 rfl (by decide) ?_
    refine wp_M (M' := ((fed MI 125 124 1 (MI 124 1) (gR v1 v2 v3 v4 v5) 13), ML, (GR d e nw th x))) (congrArg (fun f => (f, ML, GR d e nw th x)) (fed_step (m := 12) (g := gR v1 v2 v3 v4 v5) (by decide) (by omega) rfl)) ?_
    refine wp_iincr dX12_feed_106 rfl (by decide) (by omega) (wp_L (L' := [some (vR 124), some (vI v1), some (vI v2), some (vI v3), some (vI v4), some (vI v5), some (vI 13), some (vI v4)]) rfl ?_)
    refine wp_goto (tgt := 18) dX12_feed_109 (by decide) ?_
    refine wp_pc (pc' := 18) rfl ?_
    refine wp_iload dX12_feed_18 rfl ?_
    refine wp_bipush dX12_feed_20 (by decide +kernel) (by decide) ?_
    refine wp_icmp_ge (tgt := 112) dX12_feed_22 (by decide) (fun q => absurd q (by decide)) (fun _ => ?_)
    refine wp_iload dX12_feed_25 rfl ?_
    refine wp_iconst dX12_feed_27 (by decide) ?_
    refine wp_icmp_ge (tgt := 35) dX12_feed_28 (by decide) (fun _ => ?_) (fun q => absurd q (by decide))
    refine wp_iload dX12_feed_35 rfl ?_
    refine wp_bipush dX12_feed_37 (by decide +kernel) (by decide) ?_
    refine wp_pc (pc' := 39) rfl ?_
    refine wp_icmp_ge (tgt := 46) dX12_feed_39 (by decide) (fun _ => ?_) (fun q => absurd q (by decide))
    refine wp_iload dX12_feed_46 rfl ?_
    refine wp_bipush dX12_feed_48 (by decide +kernel) (by decide) ?_
    refine wp_icmp_ge (tgt := 57) dX12_feed_50 (by decide) (fun _ => ?_) (fun q => absurd q (by decide))
    refine wp_iload dX12_feed_57 rfl ?_
    refine wp_bipush dX12_feed_59 (by decide +kernel) (by decide) ?_
    refine wp_icmp_ge (tgt := 69) dX12_feed_61 (by decide) (fun q => absurd q (by decide)) (fun _ => ?_)
    refine wp_iload dX12_feed_64 rfl ?_
    refine wp_pc (pc' := 66) rfl ?_
    refine wp_goto (tgt := 71) dX12_feed_66 (by decide) ?_
    refine wp_istore dX12_feed_71 (by decide) (wp_L (L' := [some (vR 124), some (vI v1), some (vI v2), some (vI v3), some (vI v4), some (vI v5), some (vI 13), some (vI v4)]) rfl ?_)
    refine wp_aload_n dX12_feed_73 rfl rfl (by first | exact Or.inl (by decide) | exact Or.inl (by omega) | exact Or.inr (by decide) | exact Or.inr (by omega)) ?_
    refine wp_getR dX12_feed_74 fX12_7 rfl (by decide) ?_
    refine wp_topR (x' := 125) rfl ?_
    refine wp_aload_n dX12_feed_77 rfl rfl (by first | exact Or.inl (by decide) | exact Or.inl (by omega) | exact Or.inr (by decide) | exact Or.inr (by omega)) ?_
    refine wp_getI dX12_feed_78 fX12_476 rfl (by decide) ?_
    refine wp_topI (x' := (MI 124 1 + (13 : Nat))) rfl ?_
    refine wp_iload dX12_feed_81 rfl ?_
    refine wp_bipush dX12_feed_83 (by decide +kernel) (by decide) ?_
    refine wp_pc (pc' := 85) rfl ?_
    refine wp_bipush dX12_feed_85 (by decide +kernel) (by decide) ?_
    refine wp_iload dX12_feed_87 rfl ?_
    refine wp_iconst dX12_feed_89 (by decide) ?_
    refine wp_irem dX12_feed_90 (by omega) ?_
    refine wp_topI (x' := 1) (by decide +kernel) ?_
    refine wp_imulr dX12_feed_91 (by omega) ?_
    refine wp_topI (x' := 8) (by decide) ?_
    refine wp_isubr dX12_feed_92 (by omega) ?_
    refine wp_topI (x' := 16) (by decide) ?_
    refine wp_ishr dX12_feed_93 ?_
    refine wp_i2b dX12_feed_94 ?_
    refine wp_pc (pc' := 95) rfl ?_
    refine wp_bast dX12_feed_95 rfl (by decide) (by omega) (b_2b _) ?_
    refine wp_aload_n dX12_feed_96 rfl rfl (by first | exact Or.inl (by decide) | exact Or.inl (by omega) | exact Or.inr (by decide) | exact Or.inr (by omega)) ?_
    refine wp_dup dX12_feed_97 (fun x e => by cases e) ?_
    refine wp_getI dX12_feed_98 fX12_476 rfl (by decide) ?_
    refine wp_topI (x' := (MI 124 1 + (13 : Nat))) rfl ?_
    refine wp_iconst dX12_feed_101 (by decide) ?_
    refine wp_iaddr dX12_feed_102 (by omega) ?_
    refine wp_putI dX12_feed_103 pX12_476 rfl (by decide) ?_
    refine wp_M (M' := ((fed MI 125 124 1 (MI 124 1) (gR v1 v2 v3 v4 v5) 14), ML, (GR d e nw th x))) (congrArg (fun f => (f, ML, GR d e nw th x)) (fed_step (m := 13) (g := gR v1 v2 v3 v4 v5) (by decide) (by omega) rfl)) ?_
    refine wp_iincr dX12_feed_106 rfl (by decide) (by omega) (wp_L (L' := [some (vR 124), some (vI v1), some (vI v2), some (vI v3), some (vI v4), some (vI v5), some (vI 14), some (vI v4)]) rfl ?_)
    refine wp_pc (pc' := 109) rfl ?_
    refine wp_goto (tgt := 18) dX12_feed_109 (by decide) ?_
    refine wp_iload dX12_feed_18 rfl ?_
    refine wp_bipush dX12_feed_20 (by decide +kernel) (by decide) ?_
    refine wp_icmp_ge (tgt := 112) dX12_feed_22 (by decide) (fun q => absurd q (by decide)) (fun _ => ?_)
    refine wp_iload dX12_feed_25 rfl ?_
    refine wp_iconst dX12_feed_27 (by decide) ?_
    refine wp_icmp_ge (tgt := 35) dX12_feed_28 (by decide) (fun _ => ?_) (fun q => absurd q (by decide))
    refine wp_iload dX12_feed_35 rfl ?_
    refine wp_pc (pc' := 37) rfl ?_
    refine wp_bipush dX12_feed_37 (by decide +kernel) (by decide) ?_
    refine wp_icmp_ge (tgt := 46) dX12_feed_39 (by decide) (fun _ => ?_) (fun q => absurd q (by decide))
    refine wp_iload dX12_feed_46 rfl ?_
    refine wp_bipush dX12_feed_48 (by decide +kernel) (by decide) ?_
    refine wp_icmp_ge (tgt := 57) dX12_feed_50 (by decide) (fun _ => ?_) (fun q => absurd q (by decide))
    refine wp_iload dX12_feed_57 rfl ?_
    refine wp_bipush dX12_feed_59 (by decide +kernel) (by decide) ?_
    refine wp_icmp_ge (tgt := 69) dX12_feed_61 (by decide) (fun q => absurd q (by decide)) (fun _ => ?_)
    refine wp_pc (pc' := 64) rfl ?_
    refine wp_iload dX12_feed_64 rfl ?_
    refine wp_goto (tgt := 71) dX12_feed_66 (by decide) ?_
    refine wp_istore dX12_feed_71 (by decide) (wp_L (L' := [some (vR 124), some (vI v1), some (vI v2), some (vI v3), some (vI v4), some (vI v5), some (vI 14), some (vI v4)]) rfl ?_)
    refine wp_aload_n dX12_feed_73 rfl rfl (by first | exact Or.inl (by decide) | exact Or.inl (by omega) | exact Or.inr (by decide) | exact Or.inr (by omega)) ?_
    refine wp_getR dX12_feed_74 fX12_7 rfl (by decide) ?_
    refine wp_topR (x' := 125) rfl ?_
    refine wp_aload_n dX12_feed_77 rfl rfl (by first | exact Or.inl (by decide) | exact Or.inl (by omega) | exact Or.inr (by decide) | exact Or.inr (by omega)) ?_
    refine wp_getI dX12_feed_78 fX12_476 rfl (by decide) ?_
    refine wp_topI (x' := (MI 124 1 + (14 : Nat))) rfl ?_
    refine wp_iload dX12_feed_81 rfl ?_
    refine wp_pc (pc' := 83) rfl ?_
    refine wp_bipush dX12_feed_83 (by decide +kernel) (by decide) ?_
    refine wp_bipush dX12_feed_85 (by decide +kernel) (by decide) ?_
    refine wp_iload dX12_feed_87 rfl ?_
    refine wp_iconst dX12_feed_89 (by decide) ?_
    refine wp_irem dX12_feed_90 (by omega) ?_
    refine wp_topI (x' := 2) (by decide +kernel) ?_
    refine wp_imulr dX12_feed_91 (by omega) ?_
    refine wp_topI (x' := 16) (by decide) ?_
    refine wp_isubr dX12_feed_92 (by omega) ?_
    refine wp_topI (x' := 8) (by decide) ?_
    refine wp_ishr dX12_feed_93 ?_
    refine wp_pc (pc' := 94) rfl ?_
    refine wp_i2b dX12_feed_94 ?_
    refine wp_bast dX12_feed_95 rfl (by decide) (by omega) (b_2b _) ?_
    refine wp_aload_n dX12_feed_96 rfl rfl (by first | exact Or.inl (by decide) | exact Or.inl (by omega) | exact Or.inr (by decide) | exact Or.inr (by omega)) ?_
    refine wp_dup dX12_feed_97 (fun x e => by cases e) ?_
    refine wp_getI dX12_feed_98 fX12_476 rfl (by decide) ?_
    refine wp_topI (x' := (MI 124 1 + (14 : Nat))) rfl ?_
    refine wp_iconst dX12_feed_101 (by decide) ?_
    refine wp_iaddr dX12_feed_102 (by omega) ?_
    refine wp_putI dX12_feed_103 pX12_476 rfl (by decide) ?_
    refine wp_M (M' := ((fed MI 125 124 1 (MI 124 1) (gR v1 v2 v3 v4 v5) 15), ML, (GR d e nw th x))) (congrArg (fun f => (f, ML, GR d e nw th x)) (fed_step (m := 14) (g := gR v1 v2 v3 v4 v5) (by decide) (by omega) rfl)) ?_
    refine wp_pc (pc' := 106) rfl ?_
    refine wp_iincr dX12_feed_106 rfl (by decide) (by omega) (wp_L (L' := [some (vR 124), some (vI v1), some (vI v2), some (vI v3), some (vI v4), some (vI v5), some (vI 15), some (vI v4)]) rfl ?_)
    refine wp_goto (tgt := 18) dX12_feed_109 (by decide) ?_
    refine wp_iload dX12_feed_18 rfl ?_
    refine wp_bipush dX12_feed_20 (by decide +kernel) (by decide) ?_
    refine wp_icmp_ge (tgt := 112) dX12_feed_22 (by decide) (fun q => absurd q (by decide)) (fun _ => ?_)
    refine wp_iload dX12_feed_25 rfl ?_
    refine wp_iconst dX12_feed_27 (by decide) ?_
    refine wp_icmp_ge (tgt := 35) dX12_feed_28 (by decide) (fun _ => ?_) (fun q => absurd q (by decide))
    refine wp_pc (pc' := 35) rfl ?_
    refine wp_iload dX12_feed_35 rfl ?_
    refine wp_bipush dX12_feed_37 (by decide +kernel) (by decide) ?_
    refine wp_icmp_ge (tgt := 46) dX12_feed_39 (by decide) (fun _ => ?_) (fun q => absurd q (by decide))
    refine wp_iload dX12_feed_46 rfl ?_
    refine wp_bipush dX12_feed_48 (by decide +kernel) (by decide) ?_
    refine wp_icmp_ge (tgt := 57) dX12_feed_50 (by decide) (fun _ => ?_) (fun q => absurd q (by decide))
    refine wp_iload dX12_feed_57 rfl ?_
    refine wp_bipush dX12_feed_59 (by decide +kernel) (by decide) ?_
    refine wp_pc (pc' := 61) rfl ?_
    refine wp_icmp_ge (tgt := 69) dX12_feed_61 (by decide) (fun q => absurd q (by decide)) (fun _ => ?_)
    refine wp_iload dX12_feed_64 rfl ?_
    refine wp_goto (tgt := 71) dX12_feed_66 (by decide) ?_
    refine wp_istore dX12_feed_71 (by decide) (wp_L (L' := [some (vR 124), some (vI v1), some (vI v2), some (vI v3), some (vI v4), some (vI v5), some (vI 15), some (vI v4)]) rfl ?_)
    refine wp_aload_n dX12_feed_73 rfl rfl (by first | exact Or.inl (by decide) | exact Or.inl (by omega) | exact Or.inr (by decide) | exact Or.inr (by omega)) ?_
    refine wp_getR dX12_feed_74 fX12_7 rfl (by decide) ?_
    refine wp_topR (x' := 125) rfl ?_
    refine wp_aload_n dX12_feed_77 rfl rfl (by first | exact Or.inl (by decide) | exact Or.inl (by omega) | exact Or.inr (by decide) | exact Or.inr (by omega)) ?_
    refine wp_getI dX12_feed_78 fX12_476 rfl (by decide) ?_
    refine wp_topI (x' := (MI 124 1 + (15 : Nat))) rfl ?_
    refine wp_pc (pc' := 81) rfl ?_
    refine wp_iload dX12_feed_81 rfl ?_
    refine wp_bipush dX12_feed_83 (by decide +kernel) (by decide) ?_
    refine wp_bipush dX12_feed_85 (by decide +kernel) (by decide) ?_
    refine wp_iload dX12_feed_87 rfl ?_
    refine wp_iconst dX12_feed_89 (by decide) ?_
    refine wp_irem dX12_feed_90 (by omega) ?_
    refine wp_topI (x' := 3) (by decide +kernel) ?_
    refine wp_imulr dX12_feed_91 (by omega) ?_
    refine wp_topI (x' := 24) (by decide) ?_
    refine wp_isubr dX12_feed_92 (by omega) ?_
    refine wp_topI (x' := 0) (by decide) ?_
    refine wp_pc (pc' := 93) rfl ?_
    refine wp_ishr dX12_feed_93 ?_
    refine wp_i2b dX12_feed_94 ?_
    refine wp_bast dX12_feed_95 rfl (by decide) (by omega) (b_2b _) ?_
    refine wp_aload_n dX12_feed_96 rfl rfl (by first | exact Or.inl (by decide) | exact Or.inl (by omega) | exact Or.inr (by decide) | exact Or.inr (by omega)) ?_
    refine wp_dup dX12_feed_97 (fun x e => by cases e) ?_
    refine wp_getI dX12_feed_98 fX12_476 rfl (by decide) ?_
    refine wp_topI (x' := (MI 124 1 + (15 : Nat))) rfl ?_
    refine wp_iconst dX12_feed_101 (by decide) ?_
    refine wp_iaddr dX12_feed_102 (by omega) ?_
    refine wp_pc (pc' := 103) rfl ?_
    refine wp_putI dX12_feed_103 pX12_476 rfl (by decide) ?_
    refine wp_M (M' := ((fed MI 125 124 1 (MI 124 1) (gR v1 v2 v3 v4 v5) 16), ML, (GR d e nw th x))) (congrArg (fun f => (f, ML, GR d e nw th x)) (fed_step (m := 15) (g := gR v1 v2 v3 v4 v5) (by decide) (by omega) rfl)) ?_
    refine wp_iincr dX12_feed_106 rfl (by decide) (by omega) (wp_L (L' := [some (vR 124), some (vI v1), some (vI v2), some (vI v3), some (vI v4), some (vI v5), some (vI 16), some (vI v4)]) rfl ?_)
    refine wp_goto (tgt := 18) dX12_feed_109 (by decide) ?_
    refine wp_iload dX12_feed_18 rfl ?_
    refine wp_bipush dX12_feed_20 (by decide +kernel) (by decide) ?_
    refine wp_icmp_ge (tgt := 112) dX12_feed_22 (by decide) (fun q => absurd q (by decide)) (fun _ => ?_)
    refine wp_iload dX12_feed_25 rfl ?_
    refine wp_iconst dX12_feed_27 (by decide) ?_
    refine wp_pc (pc' := 28) rfl ?_
    refine wp_icmp_ge (tgt := 35) dX12_feed_28 (by decide) (fun _ => ?_) (fun q => absurd q (by decide))
    refine wp_iload dX12_feed_35 rfl ?_
    refine wp_bipush dX12_feed_37 (by decide +kernel) (by decide) ?_
    refine wp_icmp_ge (tgt := 46) dX12_feed_39 (by decide) (fun _ => ?_) (fun q => absurd q (by decide))
    refine wp_iload dX12_feed_46 rfl ?_
    refine wp_bipush dX12_feed_48 (by decide +kernel) (by decide) ?_
    refine wp_icmp_ge (tgt := 57) dX12_feed_50 (by decide) (fun _ => ?_) (fun q => absurd q (by decide))
    refine wp_iload dX12_feed_57 rfl ?_
    refine wp_pc (pc' := 59) rfl ?_
    refine wp_bipush dX12_feed_59 (by decide +kernel) (by decide) ?_
    refine wp_icmp_ge (tgt := 69) dX12_feed_61 (by decide) (fun _ => ?_) (fun q => absurd q (by decide))
    refine wp_iload dX12_feed_69 rfl ?_
    refine wp_istore dX12_feed_71 (by decide) (wp_L (L' := [some (vR 124), some (vI v1), some (vI v2), some (vI v3), some (vI v4), some (vI v5), some (vI 16), some (vI v5)]) rfl ?_)
    refine wp_aload_n dX12_feed_73 rfl rfl (by first | exact Or.inl (by decide) | exact Or.inl (by omega) | exact Or.inr (by decide) | exact Or.inr (by omega)) ?_
    refine wp_getR dX12_feed_74 fX12_7 rfl (by decide) ?_
    refine wp_topR (x' := 125) rfl ?_
    refine wp_aload_n dX12_feed_77 rfl rfl (by first | exact Or.inl (by decide) | exact Or.inl (by omega) | exact Or.inr (by decide) | exact Or.inr (by omega)) ?_
    refine wp_getI dX12_feed_78 fX12_476 rfl (by decide) ?_
    refine wp_topI (x' := (MI 124 1 + (16 : Nat))) rfl ?_
    refine wp_pc (pc' := 81) rfl ?_
    refine wp_iload dX12_feed_81 rfl ?_
    refine wp_bipush dX12_feed_83 (by decide +kernel) (by decide) ?_
    refine wp_bipush dX12_feed_85 (by decide +kernel) (by decide) ?_
    refine wp_iload dX12_feed_87 rfl ?_
    refine wp_iconst dX12_feed_89 (by decide) ?_
    refine wp_irem dX12_feed_90 (by omega) ?_
    refine wp_topI (x' := 0) (by decide +kernel) ?_
    refine wp_imulr dX12_feed_91 (by omega) ?_
    refine wp_topI (x' := 0) (by decide) ?_
    refine wp_isubr dX12_feed_92 (by omega) ?_
    refine wp_topI (x' := 24) (by decide) ?_
    refine wp_pc (pc' := 93) rfl ?_
    refine wp_ishr dX12_feed_93 ?_
    refine wp_i2b dX12_feed_94 ?_
    refine wp_bast dX12_feed_95 rfl (by decide) (by omega) (b_2b _) ?_
    refine wp_aload_n dX12_feed_96 rfl rfl (by first | exact Or.inl (by decide) | exact Or.inl (by omega) | exact Or.inr (by decide) | exact Or.inr (by omega)) ?_
    refine wp_dup dX12_feed_97 (fun x e => by cases e) ?_
    refine wp_getI dX12_feed_98 fX12_476 rfl (by decide) ?_
    refine wp_topI (x' := (MI 124 1 + (16 : Nat))) rfl ?_
    refine wp_iconst dX12_feed_101 (by decide) ?_
    refine wp_iaddr dX12_feed_102 (by omega) ?_
    refine wp_pc (pc' := 103) rfl ?_
    refine wp_putI dX12_feed_103 pX12_476 rfl (by decide) ?_
    refine wp_M (M' := ((fed MI 125 124 1 (MI 124 1) (gR v1 v2 v3 v4 v5) 17), ML, (GR d e nw th x))) (congrArg (fun f => (f, ML, GR d e nw th x)) (fed_step (m := 16) (g := gR v1 v2 v3 v4 v5) (by decide) (by omega) rfl)) ?_
    refine wp_iincr dX12_feed_106 rfl (by decide) (by omega) (wp_L (L' := [some (vR 124), some (vI v1), some (vI v2), some (vI v3), some (vI v4), some (vI v5), some (vI 17), some (vI v5)]) rfl ?_)
    refine wp_goto (tgt := 18) dX12_feed_109 (by decide) ?_
    refine wp_iload dX12_feed_18 rfl ?_
    refine wp_bipush dX12_feed_20 (by decide +kernel) (by decide) ?_
    refine wp_icmp_ge (tgt := 112) dX12_feed_22 (by decide) (fun q => absurd q (by decide)) (fun _ => ?_)
    refine wp_iload dX12_feed_25 rfl ?_
    refine wp_iconst dX12_feed_27 (by decide) ?_
    refine wp_pc (pc' := 28) rfl ?_
    refine wp_icmp_ge (tgt := 35) dX12_feed_28 (by decide) (fun _ => ?_) (fun q => absurd q (by decide))
    refine wp_iload dX12_feed_35 rfl ?_
    refine wp_bipush dX12_feed_37 (by decide +kernel) (by decide) ?_
    refine wp_icmp_ge (tgt := 46) dX12_feed_39 (by decide) (fun _ => ?_) (fun q => absurd q (by decide))
    refine wp_iload dX12_feed_46 rfl ?_
    refine wp_bipush dX12_feed_48 (by decide +kernel) (by decide) ?_
    refine wp_icmp_ge (tgt := 57) dX12_feed_50 (by decide) (fun _ => ?_) (fun q => absurd q (by decide))
    refine wp_iload dX12_feed_57 rfl ?_
    refine wp_pc (pc' := 59) rfl ?_
    refine wp_bipush dX12_feed_59 (by decide +kernel) (by decide) ?_
    refine wp_icmp_ge (tgt := 69) dX12_feed_61 (by decide) (fun _ => ?_) (fun q => absurd q (by decide))
    refine wp_iload dX12_feed_69 rfl ?_
    refine wp_istore dX12_feed_71 (by decide) (wp_L (L' := [some (vR 124), some (vI v1), some (vI v2), some (vI v3), some (vI v4), some (vI v5), some (vI 17), some (vI v5)]) rfl ?_)
    refine wp_aload_n dX12_feed_73 rfl rfl (by first | exact Or.inl (by decide) | exact Or.inl (by omega) | exact Or.inr (by decide) | exact Or.inr (by omega)) ?_
    refine wp_getR dX12_feed_74 fX12_7 rfl (by decide) ?_
    refine wp_topR (x' := 125) rfl ?_
    refine wp_aload_n dX12_feed_77 rfl rfl (by first | exact Or.inl (by decide) | exact Or.inl (by omega) | exact Or.inr (by decide) | exact Or.inr (by omega)) ?_
    refine wp_getI dX12_feed_78 fX12_476 rfl (by decide) ?_
    refine wp_topI (x' := (MI 124 1 + (17 : Nat))) rfl ?_
    refine wp_pc (pc' := 81) rfl ?_
    refine wp_iload dX12_feed_81 rfl ?_
    refine wp_bipush dX12_feed_83 (by decide +kernel) (by decide) ?_
    refine wp_bipush dX12_feed_85 (by decide +kernel) (by decide) ?_
    refine wp_iload dX12_feed_87 rfl ?_
    refine wp_iconst dX12_feed_89 (by decide) ?_
    refine wp_irem dX12_feed_90 (by omega) ?_
    refine wp_topI (x' := 1) (by decide +kernel) ?_
    refine wp_imulr dX12_feed_91 (by omega) ?_
    refine wp_topI (x' := 8) (by decide) ?_
    refine wp_isubr dX12_feed_92 (by omega) ?_
    refine wp_topI (x' := 16) (by decide) ?_
    refine wp_pc (pc' := 93) rfl ?_
    refine wp_ishr dX12_feed_93 ?_
    refine wp_i2b dX12_feed_94 ?_
    refine wp_bast dX12_feed_95 rfl (by decide) (by omega) (b_2b _) ?_
    refine wp_aload_n dX12_feed_96 rfl rfl (by first | exact Or.inl (by decide) | exact Or.inl (by omega) | exact Or.inr (by decide) | exact Or.inr (by omega)) ?_
    refine wp_dup dX12_feed_97 (fun x e => by cases e) ?_
    refine wp_getI dX12_feed_98 fX12_476 rfl (by decide) ?_
    refine wp_topI (x' := (MI 124 1 + (17 : Nat))) rfl ?_
    refine wp_iconst dX12_feed_101 (by decide) ?_
    refine wp_iaddr dX12_feed_102 (by omega) ?_
    refine wp_pc (pc' := 103) rfl ?_
    refine wp_putI dX12_feed_103 pX12_476 rfl (by decide) ?_
    refine wp_M (M' := ((fed MI 125 124 1 (MI 124 1) (gR v1 v2 v3 v4 v5) 18), ML, (GR d e nw th x))) (congrArg (fun f => (f, ML, GR d e nw th x)) (fed_step (m := 17) (g := gR v1 v2 v3 v4 v5) (by decide) (by omega) rfl)) ?_
    refine wp_iincr dX12_feed_106 rfl (by decide) (by omega) (wp_L (L' := [some (vR 124), some (vI v1), some (vI v2), some (vI v3), some (vI v4), some (vI v5), some (vI 18), some (vI v5)]) rfl ?_)
    refine wp_goto (tgt := 18) dX12_feed_109 (by decide) ?_
    refine wp_iload dX12_feed_18 rfl ?_
    refine wp_bipush dX12_feed_20 (by decide +kernel) (by decide) ?_
    refine wp_icmp_ge (tgt := 112) dX12_feed_22 (by decide) (fun q => absurd q (by decide)) (fun _ => ?_)
    refine wp_iload dX12_feed_25 rfl ?_
    refine wp_iconst dX12_feed_27 (by decide) ?_
    refine wp_pc (pc' := 28) rfl ?_
    refine wp_icmp_ge (tgt := 35) dX12_feed_28 (by decide) (fun _ => ?_) (fun q => absurd q (by decide))
    refine wp_iload dX12_feed_35 rfl ?_
    refine wp_bipush dX12_feed_37 (by decide +kernel) (by decide) ?_
    refine wp_icmp_ge (tgt := 46) dX12_feed_39 (by decide) (fun _ => ?_) (fun q => absurd q (by decide))
    refine wp_iload dX12_feed_46 rfl ?_
    refine wp_bipush dX12_feed_48 (by decide +kernel) (by decide) ?_
    refine wp_icmp_ge (tgt := 57) dX12_feed_50 (by decide) (fun _ => ?_) (fun q => absurd q (by decide))
    refine wp_iload dX12_feed_57 rfl ?_
    refine wp_pc (pc' := 59) rfl ?_
    refine wp_bipush dX12_feed_59 (by decide +kernel) (by decide) ?_
    refine wp_icmp_ge (tgt := 69) dX12_feed_61 (by decide) (fun _ => ?_) (fun q => absurd q (by decide))
    refine wp_iload dX12_feed_69 rfl ?_
    refine wp_istore dX12_feed_71 (by decide) (wp_L (L' := [some (vR 124), some (vI v1), some (vI v2), some (vI v3), some (vI v4), some (vI v5), some (vI 18), some (vI v5)]) rfl ?_)
    refine wp_aload_n dX12_feed_73 rfl rfl (by first | exact Or.inl (by decide) | exact Or.inl (by omega) | exact Or.inr (by decide) | exact Or.inr (by omega)) ?_
    refine wp_getR dX12_feed_74 fX12_7 rfl (by decide) ?_
    refine wp_topR (x' := 125) rfl ?_
    refine wp_aload_n dX12_feed_77 rfl rfl (by first | exact Or.inl (by decide) | exact Or.inl (by omega) | exact Or.inr (by decide) | exact Or.inr (by omega)) ?_
    refine wp_getI dX12_feed_78 fX12_476 rfl (by decide) ?_
    refine wp_topI (x' := (MI 124 1 + (18 : Nat))) rfl ?_
    refine wp_pc (pc' := 81) rfl ?_
    refine wp_iload dX12_feed_81 rfl ?_
    refine wp_bipush dX12_feed_83 (by decide +kernel) (by decide) ?_
    refine wp_bipush dX12_feed_85 (by decide +kernel) (by decide) ?_
    refine wp_iload dX12_feed_87 rfl ?_
    refine wp_iconst dX12_feed_89 (by decide) ?_
    refine wp_irem dX12_feed_90 (by omega) ?_
    refine wp_topI (x' := 2) (by decide +kernel) ?_
    refine wp_imulr dX12_feed_91 (by omega) ?_
    refine wp_topI (x' := 16) (by decide) ?_
    refine wp_isubr dX12_feed_92 (by omega) ?_
    refine wp_topI (x' := 8) (by decide) ?_
    refine wp_pc (pc' := 93) rfl ?_
    refine wp_ishr dX12_feed_93 ?_
    refine wp_i2b dX12_feed_94 ?_
    refine wp_bast dX12_feed_95 rfl (by decide) (by omega) (b_2b _) ?_
    refine wp_aload_n dX12_feed_96 rfl rfl (by first | exact Or.inl (by decide) | exact Or.inl (by omega) | exact Or.inr (by decide) | exact Or.inr (by omega)) ?_
    refine wp_dup dX12_feed_97 (fun x e => by cases e) ?_
    refine wp_getI dX12_feed_98 fX12_476 rfl (by decide) ?_
    refine wp_topI (x' := (MI 124 1 + (18 : Nat))) rfl ?_
    refine wp_iconst dX12_feed_101 (by decide) ?_
    refine wp_iaddr dX12_feed_102 (by omega) ?_
    refine wp_pc (pc' := 103) rfl ?_
    refine wp_putI dX12_feed_103 pX12_476 rfl (by decide) ?_
    refine wp_M (M' := ((fed MI 125 124 1 (MI 124 1) (gR v1 v2 v3 v4 v5) 19), ML, (GR d e nw th x))) (congrArg (fun f => (f, ML, GR d e nw th x)) (fed_step (m := 18) (g := gR v1 v2 v3 v4 v5) (by decide) (by omega) rfl)) ?_
    refine wp_iincr dX12_feed_106 rfl (by decide) (by omega) (wp_L (L' := [some (vR 124), some (vI v1), some (vI v2), some (vI v3), some (vI v4), some (vI v5), some (vI 19), some (vI v5)]) rfl ?_)
    refine wp_goto (tgt := 18) dX12_feed_109 (by decide) ?_
    refine wp_iload dX12_feed_18 rfl ?_
    refine wp_bipush dX12_feed_20 (by decide +kernel) (by decide) ?_
    refine wp_icmp_ge (tgt := 112) dX12_feed_22 (by decide) (fun q => absurd q (by decide)) (fun _ => ?_)
    refine wp_iload dX12_feed_25 rfl ?_
    refine wp_iconst dX12_feed_27 (by decide) ?_
    refine wp_pc (pc' := 28) rfl ?_
    refine wp_icmp_ge (tgt := 35) dX12_feed_28 (by decide) (fun _ => ?_) (fun q => absurd q (by decide))
    refine wp_iload dX12_feed_35 rfl ?_
    refine wp_bipush dX12_feed_37 (by decide +kernel) (by decide) ?_
    refine wp_icmp_ge (tgt := 46) dX12_feed_39 (by decide) (fun _ => ?_) (fun q => absurd q (by decide))
    refine wp_iload dX12_feed_46 rfl ?_
    refine wp_bipush dX12_feed_48 (by decide +kernel) (by decide) ?_
    refine wp_icmp_ge (tgt := 57) dX12_feed_50 (by decide) (fun _ => ?_) (fun q => absurd q (by decide))
    refine wp_iload dX12_feed_57 rfl ?_
    refine wp_pc (pc' := 59) rfl ?_
    refine wp_bipush dX12_feed_59 (by decide +kernel) (by decide) ?_
    refine wp_icmp_ge (tgt := 69) dX12_feed_61 (by decide) (fun _ => ?_) (fun q => absurd q (by decide))
    refine wp_iload dX12_feed_69 rfl ?_
    refine wp_istore dX12_feed_71 (by decide) (wp_L (L' := [some (vR 124), some (vI v1), some (vI v2), some (vI v3), some (vI v4), some (vI v5), some (vI 19), some (vI v5)]) rfl ?_)
    refine wp_aload_n dX12_feed_73 rfl rfl (by first | exact Or.inl (by decide) | exact Or.inl (by omega) | exact Or.inr (by decide) | exact Or.inr (by omega)) ?_
    refine wp_getR dX12_feed_74 fX12_7 rfl (by decide) ?_
    refine wp_topR (x' := 125) rfl ?_
    refine wp_aload_n dX12_feed_77 rfl rfl (by first | exact Or.inl (by decide) | exact Or.inl (by omega) | exact Or.inr (by decide) | exact Or.inr (by omega)) ?_
    refine wp_getI dX12_feed_78 fX12_476 rfl (by decide) ?_
    refine wp_topI (x' := (MI 124 1 + (19 : Nat))) rfl ?_
    refine wp_pc (pc' := 81) rfl ?_
    refine wp_iload dX12_feed_81 rfl ?_
    refine wp_bipush dX12_feed_83 (by decide +kernel) (by decide) ?_
    refine wp_bipush dX12_feed_85 (by decide +kernel) (by decide) ?_
    refine wp_iload dX12_feed_87 rfl ?_
    refine wp_iconst dX12_feed_89 (by decide) ?_
    refine wp_irem dX12_feed_90 (by omega) ?_
    refine wp_topI (x' := 3) (by decide +kernel) ?_
    refine wp_imulr dX12_feed_91 (by omega) ?_
    refine wp_topI (x' := 24) (by decide) ?_
    refine wp_isubr dX12_feed_92 (by omega) ?_
    refine wp_topI (x' := 0) (by decide) ?_
    refine wp_pc (pc' := 93) rfl ?_
    refine wp_ishr dX12_feed_93 ?_
    refine wp_i2b dX12_feed_94 ?_
    refine wp_bast dX12_feed_95 rfl (by decide) (by omega) (b_2b _) ?_
    refine wp_aload_n dX12_feed_96 rfl rfl (by first | exact Or.inl (by decide) | exact Or.inl (by omega) | exact Or.inr (by decide) | exact Or.inr (by omega)) ?_
    refine wp_dup dX12_feed_97 (fun x e => by cases e) ?_
    refine wp_getI dX12_feed_98 fX12_476 rfl (by decide) ?_
    refine wp_topI (x' := (MI 124 1 + (19 : Nat))) rfl ?_
    refine wp_iconst dX12_feed_101 (by decide) ?_
    refine wp_iaddr dX12_feed_102 (by omega) ?_
    refine wp_pc (pc' := 103) rfl ?_
    refine wp_putI dX12_feed_103 pX12_476 rfl (by decide) ?_
    refine wp_M (M' := ((fed MI 125 124 1 (MI 124 1) (gR v1 v2 v3 v4 v5) 20), ML, (GR d e nw th x))) (congrArg (fun f => (f, ML, GR d e nw th x)) (fed_step (m := 19) (g := gR v1 v2 v3 v4 v5) (by decide) (by omega) rfl)) ?_
    refine wp_iincr dX12_feed_106 rfl (by decide) (by omega) (wp_L (L' := [some (vR 124), some (vI v1), some (vI v2), some (vI v3), some (vI v4), some (vI v5), some (vI 20), some (vI v5)]) rfl ?_)
    refine wp_goto (tgt := 18) dX12_feed_109 (by decide) ?_
    refine wp_iload dX12_feed_18 rfl ?_
    refine wp_bipush dX12_feed_20 (by decide +kernel) (by decide) ?_
    refine wp_icmp_ge (tgt := 112) dX12_feed_22 (by decide) (fun _ => ?_) (fun q => absurd q (by decide))
    refine wp_aload_n dX12_feed_112 rfl rfl (by first | exact Or.inl (by decide) | exact Or.inl (by omega) | exact Or.inr (by decide) | exact Or.inr (by omega)) ?_
    refine wp_getI dX12_feed_113 fX12_476 rfl (by decide) ?_
    refine wp_topI (x' := (MI 124 1 + (20 : Nat))) rfl ?_
    refine wp_pc (pc' := 116) rfl ?_
    exact wp_iret dX12_feed_116 rfl (fun _ => hT (by omega))
  · refine wp_iconst dX12_feed_13 (by decide) ?_
    exact wp_iret dX12_feed_14 rfl (fun _ => hF (by omega))
end P27
