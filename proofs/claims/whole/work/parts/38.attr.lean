/-- the attribute of k with the NAME w among those from i on (m of them left), or -1 -/
def atF (MI : Nat → Nat → Int) (b : Nat) (w : Int) : Nat → Int → Int
  | 0, _ => -1
  | m + 1, i => if MI (b + 34) i.toNat = w then i else atF MI b w m (i + 1)
def atC (MI : Nat → Nat → Int) (b : Nat) (k w : Int) : Int := atF MI b w (MI (b + 35) k.toNat).toNat (k + 1)
section P38
variable {cs : Cs} {Q : Option AV → Mm → Prop} {MI ML : Nat → Nat → Int} {b d e nw th x : Nat}
theorem dX3_stringByte_0 : decode cX3_stringByte 0 = .ok (.iload_n 2, 1) := by decide +kernel
theorem dX3_stringByte_1 : decode cX3_stringByte 1 = .ok (.ifCond .lt 20, 3) := by decide +kernel
theorem dX3_stringByte_4 : decode cX3_stringByte 4 = .ok (.iload_n 2, 1) := by decide +kernel
theorem dX3_stringByte_5 : decode cX3_stringByte 5 = .ok (.aload_n 0, 1) := by decide +kernel
theorem dX3_stringByte_6 : decode cX3_stringByte 6 = .ok (.getfield 57, 3) := by decide +kernel
theorem dX3_stringByte_9 : decode cX3_stringByte 9 = .ok (.iload_n 1, 1) := by decide +kernel
theorem dX3_stringByte_10 : decode cX3_stringByte 10 = .ok (.iaload, 1) := by decide +kernel
theorem dX3_stringByte_11 : decode cX3_stringByte 11 = .ok (.aload_n 0, 1) := by decide +kernel
theorem dX3_stringByte_12 : decode cX3_stringByte 12 = .ok (.getfield 54, 3) := by decide +kernel
theorem dX3_stringByte_15 : decode cX3_stringByte 15 = .ok (.iload_n 1, 1) := by decide +kernel
theorem dX3_stringByte_16 : decode cX3_stringByte 16 = .ok (.iaload, 1) := by decide +kernel
theorem dX3_stringByte_17 : decode cX3_stringByte 17 = .ok (.isub, 1) := by decide +kernel
theorem dX3_stringByte_18 : decode cX3_stringByte 18 = .ok (.if_icmp .lt 5, 3) := by decide +kernel
theorem dX3_stringByte_21 : decode cX3_stringByte 21 = .ok (.iconst (-1), 1) := by decide +kernel
theorem dX3_stringByte_22 : decode cX3_stringByte 22 = .ok (.ireturn, 1) := by decide +kernel
theorem dX3_stringByte_23 : decode cX3_stringByte 23 = .ok (.aload_n 0, 1) := by decide +kernel
theorem dX3_stringByte_24 : decode cX3_stringByte 24 = .ok (.getfield 32, 3) := by decide +kernel
theorem dX3_stringByte_27 : decode cX3_stringByte 27 = .ok (.iload_n 1, 1) := by decide +kernel
theorem dX3_stringByte_28 : decode cX3_stringByte 28 = .ok (.iaload, 1) := by decide +kernel
theorem dX3_stringByte_29 : decode cX3_stringByte 29 = .ok (.iconst 2, 1) := by decide +kernel
theorem dX3_stringByte_30 : decode cX3_stringByte 30 = .ok (.if_icmp .ne 19, 3) := by decide +kernel
theorem dX3_stringByte_33 : decode cX3_stringByte 33 = .ok (.aload_n 0, 1) := by decide +kernel
theorem dX3_stringByte_34 : decode cX3_stringByte 34 = .ok (.getfield 60, 3) := by decide +kernel
theorem dX3_stringByte_37 : decode cX3_stringByte 37 = .ok (.aload_n 0, 1) := by decide +kernel
theorem dX3_stringByte_38 : decode cX3_stringByte 38 = .ok (.getfield 54, 3) := by decide +kernel
theorem dX3_stringByte_41 : decode cX3_stringByte 41 = .ok (.iload_n 1, 1) := by decide +kernel
theorem dX3_stringByte_42 : decode cX3_stringByte 42 = .ok (.iaload, 1) := by decide +kernel
theorem dX3_stringByte_43 : decode cX3_stringByte 43 = .ok (.iload_n 2, 1) := by decide +kernel
theorem dX3_stringByte_44 : decode cX3_stringByte 44 = .ok (.iadd, 1) := by decide +kernel
theorem dX3_stringByte_45 : decode cX3_stringByte 45 = .ok (.baload, 1) := by decide +kernel
theorem dX3_stringByte_46 : decode cX3_stringByte 46 = .ok (.goto 16, 3) := by decide +kernel
theorem dX3_stringByte_49 : decode cX3_stringByte 49 = .ok (.aload_n 0, 1) := by decide +kernel
theorem dX3_stringByte_50 : decode cX3_stringByte 50 = .ok (.getfield 64, 3) := by decide +kernel
theorem dX3_stringByte_53 : decode cX3_stringByte 53 = .ok (.aload_n 0, 1) := by decide +kernel
theorem dX3_stringByte_54 : decode cX3_stringByte 54 = .ok (.getfield 54, 3) := by decide +kernel
theorem dX3_stringByte_57 : decode cX3_stringByte 57 = .ok (.iload_n 1, 1) := by decide +kernel
theorem dX3_stringByte_58 : decode cX3_stringByte 58 = .ok (.iaload, 1) := by decide +kernel
theorem dX3_stringByte_59 : decode cX3_stringByte 59 = .ok (.iload_n 2, 1) := by decide +kernel
theorem dX3_stringByte_60 : decode cX3_stringByte 60 = .ok (.iadd, 1) := by decide +kernel
theorem dX3_stringByte_61 : decode cX3_stringByte 61 = .ok (.baload, 1) := by decide +kernel
theorem dX3_stringByte_62 : decode cX3_stringByte 62 = .ok (.ireturn, 1) := by decide +kernel
theorem w_X3_stringByte {k i : Int} (hbd : b = 38 ∨ b = 81) (hk : 0 ≤ k ∧ k < 600) (hs : 0 ≤ MI (b + 39) k.toNat ∧ MI (b + 39) k.toNat ≤ 2000 ∧ 0 ≤ MI (b + 40) k.toNat ∧ MI (b + 40) k.toNat ≤ 2000) (hA : 0 ≤ i ∧ i < MI (b + 40) k.toNat - MI (b + 39) k.toNat → MI (b + 32) k.toNat = 2 → Q (some (vI (MI (b + 41) (MI (b + 39) k.toNat + i).toNat))) (MI, ML, GR d e nw th x)) (hT : 0 ≤ i ∧ i < MI (b + 40) k.toNat - MI (b + 39) k.toNat → MI (b + 32) k.toNat ≠ 2 → Q (some (vI (MI (b + 42) (MI (b + 39) k.toNat + i).toNat))) (MI, ML, GR d e nw th x)) (hF : ¬ (0 ≤ i ∧ i < MI (b + 40) k.toNat - MI (b + 39) k.toNat) → Q (some (vI (-1))) (MI, ML, GR d e nw th x)) : wp cs mX3_stringByte KD Q 0 (padL [vR b, vI k, vI i] 3) [] (KD, MI, ML, GR d e nw th x) := by
  refine wp_L (L' := [some (vR b), some (vI k), some (vI i)]) rfl ?_
  refine wp_iload_n dX3_stringByte_0 rfl rfl ?_
  refine wp_if_lt (tgt := 21) dX3_stringByte_1 (by decide) (fun h1 => ?_) (fun h1 => ?_)
  · refine wp_iconst dX3_stringByte_21 (by decide) ?_
    exact wp_iret dX3_stringByte_22 rfl (fun _ => hF (by omega))
  · refine wp_iload_n dX3_stringByte_4 rfl rfl ?_
    refine wp_aload_n dX3_stringByte_5 rfl rfl (by first | exact Or.inl (by decide) | exact Or.inl (by omega) | exact Or.inr (by decide) | exact Or.inr (by omega)) ?_
    refine wp_getR dX3_stringByte_6 fX3_57 (show KD[b]? = some (7, 19) from kdb_0 hbd) (by omega) ?_
    refine wp_topR (x' := (b + 40)) (grb_0_11 hbd) ?_
    refine wp_iload_n dX3_stringByte_9 rfl rfl ?_
    refine wp_iald dX3_stringByte_10 (kdb_40 hbd) (by omega) (by omega) ?_
    refine wp_aload_n dX3_stringByte_11 rfl rfl (by first | exact Or.inl (by decide) | exact Or.inl (by omega) | exact Or.inr (by decide) | exact Or.inr (by omega)) ?_
    refine wp_getR dX3_stringByte_12 fX3_54 (show KD[b]? = some (7, 19) from kdb_0 hbd) (by omega) ?_
    refine wp_topR (x' := (b + 39)) (grb_0_10 hbd) ?_
    refine wp_pc (pc' := 15) rfl ?_
    refine wp_iload_n dX3_stringByte_15 rfl rfl ?_
    refine wp_iald dX3_stringByte_16 (kdb_39 hbd) (by omega) (by omega) ?_
    refine wp_isubr dX3_stringByte_17 (by omega) ?_
    refine wp_icmp_lt (tgt := 23) dX3_stringByte_18 (by decide) (fun h18 => ?_) (fun h18 => ?_)
    · refine wp_aload_n dX3_stringByte_23 rfl rfl (by first | exact Or.inl (by decide) | exact Or.inl (by omega) | exact Or.inr (by decide) | exact Or.inr (by omega)) ?_
      refine wp_getR dX3_stringByte_24 fX3_32 (show KD[b]? = some (7, 19) from kdb_0 hbd) (by omega) ?_
      refine wp_topR (x' := (b + 32)) (grb_0_3 hbd) ?_
      refine wp_iload_n dX3_stringByte_27 rfl rfl ?_
      refine wp_iald dX3_stringByte_28 (kdb_32 hbd) (by omega) (by omega) ?_
      refine wp_iconst dX3_stringByte_29 (by decide) ?_
      refine wp_icmp_ne (tgt := 49) dX3_stringByte_30 (by decide) (fun h30 => ?_) (fun h30 => ?_)
      · refine wp_aload_n dX3_stringByte_49 rfl rfl (by first | exact Or.inl (by decide) | exact Or.inl (by omega) | exact Or.inr (by decide) | exact Or.inr (by omega)) ?_
        refine wp_getR dX3_stringByte_50 fX3_64 (show KD[b]? = some (7, 19) from kdb_0 hbd) (by omega) ?_
        refine wp_topR (x' := (b + 42)) (grb_0_13 hbd) ?_
        refine wp_aload_n dX3_stringByte_53 rfl rfl (by first | exact Or.inl (by decide) | exact Or.inl (by omega) | exact Or.inr (by decide) | exact Or.inr (by omega)) ?_
        refine wp_getR dX3_stringByte_54 fX3_54 (show KD[b]? = some (7, 19) from kdb_0 hbd) (by omega) ?_
        refine wp_topR (x' := (b + 39)) (grb_0_10 hbd) ?_
        refine wp_iload_n dX3_stringByte_57 rfl rfl ?_
        refine wp_iald dX3_stringByte_58 (kdb_39 hbd) (by omega) (by omega) ?_
        refine wp_iload_n dX3_stringByte_59 rfl rfl ?_
        refine wp_pc (pc' := 60) rfl ?_
        refine wp_iaddr dX3_stringByte_60 (by omega) ?_
        refine wp_bald dX3_stringByte_61 (kdb_42 hbd) (by omega) (by omega) ?_
        exact wp_iret dX3_stringByte_62 rfl (fun _ => hT ⟨by omega, by omega⟩ (by omega))
      · refine wp_aload_n dX3_stringByte_33 rfl rfl (by first | exact Or.inl (by decide) | exact Or.inl (by omega) | exact Or.inr (by decide) | exact Or.inr (by omega)) ?_
        refine wp_getR dX3_stringByte_34 fX3_60 (show KD[b]? = some (7, 19) from kdb_0 hbd) (by omega) ?_
        refine wp_topR (x' := (b + 41)) (grb_0_12 hbd) ?_
        refine wp_aload_n dX3_stringByte_37 rfl rfl (by first | exact Or.inl (by decide) | exact Or.inl (by omega) | exact Or.inr (by decide) | exact Or.inr (by omega)) ?_
        refine wp_getR dX3_stringByte_38 fX3_54 (show KD[b]? = some (7, 19) from kdb_0 hbd) (by omega) ?_
        refine wp_topR (x' := (b + 39)) (grb_0_10 hbd) ?_
        refine wp_iload_n dX3_stringByte_41 rfl rfl ?_
        refine wp_iald dX3_stringByte_42 (kdb_39 hbd) (by omega) (by omega) ?_
        refine wp_iload_n dX3_stringByte_43 rfl rfl ?_
        refine wp_pc (pc' := 44) rfl ?_
        refine wp_iaddr dX3_stringByte_44 (by omega) ?_
        refine wp_bald dX3_stringByte_45 (kdb_41 hbd) (by omega) (by omega) ?_
        refine wp_goto (tgt := 62) dX3_stringByte_46 (by decide) ?_
        exact wp_iret dX3_stringByte_62 rfl (fun _ => hA ⟨by omega, by omega⟩ (by omega))
    · refine wp_iconst dX3_stringByte_21 (by decide) ?_
      exact wp_iret dX3_stringByte_22 rfl (fun _ => hF (by omega))
theorem dX3_attributeOf_0 : decode cX3_attributeOf 0 = .ok (.iload_n 1, 1) := by decide +kernel
theorem dX3_attributeOf_1 : decode cX3_attributeOf 1 = .ok (.iconst 1, 1) := by decide +kernel
theorem dX3_attributeOf_2 : decode cX3_attributeOf 2 = .ok (.iadd, 1) := by decide +kernel
theorem dX3_attributeOf_3 : decode cX3_attributeOf 3 = .ok (.istore_n 3, 1) := by decide +kernel
theorem dX3_attributeOf_4 : decode cX3_attributeOf 4 = .ok (.iload_n 3, 1) := by decide +kernel
theorem dX3_attributeOf_5 : decode cX3_attributeOf 5 = .ok (.iload_n 1, 1) := by decide +kernel
theorem dX3_attributeOf_6 : decode cX3_attributeOf 6 = .ok (.aload_n 0, 1) := by decide +kernel
theorem dX3_attributeOf_7 : decode cX3_attributeOf 7 = .ok (.getfield 42, 3) := by decide +kernel
theorem dX3_attributeOf_10 : decode cX3_attributeOf 10 = .ok (.iload_n 1, 1) := by decide +kernel
theorem dX3_attributeOf_11 : decode cX3_attributeOf 11 = .ok (.iaload, 1) := by decide +kernel
theorem dX3_attributeOf_12 : decode cX3_attributeOf 12 = .ok (.iadd, 1) := by decide +kernel
theorem dX3_attributeOf_13 : decode cX3_attributeOf 13 = .ok (.if_icmp .gt 21, 3) := by decide +kernel
theorem dX3_attributeOf_16 : decode cX3_attributeOf 16 = .ok (.aload_n 0, 1) := by decide +kernel
theorem dX3_attributeOf_17 : decode cX3_attributeOf 17 = .ok (.getfield 39, 3) := by decide +kernel
theorem dX3_attributeOf_20 : decode cX3_attributeOf 20 = .ok (.iload_n 3, 1) := by decide +kernel
theorem dX3_attributeOf_21 : decode cX3_attributeOf 21 = .ok (.iaload, 1) := by decide +kernel
theorem dX3_attributeOf_22 : decode cX3_attributeOf 22 = .ok (.iload_n 2, 1) := by decide +kernel
theorem dX3_attributeOf_23 : decode cX3_attributeOf 23 = .ok (.if_icmp .ne 5, 3) := by decide +kernel
theorem dX3_attributeOf_26 : decode cX3_attributeOf 26 = .ok (.iload_n 3, 1) := by decide +kernel
theorem dX3_attributeOf_27 : decode cX3_attributeOf 27 = .ok (.ireturn, 1) := by decide +kernel
theorem dX3_attributeOf_28 : decode cX3_attributeOf 28 = .ok (.iinc 3 1, 3) := by decide +kernel
theorem dX3_attributeOf_31 : decode cX3_attributeOf 31 = .ok (.goto (-27), 3) := by decide +kernel
theorem dX3_attributeOf_34 : decode cX3_attributeOf 34 = .ok (.iconst (-1), 1) := by decide +kernel
theorem dX3_attributeOf_35 : decode cX3_attributeOf 35 = .ok (.ireturn, 1) := by decide +kernel
theorem w_attributeOf_l {k w : Int} (hbd : b = 38 ∨ b = 81) (hk : 0 ≤ k ∧ k < 600) (ha : 0 ≤ MI (b + 35) k.toNat ∧ k + MI (b + 35) k.toNat < 600) : ∀ (m : Nat) (i : Int), 0 ≤ i ∧ i + m = k + MI (b + 35) k.toNat + 1 → Q (some (vI (atF MI b w m i))) (MI, ML, GR d e nw th x) → wp cs mX3_attributeOf KD Q 4 [some (vR b), some (vI k), some (vI w), some (vI i)] [] (KD, MI, ML, GR d e nw th x) := by
  intro m
  induction m with
  | zero =>
    intro i hi hQ
    refine wp_iload_n dX3_attributeOf_4 rfl rfl ?_
    refine wp_iload_n dX3_attributeOf_5 rfl rfl ?_
    refine wp_aload_n dX3_attributeOf_6 rfl rfl (by first | exact Or.inl (by decide) | exact Or.inl (by omega) | exact Or.inr (by decide) | exact Or.inr (by omega)) ?_
    refine wp_getR dX3_attributeOf_7 fX3_42 (show KD[b]? = some (7, 19) from kdb_0 hbd) (by omega) ?_
    refine wp_topR (x' := (b + 35)) (grb_0_6 hbd) ?_
    refine wp_iload_n dX3_attributeOf_10 rfl rfl ?_
    refine wp_iald dX3_attributeOf_11 (kdb_35 hbd) (by omega) (by omega) ?_
    refine wp_iaddr dX3_attributeOf_12 (by omega) ?_
    refine wp_pc (pc' := 13) rfl ?_
    refine wp_icmp_gt (tgt := 34) dX3_attributeOf_13 (by decide) (fun h13 => ?_) (fun h13 => ?_)
    · refine wp_iconst dX3_attributeOf_34 (by decide) ?_
      exact wp_iret dX3_attributeOf_35 rfl (fun _ => by first | exact hQ | (exfalso; omega))
    · exfalso; omega
  | succ m ih =>
    intro i hi hQ
    refine wp_iload_n dX3_attributeOf_4 rfl rfl ?_
    refine wp_iload_n dX3_attributeOf_5 rfl rfl ?_
    refine wp_aload_n dX3_attributeOf_6 rfl rfl (by first | exact Or.inl (by decide) | exact Or.inl (by omega) | exact Or.inr (by decide) | exact Or.inr (by omega)) ?_
    refine wp_getR dX3_attributeOf_7 fX3_42 (show KD[b]? = some (7, 19) from kdb_0 hbd) (by omega) ?_
    refine wp_topR (x' := (b + 35)) (grb_0_6 hbd) ?_
    refine wp_iload_n dX3_attributeOf_10 rfl rfl ?_
    refine wp_iald dX3_attributeOf_11 (kdb_35 hbd) (by omega) (by omega) ?_
    refine wp_iaddr dX3_attributeOf_12 (by omega) ?_
    refine wp_pc (pc' := 13) rfl ?_
    refine wp_icmp_gt (tgt := 34) dX3_attributeOf_13 (by decide) (fun h13 => ?_) (fun h13 => ?_)
    · exfalso; omega
    · refine wp_aload_n dX3_attributeOf_16 rfl rfl (by first | exact Or.inl (by decide) | exact Or.inl (by omega) | exact Or.inr (by decide) | exact Or.inr (by omega)) ?_
      refine wp_getR dX3_attributeOf_17 fX3_39 (show KD[b]? = some (7, 19) from kdb_0 hbd) (by omega) ?_
      refine wp_topR (x' := (b + 34)) (grb_0_5 hbd) ?_
      refine wp_iload_n dX3_attributeOf_20 rfl rfl ?_
      refine wp_iald dX3_attributeOf_21 (kdb_34 hbd) (by omega) (by omega) ?_
      refine wp_iload_n dX3_attributeOf_22 rfl rfl ?_
      refine wp_icmp_ne (tgt := 28) dX3_attributeOf_23 (by decide) (fun h23 => ?_) (fun h23 => ?_)
      · refine wp_iincr dX3_attributeOf_28 rfl (by decide) (by omega) (wp_L (L' := [some (vR b), some (vI k), some (vI w), some (vI ((i + 1)))]) rfl ?_)
        refine wp_goto (tgt := 4) dX3_attributeOf_31 (by decide) ?_
        exact ih (i + 1) (by omega) (by rw [atF, if_neg (by omega)] at hQ; exact hQ)
      · refine wp_iload_n dX3_attributeOf_26 rfl rfl ?_
        exact wp_iret dX3_attributeOf_27 rfl (fun _ => by rw [atF, if_pos (by omega)] at hQ; exact hQ)
theorem w_X3_attributeOf {k w : Int} (hbd : b = 38 ∨ b = 81) (hk : 0 ≤ k ∧ k < 600) (ha : 0 ≤ MI (b + 35) k.toNat ∧ k + MI (b + 35) k.toNat < 600) (hQ : Q (some (vI (atC MI b k w))) (MI, ML, GR d e nw th x)) : wp cs mX3_attributeOf KD Q 0 (padL [vR b, vI k, vI w] 4) [] (KD, MI, ML, GR d e nw th x) := by
  refine wp_L (L' := [some (vR b), some (vI k), some (vI w), none]) rfl ?_
  refine wp_iload_n dX3_attributeOf_0 rfl rfl ?_
  refine wp_iconst dX3_attributeOf_1 (by decide) ?_
  refine wp_iaddr dX3_attributeOf_2 (by omega) ?_
  refine wp_istore_n dX3_attributeOf_3 rfl (by decide) (wp_L (L' := [some (vR b), some (vI k), some (vI w), some (vI ((k + 1)))]) rfl ?_)
  exact w_attributeOf_l hbd hk ha _ (k + 1) (by omega) hQ
end P38
