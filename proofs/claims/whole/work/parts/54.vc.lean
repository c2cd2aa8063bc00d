theorem dX0_isKept_0 : decode cX0_isKept 0 = .ok (.iload_n 1, 1) := by decide +kernel
theorem dX0_isKept_1 : decode cX0_isKept 1 = .ok (.iconst 1, 1) := by decide +kernel
theorem dX0_isKept_2 : decode cX0_isKept 2 = .ok (.iadd, 1) := by decide +kernel
theorem dX0_isKept_3 : decode cX0_isKept 3 = .ok (.istore_n 2, 1) := by decide +kernel
theorem dX0_isKept_4 : decode cX0_isKept 4 = .ok (.iload_n 2, 1) := by decide +kernel
theorem dX0_isKept_5 : decode cX0_isKept 5 = .ok (.iload_n 1, 1) := by decide +kernel
theorem dX0_isKept_6 : decode cX0_isKept 6 = .ok (.aload_n 0, 1) := by decide +kernel
theorem dX0_isKept_7 : decode cX0_isKept 7 = .ok (.getfield 125, 3) := by decide +kernel
theorem dX0_isKept_10 : decode cX0_isKept 10 = .ok (.iload_n 1, 1) := by decide +kernel
theorem dX0_isKept_11 : decode cX0_isKept 11 = .ok (.iaload, 1) := by decide +kernel
theorem dX0_isKept_12 : decode cX0_isKept 12 = .ok (.iadd, 1) := by decide +kernel
theorem dX0_isKept_13 : decode cX0_isKept 13 = .ok (.if_icmp .gt 65, 3) := by decide +kernel
theorem dX0_isKept_16 : decode cX0_isKept 16 = .ok (.aload_n 0, 1) := by decide +kernel
theorem dX0_isKept_17 : decode cX0_isKept 17 = .ok (.getfield 128, 3) := by decide +kernel
theorem dX0_isKept_20 : decode cX0_isKept 20 = .ok (.iload_n 2, 1) := by decide +kernel
theorem dX0_isKept_21 : decode cX0_isKept 21 = .ok (.iaload, 1) := by decide +kernel
theorem dX0_isKept_22 : decode cX0_isKept 22 = .ok (.aload_n 0, 1) := by decide +kernel
theorem dX0_isKept_23 : decode cX0_isKept 23 = .ok (.getfield 131, 3) := by decide +kernel
theorem dX0_isKept_26 : decode cX0_isKept 26 = .ok (.iload_n 2, 1) := by decide +kernel
theorem dX0_isKept_27 : decode cX0_isKept 27 = .ok (.iaload, 1) := by decide +kernel
theorem dX0_isKept_28 : decode cX0_isKept 28 = .ok (.isub, 1) := by decide +kernel
theorem dX0_isKept_29 : decode cX0_isKept 29 = .ok (.iconst 1, 1) := by decide +kernel
theorem dX0_isKept_30 : decode cX0_isKept 30 = .ok (.if_icmp .ne 18, 3) := by decide +kernel
theorem dX0_isKept_33 : decode cX0_isKept 33 = .ok (.aload_n 0, 1) := by decide +kernel
theorem dX0_isKept_34 : decode cX0_isKept 34 = .ok (.iload_n 2, 1) := by decide +kernel
theorem dX0_isKept_35 : decode cX0_isKept 35 = .ok (.iconst 0, 1) := by decide +kernel
theorem dX0_isKept_36 : decode cX0_isKept 36 = .ok (.invokevirtual 134, 3) := by decide +kernel
theorem dX0_isKept_39 : decode cX0_isKept 39 = .ok (.bipush 49, 2) := by decide +kernel
theorem dX0_isKept_41 : decode cX0_isKept 41 = .ok (.if_icmp .ne 7, 3) := by decide +kernel
theorem dX0_isKept_44 : decode cX0_isKept 44 = .ok (.iconst 1, 1) := by decide +kernel
theorem dX0_isKept_45 : decode cX0_isKept 45 = .ok (.goto 4, 3) := by decide +kernel
theorem dX0_isKept_48 : decode cX0_isKept 48 = .ok (.iconst 0, 1) := by decide +kernel
theorem dX0_isKept_49 : decode cX0_isKept 49 = .ok (.istore_n 3, 1) := by decide +kernel
theorem dX0_isKept_50 : decode cX0_isKept 50 = .ok (.iload_n 3, 1) := by decide +kernel
theorem dX0_isKept_51 : decode cX0_isKept 51 = .ok (.ifCond .eq 21, 3) := by decide +kernel
theorem dX0_isKept_54 : decode cX0_isKept 54 = .ok (.aload_n 0, 1) := by decide +kernel
theorem dX0_isKept_55 : decode cX0_isKept 55 = .ok (.getfield 101, 3) := by decide +kernel
theorem dX0_isKept_58 : decode cX0_isKept 58 = .ok (.aload_n 0, 1) := by decide +kernel
theorem dX0_isKept_59 : decode cX0_isKept 59 = .ok (.getfield 105, 3) := by decide +kernel
theorem dX0_isKept_62 : decode cX0_isKept 62 = .ok (.iload_n 2, 1) := by decide +kernel
theorem dX0_isKept_63 : decode cX0_isKept 63 = .ok (.iaload, 1) := by decide +kernel
theorem dX0_isKept_64 : decode cX0_isKept 64 = .ok (.invokestatic 137, 3) := by decide +kernel
theorem dX0_isKept_67 : decode cX0_isKept 67 = .ok (.ifCond .eq 5, 3) := by decide +kernel
theorem dX0_isKept_70 : decode cX0_isKept 70 = .ok (.iconst 1, 1) := by decide +kernel
theorem dX0_isKept_71 : decode cX0_isKept 71 = .ok (.ireturn, 1) := by decide +kernel
theorem dX0_isKept_72 : decode cX0_isKept 72 = .ok (.iinc 2 1, 3) := by decide +kernel
theorem dX0_isKept_75 : decode cX0_isKept 75 = .ok (.goto (-71), 3) := by decide +kernel
theorem dX0_isKept_78 : decode cX0_isKept 78 = .ok (.iconst 0, 1) := by decide +kernel
theorem dX0_isKept_79 : decode cX0_isKept 79 = .ok (.ireturn, 1) := by decide +kernel
theorem v_X0_isKept_0 {cs : Cs} {Q : Option AV → Mm → Prop} {MI ML : Nat → Nat → Int} {b d e nw th x : Nat} {l1 : Int}
    (h : (-2147483648 ≤ l1 + 1 ∧ l1 + 1 < 2147483648) ∧ wp cs mX0_isKept KD Q 4 [some (vR b), some (vI l1), some (vI (l1 + 1)), none] [] (KD, MI, ML, (GR d e nw th x))) :
    wp cs mX0_isKept KD Q 0 (padL [vR b, vI l1] 4) [] (KD, MI, ML, (GR d e nw th x)) := by
  refine wp_L (L' := [some (vR b), some (vI l1), none, none]) rfl ?_
  refine wp_iload_n dX0_isKept_0 rfl rfl ?_
  refine wp_iconst dX0_isKept_1 (by decide) ?_
  have c0 := h.1
  replace h := h.2
  refine wp_iaddr dX0_isKept_2 c0 ?_
  refine wp_istore_n dX0_isKept_3 rfl (by decide) (wp_L (L' := [some (vR b), some (vI l1), some (vI (l1 + 1)), none]) rfl ?_)
  exact h
theorem v_X0_isKept_4 {cs : Cs} {Q : Option AV → Mm → Prop} {MI ML : Nat → Nat → Int} {b d e nw th x : Nat} {l1 l2 : Int} (hbd : b = 38 ∨ b = 81)
    (h : (0 ≤ l1 ∧ l1 < 600) ∧ (-2147483648 ≤ l1 + (MI (b + 35) l1.toNat) ∧ l1 + (MI (b + 35) l1.toNat) < 2147483648) ∧ (((l1 + (MI (b + 35) l1.toNat)) < l2 → Q (some (vI 0)) (MI, ML, (GR d e nw th x))) ∧ (l2 ≤ (l1 + (MI (b + 35) l1.toNat)) → (0 ≤ l2 ∧ l2 < 600) ∧ (-2147483648 ≤ (MI (b + 40) l2.toNat) - (MI (b + 39) l2.toNat) ∧ (MI (b + 40) l2.toNat) - (MI (b + 39) l2.toNat) < 2147483648) ∧ ((((MI (b + 40) l2.toNat) - (MI (b + 39) l2.toNat)) = 1 → wp cs mX3_stringByte KD (rI (GR d e nw th x) fun x36 m36 n36 => ((x36 = 49 → wp cs mX0_isKept KD Q 49 [some (vR b), some (vI l1), some (vI l2), none] [vI 1] (KD, m36, n36, (GR d e nw th x))) ∧ (x36 ≠ 49 → wp cs mX0_isKept KD Q 49 [some (vR b), some (vI l1), some (vI l2), none] [vI 0] (KD, m36, n36, (GR d e nw th x))))) 0 (padL [vR b, vI l2, vI 0] 3) [] (KD, MI, ML, (GR d e nw th x))) ∧ (((MI (b + 40) l2.toNat) - (MI (b + 39) l2.toNat)) ≠ 1 → wp cs mX0_isKept KD Q 49 [some (vR b), some (vI l1), some (vI l2), none] [vI 0] (KD, MI, ML, (GR d e nw th x))))))) :
    wp cs mX0_isKept KD Q 4 [some (vR b), some (vI l1), some (vI l2), none] [] (KD, MI, ML, (GR d e nw th x)) := by
  refine wp_iload_n dX0_isKept_4 rfl rfl ?_
  refine wp_iload_n dX0_isKept_5 rfl rfl ?_
  refine wp_aload_n dX0_isKept_6 rfl rfl (by first | exact Or.inl (by decide) | exact Or.inl (by omega) | exact Or.inr (by decide) | exact Or.inr (by omega)) ?_
  refine wp_getR dX0_isKept_7 fX0_125 (show KD[b]? = some (7, 19) from kdb_0 hbd) (by omega) ?_
  refine wp_topR (x' := (b + 35)) (grb_0_6 hbd) ?_
  refine wp_iload_n dX0_isKept_10 rfl rfl ?_
  have c0 := h.1
  replace h := h.2
  refine wp_iald dX0_isKept_11 (kdb_35 hbd) (by omega) c0 ?_
  have c1 := h.1
  replace h := h.2
  refine wp_iaddr dX0_isKept_12 c1 ?_
  refine wp_pc (pc' := 13) rfl ?_
  refine wp_icmp_gt (tgt := 78) dX0_isKept_13 (by decide) (fun h13 => ?_) (fun h13 => ?_)
  · replace h := h.1 h13
    refine wp_iconst dX0_isKept_78 (by decide) ?_
    exact wp_zret dX0_isKept_79 rfl (by decide) (fun _ => h)
  · replace h := h.2 h13
    refine wp_aload_n dX0_isKept_16 rfl rfl (by first | exact Or.inl (by decide) | exact Or.inl (by omega) | exact Or.inr (by decide) | exact Or.inr (by omega)) ?_
    refine wp_getR dX0_isKept_17 fX0_128 (show KD[b]? = some (7, 19) from kdb_0 hbd) (by omega) ?_
    refine wp_topR (x' := (b + 40)) (grb_0_11 hbd) ?_
    refine wp_iload_n dX0_isKept_20 rfl rfl ?_
    have c2 := h.1
    replace h := h.2
    refine wp_iald dX0_isKept_21 (kdb_40 hbd) (by omega) c2 ?_
    refine wp_aload_n dX0_isKept_22 rfl rfl (by first | exact Or.inl (by decide) | exact Or.inl (by omega) | exact Or.inr (by decide) | exact Or.inr (by omega)) ?_
    refine wp_getR dX0_isKept_23 fX0_131 (show KD[b]? = some (7, 19) from kdb_0 hbd) (by omega) ?_
    refine wp_topR (x' := (b + 39)) (grb_0_10 hbd) ?_
    refine wp_iload_n dX0_isKept_26 rfl rfl ?_
    refine wp_pc (pc' := 27) rfl ?_
    refine wp_iald dX0_isKept_27 (kdb_39 hbd) (by omega) c2 ?_
    have c3 := h.1
    replace h := h.2
    refine wp_isubr dX0_isKept_28 c3 ?_
    refine wp_iconst dX0_isKept_29 (by decide) ?_
    refine wp_icmp_ne (tgt := 48) dX0_isKept_30 (by decide) (fun h30 => ?_) (fun h30 => ?_)
    · replace h := h.2 h30
      refine wp_iconst dX0_isKept_48 (by decide) ?_
      exact h
    · replace h := h.1 h30
      refine wp_aload_n dX0_isKept_33 rfl rfl (by first | exact Or.inl (by decide) | exact Or.inl (by omega) | exact Or.inr (by decide) | exact Or.inr (by omega)) ?_
      refine wp_iload_n dX0_isKept_34 rfl rfl ?_
      refine wp_iconst dX0_isKept_35 (by decide) ?_
      refine wp_cVq (n := 2) (mt' := mX3_stringByte) (as := [vI l2, vI 0]) (rest := []) _ dX0_isKept_36 lX0_134 kX3_stringByte vX3_stringByte (by decide) (by decide +kernel) rfl (Nat.le_of_ble_eq_true rfl) (by omega) (show KD[b]? = some (7, 19) from kdb_0 hbd) rfl rfl (Nat.le_of_ble_eq_true rfl) (fun hM hS => h) (fun r M' hq hM => ?_)
      obtain ⟨x36, m36, n36, rfl, rfl, h⟩ := rI_out hq
      refine wp_bipush dX0_isKept_39 (by decide +kernel) (by decide) ?_
      refine wp_icmp_ne (tgt := 48) dX0_isKept_41 (by decide) (fun h41 => ?_) (fun h41 => ?_)
      · replace h := h.2 h41
        refine wp_iconst dX0_isKept_48 (by decide) ?_
        exact h
      · replace h := h.1 h41
        refine wp_iconst dX0_isKept_44 (by decide) ?_
        refine wp_goto (tgt := 49) dX0_isKept_45 (by decide) ?_
        exact h
theorem v_X0_isKept_49 {cs : Cs} {Q : Option AV → Mm → Prop} {MI ML : Nat → Nat → Int} {b d e nw th x : Nat} {l1 l2 s0 : Int} (hbd : b = 38 ∨ b = 81)
    (h : ((s0 = 0 → (-2147483648 ≤ l2 + 1 ∧ l2 + 1 < 2147483648) ∧ wp cs mX0_isKept KD Q 4 [some (vR b), some (vI l1), some (vI (l2 + 1)), none] [] (KD, MI, ML, (GR d e nw th x))) ∧ (s0 ≠ 0 → (0 ≤ l2 ∧ l2 < 600) ∧ wp cs mX0_isNamedKeep KD (rI (GR d e nw th x) fun x64 m64 n64 => ((x64 = 0 → (-2147483648 ≤ l2 + 1 ∧ l2 + 1 < 2147483648) ∧ wp cs mX0_isKept KD Q 4 [some (vR b), some (vI l1), some (vI (l2 + 1)), none] [] (KD, m64, n64, (GR d e nw th x))) ∧ (x64 ≠ 0 → Q (some (vI 1)) (m64, n64, (GR d e nw th x))))) 0 (padL [vR (b + 1), vI (MI (b + 34) l2.toNat)] 2) [] (KD, MI, ML, (GR d e nw th x))))) :
    wp cs mX0_isKept KD Q 49 [some (vR b), some (vI l1), some (vI l2), none] [vI s0] (KD, MI, ML, (GR d e nw th x)) := by
  refine wp_istore_n dX0_isKept_49 rfl (by decide) (wp_L (L' := [some (vR b), some (vI l1), some (vI l2), some (vI s0)]) rfl ?_)
  refine wp_iload_n dX0_isKept_50 rfl rfl ?_
  refine wp_if_eq (tgt := 72) dX0_isKept_51 (by decide) (fun h51 => ?_) (fun h51 => ?_)
  · replace h := h.1 h51
    have c0 := h.1
    replace h := h.2
    refine wp_iincr dX0_isKept_72 rfl (by decide) c0 (wp_L (L' := [some (vR b), some (vI l1), some (vI (l2 + 1)), some (vI s0)]) rfl ?_)
    refine wp_goto (tgt := 4) dX0_isKept_75 (by decide) ?_
    refine wp_forget (L' := [some (vR b), some (vI l1), some (vI (l2 + 1)), none]) (by repeat' (first | exact trivial | refine ⟨rfl, ?_⟩)) ?_
    exact h
  · replace h := h.2 h51
    refine wp_aload_n dX0_isKept_54 rfl rfl (by first | exact Or.inl (by decide) | exact Or.inl (by omega) | exact Or.inr (by decide) | exact Or.inr (by omega)) ?_
    refine wp_getR dX0_isKept_55 fX0_101 (show KD[b]? = some (7, 19) from kdb_0 hbd) (by omega) ?_
    refine wp_topR (x' := (b + 1)) (grb_0_0 hbd) ?_
    refine wp_aload_n dX0_isKept_58 rfl rfl (by first | exact Or.inl (by decide) | exact Or.inl (by omega) | exact Or.inr (by decide) | exact Or.inr (by omega)) ?_
    refine wp_getR dX0_isKept_59 fX0_105 (show KD[b]? = some (7, 19) from kdb_0 hbd) (by omega) ?_
    refine wp_topR (x' := (b + 34)) (grb_0_5 hbd) ?_
    refine wp_iload_n dX0_isKept_62 rfl rfl ?_
    have c0 := h.1
    replace h := h.2
    refine wp_iald dX0_isKept_63 (kdb_34 hbd) (by omega) c0 ?_
    refine wp_cSq (n := 2) (mt' := mX0_isNamedKeep) (as := [vR (b + 1), vI (MI (b + 34) l2.toNat)]) (rest := []) _ dX0_isKept_64 lX0_137 kX0_isNamedKeep vX0_isNamedKeep (by decide) (by decide +kernel) rfl (Nat.le_of_ble_eq_true rfl) rfl (Nat.le_of_ble_eq_true rfl) (fun hM hS => h) (fun r M' hq hM => ?_)
    obtain ⟨x64, m64, n64, rfl, rfl, h⟩ := rI_out hq
    refine wp_if_eq (tgt := 72) dX0_isKept_67 (by decide) (fun h67 => ?_) (fun h67 => ?_)
    · replace h := h.1 h67
      have c1 := h.1
      replace h := h.2
      refine wp_iincr dX0_isKept_72 rfl (by decide) c1 (wp_L (L' := [some (vR b), some (vI l1), some (vI (l2 + 1)), some (vI s0)]) rfl ?_)
      refine wp_goto (tgt := 4) dX0_isKept_75 (by decide) ?_
      refine wp_forget (L' := [some (vR b), some (vI l1), some (vI (l2 + 1)), none]) (by repeat' (first | exact trivial | refine ⟨rfl, ?_⟩)) ?_
      exact h
    · replace h := h.2 h67
      refine wp_iconst dX0_isKept_70 (by decide) ?_
      exact wp_zret dX0_isKept_71 rfl (by decide) (fun _ => h)
theorem dX0_closeBlocks_0 : decode cX0_closeBlocks 0 = .ok (.aload_n 0, 1) := by decide +kernel
theorem dX0_closeBlocks_1 : decode cX0_closeBlocks 1 = .ok (.getfield 40, 3) := by decide +kernel
theorem dX0_closeBlocks_4 : decode cX0_closeBlocks 4 = .ok (.ifCond .le 106, 3) := by decide +kernel
theorem dX0_closeBlocks_7 : decode cX0_closeBlocks 7 = .ok (.aload_n 1, 1) := by decide +kernel
theorem dX0_closeBlocks_8 : decode cX0_closeBlocks 8 = .ok (.getfield 114, 3) := by decide +kernel
theorem dX0_closeBlocks_11 : decode cX0_closeBlocks 11 = .ok (.aload_n 0, 1) := by decide +kernel
theorem dX0_closeBlocks_12 : decode cX0_closeBlocks 12 = .ok (.getfield 34, 3) := by decide +kernel
theorem dX0_closeBlocks_15 : decode cX0_closeBlocks 15 = .ok (.aload_n 0, 1) := by decide +kernel
theorem dX0_closeBlocks_16 : decode cX0_closeBlocks 16 = .ok (.getfield 40, 3) := by decide +kernel
theorem dX0_closeBlocks_19 : decode cX0_closeBlocks 19 = .ok (.iconst 1, 1) := by decide +kernel
theorem dX0_closeBlocks_20 : decode cX0_closeBlocks 20 = .ok (.isub, 1) := by decide +kernel
theorem dX0_closeBlocks_21 : decode cX0_closeBlocks 21 = .ok (.iaload, 1) := by decide +kernel
theorem dX0_closeBlocks_22 : decode cX0_closeBlocks 22 = .ok (.iaload, 1) := by decide +kernel
theorem dX0_closeBlocks_23 : decode cX0_closeBlocks 23 = .ok (.iload_n 2, 1) := by decide +kernel
theorem dX0_closeBlocks_24 : decode cX0_closeBlocks 24 = .ok (.if_icmp .gt 86, 3) := by decide +kernel
theorem dX0_closeBlocks_27 : decode cX0_closeBlocks 27 = .ok (.aload_n 0, 1) := by decide +kernel
theorem dX0_closeBlocks_28 : decode cX0_closeBlocks 28 = .ok (.dup, 1) := by decide +kernel
theorem dX0_closeBlocks_29 : decode cX0_closeBlocks 29 = .ok (.getfield 40, 3) := by decide +kernel
theorem dX0_closeBlocks_32 : decode cX0_closeBlocks 32 = .ok (.iconst 1, 1) := by decide +kernel
theorem dX0_closeBlocks_33 : decode cX0_closeBlocks 33 = .ok (.isub, 1) := by decide +kernel
theorem dX0_closeBlocks_34 : decode cX0_closeBlocks 34 = .ok (.putfield 40, 3) := by decide +kernel
theorem dX0_closeBlocks_37 : decode cX0_closeBlocks 37 = .ok (.aload_n 0, 1) := by decide +kernel
theorem dX0_closeBlocks_38 : decode cX0_closeBlocks 38 = .ok (.aload_n 1, 1) := by decide +kernel
theorem dX0_closeBlocks_39 : decode cX0_closeBlocks 39 = .ok (.invokevirtual 94, 3) := by decide +kernel
theorem dX0_closeBlocks_42 : decode cX0_closeBlocks 42 = .ok (.aload_n 0, 1) := by decide +kernel
theorem dX0_closeBlocks_43 : decode cX0_closeBlocks 43 = .ok (.getfield 37, 3) := by decide +kernel
theorem dX0_closeBlocks_46 : decode cX0_closeBlocks 46 = .ok (.aload_n 0, 1) := by decide +kernel
theorem dX0_closeBlocks_47 : decode cX0_closeBlocks 47 = .ok (.getfield 40, 3) := by decide +kernel
theorem dX0_closeBlocks_50 : decode cX0_closeBlocks 50 = .ok (.iaload, 1) := by decide +kernel
theorem dX0_closeBlocks_51 : decode cX0_closeBlocks 51 = .ok (.istore_n 3, 1) := by decide +kernel
theorem dX0_closeBlocks_52 : decode cX0_closeBlocks 52 = .ok (.aload_n 0, 1) := by decide +kernel
theorem dX0_closeBlocks_53 : decode cX0_closeBlocks 53 = .ok (.getfield 62, 3) := by decide +kernel
theorem dX0_closeBlocks_56 : decode cX0_closeBlocks 56 = .ok (.iload_n 3, 1) := by decide +kernel
theorem dX0_closeBlocks_57 : decode cX0_closeBlocks 57 = .ok (.isub, 1) := by decide +kernel
theorem dX0_closeBlocks_58 : decode cX0_closeBlocks 58 = .ok (.istore 4, 2) := by decide +kernel
theorem dX0_closeBlocks_60 : decode cX0_closeBlocks 60 = .ok (.iload 4, 2) := by decide +kernel
theorem dX0_closeBlocks_62 : decode cX0_closeBlocks 62 = .ok (.ifCond .le 45, 3) := by decide +kernel
theorem dX0_closeBlocks_65 : decode cX0_closeBlocks 65 = .ok (.iload 4, 2) := by decide +kernel
theorem dX0_closeBlocks_67 : decode cX0_closeBlocks 67 = .ok (.aload_n 0, 1) := by decide +kernel
theorem dX0_closeBlocks_68 : decode cX0_closeBlocks 68 = .ok (.getfield 59, 3) := by decide +kernel
theorem dX0_closeBlocks_71 : decode cX0_closeBlocks 71 = .ok (.if_icmp .gt 36, 3) := by decide +kernel
theorem dX0_closeBlocks_74 : decode cX0_closeBlocks 74 = .ok (.aload_n 1, 1) := by decide +kernel
theorem dX0_closeBlocks_75 : decode cX0_closeBlocks 75 = .ok (.aload_n 0, 1) := by decide +kernel
theorem dX0_closeBlocks_76 : decode cX0_closeBlocks 76 = .ok (.getfield 34, 3) := by decide +kernel
theorem dX0_closeBlocks_79 : decode cX0_closeBlocks 79 = .ok (.aload_n 0, 1) := by decide +kernel
theorem dX0_closeBlocks_80 : decode cX0_closeBlocks 80 = .ok (.getfield 40, 3) := by decide +kernel
theorem dX0_closeBlocks_83 : decode cX0_closeBlocks 83 = .ok (.iaload, 1) := by decide +kernel
theorem dX0_closeBlocks_84 : decode cX0_closeBlocks 84 = .ok (.invokestatic 117, 3) := by decide +kernel
theorem dX0_closeBlocks_87 : decode cX0_closeBlocks 87 = .ok (.ifCond .eq 20, 3) := by decide +kernel
theorem dX0_closeBlocks_90 : decode cX0_closeBlocks 90 = .ok (.aload_n 0, 1) := by decide +kernel
theorem dX0_closeBlocks_91 : decode cX0_closeBlocks 91 = .ok (.getfield 31, 3) := by decide +kernel
theorem dX0_closeBlocks_94 : decode cX0_closeBlocks 94 = .ok (.iload_n 3, 1) := by decide +kernel
theorem dX0_closeBlocks_95 : decode cX0_closeBlocks 95 = .ok (.aload_n 0, 1) := by decide +kernel
theorem dX0_closeBlocks_96 : decode cX0_closeBlocks 96 = .ok (.getfield 31, 3) := by decide +kernel
theorem dX0_closeBlocks_99 : decode cX0_closeBlocks 99 = .ok (.iload_n 3, 1) := by decide +kernel
theorem dX0_closeBlocks_100 : decode cX0_closeBlocks 100 = .ok (.iaload, 1) := by decide +kernel
theorem dX0_closeBlocks_101 : decode cX0_closeBlocks 101 = .ok (.iload 4, 2) := by decide +kernel
theorem dX0_closeBlocks_103 : decode cX0_closeBlocks 103 = .ok (.invokestatic 120, 3) := by decide +kernel
theorem dX0_closeBlocks_106 : decode cX0_closeBlocks 106 = .ok (.iastore, 1) := by decide +kernel
theorem dX0_closeBlocks_107 : decode cX0_closeBlocks 107 = .ok (.goto (-107), 3) := by decide +kernel
theorem dX0_closeBlocks_110 : decode cX0_closeBlocks 110 = .ok (.return_, 1) := by decide +kernel
theorem v_X0_closeBlocks_0 {cs : Cs} {Q : Option AV → Mm → Prop} {MI ML : Nat → Nat → Int} {b d e nw th x : Nat} {l2 : Int} (hbd : b = 38 ∨ b = 81)
    (h : ((0 < (MI 28 9) → (-2147483648 ≤ (MI 28 9) - 1 ∧ (MI 28 9) - 1 < 2147483648) ∧ (0 ≤ ((MI 28 9) - 1) ∧ ((MI 28 9) - 1) < 30) ∧ (0 ≤ (MI 36 ((MI 28 9) - 1).toNat) ∧ (MI 36 ((MI 28 9) - 1).toNat) < 600) ∧ ((l2 < (MI (b + 38) (MI 36 ((MI 28 9) - 1).toNat).toNat) → Q none (MI, ML, (GR d e nw th x))) ∧ ((MI (b + 38) (MI 36 ((MI 28 9) - 1).toNat).toNat) ≤ l2 → ∀ m34, m34 = up2 MI 28 9 ((MI 28 9) - 1) → wp cs mX0_endLine KD (rV (GR d e nw th x) fun m39 n39 => (0 ≤ (m39 28 9) ∧ (m39 28 9) < 30) ∧ (-2147483648 ≤ (m39 28 16) - (m39 37 (m39 28 9).toNat) ∧ (m39 28 16) - (m39 37 (m39 28 9).toNat) < 2147483648) ∧ ((0 < ((m39 28 16) - (m39 37 (m39 28 9).toNat)) → (((m39 28 15) < ((m39 28 16) - (m39 37 (m39 28 9).toNat)) → wp cs mX0_closeBlocks KD Q 0 [some (vR 28), some (vR b), some (vI l2), none, none] [] (KD, m39, n39, (GR d e nw th x))) ∧ (((m39 28 16) - (m39 37 (m39 28 9).toNat)) ≤ (m39 28 15) → wp cs mX0_isKept KD (rI (GR d e nw th x) fun x84 m84 n84 => ((x84 = 0 → wp cs mX0_closeBlocks KD Q 0 [some (vR 28), some (vR b), some (vI l2), none, none] [] (KD, m84, n84, (GR d e nw th x))) ∧ (x84 ≠ 0 → (0 ≤ (m39 37 (m39 28 9).toNat) ∧ (m39 37 (m39 28 9).toNat) < 2000) ∧ ∀ m106, m106 = up2 m84 35 (m39 37 (m39 28 9).toNat).toNat (if (m84 35 (m39 37 (m39 28 9).toNat).toNat) < ((m39 28 16) - (m39 37 (m39 28 9).toNat)) then ((m39 28 16) - (m39 37 (m39 28 9).toNat)) else (m84 35 (m39 37 (m39 28 9).toNat).toNat)) → wp cs mX0_closeBlocks KD Q 0 [some (vR 28), some (vR b), some (vI l2), none, none] [] (KD, m106, n84, (GR d e nw th x))))) 0 (padL [vR b, vI (m39 36 (m39 28 9).toNat)] 4) [] (KD, m39, n39, (GR d e nw th x))))) ∧ (((m39 28 16) - (m39 37 (m39 28 9).toNat)) ≤ 0 → wp cs mX0_closeBlocks KD Q 0 [some (vR 28), some (vR b), some (vI l2), none, none] [] (KD, m39, n39, (GR d e nw th x))))) 0 (padL [vR 28, vR b] 2) [] (KD, m34, ML, (GR d e nw th x))))) ∧ ((MI 28 9) ≤ 0 → Q none (MI, ML, (GR d e nw th x))))) :
    wp cs mX0_closeBlocks KD Q 0 (padL [vR 28, vR b, vI l2] 5) [] (KD, MI, ML, (GR d e nw th x)) := by
  refine wp_L (L' := [some (vR 28), some (vR b), some (vI l2), none, none]) rfl ?_
  refine wp_aload_n dX0_closeBlocks_0 rfl rfl (by first | exact Or.inl (by decide) | exact Or.inl (by omega) | exact Or.inr (by decide) | exact Or.inr (by omega)) ?_
  refine wp_getI dX0_closeBlocks_1 fX0_40 rfl (by decide) ?_
  refine wp_if_le (tgt := 110) dX0_closeBlocks_4 (by decide) (fun h4 => ?_) (fun h4 => ?_)
  · replace h := h.2 h4
    exact wp_vret dX0_closeBlocks_110 rfl (fun _ => h)
  · replace h := h.1 h4
    refine wp_aload_n dX0_closeBlocks_7 rfl rfl (by first | exact Or.inl (by decide) | exact Or.inl (by omega) | exact Or.inr (by decide) | exact Or.inr (by omega)) ?_
    refine wp_getR dX0_closeBlocks_8 fX0_114 (show KD[b]? = some (7, 19) from kdb_0 hbd) (by omega) ?_
    refine wp_topR (x' := (b + 38)) (grb_0_9 hbd) ?_
    refine wp_aload_n dX0_closeBlocks_11 rfl rfl (by first | exact Or.inl (by decide) | exact Or.inl (by omega) | exact Or.inr (by decide) | exact Or.inr (by omega)) ?_
    refine wp_getR dX0_closeBlocks_12 fX0_34 rfl (by decide) ?_
    refine wp_topR (x' := 36) rfl ?_
    refine wp_aload_n dX0_closeBlocks_15 rfl rfl (by first | exact Or.inl (by decide) | exact Or.inl (by omega) | exact Or.inr (by decide) | exact Or.inr (by omega)) ?_
    refine wp_getI dX0_closeBlocks_16 fX0_40 rfl (by decide) ?_
    refine wp_iconst dX0_closeBlocks_19 (by decide) ?_
    refine wp_pc (pc' := 20) rfl ?_
    have c0 := h.1
    replace h := h.2
    refine wp_isubr dX0_closeBlocks_20 c0 ?_
    have c1 := h.1
    replace h := h.2
    refine wp_iald dX0_closeBlocks_21 rfl (by decide) c1 ?_
    have c2 := h.1
    replace h := h.2
    refine wp_iald dX0_closeBlocks_22 (kdb_38 hbd) (by omega) c2 ?_
    refine wp_iload_n dX0_closeBlocks_23 rfl rfl ?_
    refine wp_icmp_gt (tgt := 110) dX0_closeBlocks_24 (by decide) (fun h24 => ?_) (fun h24 => ?_)
    · replace h := h.1 h24
      exact wp_vret dX0_closeBlocks_110 rfl (fun _ => h)
    · replace h := h.2 h24
      refine wp_aload_n dX0_closeBlocks_27 rfl rfl (by first | exact Or.inl (by decide) | exact Or.inl (by omega) | exact Or.inr (by decide) | exact Or.inr (by omega)) ?_
      refine wp_dup dX0_closeBlocks_28 (fun x e => by cases e) ?_
      refine wp_getI dX0_closeBlocks_29 fX0_40 rfl (by decide) ?_
      refine wp_iconst dX0_closeBlocks_32 (by decide) ?_
      refine wp_isubr dX0_closeBlocks_33 c0 ?_
      refine wp_putI dX0_closeBlocks_34 pX0_40 rfl (by decide) ?_
      refine wp_gI (fun m34 e34 => ?_)
      replace h := h m34 e34
      refine wp_aload_n dX0_closeBlocks_37 rfl rfl (by first | exact Or.inl (by decide) | exact Or.inl (by omega) | exact Or.inr (by decide) | exact Or.inr (by omega)) ?_
      refine wp_pc (pc' := 38) rfl ?_
      refine wp_aload_n dX0_closeBlocks_38 rfl rfl (by first | exact Or.inl (by decide) | exact Or.inl (by omega) | exact Or.inr (by decide) | exact Or.inr (by omega)) ?_
      refine wp_cVq (n := 1) (mt' := mX0_endLine) (as := [vR b]) (rest := []) _ dX0_closeBlocks_39 lX0_94 kX0_endLine vX0_endLine (by decide) (by decide +kernel) rfl (Nat.le_of_ble_eq_true rfl) (by decide) rfl rfl rfl (Nat.le_of_ble_eq_true rfl) (fun hM hS => h) (fun r M' hq hM => ?_)
      obtain ⟨m39, n39, rfl, rfl, h⟩ := rV_out hq
      refine wp_aload_n dX0_closeBlocks_42 rfl rfl (by first | exact Or.inl (by decide) | exact Or.inl (by omega) | exact Or.inr (by decide) | exact Or.inr (by omega)) ?_
      refine wp_getR dX0_closeBlocks_43 fX0_37 rfl (by decide) ?_
      refine wp_topR (x' := 37) rfl ?_
      refine wp_aload_n dX0_closeBlocks_46 rfl rfl (by first | exact Or.inl (by decide) | exact Or.inl (by omega) | exact Or.inr (by decide) | exact Or.inr (by omega)) ?_
      refine wp_getI dX0_closeBlocks_47 fX0_40 rfl (by decide) ?_
      have c3 := h.1
      replace h := h.2
      refine wp_iald dX0_closeBlocks_50 rfl (by decide) c3 ?_
      refine wp_istore_n dX0_closeBlocks_51 rfl (by decide) (wp_L (L' := [some (vR 28), some (vR b), some (vI l2), some (vI (m39 37 (m39 28 9).toNat)), none]) rfl ?_)
      refine wp_aload_n dX0_closeBlocks_52 rfl rfl (by first | exact Or.inl (by decide) | exact Or.inl (by omega) | exact Or.inr (by decide) | exact Or.inr (by omega)) ?_
      refine wp_pc (pc' := 53) rfl ?_
      refine wp_getI dX0_closeBlocks_53 fX0_62 rfl (by decide) ?_
      refine wp_iload_n dX0_closeBlocks_56 rfl rfl ?_
      have c4 := h.1
      replace h := h.2
      refine wp_isubr dX0_closeBlocks_57 c4 ?_
      refine wp_istore dX0_closeBlocks_58 (by decide) (wp_L (L' := [some (vR 28), some (vR b), some (vI l2), some (vI (m39 37 (m39 28 9).toNat)), some (vI ((m39 28 16) - (m39 37 (m39 28 9).toNat)))]) rfl ?_)
      refine wp_iload dX0_closeBlocks_60 rfl ?_
      refine wp_if_le (tgt := 107) dX0_closeBlocks_62 (by decide) (fun h62 => ?_) (fun h62 => ?_)
      · replace h := h.2 h62
        refine wp_goto (tgt := 0) dX0_closeBlocks_107 (by decide) ?_
        refine wp_forget (L' := [some (vR 28), some (vR b), some (vI l2), none, none]) (by repeat' (first | exact trivial | refine ⟨rfl, ?_⟩)) ?_
        exact h
      · replace h := h.1 h62
        refine wp_iload dX0_closeBlocks_65 rfl ?_
        refine wp_aload_n dX0_closeBlocks_67 rfl rfl (by first | exact Or.inl (by decide) | exact Or.inl (by omega) | exact Or.inr (by decide) | exact Or.inr (by omega)) ?_
        refine wp_getI dX0_closeBlocks_68 fX0_59 rfl (by decide) ?_
        refine wp_icmp_gt (tgt := 107) dX0_closeBlocks_71 (by decide) (fun h71 => ?_) (fun h71 => ?_)
        · replace h := h.1 h71
          refine wp_goto (tgt := 0) dX0_closeBlocks_107 (by decide) ?_
          refine wp_forget (L' := [some (vR 28), some (vR b), some (vI l2), none, none]) (by repeat' (first | exact trivial | refine ⟨rfl, ?_⟩)) ?_
          exact h
        · replace h := h.2 h71
          refine wp_aload_n dX0_closeBlocks_74 rfl rfl (by first | exact Or.inl (by decide) | exact Or.inl (by omega) | exact Or.inr (by decide) | exact Or.inr (by omega)) ?_
          refine wp_aload_n dX0_closeBlocks_75 rfl rfl (by first | exact Or.inl (by decide) | exact Or.inl (by omega) | exact Or.inr (by decide) | exact Or.inr (by omega)) ?_
          refine wp_getR dX0_closeBlocks_76 fX0_34 rfl (by decide) ?_
          refine wp_topR (x' := 36) rfl ?_
          refine wp_aload_n dX0_closeBlocks_79 rfl rfl (by first | exact Or.inl (by decide) | exact Or.inl (by omega) | exact Or.inr (by decide) | exact Or.inr (by omega)) ?_
          refine wp_getI dX0_closeBlocks_80 fX0_40 rfl (by decide) ?_
          refine wp_iald dX0_closeBlocks_83 rfl (by decide) c3 ?_
          refine wp_cSq (n := 2) (mt' := mX0_isKept) (as := [vR b, vI (m39 36 (m39 28 9).toNat)]) (rest := []) _ dX0_closeBlocks_84 lX0_117 kX0_isKept vX0_isKept (by decide) (by decide +kernel) rfl (Nat.le_of_ble_eq_true rfl) rfl (Nat.le_of_ble_eq_true rfl) (fun hM hS => h) (fun r M' hq hM => ?_)
          obtain ⟨x84, m84, n84, rfl, rfl, h⟩ := rI_out hq
          refine wp_if_eq (tgt := 107) dX0_closeBlocks_87 (by decide) (fun h87 => ?_) (fun h87 => ?_)
          · replace h := h.1 h87
            refine wp_goto (tgt := 0) dX0_closeBlocks_107 (by decide) ?_
            refine wp_forget (L' := [some (vR 28), some (vR b), some (vI l2), none, none]) (by repeat' (first | exact trivial | refine ⟨rfl, ?_⟩)) ?_
            exact h
          · replace h := h.2 h87
            refine wp_aload_n dX0_closeBlocks_90 rfl rfl (by first | exact Or.inl (by decide) | exact Or.inl (by omega) | exact Or.inr (by decide) | exact Or.inr (by omega)) ?_
            refine wp_getR dX0_closeBlocks_91 fX0_31 rfl (by decide) ?_
            refine wp_topR (x' := 35) rfl ?_
            refine wp_iload_n dX0_closeBlocks_94 rfl rfl ?_
            refine wp_aload_n dX0_closeBlocks_95 rfl rfl (by first | exact Or.inl (by decide) | exact Or.inl (by omega) | exact Or.inr (by decide) | exact Or.inr (by omega)) ?_
            refine wp_getR dX0_closeBlocks_96 fX0_31 rfl (by decide) ?_
            refine wp_topR (x' := 35) rfl ?_
            refine wp_iload_n dX0_closeBlocks_99 rfl rfl ?_
            have c5 := h.1
            replace h := h.2
            refine wp_iald dX0_closeBlocks_100 rfl (by decide) c5 ?_
            refine wp_pc (pc' := 101) rfl ?_
            refine wp_iload dX0_closeBlocks_101 rfl ?_
            refine wp_mmax dX0_closeBlocks_103 lX0_120 (Nat.le_of_ble_eq_true rfl) (by decide) (by decide) ⟨Nat.le_refl _, Nat.le_refl _⟩ ?_
            refine wp_iast dX0_closeBlocks_106 rfl (by decide) c5 ?_
            refine wp_gI (fun m106 e106 => ?_)
            replace h := h m106 e106
            refine wp_goto (tgt := 0) dX0_closeBlocks_107 (by decide) ?_
            refine wp_forget (L' := [some (vR 28), some (vR b), some (vI l2), none, none]) (by repeat' (first | exact trivial | refine ⟨rfl, ?_⟩)) ?_
            exact h
theorem dX0_takeText_0 : decode cX0_takeText 0 = .ok (.aload_n 1, 1) := by decide +kernel
theorem dX0_takeText_1 : decode cX0_takeText 1 = .ok (.getfield 131, 3) := by decide +kernel
theorem dX0_takeText_4 : decode cX0_takeText 4 = .ok (.iload_n 2, 1) := by decide +kernel
theorem dX0_takeText_5 : decode cX0_takeText 5 = .ok (.iaload, 1) := by decide +kernel
theorem dX0_takeText_6 : decode cX0_takeText 6 = .ok (.istore_n 3, 1) := by decide +kernel
theorem dX0_takeText_7 : decode cX0_takeText 7 = .ok (.iload_n 3, 1) := by decide +kernel
theorem dX0_takeText_8 : decode cX0_takeText 8 = .ok (.aload_n 1, 1) := by decide +kernel
theorem dX0_takeText_9 : decode cX0_takeText 9 = .ok (.getfield 128, 3) := by decide +kernel
theorem dX0_takeText_12 : decode cX0_takeText 12 = .ok (.iload_n 2, 1) := by decide +kernel
theorem dX0_takeText_13 : decode cX0_takeText 13 = .ok (.iaload, 1) := by decide +kernel
theorem dX0_takeText_14 : decode cX0_takeText 14 = .ok (.if_icmp .ge 51, 3) := by decide +kernel
theorem dX0_takeText_17 : decode cX0_takeText 17 = .ok (.aload_n 1, 1) := by decide +kernel
theorem dX0_takeText_18 : decode cX0_takeText 18 = .ok (.getfield 144, 3) := by decide +kernel
theorem dX0_takeText_21 : decode cX0_takeText 21 = .ok (.iload_n 3, 1) := by decide +kernel
theorem dX0_takeText_22 : decode cX0_takeText 22 = .ok (.baload, 1) := by decide +kernel
theorem dX0_takeText_23 : decode cX0_takeText 23 = .ok (.invokestatic 147, 3) := by decide +kernel
theorem dX0_takeText_26 : decode cX0_takeText 26 = .ok (.ifCond .eq 11, 3) := by decide +kernel
theorem dX0_takeText_29 : decode cX0_takeText 29 = .ok (.aload_n 0, 1) := by decide +kernel
theorem dX0_takeText_30 : decode cX0_takeText 30 = .ok (.aload_n 1, 1) := by decide +kernel
theorem dX0_takeText_31 : decode cX0_takeText 31 = .ok (.invokevirtual 153, 3) := by decide +kernel
theorem dX0_takeText_34 : decode cX0_takeText 34 = .ok (.goto 25, 3) := by decide +kernel
theorem dX0_takeText_37 : decode cX0_takeText 37 = .ok (.aload_n 0, 1) := by decide +kernel
theorem dX0_takeText_38 : decode cX0_takeText 38 = .ok (.getfield 53, 3) := by decide +kernel
theorem dX0_takeText_41 : decode cX0_takeText 41 = .ok (.ifCond .ne 8, 3) := by decide +kernel
theorem dX0_takeText_44 : decode cX0_takeText 44 = .ok (.aload_n 0, 1) := by decide +kernel
theorem dX0_takeText_45 : decode cX0_takeText 45 = .ok (.iload_n 3, 1) := by decide +kernel
theorem dX0_takeText_46 : decode cX0_takeText 46 = .ok (.putfield 50, 3) := by decide +kernel
theorem dX0_takeText_49 : decode cX0_takeText 49 = .ok (.aload_n 0, 1) := by decide +kernel
theorem dX0_takeText_50 : decode cX0_takeText 50 = .ok (.dup, 1) := by decide +kernel
theorem dX0_takeText_51 : decode cX0_takeText 51 = .ok (.getfield 53, 3) := by decide +kernel
theorem dX0_takeText_54 : decode cX0_takeText 54 = .ok (.iconst 1, 1) := by decide +kernel
theorem dX0_takeText_55 : decode cX0_takeText 55 = .ok (.iadd, 1) := by decide +kernel
theorem dX0_takeText_56 : decode cX0_takeText 56 = .ok (.putfield 53, 3) := by decide +kernel
theorem dX0_takeText_59 : decode cX0_takeText 59 = .ok (.iinc 3 1, 3) := by decide +kernel
theorem dX0_takeText_62 : decode cX0_takeText 62 = .ok (.goto (-55), 3) := by decide +kernel
theorem dX0_takeText_65 : decode cX0_takeText 65 = .ok (.return_, 1) := by decide +kernel
theorem v_X0_takeText_0 {cs : Cs} {Q : Option AV → Mm → Prop} {MI ML : Nat → Nat → Int} {b d e nw th x : Nat} {l2 : Int} (hbd : b = 38 ∨ b = 81)
    (h : (0 ≤ l2 ∧ l2 < 600) ∧ wp cs mX0_takeText KD Q 7 [some (vR 28), some (vR b), some (vI l2), some (vI (MI (b + 39) l2.toNat))] [] (KD, MI, ML, (GR d e nw th x))) :
    wp cs mX0_takeText KD Q 0 (padL [vR 28, vR b, vI l2] 4) [] (KD, MI, ML, (GR d e nw th x)) := by
  refine wp_L (L' := [some (vR 28), some (vR b), some (vI l2), none]) rfl ?_
  refine wp_aload_n dX0_takeText_0 rfl rfl (by first | exact Or.inl (by decide) | exact Or.inl (by omega) | exact Or.inr (by decide) | exact Or.inr (by omega)) ?_
  refine wp_getR dX0_takeText_1 fX0_131 (show KD[b]? = some (7, 19) from kdb_0 hbd) (by omega) ?_
  refine wp_topR (x' := (b + 39)) (grb_0_10 hbd) ?_
  refine wp_iload_n dX0_takeText_4 rfl rfl ?_
  have c0 := h.1
  replace h := h.2
  refine wp_iald dX0_takeText_5 (kdb_39 hbd) (by omega) c0 ?_
  refine wp_istore_n dX0_takeText_6 rfl (by decide) (wp_L (L' := [some (vR 28), some (vR b), some (vI l2), some (vI (MI (b + 39) l2.toNat))]) rfl ?_)
  exact h
theorem v_X0_takeText_7 {cs : Cs} {Q : Option AV → Mm → Prop} {MI ML : Nat → Nat → Int} {b d e nw th x : Nat} {l2 l3 : Int} (hbd : b = 38 ∨ b = 81)
    (h : (0 ≤ l2 ∧ l2 < 600) ∧ ((l3 < (MI (b + 40) l2.toNat) → (0 ≤ l3 ∧ l3 < 2000) ∧ wp cs mX1_isSpace KD (rI (GR d e nw th x) fun x23 m23 n23 => ((x23 = 0 → (((m23 28 13) = 0 → ∀ m46, m46 = up2 m23 28 12 l3 → (-2147483648 ≤ (m46 28 13) + 1 ∧ (m46 28 13) + 1 < 2147483648) ∧ ∀ m56, m56 = up2 m46 28 13 ((m46 28 13) + 1) → (-2147483648 ≤ l3 + 1 ∧ l3 + 1 < 2147483648) ∧ wp cs mX0_takeText KD Q 7 [some (vR 28), some (vR b), some (vI l2), some (vI (l3 + 1))] [] (KD, m56, n23, (GR d e nw th x))) ∧ ((m23 28 13) ≠ 0 → (-2147483648 ≤ (m23 28 13) + 1 ∧ (m23 28 13) + 1 < 2147483648) ∧ ∀ m56, m56 = up2 m23 28 13 ((m23 28 13) + 1) → (-2147483648 ≤ l3 + 1 ∧ l3 + 1 < 2147483648) ∧ wp cs mX0_takeText KD Q 7 [some (vR 28), some (vR b), some (vI l2), some (vI (l3 + 1))] [] (KD, m56, n23, (GR d e nw th x))))) ∧ (x23 ≠ 0 → wp cs mX0_endWord KD (rV (GR d e nw th x) fun m31 n31 => (-2147483648 ≤ l3 + 1 ∧ l3 + 1 < 2147483648) ∧ wp cs mX0_takeText KD Q 7 [some (vR 28), some (vR b), some (vI l2), some (vI (l3 + 1))] [] (KD, m31, n31, (GR d e nw th x))) 0 (padL [vR 28, vR b] 3) [] (KD, m23, n23, (GR d e nw th x))))) 0 (padL [vI (MI (b + 42) l3.toNat)] 1) [] (KD, MI, ML, (GR d e nw th x))) ∧ ((MI (b + 40) l2.toNat) ≤ l3 → Q none (MI, ML, (GR d e nw th x))))) :
    wp cs mX0_takeText KD Q 7 [some (vR 28), some (vR b), some (vI l2), some (vI l3)] [] (KD, MI, ML, (GR d e nw th x)) := by
  refine wp_iload_n dX0_takeText_7 rfl rfl ?_
  refine wp_aload_n dX0_takeText_8 rfl rfl (by first | exact Or.inl (by decide) | exact Or.inl (by omega) | exact Or.inr (by decide) | exact Or.inr (by omega)) ?_
  refine wp_getR dX0_takeText_9 fX0_128 (show KD[b]? = some (7, 19) from kdb_0 hbd) (by omega) ?_
  refine wp_topR (x' := (b + 40)) (grb_0_11 hbd) ?_
  refine wp_iload_n dX0_takeText_12 rfl rfl ?_
  have c0 := h.1
  replace h := h.2
  refine wp_iald dX0_takeText_13 (kdb_40 hbd) (by omega) c0 ?_
  refine wp_icmp_ge (tgt := 65) dX0_takeText_14 (by decide) (fun h14 => ?_) (fun h14 => ?_)
  · replace h := h.2 h14
    exact wp_vret dX0_takeText_65 rfl (fun _ => h)
  · replace h := h.1 h14
    refine wp_aload_n dX0_takeText_17 rfl rfl (by first | exact Or.inl (by decide) | exact Or.inl (by omega) | exact Or.inr (by decide) | exact Or.inr (by omega)) ?_
    refine wp_getR dX0_takeText_18 fX0_144 (show KD[b]? = some (7, 19) from kdb_0 hbd) (by omega) ?_
    refine wp_topR (x' := (b + 42)) (grb_0_13 hbd) ?_
    refine wp_iload_n dX0_takeText_21 rfl rfl ?_
    have c1 := h.1
    replace h := h.2
    refine wp_bald dX0_takeText_22 (kdb_42 hbd) (by omega) c1 ?_
    refine wp_cSq (n := 1) (mt' := mX1_isSpace) (as := [vI (MI (b + 42) l3.toNat)]) (rest := []) _ dX0_takeText_23 lX0_147 kX1_isSpace vX1_isSpace (by decide) (by decide +kernel) rfl (Nat.le_of_ble_eq_true rfl) rfl (Nat.le_of_ble_eq_true rfl) (fun hM hS => h) (fun r M' hq hM => ?_)
    obtain ⟨x23, m23, n23, rfl, rfl, h⟩ := rI_out hq
    refine wp_if_eq (tgt := 37) dX0_takeText_26 (by decide) (fun h26 => ?_) (fun h26 => ?_)
    · replace h := h.1 h26
      refine wp_aload_n dX0_takeText_37 rfl rfl (by first | exact Or.inl (by decide) | exact Or.inl (by omega) | exact Or.inr (by decide) | exact Or.inr (by omega)) ?_
      refine wp_getI dX0_takeText_38 fX0_53 rfl (by decide) ?_
      refine wp_if_ne (tgt := 49) dX0_takeText_41 (by decide) (fun h41 => ?_) (fun h41 => ?_)
      · replace h := h.2 h41
        refine wp_aload_n dX0_takeText_49 rfl rfl (by first | exact Or.inl (by decide) | exact Or.inl (by omega) | exact Or.inr (by decide) | exact Or.inr (by omega)) ?_
        refine wp_dup dX0_takeText_50 (fun x e => by cases e) ?_
        refine wp_getI dX0_takeText_51 fX0_53 rfl (by decide) ?_
        refine wp_iconst dX0_takeText_54 (by decide) ?_
        have c2 := h.1
        replace h := h.2
        refine wp_iaddr dX0_takeText_55 c2 ?_
        refine wp_putI dX0_takeText_56 pX0_53 rfl (by decide) ?_
        refine wp_gI (fun m56 e56 => ?_)
        replace h := h m56 e56
        have c3 := h.1
        replace h := h.2
        refine wp_iincr dX0_takeText_59 rfl (by decide) c3 (wp_L (L' := [some (vR 28), some (vR b), some (vI l2), some (vI (l3 + 1))]) rfl ?_)
        refine wp_pc (pc' := 62) rfl ?_
        refine wp_goto (tgt := 7) dX0_takeText_62 (by decide) ?_
        exact h
      · replace h := h.1 h41
        refine wp_aload_n dX0_takeText_44 rfl rfl (by first | exact Or.inl (by decide) | exact Or.inl (by omega) | exact Or.inr (by decide) | exact Or.inr (by omega)) ?_
        refine wp_iload_n dX0_takeText_45 rfl rfl ?_
        refine wp_putI dX0_takeText_46 pX0_50 rfl (by decide) ?_
        refine wp_gI (fun m46 e46 => ?_)
        replace h := h m46 e46
        refine wp_aload_n dX0_takeText_49 rfl rfl (by first | exact Or.inl (by decide) | exact Or.inl (by omega) | exact Or.inr (by decide) | exact Or.inr (by omega)) ?_
        refine wp_dup dX0_takeText_50 (fun x e => by cases e) ?_
        refine wp_getI dX0_takeText_51 fX0_53 rfl (by decide) ?_
        refine wp_iconst dX0_takeText_54 (by decide) ?_
        refine wp_pc (pc' := 55) rfl ?_
        have c2 := h.1
        replace h := h.2
        refine wp_iaddr dX0_takeText_55 c2 ?_
        refine wp_putI dX0_takeText_56 pX0_53 rfl (by decide) ?_
        refine wp_gI (fun m56 e56 => ?_)
        replace h := h m56 e56
        have c3 := h.1
        replace h := h.2
        refine wp_iincr dX0_takeText_59 rfl (by decide) c3 (wp_L (L' := [some (vR 28), some (vR b), some (vI l2), some (vI (l3 + 1))]) rfl ?_)
        refine wp_goto (tgt := 7) dX0_takeText_62 (by decide) ?_
        exact h
    · replace h := h.2 h26
      refine wp_aload_n dX0_takeText_29 rfl rfl (by first | exact Or.inl (by decide) | exact Or.inl (by omega) | exact Or.inr (by decide) | exact Or.inr (by omega)) ?_
      refine wp_aload_n dX0_takeText_30 rfl rfl (by first | exact Or.inl (by decide) | exact Or.inl (by omega) | exact Or.inr (by decide) | exact Or.inr (by omega)) ?_
      refine wp_cVq (n := 1) (mt' := mX0_endWord) (as := [vR b]) (rest := []) _ dX0_takeText_31 lX0_153 kX0_endWord vX0_endWord (by decide) (by decide +kernel) rfl (Nat.le_of_ble_eq_true rfl) (by decide) rfl rfl rfl (Nat.le_of_ble_eq_true rfl) (fun hM hS => h) (fun r M' hq hM => ?_)
      obtain ⟨m31, n31, rfl, rfl, h⟩ := rV_out hq
      refine wp_goto (tgt := 59) dX0_takeText_34 (by decide) ?_
      have c2 := h.1
      replace h := h.2
      refine wp_iincr dX0_takeText_59 rfl (by decide) c2 (wp_L (L' := [some (vR 28), some (vR b), some (vI l2), some (vI (l3 + 1))]) rfl ?_)
      refine wp_goto (tgt := 7) dX0_takeText_62 (by decide) ?_
      exact h
theorem dX0_isBlock_0 : decode cX0_isBlock 0 = .ok (.aload_n 0, 1) := by decide +kernel
theorem dX0_isBlock_1 : decode cX0_isBlock 1 = .ok (.getfield 101, 3) := by decide +kernel
theorem dX0_isBlock_4 : decode cX0_isBlock 4 = .ok (.aload_n 0, 1) := by decide +kernel
theorem dX0_isBlock_5 : decode cX0_isBlock 5 = .ok (.getfield 105, 3) := by decide +kernel
theorem dX0_isBlock_8 : decode cX0_isBlock 8 = .ok (.iload_n 1, 1) := by decide +kernel
theorem dX0_isBlock_9 : decode cX0_isBlock 9 = .ok (.iaload, 1) := by decide +kernel
theorem dX0_isBlock_10 : decode cX0_isBlock 10 = .ok (.iconst 0, 1) := by decide +kernel
theorem dX0_isBlock_11 : decode cX0_isBlock 11 = .ok (.invokevirtual 108, 3) := by decide +kernel
theorem dX0_isBlock_14 : decode cX0_isBlock 14 = .ok (.istore_n 2, 1) := by decide +kernel
theorem dX0_isBlock_15 : decode cX0_isBlock 15 = .ok (.aload_n 0, 1) := by decide +kernel
theorem dX0_isBlock_16 : decode cX0_isBlock 16 = .ok (.getfield 81, 3) := by decide +kernel
theorem dX0_isBlock_19 : decode cX0_isBlock 19 = .ok (.iload_n 1, 1) := by decide +kernel
theorem dX0_isBlock_20 : decode cX0_isBlock 20 = .ok (.iaload, 1) := by decide +kernel
theorem dX0_isBlock_21 : decode cX0_isBlock 21 = .ok (.iconst 1, 1) := by decide +kernel
theorem dX0_isBlock_22 : decode cX0_isBlock 22 = .ok (.if_icmp .ne 19, 3) := by decide +kernel
theorem dX0_isBlock_25 : decode cX0_isBlock 25 = .ok (.iload_n 2, 1) := by decide +kernel
theorem dX0_isBlock_26 : decode cX0_isBlock 26 = .ok (.bipush 65, 2) := by decide +kernel
theorem dX0_isBlock_28 : decode cX0_isBlock 28 = .ok (.if_icmp .lt 13, 3) := by decide +kernel
theorem dX0_isBlock_31 : decode cX0_isBlock 31 = .ok (.iload_n 2, 1) := by decide +kernel
theorem dX0_isBlock_32 : decode cX0_isBlock 32 = .ok (.bipush 90, 2) := by decide +kernel
theorem dX0_isBlock_34 : decode cX0_isBlock 34 = .ok (.if_icmp .gt 7, 3) := by decide +kernel
theorem dX0_isBlock_37 : decode cX0_isBlock 37 = .ok (.iconst 1, 1) := by decide +kernel
theorem dX0_isBlock_38 : decode cX0_isBlock 38 = .ok (.goto 4, 3) := by decide +kernel
theorem dX0_isBlock_41 : decode cX0_isBlock 41 = .ok (.iconst 0, 1) := by decide +kernel
theorem dX0_isBlock_42 : decode cX0_isBlock 42 = .ok (.ireturn, 1) := by decide +kernel
theorem v_X0_isBlock_0 {cs : Cs} {Q : Option AV → Mm → Prop} {MI ML : Nat → Nat → Int} {b d e nw th x : Nat} {l1 : Int} (hbd : b = 38 ∨ b = 81)
    (h : (0 ≤ l1 ∧ l1 < 600) ∧ wp cs mX5_byteOf KD (rI (GR d e nw th x) fun x11 m11 n11 => (((m11 (b + 32) l1.toNat) = 1 → ((x11 < 65 → Q (some (vI 0)) (m11, n11, (GR d e nw th x))) ∧ (65 ≤ x11 → ((90 < x11 → Q (some (vI 0)) (m11, n11, (GR d e nw th x))) ∧ (x11 ≤ 90 → Q (some (vI 1)) (m11, n11, (GR d e nw th x))))))) ∧ ((m11 (b + 32) l1.toNat) ≠ 1 → Q (some (vI 0)) (m11, n11, (GR d e nw th x))))) 0 (padL [vR (b + 1), vI (MI (b + 34) l1.toNat), vI 0] 3) [] (KD, MI, ML, (GR d e nw th x))) :
    wp cs mX0_isBlock KD Q 0 (padL [vR b, vI l1] 3) [] (KD, MI, ML, (GR d e nw th x)) := by
  refine wp_L (L' := [some (vR b), some (vI l1), none]) rfl ?_
  refine wp_aload_n dX0_isBlock_0 rfl rfl (by first | exact Or.inl (by decide) | exact Or.inl (by omega) | exact Or.inr (by decide) | exact Or.inr (by omega)) ?_
  refine wp_getR dX0_isBlock_1 fX0_101 (show KD[b]? = some (7, 19) from kdb_0 hbd) (by omega) ?_
  refine wp_topR (x' := (b + 1)) (grb_0_0 hbd) ?_
  refine wp_aload_n dX0_isBlock_4 rfl rfl (by first | exact Or.inl (by decide) | exact Or.inl (by omega) | exact Or.inr (by decide) | exact Or.inr (by omega)) ?_
  refine wp_getR dX0_isBlock_5 fX0_105 (show KD[b]? = some (7, 19) from kdb_0 hbd) (by omega) ?_
  refine wp_topR (x' := (b + 34)) (grb_0_5 hbd) ?_
  refine wp_iload_n dX0_isBlock_8 rfl rfl ?_
  have c0 := h.1
  replace h := h.2
  refine wp_iald dX0_isBlock_9 (kdb_34 hbd) (by omega) c0 ?_
  refine wp_iconst dX0_isBlock_10 (by decide) ?_
  refine wp_pc (pc' := 11) rfl ?_
  refine wp_cVq (n := 2) (mt' := mX5_byteOf) (as := [vI (MI (b + 34) l1.toNat), vI 0]) (rest := []) _ dX0_isBlock_11 lX0_108 kX5_byteOf vX5_byteOf (by decide) (by decide +kernel) rfl (Nat.le_of_ble_eq_true rfl) (by omega) (kdb_1 hbd) rfl rfl (Nat.le_of_ble_eq_true rfl) (fun hM hS => h) (fun r M' hq hM => ?_)
  obtain ⟨x11, m11, n11, rfl, rfl, h⟩ := rI_out hq
  refine wp_istore_n dX0_isBlock_14 rfl (by decide) (wp_L (L' := [some (vR b), some (vI l1), some (vI x11)]) rfl ?_)
  refine wp_aload_n dX0_isBlock_15 rfl rfl (by first | exact Or.inl (by decide) | exact Or.inl (by omega) | exact Or.inr (by decide) | exact Or.inr (by omega)) ?_
  refine wp_getR dX0_isBlock_16 fX0_81 (show KD[b]? = some (7, 19) from kdb_0 hbd) (by omega) ?_
  refine wp_topR (x' := (b + 32)) (grb_0_3 hbd) ?_
  refine wp_iload_n dX0_isBlock_19 rfl rfl ?_
  refine wp_iald dX0_isBlock_20 (kdb_32 hbd) (by omega) c0 ?_
  refine wp_iconst dX0_isBlock_21 (by decide) ?_
  refine wp_icmp_ne (tgt := 41) dX0_isBlock_22 (by decide) (fun h22 => ?_) (fun h22 => ?_)
  · replace h := h.2 h22
    refine wp_iconst dX0_isBlock_41 (by decide) ?_
    exact wp_zret dX0_isBlock_42 rfl (by decide) (fun _ => h)
  · replace h := h.1 h22
    refine wp_iload_n dX0_isBlock_25 rfl rfl ?_
    refine wp_bipush dX0_isBlock_26 (by decide +kernel) (by decide) ?_
    refine wp_icmp_lt (tgt := 41) dX0_isBlock_28 (by decide) (fun h28 => ?_) (fun h28 => ?_)
    · replace h := h.1 h28
      refine wp_iconst dX0_isBlock_41 (by decide) ?_
      exact wp_zret dX0_isBlock_42 rfl (by decide) (fun _ => h)
    · replace h := h.2 h28
      refine wp_iload_n dX0_isBlock_31 rfl rfl ?_
      refine wp_bipush dX0_isBlock_32 (by decide +kernel) (by decide) ?_
      refine wp_icmp_gt (tgt := 41) dX0_isBlock_34 (by decide) (fun h34 => ?_) (fun h34 => ?_)
      · replace h := h.1 h34
        refine wp_iconst dX0_isBlock_41 (by decide) ?_
        exact wp_zret dX0_isBlock_42 rfl (by decide) (fun _ => h)
      · replace h := h.2 h34
        refine wp_iconst dX0_isBlock_37 (by decide) ?_
        refine wp_goto (tgt := 42) dX0_isBlock_38 (by decide) ?_
        exact wp_zret dX0_isBlock_42 rfl (by decide) (fun _ => h)
theorem dX0_openBlock_0 : decode cX0_openBlock 0 = .ok (.aload_n 0, 1) := by decide +kernel
theorem dX0_openBlock_1 : decode cX0_openBlock 1 = .ok (.aload_n 1, 1) := by decide +kernel
theorem dX0_openBlock_2 : decode cX0_openBlock 2 = .ok (.invokevirtual 94, 3) := by decide +kernel
theorem dX0_openBlock_5 : decode cX0_openBlock 5 = .ok (.aload_n 0, 1) := by decide +kernel
theorem dX0_openBlock_6 : decode cX0_openBlock 6 = .ok (.getfield 40, 3) := by decide +kernel
theorem dX0_openBlock_9 : decode cX0_openBlock 9 = .ok (.bipush 30, 2) := by decide +kernel
theorem dX0_openBlock_11 : decode cX0_openBlock 11 = .ok (.if_icmp .ge 36, 3) := by decide +kernel
theorem dX0_openBlock_14 : decode cX0_openBlock 14 = .ok (.aload_n 0, 1) := by decide +kernel
theorem dX0_openBlock_15 : decode cX0_openBlock 15 = .ok (.getfield 34, 3) := by decide +kernel
theorem dX0_openBlock_18 : decode cX0_openBlock 18 = .ok (.aload_n 0, 1) := by decide +kernel
theorem dX0_openBlock_19 : decode cX0_openBlock 19 = .ok (.getfield 40, 3) := by decide +kernel
theorem dX0_openBlock_22 : decode cX0_openBlock 22 = .ok (.iload_n 2, 1) := by decide +kernel
theorem dX0_openBlock_23 : decode cX0_openBlock 23 = .ok (.iastore, 1) := by decide +kernel
theorem dX0_openBlock_24 : decode cX0_openBlock 24 = .ok (.aload_n 0, 1) := by decide +kernel
theorem dX0_openBlock_25 : decode cX0_openBlock 25 = .ok (.getfield 37, 3) := by decide +kernel
theorem dX0_openBlock_28 : decode cX0_openBlock 28 = .ok (.aload_n 0, 1) := by decide +kernel
theorem dX0_openBlock_29 : decode cX0_openBlock 29 = .ok (.getfield 40, 3) := by decide +kernel
theorem dX0_openBlock_32 : decode cX0_openBlock 32 = .ok (.aload_n 0, 1) := by decide +kernel
theorem dX0_openBlock_33 : decode cX0_openBlock 33 = .ok (.getfield 62, 3) := by decide +kernel
theorem dX0_openBlock_36 : decode cX0_openBlock 36 = .ok (.iastore, 1) := by decide +kernel
theorem dX0_openBlock_37 : decode cX0_openBlock 37 = .ok (.aload_n 0, 1) := by decide +kernel
theorem dX0_openBlock_38 : decode cX0_openBlock 38 = .ok (.dup, 1) := by decide +kernel
theorem dX0_openBlock_39 : decode cX0_openBlock 39 = .ok (.getfield 40, 3) := by decide +kernel
theorem dX0_openBlock_42 : decode cX0_openBlock 42 = .ok (.iconst 1, 1) := by decide +kernel
theorem dX0_openBlock_43 : decode cX0_openBlock 43 = .ok (.iadd, 1) := by decide +kernel
theorem dX0_openBlock_44 : decode cX0_openBlock 44 = .ok (.putfield 40, 3) := by decide +kernel
theorem dX0_openBlock_47 : decode cX0_openBlock 47 = .ok (.return_, 1) := by decide +kernel
theorem v_X0_openBlock_0 {cs : Cs} {Q : Option AV → Mm → Prop} {MI ML : Nat → Nat → Int} {b d e nw th x : Nat} {l2 : Int} (hbd : b = 38 ∨ b = 81)
    (h : wp cs mX0_endLine KD (rV (GR d e nw th x) fun m2 n2 => (((m2 28 9) < 30 → (0 ≤ (m2 28 9) ∧ (m2 28 9) < 30) ∧ ∀ m23, m23 = up2 m2 36 (m2 28 9).toNat l2 → (0 ≤ (m23 28 9) ∧ (m23 28 9) < 30) ∧ ∀ m36, m36 = up2 m23 37 (m23 28 9).toNat (m23 28 16) → (-2147483648 ≤ (m36 28 9) + 1 ∧ (m36 28 9) + 1 < 2147483648) ∧ ∀ m44, m44 = up2 m36 28 9 ((m36 28 9) + 1) → Q none (m44, n2, (GR d e nw th x))) ∧ (30 ≤ (m2 28 9) → Q none (m2, n2, (GR d e nw th x))))) 0 (padL [vR 28, vR b] 2) [] (KD, MI, ML, (GR d e nw th x))) :
    wp cs mX0_openBlock KD Q 0 (padL [vR 28, vR b, vI l2] 3) [] (KD, MI, ML, (GR d e nw th x)) := by
  refine wp_L (L' := [some (vR 28), some (vR b), some (vI l2)]) rfl ?_
  refine wp_aload_n dX0_openBlock_0 rfl rfl (by first | exact Or.inl (by decide) | exact Or.inl (by omega) | exact Or.inr (by decide) | exact Or.inr (by omega)) ?_
  refine wp_aload_n dX0_openBlock_1 rfl rfl (by first | exact Or.inl (by decide) | exact Or.inl (by omega) | exact Or.inr (by decide) | exact Or.inr (by omega)) ?_
  refine wp_cVq (n := 1) (mt' := mX0_endLine) (as := [vR b]) (rest := []) _ dX0_openBlock_2 lX0_94 kX0_endLine vX0_endLine (by decide) (by decide +kernel) rfl (Nat.le_of_ble_eq_true rfl) (by decide) rfl rfl rfl (Nat.le_of_ble_eq_true rfl) (fun hM hS => h) (fun r M' hq hM => ?_)
  obtain ⟨m2, n2, rfl, rfl, h⟩ := rV_out hq
  refine wp_aload_n dX0_openBlock_5 rfl rfl (by first | exact Or.inl (by decide) | exact Or.inl (by omega) | exact Or.inr (by decide) | exact Or.inr (by omega)) ?_
  refine wp_getI dX0_openBlock_6 fX0_40 rfl (by decide) ?_
  refine wp_bipush dX0_openBlock_9 (by decide +kernel) (by decide) ?_
  refine wp_icmp_ge (tgt := 47) dX0_openBlock_11 (by decide) (fun h11 => ?_) (fun h11 => ?_)
  · replace h := h.2 h11
    exact wp_vret dX0_openBlock_47 rfl (fun _ => h)
  · replace h := h.1 h11
    refine wp_aload_n dX0_openBlock_14 rfl rfl (by first | exact Or.inl (by decide) | exact Or.inl (by omega) | exact Or.inr (by decide) | exact Or.inr (by omega)) ?_
    refine wp_getR dX0_openBlock_15 fX0_34 rfl (by decide) ?_
    refine wp_topR (x' := 36) rfl ?_
    refine wp_aload_n dX0_openBlock_18 rfl rfl (by first | exact Or.inl (by decide) | exact Or.inl (by omega) | exact Or.inr (by decide) | exact Or.inr (by omega)) ?_
    refine wp_getI dX0_openBlock_19 fX0_40 rfl (by decide) ?_
    refine wp_iload_n dX0_openBlock_22 rfl rfl ?_
    have c0 := h.1
    replace h := h.2
    refine wp_iast dX0_openBlock_23 rfl (by decide) c0 ?_
    refine wp_gI (fun m23 e23 => ?_)
    replace h := h m23 e23
    refine wp_aload_n dX0_openBlock_24 rfl rfl (by first | exact Or.inl (by decide) | exact Or.inl (by omega) | exact Or.inr (by decide) | exact Or.inr (by omega)) ?_
    refine wp_pc (pc' := 25) rfl ?_
    refine wp_getR dX0_openBlock_25 fX0_37 rfl (by decide) ?_
    refine wp_topR (x' := 37) rfl ?_
    refine wp_aload_n dX0_openBlock_28 rfl rfl (by first | exact Or.inl (by decide) | exact Or.inl (by omega) | exact Or.inr (by decide) | exact Or.inr (by omega)) ?_
    refine wp_getI dX0_openBlock_29 fX0_40 rfl (by decide) ?_
    refine wp_aload_n dX0_openBlock_32 rfl rfl (by first | exact Or.inl (by decide) | exact Or.inl (by omega) | exact Or.inr (by decide) | exact Or.inr (by omega)) ?_
    refine wp_getI dX0_openBlock_33 fX0_62 rfl (by decide) ?_
    have c1 := h.1
    replace h := h.2
    refine wp_iast dX0_openBlock_36 rfl (by decide) c1 ?_
    refine wp_gI (fun m36 e36 => ?_)
    replace h := h m36 e36
    refine wp_aload_n dX0_openBlock_37 rfl rfl (by first | exact Or.inl (by decide) | exact Or.inl (by omega) | exact Or.inr (by decide) | exact Or.inr (by omega)) ?_
    refine wp_dup dX0_openBlock_38 (fun x e => by cases e) ?_
    refine wp_pc (pc' := 39) rfl ?_
    refine wp_getI dX0_openBlock_39 fX0_40 rfl (by decide) ?_
    refine wp_iconst dX0_openBlock_42 (by decide) ?_
    have c2 := h.1
    replace h := h.2
    refine wp_iaddr dX0_openBlock_43 c2 ?_
    refine wp_putI dX0_openBlock_44 pX0_40 rfl (by decide) ?_
    refine wp_gI (fun m44 e44 => ?_)
    replace h := h m44 e44
    exact wp_vret dX0_openBlock_47 rfl (fun _ => h)
theorem dX0_layPages_0 : decode cX0_layPages 0 = .ok (.iconst 0, 1) := by decide +kernel
theorem dX0_layPages_1 : decode cX0_layPages 1 = .ok (.istore_n 1, 1) := by decide +kernel
theorem dX0_layPages_2 : decode cX0_layPages 2 = .ok (.iconst 0, 1) := by decide +kernel
theorem dX0_layPages_3 : decode cX0_layPages 3 = .ok (.istore_n 2, 1) := by decide +kernel
theorem dX0_layPages_4 : decode cX0_layPages 4 = .ok (.iconst 0, 1) := by decide +kernel
theorem dX0_layPages_5 : decode cX0_layPages 5 = .ok (.istore_n 3, 1) := by decide +kernel
theorem dX0_layPages_6 : decode cX0_layPages 6 = .ok (.iload_n 3, 1) := by decide +kernel
theorem dX0_layPages_7 : decode cX0_layPages 7 = .ok (.aload_n 0, 1) := by decide +kernel
theorem dX0_layPages_8 : decode cX0_layPages 8 = .ok (.getfield 62, 3) := by decide +kernel
theorem dX0_layPages_11 : decode cX0_layPages 11 = .ok (.if_icmp .ge 54, 3) := by decide +kernel
theorem dX0_layPages_14 : decode cX0_layPages 14 = .ok (.iload_n 2, 1) := by decide +kernel
theorem dX0_layPages_15 : decode cX0_layPages 15 = .ok (.aload_n 0, 1) := by decide +kernel
theorem dX0_layPages_16 : decode cX0_layPages 16 = .ok (.getfield 59, 3) := by decide +kernel
theorem dX0_layPages_19 : decode cX0_layPages 19 = .ok (.if_icmp .ge 18, 3) := by decide +kernel
theorem dX0_layPages_22 : decode cX0_layPages 22 = .ok (.iload_n 2, 1) := by decide +kernel
theorem dX0_layPages_23 : decode cX0_layPages 23 = .ok (.aload_n 0, 1) := by decide +kernel
theorem dX0_layPages_24 : decode cX0_layPages 24 = .ok (.getfield 31, 3) := by decide +kernel
theorem dX0_layPages_27 : decode cX0_layPages 27 = .ok (.iload_n 3, 1) := by decide +kernel
theorem dX0_layPages_28 : decode cX0_layPages 28 = .ok (.iaload, 1) := by decide +kernel
theorem dX0_layPages_29 : decode cX0_layPages 29 = .ok (.iadd, 1) := by decide +kernel
theorem dX0_layPages_30 : decode cX0_layPages 30 = .ok (.aload_n 0, 1) := by decide +kernel
theorem dX0_layPages_31 : decode cX0_layPages 31 = .ok (.getfield 59, 3) := by decide +kernel
theorem dX0_layPages_34 : decode cX0_layPages 34 = .ok (.if_icmp .le 8, 3) := by decide +kernel
theorem dX0_layPages_37 : decode cX0_layPages 37 = .ok (.iinc 1 1, 3) := by decide +kernel
theorem dX0_layPages_40 : decode cX0_layPages 40 = .ok (.iconst 0, 1) := by decide +kernel
theorem dX0_layPages_41 : decode cX0_layPages 41 = .ok (.istore_n 2, 1) := by decide +kernel
theorem dX0_layPages_42 : decode cX0_layPages 42 = .ok (.aload_n 0, 1) := by decide +kernel
theorem dX0_layPages_43 : decode cX0_layPages 43 = .ok (.getfield 22, 3) := by decide +kernel
theorem dX0_layPages_46 : decode cX0_layPages 46 = .ok (.iload_n 3, 1) := by decide +kernel
theorem dX0_layPages_47 : decode cX0_layPages 47 = .ok (.iload_n 1, 1) := by decide +kernel
theorem dX0_layPages_48 : decode cX0_layPages 48 = .ok (.iastore, 1) := by decide +kernel
theorem dX0_layPages_49 : decode cX0_layPages 49 = .ok (.aload_n 0, 1) := by decide +kernel
theorem dX0_layPages_50 : decode cX0_layPages 50 = .ok (.getfield 25, 3) := by decide +kernel
theorem dX0_layPages_53 : decode cX0_layPages 53 = .ok (.iload_n 3, 1) := by decide +kernel
theorem dX0_layPages_54 : decode cX0_layPages 54 = .ok (.iload_n 2, 1) := by decide +kernel
theorem dX0_layPages_55 : decode cX0_layPages 55 = .ok (.iastore, 1) := by decide +kernel
theorem dX0_layPages_56 : decode cX0_layPages 56 = .ok (.iinc 2 1, 3) := by decide +kernel
theorem dX0_layPages_59 : decode cX0_layPages 59 = .ok (.iinc 3 1, 3) := by decide +kernel
theorem dX0_layPages_62 : decode cX0_layPages 62 = .ok (.goto (-56), 3) := by decide +kernel
theorem dX0_layPages_65 : decode cX0_layPages 65 = .ok (.aload_n 0, 1) := by decide +kernel
theorem dX0_layPages_66 : decode cX0_layPages 66 = .ok (.aload_n 0, 1) := by decide +kernel
theorem dX0_layPages_67 : decode cX0_layPages 67 = .ok (.getfield 62, 3) := by decide +kernel
theorem dX0_layPages_70 : decode cX0_layPages 70 = .ok (.ifCond .ne 7, 3) := by decide +kernel
theorem dX0_layPages_73 : decode cX0_layPages 73 = .ok (.iconst 0, 1) := by decide +kernel
theorem dX0_layPages_74 : decode cX0_layPages 74 = .ok (.goto 6, 3) := by decide +kernel
theorem dX0_layPages_77 : decode cX0_layPages 77 = .ok (.iload_n 1, 1) := by decide +kernel
theorem dX0_layPages_78 : decode cX0_layPages 78 = .ok (.iconst 1, 1) := by decide +kernel
theorem dX0_layPages_79 : decode cX0_layPages 79 = .ok (.iadd, 1) := by decide +kernel
theorem dX0_layPages_80 : decode cX0_layPages 80 = .ok (.putfield 65, 3) := by decide +kernel
theorem dX0_layPages_83 : decode cX0_layPages 83 = .ok (.return_, 1) := by decide +kernel
theorem v_X0_layPages_0 {cs : Cs} {Q : Option AV → Mm → Prop} {MI ML : Nat → Nat → Int} {d e nw th x : Nat}
    (h : wp cs mX0_layPages KD Q 6 [some (vR 28), some (vI 0), some (vI 0), some (vI 0)] [] (KD, MI, ML, (GR d e nw th x))) :
    wp cs mX0_layPages KD Q 0 (padL [vR 28] 4) [] (KD, MI, ML, (GR d e nw th x)) := by
  refine wp_L (L' := [some (vR 28), none, none, none]) rfl ?_
  refine wp_iconst dX0_layPages_0 (by decide) ?_
  refine wp_istore_n dX0_layPages_1 rfl (by decide) (wp_L (L' := [some (vR 28), some (vI 0), none, none]) rfl ?_)
  refine wp_iconst dX0_layPages_2 (by decide) ?_
  refine wp_istore_n dX0_layPages_3 rfl (by decide) (wp_L (L' := [some (vR 28), some (vI 0), some (vI 0), none]) rfl ?_)
  refine wp_iconst dX0_layPages_4 (by decide) ?_
  refine wp_istore_n dX0_layPages_5 rfl (by decide) (wp_L (L' := [some (vR 28), some (vI 0), some (vI 0), some (vI 0)]) rfl ?_)
  exact h
theorem v_X0_layPages_6 {cs : Cs} {Q : Option AV → Mm → Prop} {MI ML : Nat → Nat → Int} {d e nw th x : Nat} {l1 l2 l3 : Int}
    (h : ((l3 < (MI 28 16) → ((l2 < (MI 28 15) → (0 ≤ l3 ∧ l3 < 2000) ∧ (-2147483648 ≤ l2 + (MI 35 l3.toNat) ∧ l2 + (MI 35 l3.toNat) < 2147483648) ∧ (((MI 28 15) < (l2 + (MI 35 l3.toNat)) → (-2147483648 ≤ l1 + 1 ∧ l1 + 1 < 2147483648) ∧ wp cs mX0_layPages KD Q 42 [some (vR 28), some (vI (l1 + 1)), some (vI 0), some (vI l3)] [] (KD, MI, ML, (GR d e nw th x))) ∧ ((l2 + (MI 35 l3.toNat)) ≤ (MI 28 15) → wp cs mX0_layPages KD Q 42 [some (vR 28), some (vI l1), some (vI l2), some (vI l3)] [] (KD, MI, ML, (GR d e nw th x))))) ∧ ((MI 28 15) ≤ l2 → (-2147483648 ≤ l1 + 1 ∧ l1 + 1 < 2147483648) ∧ wp cs mX0_layPages KD Q 42 [some (vR 28), some (vI (l1 + 1)), some (vI 0), some (vI l3)] [] (KD, MI, ML, (GR d e nw th x))))) ∧ ((MI 28 16) ≤ l3 → (((MI 28 16) = 0 → ∀ m80, m80 = up2 MI 28 17 0 → Q none (m80, ML, (GR d e nw th x))) ∧ ((MI 28 16) ≠ 0 → (-2147483648 ≤ l1 + 1 ∧ l1 + 1 < 2147483648) ∧ ∀ m80, m80 = up2 MI 28 17 (l1 + 1) → Q none (m80, ML, (GR d e nw th x))))))) :
    wp cs mX0_layPages KD Q 6 [some (vR 28), some (vI l1), some (vI l2), some (vI l3)] [] (KD, MI, ML, (GR d e nw th x)) := by
  refine wp_iload_n dX0_layPages_6 rfl rfl ?_
  refine wp_aload_n dX0_layPages_7 rfl rfl (by first | exact Or.inl (by decide) | exact Or.inl (by omega) | exact Or.inr (by decide) | exact Or.inr (by omega)) ?_
  refine wp_getI dX0_layPages_8 fX0_62 rfl (by decide) ?_
  refine wp_icmp_ge (tgt := 65) dX0_layPages_11 (by decide) (fun h11 => ?_) (fun h11 => ?_)
  · replace h := h.2 h11
    refine wp_aload_n dX0_layPages_65 rfl rfl (by first | exact Or.inl (by decide) | exact Or.inl (by omega) | exact Or.inr (by decide) | exact Or.inr (by omega)) ?_
    refine wp_aload_n dX0_layPages_66 rfl rfl (by first | exact Or.inl (by decide) | exact Or.inl (by omega) | exact Or.inr (by decide) | exact Or.inr (by omega)) ?_
    refine wp_getI dX0_layPages_67 fX0_62 rfl (by decide) ?_
    refine wp_if_ne (tgt := 77) dX0_layPages_70 (by decide) (fun h70 => ?_) (fun h70 => ?_)
    · replace h := h.2 h70
      refine wp_iload_n dX0_layPages_77 rfl rfl ?_
      refine wp_iconst dX0_layPages_78 (by decide) ?_
      have c0 := h.1
      replace h := h.2
      refine wp_iaddr dX0_layPages_79 c0 ?_
      refine wp_putI dX0_layPages_80 pX0_65 rfl (by decide) ?_
      refine wp_gI (fun m80 e80 => ?_)
      replace h := h m80 e80
      exact wp_vret dX0_layPages_83 rfl (fun _ => h)
    · replace h := h.1 h70
      refine wp_iconst dX0_layPages_73 (by decide) ?_
      refine wp_goto (tgt := 80) dX0_layPages_74 (by decide) ?_
      refine wp_putI dX0_layPages_80 pX0_65 rfl (by decide) ?_
      refine wp_gI (fun m80 e80 => ?_)
      replace h := h m80 e80
      exact wp_vret dX0_layPages_83 rfl (fun _ => h)
  · replace h := h.1 h11
    refine wp_iload_n dX0_layPages_14 rfl rfl ?_
    refine wp_aload_n dX0_layPages_15 rfl rfl (by first | exact Or.inl (by decide) | exact Or.inl (by omega) | exact Or.inr (by decide) | exact Or.inr (by omega)) ?_
    refine wp_getI dX0_layPages_16 fX0_59 rfl (by decide) ?_
    refine wp_icmp_ge (tgt := 37) dX0_layPages_19 (by decide) (fun h19 => ?_) (fun h19 => ?_)
    · replace h := h.2 h19
      have c0 := h.1
      replace h := h.2
      refine wp_iincr dX0_layPages_37 rfl (by decide) c0 (wp_L (L' := [some (vR 28), some (vI (l1 + 1)), some (vI l2), some (vI l3)]) rfl ?_)
      refine wp_iconst dX0_layPages_40 (by decide) ?_
      refine wp_istore_n dX0_layPages_41 rfl (by decide) (wp_L (L' := [some (vR 28), some (vI (l1 + 1)), some (vI 0), some (vI l3)]) rfl ?_)
      exact h
    · replace h := h.1 h19
      refine wp_iload_n dX0_layPages_22 rfl rfl ?_
      refine wp_aload_n dX0_layPages_23 rfl rfl (by first | exact Or.inl (by decide) | exact Or.inl (by omega) | exact Or.inr (by decide) | exact Or.inr (by omega)) ?_
      refine wp_getR dX0_layPages_24 fX0_31 rfl (by decide) ?_
      refine wp_topR (x' := 35) rfl ?_
      refine wp_iload_n dX0_layPages_27 rfl rfl ?_
      have c0 := h.1
      replace h := h.2
      refine wp_iald dX0_layPages_28 rfl (by decide) c0 ?_
      have c1 := h.1
      replace h := h.2
      refine wp_iaddr dX0_layPages_29 c1 ?_
      refine wp_aload_n dX0_layPages_30 rfl rfl (by first | exact Or.inl (by decide) | exact Or.inl (by omega) | exact Or.inr (by decide) | exact Or.inr (by omega)) ?_
      refine wp_pc (pc' := 31) rfl ?_
      refine wp_getI dX0_layPages_31 fX0_59 rfl (by decide) ?_
      refine wp_icmp_le (tgt := 42) dX0_layPages_34 (by decide) (fun h34 => ?_) (fun h34 => ?_)
      · replace h := h.2 h34
        exact h
      · replace h := h.1 h34
        have c2 := h.1
        replace h := h.2
        refine wp_iincr dX0_layPages_37 rfl (by decide) c2 (wp_L (L' := [some (vR 28), some (vI (l1 + 1)), some (vI l2), some (vI l3)]) rfl ?_)
        refine wp_iconst dX0_layPages_40 (by decide) ?_
        refine wp_istore_n dX0_layPages_41 rfl (by decide) (wp_L (L' := [some (vR 28), some (vI (l1 + 1)), some (vI 0), some (vI l3)]) rfl ?_)
        exact h
theorem v_X0_layPages_42 {cs : Cs} {Q : Option AV → Mm → Prop} {MI ML : Nat → Nat → Int} {d e nw th x : Nat} {l1 l2 l3 : Int}
    (h : (0 ≤ l3 ∧ l3 < 2000) ∧ ∀ m48, m48 = up2 MI 32 l3.toNat l1 → ∀ m55, m55 = up2 m48 33 l3.toNat l2 → (-2147483648 ≤ l2 + 1 ∧ l2 + 1 < 2147483648) ∧ (-2147483648 ≤ l3 + 1 ∧ l3 + 1 < 2147483648) ∧ wp cs mX0_layPages KD Q 6 [some (vR 28), some (vI l1), some (vI (l2 + 1)), some (vI (l3 + 1))] [] (KD, m55, ML, (GR d e nw th x))) :
    wp cs mX0_layPages KD Q 42 [some (vR 28), some (vI l1), some (vI l2), some (vI l3)] [] (KD, MI, ML, (GR d e nw th x)) := by
  refine wp_aload_n dX0_layPages_42 rfl rfl (by first | exact Or.inl (by decide) | exact Or.inl (by omega) | exact Or.inr (by decide) | exact Or.inr (by omega)) ?_
  refine wp_getR dX0_layPages_43 fX0_22 rfl (by decide) ?_
  refine wp_topR (x' := 32) rfl ?_
  refine wp_iload_n dX0_layPages_46 rfl rfl ?_
  refine wp_iload_n dX0_layPages_47 rfl rfl ?_
  have c0 := h.1
  replace h := h.2
  refine wp_iast dX0_layPages_48 rfl (by decide) c0 ?_
  refine wp_gI (fun m48 e48 => ?_)
  replace h := h m48 e48
  refine wp_aload_n dX0_layPages_49 rfl rfl (by first | exact Or.inl (by decide) | exact Or.inl (by omega) | exact Or.inr (by decide) | exact Or.inr (by omega)) ?_
  refine wp_getR dX0_layPages_50 fX0_25 rfl (by decide) ?_
  refine wp_topR (x' := 33) rfl ?_
  refine wp_pc (pc' := 53) rfl ?_
  refine wp_iload_n dX0_layPages_53 rfl rfl ?_
  refine wp_iload_n dX0_layPages_54 rfl rfl ?_
  refine wp_iast dX0_layPages_55 rfl (by decide) c0 ?_
  refine wp_gI (fun m55 e55 => ?_)
  replace h := h m55 e55
  have c1 := h.1
  replace h := h.2
  refine wp_iincr dX0_layPages_56 rfl (by decide) c1 (wp_L (L' := [some (vR 28), some (vI l1), some (vI (l2 + 1)), some (vI l3)]) rfl ?_)
  have c2 := h.1
  replace h := h.2
  refine wp_iincr dX0_layPages_59 rfl (by decide) c2 (wp_L (L' := [some (vR 28), some (vI l1), some (vI (l2 + 1)), some (vI (l3 + 1))]) rfl ?_)
  refine wp_goto (tgt := 6) dX0_layPages_62 (by decide) ?_
  exact h
theorem dX0_compose_0 : decode cX0_compose 0 = .ok (.aload_n 0, 1) := by decide +kernel
theorem dX0_compose_1 : decode cX0_compose 1 = .ok (.iload_n 2, 1) := by decide +kernel
theorem dX0_compose_2 : decode cX0_compose 2 = .ok (.putfield 56, 3) := by decide +kernel
theorem dX0_compose_5 : decode cX0_compose 5 = .ok (.aload_n 0, 1) := by decide +kernel
theorem dX0_compose_6 : decode cX0_compose 6 = .ok (.iload_n 3, 1) := by decide +kernel
theorem dX0_compose_7 : decode cX0_compose 7 = .ok (.putfield 59, 3) := by decide +kernel
theorem dX0_compose_10 : decode cX0_compose 10 = .ok (.aload_n 0, 1) := by decide +kernel
theorem dX0_compose_11 : decode cX0_compose 11 = .ok (.iconst 0, 1) := by decide +kernel
theorem dX0_compose_12 : decode cX0_compose 12 = .ok (.putfield 40, 3) := by decide +kernel
theorem dX0_compose_15 : decode cX0_compose 15 = .ok (.aload_n 0, 1) := by decide +kernel
theorem dX0_compose_16 : decode cX0_compose 16 = .ok (.iconst 0, 1) := by decide +kernel
theorem dX0_compose_17 : decode cX0_compose 17 = .ok (.putfield 44, 3) := by decide +kernel
theorem dX0_compose_20 : decode cX0_compose 20 = .ok (.aload_n 0, 1) := by decide +kernel
theorem dX0_compose_21 : decode cX0_compose 21 = .ok (.iconst 0, 1) := by decide +kernel
theorem dX0_compose_22 : decode cX0_compose 22 = .ok (.putfield 47, 3) := by decide +kernel
theorem dX0_compose_25 : decode cX0_compose 25 = .ok (.aload_n 0, 1) := by decide +kernel
theorem dX0_compose_26 : decode cX0_compose 26 = .ok (.iconst 0, 1) := by decide +kernel
theorem dX0_compose_27 : decode cX0_compose 27 = .ok (.putfield 53, 3) := by decide +kernel
theorem dX0_compose_30 : decode cX0_compose 30 = .ok (.aload_n 0, 1) := by decide +kernel
theorem dX0_compose_31 : decode cX0_compose 31 = .ok (.iconst 0, 1) := by decide +kernel
theorem dX0_compose_32 : decode cX0_compose 32 = .ok (.putfield 62, 3) := by decide +kernel
theorem dX0_compose_35 : decode cX0_compose 35 = .ok (.aload_n 0, 1) := by decide +kernel
theorem dX0_compose_36 : decode cX0_compose 36 = .ok (.getfield 31, 3) := by decide +kernel
theorem dX0_compose_39 : decode cX0_compose 39 = .ok (.iconst 0, 1) := by decide +kernel
theorem dX0_compose_40 : decode cX0_compose 40 = .ok (.invokestatic 68, 3) := by decide +kernel
theorem dX0_compose_43 : decode cX0_compose 43 = .ok (.iconst 0, 1) := by decide +kernel
theorem dX0_compose_44 : decode cX0_compose 44 = .ok (.istore 4, 2) := by decide +kernel
theorem dX0_compose_46 : decode cX0_compose 46 = .ok (.iload 4, 2) := by decide +kernel
theorem dX0_compose_48 : decode cX0_compose 48 = .ok (.aload_n 1, 1) := by decide +kernel
theorem dX0_compose_49 : decode cX0_compose 49 = .ok (.getfield 74, 3) := by decide +kernel
theorem dX0_compose_52 : decode cX0_compose 52 = .ok (.if_icmp .ge 53, 3) := by decide +kernel
theorem dX0_compose_55 : decode cX0_compose 55 = .ok (.aload_n 0, 1) := by decide +kernel
theorem dX0_compose_56 : decode cX0_compose 56 = .ok (.aload_n 1, 1) := by decide +kernel
theorem dX0_compose_57 : decode cX0_compose 57 = .ok (.iload 4, 2) := by decide +kernel
theorem dX0_compose_59 : decode cX0_compose 59 = .ok (.invokevirtual 77, 3) := by decide +kernel
theorem dX0_compose_62 : decode cX0_compose 62 = .ok (.aload_n 1, 1) := by decide +kernel
theorem dX0_compose_63 : decode cX0_compose 63 = .ok (.getfield 81, 3) := by decide +kernel
theorem dX0_compose_66 : decode cX0_compose 66 = .ok (.iload 4, 2) := by decide +kernel
theorem dX0_compose_68 : decode cX0_compose 68 = .ok (.iaload, 1) := by decide +kernel
theorem dX0_compose_69 : decode cX0_compose 69 = .ok (.iconst 3, 1) := by decide +kernel
theorem dX0_compose_70 : decode cX0_compose 70 = .ok (.if_icmp .ne 13, 3) := by decide +kernel
theorem dX0_compose_73 : decode cX0_compose 73 = .ok (.aload_n 0, 1) := by decide +kernel
theorem dX0_compose_74 : decode cX0_compose 74 = .ok (.aload_n 1, 1) := by decide +kernel
theorem dX0_compose_75 : decode cX0_compose 75 = .ok (.iload 4, 2) := by decide +kernel
theorem dX0_compose_77 : decode cX0_compose 77 = .ok (.invokevirtual 84, 3) := by decide +kernel
theorem dX0_compose_80 : decode cX0_compose 80 = .ok (.goto 19, 3) := by decide +kernel
theorem dX0_compose_83 : decode cX0_compose 83 = .ok (.aload_n 1, 1) := by decide +kernel
theorem dX0_compose_84 : decode cX0_compose 84 = .ok (.iload 4, 2) := by decide +kernel
theorem dX0_compose_86 : decode cX0_compose 86 = .ok (.invokestatic 87, 3) := by decide +kernel
theorem dX0_compose_89 : decode cX0_compose 89 = .ok (.ifCond .eq 10, 3) := by decide +kernel
theorem dX0_compose_92 : decode cX0_compose 92 = .ok (.aload_n 0, 1) := by decide +kernel
theorem dX0_compose_93 : decode cX0_compose 93 = .ok (.aload_n 1, 1) := by decide +kernel
theorem dX0_compose_94 : decode cX0_compose 94 = .ok (.iload 4, 2) := by decide +kernel
theorem dX0_compose_96 : decode cX0_compose 96 = .ok (.invokevirtual 91, 3) := by decide +kernel
theorem dX0_compose_99 : decode cX0_compose 99 = .ok (.iinc 4 1, 3) := by decide +kernel
theorem dX0_compose_102 : decode cX0_compose 102 = .ok (.goto (-56), 3) := by decide +kernel
theorem dX0_compose_105 : decode cX0_compose 105 = .ok (.aload_n 0, 1) := by decide +kernel
theorem dX0_compose_106 : decode cX0_compose 106 = .ok (.aload_n 1, 1) := by decide +kernel
theorem dX0_compose_107 : decode cX0_compose 107 = .ok (.aload_n 1, 1) := by decide +kernel
theorem dX0_compose_108 : decode cX0_compose 108 = .ok (.getfield 74, 3) := by decide +kernel
theorem dX0_compose_111 : decode cX0_compose 111 = .ok (.invokevirtual 77, 3) := by decide +kernel
theorem dX0_compose_114 : decode cX0_compose 114 = .ok (.aload_n 0, 1) := by decide +kernel
theorem dX0_compose_115 : decode cX0_compose 115 = .ok (.aload_n 1, 1) := by decide +kernel
theorem dX0_compose_116 : decode cX0_compose 116 = .ok (.invokevirtual 94, 3) := by decide +kernel
theorem dX0_compose_119 : decode cX0_compose 119 = .ok (.aload_n 0, 1) := by decide +kernel
theorem dX0_compose_120 : decode cX0_compose 120 = .ok (.invokevirtual 98, 3) := by decide +kernel
theorem dX0_compose_123 : decode cX0_compose 123 = .ok (.return_, 1) := by decide +kernel
theorem v_X0_compose_0 {cs : Cs} {Q : Option AV → Mm → Prop} {MI ML : Nat → Nat → Int} {b d e nw th x : Nat} {l2 l3 : Int} (hbd : b = 38 ∨ b = 81)
    (h : ∀ m2, m2 = up2 MI 28 14 l2 → ∀ m7, m7 = up2 m2 28 15 l3 → ∀ m12, m12 = up2 m7 28 9 0 → ∀ m17, m17 = up2 m12 28 10 0 → ∀ m22, m22 = up2 m17 28 11 0 → ∀ m27, m27 = up2 m22 28 13 0 → ∀ m32, m32 = up2 m27 28 16 0 → wp cs mJ7_fill_53178 KD (rV (GR d e nw th x) fun m40 n40 => wp cs mX0_compose KD Q 46 [some (vR 28), some (vR b), some (vI l2), some (vI l3), some (vI 0)] [] (KD, m40, n40, (GR d e nw th x))) 0 (padL [vR 35, vI 0] 4) [] (KD, m32, ML, (GR d e nw th x))) :
    wp cs mX0_compose KD Q 0 (padL [vR 28, vR b, vI l2, vI l3] 5) [] (KD, MI, ML, (GR d e nw th x)) := by
  refine wp_L (L' := [some (vR 28), some (vR b), some (vI l2), some (vI l3), none]) rfl ?_
  refine wp_aload_n dX0_compose_0 rfl rfl (by first | exact Or.inl (by decide) | exact Or.inl (by omega) | exact Or.inr (by decide) | exact Or.inr (by omega)) ?_
  refine wp_iload_n dX0_compose_1 rfl rfl ?_
  refine wp_putI dX0_compose_2 pX0_56 rfl (by decide) ?_
  refine wp_gI (fun m2 e2 => ?_)
  replace h := h m2 e2
  refine wp_aload_n dX0_compose_5 rfl rfl (by first | exact Or.inl (by decide) | exact Or.inl (by omega) | exact Or.inr (by decide) | exact Or.inr (by omega)) ?_
  refine wp_iload_n dX0_compose_6 rfl rfl ?_
  refine wp_putI dX0_compose_7 pX0_59 rfl (by decide) ?_
  refine wp_gI (fun m7 e7 => ?_)
  replace h := h m7 e7
  refine wp_aload_n dX0_compose_10 rfl rfl (by first | exact Or.inl (by decide) | exact Or.inl (by omega) | exact Or.inr (by decide) | exact Or.inr (by omega)) ?_
  refine wp_pc (pc' := 11) rfl ?_
  refine wp_iconst dX0_compose_11 (by decide) ?_
  refine wp_putI dX0_compose_12 pX0_40 rfl (by decide) ?_
  refine wp_gI (fun m12 e12 => ?_)
  replace h := h m12 e12
  refine wp_aload_n dX0_compose_15 rfl rfl (by first | exact Or.inl (by decide) | exact Or.inl (by omega) | exact Or.inr (by decide) | exact Or.inr (by omega)) ?_
  refine wp_iconst dX0_compose_16 (by decide) ?_
  refine wp_putI dX0_compose_17 pX0_44 rfl (by decide) ?_
  refine wp_gI (fun m17 e17 => ?_)
  replace h := h m17 e17
  refine wp_aload_n dX0_compose_20 rfl rfl (by first | exact Or.inl (by decide) | exact Or.inl (by omega) | exact Or.inr (by decide) | exact Or.inr (by omega)) ?_
  refine wp_iconst dX0_compose_21 (by decide) ?_
  refine wp_putI dX0_compose_22 pX0_47 rfl (by decide) ?_
  refine wp_gI (fun m22 e22 => ?_)
  replace h := h m22 e22
  refine wp_pc (pc' := 25) rfl ?_
  refine wp_aload_n dX0_compose_25 rfl rfl (by first | exact Or.inl (by decide) | exact Or.inl (by omega) | exact Or.inr (by decide) | exact Or.inr (by omega)) ?_
  refine wp_iconst dX0_compose_26 (by decide) ?_
  refine wp_putI dX0_compose_27 pX0_53 rfl (by decide) ?_
  refine wp_gI (fun m27 e27 => ?_)
  replace h := h m27 e27
  refine wp_aload_n dX0_compose_30 rfl rfl (by first | exact Or.inl (by decide) | exact Or.inl (by omega) | exact Or.inr (by decide) | exact Or.inr (by omega)) ?_
  refine wp_iconst dX0_compose_31 (by decide) ?_
  refine wp_putI dX0_compose_32 pX0_62 rfl (by decide) ?_
  refine wp_gI (fun m32 e32 => ?_)
  replace h := h m32 e32
  refine wp_aload_n dX0_compose_35 rfl rfl (by first | exact Or.inl (by decide) | exact Or.inl (by omega) | exact Or.inr (by decide) | exact Or.inr (by omega)) ?_
  refine wp_getR dX0_compose_36 fX0_31 rfl (by decide) ?_
  refine wp_topR (x' := 35) rfl ?_
  refine wp_pc (pc' := 39) rfl ?_
  refine wp_iconst dX0_compose_39 (by decide) ?_
  refine wp_cSq (n := 2) (mt' := mJ7_fill_53178) (as := [vR 35, vI 0]) (rest := []) _ dX0_compose_40 lX0_68 kJ7_fill_53178 vJ7_fill_53178 (by decide) (by decide +kernel) rfl (Nat.le_of_ble_eq_true rfl) rfl (Nat.le_of_ble_eq_true rfl) (fun hM hS => h) (fun r M' hq hM => ?_)
  obtain ⟨m40, n40, rfl, rfl, h⟩ := rV_out hq
  refine wp_iconst dX0_compose_43 (by decide) ?_
  refine wp_istore dX0_compose_44 (by decide) (wp_L (L' := [some (vR 28), some (vR b), some (vI l2), some (vI l3), some (vI 0)]) rfl ?_)
  exact h
theorem v_X0_compose_46 {cs : Cs} {Q : Option AV → Mm → Prop} {MI ML : Nat → Nat → Int} {b d e nw th x : Nat} {l2 l3 l4 : Int} (hbd : b = 38 ∨ b = 81)
    (h : ((l4 < (MI b 16) → wp cs mX0_closeBlocks KD (rV (GR d e nw th x) fun m59 n59 => (0 ≤ l4 ∧ l4 < 600) ∧ (((m59 (b + 32) l4.toNat) = 3 → wp cs mX0_takeText KD (rV (GR d e nw th x) fun m77 n77 => (-2147483648 ≤ l4 + 1 ∧ l4 + 1 < 2147483648) ∧ wp cs mX0_compose KD Q 46 [some (vR 28), some (vR b), some (vI l2), some (vI l3), some (vI (l4 + 1))] [] (KD, m77, n77, (GR d e nw th x))) 0 (padL [vR 28, vR b, vI l4] 4) [] (KD, m59, n59, (GR d e nw th x))) ∧ ((m59 (b + 32) l4.toNat) ≠ 3 → wp cs mX0_isBlock KD (rI (GR d e nw th x) fun x86 m86 n86 => ((x86 = 0 → (-2147483648 ≤ l4 + 1 ∧ l4 + 1 < 2147483648) ∧ wp cs mX0_compose KD Q 46 [some (vR 28), some (vR b), some (vI l2), some (vI l3), some (vI (l4 + 1))] [] (KD, m86, n86, (GR d e nw th x))) ∧ (x86 ≠ 0 → wp cs mX0_openBlock KD (rV (GR d e nw th x) fun m96 n96 => (-2147483648 ≤ l4 + 1 ∧ l4 + 1 < 2147483648) ∧ wp cs mX0_compose KD Q 46 [some (vR 28), some (vR b), some (vI l2), some (vI l3), some (vI (l4 + 1))] [] (KD, m96, n96, (GR d e nw th x))) 0 (padL [vR 28, vR b, vI l4] 3) [] (KD, m86, n86, (GR d e nw th x))))) 0 (padL [vR b, vI l4] 3) [] (KD, m59, n59, (GR d e nw th x))))) 0 (padL [vR 28, vR b, vI l4] 5) [] (KD, MI, ML, (GR d e nw th x))) ∧ ((MI b 16) ≤ l4 → wp cs mX0_closeBlocks KD (rV (GR d e nw th x) fun m111 n111 => wp cs mX0_endLine KD (rV (GR d e nw th x) fun m116 n116 => wp cs mX0_layPages KD (rV (GR d e nw th x) fun m120 n120 => Q none (m120, n120, (GR d e nw th x))) 0 (padL [vR 28] 4) [] (KD, m116, n116, (GR d e nw th x))) 0 (padL [vR 28, vR b] 2) [] (KD, m111, n111, (GR d e nw th x))) 0 (padL [vR 28, vR b, vI (MI b 16)] 5) [] (KD, MI, ML, (GR d e nw th x))))) :
    wp cs mX0_compose KD Q 46 [some (vR 28), some (vR b), some (vI l2), some (vI l3), some (vI l4)] [] (KD, MI, ML, (GR d e nw th x)) := by
  refine wp_iload dX0_compose_46 rfl ?_
  refine wp_aload_n dX0_compose_48 rfl rfl (by first | exact Or.inl (by decide) | exact Or.inl (by omega) | exact Or.inr (by decide) | exact Or.inr (by omega)) ?_
  refine wp_getI dX0_compose_49 fX0_74 (show KD[b]? = some (7, 19) from kdb_0 hbd) (by omega) ?_
  refine wp_icmp_ge (tgt := 105) dX0_compose_52 (by decide) (fun h52 => ?_) (fun h52 => ?_)
  · replace h := h.2 h52
    refine wp_aload_n dX0_compose_105 rfl rfl (by first | exact Or.inl (by decide) | exact Or.inl (by omega) | exact Or.inr (by decide) | exact Or.inr (by omega)) ?_
    refine wp_aload_n dX0_compose_106 rfl rfl (by first | exact Or.inl (by decide) | exact Or.inl (by omega) | exact Or.inr (by decide) | exact Or.inr (by omega)) ?_
    refine wp_aload_n dX0_compose_107 rfl rfl (by first | exact Or.inl (by decide) | exact Or.inl (by omega) | exact Or.inr (by decide) | exact Or.inr (by omega)) ?_
    refine wp_getI dX0_compose_108 fX0_74 (show KD[b]? = some (7, 19) from kdb_0 hbd) (by omega) ?_
    refine wp_cVq (n := 2) (mt' := mX0_closeBlocks) (as := [vR b, vI (MI b 16)]) (rest := []) _ dX0_compose_111 lX0_77 kX0_closeBlocks vX0_closeBlocks (by decide) (by decide +kernel) rfl (Nat.le_of_ble_eq_true rfl) (by decide) rfl rfl rfl (Nat.le_of_ble_eq_true rfl) (fun hM hS => h) (fun r M' hq hM => ?_)
    obtain ⟨m111, n111, rfl, rfl, h⟩ := rV_out hq
    refine wp_aload_n dX0_compose_114 rfl rfl (by first | exact Or.inl (by decide) | exact Or.inl (by omega) | exact Or.inr (by decide) | exact Or.inr (by omega)) ?_
    refine wp_aload_n dX0_compose_115 rfl rfl (by first | exact Or.inl (by decide) | exact Or.inl (by omega) | exact Or.inr (by decide) | exact Or.inr (by omega)) ?_
    refine wp_cVq (n := 1) (mt' := mX0_endLine) (as := [vR b]) (rest := []) _ dX0_compose_116 lX0_94 kX0_endLine vX0_endLine (by decide) (by decide +kernel) rfl (Nat.le_of_ble_eq_true rfl) (by decide) rfl rfl rfl (Nat.le_of_ble_eq_true rfl) (fun hM hS => h) (fun r M' hq hM => ?_)
    obtain ⟨m116, n116, rfl, rfl, h⟩ := rV_out hq
    refine wp_aload_n dX0_compose_119 rfl rfl (by first | exact Or.inl (by decide) | exact Or.inl (by omega) | exact Or.inr (by decide) | exact Or.inr (by omega)) ?_
    refine wp_cVq (n := 0) (mt' := mX0_layPages) (as := []) (rest := []) _ dX0_compose_120 lX0_98 kX0_layPages vX0_layPages (by decide) (by decide +kernel) rfl (Nat.le_of_ble_eq_true rfl) (by decide) rfl rfl rfl (Nat.le_of_ble_eq_true rfl) (fun hM hS => h) (fun r M' hq hM => ?_)
    obtain ⟨m120, n120, rfl, rfl, h⟩ := rV_out hq
    exact wp_vret dX0_compose_123 rfl (fun _ => h)
  · replace h := h.1 h52
    refine wp_aload_n dX0_compose_55 rfl rfl (by first | exact Or.inl (by decide) | exact Or.inl (by omega) | exact Or.inr (by decide) | exact Or.inr (by omega)) ?_
    refine wp_aload_n dX0_compose_56 rfl rfl (by first | exact Or.inl (by decide) | exact Or.inl (by omega) | exact Or.inr (by decide) | exact Or.inr (by omega)) ?_
    refine wp_iload dX0_compose_57 rfl ?_
    refine wp_cVq (n := 2) (mt' := mX0_closeBlocks) (as := [vR b, vI l4]) (rest := []) _ dX0_compose_59 lX0_77 kX0_closeBlocks vX0_closeBlocks (by decide) (by decide +kernel) rfl (Nat.le_of_ble_eq_true rfl) (by decide) rfl rfl rfl (Nat.le_of_ble_eq_true rfl) (fun hM hS => h) (fun r M' hq hM => ?_)
    obtain ⟨m59, n59, rfl, rfl, h⟩ := rV_out hq
    refine wp_aload_n dX0_compose_62 rfl rfl (by first | exact Or.inl (by decide) | exact Or.inl (by omega) | exact Or.inr (by decide) | exact Or.inr (by omega)) ?_
    refine wp_getR dX0_compose_63 fX0_81 (show KD[b]? = some (7, 19) from kdb_0 hbd) (by omega) ?_
    refine wp_topR (x' := (b + 32)) (grb_0_3 hbd) ?_
    refine wp_iload dX0_compose_66 rfl ?_
    have c0 := h.1
    replace h := h.2
    refine wp_iald dX0_compose_68 (kdb_32 hbd) (by omega) c0 ?_
    refine wp_iconst dX0_compose_69 (by decide) ?_
    refine wp_icmp_ne (tgt := 83) dX0_compose_70 (by decide) (fun h70 => ?_) (fun h70 => ?_)
    · replace h := h.2 h70
      refine wp_aload_n dX0_compose_83 rfl rfl (by first | exact Or.inl (by decide) | exact Or.inl (by omega) | exact Or.inr (by decide) | exact Or.inr (by omega)) ?_
      refine wp_iload dX0_compose_84 rfl ?_
      refine wp_cSq (n := 2) (mt' := mX0_isBlock) (as := [vR b, vI l4]) (rest := []) _ dX0_compose_86 lX0_87 kX0_isBlock vX0_isBlock (by decide) (by decide +kernel) rfl (Nat.le_of_ble_eq_true rfl) rfl (Nat.le_of_ble_eq_true rfl) (fun hM hS => h) (fun r M' hq hM => ?_)
      obtain ⟨x86, m86, n86, rfl, rfl, h⟩ := rI_out hq
      refine wp_if_eq (tgt := 99) dX0_compose_89 (by decide) (fun h89 => ?_) (fun h89 => ?_)
      · replace h := h.1 h89
        have c1 := h.1
        replace h := h.2
        refine wp_iincr dX0_compose_99 rfl (by decide) c1 (wp_L (L' := [some (vR 28), some (vR b), some (vI l2), some (vI l3), some (vI (l4 + 1))]) rfl ?_)
        refine wp_goto (tgt := 46) dX0_compose_102 (by decide) ?_
        exact h
      · replace h := h.2 h89
        refine wp_aload_n dX0_compose_92 rfl rfl (by first | exact Or.inl (by decide) | exact Or.inl (by omega) | exact Or.inr (by decide) | exact Or.inr (by omega)) ?_
        refine wp_aload_n dX0_compose_93 rfl rfl (by first | exact Or.inl (by decide) | exact Or.inl (by omega) | exact Or.inr (by decide) | exact Or.inr (by omega)) ?_
        refine wp_iload dX0_compose_94 rfl ?_
        refine wp_cVq (n := 2) (mt' := mX0_openBlock) (as := [vR b, vI l4]) (rest := []) _ dX0_compose_96 lX0_91 kX0_openBlock vX0_openBlock (by decide) (by decide +kernel) rfl (Nat.le_of_ble_eq_true rfl) (by decide) rfl rfl rfl (Nat.le_of_ble_eq_true rfl) (fun hM hS => h) (fun r M' hq hM => ?_)
        obtain ⟨m96, n96, rfl, rfl, h⟩ := rV_out hq
        have c1 := h.1
        replace h := h.2
        refine wp_iincr dX0_compose_99 rfl (by decide) c1 (wp_L (L' := [some (vR 28), some (vR b), some (vI l2), some (vI l3), some (vI (l4 + 1))]) rfl ?_)
        refine wp_goto (tgt := 46) dX0_compose_102 (by decide) ?_
        exact h
    · replace h := h.1 h70
      refine wp_aload_n dX0_compose_73 rfl rfl (by first | exact Or.inl (by decide) | exact Or.inl (by omega) | exact Or.inr (by decide) | exact Or.inr (by omega)) ?_
      refine wp_aload_n dX0_compose_74 rfl rfl (by first | exact Or.inl (by decide) | exact Or.inl (by omega) | exact Or.inr (by decide) | exact Or.inr (by omega)) ?_
      refine wp_iload dX0_compose_75 rfl ?_
      refine wp_cVq (n := 2) (mt' := mX0_takeText) (as := [vR b, vI l4]) (rest := []) _ dX0_compose_77 lX0_84 kX0_takeText vX0_takeText (by decide) (by decide +kernel) rfl (Nat.le_of_ble_eq_true rfl) (by decide) rfl rfl rfl (Nat.le_of_ble_eq_true rfl) (fun hM hS => h) (fun r M' hq hM => ?_)
      obtain ⟨m77, n77, rfl, rfl, h⟩ := rV_out hq
      refine wp_goto (tgt := 99) dX0_compose_80 (by decide) ?_
      have c1 := h.1
      replace h := h.2
      refine wp_iincr dX0_compose_99 rfl (by decide) c1 (wp_L (L' := [some (vR 28), some (vR b), some (vI l2), some (vI l3), some (vI (l4 + 1))]) rfl ?_)
      refine wp_goto (tgt := 46) dX0_compose_102 (by decide) ?_
      exact h
theorem dX11_set_0 : decode cX11_set 0 = .ok (.aload_n 0, 1) := by decide +kernel
theorem dX11_set_1 : decode cX11_set 1 = .ok (.getfield 67, 3) := by decide +kernel
theorem dX11_set_4 : decode cX11_set 4 = .ok (.getfield 117, 3) := by decide +kernel
theorem dX11_set_7 : decode cX11_set 7 = .ok (.ifCond .eq 25, 3) := by decide +kernel
theorem dX11_set_10 : decode cX11_set 10 = .ok (.iload_n 1, 1) := by decide +kernel
theorem dX11_set_11 : decode cX11_set 11 = .ok (.iconst 1, 1) := by decide +kernel
theorem dX11_set_12 : decode cX11_set 12 = .ok (.if_icmp .lt 20, 3) := by decide +kernel
theorem dX11_set_15 : decode cX11_set 15 = .ok (.iload_n 1, 1) := by decide +kernel
theorem dX11_set_16 : decode cX11_set 16 = .ok (.bipush 60, 2) := by decide +kernel
theorem dX11_set_18 : decode cX11_set 18 = .ok (.if_icmp .gt 14, 3) := by decide +kernel
theorem dX11_set_21 : decode cX11_set 21 = .ok (.iload_n 2, 1) := by decide +kernel
theorem dX11_set_22 : decode cX11_set 22 = .ok (.iconst 1, 1) := by decide +kernel
theorem dX11_set_23 : decode cX11_set 23 = .ok (.if_icmp .lt 9, 3) := by decide +kernel
theorem dX11_set_26 : decode cX11_set 26 = .ok (.iload_n 2, 1) := by decide +kernel
theorem dX11_set_27 : decode cX11_set 27 = .ok (.bipush 50, 2) := by decide +kernel
theorem dX11_set_29 : decode cX11_set 29 = .ok (.if_icmp .le 6, 3) := by decide +kernel
theorem dX11_set_32 : decode cX11_set 32 = .ok (.bipush (-9), 2) := by decide +kernel
theorem dX11_set_34 : decode cX11_set 34 = .ok (.ireturn, 1) := by decide +kernel
theorem dX11_set_35 : decode cX11_set 35 = .ok (.aload_n 0, 1) := by decide +kernel
theorem dX11_set_36 : decode cX11_set 36 = .ok (.getfield 60, 3) := by decide +kernel
theorem dX11_set_39 : decode cX11_set 39 = .ok (.aload_n 0, 1) := by decide +kernel
theorem dX11_set_40 : decode cX11_set 40 = .ok (.getfield 67, 3) := by decide +kernel
theorem dX11_set_43 : decode cX11_set 43 = .ok (.iload_n 1, 1) := by decide +kernel
theorem dX11_set_44 : decode cX11_set 44 = .ok (.iload_n 2, 1) := by decide +kernel
theorem dX11_set_45 : decode cX11_set 45 = .ok (.invokevirtual 167, 3) := by decide +kernel
theorem dX11_set_48 : decode cX11_set 48 = .ok (.aload_n 0, 1) := by decide +kernel
theorem dX11_set_49 : decode cX11_set 49 = .ok (.getfield 60, 3) := by decide +kernel
theorem dX11_set_52 : decode cX11_set 52 = .ok (.getfield 171, 3) := by decide +kernel
theorem dX11_set_55 : decode cX11_set 55 = .ok (.ireturn, 1) := by decide +kernel
theorem v_X11_set_0 {cs : Cs} {Q : Option AV → Mm → Prop} {MI ML : Nat → Nat → Int} {b e nw th x : Nat} {l1 l2 : Int} (hbd : b = 38 ∨ b = 81)
    (h : (((MI b 16) = 0 → Q (some (vI (-9))) (MI, ML, (GR b e nw th x))) ∧ ((MI b 16) ≠ 0 → ((l1 < 1 → Q (some (vI (-9))) (MI, ML, (GR b e nw th x))) ∧ (1 ≤ l1 → ((60 < l1 → Q (some (vI (-9))) (MI, ML, (GR b e nw th x))) ∧ (l1 ≤ 60 → ((l2 < 1 → Q (some (vI (-9))) (MI, ML, (GR b e nw th x))) ∧ (1 ≤ l2 → ((50 < l2 → Q (some (vI (-9))) (MI, ML, (GR b e nw th x))) ∧ (l2 ≤ 50 → wp cs mX0_compose KD (rV (GR b e nw th x) fun m45 n45 => Q (some (vI (m45 28 16))) (m45, n45, (GR b e nw th x))) 0 (padL [vR 28, vR b, vI l1, vI l2] 5) [] (KD, MI, ML, (GR b e nw th x))))))))))))) :
    wp cs mX11_set KD Q 0 (padL [vR 0, vI l1, vI l2] 3) [] (KD, MI, ML, (GR b e nw th x)) := by
  refine wp_L (L' := [some (vR 0), some (vI l1), some (vI l2)]) rfl ?_
  refine wp_aload_n dX11_set_0 rfl rfl (by first | exact Or.inl (by decide) | exact Or.inl (by omega) | exact Or.inr (by decide) | exact Or.inr (by omega)) ?_
  refine wp_getR dX11_set_1 fX11_67 rfl (by decide) ?_
  refine wp_topR (x' := b) rfl ?_
  refine wp_getI dX11_set_4 fX11_117 (show KD[b]? = some (7, 19) from kdb_0 hbd) (by omega) ?_
  refine wp_if_eq (tgt := 32) dX11_set_7 (by decide) (fun h7 => ?_) (fun h7 => ?_)
  · replace h := h.1 h7
    refine wp_bipush dX11_set_32 (by decide +kernel) (by decide) ?_
    exact wp_iret dX11_set_34 rfl (fun _ => h)
  · replace h := h.2 h7
    refine wp_iload_n dX11_set_10 rfl rfl ?_
    refine wp_iconst dX11_set_11 (by decide) ?_
    refine wp_icmp_lt (tgt := 32) dX11_set_12 (by decide) (fun h12 => ?_) (fun h12 => ?_)
    · replace h := h.1 h12
      refine wp_bipush dX11_set_32 (by decide +kernel) (by decide) ?_
      exact wp_iret dX11_set_34 rfl (fun _ => h)
    · replace h := h.2 h12
      refine wp_iload_n dX11_set_15 rfl rfl ?_
      refine wp_bipush dX11_set_16 (by decide +kernel) (by decide) ?_
      refine wp_icmp_gt (tgt := 32) dX11_set_18 (by decide) (fun h18 => ?_) (fun h18 => ?_)
      · replace h := h.1 h18
        refine wp_bipush dX11_set_32 (by decide +kernel) (by decide) ?_
        exact wp_iret dX11_set_34 rfl (fun _ => h)
      · replace h := h.2 h18
        refine wp_iload_n dX11_set_21 rfl rfl ?_
        refine wp_iconst dX11_set_22 (by decide) ?_
        refine wp_icmp_lt (tgt := 32) dX11_set_23 (by decide) (fun h23 => ?_) (fun h23 => ?_)
        · replace h := h.1 h23
          refine wp_bipush dX11_set_32 (by decide +kernel) (by decide) ?_
          exact wp_iret dX11_set_34 rfl (fun _ => h)
        · replace h := h.2 h23
          refine wp_iload_n dX11_set_26 rfl rfl ?_
          refine wp_bipush dX11_set_27 (by decide +kernel) (by decide) ?_
          refine wp_icmp_le (tgt := 35) dX11_set_29 (by decide) (fun h29 => ?_) (fun h29 => ?_)
          · replace h := h.2 h29
            refine wp_aload_n dX11_set_35 rfl rfl (by first | exact Or.inl (by decide) | exact Or.inl (by omega) | exact Or.inr (by decide) | exact Or.inr (by omega)) ?_
            refine wp_getR dX11_set_36 fX11_60 rfl (by decide) ?_
            refine wp_topR (x' := 28) rfl ?_
            refine wp_aload_n dX11_set_39 rfl rfl (by first | exact Or.inl (by decide) | exact Or.inl (by omega) | exact Or.inr (by decide) | exact Or.inr (by omega)) ?_
            refine wp_getR dX11_set_40 fX11_67 rfl (by decide) ?_
            refine wp_topR (x' := b) rfl ?_
            refine wp_iload_n dX11_set_43 rfl rfl ?_
            refine wp_iload_n dX11_set_44 rfl rfl ?_
            refine wp_cVq (n := 3) (mt' := mX0_compose) (as := [vR b, vI l1, vI l2]) (rest := []) _ dX11_set_45 lX11_167 kX0_compose vX0_compose (by decide) (by decide +kernel) rfl (Nat.le_of_ble_eq_true rfl) (by decide) rfl rfl rfl (Nat.le_of_ble_eq_true rfl) (fun hM hS => h) (fun r M' hq hM => ?_)
            obtain ⟨m45, n45, rfl, rfl, h⟩ := rV_out hq
            refine wp_aload_n dX11_set_48 rfl rfl (by first | exact Or.inl (by decide) | exact Or.inl (by omega) | exact Or.inr (by decide) | exact Or.inr (by omega)) ?_
            refine wp_getR dX11_set_49 fX11_60 rfl (by decide) ?_
            refine wp_topR (x' := 28) rfl ?_
            refine wp_getI dX11_set_52 fX11_171 rfl (by decide) ?_
            exact wp_iret dX11_set_55 rfl (fun _ => h)
          · replace h := h.1 h29
            refine wp_bipush dX11_set_32 (by decide +kernel) (by decide) ?_
            exact wp_iret dX11_set_34 rfl (fun _ => h)
theorem dX12_isBlock_0 : decode cX12_isBlock 0 = .ok (.sipush 600, 3) := by decide +kernel
theorem dX12_isBlock_3 : decode cX12_isBlock 3 = .ok (.aload_n 0, 1) := by decide +kernel
theorem dX12_isBlock_4 : decode cX12_isBlock 4 = .ok (.getfield 482, 3) := by decide +kernel
theorem dX12_isBlock_7 : decode cX12_isBlock 7 = .ok (.imul, 1) := by decide +kernel
theorem dX12_isBlock_8 : decode cX12_isBlock 8 = .ok (.iload_n 1, 1) := by decide +kernel
theorem dX12_isBlock_9 : decode cX12_isBlock 9 = .ok (.iadd, 1) := by decide +kernel
theorem dX12_isBlock_10 : decode cX12_isBlock 10 = .ok (.istore_n 2, 1) := by decide +kernel
theorem dX12_isBlock_11 : decode cX12_isBlock 11 = .ok (.aload_n 0, 1) := by decide +kernel
theorem dX12_isBlock_12 : decode cX12_isBlock 12 = .ok (.getfield 31, 3) := by decide +kernel
theorem dX12_isBlock_15 : decode cX12_isBlock 15 = .ok (.iload_n 2, 1) := by decide +kernel
theorem dX12_isBlock_16 : decode cX12_isBlock 16 = .ok (.iaload, 1) := by decide +kernel
theorem dX12_isBlock_17 : decode cX12_isBlock 17 = .ok (.iconst 1, 1) := by decide +kernel
theorem dX12_isBlock_18 : decode cX12_isBlock 18 = .ok (.if_icmp .ne 31, 3) := by decide +kernel
theorem dX12_isBlock_21 : decode cX12_isBlock 21 = .ok (.aload_n 0, 1) := by decide +kernel
theorem dX12_isBlock_22 : decode cX12_isBlock 22 = .ok (.getfield 24, 3) := by decide +kernel
theorem dX12_isBlock_25 : decode cX12_isBlock 25 = .ok (.aload_n 0, 1) := by decide +kernel
theorem dX12_isBlock_26 : decode cX12_isBlock 26 = .ok (.getfield 37, 3) := by decide +kernel
theorem dX12_isBlock_29 : decode cX12_isBlock 29 = .ok (.iload_n 2, 1) := by decide +kernel
theorem dX12_isBlock_30 : decode cX12_isBlock 30 = .ok (.iaload, 1) := by decide +kernel
theorem dX12_isBlock_31 : decode cX12_isBlock 31 = .ok (.baload, 1) := by decide +kernel
theorem dX12_isBlock_32 : decode cX12_isBlock 32 = .ok (.i2l, 1) := by decide +kernel
theorem dX12_isBlock_33 : decode cX12_isBlock 33 = .ok (.ldc2_w 264, 3) := by decide +kernel
theorem dX12_isBlock_36 : decode cX12_isBlock 36 = .ok (.ldc2_w 266, 3) := by decide +kernel
theorem dX12_isBlock_39 : decode cX12_isBlock 39 = .ok (.invokestatic 256, 3) := by decide +kernel
theorem dX12_isBlock_42 : decode cX12_isBlock 42 = .ok (.ifCond .eq 7, 3) := by decide +kernel
theorem dX12_isBlock_45 : decode cX12_isBlock 45 = .ok (.iconst 1, 1) := by decide +kernel
theorem dX12_isBlock_46 : decode cX12_isBlock 46 = .ok (.goto 4, 3) := by decide +kernel
theorem dX12_isBlock_49 : decode cX12_isBlock 49 = .ok (.iconst 0, 1) := by decide +kernel
theorem dX12_isBlock_50 : decode cX12_isBlock 50 = .ok (.ireturn, 1) := by decide +kernel
theorem v_X12_isBlock_0 {cs : Cs} {Q : Option AV → Mm → Prop} {MI ML : Nat → Nat → Int} {d e nw th x : Nat} {l1 : Int}
    (h : (-2147483648 ≤ 600 * (MI 124 7) ∧ 600 * (MI 124 7) < 2147483648) ∧ (-2147483648 ≤ (600 * (MI 124 7)) + l1 ∧ (600 * (MI 124 7)) + l1 < 2147483648) ∧ (0 ≤ ((600 * (MI 124 7)) + l1) ∧ ((600 * (MI 124 7)) + l1) < 1200) ∧ (((MI 130 ((600 * (MI 124 7)) + l1).toNat) = 1 → (0 ≤ (MI 132 ((600 * (MI 124 7)) + l1).toNat) ∧ (MI 132 ((600 * (MI 124 7)) + l1).toNat) < 12000) ∧ wp cs mX12_in KD (rI (GR d e nw th x) fun x39 m39 n39 => ((x39 = 0 → Q (some (vI 0)) (m39, n39, (GR d e nw th x))) ∧ (x39 ≠ 0 → Q (some (vI 1)) (m39, n39, (GR d e nw th x))))) 0 (padL [vL (MI 128 (MI 132 ((600 * (MI 124 7)) + l1).toNat).toNat), vL 65, vL 90] 6) [] (KD, MI, ML, (GR d e nw th x))) ∧ ((MI 130 ((600 * (MI 124 7)) + l1).toNat) ≠ 1 → Q (some (vI 0)) (MI, ML, (GR d e nw th x))))) :
    wp cs mX12_isBlock KD Q 0 (padL [vR 124, vI l1] 3) [] (KD, MI, ML, (GR d e nw th x)) := by
  refine wp_L (L' := [some (vR 124), some (vI l1), none]) rfl ?_
  refine wp_sipush dX12_isBlock_0 (by decide +kernel) (by decide) ?_
  refine wp_aload_n dX12_isBlock_3 rfl rfl (by first | exact Or.inl (by decide) | exact Or.inl (by omega) | exact Or.inr (by decide) | exact Or.inr (by omega)) ?_
  refine wp_getI dX12_isBlock_4 fX12_482 rfl (by decide) ?_
  have c0 := h.1
  replace h := h.2
  refine wp_imulr dX12_isBlock_7 c0 ?_
  refine wp_iload_n dX12_isBlock_8 rfl rfl ?_
  have c1 := h.1
  replace h := h.2
  refine wp_iaddr dX12_isBlock_9 c1 ?_
  refine wp_istore_n dX12_isBlock_10 rfl (by decide) (wp_L (L' := [some (vR 124), some (vI l1), some (vI ((600 * (MI 124 7)) + l1))]) rfl ?_)
  refine wp_pc (pc' := 11) rfl ?_
  refine wp_aload_n dX12_isBlock_11 rfl rfl (by first | exact Or.inl (by decide) | exact Or.inl (by omega) | exact Or.inr (by decide) | exact Or.inr (by omega)) ?_
  refine wp_getR dX12_isBlock_12 fX12_31 rfl (by decide) ?_
  refine wp_topR (x' := 130) rfl ?_
  refine wp_iload_n dX12_isBlock_15 rfl rfl ?_
  have c2 := h.1
  replace h := h.2
  refine wp_iald dX12_isBlock_16 rfl (by decide) c2 ?_
  refine wp_iconst dX12_isBlock_17 (by decide) ?_
  refine wp_icmp_ne (tgt := 49) dX12_isBlock_18 (by decide) (fun h18 => ?_) (fun h18 => ?_)
  · replace h := h.2 h18
    refine wp_iconst dX12_isBlock_49 (by decide) ?_
    exact wp_zret dX12_isBlock_50 rfl (by decide) (fun _ => h)
  · replace h := h.1 h18
    refine wp_aload_n dX12_isBlock_21 rfl rfl (by first | exact Or.inl (by decide) | exact Or.inl (by omega) | exact Or.inr (by decide) | exact Or.inr (by omega)) ?_
    refine wp_getR dX12_isBlock_22 fX12_24 rfl (by decide) ?_
    refine wp_topR (x' := 128) rfl ?_
    refine wp_aload_n dX12_isBlock_25 rfl rfl (by first | exact Or.inl (by decide) | exact Or.inl (by omega) | exact Or.inr (by decide) | exact Or.inr (by omega)) ?_
    refine wp_getR dX12_isBlock_26 fX12_37 rfl (by decide) ?_
    refine wp_topR (x' := 132) rfl ?_
    refine wp_iload_n dX12_isBlock_29 rfl rfl ?_
    refine wp_iald dX12_isBlock_30 rfl (by decide) c2 ?_
    have c3 := h.1
    replace h := h.2
    refine wp_bald dX12_isBlock_31 rfl (by decide) c3 ?_
    refine wp_pc (pc' := 32) rfl ?_
    refine wp_i2l dX12_isBlock_32 ?_
    refine wp_ldc2 (x := 65) dX12_isBlock_33 cX12_264 (by decide) ?_
    refine wp_ldc2 (x := 90) dX12_isBlock_36 cX12_266 (by decide) ?_
    refine wp_cSq (n := 3) (mt' := mX12_in) (as := [vL (MI 128 (MI 132 ((600 * (MI 124 7)) + l1).toNat).toNat), vL 65, vL 90]) (rest := []) _ dX12_isBlock_39 lX12_256 kX12_in vX12_in (by decide) (by decide +kernel) rfl (Nat.le_of_ble_eq_true rfl) rfl (Nat.le_of_ble_eq_true rfl) (fun hM hS => h) (fun r M' hq hM => ?_)
    obtain ⟨x39, m39, n39, rfl, rfl, h⟩ := rI_out hq
    refine wp_if_eq (tgt := 49) dX12_isBlock_42 (by decide) (fun h42 => ?_) (fun h42 => ?_)
    · replace h := h.1 h42
      refine wp_iconst dX12_isBlock_49 (by decide) ?_
      exact wp_zret dX12_isBlock_50 rfl (by decide) (fun _ => h)
    · replace h := h.2 h42
      refine wp_iconst dX12_isBlock_45 (by decide) ?_
      refine wp_goto (tgt := 50) dX12_isBlock_46 (by decide) ?_
      exact wp_zret dX12_isBlock_50 rfl (by decide) (fun _ => h)
theorem dX12_toLine_0 : decode cX12_toLine 0 = .ok (.iload_n 1, 1) := by decide +kernel
theorem dX12_toLine_1 : decode cX12_toLine 1 = .ok (.istore_n 3, 1) := by decide +kernel
theorem dX12_toLine_2 : decode cX12_toLine 2 = .ok (.iload_n 3, 1) := by decide +kernel
theorem dX12_toLine_3 : decode cX12_toLine 3 = .ok (.iload_n 1, 1) := by decide +kernel
theorem dX12_toLine_4 : decode cX12_toLine 4 = .ok (.iload_n 2, 1) := by decide +kernel
theorem dX12_toLine_5 : decode cX12_toLine 5 = .ok (.iadd, 1) := by decide +kernel
theorem dX12_toLine_6 : decode cX12_toLine 6 = .ok (.if_icmp .ge 77, 3) := by decide +kernel
theorem dX12_toLine_9 : decode cX12_toLine 9 = .ok (.aload_n 0, 1) := by decide +kernel
theorem dX12_toLine_10 : decode cX12_toLine 10 = .ok (.getfield 219, 3) := by decide +kernel
theorem dX12_toLine_13 : decode cX12_toLine 13 = .ok (.aload_n 0, 1) := by decide +kernel
theorem dX12_toLine_14 : decode cX12_toLine 14 = .ok (.getfield 501, 3) := by decide +kernel
theorem dX12_toLine_17 : decode cX12_toLine 17 = .ok (.iaload, 1) := by decide +kernel
theorem dX12_toLine_18 : decode cX12_toLine 18 = .ok (.ifCond .ne 18, 3) := by decide +kernel
theorem dX12_toLine_21 : decode cX12_toLine 21 = .ok (.aload_n 0, 1) := by decide +kernel
theorem dX12_toLine_22 : decode cX12_toLine 22 = .ok (.getfield 228, 3) := by decide +kernel
theorem dX12_toLine_25 : decode cX12_toLine 25 = .ok (.aload_n 0, 1) := by decide +kernel
theorem dX12_toLine_26 : decode cX12_toLine 26 = .ok (.getfield 501, 3) := by decide +kernel
theorem dX12_toLine_29 : decode cX12_toLine 29 = .ok (.aload_n 0, 1) := by decide +kernel
theorem dX12_toLine_30 : decode cX12_toLine 30 = .ok (.getfield 240, 3) := by decide +kernel
theorem dX12_toLine_33 : decode cX12_toLine 33 = .ok (.iload_n 3, 1) := by decide +kernel
theorem dX12_toLine_34 : decode cX12_toLine 34 = .ok (.iaload, 1) := by decide +kernel
theorem dX12_toLine_35 : decode cX12_toLine 35 = .ok (.iastore, 1) := by decide +kernel
theorem dX12_toLine_36 : decode cX12_toLine 36 = .ok (.aload_n 0, 1) := by decide +kernel
theorem dX12_toLine_37 : decode cX12_toLine 37 = .ok (.getfield 216, 3) := by decide +kernel
theorem dX12_toLine_40 : decode cX12_toLine 40 = .ok (.bipush 60, 2) := by decide +kernel
theorem dX12_toLine_42 : decode cX12_toLine 42 = .ok (.aload_n 0, 1) := by decide +kernel
theorem dX12_toLine_43 : decode cX12_toLine 43 = .ok (.getfield 501, 3) := by decide +kernel
theorem dX12_toLine_46 : decode cX12_toLine 46 = .ok (.imul, 1) := by decide +kernel
theorem dX12_toLine_47 : decode cX12_toLine 47 = .ok (.aload_n 0, 1) := by decide +kernel
theorem dX12_toLine_48 : decode cX12_toLine 48 = .ok (.getfield 219, 3) := by decide +kernel
theorem dX12_toLine_51 : decode cX12_toLine 51 = .ok (.aload_n 0, 1) := by decide +kernel
theorem dX12_toLine_52 : decode cX12_toLine 52 = .ok (.getfield 501, 3) := by decide +kernel
theorem dX12_toLine_55 : decode cX12_toLine 55 = .ok (.iaload, 1) := by decide +kernel
theorem dX12_toLine_56 : decode cX12_toLine 56 = .ok (.iadd, 1) := by decide +kernel
theorem dX12_toLine_57 : decode cX12_toLine 57 = .ok (.aload_n 0, 1) := by decide +kernel
theorem dX12_toLine_58 : decode cX12_toLine 58 = .ok (.getfield 237, 3) := by decide +kernel
theorem dX12_toLine_61 : decode cX12_toLine 61 = .ok (.iload_n 3, 1) := by decide +kernel
theorem dX12_toLine_62 : decode cX12_toLine 62 = .ok (.baload, 1) := by decide +kernel
theorem dX12_toLine_63 : decode cX12_toLine 63 = .ok (.bastore, 1) := by decide +kernel
theorem dX12_toLine_64 : decode cX12_toLine 64 = .ok (.aload_n 0, 1) := by decide +kernel
theorem dX12_toLine_65 : decode cX12_toLine 65 = .ok (.getfield 219, 3) := by decide +kernel
theorem dX12_toLine_68 : decode cX12_toLine 68 = .ok (.aload_n 0, 1) := by decide +kernel
theorem dX12_toLine_69 : decode cX12_toLine 69 = .ok (.getfield 501, 3) := by decide +kernel
theorem dX12_toLine_72 : decode cX12_toLine 72 = .ok (.dup2, 1) := by decide +kernel
theorem dX12_toLine_73 : decode cX12_toLine 73 = .ok (.iaload, 1) := by decide +kernel
theorem dX12_toLine_74 : decode cX12_toLine 74 = .ok (.iconst 1, 1) := by decide +kernel
theorem dX12_toLine_75 : decode cX12_toLine 75 = .ok (.iadd, 1) := by decide +kernel
theorem dX12_toLine_76 : decode cX12_toLine 76 = .ok (.iastore, 1) := by decide +kernel
theorem dX12_toLine_77 : decode cX12_toLine 77 = .ok (.iinc 3 1, 3) := by decide +kernel
theorem dX12_toLine_80 : decode cX12_toLine 80 = .ok (.goto (-78), 3) := by decide +kernel
theorem dX12_toLine_83 : decode cX12_toLine 83 = .ok (.aload_n 0, 1) := by decide +kernel
theorem dX12_toLine_84 : decode cX12_toLine 84 = .ok (.iconst 1, 1) := by decide +kernel
theorem dX12_toLine_85 : decode cX12_toLine 85 = .ok (.putfield 618, 3) := by decide +kernel
theorem dX12_toLine_88 : decode cX12_toLine 88 = .ok (.return_, 1) := by decide +kernel
theorem v_X12_toLine_0 {cs : Cs} {Q : Option AV → Mm → Prop} {MI ML : Nat → Nat → Int} {d e nw th x : Nat} {l1 l2 : Int}
    (h : wp cs mX12_toLine KD Q 2 [some (vR 124), some (vI l1), some (vI l2), some (vI l1)] [] (KD, MI, ML, (GR d e nw th x))) :
    wp cs mX12_toLine KD Q 0 (padL [vR 124, vI l1, vI l2] 4) [] (KD, MI, ML, (GR d e nw th x)) := by
  refine wp_L (L' := [some (vR 124), some (vI l1), some (vI l2), none]) rfl ?_
  refine wp_iload_n dX12_toLine_0 rfl rfl ?_
  refine wp_istore_n dX12_toLine_1 rfl (by decide) (wp_L (L' := [some (vR 124), some (vI l1), some (vI l2), some (vI l1)]) rfl ?_)
  exact h
theorem v_X12_toLine_2 {cs : Cs} {Q : Option AV → Mm → Prop} {MI ML : Nat → Nat → Int} {d e nw th x : Nat} {l1 l2 l3 : Int}
    (h : (-2147483648 ≤ l1 + l2 ∧ l1 + l2 < 2147483648) ∧ ((l3 < (l1 + l2) → (0 ≤ (MI 124 86) ∧ (MI 124 86) < 4000) ∧ (((MI 192 (MI 124 86).toNat) = 0 → (0 ≤ l3 ∧ l3 < 2000) ∧ ∀ m35, m35 = up2 MI 195 (MI 124 86).toNat (MI 199 l3.toNat) → wp cs mX12_toLine KD Q 36 [some (vR 124), some (vI l1), some (vI l2), some (vI l3)] [] (KD, m35, ML, (GR d e nw th x))) ∧ ((MI 192 (MI 124 86).toNat) ≠ 0 → wp cs mX12_toLine KD Q 36 [some (vR 124), some (vI l1), some (vI l2), some (vI l3)] [] (KD, MI, ML, (GR d e nw th x))))) ∧ ((l1 + l2) ≤ l3 → ∀ m85, m85 = up2 MI 124 99 1 → Q none (m85, ML, (GR d e nw th x))))) :
    wp cs mX12_toLine KD Q 2 [some (vR 124), some (vI l1), some (vI l2), some (vI l3)] [] (KD, MI, ML, (GR d e nw th x)) := by
  refine wp_iload_n dX12_toLine_2 rfl rfl ?_
  refine wp_iload_n dX12_toLine_3 rfl rfl ?_
  refine wp_iload_n dX12_toLine_4 rfl rfl ?_
  have c0 := h.1
  replace h := h.2
  refine wp_iaddr dX12_toLine_5 c0 ?_
  refine wp_icmp_ge (tgt := 83) dX12_toLine_6 (by decide) (fun h6 => ?_) (fun h6 => ?_)
  · replace h := h.2 h6
    refine wp_aload_n dX12_toLine_83 rfl rfl (by first | exact Or.inl (by decide) | exact Or.inl (by omega) | exact Or.inr (by decide) | exact Or.inr (by omega)) ?_
    refine wp_iconst dX12_toLine_84 (by decide) ?_
    refine wp_putZ dX12_toLine_85 pX12_618 rfl (by decide) (by decide) ?_
    refine wp_gI (fun m85 e85 => ?_)
    replace h := h m85 e85
    exact wp_vret dX12_toLine_88 rfl (fun _ => h)
  · replace h := h.1 h6
    refine wp_aload_n dX12_toLine_9 rfl rfl (by first | exact Or.inl (by decide) | exact Or.inl (by omega) | exact Or.inr (by decide) | exact Or.inr (by omega)) ?_
    refine wp_getR dX12_toLine_10 fX12_219 rfl (by decide) ?_
    refine wp_topR (x' := 192) rfl ?_
    refine wp_aload_n dX12_toLine_13 rfl rfl (by first | exact Or.inl (by decide) | exact Or.inl (by omega) | exact Or.inr (by decide) | exact Or.inr (by omega)) ?_
    refine wp_getI dX12_toLine_14 fX12_501 rfl (by decide) ?_
    have c1 := h.1
    replace h := h.2
    refine wp_iald dX12_toLine_17 rfl (by decide) c1 ?_
    refine wp_if_ne (tgt := 36) dX12_toLine_18 (by decide) (fun h18 => ?_) (fun h18 => ?_)
    · replace h := h.2 h18
      exact h
    · replace h := h.1 h18
      refine wp_aload_n dX12_toLine_21 rfl rfl (by first | exact Or.inl (by decide) | exact Or.inl (by omega) | exact Or.inr (by decide) | exact Or.inr (by omega)) ?_
      refine wp_getR dX12_toLine_22 fX12_228 rfl (by decide) ?_
      refine wp_topR (x' := 195) rfl ?_
      refine wp_aload_n dX12_toLine_25 rfl rfl (by first | exact Or.inl (by decide) | exact Or.inl (by omega) | exact Or.inr (by decide) | exact Or.inr (by omega)) ?_
      refine wp_getI dX12_toLine_26 fX12_501 rfl (by decide) ?_
      refine wp_aload_n dX12_toLine_29 rfl rfl (by first | exact Or.inl (by decide) | exact Or.inl (by omega) | exact Or.inr (by decide) | exact Or.inr (by omega)) ?_
      refine wp_getR dX12_toLine_30 fX12_240 rfl (by decide) ?_
      refine wp_topR (x' := 199) rfl ?_
      refine wp_iload_n dX12_toLine_33 rfl rfl ?_
      refine wp_pc (pc' := 34) rfl ?_
      have c2 := h.1
      replace h := h.2
      refine wp_iald dX12_toLine_34 rfl (by decide) c2 ?_
      refine wp_iast dX12_toLine_35 rfl (by decide) c1 ?_
      refine wp_gI (fun m35 e35 => ?_)
      replace h := h m35 e35
      exact h
theorem v_X12_toLine_36 {cs : Cs} {Q : Option AV → Mm → Prop} {MI ML : Nat → Nat → Int} {d e nw th x : Nat} {l1 l2 l3 : Int}
    (h : (-2147483648 ≤ 60 * (MI 124 86) ∧ 60 * (MI 124 86) < 2147483648) ∧ (0 ≤ (MI 124 86) ∧ (MI 124 86) < 4000) ∧ (-2147483648 ≤ (60 * (MI 124 86)) + (MI 192 (MI 124 86).toNat) ∧ (60 * (MI 124 86)) + (MI 192 (MI 124 86).toNat) < 2147483648) ∧ (0 ≤ l3 ∧ l3 < 2000) ∧ (0 ≤ ((60 * (MI 124 86)) + (MI 192 (MI 124 86).toNat)) ∧ ((60 * (MI 124 86)) + (MI 192 (MI 124 86).toNat)) < 240000) ∧ (-128 ≤ (MI 198 l3.toNat) ∧ (MI 198 l3.toNat) < 128) ∧ ∀ m63, m63 = up2 MI 191 ((60 * (MI 124 86)) + (MI 192 (MI 124 86).toNat)).toNat (MI 198 l3.toNat) → (0 ≤ (m63 124 86) ∧ (m63 124 86) < 4000) ∧ (-2147483648 ≤ (m63 192 (m63 124 86).toNat) + 1 ∧ (m63 192 (m63 124 86).toNat) + 1 < 2147483648) ∧ ∀ m76, m76 = up2 m63 192 (m63 124 86).toNat ((m63 192 (m63 124 86).toNat) + 1) → (-2147483648 ≤ l3 + 1 ∧ l3 + 1 < 2147483648) ∧ wp cs mX12_toLine KD Q 2 [some (vR 124), some (vI l1), some (vI l2), some (vI (l3 + 1))] [] (KD, m76, ML, (GR d e nw th x))) :
    wp cs mX12_toLine KD Q 36 [some (vR 124), some (vI l1), some (vI l2), some (vI l3)] [] (KD, MI, ML, (GR d e nw th x)) := by
  refine wp_aload_n dX12_toLine_36 rfl rfl (by first | exact Or.inl (by decide) | exact Or.inl (by omega) | exact Or.inr (by decide) | exact Or.inr (by omega)) ?_
  refine wp_getR dX12_toLine_37 fX12_216 rfl (by decide) ?_
  refine wp_topR (x' := 191) rfl ?_
  refine wp_bipush dX12_toLine_40 (by decide +kernel) (by decide) ?_
  refine wp_aload_n dX12_toLine_42 rfl rfl (by first | exact Or.inl (by decide) | exact Or.inl (by omega) | exact Or.inr (by decide) | exact Or.inr (by omega)) ?_
  refine wp_getI dX12_toLine_43 fX12_501 rfl (by decide) ?_
  have c0 := h.1
  replace h := h.2
  refine wp_imulr dX12_toLine_46 c0 ?_
  refine wp_aload_n dX12_toLine_47 rfl rfl (by first | exact Or.inl (by decide) | exact Or.inl (by omega) | exact Or.inr (by decide) | exact Or.inr (by omega)) ?_
  refine wp_pc (pc' := 48) rfl ?_
  refine wp_getR dX12_toLine_48 fX12_219 rfl (by decide) ?_
  refine wp_topR (x' := 192) rfl ?_
  refine wp_aload_n dX12_toLine_51 rfl rfl (by first | exact Or.inl (by decide) | exact Or.inl (by omega) | exact Or.inr (by decide) | exact Or.inr (by omega)) ?_
  refine wp_getI dX12_toLine_52 fX12_501 rfl (by decide) ?_
  have c1 := h.1
  replace h := h.2
  refine wp_iald dX12_toLine_55 rfl (by decide) c1 ?_
  have c2 := h.1
  replace h := h.2
  refine wp_iaddr dX12_toLine_56 c2 ?_
  refine wp_aload_n dX12_toLine_57 rfl rfl (by first | exact Or.inl (by decide) | exact Or.inl (by omega) | exact Or.inr (by decide) | exact Or.inr (by omega)) ?_
  refine wp_getR dX12_toLine_58 fX12_237 rfl (by decide) ?_
  refine wp_topR (x' := 198) rfl ?_
  refine wp_iload_n dX12_toLine_61 rfl rfl ?_
  refine wp_pc (pc' := 62) rfl ?_
  have c3 := h.1
  replace h := h.2
  refine wp_bald dX12_toLine_62 rfl (by decide) c3 ?_
  have c4 := h.1
  replace h := h.2
  have c5 := h.1
  replace h := h.2
  refine wp_bast dX12_toLine_63 rfl (by decide) c4 c5 ?_
  refine wp_gI (fun m63 e63 => ?_)
  replace h := h m63 e63
  refine wp_aload_n dX12_toLine_64 rfl rfl (by first | exact Or.inl (by decide) | exact Or.inl (by omega) | exact Or.inr (by decide) | exact Or.inr (by omega)) ?_
  refine wp_getR dX12_toLine_65 fX12_219 rfl (by decide) ?_
  refine wp_topR (x' := 192) rfl ?_
  refine wp_aload_n dX12_toLine_68 rfl rfl (by first | exact Or.inl (by decide) | exact Or.inl (by omega) | exact Or.inr (by decide) | exact Or.inr (by omega)) ?_
  refine wp_getI dX12_toLine_69 fX12_501 rfl (by decide) ?_
  refine wp_dup2 dX12_toLine_72 (fun x e => by cases e) (fun x e => by cases e) ?_
  have c6 := h.1
  replace h := h.2
  refine wp_iald dX12_toLine_73 rfl (by decide) c6 ?_
  refine wp_pc (pc' := 74) rfl ?_
  refine wp_iconst dX12_toLine_74 (by decide) ?_
  have c7 := h.1
  replace h := h.2
  refine wp_iaddr dX12_toLine_75 c7 ?_
  refine wp_iast dX12_toLine_76 rfl (by decide) c6 ?_
  refine wp_gI (fun m76 e76 => ?_)
  replace h := h m76 e76
  have c8 := h.1
  replace h := h.2
  refine wp_iincr dX12_toLine_77 rfl (by decide) c8 (wp_L (L' := [some (vR 124), some (vI l1), some (vI l2), some (vI (l3 + 1))]) rfl ?_)
  refine wp_goto (tgt := 2) dX12_toLine_80 (by decide) ?_
  exact h
theorem dX12_endLine_0 : decode cX12_endLine 0 = .ok (.aload_n 0, 1) := by decide +kernel
theorem dX12_endLine_1 : decode cX12_endLine 1 = .ok (.getfield 618, 3) := by decide +kernel
theorem dX12_endLine_4 : decode cX12_endLine 4 = .ok (.ifCond .eq 18, 3) := by decide +kernel
theorem dX12_endLine_7 : decode cX12_endLine 7 = .ok (.aload_n 0, 1) := by decide +kernel
theorem dX12_endLine_8 : decode cX12_endLine 8 = .ok (.dup, 1) := by decide +kernel
theorem dX12_endLine_9 : decode cX12_endLine 9 = .ok (.getfield 501, 3) := by decide +kernel
theorem dX12_endLine_12 : decode cX12_endLine 12 = .ok (.iconst 1, 1) := by decide +kernel
theorem dX12_endLine_13 : decode cX12_endLine 13 = .ok (.iadd, 1) := by decide +kernel
theorem dX12_endLine_14 : decode cX12_endLine 14 = .ok (.putfield 501, 3) := by decide +kernel
theorem dX12_endLine_17 : decode cX12_endLine 17 = .ok (.aload_n 0, 1) := by decide +kernel
theorem dX12_endLine_18 : decode cX12_endLine 18 = .ok (.iconst 0, 1) := by decide +kernel
theorem dX12_endLine_19 : decode cX12_endLine 19 = .ok (.putfield 618, 3) := by decide +kernel
theorem dX12_endLine_22 : decode cX12_endLine 22 = .ok (.aload_n 0, 1) := by decide +kernel
theorem dX12_endLine_23 : decode cX12_endLine 23 = .ok (.getfield 219, 3) := by decide +kernel
theorem dX12_endLine_26 : decode cX12_endLine 26 = .ok (.aload_n 0, 1) := by decide +kernel
theorem dX12_endLine_27 : decode cX12_endLine 27 = .ok (.getfield 501, 3) := by decide +kernel
theorem dX12_endLine_30 : decode cX12_endLine 30 = .ok (.iconst 0, 1) := by decide +kernel
theorem dX12_endLine_31 : decode cX12_endLine 31 = .ok (.iastore, 1) := by decide +kernel
theorem dX12_endLine_32 : decode cX12_endLine 32 = .ok (.return_, 1) := by decide +kernel
theorem v_X12_endLine_0 {cs : Cs} {Q : Option AV → Mm → Prop} {MI ML : Nat → Nat → Int} {d e nw th x : Nat}
    (h : (((MI 124 99) = 0 → (0 ≤ (MI 124 86) ∧ (MI 124 86) < 4000) ∧ ∀ m31, m31 = up2 MI 192 (MI 124 86).toNat 0 → Q none (m31, ML, (GR d e nw th x))) ∧ ((MI 124 99) ≠ 0 → (-2147483648 ≤ (MI 124 86) + 1 ∧ (MI 124 86) + 1 < 2147483648) ∧ ∀ m14, m14 = up2 MI 124 86 ((MI 124 86) + 1) → ∀ m19, m19 = up2 m14 124 99 0 → (0 ≤ (m19 124 86) ∧ (m19 124 86) < 4000) ∧ ∀ m31, m31 = up2 m19 192 (m19 124 86).toNat 0 → Q none (m31, ML, (GR d e nw th x))))) :
    wp cs mX12_endLine KD Q 0 (padL [vR 124] 1) [] (KD, MI, ML, (GR d e nw th x)) := by
  refine wp_L (L' := [some (vR 124)]) rfl ?_
  refine wp_aload_n dX12_endLine_0 rfl rfl (by first | exact Or.inl (by decide) | exact Or.inl (by omega) | exact Or.inr (by decide) | exact Or.inr (by omega)) ?_
  refine wp_getI dX12_endLine_1 fX12_618 rfl (by decide) ?_
  refine wp_if_eq (tgt := 22) dX12_endLine_4 (by decide) (fun h4 => ?_) (fun h4 => ?_)
  · replace h := h.1 h4
    refine wp_aload_n dX12_endLine_22 rfl rfl (by first | exact Or.inl (by decide) | exact Or.inl (by omega) | exact Or.inr (by decide) | exact Or.inr (by omega)) ?_
    refine wp_getR dX12_endLine_23 fX12_219 rfl (by decide) ?_
    refine wp_topR (x' := 192) rfl ?_
    refine wp_aload_n dX12_endLine_26 rfl rfl (by first | exact Or.inl (by decide) | exact Or.inl (by omega) | exact Or.inr (by decide) | exact Or.inr (by omega)) ?_
    refine wp_getI dX12_endLine_27 fX12_501 rfl (by decide) ?_
    refine wp_iconst dX12_endLine_30 (by decide) ?_
    have c0 := h.1
    replace h := h.2
    refine wp_iast dX12_endLine_31 rfl (by decide) c0 ?_
    refine wp_gI (fun m31 e31 => ?_)
    replace h := h m31 e31
    exact wp_vret dX12_endLine_32 rfl (fun _ => h)
  · replace h := h.2 h4
    refine wp_aload_n dX12_endLine_7 rfl rfl (by first | exact Or.inl (by decide) | exact Or.inl (by omega) | exact Or.inr (by decide) | exact Or.inr (by omega)) ?_
    refine wp_dup dX12_endLine_8 (fun x e => by cases e) ?_
    refine wp_getI dX12_endLine_9 fX12_501 rfl (by decide) ?_
    refine wp_iconst dX12_endLine_12 (by decide) ?_
    have c0 := h.1
    replace h := h.2
    refine wp_iaddr dX12_endLine_13 c0 ?_
    refine wp_putI dX12_endLine_14 pX12_501 rfl (by decide) ?_
    refine wp_gI (fun m14 e14 => ?_)
    replace h := h m14 e14
    refine wp_aload_n dX12_endLine_17 rfl rfl (by first | exact Or.inl (by decide) | exact Or.inl (by omega) | exact Or.inr (by decide) | exact Or.inr (by omega)) ?_
    refine wp_pc (pc' := 18) rfl ?_
    refine wp_iconst dX12_endLine_18 (by decide) ?_
    refine wp_putZ dX12_endLine_19 pX12_618 rfl (by decide) (by decide) ?_
    refine wp_gI (fun m19 e19 => ?_)
    replace h := h m19 e19
    refine wp_aload_n dX12_endLine_22 rfl rfl (by first | exact Or.inl (by decide) | exact Or.inl (by omega) | exact Or.inr (by decide) | exact Or.inr (by omega)) ?_
    refine wp_getR dX12_endLine_23 fX12_219 rfl (by decide) ?_
    refine wp_topR (x' := 192) rfl ?_
    refine wp_aload_n dX12_endLine_26 rfl rfl (by first | exact Or.inl (by decide) | exact Or.inl (by omega) | exact Or.inr (by decide) | exact Or.inr (by omega)) ?_
    refine wp_getI dX12_endLine_27 fX12_501 rfl (by decide) ?_
    refine wp_iconst dX12_endLine_30 (by decide) ?_
    have c1 := h.1
    replace h := h.2
    refine wp_iast dX12_endLine_31 rfl (by decide) c1 ?_
    refine wp_gI (fun m31 e31 => ?_)
    replace h := h m31 e31
    refine wp_pc (pc' := 32) rfl ?_
    exact wp_vret dX12_endLine_32 rfl (fun _ => h)
theorem dX12_endWord_0 : decode cX12_endWord 0 = .ok (.aload_n 0, 1) := by decide +kernel
theorem dX12_endWord_1 : decode cX12_endWord 1 = .ok (.getfield 621, 3) := by decide +kernel
theorem dX12_endWord_4 : decode cX12_endWord 4 = .ok (.ifCond .ne 4, 3) := by decide +kernel
theorem dX12_endWord_7 : decode cX12_endWord 7 = .ok (.return_, 1) := by decide +kernel
theorem dX12_endWord_8 : decode cX12_endWord 8 = .ok (.aload_n 0, 1) := by decide +kernel
theorem dX12_endWord_9 : decode cX12_endWord 9 = .ok (.getfield 618, 3) := by decide +kernel
theorem dX12_endWord_12 : decode cX12_endWord 12 = .ok (.ifCond .eq 78, 3) := by decide +kernel
theorem dX12_endWord_15 : decode cX12_endWord 15 = .ok (.aload_n 0, 1) := by decide +kernel
theorem dX12_endWord_16 : decode cX12_endWord 16 = .ok (.getfield 219, 3) := by decide +kernel
theorem dX12_endWord_19 : decode cX12_endWord 19 = .ok (.aload_n 0, 1) := by decide +kernel
theorem dX12_endWord_20 : decode cX12_endWord 20 = .ok (.getfield 501, 3) := by decide +kernel
theorem dX12_endWord_23 : decode cX12_endWord 23 = .ok (.iaload, 1) := by decide +kernel
theorem dX12_endWord_24 : decode cX12_endWord 24 = .ok (.iconst 1, 1) := by decide +kernel
theorem dX12_endWord_25 : decode cX12_endWord 25 = .ok (.iadd, 1) := by decide +kernel
theorem dX12_endWord_26 : decode cX12_endWord 26 = .ok (.aload_n 0, 1) := by decide +kernel
theorem dX12_endWord_27 : decode cX12_endWord 27 = .ok (.getfield 621, 3) := by decide +kernel
theorem dX12_endWord_30 : decode cX12_endWord 30 = .ok (.iadd, 1) := by decide +kernel
theorem dX12_endWord_31 : decode cX12_endWord 31 = .ok (.aload_n 0, 1) := by decide +kernel
theorem dX12_endWord_32 : decode cX12_endWord 32 = .ok (.getfield 624, 3) := by decide +kernel
theorem dX12_endWord_35 : decode cX12_endWord 35 = .ok (.if_icmp .gt 55, 3) := by decide +kernel
theorem dX12_endWord_38 : decode cX12_endWord 38 = .ok (.aload_n 0, 1) := by decide +kernel
theorem dX12_endWord_39 : decode cX12_endWord 39 = .ok (.getfield 216, 3) := by decide +kernel
theorem dX12_endWord_42 : decode cX12_endWord 42 = .ok (.bipush 60, 2) := by decide +kernel
theorem dX12_endWord_44 : decode cX12_endWord 44 = .ok (.aload_n 0, 1) := by decide +kernel
theorem dX12_endWord_45 : decode cX12_endWord 45 = .ok (.getfield 501, 3) := by decide +kernel
theorem dX12_endWord_48 : decode cX12_endWord 48 = .ok (.imul, 1) := by decide +kernel
theorem dX12_endWord_49 : decode cX12_endWord 49 = .ok (.aload_n 0, 1) := by decide +kernel
theorem dX12_endWord_50 : decode cX12_endWord 50 = .ok (.getfield 219, 3) := by decide +kernel
theorem dX12_endWord_53 : decode cX12_endWord 53 = .ok (.aload_n 0, 1) := by decide +kernel
theorem dX12_endWord_54 : decode cX12_endWord 54 = .ok (.getfield 501, 3) := by decide +kernel
theorem dX12_endWord_57 : decode cX12_endWord 57 = .ok (.iaload, 1) := by decide +kernel
theorem dX12_endWord_58 : decode cX12_endWord 58 = .ok (.iadd, 1) := by decide +kernel
theorem dX12_endWord_59 : decode cX12_endWord 59 = .ok (.bipush 32, 2) := by decide +kernel
theorem dX12_endWord_61 : decode cX12_endWord 61 = .ok (.bastore, 1) := by decide +kernel
theorem dX12_endWord_62 : decode cX12_endWord 62 = .ok (.aload_n 0, 1) := by decide +kernel
theorem dX12_endWord_63 : decode cX12_endWord 63 = .ok (.getfield 219, 3) := by decide +kernel
theorem dX12_endWord_66 : decode cX12_endWord 66 = .ok (.aload_n 0, 1) := by decide +kernel
theorem dX12_endWord_67 : decode cX12_endWord 67 = .ok (.getfield 501, 3) := by decide +kernel
theorem dX12_endWord_70 : decode cX12_endWord 70 = .ok (.dup2, 1) := by decide +kernel
theorem dX12_endWord_71 : decode cX12_endWord 71 = .ok (.iaload, 1) := by decide +kernel
theorem dX12_endWord_72 : decode cX12_endWord 72 = .ok (.iconst 1, 1) := by decide +kernel
theorem dX12_endWord_73 : decode cX12_endWord 73 = .ok (.iadd, 1) := by decide +kernel
theorem dX12_endWord_74 : decode cX12_endWord 74 = .ok (.iastore, 1) := by decide +kernel
theorem dX12_endWord_75 : decode cX12_endWord 75 = .ok (.aload_n 0, 1) := by decide +kernel
theorem dX12_endWord_76 : decode cX12_endWord 76 = .ok (.iconst 0, 1) := by decide +kernel
theorem dX12_endWord_77 : decode cX12_endWord 77 = .ok (.aload_n 0, 1) := by decide +kernel
theorem dX12_endWord_78 : decode cX12_endWord 78 = .ok (.getfield 621, 3) := by decide +kernel
theorem dX12_endWord_81 : decode cX12_endWord 81 = .ok (.invokevirtual 627, 3) := by decide +kernel
theorem dX12_endWord_84 : decode cX12_endWord 84 = .ok (.aload_n 0, 1) := by decide +kernel
theorem dX12_endWord_85 : decode cX12_endWord 85 = .ok (.iconst 0, 1) := by decide +kernel
theorem dX12_endWord_86 : decode cX12_endWord 86 = .ok (.putfield 621, 3) := by decide +kernel
theorem dX12_endWord_89 : decode cX12_endWord 89 = .ok (.return_, 1) := by decide +kernel
theorem dX12_endWord_90 : decode cX12_endWord 90 = .ok (.aload_n 0, 1) := by decide +kernel
theorem dX12_endWord_91 : decode cX12_endWord 91 = .ok (.invokevirtual 630, 3) := by decide +kernel
theorem dX12_endWord_94 : decode cX12_endWord 94 = .ok (.iconst 0, 1) := by decide +kernel
theorem dX12_endWord_95 : decode cX12_endWord 95 = .ok (.istore_n 1, 1) := by decide +kernel
theorem dX12_endWord_96 : decode cX12_endWord 96 = .ok (.aload_n 0, 1) := by decide +kernel
theorem dX12_endWord_97 : decode cX12_endWord 97 = .ok (.getfield 621, 3) := by decide +kernel
theorem dX12_endWord_100 : decode cX12_endWord 100 = .ok (.iload_n 1, 1) := by decide +kernel
theorem dX12_endWord_101 : decode cX12_endWord 101 = .ok (.isub, 1) := by decide +kernel
theorem dX12_endWord_102 : decode cX12_endWord 102 = .ok (.aload_n 0, 1) := by decide +kernel
theorem dX12_endWord_103 : decode cX12_endWord 103 = .ok (.getfield 624, 3) := by decide +kernel
theorem dX12_endWord_106 : decode cX12_endWord 106 = .ok (.if_icmp .le 26, 3) := by decide +kernel
theorem dX12_endWord_109 : decode cX12_endWord 109 = .ok (.aload_n 0, 1) := by decide +kernel
theorem dX12_endWord_110 : decode cX12_endWord 110 = .ok (.iload_n 1, 1) := by decide +kernel
theorem dX12_endWord_111 : decode cX12_endWord 111 = .ok (.aload_n 0, 1) := by decide +kernel
theorem dX12_endWord_112 : decode cX12_endWord 112 = .ok (.getfield 624, 3) := by decide +kernel
theorem dX12_endWord_115 : decode cX12_endWord 115 = .ok (.invokevirtual 627, 3) := by decide +kernel
theorem dX12_endWord_118 : decode cX12_endWord 118 = .ok (.aload_n 0, 1) := by decide +kernel
theorem dX12_endWord_119 : decode cX12_endWord 119 = .ok (.invokevirtual 630, 3) := by decide +kernel
theorem dX12_endWord_122 : decode cX12_endWord 122 = .ok (.iload_n 1, 1) := by decide +kernel
theorem dX12_endWord_123 : decode cX12_endWord 123 = .ok (.aload_n 0, 1) := by decide +kernel
theorem dX12_endWord_124 : decode cX12_endWord 124 = .ok (.getfield 624, 3) := by decide +kernel
theorem dX12_endWord_127 : decode cX12_endWord 127 = .ok (.iadd, 1) := by decide +kernel
theorem dX12_endWord_128 : decode cX12_endWord 128 = .ok (.istore_n 1, 1) := by decide +kernel
theorem dX12_endWord_129 : decode cX12_endWord 129 = .ok (.goto (-33), 3) := by decide +kernel
theorem dX12_endWord_132 : decode cX12_endWord 132 = .ok (.aload_n 0, 1) := by decide +kernel
theorem dX12_endWord_133 : decode cX12_endWord 133 = .ok (.iload_n 1, 1) := by decide +kernel
theorem dX12_endWord_134 : decode cX12_endWord 134 = .ok (.aload_n 0, 1) := by decide +kernel
theorem dX12_endWord_135 : decode cX12_endWord 135 = .ok (.getfield 621, 3) := by decide +kernel
theorem dX12_endWord_138 : decode cX12_endWord 138 = .ok (.iload_n 1, 1) := by decide +kernel
theorem dX12_endWord_139 : decode cX12_endWord 139 = .ok (.isub, 1) := by decide +kernel
theorem dX12_endWord_140 : decode cX12_endWord 140 = .ok (.invokevirtual 627, 3) := by decide +kernel
theorem dX12_endWord_143 : decode cX12_endWord 143 = .ok (.aload_n 0, 1) := by decide +kernel
theorem dX12_endWord_144 : decode cX12_endWord 144 = .ok (.iconst 0, 1) := by decide +kernel
theorem dX12_endWord_145 : decode cX12_endWord 145 = .ok (.putfield 621, 3) := by decide +kernel
theorem dX12_endWord_148 : decode cX12_endWord 148 = .ok (.return_, 1) := by decide +kernel
theorem v_X12_endWord_0 {cs : Cs} {Q : Option AV → Mm → Prop} {MI ML : Nat → Nat → Int} {d e nw th x : Nat}
    (h : (((MI 124 98) = 0 → Q none (MI, ML, (GR d e nw th x))) ∧ ((MI 124 98) ≠ 0 → (((MI 124 99) = 0 → wp cs mX12_endLine KD (rV (GR d e nw th x) fun m91 n91 => wp cs mX12_endWord KD Q 96 [some (vR 124), some (vI 0)] [] (KD, m91, n91, (GR d e nw th x))) 0 (padL [vR 124] 1) [] (KD, MI, ML, (GR d e nw th x))) ∧ ((MI 124 99) ≠ 0 → (0 ≤ (MI 124 86) ∧ (MI 124 86) < 4000) ∧ (-2147483648 ≤ (MI 192 (MI 124 86).toNat) + 1 ∧ (MI 192 (MI 124 86).toNat) + 1 < 2147483648) ∧ (-2147483648 ≤ ((MI 192 (MI 124 86).toNat) + 1) + (MI 124 98) ∧ ((MI 192 (MI 124 86).toNat) + 1) + (MI 124 98) < 2147483648) ∧ (((MI 124 100) < (((MI 192 (MI 124 86).toNat) + 1) + (MI 124 98)) → wp cs mX12_endLine KD (rV (GR d e nw th x) fun m91 n91 => wp cs mX12_endWord KD Q 96 [some (vR 124), some (vI 0)] [] (KD, m91, n91, (GR d e nw th x))) 0 (padL [vR 124] 1) [] (KD, MI, ML, (GR d e nw th x))) ∧ ((((MI 192 (MI 124 86).toNat) + 1) + (MI 124 98)) ≤ (MI 124 100) → (-2147483648 ≤ 60 * (MI 124 86) ∧ 60 * (MI 124 86) < 2147483648) ∧ (-2147483648 ≤ (60 * (MI 124 86)) + (MI 192 (MI 124 86).toNat) ∧ (60 * (MI 124 86)) + (MI 192 (MI 124 86).toNat) < 2147483648) ∧ (0 ≤ ((60 * (MI 124 86)) + (MI 192 (MI 124 86).toNat)) ∧ ((60 * (MI 124 86)) + (MI 192 (MI 124 86).toNat)) < 240000) ∧ ∀ m61, m61 = up2 MI 191 ((60 * (MI 124 86)) + (MI 192 (MI 124 86).toNat)).toNat 32 → (0 ≤ (m61 124 86) ∧ (m61 124 86) < 4000) ∧ (-2147483648 ≤ (m61 192 (m61 124 86).toNat) + 1 ∧ (m61 192 (m61 124 86).toNat) + 1 < 2147483648) ∧ ∀ m74, m74 = up2 m61 192 (m61 124 86).toNat ((m61 192 (m61 124 86).toNat) + 1) → wp cs mX12_toLine KD (rV (GR d e nw th x) fun m81 n81 => ∀ m86, m86 = up2 m81 124 98 0 → Q none (m86, n81, (GR d e nw th x))) 0 (padL [vR 124, vI 0, vI (m74 124 98)] 4) [] (KD, m74, ML, (GR d e nw th x))))))))) :
    wp cs mX12_endWord KD Q 0 (padL [vR 124] 2) [] (KD, MI, ML, (GR d e nw th x)) := by
  refine wp_L (L' := [some (vR 124), none]) rfl ?_
  refine wp_aload_n dX12_endWord_0 rfl rfl (by first | exact Or.inl (by decide) | exact Or.inl (by omega) | exact Or.inr (by decide) | exact Or.inr (by omega)) ?_
  refine wp_getI dX12_endWord_1 fX12_621 rfl (by decide) ?_
  refine wp_if_ne (tgt := 8) dX12_endWord_4 (by decide) (fun h4 => ?_) (fun h4 => ?_)
  · replace h := h.2 h4
    refine wp_aload_n dX12_endWord_8 rfl rfl (by first | exact Or.inl (by decide) | exact Or.inl (by omega) | exact Or.inr (by decide) | exact Or.inr (by omega)) ?_
    refine wp_getI dX12_endWord_9 fX12_618 rfl (by decide) ?_
    refine wp_if_eq (tgt := 90) dX12_endWord_12 (by decide) (fun h12 => ?_) (fun h12 => ?_)
    · replace h := h.1 h12
      refine wp_aload_n dX12_endWord_90 rfl rfl (by first | exact Or.inl (by decide) | exact Or.inl (by omega) | exact Or.inr (by decide) | exact Or.inr (by omega)) ?_
      refine wp_cVq (n := 0) (mt' := mX12_endLine) (as := []) (rest := []) _ dX12_endWord_91 lX12_630 kX12_endLine vX12_endLine (by decide) (by decide +kernel) rfl (Nat.le_of_ble_eq_true rfl) (by decide) rfl rfl rfl (Nat.le_of_ble_eq_true rfl) (fun hM hS => h) (fun r M' hq hM => ?_)
      obtain ⟨m91, n91, rfl, rfl, h⟩ := rV_out hq
      refine wp_iconst dX12_endWord_94 (by decide) ?_
      refine wp_istore_n dX12_endWord_95 rfl (by decide) (wp_L (L' := [some (vR 124), some (vI 0)]) rfl ?_)
      exact h
    · replace h := h.2 h12
      refine wp_aload_n dX12_endWord_15 rfl rfl (by first | exact Or.inl (by decide) | exact Or.inl (by omega) | exact Or.inr (by decide) | exact Or.inr (by omega)) ?_
      refine wp_getR dX12_endWord_16 fX12_219 rfl (by decide) ?_
      refine wp_topR (x' := 192) rfl ?_
      refine wp_aload_n dX12_endWord_19 rfl rfl (by first | exact Or.inl (by decide) | exact Or.inl (by omega) | exact Or.inr (by decide) | exact Or.inr (by omega)) ?_
      refine wp_getI dX12_endWord_20 fX12_501 rfl (by decide) ?_
      have c0 := h.1
      replace h := h.2
      refine wp_iald dX12_endWord_23 rfl (by decide) c0 ?_
      refine wp_iconst dX12_endWord_24 (by decide) ?_
      have c1 := h.1
      replace h := h.2
      refine wp_iaddr dX12_endWord_25 c1 ?_
      refine wp_pc (pc' := 26) rfl ?_
      refine wp_aload_n dX12_endWord_26 rfl rfl (by first | exact Or.inl (by decide) | exact Or.inl (by omega) | exact Or.inr (by decide) | exact Or.inr (by omega)) ?_
      refine wp_getI dX12_endWord_27 fX12_621 rfl (by decide) ?_
      have c2 := h.1
      replace h := h.2
      refine wp_iaddr dX12_endWord_30 c2 ?_
      refine wp_aload_n dX12_endWord_31 rfl rfl (by first | exact Or.inl (by decide) | exact Or.inl (by omega) | exact Or.inr (by decide) | exact Or.inr (by omega)) ?_
      refine wp_getI dX12_endWord_32 fX12_624 rfl (by decide) ?_
      refine wp_icmp_gt (tgt := 90) dX12_endWord_35 (by decide) (fun h35 => ?_) (fun h35 => ?_)
      · replace h := h.1 h35
        refine wp_aload_n dX12_endWord_90 rfl rfl (by first | exact Or.inl (by decide) | exact Or.inl (by omega) | exact Or.inr (by decide) | exact Or.inr (by omega)) ?_
        refine wp_cVq (n := 0) (mt' := mX12_endLine) (as := []) (rest := []) _ dX12_endWord_91 lX12_630 kX12_endLine vX12_endLine (by decide) (by decide +kernel) rfl (Nat.le_of_ble_eq_true rfl) (by decide) rfl rfl rfl (Nat.le_of_ble_eq_true rfl) (fun hM hS => h) (fun r M' hq hM => ?_)
        obtain ⟨m91, n91, rfl, rfl, h⟩ := rV_out hq
        refine wp_iconst dX12_endWord_94 (by decide) ?_
        refine wp_istore_n dX12_endWord_95 rfl (by decide) (wp_L (L' := [some (vR 124), some (vI 0)]) rfl ?_)
        exact h
      · replace h := h.2 h35
        refine wp_aload_n dX12_endWord_38 rfl rfl (by first | exact Or.inl (by decide) | exact Or.inl (by omega) | exact Or.inr (by decide) | exact Or.inr (by omega)) ?_
        refine wp_getR dX12_endWord_39 fX12_216 rfl (by decide) ?_
        refine wp_topR (x' := 191) rfl ?_
        refine wp_bipush dX12_endWord_42 (by decide +kernel) (by decide) ?_
        refine wp_aload_n dX12_endWord_44 rfl rfl (by first | exact Or.inl (by decide) | exact Or.inl (by omega) | exact Or.inr (by decide) | exact Or.inr (by omega)) ?_
        refine wp_getI dX12_endWord_45 fX12_501 rfl (by decide) ?_
        have c3 := h.1
        replace h := h.2
        refine wp_imulr dX12_endWord_48 c3 ?_
        refine wp_aload_n dX12_endWord_49 rfl rfl (by first | exact Or.inl (by decide) | exact Or.inl (by omega) | exact Or.inr (by decide) | exact Or.inr (by omega)) ?_
        refine wp_pc (pc' := 50) rfl ?_
        refine wp_getR dX12_endWord_50 fX12_219 rfl (by decide) ?_
        refine wp_topR (x' := 192) rfl ?_
        refine wp_aload_n dX12_endWord_53 rfl rfl (by first | exact Or.inl (by decide) | exact Or.inl (by omega) | exact Or.inr (by decide) | exact Or.inr (by omega)) ?_
        refine wp_getI dX12_endWord_54 fX12_501 rfl (by decide) ?_
        refine wp_iald dX12_endWord_57 rfl (by decide) c0 ?_
        have c4 := h.1
        replace h := h.2
        refine wp_iaddr dX12_endWord_58 c4 ?_
        refine wp_bipush dX12_endWord_59 (by decide +kernel) (by decide) ?_
        have c5 := h.1
        replace h := h.2
        refine wp_bast dX12_endWord_61 rfl (by decide) c5 (by decide) ?_
        refine wp_gI (fun m61 e61 => ?_)
        replace h := h m61 e61
        refine wp_aload_n dX12_endWord_62 rfl rfl (by first | exact Or.inl (by decide) | exact Or.inl (by omega) | exact Or.inr (by decide) | exact Or.inr (by omega)) ?_
        refine wp_pc (pc' := 63) rfl ?_
        refine wp_getR dX12_endWord_63 fX12_219 rfl (by decide) ?_
        refine wp_topR (x' := 192) rfl ?_
        refine wp_aload_n dX12_endWord_66 rfl rfl (by first | exact Or.inl (by decide) | exact Or.inl (by omega) | exact Or.inr (by decide) | exact Or.inr (by omega)) ?_
        refine wp_getI dX12_endWord_67 fX12_501 rfl (by decide) ?_
        refine wp_dup2 dX12_endWord_70 (fun x e => by cases e) (fun x e => by cases e) ?_
        have c6 := h.1
        replace h := h.2
        refine wp_iald dX12_endWord_71 rfl (by decide) c6 ?_
        refine wp_iconst dX12_endWord_72 (by decide) ?_
        have c7 := h.1
        replace h := h.2
        refine wp_iaddr dX12_endWord_73 c7 ?_
        refine wp_iast dX12_endWord_74 rfl (by decide) c6 ?_
        refine wp_gI (fun m74 e74 => ?_)
        replace h := h m74 e74
        refine wp_pc (pc' := 75) rfl ?_
        refine wp_aload_n dX12_endWord_75 rfl rfl (by first | exact Or.inl (by decide) | exact Or.inl (by omega) | exact Or.inr (by decide) | exact Or.inr (by omega)) ?_
        refine wp_iconst dX12_endWord_76 (by decide) ?_
        refine wp_aload_n dX12_endWord_77 rfl rfl (by first | exact Or.inl (by decide) | exact Or.inl (by omega) | exact Or.inr (by decide) | exact Or.inr (by omega)) ?_
        refine wp_getI dX12_endWord_78 fX12_621 rfl (by decide) ?_
        refine wp_cVq (n := 2) (mt' := mX12_toLine) (as := [vI 0, vI (m74 124 98)]) (rest := []) _ dX12_endWord_81 lX12_627 kX12_toLine vX12_toLine (by decide) (by decide +kernel) rfl (Nat.le_of_ble_eq_true rfl) (by decide) rfl rfl rfl (Nat.le_of_ble_eq_true rfl) (fun hM hS => h) (fun r M' hq hM => ?_)
        obtain ⟨m81, n81, rfl, rfl, h⟩ := rV_out hq
        refine wp_aload_n dX12_endWord_84 rfl rfl (by first | exact Or.inl (by decide) | exact Or.inl (by omega) | exact Or.inr (by decide) | exact Or.inr (by omega)) ?_
        refine wp_iconst dX12_endWord_85 (by decide) ?_
        refine wp_putI dX12_endWord_86 pX12_621 rfl (by decide) ?_
        refine wp_gI (fun m86 e86 => ?_)
        replace h := h m86 e86
        exact wp_vret dX12_endWord_89 rfl (fun _ => h)
  · replace h := h.1 h4
    exact wp_vret dX12_endWord_7 rfl (fun _ => h)
theorem v_X12_endWord_96 {cs : Cs} {Q : Option AV → Mm → Prop} {MI ML : Nat → Nat → Int} {d e nw th x : Nat} {l1 : Int}
    (h : (-2147483648 ≤ (MI 124 98) - l1 ∧ (MI 124 98) - l1 < 2147483648) ∧ (((MI 124 100) < ((MI 124 98) - l1) → wp cs mX12_toLine KD (rV (GR d e nw th x) fun m115 n115 => wp cs mX12_endLine KD (rV (GR d e nw th x) fun m119 n119 => (-2147483648 ≤ l1 + (m119 124 100) ∧ l1 + (m119 124 100) < 2147483648) ∧ wp cs mX12_endWord KD Q 96 [some (vR 124), some (vI (l1 + (m119 124 100)))] [] (KD, m119, n119, (GR d e nw th x))) 0 (padL [vR 124] 1) [] (KD, m115, n115, (GR d e nw th x))) 0 (padL [vR 124, vI l1, vI (MI 124 100)] 4) [] (KD, MI, ML, (GR d e nw th x))) ∧ (((MI 124 98) - l1) ≤ (MI 124 100) → wp cs mX12_toLine KD (rV (GR d e nw th x) fun m140 n140 => ∀ m145, m145 = up2 m140 124 98 0 → Q none (m145, n140, (GR d e nw th x))) 0 (padL [vR 124, vI l1, vI ((MI 124 98) - l1)] 4) [] (KD, MI, ML, (GR d e nw th x))))) :
    wp cs mX12_endWord KD Q 96 [some (vR 124), some (vI l1)] [] (KD, MI, ML, (GR d e nw th x)) := by
  refine wp_aload_n dX12_endWord_96 rfl rfl (by first | exact Or.inl (by decide) | exact Or.inl (by omega) | exact Or.inr (by decide) | exact Or.inr (by omega)) ?_
  refine wp_getI dX12_endWord_97 fX12_621 rfl (by decide) ?_
  refine wp_iload_n dX12_endWord_100 rfl rfl ?_
  have c0 := h.1
  replace h := h.2
  refine wp_isubr dX12_endWord_101 c0 ?_
  refine wp_aload_n dX12_endWord_102 rfl rfl (by first | exact Or.inl (by decide) | exact Or.inl (by omega) | exact Or.inr (by decide) | exact Or.inr (by omega)) ?_
  refine wp_getI dX12_endWord_103 fX12_624 rfl (by decide) ?_
  refine wp_icmp_le (tgt := 132) dX12_endWord_106 (by decide) (fun h106 => ?_) (fun h106 => ?_)
  · replace h := h.2 h106
    refine wp_aload_n dX12_endWord_132 rfl rfl (by first | exact Or.inl (by decide) | exact Or.inl (by omega) | exact Or.inr (by decide) | exact Or.inr (by omega)) ?_
    refine wp_iload_n dX12_endWord_133 rfl rfl ?_
    refine wp_aload_n dX12_endWord_134 rfl rfl (by first | exact Or.inl (by decide) | exact Or.inl (by omega) | exact Or.inr (by decide) | exact Or.inr (by omega)) ?_
    refine wp_getI dX12_endWord_135 fX12_621 rfl (by decide) ?_
    refine wp_iload_n dX12_endWord_138 rfl rfl ?_
    refine wp_isubr dX12_endWord_139 c0 ?_
    refine wp_cVq (n := 2) (mt' := mX12_toLine) (as := [vI l1, vI ((MI 124 98) - l1)]) (rest := []) _ dX12_endWord_140 lX12_627 kX12_toLine vX12_toLine (by decide) (by decide +kernel) rfl (Nat.le_of_ble_eq_true rfl) (by decide) rfl rfl rfl (Nat.le_of_ble_eq_true rfl) (fun hM hS => h) (fun r M' hq hM => ?_)
    obtain ⟨m140, n140, rfl, rfl, h⟩ := rV_out hq
    refine wp_aload_n dX12_endWord_143 rfl rfl (by first | exact Or.inl (by decide) | exact Or.inl (by omega) | exact Or.inr (by decide) | exact Or.inr (by omega)) ?_
    refine wp_iconst dX12_endWord_144 (by decide) ?_
    refine wp_putI dX12_endWord_145 pX12_621 rfl (by decide) ?_
    refine wp_gI (fun m145 e145 => ?_)
    replace h := h m145 e145
    exact wp_vret dX12_endWord_148 rfl (fun _ => h)
  · replace h := h.1 h106
    refine wp_aload_n dX12_endWord_109 rfl rfl (by first | exact Or.inl (by decide) | exact Or.inl (by omega) | exact Or.inr (by decide) | exact Or.inr (by omega)) ?_
    refine wp_iload_n dX12_endWord_110 rfl rfl ?_
    refine wp_aload_n dX12_endWord_111 rfl rfl (by first | exact Or.inl (by decide) | exact Or.inl (by omega) | exact Or.inr (by decide) | exact Or.inr (by omega)) ?_
    refine wp_getI dX12_endWord_112 fX12_624 rfl (by decide) ?_
    refine wp_cVq (n := 2) (mt' := mX12_toLine) (as := [vI l1, vI (MI 124 100)]) (rest := []) _ dX12_endWord_115 lX12_627 kX12_toLine vX12_toLine (by decide) (by decide +kernel) rfl (Nat.le_of_ble_eq_true rfl) (by decide) rfl rfl rfl (Nat.le_of_ble_eq_true rfl) (fun hM hS => h) (fun r M' hq hM => ?_)
    obtain ⟨m115, n115, rfl, rfl, h⟩ := rV_out hq
    refine wp_aload_n dX12_endWord_118 rfl rfl (by first | exact Or.inl (by decide) | exact Or.inl (by omega) | exact Or.inr (by decide) | exact Or.inr (by omega)) ?_
    refine wp_cVq (n := 0) (mt' := mX12_endLine) (as := []) (rest := []) _ dX12_endWord_119 lX12_630 kX12_endLine vX12_endLine (by decide) (by decide +kernel) rfl (Nat.le_of_ble_eq_true rfl) (by decide) rfl rfl rfl (Nat.le_of_ble_eq_true rfl) (fun hM hS => h) (fun r M' hq hM => ?_)
    obtain ⟨m119, n119, rfl, rfl, h⟩ := rV_out hq
    refine wp_iload_n dX12_endWord_122 rfl rfl ?_
    refine wp_aload_n dX12_endWord_123 rfl rfl (by first | exact Or.inl (by decide) | exact Or.inl (by omega) | exact Or.inr (by decide) | exact Or.inr (by omega)) ?_
    refine wp_getI dX12_endWord_124 fX12_624 rfl (by decide) ?_
    have c1 := h.1
    replace h := h.2
    refine wp_iaddr dX12_endWord_127 c1 ?_
    refine wp_istore_n dX12_endWord_128 rfl (by decide) (wp_L (L' := [some (vR 124), some (vI (l1 + (m119 124 100)))]) rfl ?_)
    refine wp_goto (tgt := 96) dX12_endWord_129 (by decide) ?_
    exact h
theorem dX12_leave_0 : decode cX12_leave 0 = .ok (.iload_n 1, 1) := by decide +kernel
theorem dX12_leave_1 : decode cX12_leave 1 = .ok (.istore_n 3, 1) := by decide +kernel
theorem dX12_leave_2 : decode cX12_leave 2 = .ok (.iload_n 3, 1) := by decide +kernel
theorem dX12_leave_3 : decode cX12_leave 3 = .ok (.ifCond .le 97, 3) := by decide +kernel
theorem dX12_leave_6 : decode cX12_leave 6 = .ok (.aload_n 0, 1) := by decide +kernel
theorem dX12_leave_7 : decode cX12_leave 7 = .ok (.iload_n 2, 1) := by decide +kernel
theorem dX12_leave_8 : decode cX12_leave 8 = .ok (.iload_n 3, 1) := by decide +kernel
theorem dX12_leave_9 : decode cX12_leave 9 = .ok (.invokevirtual 603, 3) := by decide +kernel
theorem dX12_leave_12 : decode cX12_leave 12 = .ok (.ifCond .ne 88, 3) := by decide +kernel
theorem dX12_leave_15 : decode cX12_leave 15 = .ok (.aload_n 0, 1) := by decide +kernel
theorem dX12_leave_16 : decode cX12_leave 16 = .ok (.iload_n 3, 1) := by decide +kernel
theorem dX12_leave_17 : decode cX12_leave 17 = .ok (.invokevirtual 633, 3) := by decide +kernel
theorem dX12_leave_20 : decode cX12_leave 20 = .ok (.ifCond .eq 61, 3) := by decide +kernel
theorem dX12_leave_23 : decode cX12_leave 23 = .ok (.aload_n 0, 1) := by decide +kernel
theorem dX12_leave_24 : decode cX12_leave 24 = .ok (.invokevirtual 636, 3) := by decide +kernel
theorem dX12_leave_27 : decode cX12_leave 27 = .ok (.aload_n 0, 1) := by decide +kernel
theorem dX12_leave_28 : decode cX12_leave 28 = .ok (.invokevirtual 630, 3) := by decide +kernel
theorem dX12_leave_31 : decode cX12_leave 31 = .ok (.iconst 0, 1) := by decide +kernel
theorem dX12_leave_32 : decode cX12_leave 32 = .ok (.istore 4, 2) := by decide +kernel
theorem dX12_leave_34 : decode cX12_leave 34 = .ok (.iload 4, 2) := by decide +kernel
theorem dX12_leave_36 : decode cX12_leave 36 = .ok (.aload_n 0, 1) := by decide +kernel
theorem dX12_leave_37 : decode cX12_leave 37 = .ok (.getfield 639, 3) := by decide +kernel
theorem dX12_leave_40 : decode cX12_leave 40 = .ok (.if_icmp .ge 41, 3) := by decide +kernel
theorem dX12_leave_43 : decode cX12_leave 43 = .ok (.aload_n 0, 1) := by decide +kernel
theorem dX12_leave_44 : decode cX12_leave 44 = .ok (.getfield 234, 3) := by decide +kernel
theorem dX12_leave_47 : decode cX12_leave 47 = .ok (.iload 4, 2) := by decide +kernel
theorem dX12_leave_49 : decode cX12_leave 49 = .ok (.aload_n 0, 1) := by decide +kernel
theorem dX12_leave_50 : decode cX12_leave 50 = .ok (.getfield 243, 3) := by decide +kernel
theorem dX12_leave_53 : decode cX12_leave 53 = .ok (.iload 4, 2) := by decide +kernel
theorem dX12_leave_55 : decode cX12_leave 55 = .ok (.iaload, 1) := by decide +kernel
theorem dX12_leave_56 : decode cX12_leave 56 = .ok (.iload_n 3, 1) := by decide +kernel
theorem dX12_leave_57 : decode cX12_leave 57 = .ok (.if_icmp .ne 10, 3) := by decide +kernel
theorem dX12_leave_60 : decode cX12_leave 60 = .ok (.aload_n 0, 1) := by decide +kernel
theorem dX12_leave_61 : decode cX12_leave 61 = .ok (.getfield 501, 3) := by decide +kernel
theorem dX12_leave_64 : decode cX12_leave 64 = .ok (.goto 10, 3) := by decide +kernel
theorem dX12_leave_67 : decode cX12_leave 67 = .ok (.aload_n 0, 1) := by decide +kernel
theorem dX12_leave_68 : decode cX12_leave 68 = .ok (.getfield 234, 3) := by decide +kernel
theorem dX12_leave_71 : decode cX12_leave 71 = .ok (.iload 4, 2) := by decide +kernel
theorem dX12_leave_73 : decode cX12_leave 73 = .ok (.iaload, 1) := by decide +kernel
theorem dX12_leave_74 : decode cX12_leave 74 = .ok (.iastore, 1) := by decide +kernel
theorem dX12_leave_75 : decode cX12_leave 75 = .ok (.iinc 4 1, 3) := by decide +kernel
theorem dX12_leave_78 : decode cX12_leave 78 = .ok (.goto (-44), 3) := by decide +kernel
theorem dX12_leave_81 : decode cX12_leave 81 = .ok (.aload_n 0, 1) := by decide +kernel
theorem dX12_leave_82 : decode cX12_leave 82 = .ok (.getfield 34, 3) := by decide +kernel
theorem dX12_leave_85 : decode cX12_leave 85 = .ok (.sipush 600, 3) := by decide +kernel
theorem dX12_leave_88 : decode cX12_leave 88 = .ok (.aload_n 0, 1) := by decide +kernel
theorem dX12_leave_89 : decode cX12_leave 89 = .ok (.getfield 482, 3) := by decide +kernel
theorem dX12_leave_92 : decode cX12_leave 92 = .ok (.imul, 1) := by decide +kernel
theorem dX12_leave_93 : decode cX12_leave 93 = .ok (.iload_n 3, 1) := by decide +kernel
theorem dX12_leave_94 : decode cX12_leave 94 = .ok (.iadd, 1) := by decide +kernel
theorem dX12_leave_95 : decode cX12_leave 95 = .ok (.iaload, 1) := by decide +kernel
theorem dX12_leave_96 : decode cX12_leave 96 = .ok (.istore_n 3, 1) := by decide +kernel
theorem dX12_leave_97 : decode cX12_leave 97 = .ok (.goto (-95), 3) := by decide +kernel
theorem dX12_leave_100 : decode cX12_leave 100 = .ok (.iload_n 3, 1) := by decide +kernel
theorem dX12_leave_101 : decode cX12_leave 101 = .ok (.ireturn, 1) := by decide +kernel
theorem v_X12_leave_0 {cs : Cs} {Q : Option AV → Mm → Prop} {MI ML : Nat → Nat → Int} {d e nw th x : Nat} {l1 l2 : Int}
    (h : wp cs mX12_leave KD Q 2 [some (vR 124), some (vI l1), some (vI l2), some (vI l1), none] [] (KD, MI, ML, (GR d e nw th x))) :
    wp cs mX12_leave KD Q 0 (padL [vR 124, vI l1, vI l2] 5) [] (KD, MI, ML, (GR d e nw th x)) := by
  refine wp_L (L' := [some (vR 124), some (vI l1), some (vI l2), none, none]) rfl ?_
  refine wp_iload_n dX12_leave_0 rfl rfl ?_
  refine wp_istore_n dX12_leave_1 rfl (by decide) (wp_L (L' := [some (vR 124), some (vI l1), some (vI l2), some (vI l1), none]) rfl ?_)
  exact h
theorem v_X12_leave_2 {cs : Cs} {Q : Option AV → Mm → Prop} {MI ML : Nat → Nat → Int} {d e nw th x : Nat} {l1 l2 l3 : Int}
    (h : ((0 < l3 → wp cs mX12_isWithin KD (rI (GR d e nw th x) fun x9 m9 n9 => ((x9 = 0 → wp cs mX12_isBlock KD (rI (GR d e nw th x) fun x17 m17 n17 => ((x17 = 0 → (-2147483648 ≤ 600 * (m17 124 7) ∧ 600 * (m17 124 7) < 2147483648) ∧ (-2147483648 ≤ (600 * (m17 124 7)) + l3 ∧ (600 * (m17 124 7)) + l3 < 2147483648) ∧ (0 ≤ ((600 * (m17 124 7)) + l3) ∧ ((600 * (m17 124 7)) + l3) < 1200) ∧ wp cs mX12_leave KD Q 2 [some (vR 124), some (vI l1), some (vI l2), some (vI (m17 131 ((600 * (m17 124 7)) + l3).toNat)), none] [] (KD, m17, n17, (GR d e nw th x))) ∧ (x17 ≠ 0 → wp cs mX12_endWord KD (rV (GR d e nw th x) fun m24 n24 => wp cs mX12_endLine KD (rV (GR d e nw th x) fun m28 n28 => wp cs mX12_leave KD Q 34 [some (vR 124), some (vI l1), some (vI l2), some (vI l3), some (vI 0)] [] (KD, m28, n28, (GR d e nw th x))) 0 (padL [vR 124] 1) [] (KD, m24, n24, (GR d e nw th x))) 0 (padL [vR 124] 2) [] (KD, m17, n17, (GR d e nw th x))))) 0 (padL [vR 124, vI l3] 3) [] (KD, m9, n9, (GR d e nw th x))) ∧ (x9 ≠ 0 → Q (some (vI l3)) (m9, n9, (GR d e nw th x))))) 0 (padL [vR 124, vI l2, vI l3] 5) [] (KD, MI, ML, (GR d e nw th x))) ∧ (l3 ≤ 0 → Q (some (vI l3)) (MI, ML, (GR d e nw th x))))) :
    wp cs mX12_leave KD Q 2 [some (vR 124), some (vI l1), some (vI l2), some (vI l3), none] [] (KD, MI, ML, (GR d e nw th x)) := by
  refine wp_iload_n dX12_leave_2 rfl rfl ?_
  refine wp_if_le (tgt := 100) dX12_leave_3 (by decide) (fun h3 => ?_) (fun h3 => ?_)
  · replace h := h.2 h3
    refine wp_iload_n dX12_leave_100 rfl rfl ?_
    exact wp_iret dX12_leave_101 rfl (fun _ => h)
  · replace h := h.1 h3
    refine wp_aload_n dX12_leave_6 rfl rfl (by first | exact Or.inl (by decide) | exact Or.inl (by omega) | exact Or.inr (by decide) | exact Or.inr (by omega)) ?_
    refine wp_iload_n dX12_leave_7 rfl rfl ?_
    refine wp_iload_n dX12_leave_8 rfl rfl ?_
    refine wp_cVq (n := 2) (mt' := mX12_isWithin) (as := [vI l2, vI l3]) (rest := []) _ dX12_leave_9 lX12_603 kX12_isWithin vX12_isWithin (by decide) (by decide +kernel) rfl (Nat.le_of_ble_eq_true rfl) (by decide) rfl rfl rfl (Nat.le_of_ble_eq_true rfl) (fun hM hS => h) (fun r M' hq hM => ?_)
    obtain ⟨x9, m9, n9, rfl, rfl, h⟩ := rI_out hq
    refine wp_if_ne (tgt := 100) dX12_leave_12 (by decide) (fun h12 => ?_) (fun h12 => ?_)
    · replace h := h.2 h12
      refine wp_iload_n dX12_leave_100 rfl rfl ?_
      exact wp_iret dX12_leave_101 rfl (fun _ => h)
    · replace h := h.1 h12
      refine wp_aload_n dX12_leave_15 rfl rfl (by first | exact Or.inl (by decide) | exact Or.inl (by omega) | exact Or.inr (by decide) | exact Or.inr (by omega)) ?_
      refine wp_iload_n dX12_leave_16 rfl rfl ?_
      refine wp_cVq (n := 1) (mt' := mX12_isBlock) (as := [vI l3]) (rest := []) _ dX12_leave_17 lX12_633 kX12_isBlock vX12_isBlock (by decide) (by decide +kernel) rfl (Nat.le_of_ble_eq_true rfl) (by decide) rfl rfl rfl (Nat.le_of_ble_eq_true rfl) (fun hM hS => h) (fun r M' hq hM => ?_)
      obtain ⟨x17, m17, n17, rfl, rfl, h⟩ := rI_out hq
      refine wp_if_eq (tgt := 81) dX12_leave_20 (by decide) (fun h20 => ?_) (fun h20 => ?_)
      · replace h := h.1 h20
        refine wp_aload_n dX12_leave_81 rfl rfl (by first | exact Or.inl (by decide) | exact Or.inl (by omega) | exact Or.inr (by decide) | exact Or.inr (by omega)) ?_
        refine wp_getR dX12_leave_82 fX12_34 rfl (by decide) ?_
        refine wp_topR (x' := 131) rfl ?_
        refine wp_sipush dX12_leave_85 (by decide +kernel) (by decide) ?_
        refine wp_aload_n dX12_leave_88 rfl rfl (by first | exact Or.inl (by decide) | exact Or.inl (by omega) | exact Or.inr (by decide) | exact Or.inr (by omega)) ?_
        refine wp_getI dX12_leave_89 fX12_482 rfl (by decide) ?_
        have c0 := h.1
        replace h := h.2
        refine wp_imulr dX12_leave_92 c0 ?_
        refine wp_iload_n dX12_leave_93 rfl rfl ?_
        refine wp_pc (pc' := 94) rfl ?_
        have c1 := h.1
        replace h := h.2
        refine wp_iaddr dX12_leave_94 c1 ?_
        have c2 := h.1
        replace h := h.2
        refine wp_iald dX12_leave_95 rfl (by decide) c2 ?_
        refine wp_istore_n dX12_leave_96 rfl (by decide) (wp_L (L' := [some (vR 124), some (vI l1), some (vI l2), some (vI (m17 131 ((600 * (m17 124 7)) + l3).toNat)), none]) rfl ?_)
        refine wp_goto (tgt := 2) dX12_leave_97 (by decide) ?_
        exact h
      · replace h := h.2 h20
        refine wp_aload_n dX12_leave_23 rfl rfl (by first | exact Or.inl (by decide) | exact Or.inl (by omega) | exact Or.inr (by decide) | exact Or.inr (by omega)) ?_
        refine wp_cVq (n := 0) (mt' := mX12_endWord) (as := []) (rest := []) _ dX12_leave_24 lX12_636 kX12_endWord vX12_endWord (by decide) (by decide +kernel) rfl (Nat.le_of_ble_eq_true rfl) (by decide) rfl rfl rfl (Nat.le_of_ble_eq_true rfl) (fun hM hS => h) (fun r M' hq hM => ?_)
        obtain ⟨m24, n24, rfl, rfl, h⟩ := rV_out hq
        refine wp_aload_n dX12_leave_27 rfl rfl (by first | exact Or.inl (by decide) | exact Or.inl (by omega) | exact Or.inr (by decide) | exact Or.inr (by omega)) ?_
        refine wp_cVq (n := 0) (mt' := mX12_endLine) (as := []) (rest := []) _ dX12_leave_28 lX12_630 kX12_endLine vX12_endLine (by decide) (by decide +kernel) rfl (Nat.le_of_ble_eq_true rfl) (by decide) rfl rfl rfl (Nat.le_of_ble_eq_true rfl) (fun hM hS => h) (fun r M' hq hM => ?_)
        obtain ⟨m28, n28, rfl, rfl, h⟩ := rV_out hq
        refine wp_iconst dX12_leave_31 (by decide) ?_
        refine wp_istore dX12_leave_32 (by decide) (wp_L (L' := [some (vR 124), some (vI l1), some (vI l2), some (vI l3), some (vI 0)]) rfl ?_)
        exact h
theorem v_X12_leave_34 {cs : Cs} {Q : Option AV → Mm → Prop} {MI ML : Nat → Nat → Int} {d e nw th x : Nat} {l1 l2 l3 l4 : Int}
    (h : ((l4 < (MI 124 95) → (0 ≤ l4 ∧ l4 < 600) ∧ (((MI 200 l4.toNat) = l3 → ∀ m74, m74 = up2 MI 197 l4.toNat (MI 124 86) → (-2147483648 ≤ l4 + 1 ∧ l4 + 1 < 2147483648) ∧ wp cs mX12_leave KD Q 34 [some (vR 124), some (vI l1), some (vI l2), some (vI l3), some (vI (l4 + 1))] [] (KD, m74, ML, (GR d e nw th x))) ∧ ((MI 200 l4.toNat) ≠ l3 → ∀ m74, m74 = up2 MI 197 l4.toNat (MI 197 l4.toNat) → (-2147483648 ≤ l4 + 1 ∧ l4 + 1 < 2147483648) ∧ wp cs mX12_leave KD Q 34 [some (vR 124), some (vI l1), some (vI l2), some (vI l3), some (vI (l4 + 1))] [] (KD, m74, ML, (GR d e nw th x))))) ∧ ((MI 124 95) ≤ l4 → (-2147483648 ≤ 600 * (MI 124 7) ∧ 600 * (MI 124 7) < 2147483648) ∧ (-2147483648 ≤ (600 * (MI 124 7)) + l3 ∧ (600 * (MI 124 7)) + l3 < 2147483648) ∧ (0 ≤ ((600 * (MI 124 7)) + l3) ∧ ((600 * (MI 124 7)) + l3) < 1200) ∧ wp cs mX12_leave KD Q 2 [some (vR 124), some (vI l1), some (vI l2), some (vI (MI 131 ((600 * (MI 124 7)) + l3).toNat)), none] [] (KD, MI, ML, (GR d e nw th x))))) :
    wp cs mX12_leave KD Q 34 [some (vR 124), some (vI l1), some (vI l2), some (vI l3), some (vI l4)] [] (KD, MI, ML, (GR d e nw th x)) := by
  refine wp_iload dX12_leave_34 rfl ?_
  refine wp_aload_n dX12_leave_36 rfl rfl (by first | exact Or.inl (by decide) | exact Or.inl (by omega) | exact Or.inr (by decide) | exact Or.inr (by omega)) ?_
  refine wp_getI dX12_leave_37 fX12_639 rfl (by decide) ?_
  refine wp_icmp_ge (tgt := 81) dX12_leave_40 (by decide) (fun h40 => ?_) (fun h40 => ?_)
  · replace h := h.2 h40
    refine wp_aload_n dX12_leave_81 rfl rfl (by first | exact Or.inl (by decide) | exact Or.inl (by omega) | exact Or.inr (by decide) | exact Or.inr (by omega)) ?_
    refine wp_getR dX12_leave_82 fX12_34 rfl (by decide) ?_
    refine wp_topR (x' := 131) rfl ?_
    refine wp_sipush dX12_leave_85 (by decide +kernel) (by decide) ?_
    refine wp_aload_n dX12_leave_88 rfl rfl (by first | exact Or.inl (by decide) | exact Or.inl (by omega) | exact Or.inr (by decide) | exact Or.inr (by omega)) ?_
    refine wp_getI dX12_leave_89 fX12_482 rfl (by decide) ?_
    have c0 := h.1
    replace h := h.2
    refine wp_imulr dX12_leave_92 c0 ?_
    refine wp_iload_n dX12_leave_93 rfl rfl ?_
    refine wp_pc (pc' := 94) rfl ?_
    have c1 := h.1
    replace h := h.2
    refine wp_iaddr dX12_leave_94 c1 ?_
    have c2 := h.1
    replace h := h.2
    refine wp_iald dX12_leave_95 rfl (by decide) c2 ?_
    refine wp_istore_n dX12_leave_96 rfl (by decide) (wp_L (L' := [some (vR 124), some (vI l1), some (vI l2), some (vI (MI 131 ((600 * (MI 124 7)) + l3).toNat)), some (vI l4)]) rfl ?_)
    refine wp_goto (tgt := 2) dX12_leave_97 (by decide) ?_
    refine wp_forget (L' := [some (vR 124), some (vI l1), some (vI l2), some (vI (MI 131 ((600 * (MI 124 7)) + l3).toNat)), none]) (by repeat' (first | exact trivial | refine ⟨rfl, ?_⟩)) ?_
    exact h
  · replace h := h.1 h40
    refine wp_aload_n dX12_leave_43 rfl rfl (by first | exact Or.inl (by decide) | exact Or.inl (by omega) | exact Or.inr (by decide) | exact Or.inr (by omega)) ?_
    refine wp_getR dX12_leave_44 fX12_234 rfl (by decide) ?_
    refine wp_topR (x' := 197) rfl ?_
    refine wp_iload dX12_leave_47 rfl ?_
    refine wp_aload_n dX12_leave_49 rfl rfl (by first | exact Or.inl (by decide) | exact Or.inl (by omega) | exact Or.inr (by decide) | exact Or.inr (by omega)) ?_
    refine wp_getR dX12_leave_50 fX12_243 rfl (by decide) ?_
    refine wp_topR (x' := 200) rfl ?_
    refine wp_iload dX12_leave_53 rfl ?_
    have c0 := h.1
    replace h := h.2
    refine wp_iald dX12_leave_55 rfl (by decide) c0 ?_
    refine wp_pc (pc' := 56) rfl ?_
    refine wp_iload_n dX12_leave_56 rfl rfl ?_
    refine wp_icmp_ne (tgt := 67) dX12_leave_57 (by decide) (fun h57 => ?_) (fun h57 => ?_)
    · replace h := h.2 h57
      refine wp_aload_n dX12_leave_67 rfl rfl (by first | exact Or.inl (by decide) | exact Or.inl (by omega) | exact Or.inr (by decide) | exact Or.inr (by omega)) ?_
      refine wp_getR dX12_leave_68 fX12_234 rfl (by decide) ?_
      refine wp_topR (x' := 197) rfl ?_
      refine wp_iload dX12_leave_71 rfl ?_
      refine wp_iald dX12_leave_73 rfl (by decide) c0 ?_
      refine wp_iast dX12_leave_74 rfl (by decide) c0 ?_
      refine wp_gI (fun m74 e74 => ?_)
      replace h := h m74 e74
      have c1 := h.1
      replace h := h.2
      refine wp_iincr dX12_leave_75 rfl (by decide) c1 (wp_L (L' := [some (vR 124), some (vI l1), some (vI l2), some (vI l3), some (vI (l4 + 1))]) rfl ?_)
      refine wp_goto (tgt := 34) dX12_leave_78 (by decide) ?_
      exact h
    · replace h := h.1 h57
      refine wp_aload_n dX12_leave_60 rfl rfl (by first | exact Or.inl (by decide) | exact Or.inl (by omega) | exact Or.inr (by decide) | exact Or.inr (by omega)) ?_
      refine wp_getI dX12_leave_61 fX12_501 rfl (by decide) ?_
      refine wp_goto (tgt := 74) dX12_leave_64 (by decide) ?_
      refine wp_iast dX12_leave_74 rfl (by decide) c0 ?_
      refine wp_gI (fun m74 e74 => ?_)
      replace h := h m74 e74
      have c1 := h.1
      replace h := h.2
      refine wp_iincr dX12_leave_75 rfl (by decide) c1 (wp_L (L' := [some (vR 124), some (vI l1), some (vI l2), some (vI l3), some (vI (l4 + 1))]) rfl ?_)
      refine wp_goto (tgt := 34) dX12_leave_78 (by decide) ?_
      exact h
theorem dX12_isKept_0 : decode cX12_isKept 0 = .ok (.iload_n 1, 1) := by decide +kernel
theorem dX12_isKept_1 : decode cX12_isKept 1 = .ok (.iconst 1, 1) := by decide +kernel
theorem dX12_isKept_2 : decode cX12_isKept 2 = .ok (.iadd, 1) := by decide +kernel
theorem dX12_isKept_3 : decode cX12_isKept 3 = .ok (.istore_n 2, 1) := by decide +kernel
theorem dX12_isKept_4 : decode cX12_isKept 4 = .ok (.iload_n 2, 1) := by decide +kernel
theorem dX12_isKept_5 : decode cX12_isKept 5 = .ok (.aload_n 0, 1) := by decide +kernel
theorem dX12_isKept_6 : decode cX12_isKept 6 = .ok (.getfield 27, 3) := by decide +kernel
theorem dX12_isKept_9 : decode cX12_isKept 9 = .ok (.aload_n 0, 1) := by decide +kernel
theorem dX12_isKept_10 : decode cX12_isKept 10 = .ok (.getfield 482, 3) := by decide +kernel
theorem dX12_isKept_13 : decode cX12_isKept 13 = .ok (.iaload, 1) := by decide +kernel
theorem dX12_isKept_14 : decode cX12_isKept 14 = .ok (.if_icmp .ge 164, 3) := by decide +kernel
theorem dX12_isKept_17 : decode cX12_isKept 17 = .ok (.sipush 600, 3) := by decide +kernel
theorem dX12_isKept_20 : decode cX12_isKept 20 = .ok (.aload_n 0, 1) := by decide +kernel
theorem dX12_isKept_21 : decode cX12_isKept 21 = .ok (.getfield 482, 3) := by decide +kernel
theorem dX12_isKept_24 : decode cX12_isKept 24 = .ok (.imul, 1) := by decide +kernel
theorem dX12_isKept_25 : decode cX12_isKept 25 = .ok (.iload_n 2, 1) := by decide +kernel
theorem dX12_isKept_26 : decode cX12_isKept 26 = .ok (.iadd, 1) := by decide +kernel
theorem dX12_isKept_27 : decode cX12_isKept 27 = .ok (.istore_n 3, 1) := by decide +kernel
theorem dX12_isKept_28 : decode cX12_isKept 28 = .ok (.aload_n 0, 1) := by decide +kernel
theorem dX12_isKept_29 : decode cX12_isKept 29 = .ok (.getfield 31, 3) := by decide +kernel
theorem dX12_isKept_32 : decode cX12_isKept 32 = .ok (.iload_n 3, 1) := by decide +kernel
theorem dX12_isKept_33 : decode cX12_isKept 33 = .ok (.iaload, 1) := by decide +kernel
theorem dX12_isKept_34 : decode cX12_isKept 34 = .ok (.iconst 2, 1) := by decide +kernel
theorem dX12_isKept_35 : decode cX12_isKept 35 = .ok (.if_icmp .ne 97, 3) := by decide +kernel
theorem dX12_isKept_38 : decode cX12_isKept 38 = .ok (.aload_n 0, 1) := by decide +kernel
theorem dX12_isKept_39 : decode cX12_isKept 39 = .ok (.getfield 34, 3) := by decide +kernel
theorem dX12_isKept_42 : decode cX12_isKept 42 = .ok (.iload_n 3, 1) := by decide +kernel
theorem dX12_isKept_43 : decode cX12_isKept 43 = .ok (.iaload, 1) := by decide +kernel
theorem dX12_isKept_44 : decode cX12_isKept 44 = .ok (.iload_n 1, 1) := by decide +kernel
theorem dX12_isKept_45 : decode cX12_isKept 45 = .ok (.if_icmp .ne 87, 3) := by decide +kernel
theorem dX12_isKept_48 : decode cX12_isKept 48 = .ok (.aload_n 0, 1) := by decide +kernel
theorem dX12_isKept_49 : decode cX12_isKept 49 = .ok (.getfield 40, 3) := by decide +kernel
theorem dX12_isKept_52 : decode cX12_isKept 52 = .ok (.iload_n 3, 1) := by decide +kernel
theorem dX12_isKept_53 : decode cX12_isKept 53 = .ok (.iaload, 1) := by decide +kernel
theorem dX12_isKept_54 : decode cX12_isKept 54 = .ok (.iconst 4, 1) := by decide +kernel
theorem dX12_isKept_55 : decode cX12_isKept 55 = .ok (.if_icmp .ne 77, 3) := by decide +kernel
theorem dX12_isKept_58 : decode cX12_isKept 58 = .ok (.aload_n 0, 1) := by decide +kernel
theorem dX12_isKept_59 : decode cX12_isKept 59 = .ok (.getfield 24, 3) := by decide +kernel
theorem dX12_isKept_62 : decode cX12_isKept 62 = .ok (.aload_n 0, 1) := by decide +kernel
theorem dX12_isKept_63 : decode cX12_isKept 63 = .ok (.getfield 37, 3) := by decide +kernel
theorem dX12_isKept_66 : decode cX12_isKept 66 = .ok (.iload_n 3, 1) := by decide +kernel
theorem dX12_isKept_67 : decode cX12_isKept 67 = .ok (.iaload, 1) := by decide +kernel
theorem dX12_isKept_68 : decode cX12_isKept 68 = .ok (.baload, 1) := by decide +kernel
theorem dX12_isKept_69 : decode cX12_isKept 69 = .ok (.bipush 107, 2) := by decide +kernel
theorem dX12_isKept_71 : decode cX12_isKept 71 = .ok (.if_icmp .ne 61, 3) := by decide +kernel
theorem dX12_isKept_74 : decode cX12_isKept 74 = .ok (.aload_n 0, 1) := by decide +kernel
theorem dX12_isKept_75 : decode cX12_isKept 75 = .ok (.getfield 24, 3) := by decide +kernel
theorem dX12_isKept_78 : decode cX12_isKept 78 = .ok (.aload_n 0, 1) := by decide +kernel
theorem dX12_isKept_79 : decode cX12_isKept 79 = .ok (.getfield 37, 3) := by decide +kernel
theorem dX12_isKept_82 : decode cX12_isKept 82 = .ok (.iload_n 3, 1) := by decide +kernel
theorem dX12_isKept_83 : decode cX12_isKept 83 = .ok (.iaload, 1) := by decide +kernel
theorem dX12_isKept_84 : decode cX12_isKept 84 = .ok (.iconst 1, 1) := by decide +kernel
theorem dX12_isKept_85 : decode cX12_isKept 85 = .ok (.iadd, 1) := by decide +kernel
theorem dX12_isKept_86 : decode cX12_isKept 86 = .ok (.baload, 1) := by decide +kernel
theorem dX12_isKept_87 : decode cX12_isKept 87 = .ok (.bipush 101, 2) := by decide +kernel
theorem dX12_isKept_89 : decode cX12_isKept 89 = .ok (.if_icmp .ne 43, 3) := by decide +kernel
theorem dX12_isKept_92 : decode cX12_isKept 92 = .ok (.aload_n 0, 1) := by decide +kernel
theorem dX12_isKept_93 : decode cX12_isKept 93 = .ok (.getfield 24, 3) := by decide +kernel
theorem dX12_isKept_96 : decode cX12_isKept 96 = .ok (.aload_n 0, 1) := by decide +kernel
theorem dX12_isKept_97 : decode cX12_isKept 97 = .ok (.getfield 37, 3) := by decide +kernel
theorem dX12_isKept_100 : decode cX12_isKept 100 = .ok (.iload_n 3, 1) := by decide +kernel
theorem dX12_isKept_101 : decode cX12_isKept 101 = .ok (.iaload, 1) := by decide +kernel
theorem dX12_isKept_102 : decode cX12_isKept 102 = .ok (.iconst 2, 1) := by decide +kernel
theorem dX12_isKept_103 : decode cX12_isKept 103 = .ok (.iadd, 1) := by decide +kernel
theorem dX12_isKept_104 : decode cX12_isKept 104 = .ok (.baload, 1) := by decide +kernel
theorem dX12_isKept_105 : decode cX12_isKept 105 = .ok (.bipush 101, 2) := by decide +kernel
theorem dX12_isKept_107 : decode cX12_isKept 107 = .ok (.if_icmp .ne 25, 3) := by decide +kernel
theorem dX12_isKept_110 : decode cX12_isKept 110 = .ok (.aload_n 0, 1) := by decide +kernel
theorem dX12_isKept_111 : decode cX12_isKept 111 = .ok (.getfield 24, 3) := by decide +kernel
theorem dX12_isKept_114 : decode cX12_isKept 114 = .ok (.aload_n 0, 1) := by decide +kernel
theorem dX12_isKept_115 : decode cX12_isKept 115 = .ok (.getfield 37, 3) := by decide +kernel
theorem dX12_isKept_118 : decode cX12_isKept 118 = .ok (.iload_n 3, 1) := by decide +kernel
theorem dX12_isKept_119 : decode cX12_isKept 119 = .ok (.iaload, 1) := by decide +kernel
theorem dX12_isKept_120 : decode cX12_isKept 120 = .ok (.iconst 3, 1) := by decide +kernel
theorem dX12_isKept_121 : decode cX12_isKept 121 = .ok (.iadd, 1) := by decide +kernel
theorem dX12_isKept_122 : decode cX12_isKept 122 = .ok (.baload, 1) := by decide +kernel
theorem dX12_isKept_123 : decode cX12_isKept 123 = .ok (.bipush 112, 2) := by decide +kernel
theorem dX12_isKept_125 : decode cX12_isKept 125 = .ok (.if_icmp .ne 7, 3) := by decide +kernel
theorem dX12_isKept_128 : decode cX12_isKept 128 = .ok (.iconst 1, 1) := by decide +kernel
theorem dX12_isKept_129 : decode cX12_isKept 129 = .ok (.goto 4, 3) := by decide +kernel
theorem dX12_isKept_132 : decode cX12_isKept 132 = .ok (.iconst 0, 1) := by decide +kernel
theorem dX12_isKept_133 : decode cX12_isKept 133 = .ok (.istore 4, 2) := by decide +kernel
theorem dX12_isKept_135 : decode cX12_isKept 135 = .ok (.iload 4, 2) := by decide +kernel
theorem dX12_isKept_137 : decode cX12_isKept 137 = .ok (.ifCond .eq 35, 3) := by decide +kernel
theorem dX12_isKept_140 : decode cX12_isKept 140 = .ok (.aload_n 0, 1) := by decide +kernel
theorem dX12_isKept_141 : decode cX12_isKept 141 = .ok (.getfield 46, 3) := by decide +kernel
theorem dX12_isKept_144 : decode cX12_isKept 144 = .ok (.iload_n 3, 1) := by decide +kernel
theorem dX12_isKept_145 : decode cX12_isKept 145 = .ok (.iaload, 1) := by decide +kernel
theorem dX12_isKept_146 : decode cX12_isKept 146 = .ok (.iconst 1, 1) := by decide +kernel
theorem dX12_isKept_147 : decode cX12_isKept 147 = .ok (.if_icmp .ne 23, 3) := by decide +kernel
theorem dX12_isKept_150 : decode cX12_isKept 150 = .ok (.aload_n 0, 1) := by decide +kernel
theorem dX12_isKept_151 : decode cX12_isKept 151 = .ok (.getfield 55, 3) := by decide +kernel
theorem dX12_isKept_154 : decode cX12_isKept 154 = .ok (.aload_n 0, 1) := by decide +kernel
theorem dX12_isKept_155 : decode cX12_isKept 155 = .ok (.getfield 43, 3) := by decide +kernel
theorem dX12_isKept_158 : decode cX12_isKept 158 = .ok (.iload_n 3, 1) := by decide +kernel
theorem dX12_isKept_159 : decode cX12_isKept 159 = .ok (.iaload, 1) := by decide +kernel
theorem dX12_isKept_160 : decode cX12_isKept 160 = .ok (.baload, 1) := by decide +kernel
theorem dX12_isKept_161 : decode cX12_isKept 161 = .ok (.bipush 49, 2) := by decide +kernel
theorem dX12_isKept_163 : decode cX12_isKept 163 = .ok (.if_icmp .ne 7, 3) := by decide +kernel
theorem dX12_isKept_166 : decode cX12_isKept 166 = .ok (.iconst 1, 1) := by decide +kernel
theorem dX12_isKept_167 : decode cX12_isKept 167 = .ok (.goto 4, 3) := by decide +kernel
theorem dX12_isKept_170 : decode cX12_isKept 170 = .ok (.iconst 0, 1) := by decide +kernel
theorem dX12_isKept_171 : decode cX12_isKept 171 = .ok (.ireturn, 1) := by decide +kernel
theorem dX12_isKept_172 : decode cX12_isKept 172 = .ok (.iinc 2 1, 3) := by decide +kernel
theorem dX12_isKept_175 : decode cX12_isKept 175 = .ok (.goto (-171), 3) := by decide +kernel
theorem dX12_isKept_178 : decode cX12_isKept 178 = .ok (.iconst 0, 1) := by decide +kernel
theorem dX12_isKept_179 : decode cX12_isKept 179 = .ok (.ireturn, 1) := by decide +kernel
theorem v_X12_isKept_0 {cs : Cs} {Q : Option AV → Mm → Prop} {MI ML : Nat → Nat → Int} {d e nw th x : Nat} {l1 : Int}
    (h : (-2147483648 ≤ l1 + 1 ∧ l1 + 1 < 2147483648) ∧ wp cs mX12_isKept KD Q 4 [some (vR 124), some (vI l1), some (vI (l1 + 1)), none, none] [] (KD, MI, ML, (GR d e nw th x))) :
    wp cs mX12_isKept KD Q 0 (padL [vR 124, vI l1] 5) [] (KD, MI, ML, (GR d e nw th x)) := by
  refine wp_L (L' := [some (vR 124), some (vI l1), none, none, none]) rfl ?_
  refine wp_iload_n dX12_isKept_0 rfl rfl ?_
  refine wp_iconst dX12_isKept_1 (by decide) ?_
  have c0 := h.1
  replace h := h.2
  refine wp_iaddr dX12_isKept_2 c0 ?_
  refine wp_istore_n dX12_isKept_3 rfl (by decide) (wp_L (L' := [some (vR 124), some (vI l1), some (vI (l1 + 1)), none, none]) rfl ?_)
  exact h
theorem v_X12_isKept_4 {cs : Cs} {Q : Option AV → Mm → Prop} {MI ML : Nat → Nat → Int} {d e nw th x : Nat} {l1 l2 : Int}
    (h : (0 ≤ (MI 124 7) ∧ (MI 124 7) < 2) ∧ ((l2 < (MI 129 (MI 124 7).toNat) → (-2147483648 ≤ 600 * (MI 124 7) ∧ 600 * (MI 124 7) < 2147483648) ∧ (-2147483648 ≤ (600 * (MI 124 7)) + l2 ∧ (600 * (MI 124 7)) + l2 < 2147483648) ∧ (0 ≤ ((600 * (MI 124 7)) + l2) ∧ ((600 * (MI 124 7)) + l2) < 1200) ∧ (((MI 130 ((600 * (MI 124 7)) + l2).toNat) = 2 → (((MI 131 ((600 * (MI 124 7)) + l2).toNat) = l1 → (((MI 133 ((600 * (MI 124 7)) + l2).toNat) = 4 → (0 ≤ (MI 132 ((600 * (MI 124 7)) + l2).toNat) ∧ (MI 132 ((600 * (MI 124 7)) + l2).toNat) < 12000) ∧ (((MI 128 (MI 132 ((600 * (MI 124 7)) + l2).toNat).toNat) = 107 → (-2147483648 ≤ (MI 132 ((600 * (MI 124 7)) + l2).toNat) + 1 ∧ (MI 132 ((600 * (MI 124 7)) + l2).toNat) + 1 < 2147483648) ∧ (0 ≤ ((MI 132 ((600 * (MI 124 7)) + l2).toNat) + 1) ∧ ((MI 132 ((600 * (MI 124 7)) + l2).toNat) + 1) < 12000) ∧ (((MI 128 ((MI 132 ((600 * (MI 124 7)) + l2).toNat) + 1).toNat) = 101 → (-2147483648 ≤ (MI 132 ((600 * (MI 124 7)) + l2).toNat) + 2 ∧ (MI 132 ((600 * (MI 124 7)) + l2).toNat) + 2 < 2147483648) ∧ (0 ≤ ((MI 132 ((600 * (MI 124 7)) + l2).toNat) + 2) ∧ ((MI 132 ((600 * (MI 124 7)) + l2).toNat) + 2) < 12000) ∧ (((MI 128 ((MI 132 ((600 * (MI 124 7)) + l2).toNat) + 2).toNat) = 101 → (-2147483648 ≤ (MI 132 ((600 * (MI 124 7)) + l2).toNat) + 3 ∧ (MI 132 ((600 * (MI 124 7)) + l2).toNat) + 3 < 2147483648) ∧ (0 ≤ ((MI 132 ((600 * (MI 124 7)) + l2).toNat) + 3) ∧ ((MI 132 ((600 * (MI 124 7)) + l2).toNat) + 3) < 12000) ∧ (((MI 128 ((MI 132 ((600 * (MI 124 7)) + l2).toNat) + 3).toNat) = 112 → wp cs mX12_isKept KD Q 133 [some (vR 124), some (vI l1), some (vI l2), some (vI ((600 * (MI 124 7)) + l2)), none] [vI 1] (KD, MI, ML, (GR d e nw th x))) ∧ ((MI 128 ((MI 132 ((600 * (MI 124 7)) + l2).toNat) + 3).toNat) ≠ 112 → wp cs mX12_isKept KD Q 133 [some (vR 124), some (vI l1), some (vI l2), some (vI ((600 * (MI 124 7)) + l2)), none] [vI 0] (KD, MI, ML, (GR d e nw th x))))) ∧ ((MI 128 ((MI 132 ((600 * (MI 124 7)) + l2).toNat) + 2).toNat) ≠ 101 → wp cs mX12_isKept KD Q 133 [some (vR 124), some (vI l1), some (vI l2), some (vI ((600 * (MI 124 7)) + l2)), none] [vI 0] (KD, MI, ML, (GR d e nw th x))))) ∧ ((MI 128 ((MI 132 ((600 * (MI 124 7)) + l2).toNat) + 1).toNat) ≠ 101 → wp cs mX12_isKept KD Q 133 [some (vR 124), some (vI l1), some (vI l2), some (vI ((600 * (MI 124 7)) + l2)), none] [vI 0] (KD, MI, ML, (GR d e nw th x))))) ∧ ((MI 128 (MI 132 ((600 * (MI 124 7)) + l2).toNat).toNat) ≠ 107 → wp cs mX12_isKept KD Q 133 [some (vR 124), some (vI l1), some (vI l2), some (vI ((600 * (MI 124 7)) + l2)), none] [vI 0] (KD, MI, ML, (GR d e nw th x))))) ∧ ((MI 133 ((600 * (MI 124 7)) + l2).toNat) ≠ 4 → wp cs mX12_isKept KD Q 133 [some (vR 124), some (vI l1), some (vI l2), some (vI ((600 * (MI 124 7)) + l2)), none] [vI 0] (KD, MI, ML, (GR d e nw th x))))) ∧ ((MI 131 ((600 * (MI 124 7)) + l2).toNat) ≠ l1 → wp cs mX12_isKept KD Q 133 [some (vR 124), some (vI l1), some (vI l2), some (vI ((600 * (MI 124 7)) + l2)), none] [vI 0] (KD, MI, ML, (GR d e nw th x))))) ∧ ((MI 130 ((600 * (MI 124 7)) + l2).toNat) ≠ 2 → wp cs mX12_isKept KD Q 133 [some (vR 124), some (vI l1), some (vI l2), some (vI ((600 * (MI 124 7)) + l2)), none] [vI 0] (KD, MI, ML, (GR d e nw th x))))) ∧ ((MI 129 (MI 124 7).toNat) ≤ l2 → Q (some (vI 0)) (MI, ML, (GR d e nw th x))))) :
    wp cs mX12_isKept KD Q 4 [some (vR 124), some (vI l1), some (vI l2), none, none] [] (KD, MI, ML, (GR d e nw th x)) := by
  refine wp_iload_n dX12_isKept_4 rfl rfl ?_
  refine wp_aload_n dX12_isKept_5 rfl rfl (by first | exact Or.inl (by decide) | exact Or.inl (by omega) | exact Or.inr (by decide) | exact Or.inr (by omega)) ?_
  refine wp_getR dX12_isKept_6 fX12_27 rfl (by decide) ?_
  refine wp_topR (x' := 129) rfl ?_
  refine wp_aload_n dX12_isKept_9 rfl rfl (by first | exact Or.inl (by decide) | exact Or.inl (by omega) | exact Or.inr (by decide) | exact Or.inr (by omega)) ?_
  refine wp_getI dX12_isKept_10 fX12_482 rfl (by decide) ?_
  have c0 := h.1
  replace h := h.2
  refine wp_iald dX12_isKept_13 rfl (by decide) c0 ?_
  refine wp_icmp_ge (tgt := 178) dX12_isKept_14 (by decide) (fun h14 => ?_) (fun h14 => ?_)
  · replace h := h.2 h14
    refine wp_iconst dX12_isKept_178 (by decide) ?_
    exact wp_zret dX12_isKept_179 rfl (by decide) (fun _ => h)
  · replace h := h.1 h14
    refine wp_sipush dX12_isKept_17 (by decide +kernel) (by decide) ?_
    refine wp_aload_n dX12_isKept_20 rfl rfl (by first | exact Or.inl (by decide) | exact Or.inl (by omega) | exact Or.inr (by decide) | exact Or.inr (by omega)) ?_
    refine wp_getI dX12_isKept_21 fX12_482 rfl (by decide) ?_
    have c1 := h.1
    replace h := h.2
    refine wp_imulr dX12_isKept_24 c1 ?_
    refine wp_iload_n dX12_isKept_25 rfl rfl ?_
    have c2 := h.1
    replace h := h.2
    refine wp_iaddr dX12_isKept_26 c2 ?_
    refine wp_istore_n dX12_isKept_27 rfl (by decide) (wp_L (L' := [some (vR 124), some (vI l1), some (vI l2), some (vI ((600 * (MI 124 7)) + l2)), none]) rfl ?_)
    refine wp_pc (pc' := 28) rfl ?_
    refine wp_aload_n dX12_isKept_28 rfl rfl (by first | exact Or.inl (by decide) | exact Or.inl (by omega) | exact Or.inr (by decide) | exact Or.inr (by omega)) ?_
    refine wp_getR dX12_isKept_29 fX12_31 rfl (by decide) ?_
    refine wp_topR (x' := 130) rfl ?_
    refine wp_iload_n dX12_isKept_32 rfl rfl ?_
    have c3 := h.1
    replace h := h.2
    refine wp_iald dX12_isKept_33 rfl (by decide) c3 ?_
    refine wp_iconst dX12_isKept_34 (by decide) ?_
    refine wp_icmp_ne (tgt := 132) dX12_isKept_35 (by decide) (fun h35 => ?_) (fun h35 => ?_)
    · replace h := h.2 h35
      refine wp_iconst dX12_isKept_132 (by decide) ?_
      exact h
    · replace h := h.1 h35
      refine wp_aload_n dX12_isKept_38 rfl rfl (by first | exact Or.inl (by decide) | exact Or.inl (by omega) | exact Or.inr (by decide) | exact Or.inr (by omega)) ?_
      refine wp_getR dX12_isKept_39 fX12_34 rfl (by decide) ?_
      refine wp_topR (x' := 131) rfl ?_
      refine wp_iload_n dX12_isKept_42 rfl rfl ?_
      refine wp_iald dX12_isKept_43 rfl (by decide) c3 ?_
      refine wp_iload_n dX12_isKept_44 rfl rfl ?_
      refine wp_icmp_ne (tgt := 132) dX12_isKept_45 (by decide) (fun h45 => ?_) (fun h45 => ?_)
      · replace h := h.2 h45
        refine wp_iconst dX12_isKept_132 (by decide) ?_
        exact h
      · replace h := h.1 h45
        refine wp_aload_n dX12_isKept_48 rfl rfl (by first | exact Or.inl (by decide) | exact Or.inl (by omega) | exact Or.inr (by decide) | exact Or.inr (by omega)) ?_
        refine wp_getR dX12_isKept_49 fX12_40 rfl (by decide) ?_
        refine wp_topR (x' := 133) rfl ?_
        refine wp_iload_n dX12_isKept_52 rfl rfl ?_
        refine wp_iald dX12_isKept_53 rfl (by decide) c3 ?_
        refine wp_iconst dX12_isKept_54 (by decide) ?_
        refine wp_icmp_ne (tgt := 132) dX12_isKept_55 (by decide) (fun h55 => ?_) (fun h55 => ?_)
        · replace h := h.2 h55
          refine wp_iconst dX12_isKept_132 (by decide) ?_
          exact h
        · replace h := h.1 h55
          refine wp_aload_n dX12_isKept_58 rfl rfl (by first | exact Or.inl (by decide) | exact Or.inl (by omega) | exact Or.inr (by decide) | exact Or.inr (by omega)) ?_
          refine wp_getR dX12_isKept_59 fX12_24 rfl (by decide) ?_
          refine wp_topR (x' := 128) rfl ?_
          refine wp_aload_n dX12_isKept_62 rfl rfl (by first | exact Or.inl (by decide) | exact Or.inl (by omega) | exact Or.inr (by decide) | exact Or.inr (by omega)) ?_
          refine wp_getR dX12_isKept_63 fX12_37 rfl (by decide) ?_
          refine wp_topR (x' := 132) rfl ?_
          refine wp_iload_n dX12_isKept_66 rfl rfl ?_
          refine wp_iald dX12_isKept_67 rfl (by decide) c3 ?_
          have c4 := h.1
          replace h := h.2
          refine wp_bald dX12_isKept_68 rfl (by decide) c4 ?_
          refine wp_pc (pc' := 69) rfl ?_
          refine wp_bipush dX12_isKept_69 (by decide +kernel) (by decide) ?_
          refine wp_icmp_ne (tgt := 132) dX12_isKept_71 (by decide) (fun h71 => ?_) (fun h71 => ?_)
          · replace h := h.2 h71
            refine wp_iconst dX12_isKept_132 (by decide) ?_
            exact h
          · replace h := h.1 h71
            refine wp_aload_n dX12_isKept_74 rfl rfl (by first | exact Or.inl (by decide) | exact Or.inl (by omega) | exact Or.inr (by decide) | exact Or.inr (by omega)) ?_
            refine wp_getR dX12_isKept_75 fX12_24 rfl (by decide) ?_
            refine wp_topR (x' := 128) rfl ?_
            refine wp_aload_n dX12_isKept_78 rfl rfl (by first | exact Or.inl (by decide) | exact Or.inl (by omega) | exact Or.inr (by decide) | exact Or.inr (by omega)) ?_
            refine wp_getR dX12_isKept_79 fX12_37 rfl (by decide) ?_
            refine wp_topR (x' := 132) rfl ?_
            refine wp_iload_n dX12_isKept_82 rfl rfl ?_
            refine wp_iald dX12_isKept_83 rfl (by decide) c3 ?_
            refine wp_iconst dX12_isKept_84 (by decide) ?_
            refine wp_pc (pc' := 85) rfl ?_
            have c5 := h.1
            replace h := h.2
            refine wp_iaddr dX12_isKept_85 c5 ?_
            have c6 := h.1
            replace h := h.2
            refine wp_bald dX12_isKept_86 rfl (by decide) c6 ?_
            refine wp_bipush dX12_isKept_87 (by decide +kernel) (by decide) ?_
            refine wp_icmp_ne (tgt := 132) dX12_isKept_89 (by decide) (fun h89 => ?_) (fun h89 => ?_)
            · replace h := h.2 h89
              refine wp_iconst dX12_isKept_132 (by decide) ?_
              exact h
            · replace h := h.1 h89
              refine wp_aload_n dX12_isKept_92 rfl rfl (by first | exact Or.inl (by decide) | exact Or.inl (by omega) | exact Or.inr (by decide) | exact Or.inr (by omega)) ?_
              refine wp_getR dX12_isKept_93 fX12_24 rfl (by decide) ?_
              refine wp_topR (x' := 128) rfl ?_
              refine wp_aload_n dX12_isKept_96 rfl rfl (by first | exact Or.inl (by decide) | exact Or.inl (by omega) | exact Or.inr (by decide) | exact Or.inr (by omega)) ?_
              refine wp_getR dX12_isKept_97 fX12_37 rfl (by decide) ?_
              refine wp_topR (x' := 132) rfl ?_
              refine wp_iload_n dX12_isKept_100 rfl rfl ?_
              refine wp_iald dX12_isKept_101 rfl (by decide) c3 ?_
              refine wp_iconst dX12_isKept_102 (by decide) ?_
              refine wp_pc (pc' := 103) rfl ?_
              have c7 := h.1
              replace h := h.2
              refine wp_iaddr dX12_isKept_103 c7 ?_
              have c8 := h.1
              replace h := h.2
              refine wp_bald dX12_isKept_104 rfl (by decide) c8 ?_
              refine wp_bipush dX12_isKept_105 (by decide +kernel) (by decide) ?_
              refine wp_icmp_ne (tgt := 132) dX12_isKept_107 (by decide) (fun h107 => ?_) (fun h107 => ?_)
              · replace h := h.2 h107
                refine wp_iconst dX12_isKept_132 (by decide) ?_
                exact h
              · replace h := h.1 h107
                refine wp_aload_n dX12_isKept_110 rfl rfl (by first | exact Or.inl (by decide) | exact Or.inl (by omega) | exact Or.inr (by decide) | exact Or.inr (by omega)) ?_
                refine wp_getR dX12_isKept_111 fX12_24 rfl (by decide) ?_
                refine wp_topR (x' := 128) rfl ?_
                refine wp_aload_n dX12_isKept_114 rfl rfl (by first | exact Or.inl (by decide) | exact Or.inl (by omega) | exact Or.inr (by decide) | exact Or.inr (by omega)) ?_
                refine wp_getR dX12_isKept_115 fX12_37 rfl (by decide) ?_
                refine wp_topR (x' := 132) rfl ?_
                refine wp_iload_n dX12_isKept_118 rfl rfl ?_
                refine wp_iald dX12_isKept_119 rfl (by decide) c3 ?_
                refine wp_iconst dX12_isKept_120 (by decide) ?_
                refine wp_pc (pc' := 121) rfl ?_
                have c9 := h.1
                replace h := h.2
                refine wp_iaddr dX12_isKept_121 c9 ?_
                have c10 := h.1
                replace h := h.2
                refine wp_bald dX12_isKept_122 rfl (by decide) c10 ?_
                refine wp_bipush dX12_isKept_123 (by decide +kernel) (by decide) ?_
                refine wp_icmp_ne (tgt := 132) dX12_isKept_125 (by decide) (fun h125 => ?_) (fun h125 => ?_)
                · replace h := h.2 h125
                  refine wp_iconst dX12_isKept_132 (by decide) ?_
                  exact h
                · replace h := h.1 h125
                  refine wp_iconst dX12_isKept_128 (by decide) ?_
                  refine wp_goto (tgt := 133) dX12_isKept_129 (by decide) ?_
                  exact h
theorem v_X12_isKept_133 {cs : Cs} {Q : Option AV → Mm → Prop} {MI ML : Nat → Nat → Int} {d e nw th x : Nat} {l1 l2 l3 s0 : Int}
    (h : ((s0 = 0 → (-2147483648 ≤ l2 + 1 ∧ l2 + 1 < 2147483648) ∧ wp cs mX12_isKept KD Q 4 [some (vR 124), some (vI l1), some (vI (l2 + 1)), none, none] [] (KD, MI, ML, (GR d e nw th x))) ∧ (s0 ≠ 0 → (0 ≤ l3 ∧ l3 < 1200) ∧ (((MI 135 l3.toNat) = 1 → (0 ≤ (MI 134 l3.toNat) ∧ (MI 134 l3.toNat) < 4000) ∧ (((MI 138 (MI 134 l3.toNat).toNat) = 49 → Q (some (vI 1)) (MI, ML, (GR d e nw th x))) ∧ ((MI 138 (MI 134 l3.toNat).toNat) ≠ 49 → Q (some (vI 0)) (MI, ML, (GR d e nw th x))))) ∧ ((MI 135 l3.toNat) ≠ 1 → Q (some (vI 0)) (MI, ML, (GR d e nw th x))))))) :
    wp cs mX12_isKept KD Q 133 [some (vR 124), some (vI l1), some (vI l2), some (vI l3), none] [vI s0] (KD, MI, ML, (GR d e nw th x)) := by
  refine wp_istore dX12_isKept_133 (by decide) (wp_L (L' := [some (vR 124), some (vI l1), some (vI l2), some (vI l3), some (vI s0)]) rfl ?_)
  refine wp_iload dX12_isKept_135 rfl ?_
  refine wp_if_eq (tgt := 172) dX12_isKept_137 (by decide) (fun h137 => ?_) (fun h137 => ?_)
  · replace h := h.1 h137
    have c0 := h.1
    replace h := h.2
    refine wp_iincr dX12_isKept_172 rfl (by decide) c0 (wp_L (L' := [some (vR 124), some (vI l1), some (vI (l2 + 1)), some (vI l3), some (vI s0)]) rfl ?_)
    refine wp_goto (tgt := 4) dX12_isKept_175 (by decide) ?_
    refine wp_forget (L' := [some (vR 124), some (vI l1), some (vI (l2 + 1)), none, none]) (by repeat' (first | exact trivial | refine ⟨rfl, ?_⟩)) ?_
    exact h
  · replace h := h.2 h137
    refine wp_aload_n dX12_isKept_140 rfl rfl (by first | exact Or.inl (by decide) | exact Or.inl (by omega) | exact Or.inr (by decide) | exact Or.inr (by omega)) ?_
    refine wp_getR dX12_isKept_141 fX12_46 rfl (by decide) ?_
    refine wp_topR (x' := 135) rfl ?_
    refine wp_iload_n dX12_isKept_144 rfl rfl ?_
    have c0 := h.1
    replace h := h.2
    refine wp_iald dX12_isKept_145 rfl (by decide) c0 ?_
    refine wp_iconst dX12_isKept_146 (by decide) ?_
    refine wp_icmp_ne (tgt := 170) dX12_isKept_147 (by decide) (fun h147 => ?_) (fun h147 => ?_)
    · replace h := h.2 h147
      refine wp_iconst dX12_isKept_170 (by decide) ?_
      exact wp_zret dX12_isKept_171 rfl (by decide) (fun _ => h)
    · replace h := h.1 h147
      refine wp_aload_n dX12_isKept_150 rfl rfl (by first | exact Or.inl (by decide) | exact Or.inl (by omega) | exact Or.inr (by decide) | exact Or.inr (by omega)) ?_
      refine wp_getR dX12_isKept_151 fX12_55 rfl (by decide) ?_
      refine wp_topR (x' := 138) rfl ?_
      refine wp_aload_n dX12_isKept_154 rfl rfl (by first | exact Or.inl (by decide) | exact Or.inl (by omega) | exact Or.inr (by decide) | exact Or.inr (by omega)) ?_
      refine wp_getR dX12_isKept_155 fX12_43 rfl (by decide) ?_
      refine wp_topR (x' := 134) rfl ?_
      refine wp_iload_n dX12_isKept_158 rfl rfl ?_
      refine wp_iald dX12_isKept_159 rfl (by decide) c0 ?_
      have c1 := h.1
      replace h := h.2
      refine wp_bald dX12_isKept_160 rfl (by decide) c1 ?_
      refine wp_pc (pc' := 161) rfl ?_
      refine wp_bipush dX12_isKept_161 (by decide +kernel) (by decide) ?_
      refine wp_icmp_ne (tgt := 170) dX12_isKept_163 (by decide) (fun h163 => ?_) (fun h163 => ?_)
      · replace h := h.2 h163
        refine wp_iconst dX12_isKept_170 (by decide) ?_
        exact wp_zret dX12_isKept_171 rfl (by decide) (fun _ => h)
      · replace h := h.1 h163
        refine wp_iconst dX12_isKept_166 (by decide) ?_
        refine wp_goto (tgt := 171) dX12_isKept_167 (by decide) ?_
        exact wp_zret dX12_isKept_171 rfl (by decide) (fun _ => h)
theorem dX12_beginElement_0 : decode cX12_beginElement 0 = .ok (.aload_n 0, 1) := by decide +kernel
theorem dX12_beginElement_1 : decode cX12_beginElement 1 = .ok (.iload_n 1, 1) := by decide +kernel
theorem dX12_beginElement_2 : decode cX12_beginElement 2 = .ok (.invokevirtual 633, 3) := by decide +kernel
theorem dX12_beginElement_5 : decode cX12_beginElement 5 = .ok (.ifCond .ne 4, 3) := by decide +kernel
theorem dX12_beginElement_8 : decode cX12_beginElement 8 = .ok (.return_, 1) := by decide +kernel
theorem dX12_beginElement_9 : decode cX12_beginElement 9 = .ok (.aload_n 0, 1) := by decide +kernel
theorem dX12_beginElement_10 : decode cX12_beginElement 10 = .ok (.invokevirtual 636, 3) := by decide +kernel
theorem dX12_beginElement_13 : decode cX12_beginElement 13 = .ok (.aload_n 0, 1) := by decide +kernel
theorem dX12_beginElement_14 : decode cX12_beginElement 14 = .ok (.invokevirtual 630, 3) := by decide +kernel
theorem dX12_beginElement_17 : decode cX12_beginElement 17 = .ok (.aload_n 0, 1) := by decide +kernel
theorem dX12_beginElement_18 : decode cX12_beginElement 18 = .ok (.iload_n 1, 1) := by decide +kernel
theorem dX12_beginElement_19 : decode cX12_beginElement 19 = .ok (.invokevirtual 658, 3) := by decide +kernel
theorem dX12_beginElement_22 : decode cX12_beginElement 22 = .ok (.ifCond .eq 49, 3) := by decide +kernel
theorem dX12_beginElement_25 : decode cX12_beginElement 25 = .ok (.aload_n 0, 1) := by decide +kernel
theorem dX12_beginElement_26 : decode cX12_beginElement 26 = .ok (.getfield 243, 3) := by decide +kernel
theorem dX12_beginElement_29 : decode cX12_beginElement 29 = .ok (.aload_n 0, 1) := by decide +kernel
theorem dX12_beginElement_30 : decode cX12_beginElement 30 = .ok (.getfield 639, 3) := by decide +kernel
theorem dX12_beginElement_33 : decode cX12_beginElement 33 = .ok (.iload_n 1, 1) := by decide +kernel
theorem dX12_beginElement_34 : decode cX12_beginElement 34 = .ok (.iastore, 1) := by decide +kernel
theorem dX12_beginElement_35 : decode cX12_beginElement 35 = .ok (.aload_n 0, 1) := by decide +kernel
theorem dX12_beginElement_36 : decode cX12_beginElement 36 = .ok (.getfield 231, 3) := by decide +kernel
theorem dX12_beginElement_39 : decode cX12_beginElement 39 = .ok (.aload_n 0, 1) := by decide +kernel
theorem dX12_beginElement_40 : decode cX12_beginElement 40 = .ok (.getfield 639, 3) := by decide +kernel
theorem dX12_beginElement_43 : decode cX12_beginElement 43 = .ok (.aload_n 0, 1) := by decide +kernel
theorem dX12_beginElement_44 : decode cX12_beginElement 44 = .ok (.getfield 501, 3) := by decide +kernel
theorem dX12_beginElement_47 : decode cX12_beginElement 47 = .ok (.iastore, 1) := by decide +kernel
theorem dX12_beginElement_48 : decode cX12_beginElement 48 = .ok (.aload_n 0, 1) := by decide +kernel
theorem dX12_beginElement_49 : decode cX12_beginElement 49 = .ok (.getfield 234, 3) := by decide +kernel
theorem dX12_beginElement_52 : decode cX12_beginElement 52 = .ok (.aload_n 0, 1) := by decide +kernel
theorem dX12_beginElement_53 : decode cX12_beginElement 53 = .ok (.getfield 639, 3) := by decide +kernel
theorem dX12_beginElement_56 : decode cX12_beginElement 56 = .ok (.aload_n 0, 1) := by decide +kernel
theorem dX12_beginElement_57 : decode cX12_beginElement 57 = .ok (.getfield 501, 3) := by decide +kernel
theorem dX12_beginElement_60 : decode cX12_beginElement 60 = .ok (.iastore, 1) := by decide +kernel
theorem dX12_beginElement_61 : decode cX12_beginElement 61 = .ok (.aload_n 0, 1) := by decide +kernel
theorem dX12_beginElement_62 : decode cX12_beginElement 62 = .ok (.dup, 1) := by decide +kernel
theorem dX12_beginElement_63 : decode cX12_beginElement 63 = .ok (.getfield 639, 3) := by decide +kernel
theorem dX12_beginElement_66 : decode cX12_beginElement 66 = .ok (.iconst 1, 1) := by decide +kernel
theorem dX12_beginElement_67 : decode cX12_beginElement 67 = .ok (.iadd, 1) := by decide +kernel
theorem dX12_beginElement_68 : decode cX12_beginElement 68 = .ok (.putfield 639, 3) := by decide +kernel
theorem dX12_beginElement_71 : decode cX12_beginElement 71 = .ok (.return_, 1) := by decide +kernel
theorem v_X12_beginElement_0 {cs : Cs} {Q : Option AV → Mm → Prop} {MI ML : Nat → Nat → Int} {d e nw th x : Nat} {l1 : Int}
    (h : wp cs mX12_isBlock KD (rI (GR d e nw th x) fun x2 m2 n2 => ((x2 = 0 → Q none (m2, n2, (GR d e nw th x))) ∧ (x2 ≠ 0 → wp cs mX12_endWord KD (rV (GR d e nw th x) fun m10 n10 => wp cs mX12_endLine KD (rV (GR d e nw th x) fun m14 n14 => wp cs mX12_isKept KD (rI (GR d e nw th x) fun x19 m19 n19 => ((x19 = 0 → Q none (m19, n19, (GR d e nw th x))) ∧ (x19 ≠ 0 → (0 ≤ (m19 124 95) ∧ (m19 124 95) < 600) ∧ ∀ m34, m34 = up2 m19 200 (m19 124 95).toNat l1 → (0 ≤ (m34 124 95) ∧ (m34 124 95) < 600) ∧ ∀ m47, m47 = up2 m34 196 (m34 124 95).toNat (m34 124 86) → (0 ≤ (m47 124 95) ∧ (m47 124 95) < 600) ∧ ∀ m60, m60 = up2 m47 197 (m47 124 95).toNat (m47 124 86) → (-2147483648 ≤ (m60 124 95) + 1 ∧ (m60 124 95) + 1 < 2147483648) ∧ ∀ m68, m68 = up2 m60 124 95 ((m60 124 95) + 1) → Q none (m68, n19, (GR d e nw th x))))) 0 (padL [vR 124, vI l1] 5) [] (KD, m14, n14, (GR d e nw th x))) 0 (padL [vR 124] 1) [] (KD, m10, n10, (GR d e nw th x))) 0 (padL [vR 124] 2) [] (KD, m2, n2, (GR d e nw th x))))) 0 (padL [vR 124, vI l1] 3) [] (KD, MI, ML, (GR d e nw th x))) :
    wp cs mX12_beginElement KD Q 0 (padL [vR 124, vI l1] 2) [] (KD, MI, ML, (GR d e nw th x)) := by
  refine wp_L (L' := [some (vR 124), some (vI l1)]) rfl ?_
  refine wp_aload_n dX12_beginElement_0 rfl rfl (by first | exact Or.inl (by decide) | exact Or.inl (by omega) | exact Or.inr (by decide) | exact Or.inr (by omega)) ?_
  refine wp_iload_n dX12_beginElement_1 rfl rfl ?_
  refine wp_cVq (n := 1) (mt' := mX12_isBlock) (as := [vI l1]) (rest := []) _ dX12_beginElement_2 lX12_633 kX12_isBlock vX12_isBlock (by decide) (by decide +kernel) rfl (Nat.le_of_ble_eq_true rfl) (by decide) rfl rfl rfl (Nat.le_of_ble_eq_true rfl) (fun hM hS => h) (fun r M' hq hM => ?_)
  obtain ⟨x2, m2, n2, rfl, rfl, h⟩ := rI_out hq
  refine wp_if_ne (tgt := 9) dX12_beginElement_5 (by decide) (fun h5 => ?_) (fun h5 => ?_)
  · replace h := h.2 h5
    refine wp_aload_n dX12_beginElement_9 rfl rfl (by first | exact Or.inl (by decide) | exact Or.inl (by omega) | exact Or.inr (by decide) | exact Or.inr (by omega)) ?_
    refine wp_cVq (n := 0) (mt' := mX12_endWord) (as := []) (rest := []) _ dX12_beginElement_10 lX12_636 kX12_endWord vX12_endWord (by decide) (by decide +kernel) rfl (Nat.le_of_ble_eq_true rfl) (by decide) rfl rfl rfl (Nat.le_of_ble_eq_true rfl) (fun hM hS => h) (fun r M' hq hM => ?_)
    obtain ⟨m10, n10, rfl, rfl, h⟩ := rV_out hq
    refine wp_aload_n dX12_beginElement_13 rfl rfl (by first | exact Or.inl (by decide) | exact Or.inl (by omega) | exact Or.inr (by decide) | exact Or.inr (by omega)) ?_
    refine wp_cVq (n := 0) (mt' := mX12_endLine) (as := []) (rest := []) _ dX12_beginElement_14 lX12_630 kX12_endLine vX12_endLine (by decide) (by decide +kernel) rfl (Nat.le_of_ble_eq_true rfl) (by decide) rfl rfl rfl (Nat.le_of_ble_eq_true rfl) (fun hM hS => h) (fun r M' hq hM => ?_)
    obtain ⟨m14, n14, rfl, rfl, h⟩ := rV_out hq
    refine wp_aload_n dX12_beginElement_17 rfl rfl (by first | exact Or.inl (by decide) | exact Or.inl (by omega) | exact Or.inr (by decide) | exact Or.inr (by omega)) ?_
    refine wp_iload_n dX12_beginElement_18 rfl rfl ?_
    refine wp_cVq (n := 1) (mt' := mX12_isKept) (as := [vI l1]) (rest := []) _ dX12_beginElement_19 lX12_658 kX12_isKept vX12_isKept (by decide) (by decide +kernel) rfl (Nat.le_of_ble_eq_true rfl) (by decide) rfl rfl rfl (Nat.le_of_ble_eq_true rfl) (fun hM hS => h) (fun r M' hq hM => ?_)
    obtain ⟨x19, m19, n19, rfl, rfl, h⟩ := rI_out hq
    refine wp_if_eq (tgt := 71) dX12_beginElement_22 (by decide) (fun h22 => ?_) (fun h22 => ?_)
    · replace h := h.1 h22
      exact wp_vret dX12_beginElement_71 rfl (fun _ => h)
    · replace h := h.2 h22
      refine wp_aload_n dX12_beginElement_25 rfl rfl (by first | exact Or.inl (by decide) | exact Or.inl (by omega) | exact Or.inr (by decide) | exact Or.inr (by omega)) ?_
      refine wp_getR dX12_beginElement_26 fX12_243 rfl (by decide) ?_
      refine wp_topR (x' := 200) rfl ?_
      refine wp_aload_n dX12_beginElement_29 rfl rfl (by first | exact Or.inl (by decide) | exact Or.inl (by omega) | exact Or.inr (by decide) | exact Or.inr (by omega)) ?_
      refine wp_getI dX12_beginElement_30 fX12_639 rfl (by decide) ?_
      refine wp_iload_n dX12_beginElement_33 rfl rfl ?_
      have c0 := h.1
      replace h := h.2
      refine wp_iast dX12_beginElement_34 rfl (by decide) c0 ?_
      refine wp_gI (fun m34 e34 => ?_)
      replace h := h m34 e34
      refine wp_aload_n dX12_beginElement_35 rfl rfl (by first | exact Or.inl (by decide) | exact Or.inl (by omega) | exact Or.inr (by decide) | exact Or.inr (by omega)) ?_
      refine wp_pc (pc' := 36) rfl ?_
      refine wp_getR dX12_beginElement_36 fX12_231 rfl (by decide) ?_
      refine wp_topR (x' := 196) rfl ?_
      refine wp_aload_n dX12_beginElement_39 rfl rfl (by first | exact Or.inl (by decide) | exact Or.inl (by omega) | exact Or.inr (by decide) | exact Or.inr (by omega)) ?_
      refine wp_getI dX12_beginElement_40 fX12_639 rfl (by decide) ?_
      refine wp_aload_n dX12_beginElement_43 rfl rfl (by first | exact Or.inl (by decide) | exact Or.inl (by omega) | exact Or.inr (by decide) | exact Or.inr (by omega)) ?_
      refine wp_getI dX12_beginElement_44 fX12_501 rfl (by decide) ?_
      have c1 := h.1
      replace h := h.2
      refine wp_iast dX12_beginElement_47 rfl (by decide) c1 ?_
      refine wp_gI (fun m47 e47 => ?_)
      replace h := h m47 e47
      refine wp_aload_n dX12_beginElement_48 rfl rfl (by first | exact Or.inl (by decide) | exact Or.inl (by omega) | exact Or.inr (by decide) | exact Or.inr (by omega)) ?_
      refine wp_getR dX12_beginElement_49 fX12_234 rfl (by decide) ?_
      refine wp_topR (x' := 197) rfl ?_
      refine wp_pc (pc' := 52) rfl ?_
      refine wp_aload_n dX12_beginElement_52 rfl rfl (by first | exact Or.inl (by decide) | exact Or.inl (by omega) | exact Or.inr (by decide) | exact Or.inr (by omega)) ?_
      refine wp_getI dX12_beginElement_53 fX12_639 rfl (by decide) ?_
      refine wp_aload_n dX12_beginElement_56 rfl rfl (by first | exact Or.inl (by decide) | exact Or.inl (by omega) | exact Or.inr (by decide) | exact Or.inr (by omega)) ?_
      refine wp_getI dX12_beginElement_57 fX12_501 rfl (by decide) ?_
      have c2 := h.1
      replace h := h.2
      refine wp_iast dX12_beginElement_60 rfl (by decide) c2 ?_
      refine wp_gI (fun m60 e60 => ?_)
      replace h := h m60 e60
      refine wp_aload_n dX12_beginElement_61 rfl rfl (by first | exact Or.inl (by decide) | exact Or.inl (by omega) | exact Or.inr (by decide) | exact Or.inr (by omega)) ?_
      refine wp_dup dX12_beginElement_62 (fun x e => by cases e) ?_
      refine wp_getI dX12_beginElement_63 fX12_639 rfl (by decide) ?_
      refine wp_pc (pc' := 66) rfl ?_
      refine wp_iconst dX12_beginElement_66 (by decide) ?_
      have c3 := h.1
      replace h := h.2
      refine wp_iaddr dX12_beginElement_67 c3 ?_
      refine wp_putI dX12_beginElement_68 pX12_639 rfl (by decide) ?_
      refine wp_gI (fun m68 e68 => ?_)
      replace h := h m68 e68
      exact wp_vret dX12_beginElement_71 rfl (fun _ => h)
  · replace h := h.1 h5
    exact wp_vret dX12_beginElement_8 rfl (fun _ => h)
