theorem dX12_isDoubled_0 : decode cX12_isDoubled 0 = .ok (.iconst 0, 1) := by decide +kernel
theorem dX12_isDoubled_1 : decode cX12_isDoubled 1 = .ok (.istore 4, 2) := by decide +kernel
theorem dX12_isDoubled_3 : decode cX12_isDoubled 3 = .ok (.iconst 0, 1) := by decide +kernel
theorem dX12_isDoubled_4 : decode cX12_isDoubled 4 = .ok (.istore 5, 2) := by decide +kernel
theorem dX12_isDoubled_6 : decode cX12_isDoubled 6 = .ok (.iload 5, 2) := by decide +kernel
theorem dX12_isDoubled_8 : decode cX12_isDoubled 8 = .ok (.aload_n 0, 1) := by decide +kernel
theorem dX12_isDoubled_9 : decode cX12_isDoubled 9 = .ok (.getfield 82, 3) := by decide +kernel
theorem dX12_isDoubled_12 : decode cX12_isDoubled 12 = .ok (.iload_n 1, 1) := by decide +kernel
theorem dX12_isDoubled_13 : decode cX12_isDoubled 13 = .ok (.iaload, 1) := by decide +kernel
theorem dX12_isDoubled_14 : decode cX12_isDoubled 14 = .ok (.if_icmp .ge 71, 3) := by decide +kernel
theorem dX12_isDoubled_17 : decode cX12_isDoubled 17 = .ok (.iconst 0, 1) := by decide +kernel
theorem dX12_isDoubled_18 : decode cX12_isDoubled 18 = .ok (.istore 6, 2) := by decide +kernel
theorem dX12_isDoubled_20 : decode cX12_isDoubled 20 = .ok (.iload 6, 2) := by decide +kernel
theorem dX12_isDoubled_22 : decode cX12_isDoubled 22 = .ok (.iload 5, 2) := by decide +kernel
theorem dX12_isDoubled_24 : decode cX12_isDoubled 24 = .ok (.if_icmp .ge 55, 3) := by decide +kernel
theorem dX12_isDoubled_27 : decode cX12_isDoubled 27 = .ok (.lload_n 2, 1) := by decide +kernel
theorem dX12_isDoubled_28 : decode cX12_isDoubled 28 = .ok (.iload 5, 2) := by decide +kernel
theorem dX12_isDoubled_30 : decode cX12_isDoubled 30 = .ok (.lshr, 1) := by decide +kernel
theorem dX12_isDoubled_31 : decode cX12_isDoubled 31 = .ok (.lconst 1, 1) := by decide +kernel
theorem dX12_isDoubled_32 : decode cX12_isDoubled 32 = .ok (.land, 1) := by decide +kernel
theorem dX12_isDoubled_33 : decode cX12_isDoubled 33 = .ok (.lconst 1, 1) := by decide +kernel
theorem dX12_isDoubled_34 : decode cX12_isDoubled 34 = .ok (.lcmp, 1) := by decide +kernel
theorem dX12_isDoubled_35 : decode cX12_isDoubled 35 = .ok (.ifCond .ne 44, 3) := by decide +kernel
theorem dX12_isDoubled_38 : decode cX12_isDoubled 38 = .ok (.iload 4, 2) := by decide +kernel
theorem dX12_isDoubled_40 : decode cX12_isDoubled 40 = .ok (.ifCond .ne 26, 3) := by decide +kernel
theorem dX12_isDoubled_43 : decode cX12_isDoubled 43 = .ok (.lload_n 2, 1) := by decide +kernel
theorem dX12_isDoubled_44 : decode cX12_isDoubled 44 = .ok (.iload 6, 2) := by decide +kernel
theorem dX12_isDoubled_46 : decode cX12_isDoubled 46 = .ok (.lshr, 1) := by decide +kernel
theorem dX12_isDoubled_47 : decode cX12_isDoubled 47 = .ok (.lconst 1, 1) := by decide +kernel
theorem dX12_isDoubled_48 : decode cX12_isDoubled 48 = .ok (.land, 1) := by decide +kernel
theorem dX12_isDoubled_49 : decode cX12_isDoubled 49 = .ok (.lconst 1, 1) := by decide +kernel
theorem dX12_isDoubled_50 : decode cX12_isDoubled 50 = .ok (.lcmp, 1) := by decide +kernel
theorem dX12_isDoubled_51 : decode cX12_isDoubled 51 = .ok (.ifCond .ne 19, 3) := by decide +kernel
theorem dX12_isDoubled_54 : decode cX12_isDoubled 54 = .ok (.aload_n 0, 1) := by decide +kernel
theorem dX12_isDoubled_55 : decode cX12_isDoubled 55 = .ok (.iload_n 1, 1) := by decide +kernel
theorem dX12_isDoubled_56 : decode cX12_isDoubled 56 = .ok (.iload 5, 2) := by decide +kernel
theorem dX12_isDoubled_58 : decode cX12_isDoubled 58 = .ok (.iload 6, 2) := by decide +kernel
theorem dX12_isDoubled_60 : decode cX12_isDoubled 60 = .ok (.invokevirtual 513, 3) := by decide +kernel
theorem dX12_isDoubled_63 : decode cX12_isDoubled 63 = .ok (.ifCond .eq 7, 3) := by decide +kernel
theorem dX12_isDoubled_66 : decode cX12_isDoubled 66 = .ok (.iconst 1, 1) := by decide +kernel
theorem dX12_isDoubled_67 : decode cX12_isDoubled 67 = .ok (.goto 4, 3) := by decide +kernel
theorem dX12_isDoubled_70 : decode cX12_isDoubled 70 = .ok (.iconst 0, 1) := by decide +kernel
theorem dX12_isDoubled_71 : decode cX12_isDoubled 71 = .ok (.istore 4, 2) := by decide +kernel
theorem dX12_isDoubled_73 : decode cX12_isDoubled 73 = .ok (.iinc 6 1, 3) := by decide +kernel
theorem dX12_isDoubled_76 : decode cX12_isDoubled 76 = .ok (.goto (-56), 3) := by decide +kernel
theorem dX12_isDoubled_79 : decode cX12_isDoubled 79 = .ok (.iinc 5 1, 3) := by decide +kernel
theorem dX12_isDoubled_82 : decode cX12_isDoubled 82 = .ok (.goto (-76), 3) := by decide +kernel
theorem dX12_isDoubled_85 : decode cX12_isDoubled 85 = .ok (.iload 4, 2) := by decide +kernel
theorem dX12_isDoubled_87 : decode cX12_isDoubled 87 = .ok (.ireturn, 1) := by decide +kernel
theorem v_X12_isDoubled_0 {cs : Cs} {Q : Option AV → Mm → Prop} {MI ML : Nat → Nat → Int} {d e nw th x : Nat} {l1 l2 : Int}
    (h : wp cs mX12_isDoubled KD Q 6 [some (vR 124), some (vI l1), some (vL l2), none, some (vI 0), some (vI 0), none] [] (KD, MI, ML, (GR d e nw th x))) :
    wp cs mX12_isDoubled KD Q 0 (padL [vR 124, vI l1, vL l2] 7) [] (KD, MI, ML, (GR d e nw th x)) := by
  refine wp_L (L' := [some (vR 124), some (vI l1), some (vL l2), none, none, none, none]) rfl ?_
  refine wp_iconst dX12_isDoubled_0 (by decide) ?_
  refine wp_istore dX12_isDoubled_1 (by decide) (wp_L (L' := [some (vR 124), some (vI l1), some (vL l2), none, some (vI 0), none, none]) rfl ?_)
  refine wp_iconst dX12_isDoubled_3 (by decide) ?_
  refine wp_istore dX12_isDoubled_4 (by decide) (wp_L (L' := [some (vR 124), some (vI l1), some (vL l2), none, some (vI 0), some (vI 0), none]) rfl ?_)
  exact h
theorem v_X12_isDoubled_6 {cs : Cs} {Q : Option AV → Mm → Prop} {MI ML : Nat → Nat → Int} {d e nw th x : Nat} {l1 l2 l4 l5 : Int}
    (h : (0 ≤ l1 ∧ l1 < 60) ∧ ((l5 < (MI 147 l1.toNat) → wp cs mX12_isDoubled KD Q 20 [some (vR 124), some (vI l1), some (vL l2), none, some (vI l4), some (vI l5), some (vI 0)] [] (KD, MI, ML, (GR d e nw th x))) ∧ ((MI 147 l1.toNat) ≤ l5 → (l4 = 0 ∨ l4 = 1) ∧ Q (some (vI l4)) (MI, ML, (GR d e nw th x))))) :
    wp cs mX12_isDoubled KD Q 6 [some (vR 124), some (vI l1), some (vL l2), none, some (vI l4), some (vI l5), none] [] (KD, MI, ML, (GR d e nw th x)) := by
  refine wp_iload dX12_isDoubled_6 rfl ?_
  refine wp_aload_n dX12_isDoubled_8 rfl rfl (by first | exact Or.inl (by decide) | exact Or.inl (by omega) | exact Or.inr (by decide) | exact Or.inr (by omega)) ?_
  refine wp_getR dX12_isDoubled_9 fX12_82 rfl (by decide) ?_
  refine wp_topR (x' := 147) rfl ?_
  refine wp_iload_n dX12_isDoubled_12 rfl rfl ?_
  have c0 := h.1
  replace h := h.2
  refine wp_iald dX12_isDoubled_13 rfl (by decide) c0 ?_
  refine wp_icmp_ge (tgt := 85) dX12_isDoubled_14 (by decide) (fun h14 => ?_) (fun h14 => ?_)
  · replace h := h.2 h14
    refine wp_iload dX12_isDoubled_85 rfl ?_
    exact wp_zret dX12_isDoubled_87 rfl h.1 (fun _ => h.2)
  · replace h := h.1 h14
    refine wp_iconst dX12_isDoubled_17 (by decide) ?_
    refine wp_istore dX12_isDoubled_18 (by decide) (wp_L (L' := [some (vR 124), some (vI l1), some (vL l2), none, some (vI l4), some (vI l5), some (vI 0)]) rfl ?_)
    exact h
theorem v_X12_isDoubled_20 {cs : Cs} {Q : Option AV → Mm → Prop} {MI ML : Nat → Nat → Int} {d e nw th x : Nat} {l1 l2 l4 l5 l6 : Int}
    (h : ((l6 < l5 → (((l_and (l_shr l2 l5) 1) = 1 → ((l4 = 0 → (((l_and (l_shr l2 l6) 1) = 1 → wp cs mX12_areAlike KD (rI (GR d e nw th x) fun x60 m60 n60 => ((x60 = 0 → (-2147483648 ≤ l6 + 1 ∧ l6 + 1 < 2147483648) ∧ wp cs mX12_isDoubled KD Q 20 [some (vR 124), some (vI l1), some (vL l2), none, some (vI 0), some (vI l5), some (vI (l6 + 1))] [] (KD, m60, n60, (GR d e nw th x))) ∧ (x60 ≠ 0 → (-2147483648 ≤ l6 + 1 ∧ l6 + 1 < 2147483648) ∧ wp cs mX12_isDoubled KD Q 20 [some (vR 124), some (vI l1), some (vL l2), none, some (vI 1), some (vI l5), some (vI (l6 + 1))] [] (KD, m60, n60, (GR d e nw th x))))) 0 (padL [vR 124, vI l1, vI l5, vI l6] 4) [] (KD, MI, ML, (GR d e nw th x))) ∧ ((l_and (l_shr l2 l6) 1) ≠ 1 → (-2147483648 ≤ l6 + 1 ∧ l6 + 1 < 2147483648) ∧ wp cs mX12_isDoubled KD Q 20 [some (vR 124), some (vI l1), some (vL l2), none, some (vI 0), some (vI l5), some (vI (l6 + 1))] [] (KD, MI, ML, (GR d e nw th x))))) ∧ (l4 ≠ 0 → (-2147483648 ≤ l6 + 1 ∧ l6 + 1 < 2147483648) ∧ wp cs mX12_isDoubled KD Q 20 [some (vR 124), some (vI l1), some (vL l2), none, some (vI 1), some (vI l5), some (vI (l6 + 1))] [] (KD, MI, ML, (GR d e nw th x))))) ∧ ((l_and (l_shr l2 l5) 1) ≠ 1 → (-2147483648 ≤ l5 + 1 ∧ l5 + 1 < 2147483648) ∧ wp cs mX12_isDoubled KD Q 6 [some (vR 124), some (vI l1), some (vL l2), none, some (vI l4), some (vI (l5 + 1)), none] [] (KD, MI, ML, (GR d e nw th x))))) ∧ (l5 ≤ l6 → (-2147483648 ≤ l5 + 1 ∧ l5 + 1 < 2147483648) ∧ wp cs mX12_isDoubled KD Q 6 [some (vR 124), some (vI l1), some (vL l2), none, some (vI l4), some (vI (l5 + 1)), none] [] (KD, MI, ML, (GR d e nw th x))))) :
    wp cs mX12_isDoubled KD Q 20 [some (vR 124), some (vI l1), some (vL l2), none, some (vI l4), some (vI l5), some (vI l6)] [] (KD, MI, ML, (GR d e nw th x)) := by
  refine wp_iload dX12_isDoubled_20 rfl ?_
  refine wp_iload dX12_isDoubled_22 rfl ?_
  refine wp_icmp_ge (tgt := 79) dX12_isDoubled_24 (by decide) (fun h24 => ?_) (fun h24 => ?_)
  · replace h := h.2 h24
    have c0 := h.1
    replace h := h.2
    refine wp_iincr dX12_isDoubled_79 rfl (by decide) c0 (wp_L (L' := [some (vR 124), some (vI l1), some (vL l2), none, some (vI l4), some (vI (l5 + 1)), some (vI l6)]) rfl ?_)
    refine wp_goto (tgt := 6) dX12_isDoubled_82 (by decide) ?_
    refine wp_forget (L' := [some (vR 124), some (vI l1), some (vL l2), none, some (vI l4), some (vI (l5 + 1)), none]) (by repeat' (first | exact trivial | refine ⟨rfl, ?_⟩)) ?_
    exact h
  · replace h := h.1 h24
    refine wp_lload_n dX12_isDoubled_27 rfl rfl ?_
    refine wp_iload dX12_isDoubled_28 rfl ?_
    refine wp_lshr dX12_isDoubled_30 ?_
    refine wp_lconst (z := 1) dX12_isDoubled_31 (by decide +kernel) (by decide) ?_
    refine wp_land dX12_isDoubled_32 ?_
    refine wp_lconst (z := 1) dX12_isDoubled_33 (by decide +kernel) (by decide) ?_
    refine wp_lcmp dX12_isDoubled_34 ?_
    refine wp_pc (pc' := 35) rfl ?_
    refine wp_if_ne (tgt := 79) dX12_isDoubled_35 (by decide) (fun h35 => ?_) (fun h35 => ?_)
    · replace h := h.2 (l_cmp_nz h35)
      have c0 := h.1
      replace h := h.2
      refine wp_iincr dX12_isDoubled_79 rfl (by decide) c0 (wp_L (L' := [some (vR 124), some (vI l1), some (vL l2), none, some (vI l4), some (vI (l5 + 1)), some (vI l6)]) rfl ?_)
      refine wp_goto (tgt := 6) dX12_isDoubled_82 (by decide) ?_
      refine wp_forget (L' := [some (vR 124), some (vI l1), some (vL l2), none, some (vI l4), some (vI (l5 + 1)), none]) (by repeat' (first | exact trivial | refine ⟨rfl, ?_⟩)) ?_
      exact h
    · replace h := h.1 (l_cmp_z h35)
      refine wp_iload dX12_isDoubled_38 rfl ?_
      refine wp_if_ne (tgt := 66) dX12_isDoubled_40 (by decide) (fun h40 => ?_) (fun h40 => ?_)
      · replace h := h.2 h40
        refine wp_iconst dX12_isDoubled_66 (by decide) ?_
        refine wp_goto (tgt := 71) dX12_isDoubled_67 (by decide) ?_
        refine wp_istore dX12_isDoubled_71 (by decide) (wp_L (L' := [some (vR 124), some (vI l1), some (vL l2), none, some (vI 1), some (vI l5), some (vI l6)]) rfl ?_)
        have c0 := h.1
        replace h := h.2
        refine wp_iincr dX12_isDoubled_73 rfl (by decide) c0 (wp_L (L' := [some (vR 124), some (vI l1), some (vL l2), none, some (vI 1), some (vI l5), some (vI (l6 + 1))]) rfl ?_)
        refine wp_goto (tgt := 20) dX12_isDoubled_76 (by decide) ?_
        exact h
      · replace h := h.1 h40
        refine wp_lload_n dX12_isDoubled_43 rfl rfl ?_
        refine wp_iload dX12_isDoubled_44 rfl ?_
        refine wp_lshr dX12_isDoubled_46 ?_
        refine wp_lconst (z := 1) dX12_isDoubled_47 (by decide +kernel) (by decide) ?_
        refine wp_land dX12_isDoubled_48 ?_
        refine wp_lconst (z := 1) dX12_isDoubled_49 (by decide +kernel) (by decide) ?_
        refine wp_lcmp dX12_isDoubled_50 ?_
        refine wp_pc (pc' := 51) rfl ?_
        refine wp_if_ne (tgt := 70) dX12_isDoubled_51 (by decide) (fun h51 => ?_) (fun h51 => ?_)
        · replace h := h.2 (l_cmp_nz h51)
          refine wp_iconst dX12_isDoubled_70 (by decide) ?_
          refine wp_istore dX12_isDoubled_71 (by decide) (wp_L (L' := [some (vR 124), some (vI l1), some (vL l2), none, some (vI 0), some (vI l5), some (vI l6)]) rfl ?_)
          have c0 := h.1
          replace h := h.2
          refine wp_iincr dX12_isDoubled_73 rfl (by decide) c0 (wp_L (L' := [some (vR 124), some (vI l1), some (vL l2), none, some (vI 0), some (vI l5), some (vI (l6 + 1))]) rfl ?_)
          refine wp_goto (tgt := 20) dX12_isDoubled_76 (by decide) ?_
          exact h
        · replace h := h.1 (l_cmp_z h51)
          refine wp_aload_n dX12_isDoubled_54 rfl rfl (by first | exact Or.inl (by decide) | exact Or.inl (by omega) | exact Or.inr (by decide) | exact Or.inr (by omega)) ?_
          refine wp_iload_n dX12_isDoubled_55 rfl rfl ?_
          refine wp_iload dX12_isDoubled_56 rfl ?_
          refine wp_iload dX12_isDoubled_58 rfl ?_
          refine wp_cVq (n := 3) (mt' := mX12_areAlike) (as := [vI l1, vI l5, vI l6]) (rest := []) _ dX12_isDoubled_60 lX12_513 kX12_areAlike vX12_areAlike (by decide) (by decide +kernel) rfl (Nat.le_of_ble_eq_true rfl) (by decide) rfl rfl rfl (Nat.le_of_ble_eq_true rfl) (fun hM hS => h) (fun r M' hq hM => ?_)
          obtain ⟨x60, m60, n60, rfl, rfl, h⟩ := rI_out hq
          refine wp_if_eq (tgt := 70) dX12_isDoubled_63 (by decide) (fun h63 => ?_) (fun h63 => ?_)
          · replace h := h.1 h63
            refine wp_iconst dX12_isDoubled_70 (by decide) ?_
            refine wp_istore dX12_isDoubled_71 (by decide) (wp_L (L' := [some (vR 124), some (vI l1), some (vL l2), none, some (vI 0), some (vI l5), some (vI l6)]) rfl ?_)
            have c0 := h.1
            replace h := h.2
            refine wp_iincr dX12_isDoubled_73 rfl (by decide) c0 (wp_L (L' := [some (vR 124), some (vI l1), some (vL l2), none, some (vI 0), some (vI l5), some (vI (l6 + 1))]) rfl ?_)
            refine wp_goto (tgt := 20) dX12_isDoubled_76 (by decide) ?_
            exact h
          · replace h := h.2 h63
            refine wp_iconst dX12_isDoubled_66 (by decide) ?_
            refine wp_goto (tgt := 71) dX12_isDoubled_67 (by decide) ?_
            refine wp_istore dX12_isDoubled_71 (by decide) (wp_L (L' := [some (vR 124), some (vI l1), some (vL l2), none, some (vI 1), some (vI l5), some (vI l6)]) rfl ?_)
            have c0 := h.1
            replace h := h.2
            refine wp_iincr dX12_isDoubled_73 rfl (by decide) c0 (wp_L (L' := [some (vR 124), some (vI l1), some (vL l2), none, some (vI 1), some (vI l5), some (vI (l6 + 1))]) rfl ?_)
            refine wp_goto (tgt := 20) dX12_isDoubled_76 (by decide) ?_
            exact h
theorem dX12_judgeDecl_0 : decode cX12_judgeDecl 0 = .ok (.bipush 30, 2) := by decide +kernel
theorem dX12_judgeDecl_2 : decode cX12_judgeDecl 2 = .ok (.aload_n 0, 1) := by decide +kernel
theorem dX12_judgeDecl_3 : decode cX12_judgeDecl 3 = .ok (.getfield 482, 3) := by decide +kernel
theorem dX12_judgeDecl_6 : decode cX12_judgeDecl 6 = .ok (.imul, 1) := by decide +kernel
theorem dX12_judgeDecl_7 : decode cX12_judgeDecl 7 = .ok (.iload_n 1, 1) := by decide +kernel
theorem dX12_judgeDecl_8 : decode cX12_judgeDecl 8 = .ok (.iadd, 1) := by decide +kernel
theorem dX12_judgeDecl_9 : decode cX12_judgeDecl 9 = .ok (.istore_n 2, 1) := by decide +kernel
theorem dX12_judgeDecl_10 : decode cX12_judgeDecl 10 = .ok (.aload_n 0, 1) := by decide +kernel
theorem dX12_judgeDecl_11 : decode cX12_judgeDecl 11 = .ok (.aload_n 0, 1) := by decide +kernel
theorem dX12_judgeDecl_12 : decode cX12_judgeDecl 12 = .ok (.getfield 73, 3) := by decide +kernel
theorem dX12_judgeDecl_15 : decode cX12_judgeDecl 15 = .ok (.iload_n 2, 1) := by decide +kernel
theorem dX12_judgeDecl_16 : decode cX12_judgeDecl 16 = .ok (.iaload, 1) := by decide +kernel
theorem dX12_judgeDecl_17 : decode cX12_judgeDecl 17 = .ok (.aload_n 0, 1) := by decide +kernel
theorem dX12_judgeDecl_18 : decode cX12_judgeDecl 18 = .ok (.getfield 76, 3) := by decide +kernel
theorem dX12_judgeDecl_21 : decode cX12_judgeDecl 21 = .ok (.iload_n 2, 1) := by decide +kernel
theorem dX12_judgeDecl_22 : decode cX12_judgeDecl 22 = .ok (.iaload, 1) := by decide +kernel
theorem dX12_judgeDecl_23 : decode cX12_judgeDecl 23 = .ok (.invokevirtual 516, 3) := by decide +kernel
theorem dX12_judgeDecl_26 : decode cX12_judgeDecl 26 = .ok (.iload_n 2, 1) := by decide +kernel
theorem dX12_judgeDecl_27 : decode cX12_judgeDecl 27 = .ok (.if_icmp .ge 9, 3) := by decide +kernel
theorem dX12_judgeDecl_30 : decode cX12_judgeDecl 30 = .ok (.aload_n 0, 1) := by decide +kernel
theorem dX12_judgeDecl_31 : decode cX12_judgeDecl 31 = .ok (.iconst 1, 1) := by decide +kernel
theorem dX12_judgeDecl_32 : decode cX12_judgeDecl 32 = .ok (.iload_n 1, 1) := by decide +kernel
theorem dX12_judgeDecl_33 : decode cX12_judgeDecl 33 = .ok (.invokevirtual 519, 3) := by decide +kernel
theorem dX12_judgeDecl_36 : decode cX12_judgeDecl 36 = .ok (.aload_n 0, 1) := by decide +kernel
theorem dX12_judgeDecl_37 : decode cX12_judgeDecl 37 = .ok (.getfield 79, 3) := by decide +kernel
theorem dX12_judgeDecl_40 : decode cX12_judgeDecl 40 = .ok (.iload_n 2, 1) := by decide +kernel
theorem dX12_judgeDecl_41 : decode cX12_judgeDecl 41 = .ok (.iaload, 1) := by decide +kernel
theorem dX12_judgeDecl_42 : decode cX12_judgeDecl 42 = .ok (.iconst 3, 1) := by decide +kernel
theorem dX12_judgeDecl_43 : decode cX12_judgeDecl 43 = .ok (.if_icmp .ne 21, 3) := by decide +kernel
theorem dX12_judgeDecl_46 : decode cX12_judgeDecl 46 = .ok (.aload_n 0, 1) := by decide +kernel
theorem dX12_judgeDecl_47 : decode cX12_judgeDecl 47 = .ok (.iload_n 2, 1) := by decide +kernel
theorem dX12_judgeDecl_48 : decode cX12_judgeDecl 48 = .ok (.aload_n 0, 1) := by decide +kernel
theorem dX12_judgeDecl_49 : decode cX12_judgeDecl 49 = .ok (.getfield 91, 3) := by decide +kernel
theorem dX12_judgeDecl_52 : decode cX12_judgeDecl 52 = .ok (.iload_n 2, 1) := by decide +kernel
theorem dX12_judgeDecl_53 : decode cX12_judgeDecl 53 = .ok (.laload, 1) := by decide +kernel
theorem dX12_judgeDecl_54 : decode cX12_judgeDecl 54 = .ok (.invokevirtual 522, 3) := by decide +kernel
theorem dX12_judgeDecl_57 : decode cX12_judgeDecl 57 = .ok (.ifCond .eq 7, 3) := by decide +kernel
theorem dX12_judgeDecl_60 : decode cX12_judgeDecl 60 = .ok (.iconst 1, 1) := by decide +kernel
theorem dX12_judgeDecl_61 : decode cX12_judgeDecl 61 = .ok (.goto 4, 3) := by decide +kernel
theorem dX12_judgeDecl_64 : decode cX12_judgeDecl 64 = .ok (.iconst 0, 1) := by decide +kernel
theorem dX12_judgeDecl_65 : decode cX12_judgeDecl 65 = .ok (.istore_n 3, 1) := by decide +kernel
theorem dX12_judgeDecl_66 : decode cX12_judgeDecl 66 = .ok (.iconst 0, 1) := by decide +kernel
theorem dX12_judgeDecl_67 : decode cX12_judgeDecl 67 = .ok (.istore 4, 2) := by decide +kernel
theorem dX12_judgeDecl_69 : decode cX12_judgeDecl 69 = .ok (.iload 4, 2) := by decide +kernel
theorem dX12_judgeDecl_71 : decode cX12_judgeDecl 71 = .ok (.aload_n 0, 1) := by decide +kernel
theorem dX12_judgeDecl_72 : decode cX12_judgeDecl 72 = .ok (.getfield 82, 3) := by decide +kernel
theorem dX12_judgeDecl_75 : decode cX12_judgeDecl 75 = .ok (.iload_n 2, 1) := by decide +kernel
theorem dX12_judgeDecl_76 : decode cX12_judgeDecl 76 = .ok (.iaload, 1) := by decide +kernel
theorem dX12_judgeDecl_77 : decode cX12_judgeDecl 77 = .ok (.if_icmp .ge 49, 3) := by decide +kernel
theorem dX12_judgeDecl_80 : decode cX12_judgeDecl 80 = .ok (.aload_n 0, 1) := by decide +kernel
theorem dX12_judgeDecl_81 : decode cX12_judgeDecl 81 = .ok (.getfield 79, 3) := by decide +kernel
theorem dX12_judgeDecl_84 : decode cX12_judgeDecl 84 = .ok (.iload_n 2, 1) := by decide +kernel
theorem dX12_judgeDecl_85 : decode cX12_judgeDecl 85 = .ok (.iaload, 1) := by decide +kernel
theorem dX12_judgeDecl_86 : decode cX12_judgeDecl 86 = .ok (.iconst 3, 1) := by decide +kernel
theorem dX12_judgeDecl_87 : decode cX12_judgeDecl 87 = .ok (.if_icmp .ne 39, 3) := by decide +kernel
theorem dX12_judgeDecl_90 : decode cX12_judgeDecl 90 = .ok (.iload_n 3, 1) := by decide +kernel
theorem dX12_judgeDecl_91 : decode cX12_judgeDecl 91 = .ok (.ifCond .ne 23, 3) := by decide +kernel
theorem dX12_judgeDecl_94 : decode cX12_judgeDecl 94 = .ok (.aload_n 0, 1) := by decide +kernel
theorem dX12_judgeDecl_95 : decode cX12_judgeDecl 95 = .ok (.iload_n 2, 1) := by decide +kernel
theorem dX12_judgeDecl_96 : decode cX12_judgeDecl 96 = .ok (.aload_n 0, 1) := by decide +kernel
theorem dX12_judgeDecl_97 : decode cX12_judgeDecl 97 = .ok (.getfield 101, 3) := by decide +kernel
theorem dX12_judgeDecl_100 : decode cX12_judgeDecl 100 = .ok (.bipush 40, 2) := by decide +kernel
theorem dX12_judgeDecl_102 : decode cX12_judgeDecl 102 = .ok (.iload_n 2, 1) := by decide +kernel
theorem dX12_judgeDecl_103 : decode cX12_judgeDecl 103 = .ok (.imul, 1) := by decide +kernel
theorem dX12_judgeDecl_104 : decode cX12_judgeDecl 104 = .ok (.iload 4, 2) := by decide +kernel
theorem dX12_judgeDecl_106 : decode cX12_judgeDecl 106 = .ok (.iadd, 1) := by decide +kernel
theorem dX12_judgeDecl_107 : decode cX12_judgeDecl 107 = .ok (.laload, 1) := by decide +kernel
theorem dX12_judgeDecl_108 : decode cX12_judgeDecl 108 = .ok (.invokevirtual 522, 3) := by decide +kernel
theorem dX12_judgeDecl_111 : decode cX12_judgeDecl 111 = .ok (.ifCond .eq 7, 3) := by decide +kernel
theorem dX12_judgeDecl_114 : decode cX12_judgeDecl 114 = .ok (.iconst 1, 1) := by decide +kernel
theorem dX12_judgeDecl_115 : decode cX12_judgeDecl 115 = .ok (.goto 4, 3) := by decide +kernel
theorem dX12_judgeDecl_118 : decode cX12_judgeDecl 118 = .ok (.iconst 0, 1) := by decide +kernel
theorem dX12_judgeDecl_119 : decode cX12_judgeDecl 119 = .ok (.istore_n 3, 1) := by decide +kernel
theorem dX12_judgeDecl_120 : decode cX12_judgeDecl 120 = .ok (.iinc 4 1, 3) := by decide +kernel
theorem dX12_judgeDecl_123 : decode cX12_judgeDecl 123 = .ok (.goto (-54), 3) := by decide +kernel
theorem dX12_judgeDecl_126 : decode cX12_judgeDecl 126 = .ok (.iload_n 3, 1) := by decide +kernel
theorem dX12_judgeDecl_127 : decode cX12_judgeDecl 127 = .ok (.ifCond .eq 9, 3) := by decide +kernel
theorem dX12_judgeDecl_130 : decode cX12_judgeDecl 130 = .ok (.aload_n 0, 1) := by decide +kernel
theorem dX12_judgeDecl_131 : decode cX12_judgeDecl 131 = .ok (.iconst 2, 1) := by decide +kernel
theorem dX12_judgeDecl_132 : decode cX12_judgeDecl 132 = .ok (.iload_n 1, 1) := by decide +kernel
theorem dX12_judgeDecl_133 : decode cX12_judgeDecl 133 = .ok (.invokevirtual 519, 3) := by decide +kernel
theorem dX12_judgeDecl_136 : decode cX12_judgeDecl 136 = .ok (.aload_n 0, 1) := by decide +kernel
theorem dX12_judgeDecl_137 : decode cX12_judgeDecl 137 = .ok (.getfield 79, 3) := by decide +kernel
theorem dX12_judgeDecl_140 : decode cX12_judgeDecl 140 = .ok (.iload_n 2, 1) := by decide +kernel
theorem dX12_judgeDecl_141 : decode cX12_judgeDecl 141 = .ok (.iaload, 1) := by decide +kernel
theorem dX12_judgeDecl_142 : decode cX12_judgeDecl 142 = .ok (.iconst 2, 1) := by decide +kernel
theorem dX12_judgeDecl_143 : decode cX12_judgeDecl 143 = .ok (.if_icmp .ne 20, 3) := by decide +kernel
theorem dX12_judgeDecl_146 : decode cX12_judgeDecl 146 = .ok (.aload_n 0, 1) := by decide +kernel
theorem dX12_judgeDecl_147 : decode cX12_judgeDecl 147 = .ok (.iload_n 2, 1) := by decide +kernel
theorem dX12_judgeDecl_148 : decode cX12_judgeDecl 148 = .ok (.ldc2_w 526, 3) := by decide +kernel
theorem dX12_judgeDecl_151 : decode cX12_judgeDecl 151 = .ok (.invokevirtual 522, 3) := by decide +kernel
theorem dX12_judgeDecl_154 : decode cX12_judgeDecl 154 = .ok (.ifCond .eq 9, 3) := by decide +kernel
theorem dX12_judgeDecl_157 : decode cX12_judgeDecl 157 = .ok (.aload_n 0, 1) := by decide +kernel
theorem dX12_judgeDecl_158 : decode cX12_judgeDecl 158 = .ok (.iconst 3, 1) := by decide +kernel
theorem dX12_judgeDecl_159 : decode cX12_judgeDecl 159 = .ok (.iload_n 1, 1) := by decide +kernel
theorem dX12_judgeDecl_160 : decode cX12_judgeDecl 160 = .ok (.invokevirtual 519, 3) := by decide +kernel
theorem dX12_judgeDecl_163 : decode cX12_judgeDecl 163 = .ok (.return_, 1) := by decide +kernel
theorem v_X12_judgeDecl_0 {cs : Cs} {Q : Option AV → Mm → Prop} {MI ML : Nat → Nat → Int} {d e nw th x : Nat} {l1 : Int}
    (h : (-2147483648 ≤ 30 * (MI 124 7) ∧ 30 * (MI 124 7) < 2147483648) ∧ (-2147483648 ≤ (30 * (MI 124 7)) + l1 ∧ (30 * (MI 124 7)) + l1 < 2147483648) ∧ (0 ≤ ((30 * (MI 124 7)) + l1) ∧ ((30 * (MI 124 7)) + l1) < 60) ∧ wp cs mX12_declOf KD (rI (GR d e nw th x) fun x23 m23 n23 => ((x23 < ((30 * (MI 124 7)) + l1) → wp cs mX12_tellFinding KD (rV (GR d e nw th x) fun m33 n33 => wp cs mX12_judgeDecl KD Q 36 [some (vR 124), some (vI l1), some (vI ((30 * (MI 124 7)) + l1)), none, none] [] (KD, m33, n33, (GR d e nw th x))) 0 (padL [vR 124, vI 1, vI l1] 3) [] (KD, m23, n23, (GR d e nw th x))) ∧ (((30 * (MI 124 7)) + l1) ≤ x23 → wp cs mX12_judgeDecl KD Q 36 [some (vR 124), some (vI l1), some (vI ((30 * (MI 124 7)) + l1)), none, none] [] (KD, m23, n23, (GR d e nw th x))))) 0 (padL [vR 124, vI (MI 144 ((30 * (MI 124 7)) + l1).toNat), vI (MI 145 ((30 * (MI 124 7)) + l1).toNat)] 4) [] (KD, MI, ML, (GR d e nw th x))) :
    wp cs mX12_judgeDecl KD Q 0 (padL [vR 124, vI l1] 5) [] (KD, MI, ML, (GR d e nw th x)) := by
  refine wp_L (L' := [some (vR 124), some (vI l1), none, none, none]) rfl ?_
  refine wp_bipush dX12_judgeDecl_0 (by decide +kernel) (by decide) ?_
  refine wp_aload_n dX12_judgeDecl_2 rfl rfl (by first | exact Or.inl (by decide) | exact Or.inl (by omega) | exact Or.inr (by decide) | exact Or.inr (by omega)) ?_
  refine wp_getI dX12_judgeDecl_3 fX12_482 rfl (by decide) ?_
  have c0 := h.1
  replace h := h.2
  refine wp_imulr dX12_judgeDecl_6 c0 ?_
  refine wp_iload_n dX12_judgeDecl_7 rfl rfl ?_
  have c1 := h.1
  replace h := h.2
  refine wp_iaddr dX12_judgeDecl_8 c1 ?_
  refine wp_istore_n dX12_judgeDecl_9 rfl (by decide) (wp_L (L' := [some (vR 124), some (vI l1), some (vI ((30 * (MI 124 7)) + l1)), none, none]) rfl ?_)
  refine wp_pc (pc' := 10) rfl ?_
  refine wp_aload_n dX12_judgeDecl_10 rfl rfl (by first | exact Or.inl (by decide) | exact Or.inl (by omega) | exact Or.inr (by decide) | exact Or.inr (by omega)) ?_
  refine wp_aload_n dX12_judgeDecl_11 rfl rfl (by first | exact Or.inl (by decide) | exact Or.inl (by omega) | exact Or.inr (by decide) | exact Or.inr (by omega)) ?_
  refine wp_getR dX12_judgeDecl_12 fX12_73 rfl (by decide) ?_
  refine wp_topR (x' := 144) rfl ?_
  refine wp_iload_n dX12_judgeDecl_15 rfl rfl ?_
  have c2 := h.1
  replace h := h.2
  refine wp_iald dX12_judgeDecl_16 rfl (by decide) c2 ?_
  refine wp_aload_n dX12_judgeDecl_17 rfl rfl (by first | exact Or.inl (by decide) | exact Or.inl (by omega) | exact Or.inr (by decide) | exact Or.inr (by omega)) ?_
  refine wp_getR dX12_judgeDecl_18 fX12_76 rfl (by decide) ?_
  refine wp_topR (x' := 145) rfl ?_
  refine wp_iload_n dX12_judgeDecl_21 rfl rfl ?_
  refine wp_pc (pc' := 22) rfl ?_
  refine wp_iald dX12_judgeDecl_22 rfl (by decide) c2 ?_
  refine wp_cVq (n := 2) (mt' := mX12_declOf) (as := [vI (MI 144 ((30 * (MI 124 7)) + l1).toNat), vI (MI 145 ((30 * (MI 124 7)) + l1).toNat)]) (rest := []) _ dX12_judgeDecl_23 lX12_516 kX12_declOf vX12_declOf (by decide) (by decide +kernel) rfl (Nat.le_of_ble_eq_true rfl) (by decide) rfl rfl rfl (Nat.le_of_ble_eq_true rfl) (fun hM hS => h) (fun r M' hq hM => ?_)
  obtain ⟨x23, m23, n23, rfl, rfl, h⟩ := rI_out hq
  refine wp_iload_n dX12_judgeDecl_26 rfl rfl ?_
  refine wp_icmp_ge (tgt := 36) dX12_judgeDecl_27 (by decide) (fun h27 => ?_) (fun h27 => ?_)
  · replace h := h.2 h27
    exact h
  · replace h := h.1 h27
    refine wp_aload_n dX12_judgeDecl_30 rfl rfl (by first | exact Or.inl (by decide) | exact Or.inl (by omega) | exact Or.inr (by decide) | exact Or.inr (by omega)) ?_
    refine wp_iconst dX12_judgeDecl_31 (by decide) ?_
    refine wp_iload_n dX12_judgeDecl_32 rfl rfl ?_
    refine wp_cVq (n := 2) (mt' := mX12_tellFinding) (as := [vI 1, vI l1]) (rest := []) _ dX12_judgeDecl_33 lX12_519 kX12_tellFinding vX12_tellFinding (by decide) (by decide +kernel) rfl (Nat.le_of_ble_eq_true rfl) (by decide) rfl rfl rfl (Nat.le_of_ble_eq_true rfl) (fun hM hS => h) (fun r M' hq hM => ?_)
    obtain ⟨m33, n33, rfl, rfl, h⟩ := rV_out hq
    exact h
theorem v_X12_judgeDecl_36 {cs : Cs} {Q : Option AV → Mm → Prop} {MI ML : Nat → Nat → Int} {d e nw th x : Nat} {l1 l2 : Int}
    (h : (0 ≤ l2 ∧ l2 < 60) ∧ (((MI 146 l2.toNat) = 3 → wp cs mX12_isDoubled KD (rI (GR d e nw th x) fun x54 m54 n54 => ((x54 = 0 → wp cs mX12_judgeDecl KD Q 69 [some (vR 124), some (vI l1), some (vI l2), some (vI 0), some (vI 0)] [] (KD, m54, n54, (GR d e nw th x))) ∧ (x54 ≠ 0 → wp cs mX12_judgeDecl KD Q 69 [some (vR 124), some (vI l1), some (vI l2), some (vI 1), some (vI 0)] [] (KD, m54, n54, (GR d e nw th x))))) 0 (padL [vR 124, vI l2, vL (ML 150 l2.toNat)] 7) [] (KD, MI, ML, (GR d e nw th x))) ∧ ((MI 146 l2.toNat) ≠ 3 → wp cs mX12_judgeDecl KD Q 69 [some (vR 124), some (vI l1), some (vI l2), some (vI 0), some (vI 0)] [] (KD, MI, ML, (GR d e nw th x))))) :
    wp cs mX12_judgeDecl KD Q 36 [some (vR 124), some (vI l1), some (vI l2), none, none] [] (KD, MI, ML, (GR d e nw th x)) := by
  refine wp_aload_n dX12_judgeDecl_36 rfl rfl (by first | exact Or.inl (by decide) | exact Or.inl (by omega) | exact Or.inr (by decide) | exact Or.inr (by omega)) ?_
  refine wp_getR dX12_judgeDecl_37 fX12_79 rfl (by decide) ?_
  refine wp_topR (x' := 146) rfl ?_
  refine wp_iload_n dX12_judgeDecl_40 rfl rfl ?_
  have c0 := h.1
  replace h := h.2
  refine wp_iald dX12_judgeDecl_41 rfl (by decide) c0 ?_
  refine wp_iconst dX12_judgeDecl_42 (by decide) ?_
  refine wp_icmp_ne (tgt := 64) dX12_judgeDecl_43 (by decide) (fun h43 => ?_) (fun h43 => ?_)
  · replace h := h.2 h43
    refine wp_iconst dX12_judgeDecl_64 (by decide) ?_
    refine wp_istore_n dX12_judgeDecl_65 rfl (by decide) (wp_L (L' := [some (vR 124), some (vI l1), some (vI l2), some (vI 0), none]) rfl ?_)
    refine wp_iconst dX12_judgeDecl_66 (by decide) ?_
    refine wp_istore dX12_judgeDecl_67 (by decide) (wp_L (L' := [some (vR 124), some (vI l1), some (vI l2), some (vI 0), some (vI 0)]) rfl ?_)
    exact h
  · replace h := h.1 h43
    refine wp_aload_n dX12_judgeDecl_46 rfl rfl (by first | exact Or.inl (by decide) | exact Or.inl (by omega) | exact Or.inr (by decide) | exact Or.inr (by omega)) ?_
    refine wp_iload_n dX12_judgeDecl_47 rfl rfl ?_
    refine wp_aload_n dX12_judgeDecl_48 rfl rfl (by first | exact Or.inl (by decide) | exact Or.inl (by omega) | exact Or.inr (by decide) | exact Or.inr (by omega)) ?_
    refine wp_getR dX12_judgeDecl_49 fX12_91 rfl (by decide) ?_
    refine wp_topR (x' := 150) rfl ?_
    refine wp_iload_n dX12_judgeDecl_52 rfl rfl ?_
    refine wp_lald dX12_judgeDecl_53 rfl (by decide) c0 ?_
    refine wp_cVq (n := 2) (mt' := mX12_isDoubled) (as := [vI l2, vL (ML 150 l2.toNat)]) (rest := []) _ dX12_judgeDecl_54 lX12_522 kX12_isDoubled vX12_isDoubled (by decide) (by decide +kernel) rfl (Nat.le_of_ble_eq_true rfl) (by decide) rfl rfl rfl (Nat.le_of_ble_eq_true rfl) (fun hM hS => h) (fun r M' hq hM => ?_)
    obtain ⟨x54, m54, n54, rfl, rfl, h⟩ := rI_out hq
    refine wp_if_eq (tgt := 64) dX12_judgeDecl_57 (by decide) (fun h57 => ?_) (fun h57 => ?_)
    · replace h := h.1 h57
      refine wp_iconst dX12_judgeDecl_64 (by decide) ?_
      refine wp_istore_n dX12_judgeDecl_65 rfl (by decide) (wp_L (L' := [some (vR 124), some (vI l1), some (vI l2), some (vI 0), none]) rfl ?_)
      refine wp_iconst dX12_judgeDecl_66 (by decide) ?_
      refine wp_istore dX12_judgeDecl_67 (by decide) (wp_L (L' := [some (vR 124), some (vI l1), some (vI l2), some (vI 0), some (vI 0)]) rfl ?_)
      exact h
    · replace h := h.2 h57
      refine wp_iconst dX12_judgeDecl_60 (by decide) ?_
      refine wp_goto (tgt := 65) dX12_judgeDecl_61 (by decide) ?_
      refine wp_istore_n dX12_judgeDecl_65 rfl (by decide) (wp_L (L' := [some (vR 124), some (vI l1), some (vI l2), some (vI 1), none]) rfl ?_)
      refine wp_iconst dX12_judgeDecl_66 (by decide) ?_
      refine wp_istore dX12_judgeDecl_67 (by decide) (wp_L (L' := [some (vR 124), some (vI l1), some (vI l2), some (vI 1), some (vI 0)]) rfl ?_)
      exact h
theorem v_X12_judgeDecl_69 {cs : Cs} {Q : Option AV → Mm → Prop} {MI ML : Nat → Nat → Int} {d e nw th x : Nat} {l1 l2 l3 l4 : Int}
    (h : (0 ≤ l2 ∧ l2 < 60) ∧ ((l4 < (MI 147 l2.toNat) → (((MI 146 l2.toNat) = 3 → ((l3 = 0 → (-2147483648 ≤ 40 * l2 ∧ 40 * l2 < 2147483648) ∧ (-2147483648 ≤ (40 * l2) + l4 ∧ (40 * l2) + l4 < 2147483648) ∧ (0 ≤ ((40 * l2) + l4) ∧ ((40 * l2) + l4) < 2400) ∧ wp cs mX12_isDoubled KD (rI (GR d e nw th x) fun x108 m108 n108 => ((x108 = 0 → (-2147483648 ≤ l4 + 1 ∧ l4 + 1 < 2147483648) ∧ wp cs mX12_judgeDecl KD Q 69 [some (vR 124), some (vI l1), some (vI l2), some (vI 0), some (vI (l4 + 1))] [] (KD, m108, n108, (GR d e nw th x))) ∧ (x108 ≠ 0 → (-2147483648 ≤ l4 + 1 ∧ l4 + 1 < 2147483648) ∧ wp cs mX12_judgeDecl KD Q 69 [some (vR 124), some (vI l1), some (vI l2), some (vI 1), some (vI (l4 + 1))] [] (KD, m108, n108, (GR d e nw th x))))) 0 (padL [vR 124, vI l2, vL (ML 153 ((40 * l2) + l4).toNat)] 7) [] (KD, MI, ML, (GR d e nw th x))) ∧ (l3 ≠ 0 → (-2147483648 ≤ l4 + 1 ∧ l4 + 1 < 2147483648) ∧ wp cs mX12_judgeDecl KD Q 69 [some (vR 124), some (vI l1), some (vI l2), some (vI 1), some (vI (l4 + 1))] [] (KD, MI, ML, (GR d e nw th x))))) ∧ ((MI 146 l2.toNat) ≠ 3 → wp cs mX12_judgeDecl KD Q 126 [some (vR 124), some (vI l1), some (vI l2), some (vI l3), some (vI l4)] [] (KD, MI, ML, (GR d e nw th x))))) ∧ ((MI 147 l2.toNat) ≤ l4 → wp cs mX12_judgeDecl KD Q 126 [some (vR 124), some (vI l1), some (vI l2), some (vI l3), some (vI l4)] [] (KD, MI, ML, (GR d e nw th x))))) :
    wp cs mX12_judgeDecl KD Q 69 [some (vR 124), some (vI l1), some (vI l2), some (vI l3), some (vI l4)] [] (KD, MI, ML, (GR d e nw th x)) := by
  refine wp_iload dX12_judgeDecl_69 rfl ?_
  refine wp_aload_n dX12_judgeDecl_71 rfl rfl (by first | exact Or.inl (by decide) | exact Or.inl (by omega) | exact Or.inr (by decide) | exact Or.inr (by omega)) ?_
  refine wp_getR dX12_judgeDecl_72 fX12_82 rfl (by decide) ?_
  refine wp_topR (x' := 147) rfl ?_
  refine wp_iload_n dX12_judgeDecl_75 rfl rfl ?_
  have c0 := h.1
  replace h := h.2
  refine wp_iald dX12_judgeDecl_76 rfl (by decide) c0 ?_
  refine wp_icmp_ge (tgt := 126) dX12_judgeDecl_77 (by decide) (fun h77 => ?_) (fun h77 => ?_)
  · replace h := h.2 h77
    exact h
  · replace h := h.1 h77
    refine wp_aload_n dX12_judgeDecl_80 rfl rfl (by first | exact Or.inl (by decide) | exact Or.inl (by omega) | exact Or.inr (by decide) | exact Or.inr (by omega)) ?_
    refine wp_getR dX12_judgeDecl_81 fX12_79 rfl (by decide) ?_
    refine wp_topR (x' := 146) rfl ?_
    refine wp_iload_n dX12_judgeDecl_84 rfl rfl ?_
    refine wp_iald dX12_judgeDecl_85 rfl (by decide) c0 ?_
    refine wp_iconst dX12_judgeDecl_86 (by decide) ?_
    refine wp_icmp_ne (tgt := 126) dX12_judgeDecl_87 (by decide) (fun h87 => ?_) (fun h87 => ?_)
    · replace h := h.2 h87
      exact h
    · replace h := h.1 h87
      refine wp_iload_n dX12_judgeDecl_90 rfl rfl ?_
      refine wp_if_ne (tgt := 114) dX12_judgeDecl_91 (by decide) (fun h91 => ?_) (fun h91 => ?_)
      · replace h := h.2 h91
        refine wp_iconst dX12_judgeDecl_114 (by decide) ?_
        refine wp_goto (tgt := 119) dX12_judgeDecl_115 (by decide) ?_
        refine wp_istore_n dX12_judgeDecl_119 rfl (by decide) (wp_L (L' := [some (vR 124), some (vI l1), some (vI l2), some (vI 1), some (vI l4)]) rfl ?_)
        have c1 := h.1
        replace h := h.2
        refine wp_iincr dX12_judgeDecl_120 rfl (by decide) c1 (wp_L (L' := [some (vR 124), some (vI l1), some (vI l2), some (vI 1), some (vI (l4 + 1))]) rfl ?_)
        refine wp_goto (tgt := 69) dX12_judgeDecl_123 (by decide) ?_
        exact h
      · replace h := h.1 h91
        refine wp_aload_n dX12_judgeDecl_94 rfl rfl (by first | exact Or.inl (by decide) | exact Or.inl (by omega) | exact Or.inr (by decide) | exact Or.inr (by omega)) ?_
        refine wp_iload_n dX12_judgeDecl_95 rfl rfl ?_
        refine wp_aload_n dX12_judgeDecl_96 rfl rfl (by first | exact Or.inl (by decide) | exact Or.inl (by omega) | exact Or.inr (by decide) | exact Or.inr (by omega)) ?_
        refine wp_getR dX12_judgeDecl_97 fX12_101 rfl (by decide) ?_
        refine wp_topR (x' := 153) rfl ?_
        refine wp_bipush dX12_judgeDecl_100 (by decide +kernel) (by decide) ?_
        refine wp_iload_n dX12_judgeDecl_102 rfl rfl ?_
        have c1 := h.1
        replace h := h.2
        refine wp_imulr dX12_judgeDecl_103 c1 ?_
        refine wp_pc (pc' := 104) rfl ?_
        refine wp_iload dX12_judgeDecl_104 rfl ?_
        have c2 := h.1
        replace h := h.2
        refine wp_iaddr dX12_judgeDecl_106 c2 ?_
        have c3 := h.1
        replace h := h.2
        refine wp_lald dX12_judgeDecl_107 rfl (by decide) c3 ?_
        refine wp_cVq (n := 2) (mt' := mX12_isDoubled) (as := [vI l2, vL (ML 153 ((40 * l2) + l4).toNat)]) (rest := []) _ dX12_judgeDecl_108 lX12_522 kX12_isDoubled vX12_isDoubled (by decide) (by decide +kernel) rfl (Nat.le_of_ble_eq_true rfl) (by decide) rfl rfl rfl (Nat.le_of_ble_eq_true rfl) (fun hM hS => h) (fun r M' hq hM => ?_)
        obtain ⟨x108, m108, n108, rfl, rfl, h⟩ := rI_out hq
        refine wp_if_eq (tgt := 118) dX12_judgeDecl_111 (by decide) (fun h111 => ?_) (fun h111 => ?_)
        · replace h := h.1 h111
          refine wp_iconst dX12_judgeDecl_118 (by decide) ?_
          refine wp_istore_n dX12_judgeDecl_119 rfl (by decide) (wp_L (L' := [some (vR 124), some (vI l1), some (vI l2), some (vI 0), some (vI l4)]) rfl ?_)
          have c4 := h.1
          replace h := h.2
          refine wp_iincr dX12_judgeDecl_120 rfl (by decide) c4 (wp_L (L' := [some (vR 124), some (vI l1), some (vI l2), some (vI 0), some (vI (l4 + 1))]) rfl ?_)
          refine wp_goto (tgt := 69) dX12_judgeDecl_123 (by decide) ?_
          exact h
        · replace h := h.2 h111
          refine wp_iconst dX12_judgeDecl_114 (by decide) ?_
          refine wp_goto (tgt := 119) dX12_judgeDecl_115 (by decide) ?_
          refine wp_istore_n dX12_judgeDecl_119 rfl (by decide) (wp_L (L' := [some (vR 124), some (vI l1), some (vI l2), some (vI 1), some (vI l4)]) rfl ?_)
          have c4 := h.1
          replace h := h.2
          refine wp_iincr dX12_judgeDecl_120 rfl (by decide) c4 (wp_L (L' := [some (vR 124), some (vI l1), some (vI l2), some (vI 1), some (vI (l4 + 1))]) rfl ?_)
          refine wp_goto (tgt := 69) dX12_judgeDecl_123 (by decide) ?_
          exact h
theorem v_X12_judgeDecl_126 {cs : Cs} {Q : Option AV → Mm → Prop} {MI ML : Nat → Nat → Int} {d e nw th x : Nat} {l1 l2 l3 l4 : Int}
    (h : ((l3 = 0 → wp cs mX12_judgeDecl KD Q 136 [some (vR 124), some (vI l1), some (vI l2), some (vI l3), some (vI l4)] [] (KD, MI, ML, (GR d e nw th x))) ∧ (l3 ≠ 0 → wp cs mX12_tellFinding KD (rV (GR d e nw th x) fun m133 n133 => wp cs mX12_judgeDecl KD Q 136 [some (vR 124), some (vI l1), some (vI l2), some (vI l3), some (vI l4)] [] (KD, m133, n133, (GR d e nw th x))) 0 (padL [vR 124, vI 2, vI l1] 3) [] (KD, MI, ML, (GR d e nw th x))))) :
    wp cs mX12_judgeDecl KD Q 126 [some (vR 124), some (vI l1), some (vI l2), some (vI l3), some (vI l4)] [] (KD, MI, ML, (GR d e nw th x)) := by
  refine wp_iload_n dX12_judgeDecl_126 rfl rfl ?_
  refine wp_if_eq (tgt := 136) dX12_judgeDecl_127 (by decide) (fun h127 => ?_) (fun h127 => ?_)
  · replace h := h.1 h127
    exact h
  · replace h := h.2 h127
    refine wp_aload_n dX12_judgeDecl_130 rfl rfl (by first | exact Or.inl (by decide) | exact Or.inl (by omega) | exact Or.inr (by decide) | exact Or.inr (by omega)) ?_
    refine wp_iconst dX12_judgeDecl_131 (by decide) ?_
    refine wp_iload_n dX12_judgeDecl_132 rfl rfl ?_
    refine wp_cVq (n := 2) (mt' := mX12_tellFinding) (as := [vI 2, vI l1]) (rest := []) _ dX12_judgeDecl_133 lX12_519 kX12_tellFinding vX12_tellFinding (by decide) (by decide +kernel) rfl (Nat.le_of_ble_eq_true rfl) (by decide) rfl rfl rfl (Nat.le_of_ble_eq_true rfl) (fun hM hS => h) (fun r M' hq hM => ?_)
    obtain ⟨m133, n133, rfl, rfl, h⟩ := rV_out hq
    exact h
theorem v_X12_judgeDecl_136 {cs : Cs} {Q : Option AV → Mm → Prop} {MI ML : Nat → Nat → Int} {d e nw th x : Nat} {l1 l2 l3 l4 : Int}
    (h : (0 ≤ l2 ∧ l2 < 60) ∧ (((MI 146 l2.toNat) = 2 → wp cs mX12_isDoubled KD (rI (GR d e nw th x) fun x151 m151 n151 => ((x151 = 0 → Q none (m151, n151, (GR d e nw th x))) ∧ (x151 ≠ 0 → wp cs mX12_tellFinding KD (rV (GR d e nw th x) fun m160 n160 => Q none (m160, n160, (GR d e nw th x))) 0 (padL [vR 124, vI 3, vI l1] 3) [] (KD, m151, n151, (GR d e nw th x))))) 0 (padL [vR 124, vI l2, vL (-1)] 7) [] (KD, MI, ML, (GR d e nw th x))) ∧ ((MI 146 l2.toNat) ≠ 2 → Q none (MI, ML, (GR d e nw th x))))) :
    wp cs mX12_judgeDecl KD Q 136 [some (vR 124), some (vI l1), some (vI l2), some (vI l3), some (vI l4)] [] (KD, MI, ML, (GR d e nw th x)) := by
  refine wp_aload_n dX12_judgeDecl_136 rfl rfl (by first | exact Or.inl (by decide) | exact Or.inl (by omega) | exact Or.inr (by decide) | exact Or.inr (by omega)) ?_
  refine wp_getR dX12_judgeDecl_137 fX12_79 rfl (by decide) ?_
  refine wp_topR (x' := 146) rfl ?_
  refine wp_iload_n dX12_judgeDecl_140 rfl rfl ?_
  have c0 := h.1
  replace h := h.2
  refine wp_iald dX12_judgeDecl_141 rfl (by decide) c0 ?_
  refine wp_iconst dX12_judgeDecl_142 (by decide) ?_
  refine wp_icmp_ne (tgt := 163) dX12_judgeDecl_143 (by decide) (fun h143 => ?_) (fun h143 => ?_)
  · replace h := h.2 h143
    exact wp_vret dX12_judgeDecl_163 rfl (fun _ => h)
  · replace h := h.1 h143
    refine wp_aload_n dX12_judgeDecl_146 rfl rfl (by first | exact Or.inl (by decide) | exact Or.inl (by omega) | exact Or.inr (by decide) | exact Or.inr (by omega)) ?_
    refine wp_iload_n dX12_judgeDecl_147 rfl rfl ?_
    refine wp_ldc2 (x := (-1)) dX12_judgeDecl_148 cX12_526 (by decide) ?_
    refine wp_cVq (n := 2) (mt' := mX12_isDoubled) (as := [vI l2, vL (-1)]) (rest := []) _ dX12_judgeDecl_151 lX12_522 kX12_isDoubled vX12_isDoubled (by decide) (by decide +kernel) rfl (Nat.le_of_ble_eq_true rfl) (by decide) rfl rfl rfl (Nat.le_of_ble_eq_true rfl) (fun hM hS => h) (fun r M' hq hM => ?_)
    obtain ⟨x151, m151, n151, rfl, rfl, h⟩ := rI_out hq
    refine wp_if_eq (tgt := 163) dX12_judgeDecl_154 (by decide) (fun h154 => ?_) (fun h154 => ?_)
    · replace h := h.1 h154
      exact wp_vret dX12_judgeDecl_163 rfl (fun _ => h)
    · replace h := h.2 h154
      refine wp_aload_n dX12_judgeDecl_157 rfl rfl (by first | exact Or.inl (by decide) | exact Or.inl (by omega) | exact Or.inr (by decide) | exact Or.inr (by omega)) ?_
      refine wp_iconst dX12_judgeDecl_158 (by decide) ?_
      refine wp_iload_n dX12_judgeDecl_159 rfl rfl ?_
      refine wp_cVq (n := 2) (mt' := mX12_tellFinding) (as := [vI 3, vI l1]) (rest := []) _ dX12_judgeDecl_160 lX12_519 kX12_tellFinding vX12_tellFinding (by decide) (by decide +kernel) rfl (Nat.le_of_ble_eq_true rfl) (by decide) rfl rfl rfl (Nat.le_of_ble_eq_true rfl) (fun hM hS => h) (fun r M' hq hM => ?_)
      obtain ⟨m160, n160, rfl, rfl, h⟩ := rV_out hq
      exact wp_vret dX12_judgeDecl_163 rfl (fun _ => h)
theorem dX12_isName_0 : decode cX12_isName 0 = .ok (.iload_n 2, 1) := by decide +kernel
theorem dX12_isName_1 : decode cX12_isName 1 = .ok (.i2l, 1) := by decide +kernel
theorem dX12_isName_2 : decode cX12_isName 2 = .ok (.lconst 1, 1) := by decide +kernel
theorem dX12_isName_3 : decode cX12_isName 3 = .ok (.ldc2_w 528, 3) := by decide +kernel
theorem dX12_isName_6 : decode cX12_isName 6 = .ok (.invokestatic 256, 3) := by decide +kernel
theorem dX12_isName_9 : decode cX12_isName 9 = .ok (.ifCond .eq 19, 3) := by decide +kernel
theorem dX12_isName_12 : decode cX12_isName 12 = .ok (.aload_n 0, 1) := by decide +kernel
theorem dX12_isName_13 : decode cX12_isName 13 = .ok (.getfield 55, 3) := by decide +kernel
theorem dX12_isName_16 : decode cX12_isName 16 = .ok (.iload_n 1, 1) := by decide +kernel
theorem dX12_isName_17 : decode cX12_isName 17 = .ok (.baload, 1) := by decide +kernel
theorem dX12_isName_18 : decode cX12_isName 18 = .ok (.invokestatic 268, 3) := by decide +kernel
theorem dX12_isName_21 : decode cX12_isName 21 = .ok (.ifCond .eq 7, 3) := by decide +kernel
theorem dX12_isName_24 : decode cX12_isName 24 = .ok (.iconst 1, 1) := by decide +kernel
theorem dX12_isName_25 : decode cX12_isName 25 = .ok (.goto 4, 3) := by decide +kernel
theorem dX12_isName_28 : decode cX12_isName 28 = .ok (.iconst 0, 1) := by decide +kernel
theorem dX12_isName_29 : decode cX12_isName 29 = .ok (.istore_n 3, 1) := by decide +kernel
theorem dX12_isName_30 : decode cX12_isName 30 = .ok (.iconst 1, 1) := by decide +kernel
theorem dX12_isName_31 : decode cX12_isName 31 = .ok (.istore 4, 2) := by decide +kernel
theorem dX12_isName_33 : decode cX12_isName 33 = .ok (.iload 4, 2) := by decide +kernel
theorem dX12_isName_35 : decode cX12_isName 35 = .ok (.iload_n 2, 1) := by decide +kernel
theorem dX12_isName_36 : decode cX12_isName 36 = .ok (.if_icmp .ge 26, 3) := by decide +kernel
theorem dX12_isName_39 : decode cX12_isName 39 = .ok (.iload_n 3, 1) := by decide +kernel
theorem dX12_isName_40 : decode cX12_isName 40 = .ok (.ifCond .eq 22, 3) := by decide +kernel
theorem dX12_isName_43 : decode cX12_isName 43 = .ok (.aload_n 0, 1) := by decide +kernel
theorem dX12_isName_44 : decode cX12_isName 44 = .ok (.getfield 55, 3) := by decide +kernel
theorem dX12_isName_47 : decode cX12_isName 47 = .ok (.iload_n 1, 1) := by decide +kernel
theorem dX12_isName_48 : decode cX12_isName 48 = .ok (.iload 4, 2) := by decide +kernel
theorem dX12_isName_50 : decode cX12_isName 50 = .ok (.iadd, 1) := by decide +kernel
theorem dX12_isName_51 : decode cX12_isName 51 = .ok (.baload, 1) := by decide +kernel
theorem dX12_isName_52 : decode cX12_isName 52 = .ok (.invokestatic 303, 3) := by decide +kernel
theorem dX12_isName_55 : decode cX12_isName 55 = .ok (.istore_n 3, 1) := by decide +kernel
theorem dX12_isName_56 : decode cX12_isName 56 = .ok (.iinc 4 1, 3) := by decide +kernel
theorem dX12_isName_59 : decode cX12_isName 59 = .ok (.goto (-26), 3) := by decide +kernel
theorem dX12_isName_62 : decode cX12_isName 62 = .ok (.iload_n 3, 1) := by decide +kernel
theorem dX12_isName_63 : decode cX12_isName 63 = .ok (.ireturn, 1) := by decide +kernel
theorem v_X12_isName_0 {cs : Cs} {Q : Option AV → Mm → Prop} {MI ML : Nat → Nat → Int} {d e nw th x : Nat} {l1 l2 : Int}
    (h : wp cs mX12_in KD (rI (GR d e nw th x) fun x6 m6 n6 => ((x6 = 0 → wp cs mX12_isName KD Q 33 [some (vR 124), some (vI l1), some (vI l2), some (vI 0), some (vI 1)] [] (KD, m6, n6, (GR d e nw th x))) ∧ (x6 ≠ 0 → (0 ≤ l1 ∧ l1 < 4000) ∧ wp cs mX12_isFirst KD (rI (GR d e nw th x) fun x18 m18 n18 => ((x18 = 0 → wp cs mX12_isName KD Q 33 [some (vR 124), some (vI l1), some (vI l2), some (vI 0), some (vI 1)] [] (KD, m18, n18, (GR d e nw th x))) ∧ (x18 ≠ 0 → wp cs mX12_isName KD Q 33 [some (vR 124), some (vI l1), some (vI l2), some (vI 1), some (vI 1)] [] (KD, m18, n18, (GR d e nw th x))))) 0 (padL [vI (m6 138 l1.toNat)] 1) [] (KD, m6, n6, (GR d e nw th x))))) 0 (padL [vL l2, vL 1, vL 20] 6) [] (KD, MI, ML, (GR d e nw th x))) :
    wp cs mX12_isName KD Q 0 (padL [vR 124, vI l1, vI l2] 5) [] (KD, MI, ML, (GR d e nw th x)) := by
  refine wp_L (L' := [some (vR 124), some (vI l1), some (vI l2), none, none]) rfl ?_
  refine wp_iload_n dX12_isName_0 rfl rfl ?_
  refine wp_i2l dX12_isName_1 ?_
  refine wp_lconst (z := 1) dX12_isName_2 (by decide +kernel) (by decide) ?_
  refine wp_ldc2 (x := 20) dX12_isName_3 cX12_528 (by decide) ?_
  refine wp_cSq (n := 3) (mt' := mX12_in) (as := [vL l2, vL 1, vL 20]) (rest := []) _ dX12_isName_6 lX12_256 kX12_in vX12_in (by decide) (by decide +kernel) rfl (Nat.le_of_ble_eq_true rfl) rfl (Nat.le_of_ble_eq_true rfl) (fun hM hS => h) (fun r M' hq hM => ?_)
  obtain ⟨x6, m6, n6, rfl, rfl, h⟩ := rI_out hq
  refine wp_if_eq (tgt := 28) dX12_isName_9 (by decide) (fun h9 => ?_) (fun h9 => ?_)
  · replace h := h.1 h9
    refine wp_iconst dX12_isName_28 (by decide) ?_
    refine wp_istore_n dX12_isName_29 rfl (by decide) (wp_L (L' := [some (vR 124), some (vI l1), some (vI l2), some (vI 0), none]) rfl ?_)
    refine wp_iconst dX12_isName_30 (by decide) ?_
    refine wp_istore dX12_isName_31 (by decide) (wp_L (L' := [some (vR 124), some (vI l1), some (vI l2), some (vI 0), some (vI 1)]) rfl ?_)
    exact h
  · replace h := h.2 h9
    refine wp_aload_n dX12_isName_12 rfl rfl (by first | exact Or.inl (by decide) | exact Or.inl (by omega) | exact Or.inr (by decide) | exact Or.inr (by omega)) ?_
    refine wp_getR dX12_isName_13 fX12_55 rfl (by decide) ?_
    refine wp_topR (x' := 138) rfl ?_
    refine wp_iload_n dX12_isName_16 rfl rfl ?_
    have c0 := h.1
    replace h := h.2
    refine wp_bald dX12_isName_17 rfl (by decide) c0 ?_
    refine wp_cSq (n := 1) (mt' := mX12_isFirst) (as := [vI (m6 138 l1.toNat)]) (rest := []) _ dX12_isName_18 lX12_268 kX12_isFirst vX12_isFirst (by decide) (by decide +kernel) rfl (Nat.le_of_ble_eq_true rfl) rfl (Nat.le_of_ble_eq_true rfl) (fun hM hS => h) (fun r M' hq hM => ?_)
    obtain ⟨x18, m18, n18, rfl, rfl, h⟩ := rI_out hq
    refine wp_if_eq (tgt := 28) dX12_isName_21 (by decide) (fun h21 => ?_) (fun h21 => ?_)
    · replace h := h.1 h21
      refine wp_iconst dX12_isName_28 (by decide) ?_
      refine wp_istore_n dX12_isName_29 rfl (by decide) (wp_L (L' := [some (vR 124), some (vI l1), some (vI l2), some (vI 0), none]) rfl ?_)
      refine wp_iconst dX12_isName_30 (by decide) ?_
      refine wp_istore dX12_isName_31 (by decide) (wp_L (L' := [some (vR 124), some (vI l1), some (vI l2), some (vI 0), some (vI 1)]) rfl ?_)
      exact h
    · replace h := h.2 h21
      refine wp_iconst dX12_isName_24 (by decide) ?_
      refine wp_goto (tgt := 29) dX12_isName_25 (by decide) ?_
      refine wp_istore_n dX12_isName_29 rfl (by decide) (wp_L (L' := [some (vR 124), some (vI l1), some (vI l2), some (vI 1), none]) rfl ?_)
      refine wp_iconst dX12_isName_30 (by decide) ?_
      refine wp_istore dX12_isName_31 (by decide) (wp_L (L' := [some (vR 124), some (vI l1), some (vI l2), some (vI 1), some (vI 1)]) rfl ?_)
      exact h
theorem v_X12_isName_33 {cs : Cs} {Q : Option AV → Mm → Prop} {MI ML : Nat → Nat → Int} {d e nw th x : Nat} {l1 l2 l3 l4 : Int}
    (h : ((l4 < l2 → ((l3 = 0 → (l3 = 0 ∨ l3 = 1) ∧ Q (some (vI l3)) (MI, ML, (GR d e nw th x))) ∧ (l3 ≠ 0 → (-2147483648 ≤ l1 + l4 ∧ l1 + l4 < 2147483648) ∧ (0 ≤ (l1 + l4) ∧ (l1 + l4) < 4000) ∧ wp cs mX12_isNext KD (rI (GR d e nw th x) fun x52 m52 n52 => (-2147483648 ≤ l4 + 1 ∧ l4 + 1 < 2147483648) ∧ wp cs mX12_isName KD Q 33 [some (vR 124), some (vI l1), some (vI l2), some (vI x52), some (vI (l4 + 1))] [] (KD, m52, n52, (GR d e nw th x))) 0 (padL [vI (MI 138 (l1 + l4).toNat)] 1) [] (KD, MI, ML, (GR d e nw th x))))) ∧ (l2 ≤ l4 → (l3 = 0 ∨ l3 = 1) ∧ Q (some (vI l3)) (MI, ML, (GR d e nw th x))))) :
    wp cs mX12_isName KD Q 33 [some (vR 124), some (vI l1), some (vI l2), some (vI l3), some (vI l4)] [] (KD, MI, ML, (GR d e nw th x)) := by
  refine wp_iload dX12_isName_33 rfl ?_
  refine wp_iload_n dX12_isName_35 rfl rfl ?_
  refine wp_icmp_ge (tgt := 62) dX12_isName_36 (by decide) (fun h36 => ?_) (fun h36 => ?_)
  · replace h := h.2 h36
    refine wp_iload_n dX12_isName_62 rfl rfl ?_
    exact wp_zret dX12_isName_63 rfl h.1 (fun _ => h.2)
  · replace h := h.1 h36
    refine wp_iload_n dX12_isName_39 rfl rfl ?_
    refine wp_if_eq (tgt := 62) dX12_isName_40 (by decide) (fun h40 => ?_) (fun h40 => ?_)
    · replace h := h.1 h40
      refine wp_iload_n dX12_isName_62 rfl rfl ?_
      exact wp_zret dX12_isName_63 rfl h.1 (fun _ => h.2)
    · replace h := h.2 h40
      refine wp_aload_n dX12_isName_43 rfl rfl (by first | exact Or.inl (by decide) | exact Or.inl (by omega) | exact Or.inr (by decide) | exact Or.inr (by omega)) ?_
      refine wp_getR dX12_isName_44 fX12_55 rfl (by decide) ?_
      refine wp_topR (x' := 138) rfl ?_
      refine wp_iload_n dX12_isName_47 rfl rfl ?_
      refine wp_iload dX12_isName_48 rfl ?_
      have c0 := h.1
      replace h := h.2
      refine wp_iaddr dX12_isName_50 c0 ?_
      have c1 := h.1
      replace h := h.2
      refine wp_bald dX12_isName_51 rfl (by decide) c1 ?_
      refine wp_cSq (n := 1) (mt' := mX12_isNext) (as := [vI (MI 138 (l1 + l4).toNat)]) (rest := []) _ dX12_isName_52 lX12_303 kX12_isNext vX12_isNext (by decide) (by decide +kernel) rfl (Nat.le_of_ble_eq_true rfl) rfl (Nat.le_of_ble_eq_true rfl) (fun hM hS => h) (fun r M' hq hM => ?_)
      obtain ⟨x52, m52, n52, rfl, rfl, h⟩ := rI_out hq
      refine wp_istore_n dX12_isName_55 rfl (by decide) (wp_L (L' := [some (vR 124), some (vI l1), some (vI l2), some (vI x52), some (vI l4)]) rfl ?_)
      have c2 := h.1
      replace h := h.2
      refine wp_iincr dX12_isName_56 rfl (by decide) c2 (wp_L (L' := [some (vR 124), some (vI l1), some (vI l2), some (vI x52), some (vI (l4 + 1))]) rfl ?_)
      refine wp_goto (tgt := 33) dX12_isName_59 (by decide) ?_
      exact h
theorem dX12_isOf_0 : decode cX12_isOf 0 = .ok (.aload_n 0, 1) := by decide +kernel
theorem dX12_isOf_1 : decode cX12_isOf 1 = .ok (.getfield 119, 3) := by decide +kernel
theorem dX12_isOf_4 : decode cX12_isOf 4 = .ok (.iload_n 1, 1) := by decide +kernel
theorem dX12_isOf_5 : decode cX12_isOf 5 = .ok (.iaload, 1) := by decide +kernel
theorem dX12_isOf_6 : decode cX12_isOf 6 = .ok (.ifCond .ne 5, 3) := by decide +kernel
theorem dX12_isOf_9 : decode cX12_isOf 9 = .ok (.iconst 1, 1) := by decide +kernel
theorem dX12_isOf_10 : decode cX12_isOf 10 = .ok (.ireturn, 1) := by decide +kernel
theorem dX12_isOf_11 : decode cX12_isOf 11 = .ok (.aload_n 0, 1) := by decide +kernel
theorem dX12_isOf_12 : decode cX12_isOf 12 = .ok (.getfield 119, 3) := by decide +kernel
theorem dX12_isOf_15 : decode cX12_isOf 15 = .ok (.iload_n 1, 1) := by decide +kernel
theorem dX12_isOf_16 : decode cX12_isOf 16 = .ok (.iaload, 1) := by decide +kernel
theorem dX12_isOf_17 : decode cX12_isOf 17 = .ok (.iconst 1, 1) := by decide +kernel
theorem dX12_isOf_18 : decode cX12_isOf 18 = .ok (.if_icmp .ne 10, 3) := by decide +kernel
theorem dX12_isOf_21 : decode cX12_isOf 21 = .ok (.aload_n 0, 1) := by decide +kernel
theorem dX12_isOf_22 : decode cX12_isOf 22 = .ok (.iload_n 2, 1) := by decide +kernel
theorem dX12_isOf_23 : decode cX12_isOf 23 = .ok (.iload_n 3, 1) := by decide +kernel
theorem dX12_isOf_24 : decode cX12_isOf 24 = .ok (.invokevirtual 530, 3) := by decide +kernel
theorem dX12_isOf_27 : decode cX12_isOf 27 = .ok (.ireturn, 1) := by decide +kernel
theorem dX12_isOf_28 : decode cX12_isOf 28 = .ok (.bipush 8, 2) := by decide +kernel
theorem dX12_isOf_30 : decode cX12_isOf 30 = .ok (.iload_n 1, 1) := by decide +kernel
theorem dX12_isOf_31 : decode cX12_isOf 31 = .ok (.imul, 1) := by decide +kernel
theorem dX12_isOf_32 : decode cX12_isOf 32 = .ok (.istore 4, 2) := by decide +kernel
theorem dX12_isOf_34 : decode cX12_isOf 34 = .ok (.iload 4, 2) := by decide +kernel
theorem dX12_isOf_36 : decode cX12_isOf 36 = .ok (.bipush 8, 2) := by decide +kernel
theorem dX12_isOf_38 : decode cX12_isOf 38 = .ok (.iload_n 1, 1) := by decide +kernel
theorem dX12_isOf_39 : decode cX12_isOf 39 = .ok (.imul, 1) := by decide +kernel
theorem dX12_isOf_40 : decode cX12_isOf 40 = .ok (.aload_n 0, 1) := by decide +kernel
theorem dX12_isOf_41 : decode cX12_isOf 41 = .ok (.getfield 131, 3) := by decide +kernel
theorem dX12_isOf_44 : decode cX12_isOf 44 = .ok (.iload_n 1, 1) := by decide +kernel
theorem dX12_isOf_45 : decode cX12_isOf 45 = .ok (.iaload, 1) := by decide +kernel
theorem dX12_isOf_46 : decode cX12_isOf 46 = .ok (.iadd, 1) := by decide +kernel
theorem dX12_isOf_47 : decode cX12_isOf 47 = .ok (.if_icmp .ge 88, 3) := by decide +kernel
theorem dX12_isOf_50 : decode cX12_isOf 50 = .ok (.aload_n 0, 1) := by decide +kernel
theorem dX12_isOf_51 : decode cX12_isOf 51 = .ok (.getfield 137, 3) := by decide +kernel
theorem dX12_isOf_54 : decode cX12_isOf 54 = .ok (.iload 4, 2) := by decide +kernel
theorem dX12_isOf_56 : decode cX12_isOf 56 = .ok (.iaload, 1) := by decide +kernel
theorem dX12_isOf_57 : decode cX12_isOf 57 = .ok (.iload_n 3, 1) := by decide +kernel
theorem dX12_isOf_58 : decode cX12_isOf 58 = .ok (.if_icmp .ne 7, 3) := by decide +kernel
theorem dX12_isOf_61 : decode cX12_isOf 61 = .ok (.iconst 1, 1) := by decide +kernel
theorem dX12_isOf_62 : decode cX12_isOf 62 = .ok (.goto 4, 3) := by decide +kernel
theorem dX12_isOf_65 : decode cX12_isOf 65 = .ok (.iconst 0, 1) := by decide +kernel
theorem dX12_isOf_66 : decode cX12_isOf 66 = .ok (.istore 5, 2) := by decide +kernel
theorem dX12_isOf_68 : decode cX12_isOf 68 = .ok (.iconst 0, 1) := by decide +kernel
theorem dX12_isOf_69 : decode cX12_isOf 69 = .ok (.istore 6, 2) := by decide +kernel
theorem dX12_isOf_71 : decode cX12_isOf 71 = .ok (.iload 6, 2) := by decide +kernel
theorem dX12_isOf_73 : decode cX12_isOf 73 = .ok (.iload_n 3, 1) := by decide +kernel
theorem dX12_isOf_74 : decode cX12_isOf 74 = .ok (.if_icmp .ge 48, 3) := by decide +kernel
theorem dX12_isOf_77 : decode cX12_isOf 77 = .ok (.iload 5, 2) := by decide +kernel
theorem dX12_isOf_79 : decode cX12_isOf 79 = .ok (.ifCond .eq 43, 3) := by decide +kernel
theorem dX12_isOf_82 : decode cX12_isOf 82 = .ok (.aload_n 0, 1) := by decide +kernel
theorem dX12_isOf_83 : decode cX12_isOf 83 = .ok (.getfield 24, 3) := by decide +kernel
theorem dX12_isOf_86 : decode cX12_isOf 86 = .ok (.aload_n 0, 1) := by decide +kernel
theorem dX12_isOf_87 : decode cX12_isOf 87 = .ok (.getfield 134, 3) := by decide +kernel
theorem dX12_isOf_90 : decode cX12_isOf 90 = .ok (.iload 4, 2) := by decide +kernel
theorem dX12_isOf_92 : decode cX12_isOf 92 = .ok (.iaload, 1) := by decide +kernel
theorem dX12_isOf_93 : decode cX12_isOf 93 = .ok (.iload 6, 2) := by decide +kernel
theorem dX12_isOf_95 : decode cX12_isOf 95 = .ok (.iadd, 1) := by decide +kernel
theorem dX12_isOf_96 : decode cX12_isOf 96 = .ok (.baload, 1) := by decide +kernel
theorem dX12_isOf_97 : decode cX12_isOf 97 = .ok (.aload_n 0, 1) := by decide +kernel
theorem dX12_isOf_98 : decode cX12_isOf 98 = .ok (.getfield 55, 3) := by decide +kernel
theorem dX12_isOf_101 : decode cX12_isOf 101 = .ok (.iload_n 2, 1) := by decide +kernel
theorem dX12_isOf_102 : decode cX12_isOf 102 = .ok (.iload 6, 2) := by decide +kernel
theorem dX12_isOf_104 : decode cX12_isOf 104 = .ok (.iadd, 1) := by decide +kernel
theorem dX12_isOf_105 : decode cX12_isOf 105 = .ok (.baload, 1) := by decide +kernel
theorem dX12_isOf_106 : decode cX12_isOf 106 = .ok (.if_icmp .ne 7, 3) := by decide +kernel
theorem dX12_isOf_109 : decode cX12_isOf 109 = .ok (.iconst 1, 1) := by decide +kernel
theorem dX12_isOf_110 : decode cX12_isOf 110 = .ok (.goto 4, 3) := by decide +kernel
theorem dX12_isOf_113 : decode cX12_isOf 113 = .ok (.iconst 0, 1) := by decide +kernel
theorem dX12_isOf_114 : decode cX12_isOf 114 = .ok (.istore 5, 2) := by decide +kernel
theorem dX12_isOf_116 : decode cX12_isOf 116 = .ok (.iinc 6 1, 3) := by decide +kernel
theorem dX12_isOf_119 : decode cX12_isOf 119 = .ok (.goto (-48), 3) := by decide +kernel
theorem dX12_isOf_122 : decode cX12_isOf 122 = .ok (.iload 5, 2) := by decide +kernel
theorem dX12_isOf_124 : decode cX12_isOf 124 = .ok (.ifCond .eq 5, 3) := by decide +kernel
theorem dX12_isOf_127 : decode cX12_isOf 127 = .ok (.iconst 1, 1) := by decide +kernel
theorem dX12_isOf_128 : decode cX12_isOf 128 = .ok (.ireturn, 1) := by decide +kernel
theorem dX12_isOf_129 : decode cX12_isOf 129 = .ok (.iinc 4 1, 3) := by decide +kernel
theorem dX12_isOf_132 : decode cX12_isOf 132 = .ok (.goto (-98), 3) := by decide +kernel
theorem dX12_isOf_135 : decode cX12_isOf 135 = .ok (.iconst 0, 1) := by decide +kernel
theorem dX12_isOf_136 : decode cX12_isOf 136 = .ok (.ireturn, 1) := by decide +kernel
theorem v_X12_isOf_0 {cs : Cs} {Q : Option AV → Mm → Prop} {MI ML : Nat → Nat → Int} {d e nw th x : Nat} {l1 l2 l3 : Int}
    (h : (0 ≤ l1 ∧ l1 < 1600) ∧ (((MI 159 l1.toNat) = 0 → Q (some (vI 1)) (MI, ML, (GR d e nw th x))) ∧ ((MI 159 l1.toNat) ≠ 0 → (((MI 159 l1.toNat) = 1 → wp cs mX12_isName KD (rI (GR d e nw th x) fun x24 m24 n24 => (x24 = 0 ∨ x24 = 1) ∧ Q (some (vI x24)) (m24, n24, (GR d e nw th x))) 0 (padL [vR 124, vI l2, vI l3] 5) [] (KD, MI, ML, (GR d e nw th x))) ∧ ((MI 159 l1.toNat) ≠ 1 → (-2147483648 ≤ 8 * l1 ∧ 8 * l1 < 2147483648) ∧ wp cs mX12_isOf KD Q 34 [some (vR 124), some (vI l1), some (vI l2), some (vI l3), some (vI (8 * l1)), none, none] [] (KD, MI, ML, (GR d e nw th x))))))) :
    wp cs mX12_isOf KD Q 0 (padL [vR 124, vI l1, vI l2, vI l3] 7) [] (KD, MI, ML, (GR d e nw th x)) := by
  refine wp_L (L' := [some (vR 124), some (vI l1), some (vI l2), some (vI l3), none, none, none]) rfl ?_
  refine wp_aload_n dX12_isOf_0 rfl rfl (by first | exact Or.inl (by decide) | exact Or.inl (by omega) | exact Or.inr (by decide) | exact Or.inr (by omega)) ?_
  refine wp_getR dX12_isOf_1 fX12_119 rfl (by decide) ?_
  refine wp_topR (x' := 159) rfl ?_
  refine wp_iload_n dX12_isOf_4 rfl rfl ?_
  have c0 := h.1
  replace h := h.2
  refine wp_iald dX12_isOf_5 rfl (by decide) c0 ?_
  refine wp_if_ne (tgt := 11) dX12_isOf_6 (by decide) (fun h6 => ?_) (fun h6 => ?_)
  · replace h := h.2 h6
    refine wp_aload_n dX12_isOf_11 rfl rfl (by first | exact Or.inl (by decide) | exact Or.inl (by omega) | exact Or.inr (by decide) | exact Or.inr (by omega)) ?_
    refine wp_getR dX12_isOf_12 fX12_119 rfl (by decide) ?_
    refine wp_topR (x' := 159) rfl ?_
    refine wp_iload_n dX12_isOf_15 rfl rfl ?_
    refine wp_iald dX12_isOf_16 rfl (by decide) c0 ?_
    refine wp_iconst dX12_isOf_17 (by decide) ?_
    refine wp_icmp_ne (tgt := 28) dX12_isOf_18 (by decide) (fun h18 => ?_) (fun h18 => ?_)
    · replace h := h.2 h18
      refine wp_bipush dX12_isOf_28 (by decide +kernel) (by decide) ?_
      refine wp_iload_n dX12_isOf_30 rfl rfl ?_
      have c1 := h.1
      replace h := h.2
      refine wp_imulr dX12_isOf_31 c1 ?_
      refine wp_istore dX12_isOf_32 (by decide) (wp_L (L' := [some (vR 124), some (vI l1), some (vI l2), some (vI l3), some (vI (8 * l1)), none, none]) rfl ?_)
      exact h
    · replace h := h.1 h18
      refine wp_aload_n dX12_isOf_21 rfl rfl (by first | exact Or.inl (by decide) | exact Or.inl (by omega) | exact Or.inr (by decide) | exact Or.inr (by omega)) ?_
      refine wp_iload_n dX12_isOf_22 rfl rfl ?_
      refine wp_iload_n dX12_isOf_23 rfl rfl ?_
      refine wp_cVq (n := 2) (mt' := mX12_isName) (as := [vI l2, vI l3]) (rest := []) _ dX12_isOf_24 lX12_530 kX12_isName vX12_isName (by decide) (by decide +kernel) rfl (Nat.le_of_ble_eq_true rfl) (by decide) rfl rfl rfl (Nat.le_of_ble_eq_true rfl) (fun hM hS => h) (fun r M' hq hM => ?_)
      obtain ⟨x24, m24, n24, rfl, rfl, h⟩ := rI_out hq
      exact wp_zret dX12_isOf_27 rfl h.1 (fun _ => h.2)
  · replace h := h.1 h6
    refine wp_iconst dX12_isOf_9 (by decide) ?_
    exact wp_zret dX12_isOf_10 rfl (by decide) (fun _ => h)
theorem v_X12_isOf_34 {cs : Cs} {Q : Option AV → Mm → Prop} {MI ML : Nat → Nat → Int} {d e nw th x : Nat} {l1 l2 l3 l4 : Int}
    (h : (-2147483648 ≤ 8 * l1 ∧ 8 * l1 < 2147483648) ∧ (0 ≤ l1 ∧ l1 < 1600) ∧ (-2147483648 ≤ (8 * l1) + (MI 163 l1.toNat) ∧ (8 * l1) + (MI 163 l1.toNat) < 2147483648) ∧ ((l4 < ((8 * l1) + (MI 163 l1.toNat)) → (0 ≤ l4 ∧ l4 < 12800) ∧ (((MI 165 l4.toNat) = l3 → wp cs mX12_isOf KD Q 71 [some (vR 124), some (vI l1), some (vI l2), some (vI l3), some (vI l4), some (vI 1), some (vI 0)] [] (KD, MI, ML, (GR d e nw th x))) ∧ ((MI 165 l4.toNat) ≠ l3 → wp cs mX12_isOf KD Q 71 [some (vR 124), some (vI l1), some (vI l2), some (vI l3), some (vI l4), some (vI 0), some (vI 0)] [] (KD, MI, ML, (GR d e nw th x))))) ∧ (((8 * l1) + (MI 163 l1.toNat)) ≤ l4 → Q (some (vI 0)) (MI, ML, (GR d e nw th x))))) :
    wp cs mX12_isOf KD Q 34 [some (vR 124), some (vI l1), some (vI l2), some (vI l3), some (vI l4), none, none] [] (KD, MI, ML, (GR d e nw th x)) := by
  refine wp_iload dX12_isOf_34 rfl ?_
  refine wp_bipush dX12_isOf_36 (by decide +kernel) (by decide) ?_
  refine wp_iload_n dX12_isOf_38 rfl rfl ?_
  have c0 := h.1
  replace h := h.2
  refine wp_imulr dX12_isOf_39 c0 ?_
  refine wp_aload_n dX12_isOf_40 rfl rfl (by first | exact Or.inl (by decide) | exact Or.inl (by omega) | exact Or.inr (by decide) | exact Or.inr (by omega)) ?_
  refine wp_getR dX12_isOf_41 fX12_131 rfl (by decide) ?_
  refine wp_topR (x' := 163) rfl ?_
  refine wp_iload_n dX12_isOf_44 rfl rfl ?_
  refine wp_pc (pc' := 45) rfl ?_
  have c1 := h.1
  replace h := h.2
  refine wp_iald dX12_isOf_45 rfl (by decide) c1 ?_
  have c2 := h.1
  replace h := h.2
  refine wp_iaddr dX12_isOf_46 c2 ?_
  refine wp_icmp_ge (tgt := 135) dX12_isOf_47 (by decide) (fun h47 => ?_) (fun h47 => ?_)
  · replace h := h.2 h47
    refine wp_iconst dX12_isOf_135 (by decide) ?_
    exact wp_zret dX12_isOf_136 rfl (by decide) (fun _ => h)
  · replace h := h.1 h47
    refine wp_aload_n dX12_isOf_50 rfl rfl (by first | exact Or.inl (by decide) | exact Or.inl (by omega) | exact Or.inr (by decide) | exact Or.inr (by omega)) ?_
    refine wp_getR dX12_isOf_51 fX12_137 rfl (by decide) ?_
    refine wp_topR (x' := 165) rfl ?_
    refine wp_iload dX12_isOf_54 rfl ?_
    have c3 := h.1
    replace h := h.2
    refine wp_iald dX12_isOf_56 rfl (by decide) c3 ?_
    refine wp_iload_n dX12_isOf_57 rfl rfl ?_
    refine wp_icmp_ne (tgt := 65) dX12_isOf_58 (by decide) (fun h58 => ?_) (fun h58 => ?_)
    · replace h := h.2 h58
      refine wp_iconst dX12_isOf_65 (by decide) ?_
      refine wp_istore dX12_isOf_66 (by decide) (wp_L (L' := [some (vR 124), some (vI l1), some (vI l2), some (vI l3), some (vI l4), some (vI 0), none]) rfl ?_)
      refine wp_iconst dX12_isOf_68 (by decide) ?_
      refine wp_istore dX12_isOf_69 (by decide) (wp_L (L' := [some (vR 124), some (vI l1), some (vI l2), some (vI l3), some (vI l4), some (vI 0), some (vI 0)]) rfl ?_)
      exact h
    · replace h := h.1 h58
      refine wp_iconst dX12_isOf_61 (by decide) ?_
      refine wp_goto (tgt := 66) dX12_isOf_62 (by decide) ?_
      refine wp_istore dX12_isOf_66 (by decide) (wp_L (L' := [some (vR 124), some (vI l1), some (vI l2), some (vI l3), some (vI l4), some (vI 1), none]) rfl ?_)
      refine wp_iconst dX12_isOf_68 (by decide) ?_
      refine wp_istore dX12_isOf_69 (by decide) (wp_L (L' := [some (vR 124), some (vI l1), some (vI l2), some (vI l3), some (vI l4), some (vI 1), some (vI 0)]) rfl ?_)
      exact h
theorem v_X12_isOf_71 {cs : Cs} {Q : Option AV → Mm → Prop} {MI ML : Nat → Nat → Int} {d e nw th x : Nat} {l1 l2 l3 l4 l5 l6 : Int}
    (h : ((l6 < l3 → ((l5 = 0 → ((l5 = 0 → (-2147483648 ≤ l4 + 1 ∧ l4 + 1 < 2147483648) ∧ wp cs mX12_isOf KD Q 34 [some (vR 124), some (vI l1), some (vI l2), some (vI l3), some (vI (l4 + 1)), none, none] [] (KD, MI, ML, (GR d e nw th x))) ∧ (l5 ≠ 0 → Q (some (vI 1)) (MI, ML, (GR d e nw th x))))) ∧ (l5 ≠ 0 → (0 ≤ l4 ∧ l4 < 12800) ∧ (-2147483648 ≤ (MI 164 l4.toNat) + l6 ∧ (MI 164 l4.toNat) + l6 < 2147483648) ∧ (0 ≤ ((MI 164 l4.toNat) + l6) ∧ ((MI 164 l4.toNat) + l6) < 12000) ∧ (-2147483648 ≤ l2 + l6 ∧ l2 + l6 < 2147483648) ∧ (0 ≤ (l2 + l6) ∧ (l2 + l6) < 4000) ∧ (((MI 128 ((MI 164 l4.toNat) + l6).toNat) = (MI 138 (l2 + l6).toNat) → (-2147483648 ≤ l6 + 1 ∧ l6 + 1 < 2147483648) ∧ wp cs mX12_isOf KD Q 71 [some (vR 124), some (vI l1), some (vI l2), some (vI l3), some (vI l4), some (vI 1), some (vI (l6 + 1))] [] (KD, MI, ML, (GR d e nw th x))) ∧ ((MI 128 ((MI 164 l4.toNat) + l6).toNat) ≠ (MI 138 (l2 + l6).toNat) → (-2147483648 ≤ l6 + 1 ∧ l6 + 1 < 2147483648) ∧ wp cs mX12_isOf KD Q 71 [some (vR 124), some (vI l1), some (vI l2), some (vI l3), some (vI l4), some (vI 0), some (vI (l6 + 1))] [] (KD, MI, ML, (GR d e nw th x))))))) ∧ (l3 ≤ l6 → ((l5 = 0 → (-2147483648 ≤ l4 + 1 ∧ l4 + 1 < 2147483648) ∧ wp cs mX12_isOf KD Q 34 [some (vR 124), some (vI l1), some (vI l2), some (vI l3), some (vI (l4 + 1)), none, none] [] (KD, MI, ML, (GR d e nw th x))) ∧ (l5 ≠ 0 → Q (some (vI 1)) (MI, ML, (GR d e nw th x))))))) :
    wp cs mX12_isOf KD Q 71 [some (vR 124), some (vI l1), some (vI l2), some (vI l3), some (vI l4), some (vI l5), some (vI l6)] [] (KD, MI, ML, (GR d e nw th x)) := by
  refine wp_iload dX12_isOf_71 rfl ?_
  refine wp_iload_n dX12_isOf_73 rfl rfl ?_
  refine wp_icmp_ge (tgt := 122) dX12_isOf_74 (by decide) (fun h74 => ?_) (fun h74 => ?_)
  · replace h := h.2 h74
    refine wp_iload dX12_isOf_122 rfl ?_
    refine wp_if_eq (tgt := 129) dX12_isOf_124 (by decide) (fun h124 => ?_) (fun h124 => ?_)
    · replace h := h.1 h124
      have c0 := h.1
      replace h := h.2
      refine wp_iincr dX12_isOf_129 rfl (by decide) c0 (wp_L (L' := [some (vR 124), some (vI l1), some (vI l2), some (vI l3), some (vI (l4 + 1)), some (vI l5), some (vI l6)]) rfl ?_)
      refine wp_goto (tgt := 34) dX12_isOf_132 (by decide) ?_
      refine wp_forget (L' := [some (vR 124), some (vI l1), some (vI l2), some (vI l3), some (vI (l4 + 1)), none, none]) (by repeat' (first | exact trivial | refine ⟨rfl, ?_⟩)) ?_
      exact h
    · replace h := h.2 h124
      refine wp_iconst dX12_isOf_127 (by decide) ?_
      exact wp_zret dX12_isOf_128 rfl (by decide) (fun _ => h)
  · replace h := h.1 h74
    refine wp_iload dX12_isOf_77 rfl ?_
    refine wp_if_eq (tgt := 122) dX12_isOf_79 (by decide) (fun h79 => ?_) (fun h79 => ?_)
    · replace h := h.1 h79
      refine wp_iload dX12_isOf_122 rfl ?_
      refine wp_if_eq (tgt := 129) dX12_isOf_124 (by decide) (fun h124 => ?_) (fun h124 => ?_)
      · replace h := h.1 h124
        have c0 := h.1
        replace h := h.2
        refine wp_iincr dX12_isOf_129 rfl (by decide) c0 (wp_L (L' := [some (vR 124), some (vI l1), some (vI l2), some (vI l3), some (vI (l4 + 1)), some (vI l5), some (vI l6)]) rfl ?_)
        refine wp_goto (tgt := 34) dX12_isOf_132 (by decide) ?_
        refine wp_forget (L' := [some (vR 124), some (vI l1), some (vI l2), some (vI l3), some (vI (l4 + 1)), none, none]) (by repeat' (first | exact trivial | refine ⟨rfl, ?_⟩)) ?_
        exact h
      · replace h := h.2 h124
        refine wp_iconst dX12_isOf_127 (by decide) ?_
        exact wp_zret dX12_isOf_128 rfl (by decide) (fun _ => h)
    · replace h := h.2 h79
      refine wp_aload_n dX12_isOf_82 rfl rfl (by first | exact Or.inl (by decide) | exact Or.inl (by omega) | exact Or.inr (by decide) | exact Or.inr (by omega)) ?_
      refine wp_getR dX12_isOf_83 fX12_24 rfl (by decide) ?_
      refine wp_topR (x' := 128) rfl ?_
      refine wp_aload_n dX12_isOf_86 rfl rfl (by first | exact Or.inl (by decide) | exact Or.inl (by omega) | exact Or.inr (by decide) | exact Or.inr (by omega)) ?_
      refine wp_getR dX12_isOf_87 fX12_134 rfl (by decide) ?_
      refine wp_topR (x' := 164) rfl ?_
      refine wp_iload dX12_isOf_90 rfl ?_
      have c0 := h.1
      replace h := h.2
      refine wp_iald dX12_isOf_92 rfl (by decide) c0 ?_
      refine wp_iload dX12_isOf_93 rfl ?_
      refine wp_pc (pc' := 95) rfl ?_
      have c1 := h.1
      replace h := h.2
      refine wp_iaddr dX12_isOf_95 c1 ?_
      have c2 := h.1
      replace h := h.2
      refine wp_bald dX12_isOf_96 rfl (by decide) c2 ?_
      refine wp_aload_n dX12_isOf_97 rfl rfl (by first | exact Or.inl (by decide) | exact Or.inl (by omega) | exact Or.inr (by decide) | exact Or.inr (by omega)) ?_
      refine wp_getR dX12_isOf_98 fX12_55 rfl (by decide) ?_
      refine wp_topR (x' := 138) rfl ?_
      refine wp_iload_n dX12_isOf_101 rfl rfl ?_
      refine wp_iload dX12_isOf_102 rfl ?_
      have c3 := h.1
      replace h := h.2
      refine wp_iaddr dX12_isOf_104 c3 ?_
      have c4 := h.1
      replace h := h.2
      refine wp_bald dX12_isOf_105 rfl (by decide) c4 ?_
      refine wp_pc (pc' := 106) rfl ?_
      refine wp_icmp_ne (tgt := 113) dX12_isOf_106 (by decide) (fun h106 => ?_) (fun h106 => ?_)
      · replace h := h.2 h106
        refine wp_iconst dX12_isOf_113 (by decide) ?_
        refine wp_istore dX12_isOf_114 (by decide) (wp_L (L' := [some (vR 124), some (vI l1), some (vI l2), some (vI l3), some (vI l4), some (vI 0), some (vI l6)]) rfl ?_)
        have c5 := h.1
        replace h := h.2
        refine wp_iincr dX12_isOf_116 rfl (by decide) c5 (wp_L (L' := [some (vR 124), some (vI l1), some (vI l2), some (vI l3), some (vI l4), some (vI 0), some (vI (l6 + 1))]) rfl ?_)
        refine wp_goto (tgt := 71) dX12_isOf_119 (by decide) ?_
        exact h
      · replace h := h.1 h106
        refine wp_iconst dX12_isOf_109 (by decide) ?_
        refine wp_goto (tgt := 114) dX12_isOf_110 (by decide) ?_
        refine wp_istore dX12_isOf_114 (by decide) (wp_L (L' := [some (vR 124), some (vI l1), some (vI l2), some (vI l3), some (vI l4), some (vI 1), some (vI l6)]) rfl ?_)
        have c5 := h.1
        replace h := h.2
        refine wp_iincr dX12_isOf_116 rfl (by decide) c5 (wp_L (L' := [some (vR 124), some (vI l1), some (vI l2), some (vI l3), some (vI l4), some (vI 1), some (vI (l6 + 1))]) rfl ?_)
        refine wp_goto (tgt := 71) dX12_isOf_119 (by decide) ?_
        exact h
theorem dX12_judgeRule_0 : decode cX12_judgeRule 0 = .ok (.sipush 800, 3) := by decide +kernel
theorem dX12_judgeRule_3 : decode cX12_judgeRule 3 = .ok (.aload_n 0, 1) := by decide +kernel
theorem dX12_judgeRule_4 : decode cX12_judgeRule 4 = .ok (.getfield 482, 3) := by decide +kernel
theorem dX12_judgeRule_7 : decode cX12_judgeRule 7 = .ok (.imul, 1) := by decide +kernel
theorem dX12_judgeRule_8 : decode cX12_judgeRule 8 = .ok (.iload_n 1, 1) := by decide +kernel
theorem dX12_judgeRule_9 : decode cX12_judgeRule 9 = .ok (.iadd, 1) := by decide +kernel
theorem dX12_judgeRule_10 : decode cX12_judgeRule 10 = .ok (.istore_n 2, 1) := by decide +kernel
theorem dX12_judgeRule_11 : decode cX12_judgeRule 11 = .ok (.iconst 0, 1) := by decide +kernel
theorem dX12_judgeRule_12 : decode cX12_judgeRule 12 = .ok (.istore_n 3, 1) := by decide +kernel
theorem dX12_judgeRule_13 : decode cX12_judgeRule 13 = .ok (.sipush 800, 3) := by decide +kernel
theorem dX12_judgeRule_16 : decode cX12_judgeRule 16 = .ok (.aload_n 0, 1) := by decide +kernel
theorem dX12_judgeRule_17 : decode cX12_judgeRule 17 = .ok (.getfield 482, 3) := by decide +kernel
theorem dX12_judgeRule_20 : decode cX12_judgeRule 20 = .ok (.imul, 1) := by decide +kernel
theorem dX12_judgeRule_21 : decode cX12_judgeRule 21 = .ok (.istore 4, 2) := by decide +kernel
theorem dX12_judgeRule_23 : decode cX12_judgeRule 23 = .ok (.iload 4, 2) := by decide +kernel
theorem dX12_judgeRule_25 : decode cX12_judgeRule 25 = .ok (.iload_n 2, 1) := by decide +kernel
theorem dX12_judgeRule_26 : decode cX12_judgeRule 26 = .ok (.if_icmp .ge 63, 3) := by decide +kernel
theorem dX12_judgeRule_29 : decode cX12_judgeRule 29 = .ok (.iload_n 3, 1) := by decide +kernel
theorem dX12_judgeRule_30 : decode cX12_judgeRule 30 = .ok (.ifCond .ne 47, 3) := by decide +kernel
theorem dX12_judgeRule_33 : decode cX12_judgeRule 33 = .ok (.aload_n 0, 1) := by decide +kernel
theorem dX12_judgeRule_34 : decode cX12_judgeRule 34 = .ok (.getfield 119, 3) := by decide +kernel
theorem dX12_judgeRule_37 : decode cX12_judgeRule 37 = .ok (.iload 4, 2) := by decide +kernel
theorem dX12_judgeRule_39 : decode cX12_judgeRule 39 = .ok (.iaload, 1) := by decide +kernel
theorem dX12_judgeRule_40 : decode cX12_judgeRule 40 = .ok (.iconst 1, 1) := by decide +kernel
theorem dX12_judgeRule_41 : decode cX12_judgeRule 41 = .ok (.if_icmp .ne 40, 3) := by decide +kernel
theorem dX12_judgeRule_44 : decode cX12_judgeRule 44 = .ok (.aload_n 0, 1) := by decide +kernel
theorem dX12_judgeRule_45 : decode cX12_judgeRule 45 = .ok (.aload_n 0, 1) := by decide +kernel
theorem dX12_judgeRule_46 : decode cX12_judgeRule 46 = .ok (.getfield 107, 3) := by decide +kernel
theorem dX12_judgeRule_49 : decode cX12_judgeRule 49 = .ok (.iload 4, 2) := by decide +kernel
theorem dX12_judgeRule_51 : decode cX12_judgeRule 51 = .ok (.iaload, 1) := by decide +kernel
theorem dX12_judgeRule_52 : decode cX12_judgeRule 52 = .ok (.aload_n 0, 1) := by decide +kernel
theorem dX12_judgeRule_53 : decode cX12_judgeRule 53 = .ok (.getfield 110, 3) := by decide +kernel
theorem dX12_judgeRule_56 : decode cX12_judgeRule 56 = .ok (.iload 4, 2) := by decide +kernel
theorem dX12_judgeRule_58 : decode cX12_judgeRule 58 = .ok (.iaload, 1) := by decide +kernel
theorem dX12_judgeRule_59 : decode cX12_judgeRule 59 = .ok (.aload_n 0, 1) := by decide +kernel
theorem dX12_judgeRule_60 : decode cX12_judgeRule 60 = .ok (.getfield 107, 3) := by decide +kernel
theorem dX12_judgeRule_63 : decode cX12_judgeRule 63 = .ok (.iload_n 2, 1) := by decide +kernel
theorem dX12_judgeRule_64 : decode cX12_judgeRule 64 = .ok (.iaload, 1) := by decide +kernel
theorem dX12_judgeRule_65 : decode cX12_judgeRule 65 = .ok (.aload_n 0, 1) := by decide +kernel
theorem dX12_judgeRule_66 : decode cX12_judgeRule 66 = .ok (.getfield 110, 3) := by decide +kernel
theorem dX12_judgeRule_69 : decode cX12_judgeRule 69 = .ok (.iload_n 2, 1) := by decide +kernel
theorem dX12_judgeRule_70 : decode cX12_judgeRule 70 = .ok (.iaload, 1) := by decide +kernel
theorem dX12_judgeRule_71 : decode cX12_judgeRule 71 = .ok (.invokevirtual 412, 3) := by decide +kernel
theorem dX12_judgeRule_74 : decode cX12_judgeRule 74 = .ok (.ifCond .eq 7, 3) := by decide +kernel
theorem dX12_judgeRule_77 : decode cX12_judgeRule 77 = .ok (.iconst 1, 1) := by decide +kernel
theorem dX12_judgeRule_78 : decode cX12_judgeRule 78 = .ok (.goto 4, 3) := by decide +kernel
theorem dX12_judgeRule_81 : decode cX12_judgeRule 81 = .ok (.iconst 0, 1) := by decide +kernel
theorem dX12_judgeRule_82 : decode cX12_judgeRule 82 = .ok (.istore_n 3, 1) := by decide +kernel
theorem dX12_judgeRule_83 : decode cX12_judgeRule 83 = .ok (.iinc 4 1, 3) := by decide +kernel
theorem dX12_judgeRule_86 : decode cX12_judgeRule 86 = .ok (.goto (-63), 3) := by decide +kernel
theorem dX12_judgeRule_89 : decode cX12_judgeRule 89 = .ok (.aload_n 0, 1) := by decide +kernel
theorem dX12_judgeRule_90 : decode cX12_judgeRule 90 = .ok (.getfield 119, 3) := by decide +kernel
theorem dX12_judgeRule_93 : decode cX12_judgeRule 93 = .ok (.iload_n 2, 1) := by decide +kernel
theorem dX12_judgeRule_94 : decode cX12_judgeRule 94 = .ok (.iaload, 1) := by decide +kernel
theorem dX12_judgeRule_95 : decode cX12_judgeRule 95 = .ok (.iconst 1, 1) := by decide +kernel
theorem dX12_judgeRule_96 : decode cX12_judgeRule 96 = .ok (.if_icmp .ne 23, 3) := by decide +kernel
theorem dX12_judgeRule_99 : decode cX12_judgeRule 99 = .ok (.iload_n 3, 1) := by decide +kernel
theorem dX12_judgeRule_100 : decode cX12_judgeRule 100 = .ok (.ifCond .ne 13, 3) := by decide +kernel
theorem dX12_judgeRule_103 : decode cX12_judgeRule 103 = .ok (.aload_n 0, 1) := by decide +kernel
theorem dX12_judgeRule_104 : decode cX12_judgeRule 104 = .ok (.getfield 122, 3) := by decide +kernel
theorem dX12_judgeRule_107 : decode cX12_judgeRule 107 = .ok (.iload_n 2, 1) := by decide +kernel
theorem dX12_judgeRule_108 : decode cX12_judgeRule 108 = .ok (.iaload, 1) := by decide +kernel
theorem dX12_judgeRule_109 : decode cX12_judgeRule 109 = .ok (.iconst 2, 1) := by decide +kernel
theorem dX12_judgeRule_110 : decode cX12_judgeRule 110 = .ok (.if_icmp .lt 9, 3) := by decide +kernel
theorem dX12_judgeRule_113 : decode cX12_judgeRule 113 = .ok (.aload_n 0, 1) := by decide +kernel
theorem dX12_judgeRule_114 : decode cX12_judgeRule 114 = .ok (.iconst 4, 1) := by decide +kernel
theorem dX12_judgeRule_115 : decode cX12_judgeRule 115 = .ok (.iload_n 1, 1) := by decide +kernel
theorem dX12_judgeRule_116 : decode cX12_judgeRule 116 = .ok (.invokevirtual 519, 3) := by decide +kernel
theorem dX12_judgeRule_119 : decode cX12_judgeRule 119 = .ok (.aload_n 0, 1) := by decide +kernel
theorem dX12_judgeRule_120 : decode cX12_judgeRule 120 = .ok (.getfield 122, 3) := by decide +kernel
theorem dX12_judgeRule_123 : decode cX12_judgeRule 123 = .ok (.iload_n 2, 1) := by decide +kernel
theorem dX12_judgeRule_124 : decode cX12_judgeRule 124 = .ok (.iaload, 1) := by decide +kernel
theorem dX12_judgeRule_125 : decode cX12_judgeRule 125 = .ok (.iconst 2, 1) := by decide +kernel
theorem dX12_judgeRule_126 : decode cX12_judgeRule 126 = .ok (.if_icmp .lt 29, 3) := by decide +kernel
theorem dX12_judgeRule_129 : decode cX12_judgeRule 129 = .ok (.aload_n 0, 1) := by decide +kernel
theorem dX12_judgeRule_130 : decode cX12_judgeRule 130 = .ok (.iload_n 2, 1) := by decide +kernel
theorem dX12_judgeRule_131 : decode cX12_judgeRule 131 = .ok (.aload_n 0, 1) := by decide +kernel
theorem dX12_judgeRule_132 : decode cX12_judgeRule 132 = .ok (.getfield 125, 3) := by decide +kernel
theorem dX12_judgeRule_135 : decode cX12_judgeRule 135 = .ok (.iload_n 2, 1) := by decide +kernel
theorem dX12_judgeRule_136 : decode cX12_judgeRule 136 = .ok (.iaload, 1) := by decide +kernel
theorem dX12_judgeRule_137 : decode cX12_judgeRule 137 = .ok (.aload_n 0, 1) := by decide +kernel
theorem dX12_judgeRule_138 : decode cX12_judgeRule 138 = .ok (.getfield 128, 3) := by decide +kernel
theorem dX12_judgeRule_141 : decode cX12_judgeRule 141 = .ok (.iload_n 2, 1) := by decide +kernel
theorem dX12_judgeRule_142 : decode cX12_judgeRule 142 = .ok (.iaload, 1) := by decide +kernel
theorem dX12_judgeRule_143 : decode cX12_judgeRule 143 = .ok (.invokevirtual 534, 3) := by decide +kernel
theorem dX12_judgeRule_146 : decode cX12_judgeRule 146 = .ok (.ifCond .ne 9, 3) := by decide +kernel
theorem dX12_judgeRule_149 : decode cX12_judgeRule 149 = .ok (.aload_n 0, 1) := by decide +kernel
theorem dX12_judgeRule_150 : decode cX12_judgeRule 150 = .ok (.iconst 5, 1) := by decide +kernel
theorem dX12_judgeRule_151 : decode cX12_judgeRule 151 = .ok (.iload_n 1, 1) := by decide +kernel
theorem dX12_judgeRule_152 : decode cX12_judgeRule 152 = .ok (.invokevirtual 519, 3) := by decide +kernel
theorem dX12_judgeRule_155 : decode cX12_judgeRule 155 = .ok (.return_, 1) := by decide +kernel
theorem v_X12_judgeRule_0 {cs : Cs} {Q : Option AV → Mm → Prop} {MI ML : Nat → Nat → Int} {d e nw th x : Nat} {l1 : Int}
    (h : (-2147483648 ≤ 800 * (MI 124 7) ∧ 800 * (MI 124 7) < 2147483648) ∧ (-2147483648 ≤ (800 * (MI 124 7)) + l1 ∧ (800 * (MI 124 7)) + l1 < 2147483648) ∧ wp cs mX12_judgeRule KD Q 23 [some (vR 124), some (vI l1), some (vI ((800 * (MI 124 7)) + l1)), some (vI 0), some (vI (800 * (MI 124 7)))] [] (KD, MI, ML, (GR d e nw th x))) :
    wp cs mX12_judgeRule KD Q 0 (padL [vR 124, vI l1] 5) [] (KD, MI, ML, (GR d e nw th x)) := by
  refine wp_L (L' := [some (vR 124), some (vI l1), none, none, none]) rfl ?_
  refine wp_sipush dX12_judgeRule_0 (by decide +kernel) (by decide) ?_
  refine wp_aload_n dX12_judgeRule_3 rfl rfl (by first | exact Or.inl (by decide) | exact Or.inl (by omega) | exact Or.inr (by decide) | exact Or.inr (by omega)) ?_
  refine wp_getI dX12_judgeRule_4 fX12_482 rfl (by decide) ?_
  have c0 := h.1
  replace h := h.2
  refine wp_imulr dX12_judgeRule_7 c0 ?_
  refine wp_iload_n dX12_judgeRule_8 rfl rfl ?_
  have c1 := h.1
  replace h := h.2
  refine wp_iaddr dX12_judgeRule_9 c1 ?_
  refine wp_istore_n dX12_judgeRule_10 rfl (by decide) (wp_L (L' := [some (vR 124), some (vI l1), some (vI ((800 * (MI 124 7)) + l1)), none, none]) rfl ?_)
  refine wp_pc (pc' := 11) rfl ?_
  refine wp_iconst dX12_judgeRule_11 (by decide) ?_
  refine wp_istore_n dX12_judgeRule_12 rfl (by decide) (wp_L (L' := [some (vR 124), some (vI l1), some (vI ((800 * (MI 124 7)) + l1)), some (vI 0), none]) rfl ?_)
  refine wp_sipush dX12_judgeRule_13 (by decide +kernel) (by decide) ?_
  refine wp_aload_n dX12_judgeRule_16 rfl rfl (by first | exact Or.inl (by decide) | exact Or.inl (by omega) | exact Or.inr (by decide) | exact Or.inr (by omega)) ?_
  refine wp_getI dX12_judgeRule_17 fX12_482 rfl (by decide) ?_
  refine wp_imulr dX12_judgeRule_20 c0 ?_
  refine wp_istore dX12_judgeRule_21 (by decide) (wp_L (L' := [some (vR 124), some (vI l1), some (vI ((800 * (MI 124 7)) + l1)), some (vI 0), some (vI (800 * (MI 124 7)))]) rfl ?_)
  exact h
theorem v_X12_judgeRule_23 {cs : Cs} {Q : Option AV → Mm → Prop} {MI ML : Nat → Nat → Int} {d e nw th x : Nat} {l1 l2 l3 l4 : Int}
    (h : ((l4 < l2 → ((l3 = 0 → (0 ≤ l4 ∧ l4 < 1600) ∧ (((MI 159 l4.toNat) = 1 → (0 ≤ l2 ∧ l2 < 1600) ∧ wp cs mX12_isSame KD (rI (GR d e nw th x) fun x71 m71 n71 => ((x71 = 0 → (-2147483648 ≤ l4 + 1 ∧ l4 + 1 < 2147483648) ∧ wp cs mX12_judgeRule KD Q 23 [some (vR 124), some (vI l1), some (vI l2), some (vI 0), some (vI (l4 + 1))] [] (KD, m71, n71, (GR d e nw th x))) ∧ (x71 ≠ 0 → (-2147483648 ≤ l4 + 1 ∧ l4 + 1 < 2147483648) ∧ wp cs mX12_judgeRule KD Q 23 [some (vR 124), some (vI l1), some (vI l2), some (vI 1), some (vI (l4 + 1))] [] (KD, m71, n71, (GR d e nw th x))))) 0 (padL [vR 124, vI (MI 155 l4.toNat), vI (MI 156 l4.toNat), vI (MI 155 l2.toNat), vI (MI 156 l2.toNat)] 7) [] (KD, MI, ML, (GR d e nw th x))) ∧ ((MI 159 l4.toNat) ≠ 1 → (-2147483648 ≤ l4 + 1 ∧ l4 + 1 < 2147483648) ∧ wp cs mX12_judgeRule KD Q 23 [some (vR 124), some (vI l1), some (vI l2), some (vI 0), some (vI (l4 + 1))] [] (KD, MI, ML, (GR d e nw th x))))) ∧ (l3 ≠ 0 → (-2147483648 ≤ l4 + 1 ∧ l4 + 1 < 2147483648) ∧ wp cs mX12_judgeRule KD Q 23 [some (vR 124), some (vI l1), some (vI l2), some (vI 1), some (vI (l4 + 1))] [] (KD, MI, ML, (GR d e nw th x))))) ∧ (l2 ≤ l4 → (0 ≤ l2 ∧ l2 < 1600) ∧ (((MI 159 l2.toNat) = 1 → ((l3 = 0 → (((MI 160 l2.toNat) < 2 → wp cs mX12_judgeRule KD Q 119 [some (vR 124), some (vI l1), some (vI l2), some (vI l3), some (vI l4)] [] (KD, MI, ML, (GR d e nw th x))) ∧ (2 ≤ (MI 160 l2.toNat) → wp cs mX12_tellFinding KD (rV (GR d e nw th x) fun m116 n116 => wp cs mX12_judgeRule KD Q 119 [some (vR 124), some (vI l1), some (vI l2), some (vI l3), some (vI l4)] [] (KD, m116, n116, (GR d e nw th x))) 0 (padL [vR 124, vI 4, vI l1] 3) [] (KD, MI, ML, (GR d e nw th x))))) ∧ (l3 ≠ 0 → wp cs mX12_tellFinding KD (rV (GR d e nw th x) fun m116 n116 => wp cs mX12_judgeRule KD Q 119 [some (vR 124), some (vI l1), some (vI l2), some (vI l3), some (vI l4)] [] (KD, m116, n116, (GR d e nw th x))) 0 (padL [vR 124, vI 4, vI l1] 3) [] (KD, MI, ML, (GR d e nw th x))))) ∧ ((MI 159 l2.toNat) ≠ 1 → wp cs mX12_judgeRule KD Q 119 [some (vR 124), some (vI l1), some (vI l2), some (vI l3), some (vI l4)] [] (KD, MI, ML, (GR d e nw th x))))))) :
    wp cs mX12_judgeRule KD Q 23 [some (vR 124), some (vI l1), some (vI l2), some (vI l3), some (vI l4)] [] (KD, MI, ML, (GR d e nw th x)) := by
  refine wp_iload dX12_judgeRule_23 rfl ?_
  refine wp_iload_n dX12_judgeRule_25 rfl rfl ?_
  refine wp_icmp_ge (tgt := 89) dX12_judgeRule_26 (by decide) (fun h26 => ?_) (fun h26 => ?_)
  · replace h := h.2 h26
    refine wp_aload_n dX12_judgeRule_89 rfl rfl (by first | exact Or.inl (by decide) | exact Or.inl (by omega) | exact Or.inr (by decide) | exact Or.inr (by omega)) ?_
    refine wp_getR dX12_judgeRule_90 fX12_119 rfl (by decide) ?_
    refine wp_topR (x' := 159) rfl ?_
    refine wp_iload_n dX12_judgeRule_93 rfl rfl ?_
    have c0 := h.1
    replace h := h.2
    refine wp_iald dX12_judgeRule_94 rfl (by decide) c0 ?_
    refine wp_iconst dX12_judgeRule_95 (by decide) ?_
    refine wp_icmp_ne (tgt := 119) dX12_judgeRule_96 (by decide) (fun h96 => ?_) (fun h96 => ?_)
    · replace h := h.2 h96
      exact h
    · replace h := h.1 h96
      refine wp_iload_n dX12_judgeRule_99 rfl rfl ?_
      refine wp_if_ne (tgt := 113) dX12_judgeRule_100 (by decide) (fun h100 => ?_) (fun h100 => ?_)
      · replace h := h.2 h100
        refine wp_aload_n dX12_judgeRule_113 rfl rfl (by first | exact Or.inl (by decide) | exact Or.inl (by omega) | exact Or.inr (by decide) | exact Or.inr (by omega)) ?_
        refine wp_iconst dX12_judgeRule_114 (by decide) ?_
        refine wp_iload_n dX12_judgeRule_115 rfl rfl ?_
        refine wp_cVq (n := 2) (mt' := mX12_tellFinding) (as := [vI 4, vI l1]) (rest := []) _ dX12_judgeRule_116 lX12_519 kX12_tellFinding vX12_tellFinding (by decide) (by decide +kernel) rfl (Nat.le_of_ble_eq_true rfl) (by decide) rfl rfl rfl (Nat.le_of_ble_eq_true rfl) (fun hM hS => h) (fun r M' hq hM => ?_)
        obtain ⟨m116, n116, rfl, rfl, h⟩ := rV_out hq
        exact h
      · replace h := h.1 h100
        refine wp_aload_n dX12_judgeRule_103 rfl rfl (by first | exact Or.inl (by decide) | exact Or.inl (by omega) | exact Or.inr (by decide) | exact Or.inr (by omega)) ?_
        refine wp_getR dX12_judgeRule_104 fX12_122 rfl (by decide) ?_
        refine wp_topR (x' := 160) rfl ?_
        refine wp_iload_n dX12_judgeRule_107 rfl rfl ?_
        refine wp_iald dX12_judgeRule_108 rfl (by decide) c0 ?_
        refine wp_iconst dX12_judgeRule_109 (by decide) ?_
        refine wp_icmp_lt (tgt := 119) dX12_judgeRule_110 (by decide) (fun h110 => ?_) (fun h110 => ?_)
        · replace h := h.1 h110
          exact h
        · replace h := h.2 h110
          refine wp_aload_n dX12_judgeRule_113 rfl rfl (by first | exact Or.inl (by decide) | exact Or.inl (by omega) | exact Or.inr (by decide) | exact Or.inr (by omega)) ?_
          refine wp_iconst dX12_judgeRule_114 (by decide) ?_
          refine wp_iload_n dX12_judgeRule_115 rfl rfl ?_
          refine wp_cVq (n := 2) (mt' := mX12_tellFinding) (as := [vI 4, vI l1]) (rest := []) _ dX12_judgeRule_116 lX12_519 kX12_tellFinding vX12_tellFinding (by decide) (by decide +kernel) rfl (Nat.le_of_ble_eq_true rfl) (by decide) rfl rfl rfl (Nat.le_of_ble_eq_true rfl) (fun hM hS => h) (fun r M' hq hM => ?_)
          obtain ⟨m116, n116, rfl, rfl, h⟩ := rV_out hq
          exact h
  · replace h := h.1 h26
    refine wp_iload_n dX12_judgeRule_29 rfl rfl ?_
    refine wp_if_ne (tgt := 77) dX12_judgeRule_30 (by decide) (fun h30 => ?_) (fun h30 => ?_)
    · replace h := h.2 h30
      refine wp_iconst dX12_judgeRule_77 (by decide) ?_
      refine wp_goto (tgt := 82) dX12_judgeRule_78 (by decide) ?_
      refine wp_istore_n dX12_judgeRule_82 rfl (by decide) (wp_L (L' := [some (vR 124), some (vI l1), some (vI l2), some (vI 1), some (vI l4)]) rfl ?_)
      have c0 := h.1
      replace h := h.2
      refine wp_iincr dX12_judgeRule_83 rfl (by decide) c0 (wp_L (L' := [some (vR 124), some (vI l1), some (vI l2), some (vI 1), some (vI (l4 + 1))]) rfl ?_)
      refine wp_goto (tgt := 23) dX12_judgeRule_86 (by decide) ?_
      exact h
    · replace h := h.1 h30
      refine wp_aload_n dX12_judgeRule_33 rfl rfl (by first | exact Or.inl (by decide) | exact Or.inl (by omega) | exact Or.inr (by decide) | exact Or.inr (by omega)) ?_
      refine wp_getR dX12_judgeRule_34 fX12_119 rfl (by decide) ?_
      refine wp_topR (x' := 159) rfl ?_
      refine wp_iload dX12_judgeRule_37 rfl ?_
      have c0 := h.1
      replace h := h.2
      refine wp_iald dX12_judgeRule_39 rfl (by decide) c0 ?_
      refine wp_iconst dX12_judgeRule_40 (by decide) ?_
      refine wp_icmp_ne (tgt := 81) dX12_judgeRule_41 (by decide) (fun h41 => ?_) (fun h41 => ?_)
      · replace h := h.2 h41
        refine wp_iconst dX12_judgeRule_81 (by decide) ?_
        refine wp_istore_n dX12_judgeRule_82 rfl (by decide) (wp_L (L' := [some (vR 124), some (vI l1), some (vI l2), some (vI 0), some (vI l4)]) rfl ?_)
        have c1 := h.1
        replace h := h.2
        refine wp_iincr dX12_judgeRule_83 rfl (by decide) c1 (wp_L (L' := [some (vR 124), some (vI l1), some (vI l2), some (vI 0), some (vI (l4 + 1))]) rfl ?_)
        refine wp_goto (tgt := 23) dX12_judgeRule_86 (by decide) ?_
        exact h
      · replace h := h.1 h41
        refine wp_aload_n dX12_judgeRule_44 rfl rfl (by first | exact Or.inl (by decide) | exact Or.inl (by omega) | exact Or.inr (by decide) | exact Or.inr (by omega)) ?_
        refine wp_aload_n dX12_judgeRule_45 rfl rfl (by first | exact Or.inl (by decide) | exact Or.inl (by omega) | exact Or.inr (by decide) | exact Or.inr (by omega)) ?_
        refine wp_getR dX12_judgeRule_46 fX12_107 rfl (by decide) ?_
        refine wp_topR (x' := 155) rfl ?_
        refine wp_iload dX12_judgeRule_49 rfl ?_
        refine wp_iald dX12_judgeRule_51 rfl (by decide) c0 ?_
        refine wp_aload_n dX12_judgeRule_52 rfl rfl (by first | exact Or.inl (by decide) | exact Or.inl (by omega) | exact Or.inr (by decide) | exact Or.inr (by omega)) ?_
        refine wp_getR dX12_judgeRule_53 fX12_110 rfl (by decide) ?_
        refine wp_topR (x' := 156) rfl ?_
        refine wp_pc (pc' := 56) rfl ?_
        refine wp_iload dX12_judgeRule_56 rfl ?_
        refine wp_iald dX12_judgeRule_58 rfl (by decide) c0 ?_
        refine wp_aload_n dX12_judgeRule_59 rfl rfl (by first | exact Or.inl (by decide) | exact Or.inl (by omega) | exact Or.inr (by decide) | exact Or.inr (by omega)) ?_
        refine wp_getR dX12_judgeRule_60 fX12_107 rfl (by decide) ?_
        refine wp_topR (x' := 155) rfl ?_
        refine wp_iload_n dX12_judgeRule_63 rfl rfl ?_
        have c1 := h.1
        replace h := h.2
        refine wp_iald dX12_judgeRule_64 rfl (by decide) c1 ?_
        refine wp_aload_n dX12_judgeRule_65 rfl rfl (by first | exact Or.inl (by decide) | exact Or.inl (by omega) | exact Or.inr (by decide) | exact Or.inr (by omega)) ?_
        refine wp_getR dX12_judgeRule_66 fX12_110 rfl (by decide) ?_
        refine wp_topR (x' := 156) rfl ?_
        refine wp_pc (pc' := 69) rfl ?_
        refine wp_iload_n dX12_judgeRule_69 rfl rfl ?_
        refine wp_iald dX12_judgeRule_70 rfl (by decide) c1 ?_
        refine wp_cVq (n := 4) (mt' := mX12_isSame) (as := [vI (MI 155 l4.toNat), vI (MI 156 l4.toNat), vI (MI 155 l2.toNat), vI (MI 156 l2.toNat)]) (rest := []) _ dX12_judgeRule_71 lX12_412 kX12_isSame vX12_isSame (by decide) (by decide +kernel) rfl (Nat.le_of_ble_eq_true rfl) (by decide) rfl rfl rfl (Nat.le_of_ble_eq_true rfl) (fun hM hS => h) (fun r M' hq hM => ?_)
        obtain ⟨x71, m71, n71, rfl, rfl, h⟩ := rI_out hq
        refine wp_if_eq (tgt := 81) dX12_judgeRule_74 (by decide) (fun h74 => ?_) (fun h74 => ?_)
        · replace h := h.1 h74
          refine wp_iconst dX12_judgeRule_81 (by decide) ?_
          refine wp_istore_n dX12_judgeRule_82 rfl (by decide) (wp_L (L' := [some (vR 124), some (vI l1), some (vI l2), some (vI 0), some (vI l4)]) rfl ?_)
          have c2 := h.1
          replace h := h.2
          refine wp_iincr dX12_judgeRule_83 rfl (by decide) c2 (wp_L (L' := [some (vR 124), some (vI l1), some (vI l2), some (vI 0), some (vI (l4 + 1))]) rfl ?_)
          refine wp_goto (tgt := 23) dX12_judgeRule_86 (by decide) ?_
          exact h
        · replace h := h.2 h74
          refine wp_iconst dX12_judgeRule_77 (by decide) ?_
          refine wp_goto (tgt := 82) dX12_judgeRule_78 (by decide) ?_
          refine wp_istore_n dX12_judgeRule_82 rfl (by decide) (wp_L (L' := [some (vR 124), some (vI l1), some (vI l2), some (vI 1), some (vI l4)]) rfl ?_)
          have c2 := h.1
          replace h := h.2
          refine wp_iincr dX12_judgeRule_83 rfl (by decide) c2 (wp_L (L' := [some (vR 124), some (vI l1), some (vI l2), some (vI 1), some (vI (l4 + 1))]) rfl ?_)
          refine wp_goto (tgt := 23) dX12_judgeRule_86 (by decide) ?_
          exact h
theorem v_X12_judgeRule_119 {cs : Cs} {Q : Option AV → Mm → Prop} {MI ML : Nat → Nat → Int} {d e nw th x : Nat} {l1 l2 l3 l4 : Int}
    (h : (0 ≤ l2 ∧ l2 < 1600) ∧ (((MI 160 l2.toNat) < 2 → Q none (MI, ML, (GR d e nw th x))) ∧ (2 ≤ (MI 160 l2.toNat) → wp cs mX12_isOf KD (rI (GR d e nw th x) fun x143 m143 n143 => ((x143 = 0 → wp cs mX12_tellFinding KD (rV (GR d e nw th x) fun m152 n152 => Q none (m152, n152, (GR d e nw th x))) 0 (padL [vR 124, vI 5, vI l1] 3) [] (KD, m143, n143, (GR d e nw th x))) ∧ (x143 ≠ 0 → Q none (m143, n143, (GR d e nw th x))))) 0 (padL [vR 124, vI l2, vI (MI 161 l2.toNat), vI (MI 162 l2.toNat)] 7) [] (KD, MI, ML, (GR d e nw th x))))) :
    wp cs mX12_judgeRule KD Q 119 [some (vR 124), some (vI l1), some (vI l2), some (vI l3), some (vI l4)] [] (KD, MI, ML, (GR d e nw th x)) := by
  refine wp_aload_n dX12_judgeRule_119 rfl rfl (by first | exact Or.inl (by decide) | exact Or.inl (by omega) | exact Or.inr (by decide) | exact Or.inr (by omega)) ?_
  refine wp_getR dX12_judgeRule_120 fX12_122 rfl (by decide) ?_
  refine wp_topR (x' := 160) rfl ?_
  refine wp_iload_n dX12_judgeRule_123 rfl rfl ?_
  have c0 := h.1
  replace h := h.2
  refine wp_iald dX12_judgeRule_124 rfl (by decide) c0 ?_
  refine wp_iconst dX12_judgeRule_125 (by decide) ?_
  refine wp_icmp_lt (tgt := 155) dX12_judgeRule_126 (by decide) (fun h126 => ?_) (fun h126 => ?_)
  · replace h := h.1 h126
    exact wp_vret dX12_judgeRule_155 rfl (fun _ => h)
  · replace h := h.2 h126
    refine wp_aload_n dX12_judgeRule_129 rfl rfl (by first | exact Or.inl (by decide) | exact Or.inl (by omega) | exact Or.inr (by decide) | exact Or.inr (by omega)) ?_
    refine wp_iload_n dX12_judgeRule_130 rfl rfl ?_
    refine wp_aload_n dX12_judgeRule_131 rfl rfl (by first | exact Or.inl (by decide) | exact Or.inl (by omega) | exact Or.inr (by decide) | exact Or.inr (by omega)) ?_
    refine wp_getR dX12_judgeRule_132 fX12_125 rfl (by decide) ?_
    refine wp_topR (x' := 161) rfl ?_
    refine wp_iload_n dX12_judgeRule_135 rfl rfl ?_
    refine wp_iald dX12_judgeRule_136 rfl (by decide) c0 ?_
    refine wp_aload_n dX12_judgeRule_137 rfl rfl (by first | exact Or.inl (by decide) | exact Or.inl (by omega) | exact Or.inr (by decide) | exact Or.inr (by omega)) ?_
    refine wp_pc (pc' := 138) rfl ?_
    refine wp_getR dX12_judgeRule_138 fX12_128 rfl (by decide) ?_
    refine wp_topR (x' := 162) rfl ?_
    refine wp_iload_n dX12_judgeRule_141 rfl rfl ?_
    refine wp_iald dX12_judgeRule_142 rfl (by decide) c0 ?_
    refine wp_cVq (n := 3) (mt' := mX12_isOf) (as := [vI l2, vI (MI 161 l2.toNat), vI (MI 162 l2.toNat)]) (rest := []) _ dX12_judgeRule_143 lX12_534 kX12_isOf vX12_isOf (by decide) (by decide +kernel) rfl (Nat.le_of_ble_eq_true rfl) (by decide) rfl rfl rfl (Nat.le_of_ble_eq_true rfl) (fun hM hS => h) (fun r M' hq hM => ?_)
    obtain ⟨x143, m143, n143, rfl, rfl, h⟩ := rI_out hq
    refine wp_if_ne (tgt := 155) dX12_judgeRule_146 (by decide) (fun h146 => ?_) (fun h146 => ?_)
    · replace h := h.2 h146
      exact wp_vret dX12_judgeRule_155 rfl (fun _ => h)
    · replace h := h.1 h146
      refine wp_aload_n dX12_judgeRule_149 rfl rfl (by first | exact Or.inl (by decide) | exact Or.inl (by omega) | exact Or.inr (by decide) | exact Or.inr (by omega)) ?_
      refine wp_iconst dX12_judgeRule_150 (by decide) ?_
      refine wp_iload_n dX12_judgeRule_151 rfl rfl ?_
      refine wp_cVq (n := 2) (mt' := mX12_tellFinding) (as := [vI 5, vI l1]) (rest := []) _ dX12_judgeRule_152 lX12_519 kX12_tellFinding vX12_tellFinding (by decide) (by decide +kernel) rfl (Nat.le_of_ble_eq_true rfl) (by decide) rfl rfl rfl (Nat.le_of_ble_eq_true rfl) (fun hM hS => h) (fun r M' hq hM => ?_)
      obtain ⟨m152, n152, rfl, rfl, h⟩ := rV_out hq
      exact wp_vret dX12_judgeRule_155 rfl (fun _ => h)
theorem dX12_named_0 : decode cX12_named 0 = .ok (.lconst 0, 1) := by decide +kernel
theorem dX12_named_1 : decode cX12_named 1 = .ok (.lstore 5, 2) := by decide +kernel
theorem dX12_named_3 : decode cX12_named 3 = .ok (.iconst 0, 1) := by decide +kernel
theorem dX12_named_4 : decode cX12_named 4 = .ok (.istore 7, 2) := by decide +kernel
theorem dX12_named_6 : decode cX12_named 6 = .ok (.iload 7, 2) := by decide +kernel
theorem dX12_named_8 : decode cX12_named 8 = .ok (.aload_n 0, 1) := by decide +kernel
theorem dX12_named_9 : decode cX12_named 9 = .ok (.getfield 82, 3) := by decide +kernel
theorem dX12_named_12 : decode cX12_named 12 = .ok (.iload_n 1, 1) := by decide +kernel
theorem dX12_named_13 : decode cX12_named 13 = .ok (.iaload, 1) := by decide +kernel
theorem dX12_named_14 : decode cX12_named 14 = .ok (.if_icmp .ge 100, 3) := by decide +kernel
theorem dX12_named_17 : decode cX12_named 17 = .ok (.aload_n 0, 1) := by decide +kernel
theorem dX12_named_18 : decode cX12_named 18 = .ok (.aload_n 0, 1) := by decide +kernel
theorem dX12_named_19 : decode cX12_named 19 = .ok (.getfield 85, 3) := by decide +kernel
theorem dX12_named_22 : decode cX12_named 22 = .ok (.bipush 40, 2) := by decide +kernel
theorem dX12_named_24 : decode cX12_named 24 = .ok (.iload_n 1, 1) := by decide +kernel
theorem dX12_named_25 : decode cX12_named 25 = .ok (.imul, 1) := by decide +kernel
theorem dX12_named_26 : decode cX12_named 26 = .ok (.iload 7, 2) := by decide +kernel
theorem dX12_named_28 : decode cX12_named 28 = .ok (.iadd, 1) := by decide +kernel
theorem dX12_named_29 : decode cX12_named 29 = .ok (.iaload, 1) := by decide +kernel
theorem dX12_named_30 : decode cX12_named 30 = .ok (.aload_n 0, 1) := by decide +kernel
theorem dX12_named_31 : decode cX12_named 31 = .ok (.getfield 88, 3) := by decide +kernel
theorem dX12_named_34 : decode cX12_named 34 = .ok (.bipush 40, 2) := by decide +kernel
theorem dX12_named_36 : decode cX12_named 36 = .ok (.iload_n 1, 1) := by decide +kernel
theorem dX12_named_37 : decode cX12_named 37 = .ok (.imul, 1) := by decide +kernel
theorem dX12_named_38 : decode cX12_named 38 = .ok (.iload 7, 2) := by decide +kernel
theorem dX12_named_40 : decode cX12_named 40 = .ok (.iadd, 1) := by decide +kernel
theorem dX12_named_41 : decode cX12_named 41 = .ok (.iaload, 1) := by decide +kernel
theorem dX12_named_42 : decode cX12_named 42 = .ok (.aload_n 0, 1) := by decide +kernel
theorem dX12_named_43 : decode cX12_named 43 = .ok (.getfield 37, 3) := by decide +kernel
theorem dX12_named_46 : decode cX12_named 46 = .ok (.sipush 600, 3) := by decide +kernel
theorem dX12_named_49 : decode cX12_named 49 = .ok (.aload_n 0, 1) := by decide +kernel
theorem dX12_named_50 : decode cX12_named 50 = .ok (.getfield 482, 3) := by decide +kernel
theorem dX12_named_53 : decode cX12_named 53 = .ok (.imul, 1) := by decide +kernel
theorem dX12_named_54 : decode cX12_named 54 = .ok (.iload 4, 2) := by decide +kernel
theorem dX12_named_56 : decode cX12_named 56 = .ok (.iadd, 1) := by decide +kernel
theorem dX12_named_57 : decode cX12_named 57 = .ok (.iaload, 1) := by decide +kernel
theorem dX12_named_58 : decode cX12_named 58 = .ok (.aload_n 0, 1) := by decide +kernel
theorem dX12_named_59 : decode cX12_named 59 = .ok (.getfield 40, 3) := by decide +kernel
theorem dX12_named_62 : decode cX12_named 62 = .ok (.sipush 600, 3) := by decide +kernel
theorem dX12_named_65 : decode cX12_named 65 = .ok (.aload_n 0, 1) := by decide +kernel
theorem dX12_named_66 : decode cX12_named 66 = .ok (.getfield 482, 3) := by decide +kernel
theorem dX12_named_69 : decode cX12_named 69 = .ok (.imul, 1) := by decide +kernel
theorem dX12_named_70 : decode cX12_named 70 = .ok (.iload 4, 2) := by decide +kernel
theorem dX12_named_72 : decode cX12_named 72 = .ok (.iadd, 1) := by decide +kernel
theorem dX12_named_73 : decode cX12_named 73 = .ok (.iaload, 1) := by decide +kernel
theorem dX12_named_74 : decode cX12_named 74 = .ok (.invokevirtual 412, 3) := by decide +kernel
theorem dX12_named_77 : decode cX12_named 77 = .ok (.istore 8, 2) := by decide +kernel
theorem dX12_named_79 : decode cX12_named 79 = .ok (.lload 5, 2) := by decide +kernel
theorem dX12_named_81 : decode cX12_named 81 = .ok (.iload 8, 2) := by decide +kernel
theorem dX12_named_83 : decode cX12_named 83 = .ok (.ifCond .eq 21, 3) := by decide +kernel
theorem dX12_named_86 : decode cX12_named 86 = .ok (.lload_n 2, 1) := by decide +kernel
theorem dX12_named_87 : decode cX12_named 87 = .ok (.iload 7, 2) := by decide +kernel
theorem dX12_named_89 : decode cX12_named 89 = .ok (.lshr, 1) := by decide +kernel
theorem dX12_named_90 : decode cX12_named 90 = .ok (.lconst 1, 1) := by decide +kernel
theorem dX12_named_91 : decode cX12_named 91 = .ok (.land, 1) := by decide +kernel
theorem dX12_named_92 : decode cX12_named 92 = .ok (.lconst 1, 1) := by decide +kernel
theorem dX12_named_93 : decode cX12_named 93 = .ok (.lcmp, 1) := by decide +kernel
theorem dX12_named_94 : decode cX12_named 94 = .ok (.ifCond .ne 10, 3) := by decide +kernel
theorem dX12_named_97 : decode cX12_named 97 = .ok (.lconst 1, 1) := by decide +kernel
theorem dX12_named_98 : decode cX12_named 98 = .ok (.iload 7, 2) := by decide +kernel
theorem dX12_named_100 : decode cX12_named 100 = .ok (.lshl, 1) := by decide +kernel
theorem dX12_named_101 : decode cX12_named 101 = .ok (.goto 4, 3) := by decide +kernel
theorem dX12_named_104 : decode cX12_named 104 = .ok (.lconst 0, 1) := by decide +kernel
theorem dX12_named_105 : decode cX12_named 105 = .ok (.lor, 1) := by decide +kernel
theorem dX12_named_106 : decode cX12_named 106 = .ok (.lstore 5, 2) := by decide +kernel
theorem dX12_named_108 : decode cX12_named 108 = .ok (.iinc 7 1, 3) := by decide +kernel
theorem dX12_named_111 : decode cX12_named 111 = .ok (.goto (-105), 3) := by decide +kernel
theorem dX12_named_114 : decode cX12_named 114 = .ok (.lload 5, 2) := by decide +kernel
theorem dX12_named_116 : decode cX12_named 116 = .ok (.lreturn, 1) := by decide +kernel
theorem v_X12_named_0 {cs : Cs} {Q : Option AV → Mm → Prop} {MI ML : Nat → Nat → Int} {d e nw th x : Nat} {l1 l2 l4 : Int}
    (h : wp cs mX12_named KD Q 6 [some (vR 124), some (vI l1), some (vL l2), none, some (vI l4), some (vL 0), none, some (vI 0), none] [] (KD, MI, ML, (GR d e nw th x))) :
    wp cs mX12_named KD Q 0 (padL [vR 124, vI l1, vL l2, vI l4] 9) [] (KD, MI, ML, (GR d e nw th x)) := by
  refine wp_L (L' := [some (vR 124), some (vI l1), some (vL l2), none, some (vI l4), none, none, none, none]) rfl ?_
  refine wp_lconst (z := 0) dX12_named_0 (by decide +kernel) (by decide) ?_
  refine wp_lstore dX12_named_1 (by decide) (wp_L (L' := [some (vR 124), some (vI l1), some (vL l2), none, some (vI l4), some (vL 0), none, none, none]) rfl ?_)
  refine wp_iconst dX12_named_3 (by decide) ?_
  refine wp_istore dX12_named_4 (by decide) (wp_L (L' := [some (vR 124), some (vI l1), some (vL l2), none, some (vI l4), some (vL 0), none, some (vI 0), none]) rfl ?_)
  exact h
theorem v_X12_named_6 {cs : Cs} {Q : Option AV → Mm → Prop} {MI ML : Nat → Nat → Int} {d e nw th x : Nat} {l1 l2 l4 l5 l7 : Int}
    (h : (0 ≤ l1 ∧ l1 < 60) ∧ ((l7 < (MI 147 l1.toNat) → (-2147483648 ≤ 40 * l1 ∧ 40 * l1 < 2147483648) ∧ (-2147483648 ≤ (40 * l1) + l7 ∧ (40 * l1) + l7 < 2147483648) ∧ (0 ≤ ((40 * l1) + l7) ∧ ((40 * l1) + l7) < 2400) ∧ (-2147483648 ≤ 600 * (MI 124 7) ∧ 600 * (MI 124 7) < 2147483648) ∧ (-2147483648 ≤ (600 * (MI 124 7)) + l4 ∧ (600 * (MI 124 7)) + l4 < 2147483648) ∧ (0 ≤ ((600 * (MI 124 7)) + l4) ∧ ((600 * (MI 124 7)) + l4) < 1200) ∧ wp cs mX12_isSame KD (rI (GR d e nw th x) fun x74 m74 n74 => ((x74 = 0 → (-2147483648 ≤ l7 + 1 ∧ l7 + 1 < 2147483648) ∧ wp cs mX12_named KD Q 6 [some (vR 124), some (vI l1), some (vL l2), none, some (vI l4), some (vL (l_or l5 0)), none, some (vI (l7 + 1)), none] [] (KD, m74, n74, (GR d e nw th x))) ∧ (x74 ≠ 0 → (((l_and (l_shr l2 l7) 1) = 1 → (-2147483648 ≤ l7 + 1 ∧ l7 + 1 < 2147483648) ∧ wp cs mX12_named KD Q 6 [some (vR 124), some (vI l1), some (vL l2), none, some (vI l4), some (vL (l_or l5 (l_shl 1 l7))), none, some (vI (l7 + 1)), none] [] (KD, m74, n74, (GR d e nw th x))) ∧ ((l_and (l_shr l2 l7) 1) ≠ 1 → (-2147483648 ≤ l7 + 1 ∧ l7 + 1 < 2147483648) ∧ wp cs mX12_named KD Q 6 [some (vR 124), some (vI l1), some (vL l2), none, some (vI l4), some (vL (l_or l5 0)), none, some (vI (l7 + 1)), none] [] (KD, m74, n74, (GR d e nw th x))))))) 0 (padL [vR 124, vI (MI 148 ((40 * l1) + l7).toNat), vI (MI 149 ((40 * l1) + l7).toNat), vI (MI 132 ((600 * (MI 124 7)) + l4).toNat), vI (MI 133 ((600 * (MI 124 7)) + l4).toNat)] 7) [] (KD, MI, ML, (GR d e nw th x))) ∧ ((MI 147 l1.toNat) ≤ l7 → Q (some (vL l5)) (MI, ML, (GR d e nw th x))))) :
    wp cs mX12_named KD Q 6 [some (vR 124), some (vI l1), some (vL l2), none, some (vI l4), some (vL l5), none, some (vI l7), none] [] (KD, MI, ML, (GR d e nw th x)) := by
  refine wp_iload dX12_named_6 rfl ?_
  refine wp_aload_n dX12_named_8 rfl rfl (by first | exact Or.inl (by decide) | exact Or.inl (by omega) | exact Or.inr (by decide) | exact Or.inr (by omega)) ?_
  refine wp_getR dX12_named_9 fX12_82 rfl (by decide) ?_
  refine wp_topR (x' := 147) rfl ?_
  refine wp_iload_n dX12_named_12 rfl rfl ?_
  have c0 := h.1
  replace h := h.2
  refine wp_iald dX12_named_13 rfl (by decide) c0 ?_
  refine wp_icmp_ge (tgt := 114) dX12_named_14 (by decide) (fun h14 => ?_) (fun h14 => ?_)
  · replace h := h.2 h14
    refine wp_lload dX12_named_114 rfl ?_
    exact wp_lret dX12_named_116 rfl (fun _ => h)
  · replace h := h.1 h14
    refine wp_aload_n dX12_named_17 rfl rfl (by first | exact Or.inl (by decide) | exact Or.inl (by omega) | exact Or.inr (by decide) | exact Or.inr (by omega)) ?_
    refine wp_aload_n dX12_named_18 rfl rfl (by first | exact Or.inl (by decide) | exact Or.inl (by omega) | exact Or.inr (by decide) | exact Or.inr (by omega)) ?_
    refine wp_getR dX12_named_19 fX12_85 rfl (by decide) ?_
    refine wp_topR (x' := 148) rfl ?_
    refine wp_bipush dX12_named_22 (by decide +kernel) (by decide) ?_
    refine wp_iload_n dX12_named_24 rfl rfl ?_
    have c1 := h.1
    replace h := h.2
    refine wp_imulr dX12_named_25 c1 ?_
    refine wp_iload dX12_named_26 rfl ?_
    refine wp_pc (pc' := 28) rfl ?_
    have c2 := h.1
    replace h := h.2
    refine wp_iaddr dX12_named_28 c2 ?_
    have c3 := h.1
    replace h := h.2
    refine wp_iald dX12_named_29 rfl (by decide) c3 ?_
    refine wp_aload_n dX12_named_30 rfl rfl (by first | exact Or.inl (by decide) | exact Or.inl (by omega) | exact Or.inr (by decide) | exact Or.inr (by omega)) ?_
    refine wp_getR dX12_named_31 fX12_88 rfl (by decide) ?_
    refine wp_topR (x' := 149) rfl ?_
    refine wp_bipush dX12_named_34 (by decide +kernel) (by decide) ?_
    refine wp_iload_n dX12_named_36 rfl rfl ?_
    refine wp_imulr dX12_named_37 c1 ?_
    refine wp_iload dX12_named_38 rfl ?_
    refine wp_pc (pc' := 40) rfl ?_
    refine wp_iaddr dX12_named_40 c2 ?_
    refine wp_iald dX12_named_41 rfl (by decide) c3 ?_
    refine wp_aload_n dX12_named_42 rfl rfl (by first | exact Or.inl (by decide) | exact Or.inl (by omega) | exact Or.inr (by decide) | exact Or.inr (by omega)) ?_
    refine wp_getR dX12_named_43 fX12_37 rfl (by decide) ?_
    refine wp_topR (x' := 132) rfl ?_
    refine wp_sipush dX12_named_46 (by decide +kernel) (by decide) ?_
    refine wp_aload_n dX12_named_49 rfl rfl (by first | exact Or.inl (by decide) | exact Or.inl (by omega) | exact Or.inr (by decide) | exact Or.inr (by omega)) ?_
    refine wp_getI dX12_named_50 fX12_482 rfl (by decide) ?_
    have c4 := h.1
    replace h := h.2
    refine wp_imulr dX12_named_53 c4 ?_
    refine wp_pc (pc' := 54) rfl ?_
    refine wp_iload dX12_named_54 rfl ?_
    have c5 := h.1
    replace h := h.2
    refine wp_iaddr dX12_named_56 c5 ?_
    have c6 := h.1
    replace h := h.2
    refine wp_iald dX12_named_57 rfl (by decide) c6 ?_
    refine wp_aload_n dX12_named_58 rfl rfl (by first | exact Or.inl (by decide) | exact Or.inl (by omega) | exact Or.inr (by decide) | exact Or.inr (by omega)) ?_
    refine wp_getR dX12_named_59 fX12_40 rfl (by decide) ?_
    refine wp_topR (x' := 133) rfl ?_
    refine wp_sipush dX12_named_62 (by decide +kernel) (by decide) ?_
    refine wp_aload_n dX12_named_65 rfl rfl (by first | exact Or.inl (by decide) | exact Or.inl (by omega) | exact Or.inr (by decide) | exact Or.inr (by omega)) ?_
    refine wp_getI dX12_named_66 fX12_482 rfl (by decide) ?_
    refine wp_pc (pc' := 69) rfl ?_
    refine wp_imulr dX12_named_69 c4 ?_
    refine wp_iload dX12_named_70 rfl ?_
    refine wp_iaddr dX12_named_72 c5 ?_
    refine wp_iald dX12_named_73 rfl (by decide) c6 ?_
    refine wp_cVq (n := 4) (mt' := mX12_isSame) (as := [vI (MI 148 ((40 * l1) + l7).toNat), vI (MI 149 ((40 * l1) + l7).toNat), vI (MI 132 ((600 * (MI 124 7)) + l4).toNat), vI (MI 133 ((600 * (MI 124 7)) + l4).toNat)]) (rest := []) _ dX12_named_74 lX12_412 kX12_isSame vX12_isSame (by decide) (by decide +kernel) rfl (Nat.le_of_ble_eq_true rfl) (by decide) rfl rfl rfl (Nat.le_of_ble_eq_true rfl) (fun hM hS => h) (fun r M' hq hM => ?_)
    obtain ⟨x74, m74, n74, rfl, rfl, h⟩ := rI_out hq
    refine wp_istore dX12_named_77 (by decide) (wp_L (L' := [some (vR 124), some (vI l1), some (vL l2), none, some (vI l4), some (vL l5), none, some (vI l7), some (vI x74)]) rfl ?_)
    refine wp_lload dX12_named_79 rfl ?_
    refine wp_iload dX12_named_81 rfl ?_
    refine wp_if_eq (tgt := 104) dX12_named_83 (by decide) (fun h83 => ?_) (fun h83 => ?_)
    · replace h := h.1 h83
      refine wp_lconst (z := 0) dX12_named_104 (by decide +kernel) (by decide) ?_
      refine wp_lor dX12_named_105 ?_
      refine wp_lstore dX12_named_106 (by decide) (wp_L (L' := [some (vR 124), some (vI l1), some (vL l2), none, some (vI l4), some (vL (l_or l5 0)), none, some (vI l7), some (vI x74)]) rfl ?_)
      have c7 := h.1
      replace h := h.2
      refine wp_iincr dX12_named_108 rfl (by decide) c7 (wp_L (L' := [some (vR 124), some (vI l1), some (vL l2), none, some (vI l4), some (vL (l_or l5 0)), none, some (vI (l7 + 1)), some (vI x74)]) rfl ?_)
      refine wp_goto (tgt := 6) dX12_named_111 (by decide) ?_
      refine wp_forget (L' := [some (vR 124), some (vI l1), some (vL l2), none, some (vI l4), some (vL (l_or l5 0)), none, some (vI (l7 + 1)), none]) (by repeat' (first | exact trivial | refine ⟨rfl, ?_⟩)) ?_
      exact h
    · replace h := h.2 h83
      refine wp_lload_n dX12_named_86 rfl rfl ?_
      refine wp_iload dX12_named_87 rfl ?_
      refine wp_lshr dX12_named_89 ?_
      refine wp_lconst (z := 1) dX12_named_90 (by decide +kernel) (by decide) ?_
      refine wp_land dX12_named_91 ?_
      refine wp_lconst (z := 1) dX12_named_92 (by decide +kernel) (by decide) ?_
      refine wp_lcmp dX12_named_93 ?_
      refine wp_pc (pc' := 94) rfl ?_
      refine wp_if_ne (tgt := 104) dX12_named_94 (by decide) (fun h94 => ?_) (fun h94 => ?_)
      · replace h := h.2 (l_cmp_nz h94)
        refine wp_lconst (z := 0) dX12_named_104 (by decide +kernel) (by decide) ?_
        refine wp_lor dX12_named_105 ?_
        refine wp_lstore dX12_named_106 (by decide) (wp_L (L' := [some (vR 124), some (vI l1), some (vL l2), none, some (vI l4), some (vL (l_or l5 0)), none, some (vI l7), some (vI x74)]) rfl ?_)
        have c7 := h.1
        replace h := h.2
        refine wp_iincr dX12_named_108 rfl (by decide) c7 (wp_L (L' := [some (vR 124), some (vI l1), some (vL l2), none, some (vI l4), some (vL (l_or l5 0)), none, some (vI (l7 + 1)), some (vI x74)]) rfl ?_)
        refine wp_goto (tgt := 6) dX12_named_111 (by decide) ?_
        refine wp_forget (L' := [some (vR 124), some (vI l1), some (vL l2), none, some (vI l4), some (vL (l_or l5 0)), none, some (vI (l7 + 1)), none]) (by repeat' (first | exact trivial | refine ⟨rfl, ?_⟩)) ?_
        exact h
      · replace h := h.1 (l_cmp_z h94)
        refine wp_lconst (z := 1) dX12_named_97 (by decide +kernel) (by decide) ?_
        refine wp_iload dX12_named_98 rfl ?_
        refine wp_lshl dX12_named_100 ?_
        refine wp_goto (tgt := 105) dX12_named_101 (by decide) ?_
        refine wp_lor dX12_named_105 ?_
        refine wp_lstore dX12_named_106 (by decide) (wp_L (L' := [some (vR 124), some (vI l1), some (vL l2), none, some (vI l4), some (vL (l_or l5 (l_shl 1 l7))), none, some (vI l7), some (vI x74)]) rfl ?_)
        have c7 := h.1
        replace h := h.2
        refine wp_iincr dX12_named_108 rfl (by decide) c7 (wp_L (L' := [some (vR 124), some (vI l1), some (vL l2), none, some (vI l4), some (vL (l_or l5 (l_shl 1 l7))), none, some (vI (l7 + 1)), some (vI x74)]) rfl ?_)
        refine wp_pc (pc' := 111) rfl ?_
        refine wp_goto (tgt := 6) dX12_named_111 (by decide) ?_
        refine wp_forget (L' := [some (vR 124), some (vI l1), some (vL l2), none, some (vI l4), some (vL (l_or l5 (l_shl 1 l7))), none, some (vI (l7 + 1)), none]) (by repeat' (first | exact trivial | refine ⟨rfl, ?_⟩)) ?_
        exact h
theorem dX12_fits_0 : decode cX12_fits 0 = .ok (.sipush 600, 3) := by decide +kernel
theorem dX12_fits_3 : decode cX12_fits 3 = .ok (.aload_n 0, 1) := by decide +kernel
theorem dX12_fits_4 : decode cX12_fits 4 = .ok (.getfield 482, 3) := by decide +kernel
theorem dX12_fits_7 : decode cX12_fits 7 = .ok (.imul, 1) := by decide +kernel
theorem dX12_fits_8 : decode cX12_fits 8 = .ok (.istore_n 3, 1) := by decide +kernel
theorem dX12_fits_9 : decode cX12_fits 9 = .ok (.aload_n 0, 1) := by decide +kernel
theorem dX12_fits_10 : decode cX12_fits 10 = .ok (.getfield 91, 3) := by decide +kernel
theorem dX12_fits_13 : decode cX12_fits 13 = .ok (.iload_n 2, 1) := by decide +kernel
theorem dX12_fits_14 : decode cX12_fits 14 = .ok (.laload, 1) := by decide +kernel
theorem dX12_fits_15 : decode cX12_fits 15 = .ok (.lstore 4, 2) := by decide +kernel
theorem dX12_fits_17 : decode cX12_fits 17 = .ok (.aload_n 0, 1) := by decide +kernel
theorem dX12_fits_18 : decode cX12_fits 18 = .ok (.getfield 98, 3) := by decide +kernel
theorem dX12_fits_21 : decode cX12_fits 21 = .ok (.iload_n 2, 1) := by decide +kernel
theorem dX12_fits_22 : decode cX12_fits 22 = .ok (.baload, 1) := by decide +kernel
theorem dX12_fits_23 : decode cX12_fits 23 = .ok (.istore 6, 2) := by decide +kernel
theorem dX12_fits_25 : decode cX12_fits 25 = .ok (.iload_n 1, 1) := by decide +kernel
theorem dX12_fits_26 : decode cX12_fits 26 = .ok (.iconst 1, 1) := by decide +kernel
theorem dX12_fits_27 : decode cX12_fits 27 = .ok (.iadd, 1) := by decide +kernel
theorem dX12_fits_28 : decode cX12_fits 28 = .ok (.istore 7, 2) := by decide +kernel
theorem dX12_fits_30 : decode cX12_fits 30 = .ok (.iload 7, 2) := by decide +kernel
theorem dX12_fits_32 : decode cX12_fits 32 = .ok (.aload_n 0, 1) := by decide +kernel
theorem dX12_fits_33 : decode cX12_fits 33 = .ok (.getfield 27, 3) := by decide +kernel
theorem dX12_fits_36 : decode cX12_fits 36 = .ok (.aload_n 0, 1) := by decide +kernel
theorem dX12_fits_37 : decode cX12_fits 37 = .ok (.getfield 482, 3) := by decide +kernel
theorem dX12_fits_40 : decode cX12_fits 40 = .ok (.iaload, 1) := by decide +kernel
theorem dX12_fits_41 : decode cX12_fits 41 = .ok (.if_icmp .ge 280, 3) := by decide +kernel
theorem dX12_fits_44 : decode cX12_fits 44 = .ok (.aload_n 0, 1) := by decide +kernel
theorem dX12_fits_45 : decode cX12_fits 45 = .ok (.getfield 34, 3) := by decide +kernel
theorem dX12_fits_48 : decode cX12_fits 48 = .ok (.iload_n 3, 1) := by decide +kernel
theorem dX12_fits_49 : decode cX12_fits 49 = .ok (.iload 7, 2) := by decide +kernel
theorem dX12_fits_51 : decode cX12_fits 51 = .ok (.iadd, 1) := by decide +kernel
theorem dX12_fits_52 : decode cX12_fits 52 = .ok (.iaload, 1) := by decide +kernel
theorem dX12_fits_53 : decode cX12_fits 53 = .ok (.iload_n 1, 1) := by decide +kernel
theorem dX12_fits_54 : decode cX12_fits 54 = .ok (.if_icmp .ne 261, 3) := by decide +kernel
theorem dX12_fits_57 : decode cX12_fits 57 = .ok (.aload_n 0, 1) := by decide +kernel
theorem dX12_fits_58 : decode cX12_fits 58 = .ok (.getfield 31, 3) := by decide +kernel
theorem dX12_fits_61 : decode cX12_fits 61 = .ok (.iload_n 3, 1) := by decide +kernel
theorem dX12_fits_62 : decode cX12_fits 62 = .ok (.iload 7, 2) := by decide +kernel
theorem dX12_fits_64 : decode cX12_fits 64 = .ok (.iadd, 1) := by decide +kernel
theorem dX12_fits_65 : decode cX12_fits 65 = .ok (.iaload, 1) := by decide +kernel
theorem dX12_fits_66 : decode cX12_fits 66 = .ok (.iconst 2, 1) := by decide +kernel
theorem dX12_fits_67 : decode cX12_fits 67 = .ok (.if_icmp .ne 6, 3) := by decide +kernel
theorem dX12_fits_70 : decode cX12_fits 70 = .ok (.goto 245, 3) := by decide +kernel
theorem dX12_fits_73 : decode cX12_fits 73 = .ok (.aload_n 0, 1) := by decide +kernel
theorem dX12_fits_74 : decode cX12_fits 74 = .ok (.getfield 31, 3) := by decide +kernel
theorem dX12_fits_77 : decode cX12_fits 77 = .ok (.iload_n 3, 1) := by decide +kernel
theorem dX12_fits_78 : decode cX12_fits 78 = .ok (.iload 7, 2) := by decide +kernel
theorem dX12_fits_80 : decode cX12_fits 80 = .ok (.iadd, 1) := by decide +kernel
theorem dX12_fits_81 : decode cX12_fits 81 = .ok (.iaload, 1) := by decide +kernel
theorem dX12_fits_82 : decode cX12_fits 82 = .ok (.iconst 3, 1) := by decide +kernel
theorem dX12_fits_83 : decode cX12_fits 83 = .ok (.if_icmp .ne 7, 3) := by decide +kernel
theorem dX12_fits_86 : decode cX12_fits 86 = .ok (.iconst 1, 1) := by decide +kernel
theorem dX12_fits_87 : decode cX12_fits 87 = .ok (.goto 4, 3) := by decide +kernel
theorem dX12_fits_90 : decode cX12_fits 90 = .ok (.iconst 0, 1) := by decide +kernel
theorem dX12_fits_91 : decode cX12_fits 91 = .ok (.istore 8, 2) := by decide +kernel
theorem dX12_fits_93 : decode cX12_fits 93 = .ok (.aload_n 0, 1) := by decide +kernel
theorem dX12_fits_94 : decode cX12_fits 94 = .ok (.getfield 79, 3) := by decide +kernel
theorem dX12_fits_97 : decode cX12_fits 97 = .ok (.iload_n 2, 1) := by decide +kernel
theorem dX12_fits_98 : decode cX12_fits 98 = .ok (.iaload, 1) := by decide +kernel
theorem dX12_fits_99 : decode cX12_fits 99 = .ok (.ifCond .eq 43, 3) := by decide +kernel
theorem dX12_fits_102 : decode cX12_fits 102 = .ok (.aload_n 0, 1) := by decide +kernel
theorem dX12_fits_103 : decode cX12_fits 103 = .ok (.getfield 79, 3) := by decide +kernel
theorem dX12_fits_106 : decode cX12_fits 106 = .ok (.iload_n 2, 1) := by decide +kernel
theorem dX12_fits_107 : decode cX12_fits 107 = .ok (.iaload, 1) := by decide +kernel
theorem dX12_fits_108 : decode cX12_fits 108 = .ok (.iconst 1, 1) := by decide +kernel
theorem dX12_fits_109 : decode cX12_fits 109 = .ok (.if_icmp .ne 35, 3) := by decide +kernel
theorem dX12_fits_112 : decode cX12_fits 112 = .ok (.iload 8, 2) := by decide +kernel
theorem dX12_fits_114 : decode cX12_fits 114 = .ok (.ifCond .ne 30, 3) := by decide +kernel
theorem dX12_fits_117 : decode cX12_fits 117 = .ok (.aload_n 0, 1) := by decide +kernel
theorem dX12_fits_118 : decode cX12_fits 118 = .ok (.aload_n 0, 1) := by decide +kernel
theorem dX12_fits_119 : decode cX12_fits 119 = .ok (.getfield 37, 3) := by decide +kernel
theorem dX12_fits_122 : decode cX12_fits 122 = .ok (.iload_n 3, 1) := by decide +kernel
theorem dX12_fits_123 : decode cX12_fits 123 = .ok (.iload 7, 2) := by decide +kernel
theorem dX12_fits_125 : decode cX12_fits 125 = .ok (.iadd, 1) := by decide +kernel
theorem dX12_fits_126 : decode cX12_fits 126 = .ok (.iaload, 1) := by decide +kernel
theorem dX12_fits_127 : decode cX12_fits 127 = .ok (.aload_n 0, 1) := by decide +kernel
theorem dX12_fits_128 : decode cX12_fits 128 = .ok (.getfield 40, 3) := by decide +kernel
theorem dX12_fits_131 : decode cX12_fits 131 = .ok (.iload_n 3, 1) := by decide +kernel
theorem dX12_fits_132 : decode cX12_fits 132 = .ok (.iload 7, 2) := by decide +kernel
theorem dX12_fits_134 : decode cX12_fits 134 = .ok (.iadd, 1) := by decide +kernel
theorem dX12_fits_135 : decode cX12_fits 135 = .ok (.iaload, 1) := by decide +kernel
theorem dX12_fits_136 : decode cX12_fits 136 = .ok (.invokevirtual 516, 3) := by decide +kernel
theorem dX12_fits_139 : decode cX12_fits 139 = .ok (.ifCond .ge 5, 3) := by decide +kernel
theorem dX12_fits_142 : decode cX12_fits 142 = .ok (.iconst 0, 1) := by decide +kernel
theorem dX12_fits_143 : decode cX12_fits 143 = .ok (.ireturn, 1) := by decide +kernel
theorem dX12_fits_144 : decode cX12_fits 144 = .ok (.aload_n 0, 1) := by decide +kernel
theorem dX12_fits_145 : decode cX12_fits 145 = .ok (.getfield 79, 3) := by decide +kernel
theorem dX12_fits_148 : decode cX12_fits 148 = .ok (.iload_n 2, 1) := by decide +kernel
theorem dX12_fits_149 : decode cX12_fits 149 = .ok (.iaload, 1) := by decide +kernel
theorem dX12_fits_150 : decode cX12_fits 150 = .ok (.iconst 2, 1) := by decide +kernel
theorem dX12_fits_151 : decode cX12_fits 151 = .ok (.if_icmp .ne 23, 3) := by decide +kernel
theorem dX12_fits_154 : decode cX12_fits 154 = .ok (.iload 8, 2) := by decide +kernel
theorem dX12_fits_156 : decode cX12_fits 156 = .ok (.ifCond .ne 18, 3) := by decide +kernel
theorem dX12_fits_159 : decode cX12_fits 159 = .ok (.aload_n 0, 1) := by decide +kernel
theorem dX12_fits_160 : decode cX12_fits 160 = .ok (.iload_n 2, 1) := by decide +kernel
theorem dX12_fits_161 : decode cX12_fits 161 = .ok (.ldc2_w 526, 3) := by decide +kernel
theorem dX12_fits_164 : decode cX12_fits 164 = .ok (.iload 7, 2) := by decide +kernel
theorem dX12_fits_166 : decode cX12_fits 166 = .ok (.invokevirtual 558, 3) := by decide +kernel
theorem dX12_fits_169 : decode cX12_fits 169 = .ok (.lconst 0, 1) := by decide +kernel
theorem dX12_fits_170 : decode cX12_fits 170 = .ok (.lcmp, 1) := by decide +kernel
theorem dX12_fits_171 : decode cX12_fits 171 = .ok (.ifCond .eq 30, 3) := by decide +kernel
theorem dX12_fits_174 : decode cX12_fits 174 = .ok (.aload_n 0, 1) := by decide +kernel
theorem dX12_fits_175 : decode cX12_fits 175 = .ok (.getfield 79, 3) := by decide +kernel
theorem dX12_fits_178 : decode cX12_fits 178 = .ok (.iload_n 2, 1) := by decide +kernel
theorem dX12_fits_179 : decode cX12_fits 179 = .ok (.iaload, 1) := by decide +kernel
theorem dX12_fits_180 : decode cX12_fits 180 = .ok (.iconst 3, 1) := by decide +kernel
theorem dX12_fits_181 : decode cX12_fits 181 = .ok (.if_icmp .ne 22, 3) := by decide +kernel
theorem dX12_fits_184 : decode cX12_fits 184 = .ok (.iload 8, 2) := by decide +kernel
theorem dX12_fits_186 : decode cX12_fits 186 = .ok (.ifCond .eq 17, 3) := by decide +kernel
theorem dX12_fits_189 : decode cX12_fits 189 = .ok (.aload_n 0, 1) := by decide +kernel
theorem dX12_fits_190 : decode cX12_fits 190 = .ok (.getfield 52, 3) := by decide +kernel
theorem dX12_fits_193 : decode cX12_fits 193 = .ok (.iload_n 3, 1) := by decide +kernel
theorem dX12_fits_194 : decode cX12_fits 194 = .ok (.iload 7, 2) := by decide +kernel
theorem dX12_fits_196 : decode cX12_fits 196 = .ok (.iadd, 1) := by decide +kernel
theorem dX12_fits_197 : decode cX12_fits 197 = .ok (.baload, 1) := by decide +kernel
theorem dX12_fits_198 : decode cX12_fits 198 = .ok (.ifCond .ne 5, 3) := by decide +kernel
theorem dX12_fits_201 : decode cX12_fits 201 = .ok (.iconst 0, 1) := by decide +kernel
theorem dX12_fits_202 : decode cX12_fits 202 = .ok (.ireturn, 1) := by decide +kernel
theorem dX12_fits_203 : decode cX12_fits 203 = .ok (.aload_n 0, 1) := by decide +kernel
theorem dX12_fits_204 : decode cX12_fits 204 = .ok (.getfield 79, 3) := by decide +kernel
theorem dX12_fits_207 : decode cX12_fits 207 = .ok (.iload_n 2, 1) := by decide +kernel
theorem dX12_fits_208 : decode cX12_fits 208 = .ok (.iaload, 1) := by decide +kernel
theorem dX12_fits_209 : decode cX12_fits 209 = .ok (.iconst 3, 1) := by decide +kernel
theorem dX12_fits_210 : decode cX12_fits 210 = .ok (.if_icmp .ne 105, 3) := by decide +kernel
theorem dX12_fits_213 : decode cX12_fits 213 = .ok (.iload 8, 2) := by decide +kernel
theorem dX12_fits_215 : decode cX12_fits 215 = .ok (.ifCond .ne 100, 3) := by decide +kernel
theorem dX12_fits_218 : decode cX12_fits 218 = .ok (.aload_n 0, 1) := by decide +kernel
theorem dX12_fits_219 : decode cX12_fits 219 = .ok (.iload_n 2, 1) := by decide +kernel
theorem dX12_fits_220 : decode cX12_fits 220 = .ok (.lload 4, 2) := by decide +kernel
theorem dX12_fits_222 : decode cX12_fits 222 = .ok (.iload 7, 2) := by decide +kernel
theorem dX12_fits_224 : decode cX12_fits 224 = .ok (.invokevirtual 558, 3) := by decide +kernel
theorem dX12_fits_227 : decode cX12_fits 227 = .ok (.lstore 9, 2) := by decide +kernel
theorem dX12_fits_229 : decode cX12_fits 229 = .ok (.lconst 0, 1) := by decide +kernel
theorem dX12_fits_230 : decode cX12_fits 230 = .ok (.lstore 4, 2) := by decide +kernel
theorem dX12_fits_232 : decode cX12_fits 232 = .ok (.iconst 0, 1) := by decide +kernel
theorem dX12_fits_233 : decode cX12_fits 233 = .ok (.istore 11, 2) := by decide +kernel
theorem dX12_fits_235 : decode cX12_fits 235 = .ok (.iload 11, 2) := by decide +kernel
theorem dX12_fits_237 : decode cX12_fits 237 = .ok (.aload_n 0, 1) := by decide +kernel
theorem dX12_fits_238 : decode cX12_fits 238 = .ok (.getfield 82, 3) := by decide +kernel
theorem dX12_fits_241 : decode cX12_fits 241 = .ok (.iload_n 2, 1) := by decide +kernel
theorem dX12_fits_242 : decode cX12_fits 242 = .ok (.iaload, 1) := by decide +kernel
theorem dX12_fits_243 : decode cX12_fits 243 = .ok (.if_icmp .ge 42, 3) := by decide +kernel
theorem dX12_fits_246 : decode cX12_fits 246 = .ok (.lload 4, 2) := by decide +kernel
theorem dX12_fits_248 : decode cX12_fits 248 = .ok (.lload 9, 2) := by decide +kernel
theorem dX12_fits_250 : decode cX12_fits 250 = .ok (.iload 11, 2) := by decide +kernel
theorem dX12_fits_252 : decode cX12_fits 252 = .ok (.lshr, 1) := by decide +kernel
theorem dX12_fits_253 : decode cX12_fits 253 = .ok (.lconst 1, 1) := by decide +kernel
theorem dX12_fits_254 : decode cX12_fits 254 = .ok (.land, 1) := by decide +kernel
theorem dX12_fits_255 : decode cX12_fits 255 = .ok (.lconst 1, 1) := by decide +kernel
theorem dX12_fits_256 : decode cX12_fits 256 = .ok (.lcmp, 1) := by decide +kernel
theorem dX12_fits_257 : decode cX12_fits 257 = .ok (.ifCond .ne 18, 3) := by decide +kernel
theorem dX12_fits_260 : decode cX12_fits 260 = .ok (.aload_n 0, 1) := by decide +kernel
theorem dX12_fits_261 : decode cX12_fits 261 = .ok (.getfield 101, 3) := by decide +kernel
theorem dX12_fits_264 : decode cX12_fits 264 = .ok (.bipush 40, 2) := by decide +kernel
theorem dX12_fits_266 : decode cX12_fits 266 = .ok (.iload_n 2, 1) := by decide +kernel
theorem dX12_fits_267 : decode cX12_fits 267 = .ok (.imul, 1) := by decide +kernel
theorem dX12_fits_268 : decode cX12_fits 268 = .ok (.iload 11, 2) := by decide +kernel
theorem dX12_fits_270 : decode cX12_fits 270 = .ok (.iadd, 1) := by decide +kernel
theorem dX12_fits_271 : decode cX12_fits 271 = .ok (.laload, 1) := by decide +kernel
theorem dX12_fits_272 : decode cX12_fits 272 = .ok (.goto 4, 3) := by decide +kernel
theorem dX12_fits_275 : decode cX12_fits 275 = .ok (.lconst 0, 1) := by decide +kernel
theorem dX12_fits_276 : decode cX12_fits 276 = .ok (.lor, 1) := by decide +kernel
theorem dX12_fits_277 : decode cX12_fits 277 = .ok (.lstore 4, 2) := by decide +kernel
theorem dX12_fits_279 : decode cX12_fits 279 = .ok (.iinc 11 1, 3) := by decide +kernel
theorem dX12_fits_282 : decode cX12_fits 282 = .ok (.goto (-47), 3) := by decide +kernel
theorem dX12_fits_285 : decode cX12_fits 285 = .ok (.lload 9, 2) := by decide +kernel
theorem dX12_fits_287 : decode cX12_fits 287 = .ok (.aload_n 0, 1) := by decide +kernel
theorem dX12_fits_288 : decode cX12_fits 288 = .ok (.getfield 95, 3) := by decide +kernel
theorem dX12_fits_291 : decode cX12_fits 291 = .ok (.iload_n 2, 1) := by decide +kernel
theorem dX12_fits_292 : decode cX12_fits 292 = .ok (.laload, 1) := by decide +kernel
theorem dX12_fits_293 : decode cX12_fits 293 = .ok (.land, 1) := by decide +kernel
theorem dX12_fits_294 : decode cX12_fits 294 = .ok (.lconst 0, 1) := by decide +kernel
theorem dX12_fits_295 : decode cX12_fits 295 = .ok (.lcmp, 1) := by decide +kernel
theorem dX12_fits_296 : decode cX12_fits 296 = .ok (.ifCond .eq 7, 3) := by decide +kernel
theorem dX12_fits_299 : decode cX12_fits 299 = .ok (.iconst 1, 1) := by decide +kernel
theorem dX12_fits_300 : decode cX12_fits 300 = .ok (.goto 4, 3) := by decide +kernel
theorem dX12_fits_303 : decode cX12_fits 303 = .ok (.iconst 0, 1) := by decide +kernel
theorem dX12_fits_304 : decode cX12_fits 304 = .ok (.istore 6, 2) := by decide +kernel
theorem dX12_fits_306 : decode cX12_fits 306 = .ok (.lload 9, 2) := by decide +kernel
theorem dX12_fits_308 : decode cX12_fits 308 = .ok (.lconst 0, 1) := by decide +kernel
theorem dX12_fits_309 : decode cX12_fits 309 = .ok (.lcmp, 1) := by decide +kernel
theorem dX12_fits_310 : decode cX12_fits 310 = .ok (.ifCond .ne 5, 3) := by decide +kernel
theorem dX12_fits_313 : decode cX12_fits 313 = .ok (.iconst 0, 1) := by decide +kernel
theorem dX12_fits_314 : decode cX12_fits 314 = .ok (.ireturn, 1) := by decide +kernel
theorem dX12_fits_315 : decode cX12_fits 315 = .ok (.iinc 7 1, 3) := by decide +kernel
theorem dX12_fits_318 : decode cX12_fits 318 = .ok (.goto (-288), 3) := by decide +kernel
theorem dX12_fits_321 : decode cX12_fits 321 = .ok (.aload_n 0, 1) := by decide +kernel
theorem dX12_fits_322 : decode cX12_fits 322 = .ok (.getfield 79, 3) := by decide +kernel
theorem dX12_fits_325 : decode cX12_fits 325 = .ok (.iload_n 2, 1) := by decide +kernel
theorem dX12_fits_326 : decode cX12_fits 326 = .ok (.iaload, 1) := by decide +kernel
theorem dX12_fits_327 : decode cX12_fits 327 = .ok (.iconst 3, 1) := by decide +kernel
theorem dX12_fits_328 : decode cX12_fits 328 = .ok (.if_icmp .ne 8, 3) := by decide +kernel
theorem dX12_fits_331 : decode cX12_fits 331 = .ok (.iload 6, 2) := by decide +kernel
theorem dX12_fits_333 : decode cX12_fits 333 = .ok (.ifCond .eq 7, 3) := by decide +kernel
theorem dX12_fits_336 : decode cX12_fits 336 = .ok (.iconst 1, 1) := by decide +kernel
theorem dX12_fits_337 : decode cX12_fits 337 = .ok (.goto 4, 3) := by decide +kernel
theorem dX12_fits_340 : decode cX12_fits 340 = .ok (.iconst 0, 1) := by decide +kernel
theorem dX12_fits_341 : decode cX12_fits 341 = .ok (.ireturn, 1) := by decide +kernel
theorem v_X12_fits_0 {cs : Cs} {Q : Option AV → Mm → Prop} {MI ML : Nat → Nat → Int} {d e nw th x : Nat} {l1 l2 : Int}
    (h : (-2147483648 ≤ 600 * (MI 124 7) ∧ 600 * (MI 124 7) < 2147483648) ∧ (0 ≤ l2 ∧ l2 < 60) ∧ (-2147483648 ≤ l1 + 1 ∧ l1 + 1 < 2147483648) ∧ wp cs mX12_fits KD Q 30 [some (vR 124), some (vI l1), some (vI l2), some (vI (600 * (MI 124 7))), some (vL (ML 150 l2.toNat)), none, some (vI (MI 152 l2.toNat)), some (vI (l1 + 1)), none, none, none, none] [] (KD, MI, ML, (GR d e nw th x))) :
    wp cs mX12_fits KD Q 0 (padL [vR 124, vI l1, vI l2] 12) [] (KD, MI, ML, (GR d e nw th x)) := by
  refine wp_L (L' := [some (vR 124), some (vI l1), some (vI l2), none, none, none, none, none, none, none, none, none]) rfl ?_
  refine wp_sipush dX12_fits_0 (by decide +kernel) (by decide) ?_
  refine wp_aload_n dX12_fits_3 rfl rfl (by first | exact Or.inl (by decide) | exact Or.inl (by omega) | exact Or.inr (by decide) | exact Or.inr (by omega)) ?_
  refine wp_getI dX12_fits_4 fX12_482 rfl (by decide) ?_
  have c0 := h.1
  replace h := h.2
  refine wp_imulr dX12_fits_7 c0 ?_
  refine wp_istore_n dX12_fits_8 rfl (by decide) (wp_L (L' := [some (vR 124), some (vI l1), some (vI l2), some (vI (600 * (MI 124 7))), none, none, none, none, none, none, none, none]) rfl ?_)
  refine wp_aload_n dX12_fits_9 rfl rfl (by first | exact Or.inl (by decide) | exact Or.inl (by omega) | exact Or.inr (by decide) | exact Or.inr (by omega)) ?_
  refine wp_getR dX12_fits_10 fX12_91 rfl (by decide) ?_
  refine wp_topR (x' := 150) rfl ?_
  refine wp_pc (pc' := 13) rfl ?_
  refine wp_iload_n dX12_fits_13 rfl rfl ?_
  have c1 := h.1
  replace h := h.2
  refine wp_lald dX12_fits_14 rfl (by decide) c1 ?_
  refine wp_lstore dX12_fits_15 (by decide) (wp_L (L' := [some (vR 124), some (vI l1), some (vI l2), some (vI (600 * (MI 124 7))), some (vL (ML 150 l2.toNat)), none, none, none, none, none, none, none]) rfl ?_)
  refine wp_aload_n dX12_fits_17 rfl rfl (by first | exact Or.inl (by decide) | exact Or.inl (by omega) | exact Or.inr (by decide) | exact Or.inr (by omega)) ?_
  refine wp_getR dX12_fits_18 fX12_98 rfl (by decide) ?_
  refine wp_topR (x' := 152) rfl ?_
  refine wp_iload_n dX12_fits_21 rfl rfl ?_
  refine wp_zald dX12_fits_22 rfl (by decide) c1 ?_
  refine wp_istore dX12_fits_23 (by decide) (wp_L (L' := [some (vR 124), some (vI l1), some (vI l2), some (vI (600 * (MI 124 7))), some (vL (ML 150 l2.toNat)), none, some (vI (MI 152 l2.toNat)), none, none, none, none, none]) rfl ?_)
  refine wp_pc (pc' := 25) rfl ?_
  refine wp_iload_n dX12_fits_25 rfl rfl ?_
  refine wp_iconst dX12_fits_26 (by decide) ?_
  have c2 := h.1
  replace h := h.2
  refine wp_iaddr dX12_fits_27 c2 ?_
  refine wp_istore dX12_fits_28 (by decide) (wp_L (L' := [some (vR 124), some (vI l1), some (vI l2), some (vI (600 * (MI 124 7))), some (vL (ML 150 l2.toNat)), none, some (vI (MI 152 l2.toNat)), some (vI (l1 + 1)), none, none, none, none]) rfl ?_)
  exact h
theorem v_X12_fits_30 {cs : Cs} {Q : Option AV → Mm → Prop} {MI ML : Nat → Nat → Int} {d e nw th x : Nat} {l1 l2 l3 l4 l6 l7 : Int}
    (h : (0 ≤ (MI 124 7) ∧ (MI 124 7) < 2) ∧ ((l7 < (MI 129 (MI 124 7).toNat) → (-2147483648 ≤ l3 + l7 ∧ l3 + l7 < 2147483648) ∧ (0 ≤ (l3 + l7) ∧ (l3 + l7) < 1200) ∧ (((MI 131 (l3 + l7).toNat) = l1 → (((MI 130 (l3 + l7).toNat) = 2 → wp cs mX12_fits KD Q 315 [some (vR 124), some (vI l1), some (vI l2), some (vI l3), some (vL l4), none, some (vI l6), some (vI l7), none, none, none, none] [] (KD, MI, ML, (GR d e nw th x))) ∧ ((MI 130 (l3 + l7).toNat) ≠ 2 → (((MI 130 (l3 + l7).toNat) = 3 → wp cs mX12_fits KD Q 91 [some (vR 124), some (vI l1), some (vI l2), some (vI l3), some (vL l4), none, some (vI l6), some (vI l7), none, none, none, none] [vI 1] (KD, MI, ML, (GR d e nw th x))) ∧ ((MI 130 (l3 + l7).toNat) ≠ 3 → wp cs mX12_fits KD Q 91 [some (vR 124), some (vI l1), some (vI l2), some (vI l3), some (vL l4), none, some (vI l6), some (vI l7), none, none, none, none] [vI 0] (KD, MI, ML, (GR d e nw th x))))))) ∧ ((MI 131 (l3 + l7).toNat) ≠ l1 → wp cs mX12_fits KD Q 315 [some (vR 124), some (vI l1), some (vI l2), some (vI l3), some (vL l4), none, some (vI l6), some (vI l7), none, none, none, none] [] (KD, MI, ML, (GR d e nw th x))))) ∧ ((MI 129 (MI 124 7).toNat) ≤ l7 → (0 ≤ l2 ∧ l2 < 60) ∧ (((MI 146 l2.toNat) = 3 → ((l6 = 0 → Q (some (vI 0)) (MI, ML, (GR d e nw th x))) ∧ (l6 ≠ 0 → Q (some (vI 1)) (MI, ML, (GR d e nw th x))))) ∧ ((MI 146 l2.toNat) ≠ 3 → Q (some (vI 1)) (MI, ML, (GR d e nw th x))))))) :
    wp cs mX12_fits KD Q 30 [some (vR 124), some (vI l1), some (vI l2), some (vI l3), some (vL l4), none, some (vI l6), some (vI l7), none, none, none, none] [] (KD, MI, ML, (GR d e nw th x)) := by
  refine wp_iload dX12_fits_30 rfl ?_
  refine wp_aload_n dX12_fits_32 rfl rfl (by first | exact Or.inl (by decide) | exact Or.inl (by omega) | exact Or.inr (by decide) | exact Or.inr (by omega)) ?_
  refine wp_getR dX12_fits_33 fX12_27 rfl (by decide) ?_
  refine wp_topR (x' := 129) rfl ?_
  refine wp_aload_n dX12_fits_36 rfl rfl (by first | exact Or.inl (by decide) | exact Or.inl (by omega) | exact Or.inr (by decide) | exact Or.inr (by omega)) ?_
  refine wp_getI dX12_fits_37 fX12_482 rfl (by decide) ?_
  have c0 := h.1
  replace h := h.2
  refine wp_iald dX12_fits_40 rfl (by decide) c0 ?_
  refine wp_icmp_ge (tgt := 321) dX12_fits_41 (by decide) (fun h41 => ?_) (fun h41 => ?_)
  · replace h := h.2 h41
    refine wp_aload_n dX12_fits_321 rfl rfl (by first | exact Or.inl (by decide) | exact Or.inl (by omega) | exact Or.inr (by decide) | exact Or.inr (by omega)) ?_
    refine wp_getR dX12_fits_322 fX12_79 rfl (by decide) ?_
    refine wp_topR (x' := 146) rfl ?_
    refine wp_iload_n dX12_fits_325 rfl rfl ?_
    have c1 := h.1
    replace h := h.2
    refine wp_iald dX12_fits_326 rfl (by decide) c1 ?_
    refine wp_iconst dX12_fits_327 (by decide) ?_
    refine wp_icmp_ne (tgt := 336) dX12_fits_328 (by decide) (fun h328 => ?_) (fun h328 => ?_)
    · replace h := h.2 h328
      refine wp_iconst dX12_fits_336 (by decide) ?_
      refine wp_goto (tgt := 341) dX12_fits_337 (by decide) ?_
      exact wp_zret dX12_fits_341 rfl (by decide) (fun _ => h)
    · replace h := h.1 h328
      refine wp_iload dX12_fits_331 rfl ?_
      refine wp_if_eq (tgt := 340) dX12_fits_333 (by decide) (fun h333 => ?_) (fun h333 => ?_)
      · replace h := h.1 h333
        refine wp_iconst dX12_fits_340 (by decide) ?_
        exact wp_zret dX12_fits_341 rfl (by decide) (fun _ => h)
      · replace h := h.2 h333
        refine wp_iconst dX12_fits_336 (by decide) ?_
        refine wp_goto (tgt := 341) dX12_fits_337 (by decide) ?_
        exact wp_zret dX12_fits_341 rfl (by decide) (fun _ => h)
  · replace h := h.1 h41
    refine wp_aload_n dX12_fits_44 rfl rfl (by first | exact Or.inl (by decide) | exact Or.inl (by omega) | exact Or.inr (by decide) | exact Or.inr (by omega)) ?_
    refine wp_getR dX12_fits_45 fX12_34 rfl (by decide) ?_
    refine wp_topR (x' := 131) rfl ?_
    refine wp_iload_n dX12_fits_48 rfl rfl ?_
    refine wp_iload dX12_fits_49 rfl ?_
    have c1 := h.1
    replace h := h.2
    refine wp_iaddr dX12_fits_51 c1 ?_
    have c2 := h.1
    replace h := h.2
    refine wp_iald dX12_fits_52 rfl (by decide) c2 ?_
    refine wp_iload_n dX12_fits_53 rfl rfl ?_
    refine wp_pc (pc' := 54) rfl ?_
    refine wp_icmp_ne (tgt := 315) dX12_fits_54 (by decide) (fun h54 => ?_) (fun h54 => ?_)
    · replace h := h.2 h54
      exact h
    · replace h := h.1 h54
      refine wp_aload_n dX12_fits_57 rfl rfl (by first | exact Or.inl (by decide) | exact Or.inl (by omega) | exact Or.inr (by decide) | exact Or.inr (by omega)) ?_
      refine wp_getR dX12_fits_58 fX12_31 rfl (by decide) ?_
      refine wp_topR (x' := 130) rfl ?_
      refine wp_iload_n dX12_fits_61 rfl rfl ?_
      refine wp_iload dX12_fits_62 rfl ?_
      refine wp_iaddr dX12_fits_64 c1 ?_
      refine wp_iald dX12_fits_65 rfl (by decide) c2 ?_
      refine wp_iconst dX12_fits_66 (by decide) ?_
      refine wp_pc (pc' := 67) rfl ?_
      refine wp_icmp_ne (tgt := 73) dX12_fits_67 (by decide) (fun h67 => ?_) (fun h67 => ?_)
      · replace h := h.2 h67
        refine wp_aload_n dX12_fits_73 rfl rfl (by first | exact Or.inl (by decide) | exact Or.inl (by omega) | exact Or.inr (by decide) | exact Or.inr (by omega)) ?_
        refine wp_getR dX12_fits_74 fX12_31 rfl (by decide) ?_
        refine wp_topR (x' := 130) rfl ?_
        refine wp_iload_n dX12_fits_77 rfl rfl ?_
        refine wp_iload dX12_fits_78 rfl ?_
        refine wp_iaddr dX12_fits_80 c1 ?_
        refine wp_iald dX12_fits_81 rfl (by decide) c2 ?_
        refine wp_iconst dX12_fits_82 (by decide) ?_
        refine wp_pc (pc' := 83) rfl ?_
        refine wp_icmp_ne (tgt := 90) dX12_fits_83 (by decide) (fun h83 => ?_) (fun h83 => ?_)
        · replace h := h.2 h83
          refine wp_iconst dX12_fits_90 (by decide) ?_
          exact h
        · replace h := h.1 h83
          refine wp_iconst dX12_fits_86 (by decide) ?_
          refine wp_goto (tgt := 91) dX12_fits_87 (by decide) ?_
          exact h
      · replace h := h.1 h67
        refine wp_goto (tgt := 315) dX12_fits_70 (by decide) ?_
        exact h
theorem v_X12_fits_91 {cs : Cs} {Q : Option AV → Mm → Prop} {MI ML : Nat → Nat → Int} {d e nw th x : Nat} {l1 l2 l3 l4 l6 l7 s0 : Int}
    (h : (0 ≤ l2 ∧ l2 < 60) ∧ (((MI 146 l2.toNat) = 0 → Q (some (vI 0)) (MI, ML, (GR d e nw th x))) ∧ ((MI 146 l2.toNat) ≠ 0 → (((MI 146 l2.toNat) = 1 → ((s0 = 0 → (-2147483648 ≤ l3 + l7 ∧ l3 + l7 < 2147483648) ∧ (0 ≤ (l3 + l7) ∧ (l3 + l7) < 1200) ∧ wp cs mX12_declOf KD (rI (GR d e nw th x) fun x136 m136 n136 => ((x136 < 0 → Q (some (vI 0)) (m136, n136, (GR d e nw th x))) ∧ (0 ≤ x136 → wp cs mX12_fits KD Q 144 [some (vR 124), some (vI l1), some (vI l2), some (vI l3), some (vL l4), none, some (vI l6), some (vI l7), some (vI s0), none, none, none] [] (KD, m136, n136, (GR d e nw th x))))) 0 (padL [vR 124, vI (MI 132 (l3 + l7).toNat), vI (MI 133 (l3 + l7).toNat)] 4) [] (KD, MI, ML, (GR d e nw th x))) ∧ (s0 ≠ 0 → wp cs mX12_fits KD Q 144 [some (vR 124), some (vI l1), some (vI l2), some (vI l3), some (vL l4), none, some (vI l6), some (vI l7), some (vI s0), none, none, none] [] (KD, MI, ML, (GR d e nw th x))))) ∧ ((MI 146 l2.toNat) ≠ 1 → wp cs mX12_fits KD Q 144 [some (vR 124), some (vI l1), some (vI l2), some (vI l3), some (vL l4), none, some (vI l6), some (vI l7), some (vI s0), none, none, none] [] (KD, MI, ML, (GR d e nw th x))))))) :
    wp cs mX12_fits KD Q 91 [some (vR 124), some (vI l1), some (vI l2), some (vI l3), some (vL l4), none, some (vI l6), some (vI l7), none, none, none, none] [vI s0] (KD, MI, ML, (GR d e nw th x)) := by
  refine wp_istore dX12_fits_91 (by decide) (wp_L (L' := [some (vR 124), some (vI l1), some (vI l2), some (vI l3), some (vL l4), none, some (vI l6), some (vI l7), some (vI s0), none, none, none]) rfl ?_)
  refine wp_aload_n dX12_fits_93 rfl rfl (by first | exact Or.inl (by decide) | exact Or.inl (by omega) | exact Or.inr (by decide) | exact Or.inr (by omega)) ?_
  refine wp_getR dX12_fits_94 fX12_79 rfl (by decide) ?_
  refine wp_topR (x' := 146) rfl ?_
  refine wp_iload_n dX12_fits_97 rfl rfl ?_
  have c0 := h.1
  replace h := h.2
  refine wp_iald dX12_fits_98 rfl (by decide) c0 ?_
  refine wp_if_eq (tgt := 142) dX12_fits_99 (by decide) (fun h99 => ?_) (fun h99 => ?_)
  · replace h := h.1 h99
    refine wp_iconst dX12_fits_142 (by decide) ?_
    exact wp_zret dX12_fits_143 rfl (by decide) (fun _ => h)
  · replace h := h.2 h99
    refine wp_aload_n dX12_fits_102 rfl rfl (by first | exact Or.inl (by decide) | exact Or.inl (by omega) | exact Or.inr (by decide) | exact Or.inr (by omega)) ?_
    refine wp_getR dX12_fits_103 fX12_79 rfl (by decide) ?_
    refine wp_topR (x' := 146) rfl ?_
    refine wp_iload_n dX12_fits_106 rfl rfl ?_
    refine wp_iald dX12_fits_107 rfl (by decide) c0 ?_
    refine wp_iconst dX12_fits_108 (by decide) ?_
    refine wp_icmp_ne (tgt := 144) dX12_fits_109 (by decide) (fun h109 => ?_) (fun h109 => ?_)
    · replace h := h.2 h109
      exact h
    · replace h := h.1 h109
      refine wp_iload dX12_fits_112 rfl ?_
      refine wp_if_ne (tgt := 144) dX12_fits_114 (by decide) (fun h114 => ?_) (fun h114 => ?_)
      · replace h := h.2 h114
        exact h
      · replace h := h.1 h114
        refine wp_aload_n dX12_fits_117 rfl rfl (by first | exact Or.inl (by decide) | exact Or.inl (by omega) | exact Or.inr (by decide) | exact Or.inr (by omega)) ?_
        refine wp_aload_n dX12_fits_118 rfl rfl (by first | exact Or.inl (by decide) | exact Or.inl (by omega) | exact Or.inr (by decide) | exact Or.inr (by omega)) ?_
        refine wp_getR dX12_fits_119 fX12_37 rfl (by decide) ?_
        refine wp_topR (x' := 132) rfl ?_
        refine wp_iload_n dX12_fits_122 rfl rfl ?_
        refine wp_iload dX12_fits_123 rfl ?_
        have c1 := h.1
        replace h := h.2
        refine wp_iaddr dX12_fits_125 c1 ?_
        have c2 := h.1
        replace h := h.2
        refine wp_iald dX12_fits_126 rfl (by decide) c2 ?_
        refine wp_pc (pc' := 127) rfl ?_
        refine wp_aload_n dX12_fits_127 rfl rfl (by first | exact Or.inl (by decide) | exact Or.inl (by omega) | exact Or.inr (by decide) | exact Or.inr (by omega)) ?_
        refine wp_getR dX12_fits_128 fX12_40 rfl (by decide) ?_
        refine wp_topR (x' := 133) rfl ?_
        refine wp_iload_n dX12_fits_131 rfl rfl ?_
        refine wp_iload dX12_fits_132 rfl ?_
        refine wp_iaddr dX12_fits_134 c1 ?_
        refine wp_iald dX12_fits_135 rfl (by decide) c2 ?_
        refine wp_cVq (n := 2) (mt' := mX12_declOf) (as := [vI (MI 132 (l3 + l7).toNat), vI (MI 133 (l3 + l7).toNat)]) (rest := []) _ dX12_fits_136 lX12_516 kX12_declOf vX12_declOf (by decide) (by decide +kernel) rfl (Nat.le_of_ble_eq_true rfl) (by decide) rfl rfl rfl (Nat.le_of_ble_eq_true rfl) (fun hM hS => h) (fun r M' hq hM => ?_)
        obtain ⟨x136, m136, n136, rfl, rfl, h⟩ := rI_out hq
        refine wp_if_ge (tgt := 144) dX12_fits_139 (by decide) (fun h139 => ?_) (fun h139 => ?_)
        · replace h := h.2 h139
          exact h
        · replace h := h.1 h139
          refine wp_iconst dX12_fits_142 (by decide) ?_
          exact wp_zret dX12_fits_143 rfl (by decide) (fun _ => h)
theorem v_X12_fits_144 {cs : Cs} {Q : Option AV → Mm → Prop} {MI ML : Nat → Nat → Int} {d e nw th x : Nat} {l1 l2 l3 l4 l6 l7 l8 : Int}
    (h : (0 ≤ l2 ∧ l2 < 60) ∧ (((MI 146 l2.toNat) = 2 → ((l8 = 0 → wp cs mX12_named KD (rJ (GR d e nw th x) fun x166 m166 n166 => ((x166 = 0 → Q (some (vI 0)) (m166, n166, (GR d e nw th x))) ∧ (x166 ≠ 0 → wp cs mX12_fits KD Q 174 [some (vR 124), some (vI l1), some (vI l2), some (vI l3), some (vL l4), none, some (vI l6), some (vI l7), some (vI l8), none, none, none] [] (KD, m166, n166, (GR d e nw th x))))) 0 (padL [vR 124, vI l2, vL (-1), vI l7] 9) [] (KD, MI, ML, (GR d e nw th x))) ∧ (l8 ≠ 0 → wp cs mX12_fits KD Q 174 [some (vR 124), some (vI l1), some (vI l2), some (vI l3), some (vL l4), none, some (vI l6), some (vI l7), some (vI l8), none, none, none] [] (KD, MI, ML, (GR d e nw th x))))) ∧ ((MI 146 l2.toNat) ≠ 2 → wp cs mX12_fits KD Q 174 [some (vR 124), some (vI l1), some (vI l2), some (vI l3), some (vL l4), none, some (vI l6), some (vI l7), some (vI l8), none, none, none] [] (KD, MI, ML, (GR d e nw th x))))) :
    wp cs mX12_fits KD Q 144 [some (vR 124), some (vI l1), some (vI l2), some (vI l3), some (vL l4), none, some (vI l6), some (vI l7), some (vI l8), none, none, none] [] (KD, MI, ML, (GR d e nw th x)) := by
  refine wp_aload_n dX12_fits_144 rfl rfl (by first | exact Or.inl (by decide) | exact Or.inl (by omega) | exact Or.inr (by decide) | exact Or.inr (by omega)) ?_
  refine wp_getR dX12_fits_145 fX12_79 rfl (by decide) ?_
  refine wp_topR (x' := 146) rfl ?_
  refine wp_iload_n dX12_fits_148 rfl rfl ?_
  have c0 := h.1
  replace h := h.2
  refine wp_iald dX12_fits_149 rfl (by decide) c0 ?_
  refine wp_iconst dX12_fits_150 (by decide) ?_
  refine wp_icmp_ne (tgt := 174) dX12_fits_151 (by decide) (fun h151 => ?_) (fun h151 => ?_)
  · replace h := h.2 h151
    exact h
  · replace h := h.1 h151
    refine wp_iload dX12_fits_154 rfl ?_
    refine wp_if_ne (tgt := 174) dX12_fits_156 (by decide) (fun h156 => ?_) (fun h156 => ?_)
    · replace h := h.2 h156
      exact h
    · replace h := h.1 h156
      refine wp_aload_n dX12_fits_159 rfl rfl (by first | exact Or.inl (by decide) | exact Or.inl (by omega) | exact Or.inr (by decide) | exact Or.inr (by omega)) ?_
      refine wp_iload_n dX12_fits_160 rfl rfl ?_
      refine wp_ldc2 (x := (-1)) dX12_fits_161 cX12_526 (by decide) ?_
      refine wp_iload dX12_fits_164 rfl ?_
      refine wp_cVq (n := 3) (mt' := mX12_named) (as := [vI l2, vL (-1), vI l7]) (rest := []) _ dX12_fits_166 lX12_558 kX12_named vX12_named (by decide) (by decide +kernel) rfl (Nat.le_of_ble_eq_true rfl) (by decide) rfl rfl rfl (Nat.le_of_ble_eq_true rfl) (fun hM hS => h) (fun r M' hq hM => ?_)
      obtain ⟨x166, m166, n166, rfl, rfl, h⟩ := rJ_out hq
      refine wp_lconst (z := 0) dX12_fits_169 (by decide +kernel) (by decide) ?_
      refine wp_lcmp dX12_fits_170 ?_
      refine wp_if_eq (tgt := 201) dX12_fits_171 (by decide) (fun h171 => ?_) (fun h171 => ?_)
      · replace h := h.1 (l_cmp_z h171)
        refine wp_iconst dX12_fits_201 (by decide) ?_
        exact wp_zret dX12_fits_202 rfl (by decide) (fun _ => h)
      · replace h := h.2 (l_cmp_nz h171)
        exact h
theorem v_X12_fits_174 {cs : Cs} {Q : Option AV → Mm → Prop} {MI ML : Nat → Nat → Int} {d e nw th x : Nat} {l1 l2 l3 l4 l6 l7 l8 : Int}
    (h : (0 ≤ l2 ∧ l2 < 60) ∧ (((MI 146 l2.toNat) = 3 → ((l8 = 0 → wp cs mX12_fits KD Q 203 [some (vR 124), some (vI l1), some (vI l2), some (vI l3), some (vL l4), none, some (vI l6), some (vI l7), some (vI l8), none, none, none] [] (KD, MI, ML, (GR d e nw th x))) ∧ (l8 ≠ 0 → (-2147483648 ≤ l3 + l7 ∧ l3 + l7 < 2147483648) ∧ (0 ≤ (l3 + l7) ∧ (l3 + l7) < 1200) ∧ (((MI 137 (l3 + l7).toNat) = 0 → Q (some (vI 0)) (MI, ML, (GR d e nw th x))) ∧ ((MI 137 (l3 + l7).toNat) ≠ 0 → wp cs mX12_fits KD Q 203 [some (vR 124), some (vI l1), some (vI l2), some (vI l3), some (vL l4), none, some (vI l6), some (vI l7), some (vI l8), none, none, none] [] (KD, MI, ML, (GR d e nw th x))))))) ∧ ((MI 146 l2.toNat) ≠ 3 → wp cs mX12_fits KD Q 203 [some (vR 124), some (vI l1), some (vI l2), some (vI l3), some (vL l4), none, some (vI l6), some (vI l7), some (vI l8), none, none, none] [] (KD, MI, ML, (GR d e nw th x))))) :
    wp cs mX12_fits KD Q 174 [some (vR 124), some (vI l1), some (vI l2), some (vI l3), some (vL l4), none, some (vI l6), some (vI l7), some (vI l8), none, none, none] [] (KD, MI, ML, (GR d e nw th x)) := by
  refine wp_aload_n dX12_fits_174 rfl rfl (by first | exact Or.inl (by decide) | exact Or.inl (by omega) | exact Or.inr (by decide) | exact Or.inr (by omega)) ?_
  refine wp_getR dX12_fits_175 fX12_79 rfl (by decide) ?_
  refine wp_topR (x' := 146) rfl ?_
  refine wp_iload_n dX12_fits_178 rfl rfl ?_
  have c0 := h.1
  replace h := h.2
  refine wp_iald dX12_fits_179 rfl (by decide) c0 ?_
  refine wp_iconst dX12_fits_180 (by decide) ?_
  refine wp_icmp_ne (tgt := 203) dX12_fits_181 (by decide) (fun h181 => ?_) (fun h181 => ?_)
  · replace h := h.2 h181
    exact h
  · replace h := h.1 h181
    refine wp_iload dX12_fits_184 rfl ?_
    refine wp_if_eq (tgt := 203) dX12_fits_186 (by decide) (fun h186 => ?_) (fun h186 => ?_)
    · replace h := h.1 h186
      exact h
    · replace h := h.2 h186
      refine wp_aload_n dX12_fits_189 rfl rfl (by first | exact Or.inl (by decide) | exact Or.inl (by omega) | exact Or.inr (by decide) | exact Or.inr (by omega)) ?_
      refine wp_getR dX12_fits_190 fX12_52 rfl (by decide) ?_
      refine wp_topR (x' := 137) rfl ?_
      refine wp_iload_n dX12_fits_193 rfl rfl ?_
      refine wp_iload dX12_fits_194 rfl ?_
      have c1 := h.1
      replace h := h.2
      refine wp_iaddr dX12_fits_196 c1 ?_
      have c2 := h.1
      replace h := h.2
      refine wp_zald dX12_fits_197 rfl (by decide) c2 ?_
      refine wp_if_ne (tgt := 203) dX12_fits_198 (by decide) (fun h198 => ?_) (fun h198 => ?_)
      · replace h := h.2 h198
        exact h
      · replace h := h.1 h198
        refine wp_iconst dX12_fits_201 (by decide) ?_
        exact wp_zret dX12_fits_202 rfl (by decide) (fun _ => h)
theorem v_X12_fits_203 {cs : Cs} {Q : Option AV → Mm → Prop} {MI ML : Nat → Nat → Int} {d e nw th x : Nat} {l1 l2 l3 l4 l6 l7 l8 : Int}
    (h : (0 ≤ l2 ∧ l2 < 60) ∧ (((MI 146 l2.toNat) = 3 → ((l8 = 0 → wp cs mX12_named KD (rJ (GR d e nw th x) fun x224 m224 n224 => wp cs mX12_fits KD Q 235 [some (vR 124), some (vI l1), some (vI l2), some (vI l3), some (vL 0), none, some (vI l6), some (vI l7), some (vI l8), some (vL x224), none, some (vI 0)] [] (KD, m224, n224, (GR d e nw th x))) 0 (padL [vR 124, vI l2, vL l4, vI l7] 9) [] (KD, MI, ML, (GR d e nw th x))) ∧ (l8 ≠ 0 → wp cs mX12_fits KD Q 315 [some (vR 124), some (vI l1), some (vI l2), some (vI l3), some (vL l4), none, some (vI l6), some (vI l7), none, none, none, none] [] (KD, MI, ML, (GR d e nw th x))))) ∧ ((MI 146 l2.toNat) ≠ 3 → wp cs mX12_fits KD Q 315 [some (vR 124), some (vI l1), some (vI l2), some (vI l3), some (vL l4), none, some (vI l6), some (vI l7), none, none, none, none] [] (KD, MI, ML, (GR d e nw th x))))) :
    wp cs mX12_fits KD Q 203 [some (vR 124), some (vI l1), some (vI l2), some (vI l3), some (vL l4), none, some (vI l6), some (vI l7), some (vI l8), none, none, none] [] (KD, MI, ML, (GR d e nw th x)) := by
  refine wp_aload_n dX12_fits_203 rfl rfl (by first | exact Or.inl (by decide) | exact Or.inl (by omega) | exact Or.inr (by decide) | exact Or.inr (by omega)) ?_
  refine wp_getR dX12_fits_204 fX12_79 rfl (by decide) ?_
  refine wp_topR (x' := 146) rfl ?_
  refine wp_iload_n dX12_fits_207 rfl rfl ?_
  have c0 := h.1
  replace h := h.2
  refine wp_iald dX12_fits_208 rfl (by decide) c0 ?_
  refine wp_iconst dX12_fits_209 (by decide) ?_
  refine wp_icmp_ne (tgt := 315) dX12_fits_210 (by decide) (fun h210 => ?_) (fun h210 => ?_)
  · replace h := h.2 h210
    refine wp_forget (L' := [some (vR 124), some (vI l1), some (vI l2), some (vI l3), some (vL l4), none, some (vI l6), some (vI l7), none, none, none, none]) (by repeat' (first | exact trivial | refine ⟨rfl, ?_⟩)) ?_
    exact h
  · replace h := h.1 h210
    refine wp_iload dX12_fits_213 rfl ?_
    refine wp_if_ne (tgt := 315) dX12_fits_215 (by decide) (fun h215 => ?_) (fun h215 => ?_)
    · replace h := h.2 h215
      refine wp_forget (L' := [some (vR 124), some (vI l1), some (vI l2), some (vI l3), some (vL l4), none, some (vI l6), some (vI l7), none, none, none, none]) (by repeat' (first | exact trivial | refine ⟨rfl, ?_⟩)) ?_
      exact h
    · replace h := h.1 h215
      refine wp_aload_n dX12_fits_218 rfl rfl (by first | exact Or.inl (by decide) | exact Or.inl (by omega) | exact Or.inr (by decide) | exact Or.inr (by omega)) ?_
      refine wp_iload_n dX12_fits_219 rfl rfl ?_
      refine wp_lload dX12_fits_220 rfl ?_
      refine wp_iload dX12_fits_222 rfl ?_
      refine wp_cVq (n := 3) (mt' := mX12_named) (as := [vI l2, vL l4, vI l7]) (rest := []) _ dX12_fits_224 lX12_558 kX12_named vX12_named (by decide) (by decide +kernel) rfl (Nat.le_of_ble_eq_true rfl) (by decide) rfl rfl rfl (Nat.le_of_ble_eq_true rfl) (fun hM hS => h) (fun r M' hq hM => ?_)
      obtain ⟨x224, m224, n224, rfl, rfl, h⟩ := rJ_out hq
      refine wp_lstore dX12_fits_227 (by decide) (wp_L (L' := [some (vR 124), some (vI l1), some (vI l2), some (vI l3), some (vL l4), none, some (vI l6), some (vI l7), some (vI l8), some (vL x224), none, none]) rfl ?_)
      refine wp_lconst (z := 0) dX12_fits_229 (by decide +kernel) (by decide) ?_
      refine wp_lstore dX12_fits_230 (by decide) (wp_L (L' := [some (vR 124), some (vI l1), some (vI l2), some (vI l3), some (vL 0), none, some (vI l6), some (vI l7), some (vI l8), some (vL x224), none, none]) rfl ?_)
      refine wp_iconst dX12_fits_232 (by decide) ?_
      refine wp_istore dX12_fits_233 (by decide) (wp_L (L' := [some (vR 124), some (vI l1), some (vI l2), some (vI l3), some (vL 0), none, some (vI l6), some (vI l7), some (vI l8), some (vL x224), none, some (vI 0)]) rfl ?_)
      exact h
theorem v_X12_fits_235 {cs : Cs} {Q : Option AV → Mm → Prop} {MI ML : Nat → Nat → Int} {d e nw th x : Nat} {l1 l2 l3 l4 l6 l7 l8 l9 l11 : Int}
    (h : (0 ≤ l2 ∧ l2 < 60) ∧ ((l11 < (MI 147 l2.toNat) → (((l_and (l_shr l9 l11) 1) = 1 → (-2147483648 ≤ 40 * l2 ∧ 40 * l2 < 2147483648) ∧ (-2147483648 ≤ (40 * l2) + l11 ∧ (40 * l2) + l11 < 2147483648) ∧ (0 ≤ ((40 * l2) + l11) ∧ ((40 * l2) + l11) < 2400) ∧ (-2147483648 ≤ l11 + 1 ∧ l11 + 1 < 2147483648) ∧ wp cs mX12_fits KD Q 235 [some (vR 124), some (vI l1), some (vI l2), some (vI l3), some (vL (l_or l4 (ML 153 ((40 * l2) + l11).toNat))), none, some (vI l6), some (vI l7), some (vI l8), some (vL l9), none, some (vI (l11 + 1))] [] (KD, MI, ML, (GR d e nw th x))) ∧ ((l_and (l_shr l9 l11) 1) ≠ 1 → (-2147483648 ≤ l11 + 1 ∧ l11 + 1 < 2147483648) ∧ wp cs mX12_fits KD Q 235 [some (vR 124), some (vI l1), some (vI l2), some (vI l3), some (vL (l_or l4 0)), none, some (vI l6), some (vI l7), some (vI l8), some (vL l9), none, some (vI (l11 + 1))] [] (KD, MI, ML, (GR d e nw th x))))) ∧ ((MI 147 l2.toNat) ≤ l11 → (((l_and l9 (ML 151 l2.toNat)) = 0 → ((l9 = 0 → Q (some (vI 0)) (MI, ML, (GR d e nw th x))) ∧ (l9 ≠ 0 → wp cs mX12_fits KD Q 315 [some (vR 124), some (vI l1), some (vI l2), some (vI l3), some (vL l4), none, some (vI 0), some (vI l7), none, none, none, none] [] (KD, MI, ML, (GR d e nw th x))))) ∧ ((l_and l9 (ML 151 l2.toNat)) ≠ 0 → ((l9 = 0 → Q (some (vI 0)) (MI, ML, (GR d e nw th x))) ∧ (l9 ≠ 0 → wp cs mX12_fits KD Q 315 [some (vR 124), some (vI l1), some (vI l2), some (vI l3), some (vL l4), none, some (vI 1), some (vI l7), none, none, none, none] [] (KD, MI, ML, (GR d e nw th x))))))))) :
    wp cs mX12_fits KD Q 235 [some (vR 124), some (vI l1), some (vI l2), some (vI l3), some (vL l4), none, some (vI l6), some (vI l7), some (vI l8), some (vL l9), none, some (vI l11)] [] (KD, MI, ML, (GR d e nw th x)) := by
  refine wp_iload dX12_fits_235 rfl ?_
  refine wp_aload_n dX12_fits_237 rfl rfl (by first | exact Or.inl (by decide) | exact Or.inl (by omega) | exact Or.inr (by decide) | exact Or.inr (by omega)) ?_
  refine wp_getR dX12_fits_238 fX12_82 rfl (by decide) ?_
  refine wp_topR (x' := 147) rfl ?_
  refine wp_iload_n dX12_fits_241 rfl rfl ?_
  have c0 := h.1
  replace h := h.2
  refine wp_iald dX12_fits_242 rfl (by decide) c0 ?_
  refine wp_icmp_ge (tgt := 285) dX12_fits_243 (by decide) (fun h243 => ?_) (fun h243 => ?_)
  · replace h := h.2 h243
    refine wp_lload dX12_fits_285 rfl ?_
    refine wp_aload_n dX12_fits_287 rfl rfl (by first | exact Or.inl (by decide) | exact Or.inl (by omega) | exact Or.inr (by decide) | exact Or.inr (by omega)) ?_
    refine wp_getR dX12_fits_288 fX12_95 rfl (by decide) ?_
    refine wp_topR (x' := 151) rfl ?_
    refine wp_iload_n dX12_fits_291 rfl rfl ?_
    refine wp_lald dX12_fits_292 rfl (by decide) c0 ?_
    refine wp_land dX12_fits_293 ?_
    refine wp_lconst (z := 0) dX12_fits_294 (by decide +kernel) (by decide) ?_
    refine wp_pc (pc' := 295) rfl ?_
    refine wp_lcmp dX12_fits_295 ?_
    refine wp_if_eq (tgt := 303) dX12_fits_296 (by decide) (fun h296 => ?_) (fun h296 => ?_)
    · replace h := h.1 (l_cmp_z h296)
      refine wp_iconst dX12_fits_303 (by decide) ?_
      refine wp_istore dX12_fits_304 (by decide) (wp_L (L' := [some (vR 124), some (vI l1), some (vI l2), some (vI l3), some (vL l4), none, some (vI 0), some (vI l7), some (vI l8), some (vL l9), none, some (vI l11)]) rfl ?_)
      refine wp_lload dX12_fits_306 rfl ?_
      refine wp_lconst (z := 0) dX12_fits_308 (by decide +kernel) (by decide) ?_
      refine wp_lcmp dX12_fits_309 ?_
      refine wp_if_ne (tgt := 315) dX12_fits_310 (by decide) (fun h310 => ?_) (fun h310 => ?_)
      · replace h := h.2 (l_cmp_nz h310)
        refine wp_forget (L' := [some (vR 124), some (vI l1), some (vI l2), some (vI l3), some (vL l4), none, some (vI 0), some (vI l7), none, none, none, none]) (by repeat' (first | exact trivial | refine ⟨rfl, ?_⟩)) ?_
        exact h
      · replace h := h.1 (l_cmp_z h310)
        refine wp_iconst dX12_fits_313 (by decide) ?_
        exact wp_zret dX12_fits_314 rfl (by decide) (fun _ => h)
    · replace h := h.2 (l_cmp_nz h296)
      refine wp_iconst dX12_fits_299 (by decide) ?_
      refine wp_goto (tgt := 304) dX12_fits_300 (by decide) ?_
      refine wp_istore dX12_fits_304 (by decide) (wp_L (L' := [some (vR 124), some (vI l1), some (vI l2), some (vI l3), some (vL l4), none, some (vI 1), some (vI l7), some (vI l8), some (vL l9), none, some (vI l11)]) rfl ?_)
      refine wp_lload dX12_fits_306 rfl ?_
      refine wp_lconst (z := 0) dX12_fits_308 (by decide +kernel) (by decide) ?_
      refine wp_lcmp dX12_fits_309 ?_
      refine wp_if_ne (tgt := 315) dX12_fits_310 (by decide) (fun h310 => ?_) (fun h310 => ?_)
      · replace h := h.2 (l_cmp_nz h310)
        refine wp_forget (L' := [some (vR 124), some (vI l1), some (vI l2), some (vI l3), some (vL l4), none, some (vI 1), some (vI l7), none, none, none, none]) (by repeat' (first | exact trivial | refine ⟨rfl, ?_⟩)) ?_
        exact h
      · replace h := h.1 (l_cmp_z h310)
        refine wp_iconst dX12_fits_313 (by decide) ?_
        exact wp_zret dX12_fits_314 rfl (by decide) (fun _ => h)
  · replace h := h.1 h243
    refine wp_lload dX12_fits_246 rfl ?_
    refine wp_lload dX12_fits_248 rfl ?_
    refine wp_iload dX12_fits_250 rfl ?_
    refine wp_lshr dX12_fits_252 ?_
    refine wp_lconst (z := 1) dX12_fits_253 (by decide +kernel) (by decide) ?_
    refine wp_land dX12_fits_254 ?_
    refine wp_lconst (z := 1) dX12_fits_255 (by decide +kernel) (by decide) ?_
    refine wp_pc (pc' := 256) rfl ?_
    refine wp_lcmp dX12_fits_256 ?_
    refine wp_if_ne (tgt := 275) dX12_fits_257 (by decide) (fun h257 => ?_) (fun h257 => ?_)
    · replace h := h.2 (l_cmp_nz h257)
      refine wp_lconst (z := 0) dX12_fits_275 (by decide +kernel) (by decide) ?_
      refine wp_lor dX12_fits_276 ?_
      refine wp_lstore dX12_fits_277 (by decide) (wp_L (L' := [some (vR 124), some (vI l1), some (vI l2), some (vI l3), some (vL (l_or l4 0)), none, some (vI l6), some (vI l7), some (vI l8), some (vL l9), none, some (vI l11)]) rfl ?_)
      have c1 := h.1
      replace h := h.2
      refine wp_iincr dX12_fits_279 rfl (by decide) c1 (wp_L (L' := [some (vR 124), some (vI l1), some (vI l2), some (vI l3), some (vL (l_or l4 0)), none, some (vI l6), some (vI l7), some (vI l8), some (vL l9), none, some (vI (l11 + 1))]) rfl ?_)
      refine wp_goto (tgt := 235) dX12_fits_282 (by decide) ?_
      exact h
    · replace h := h.1 (l_cmp_z h257)
      refine wp_aload_n dX12_fits_260 rfl rfl (by first | exact Or.inl (by decide) | exact Or.inl (by omega) | exact Or.inr (by decide) | exact Or.inr (by omega)) ?_
      refine wp_getR dX12_fits_261 fX12_101 rfl (by decide) ?_
      refine wp_topR (x' := 153) rfl ?_
      refine wp_bipush dX12_fits_264 (by decide +kernel) (by decide) ?_
      refine wp_iload_n dX12_fits_266 rfl rfl ?_
      have c1 := h.1
      replace h := h.2
      refine wp_imulr dX12_fits_267 c1 ?_
      refine wp_iload dX12_fits_268 rfl ?_
      have c2 := h.1
      replace h := h.2
      refine wp_iaddr dX12_fits_270 c2 ?_
      refine wp_pc (pc' := 271) rfl ?_
      have c3 := h.1
      replace h := h.2
      refine wp_lald dX12_fits_271 rfl (by decide) c3 ?_
      refine wp_goto (tgt := 276) dX12_fits_272 (by decide) ?_
      refine wp_lor dX12_fits_276 ?_
      refine wp_lstore dX12_fits_277 (by decide) (wp_L (L' := [some (vR 124), some (vI l1), some (vI l2), some (vI l3), some (vL (l_or l4 (ML 153 ((40 * l2) + l11).toNat))), none, some (vI l6), some (vI l7), some (vI l8), some (vL l9), none, some (vI l11)]) rfl ?_)
      have c4 := h.1
      replace h := h.2
      refine wp_iincr dX12_fits_279 rfl (by decide) c4 (wp_L (L' := [some (vR 124), some (vI l1), some (vI l2), some (vI l3), some (vL (l_or l4 (ML 153 ((40 * l2) + l11).toNat))), none, some (vI l6), some (vI l7), some (vI l8), some (vL l9), none, some (vI (l11 + 1))]) rfl ?_)
      refine wp_goto (tgt := 235) dX12_fits_282 (by decide) ?_
      exact h
theorem v_X12_fits_315 {cs : Cs} {Q : Option AV → Mm → Prop} {MI ML : Nat → Nat → Int} {d e nw th x : Nat} {l1 l2 l3 l4 l6 l7 : Int}
    (h : (-2147483648 ≤ l7 + 1 ∧ l7 + 1 < 2147483648) ∧ wp cs mX12_fits KD Q 30 [some (vR 124), some (vI l1), some (vI l2), some (vI l3), some (vL l4), none, some (vI l6), some (vI (l7 + 1)), none, none, none, none] [] (KD, MI, ML, (GR d e nw th x))) :
    wp cs mX12_fits KD Q 315 [some (vR 124), some (vI l1), some (vI l2), some (vI l3), some (vL l4), none, some (vI l6), some (vI l7), none, none, none, none] [] (KD, MI, ML, (GR d e nw th x)) := by
  have c0 := h.1
  replace h := h.2
  refine wp_iincr dX12_fits_315 rfl (by decide) c0 (wp_L (L' := [some (vR 124), some (vI l1), some (vI l2), some (vI l3), some (vL l4), none, some (vI l6), some (vI (l7 + 1)), none, none, none, none]) rfl ?_)
  refine wp_goto (tgt := 30) dX12_fits_318 (by decide) ?_
  exact h
theorem dX12_ruleFor_0 : decode cX12_ruleFor 0 = .ok (.sipush 800, 3) := by decide +kernel
theorem dX12_ruleFor_3 : decode cX12_ruleFor 3 = .ok (.aload_n 0, 1) := by decide +kernel
theorem dX12_ruleFor_4 : decode cX12_ruleFor 4 = .ok (.getfield 482, 3) := by decide +kernel
theorem dX12_ruleFor_7 : decode cX12_ruleFor 7 = .ok (.imul, 1) := by decide +kernel
theorem dX12_ruleFor_8 : decode cX12_ruleFor 8 = .ok (.istore_n 3, 1) := by decide +kernel
theorem dX12_ruleFor_9 : decode cX12_ruleFor 9 = .ok (.iload_n 3, 1) := by decide +kernel
theorem dX12_ruleFor_10 : decode cX12_ruleFor 10 = .ok (.sipush 800, 3) := by decide +kernel
theorem dX12_ruleFor_13 : decode cX12_ruleFor 13 = .ok (.aload_n 0, 1) := by decide +kernel
theorem dX12_ruleFor_14 : decode cX12_ruleFor 14 = .ok (.getfield 482, 3) := by decide +kernel
theorem dX12_ruleFor_17 : decode cX12_ruleFor 17 = .ok (.imul, 1) := by decide +kernel
theorem dX12_ruleFor_18 : decode cX12_ruleFor 18 = .ok (.aload_n 0, 1) := by decide +kernel
theorem dX12_ruleFor_19 : decode cX12_ruleFor 19 = .ok (.getfield 104, 3) := by decide +kernel
theorem dX12_ruleFor_22 : decode cX12_ruleFor 22 = .ok (.aload_n 0, 1) := by decide +kernel
theorem dX12_ruleFor_23 : decode cX12_ruleFor 23 = .ok (.getfield 482, 3) := by decide +kernel
theorem dX12_ruleFor_26 : decode cX12_ruleFor 26 = .ok (.iaload, 1) := by decide +kernel
theorem dX12_ruleFor_27 : decode cX12_ruleFor 27 = .ok (.iadd, 1) := by decide +kernel
theorem dX12_ruleFor_28 : decode cX12_ruleFor 28 = .ok (.if_icmp .ge 113, 3) := by decide +kernel
theorem dX12_ruleFor_31 : decode cX12_ruleFor 31 = .ok (.aload_n 0, 1) := by decide +kernel
theorem dX12_ruleFor_32 : decode cX12_ruleFor 32 = .ok (.aload_n 0, 1) := by decide +kernel
theorem dX12_ruleFor_33 : decode cX12_ruleFor 33 = .ok (.getfield 107, 3) := by decide +kernel
theorem dX12_ruleFor_36 : decode cX12_ruleFor 36 = .ok (.iload_n 3, 1) := by decide +kernel
theorem dX12_ruleFor_37 : decode cX12_ruleFor 37 = .ok (.iaload, 1) := by decide +kernel
theorem dX12_ruleFor_38 : decode cX12_ruleFor 38 = .ok (.aload_n 0, 1) := by decide +kernel
theorem dX12_ruleFor_39 : decode cX12_ruleFor 39 = .ok (.getfield 110, 3) := by decide +kernel
theorem dX12_ruleFor_42 : decode cX12_ruleFor 42 = .ok (.iload_n 3, 1) := by decide +kernel
theorem dX12_ruleFor_43 : decode cX12_ruleFor 43 = .ok (.iaload, 1) := by decide +kernel
theorem dX12_ruleFor_44 : decode cX12_ruleFor 44 = .ok (.aload_n 0, 1) := by decide +kernel
theorem dX12_ruleFor_45 : decode cX12_ruleFor 45 = .ok (.getfield 37, 3) := by decide +kernel
theorem dX12_ruleFor_48 : decode cX12_ruleFor 48 = .ok (.sipush 600, 3) := by decide +kernel
theorem dX12_ruleFor_51 : decode cX12_ruleFor 51 = .ok (.aload_n 0, 1) := by decide +kernel
theorem dX12_ruleFor_52 : decode cX12_ruleFor 52 = .ok (.getfield 482, 3) := by decide +kernel
theorem dX12_ruleFor_55 : decode cX12_ruleFor 55 = .ok (.imul, 1) := by decide +kernel
theorem dX12_ruleFor_56 : decode cX12_ruleFor 56 = .ok (.iload_n 1, 1) := by decide +kernel
theorem dX12_ruleFor_57 : decode cX12_ruleFor 57 = .ok (.iadd, 1) := by decide +kernel
theorem dX12_ruleFor_58 : decode cX12_ruleFor 58 = .ok (.iaload, 1) := by decide +kernel
theorem dX12_ruleFor_59 : decode cX12_ruleFor 59 = .ok (.aload_n 0, 1) := by decide +kernel
theorem dX12_ruleFor_60 : decode cX12_ruleFor 60 = .ok (.getfield 40, 3) := by decide +kernel
theorem dX12_ruleFor_63 : decode cX12_ruleFor 63 = .ok (.sipush 600, 3) := by decide +kernel
theorem dX12_ruleFor_66 : decode cX12_ruleFor 66 = .ok (.aload_n 0, 1) := by decide +kernel
theorem dX12_ruleFor_67 : decode cX12_ruleFor 67 = .ok (.getfield 482, 3) := by decide +kernel
theorem dX12_ruleFor_70 : decode cX12_ruleFor 70 = .ok (.imul, 1) := by decide +kernel
theorem dX12_ruleFor_71 : decode cX12_ruleFor 71 = .ok (.iload_n 1, 1) := by decide +kernel
theorem dX12_ruleFor_72 : decode cX12_ruleFor 72 = .ok (.iadd, 1) := by decide +kernel
theorem dX12_ruleFor_73 : decode cX12_ruleFor 73 = .ok (.iaload, 1) := by decide +kernel
theorem dX12_ruleFor_74 : decode cX12_ruleFor 74 = .ok (.invokevirtual 412, 3) := by decide +kernel
theorem dX12_ruleFor_77 : decode cX12_ruleFor 77 = .ok (.istore 4, 2) := by decide +kernel
theorem dX12_ruleFor_79 : decode cX12_ruleFor 79 = .ok (.iload 4, 2) := by decide +kernel
theorem dX12_ruleFor_81 : decode cX12_ruleFor 81 = .ok (.ifCond .eq 54, 3) := by decide +kernel
theorem dX12_ruleFor_84 : decode cX12_ruleFor 84 = .ok (.aload_n 0, 1) := by decide +kernel
theorem dX12_ruleFor_85 : decode cX12_ruleFor 85 = .ok (.aload_n 0, 1) := by decide +kernel
theorem dX12_ruleFor_86 : decode cX12_ruleFor 86 = .ok (.getfield 113, 3) := by decide +kernel
theorem dX12_ruleFor_89 : decode cX12_ruleFor 89 = .ok (.iload_n 3, 1) := by decide +kernel
theorem dX12_ruleFor_90 : decode cX12_ruleFor 90 = .ok (.iaload, 1) := by decide +kernel
theorem dX12_ruleFor_91 : decode cX12_ruleFor 91 = .ok (.aload_n 0, 1) := by decide +kernel
theorem dX12_ruleFor_92 : decode cX12_ruleFor 92 = .ok (.getfield 116, 3) := by decide +kernel
theorem dX12_ruleFor_95 : decode cX12_ruleFor 95 = .ok (.iload_n 3, 1) := by decide +kernel
theorem dX12_ruleFor_96 : decode cX12_ruleFor 96 = .ok (.iaload, 1) := by decide +kernel
theorem dX12_ruleFor_97 : decode cX12_ruleFor 97 = .ok (.aload_n 0, 1) := by decide +kernel
theorem dX12_ruleFor_98 : decode cX12_ruleFor 98 = .ok (.getfield 37, 3) := by decide +kernel
theorem dX12_ruleFor_101 : decode cX12_ruleFor 101 = .ok (.sipush 600, 3) := by decide +kernel
theorem dX12_ruleFor_104 : decode cX12_ruleFor 104 = .ok (.aload_n 0, 1) := by decide +kernel
theorem dX12_ruleFor_105 : decode cX12_ruleFor 105 = .ok (.getfield 482, 3) := by decide +kernel
theorem dX12_ruleFor_108 : decode cX12_ruleFor 108 = .ok (.imul, 1) := by decide +kernel
theorem dX12_ruleFor_109 : decode cX12_ruleFor 109 = .ok (.iload_n 2, 1) := by decide +kernel
theorem dX12_ruleFor_110 : decode cX12_ruleFor 110 = .ok (.iadd, 1) := by decide +kernel
theorem dX12_ruleFor_111 : decode cX12_ruleFor 111 = .ok (.iaload, 1) := by decide +kernel
theorem dX12_ruleFor_112 : decode cX12_ruleFor 112 = .ok (.aload_n 0, 1) := by decide +kernel
theorem dX12_ruleFor_113 : decode cX12_ruleFor 113 = .ok (.getfield 40, 3) := by decide +kernel
theorem dX12_ruleFor_116 : decode cX12_ruleFor 116 = .ok (.sipush 600, 3) := by decide +kernel
theorem dX12_ruleFor_119 : decode cX12_ruleFor 119 = .ok (.aload_n 0, 1) := by decide +kernel
theorem dX12_ruleFor_120 : decode cX12_ruleFor 120 = .ok (.getfield 482, 3) := by decide +kernel
theorem dX12_ruleFor_123 : decode cX12_ruleFor 123 = .ok (.imul, 1) := by decide +kernel
theorem dX12_ruleFor_124 : decode cX12_ruleFor 124 = .ok (.iload_n 2, 1) := by decide +kernel
theorem dX12_ruleFor_125 : decode cX12_ruleFor 125 = .ok (.iadd, 1) := by decide +kernel
theorem dX12_ruleFor_126 : decode cX12_ruleFor 126 = .ok (.iaload, 1) := by decide +kernel
theorem dX12_ruleFor_127 : decode cX12_ruleFor 127 = .ok (.invokevirtual 412, 3) := by decide +kernel
theorem dX12_ruleFor_130 : decode cX12_ruleFor 130 = .ok (.ifCond .eq 5, 3) := by decide +kernel
theorem dX12_ruleFor_133 : decode cX12_ruleFor 133 = .ok (.iload_n 3, 1) := by decide +kernel
theorem dX12_ruleFor_134 : decode cX12_ruleFor 134 = .ok (.ireturn, 1) := by decide +kernel
theorem dX12_ruleFor_135 : decode cX12_ruleFor 135 = .ok (.iinc 3 1, 3) := by decide +kernel
theorem dX12_ruleFor_138 : decode cX12_ruleFor 138 = .ok (.goto (-129), 3) := by decide +kernel
theorem dX12_ruleFor_141 : decode cX12_ruleFor 141 = .ok (.iconst (-1), 1) := by decide +kernel
theorem dX12_ruleFor_142 : decode cX12_ruleFor 142 = .ok (.ireturn, 1) := by decide +kernel
theorem v_X12_ruleFor_0 {cs : Cs} {Q : Option AV → Mm → Prop} {MI ML : Nat → Nat → Int} {d e nw th x : Nat} {l1 l2 : Int}
    (h : (-2147483648 ≤ 800 * (MI 124 7) ∧ 800 * (MI 124 7) < 2147483648) ∧ wp cs mX12_ruleFor KD Q 9 [some (vR 124), some (vI l1), some (vI l2), some (vI (800 * (MI 124 7))), none] [] (KD, MI, ML, (GR d e nw th x))) :
    wp cs mX12_ruleFor KD Q 0 (padL [vR 124, vI l1, vI l2] 5) [] (KD, MI, ML, (GR d e nw th x)) := by
  refine wp_L (L' := [some (vR 124), some (vI l1), some (vI l2), none, none]) rfl ?_
  refine wp_sipush dX12_ruleFor_0 (by decide +kernel) (by decide) ?_
  refine wp_aload_n dX12_ruleFor_3 rfl rfl (by first | exact Or.inl (by decide) | exact Or.inl (by omega) | exact Or.inr (by decide) | exact Or.inr (by omega)) ?_
  refine wp_getI dX12_ruleFor_4 fX12_482 rfl (by decide) ?_
  have c0 := h.1
  replace h := h.2
  refine wp_imulr dX12_ruleFor_7 c0 ?_
  refine wp_istore_n dX12_ruleFor_8 rfl (by decide) (wp_L (L' := [some (vR 124), some (vI l1), some (vI l2), some (vI (800 * (MI 124 7))), none]) rfl ?_)
  exact h
theorem v_X12_ruleFor_9 {cs : Cs} {Q : Option AV → Mm → Prop} {MI ML : Nat → Nat → Int} {d e nw th x : Nat} {l1 l2 l3 : Int}
    (h : (-2147483648 ≤ 800 * (MI 124 7) ∧ 800 * (MI 124 7) < 2147483648) ∧ (0 ≤ (MI 124 7) ∧ (MI 124 7) < 2) ∧ (-2147483648 ≤ (800 * (MI 124 7)) + (MI 154 (MI 124 7).toNat) ∧ (800 * (MI 124 7)) + (MI 154 (MI 124 7).toNat) < 2147483648) ∧ ((l3 < ((800 * (MI 124 7)) + (MI 154 (MI 124 7).toNat)) → (0 ≤ l3 ∧ l3 < 1600) ∧ (-2147483648 ≤ 600 * (MI 124 7) ∧ 600 * (MI 124 7) < 2147483648) ∧ (-2147483648 ≤ (600 * (MI 124 7)) + l1 ∧ (600 * (MI 124 7)) + l1 < 2147483648) ∧ (0 ≤ ((600 * (MI 124 7)) + l1) ∧ ((600 * (MI 124 7)) + l1) < 1200) ∧ wp cs mX12_isSame KD (rI (GR d e nw th x) fun x74 m74 n74 => ((x74 = 0 → (-2147483648 ≤ l3 + 1 ∧ l3 + 1 < 2147483648) ∧ wp cs mX12_ruleFor KD Q 9 [some (vR 124), some (vI l1), some (vI l2), some (vI (l3 + 1)), none] [] (KD, m74, n74, (GR d e nw th x))) ∧ (x74 ≠ 0 → (-2147483648 ≤ 600 * (m74 124 7) ∧ 600 * (m74 124 7) < 2147483648) ∧ (-2147483648 ≤ (600 * (m74 124 7)) + l2 ∧ (600 * (m74 124 7)) + l2 < 2147483648) ∧ (0 ≤ ((600 * (m74 124 7)) + l2) ∧ ((600 * (m74 124 7)) + l2) < 1200) ∧ wp cs mX12_isSame KD (rI (GR d e nw th x) fun x127 m127 n127 => ((x127 = 0 → (-2147483648 ≤ l3 + 1 ∧ l3 + 1 < 2147483648) ∧ wp cs mX12_ruleFor KD Q 9 [some (vR 124), some (vI l1), some (vI l2), some (vI (l3 + 1)), none] [] (KD, m127, n127, (GR d e nw th x))) ∧ (x127 ≠ 0 → Q (some (vI l3)) (m127, n127, (GR d e nw th x))))) 0 (padL [vR 124, vI (m74 157 l3.toNat), vI (m74 158 l3.toNat), vI (m74 132 ((600 * (m74 124 7)) + l2).toNat), vI (m74 133 ((600 * (m74 124 7)) + l2).toNat)] 7) [] (KD, m74, n74, (GR d e nw th x))))) 0 (padL [vR 124, vI (MI 155 l3.toNat), vI (MI 156 l3.toNat), vI (MI 132 ((600 * (MI 124 7)) + l1).toNat), vI (MI 133 ((600 * (MI 124 7)) + l1).toNat)] 7) [] (KD, MI, ML, (GR d e nw th x))) ∧ (((800 * (MI 124 7)) + (MI 154 (MI 124 7).toNat)) ≤ l3 → Q (some (vI (-1))) (MI, ML, (GR d e nw th x))))) :
    wp cs mX12_ruleFor KD Q 9 [some (vR 124), some (vI l1), some (vI l2), some (vI l3), none] [] (KD, MI, ML, (GR d e nw th x)) := by
  refine wp_iload_n dX12_ruleFor_9 rfl rfl ?_
  refine wp_sipush dX12_ruleFor_10 (by decide +kernel) (by decide) ?_
  refine wp_aload_n dX12_ruleFor_13 rfl rfl (by first | exact Or.inl (by decide) | exact Or.inl (by omega) | exact Or.inr (by decide) | exact Or.inr (by omega)) ?_
  refine wp_getI dX12_ruleFor_14 fX12_482 rfl (by decide) ?_
  have c0 := h.1
  replace h := h.2
  refine wp_imulr dX12_ruleFor_17 c0 ?_
  refine wp_aload_n dX12_ruleFor_18 rfl rfl (by first | exact Or.inl (by decide) | exact Or.inl (by omega) | exact Or.inr (by decide) | exact Or.inr (by omega)) ?_
  refine wp_getR dX12_ruleFor_19 fX12_104 rfl (by decide) ?_
  refine wp_topR (x' := 154) rfl ?_
  refine wp_pc (pc' := 22) rfl ?_
  refine wp_aload_n dX12_ruleFor_22 rfl rfl (by first | exact Or.inl (by decide) | exact Or.inl (by omega) | exact Or.inr (by decide) | exact Or.inr (by omega)) ?_
  refine wp_getI dX12_ruleFor_23 fX12_482 rfl (by decide) ?_
  have c1 := h.1
  replace h := h.2
  refine wp_iald dX12_ruleFor_26 rfl (by decide) c1 ?_
  have c2 := h.1
  replace h := h.2
  refine wp_iaddr dX12_ruleFor_27 c2 ?_
  refine wp_icmp_ge (tgt := 141) dX12_ruleFor_28 (by decide) (fun h28 => ?_) (fun h28 => ?_)
  · replace h := h.2 h28
    refine wp_iconst dX12_ruleFor_141 (by decide) ?_
    exact wp_iret dX12_ruleFor_142 rfl (fun _ => h)
  · replace h := h.1 h28
    refine wp_aload_n dX12_ruleFor_31 rfl rfl (by first | exact Or.inl (by decide) | exact Or.inl (by omega) | exact Or.inr (by decide) | exact Or.inr (by omega)) ?_
    refine wp_aload_n dX12_ruleFor_32 rfl rfl (by first | exact Or.inl (by decide) | exact Or.inl (by omega) | exact Or.inr (by decide) | exact Or.inr (by omega)) ?_
    refine wp_getR dX12_ruleFor_33 fX12_107 rfl (by decide) ?_
    refine wp_topR (x' := 155) rfl ?_
    refine wp_iload_n dX12_ruleFor_36 rfl rfl ?_
    have c3 := h.1
    replace h := h.2
    refine wp_iald dX12_ruleFor_37 rfl (by decide) c3 ?_
    refine wp_aload_n dX12_ruleFor_38 rfl rfl (by first | exact Or.inl (by decide) | exact Or.inl (by omega) | exact Or.inr (by decide) | exact Or.inr (by omega)) ?_
    refine wp_getR dX12_ruleFor_39 fX12_110 rfl (by decide) ?_
    refine wp_topR (x' := 156) rfl ?_
    refine wp_pc (pc' := 42) rfl ?_
    refine wp_iload_n dX12_ruleFor_42 rfl rfl ?_
    refine wp_iald dX12_ruleFor_43 rfl (by decide) c3 ?_
    refine wp_aload_n dX12_ruleFor_44 rfl rfl (by first | exact Or.inl (by decide) | exact Or.inl (by omega) | exact Or.inr (by decide) | exact Or.inr (by omega)) ?_
    refine wp_getR dX12_ruleFor_45 fX12_37 rfl (by decide) ?_
    refine wp_topR (x' := 132) rfl ?_
    refine wp_sipush dX12_ruleFor_48 (by decide +kernel) (by decide) ?_
    refine wp_aload_n dX12_ruleFor_51 rfl rfl (by first | exact Or.inl (by decide) | exact Or.inl (by omega) | exact Or.inr (by decide) | exact Or.inr (by omega)) ?_
    refine wp_getI dX12_ruleFor_52 fX12_482 rfl (by decide) ?_
    have c4 := h.1
    replace h := h.2
    refine wp_imulr dX12_ruleFor_55 c4 ?_
    refine wp_pc (pc' := 56) rfl ?_
    refine wp_iload_n dX12_ruleFor_56 rfl rfl ?_
    have c5 := h.1
    replace h := h.2
    refine wp_iaddr dX12_ruleFor_57 c5 ?_
    have c6 := h.1
    replace h := h.2
    refine wp_iald dX12_ruleFor_58 rfl (by decide) c6 ?_
    refine wp_aload_n dX12_ruleFor_59 rfl rfl (by first | exact Or.inl (by decide) | exact Or.inl (by omega) | exact Or.inr (by decide) | exact Or.inr (by omega)) ?_
    refine wp_getR dX12_ruleFor_60 fX12_40 rfl (by decide) ?_
    refine wp_topR (x' := 133) rfl ?_
    refine wp_sipush dX12_ruleFor_63 (by decide +kernel) (by decide) ?_
    refine wp_aload_n dX12_ruleFor_66 rfl rfl (by first | exact Or.inl (by decide) | exact Or.inl (by omega) | exact Or.inr (by decide) | exact Or.inr (by omega)) ?_
    refine wp_getI dX12_ruleFor_67 fX12_482 rfl (by decide) ?_
    refine wp_pc (pc' := 70) rfl ?_
    refine wp_imulr dX12_ruleFor_70 c4 ?_
    refine wp_iload_n dX12_ruleFor_71 rfl rfl ?_
    refine wp_iaddr dX12_ruleFor_72 c5 ?_
    refine wp_iald dX12_ruleFor_73 rfl (by decide) c6 ?_
    refine wp_cVq (n := 4) (mt' := mX12_isSame) (as := [vI (MI 155 l3.toNat), vI (MI 156 l3.toNat), vI (MI 132 ((600 * (MI 124 7)) + l1).toNat), vI (MI 133 ((600 * (MI 124 7)) + l1).toNat)]) (rest := []) _ dX12_ruleFor_74 lX12_412 kX12_isSame vX12_isSame (by decide) (by decide +kernel) rfl (Nat.le_of_ble_eq_true rfl) (by decide) rfl rfl rfl (Nat.le_of_ble_eq_true rfl) (fun hM hS => h) (fun r M' hq hM => ?_)
    obtain ⟨x74, m74, n74, rfl, rfl, h⟩ := rI_out hq
    refine wp_istore dX12_ruleFor_77 (by decide) (wp_L (L' := [some (vR 124), some (vI l1), some (vI l2), some (vI l3), some (vI x74)]) rfl ?_)
    refine wp_iload dX12_ruleFor_79 rfl ?_
    refine wp_if_eq (tgt := 135) dX12_ruleFor_81 (by decide) (fun h81 => ?_) (fun h81 => ?_)
    · replace h := h.1 h81
      have c7 := h.1
      replace h := h.2
      refine wp_iincr dX12_ruleFor_135 rfl (by decide) c7 (wp_L (L' := [some (vR 124), some (vI l1), some (vI l2), some (vI (l3 + 1)), some (vI x74)]) rfl ?_)
      refine wp_goto (tgt := 9) dX12_ruleFor_138 (by decide) ?_
      refine wp_forget (L' := [some (vR 124), some (vI l1), some (vI l2), some (vI (l3 + 1)), none]) (by repeat' (first | exact trivial | refine ⟨rfl, ?_⟩)) ?_
      exact h
    · replace h := h.2 h81
      refine wp_aload_n dX12_ruleFor_84 rfl rfl (by first | exact Or.inl (by decide) | exact Or.inl (by omega) | exact Or.inr (by decide) | exact Or.inr (by omega)) ?_
      refine wp_aload_n dX12_ruleFor_85 rfl rfl (by first | exact Or.inl (by decide) | exact Or.inl (by omega) | exact Or.inr (by decide) | exact Or.inr (by omega)) ?_
      refine wp_getR dX12_ruleFor_86 fX12_113 rfl (by decide) ?_
      refine wp_topR (x' := 157) rfl ?_
      refine wp_iload_n dX12_ruleFor_89 rfl rfl ?_
      refine wp_iald dX12_ruleFor_90 rfl (by decide) c3 ?_
      refine wp_aload_n dX12_ruleFor_91 rfl rfl (by first | exact Or.inl (by decide) | exact Or.inl (by omega) | exact Or.inr (by decide) | exact Or.inr (by omega)) ?_
      refine wp_getR dX12_ruleFor_92 fX12_116 rfl (by decide) ?_
      refine wp_topR (x' := 158) rfl ?_
      refine wp_pc (pc' := 95) rfl ?_
      refine wp_iload_n dX12_ruleFor_95 rfl rfl ?_
      refine wp_iald dX12_ruleFor_96 rfl (by decide) c3 ?_
      refine wp_aload_n dX12_ruleFor_97 rfl rfl (by first | exact Or.inl (by decide) | exact Or.inl (by omega) | exact Or.inr (by decide) | exact Or.inr (by omega)) ?_
      refine wp_getR dX12_ruleFor_98 fX12_37 rfl (by decide) ?_
      refine wp_topR (x' := 132) rfl ?_
      refine wp_sipush dX12_ruleFor_101 (by decide +kernel) (by decide) ?_
      refine wp_aload_n dX12_ruleFor_104 rfl rfl (by first | exact Or.inl (by decide) | exact Or.inl (by omega) | exact Or.inr (by decide) | exact Or.inr (by omega)) ?_
      refine wp_getI dX12_ruleFor_105 fX12_482 rfl (by decide) ?_
      have c7 := h.1
      replace h := h.2
      refine wp_imulr dX12_ruleFor_108 c7 ?_
      refine wp_pc (pc' := 109) rfl ?_
      refine wp_iload_n dX12_ruleFor_109 rfl rfl ?_
      have c8 := h.1
      replace h := h.2
      refine wp_iaddr dX12_ruleFor_110 c8 ?_
      have c9 := h.1
      replace h := h.2
      refine wp_iald dX12_ruleFor_111 rfl (by decide) c9 ?_
      refine wp_aload_n dX12_ruleFor_112 rfl rfl (by first | exact Or.inl (by decide) | exact Or.inl (by omega) | exact Or.inr (by decide) | exact Or.inr (by omega)) ?_
      refine wp_getR dX12_ruleFor_113 fX12_40 rfl (by decide) ?_
      refine wp_topR (x' := 133) rfl ?_
      refine wp_sipush dX12_ruleFor_116 (by decide +kernel) (by decide) ?_
      refine wp_aload_n dX12_ruleFor_119 rfl rfl (by first | exact Or.inl (by decide) | exact Or.inl (by omega) | exact Or.inr (by decide) | exact Or.inr (by omega)) ?_
      refine wp_getI dX12_ruleFor_120 fX12_482 rfl (by decide) ?_
      refine wp_pc (pc' := 123) rfl ?_
      refine wp_imulr dX12_ruleFor_123 c7 ?_
      refine wp_iload_n dX12_ruleFor_124 rfl rfl ?_
      refine wp_iaddr dX12_ruleFor_125 c8 ?_
      refine wp_iald dX12_ruleFor_126 rfl (by decide) c9 ?_
      refine wp_cVq (n := 4) (mt' := mX12_isSame) (as := [vI (m74 157 l3.toNat), vI (m74 158 l3.toNat), vI (m74 132 ((600 * (m74 124 7)) + l2).toNat), vI (m74 133 ((600 * (m74 124 7)) + l2).toNat)]) (rest := []) _ dX12_ruleFor_127 lX12_412 kX12_isSame vX12_isSame (by decide) (by decide +kernel) rfl (Nat.le_of_ble_eq_true rfl) (by decide) rfl rfl rfl (Nat.le_of_ble_eq_true rfl) (fun hM hS => h) (fun r M' hq hM => ?_)
      obtain ⟨x127, m127, n127, rfl, rfl, h⟩ := rI_out hq
      refine wp_if_eq (tgt := 135) dX12_ruleFor_130 (by decide) (fun h130 => ?_) (fun h130 => ?_)
      · replace h := h.1 h130
        have c10 := h.1
        replace h := h.2
        refine wp_iincr dX12_ruleFor_135 rfl (by decide) c10 (wp_L (L' := [some (vR 124), some (vI l1), some (vI l2), some (vI (l3 + 1)), some (vI x74)]) rfl ?_)
        refine wp_goto (tgt := 9) dX12_ruleFor_138 (by decide) ?_
        refine wp_forget (L' := [some (vR 124), some (vI l1), some (vI l2), some (vI (l3 + 1)), none]) (by repeat' (first | exact trivial | refine ⟨rfl, ?_⟩)) ?_
        exact h
      · replace h := h.2 h130
        refine wp_iload_n dX12_ruleFor_133 rfl rfl ?_
        exact wp_iret dX12_ruleFor_134 rfl (fun _ => h)
