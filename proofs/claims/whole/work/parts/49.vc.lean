theorem dX12_areSameKept_0 : decode cX12_areSameKept 0 = .ok (.iload_n 2, 1) := by decide +kernel
theorem dX12_areSameKept_1 : decode cX12_areSameKept 1 = .ok (.iload 4, 2) := by decide +kernel
theorem dX12_areSameKept_3 : decode cX12_areSameKept 3 = .ok (.if_icmp .ne 7, 3) := by decide +kernel
theorem dX12_areSameKept_6 : decode cX12_areSameKept 6 = .ok (.iconst 1, 1) := by decide +kernel
theorem dX12_areSameKept_7 : decode cX12_areSameKept 7 = .ok (.goto 4, 3) := by decide +kernel
theorem dX12_areSameKept_10 : decode cX12_areSameKept 10 = .ok (.iconst 0, 1) := by decide +kernel
theorem dX12_areSameKept_11 : decode cX12_areSameKept 11 = .ok (.istore 5, 2) := by decide +kernel
theorem dX12_areSameKept_13 : decode cX12_areSameKept 13 = .ok (.iconst 0, 1) := by decide +kernel
theorem dX12_areSameKept_14 : decode cX12_areSameKept 14 = .ok (.istore 6, 2) := by decide +kernel
theorem dX12_areSameKept_16 : decode cX12_areSameKept 16 = .ok (.iload 6, 2) := by decide +kernel
theorem dX12_areSameKept_18 : decode cX12_areSameKept 18 = .ok (.iload_n 2, 1) := by decide +kernel
theorem dX12_areSameKept_19 : decode cX12_areSameKept 19 = .ok (.if_icmp .ge 42, 3) := by decide +kernel
theorem dX12_areSameKept_22 : decode cX12_areSameKept 22 = .ok (.iload 5, 2) := by decide +kernel
theorem dX12_areSameKept_24 : decode cX12_areSameKept 24 = .ok (.ifCond .eq 37, 3) := by decide +kernel
theorem dX12_areSameKept_27 : decode cX12_areSameKept 27 = .ok (.aload_n 0, 1) := by decide +kernel
theorem dX12_areSameKept_28 : decode cX12_areSameKept 28 = .ok (.getfield 55, 3) := by decide +kernel
theorem dX12_areSameKept_31 : decode cX12_areSameKept 31 = .ok (.iload_n 1, 1) := by decide +kernel
theorem dX12_areSameKept_32 : decode cX12_areSameKept 32 = .ok (.iload 6, 2) := by decide +kernel
theorem dX12_areSameKept_34 : decode cX12_areSameKept 34 = .ok (.iadd, 1) := by decide +kernel
theorem dX12_areSameKept_35 : decode cX12_areSameKept 35 = .ok (.baload, 1) := by decide +kernel
theorem dX12_areSameKept_36 : decode cX12_areSameKept 36 = .ok (.aload_n 0, 1) := by decide +kernel
theorem dX12_areSameKept_37 : decode cX12_areSameKept 37 = .ok (.getfield 55, 3) := by decide +kernel
theorem dX12_areSameKept_40 : decode cX12_areSameKept 40 = .ok (.iload_n 3, 1) := by decide +kernel
theorem dX12_areSameKept_41 : decode cX12_areSameKept 41 = .ok (.iload 6, 2) := by decide +kernel
theorem dX12_areSameKept_43 : decode cX12_areSameKept 43 = .ok (.iadd, 1) := by decide +kernel
theorem dX12_areSameKept_44 : decode cX12_areSameKept 44 = .ok (.baload, 1) := by decide +kernel
theorem dX12_areSameKept_45 : decode cX12_areSameKept 45 = .ok (.if_icmp .ne 7, 3) := by decide +kernel
theorem dX12_areSameKept_48 : decode cX12_areSameKept 48 = .ok (.iconst 1, 1) := by decide +kernel
theorem dX12_areSameKept_49 : decode cX12_areSameKept 49 = .ok (.goto 4, 3) := by decide +kernel
theorem dX12_areSameKept_52 : decode cX12_areSameKept 52 = .ok (.iconst 0, 1) := by decide +kernel
theorem dX12_areSameKept_53 : decode cX12_areSameKept 53 = .ok (.istore 5, 2) := by decide +kernel
theorem dX12_areSameKept_55 : decode cX12_areSameKept 55 = .ok (.iinc 6 1, 3) := by decide +kernel
theorem dX12_areSameKept_58 : decode cX12_areSameKept 58 = .ok (.goto (-42), 3) := by decide +kernel
theorem dX12_areSameKept_61 : decode cX12_areSameKept 61 = .ok (.iload 5, 2) := by decide +kernel
theorem dX12_areSameKept_63 : decode cX12_areSameKept 63 = .ok (.ireturn, 1) := by decide +kernel
theorem v_X12_areSameKept_0 {cs : Cs} {Q : Option AV → Mm → Prop} {MI ML : Nat → Nat → Int} {d e nw th x : Nat} {l1 l2 l3 l4 : Int}
    (h : ((l2 = l4 → wp cs mX12_areSameKept KD Q 16 [some (vR 124), some (vI l1), some (vI l2), some (vI l3), some (vI l4), some (vI 1), some (vI 0)] [] (KD, MI, ML, (GR d e nw th x))) ∧ (l2 ≠ l4 → wp cs mX12_areSameKept KD Q 16 [some (vR 124), some (vI l1), some (vI l2), some (vI l3), some (vI l4), some (vI 0), some (vI 0)] [] (KD, MI, ML, (GR d e nw th x))))) :
    wp cs mX12_areSameKept KD Q 0 (padL [vR 124, vI l1, vI l2, vI l3, vI l4] 7) [] (KD, MI, ML, (GR d e nw th x)) := by
  refine wp_L (L' := [some (vR 124), some (vI l1), some (vI l2), some (vI l3), some (vI l4), none, none]) rfl ?_
  refine wp_iload_n dX12_areSameKept_0 rfl rfl ?_
  refine wp_iload dX12_areSameKept_1 rfl ?_
  refine wp_icmp_ne (tgt := 10) dX12_areSameKept_3 (by decide) (fun h3 => ?_) (fun h3 => ?_)
  · replace h := h.2 h3
    refine wp_iconst dX12_areSameKept_10 (by decide) ?_
    refine wp_istore dX12_areSameKept_11 (by decide) (wp_L (L' := [some (vR 124), some (vI l1), some (vI l2), some (vI l3), some (vI l4), some (vI 0), none]) rfl ?_)
    refine wp_iconst dX12_areSameKept_13 (by decide) ?_
    refine wp_istore dX12_areSameKept_14 (by decide) (wp_L (L' := [some (vR 124), some (vI l1), some (vI l2), some (vI l3), some (vI l4), some (vI 0), some (vI 0)]) rfl ?_)
    exact h
  · replace h := h.1 h3
    refine wp_iconst dX12_areSameKept_6 (by decide) ?_
    refine wp_goto (tgt := 11) dX12_areSameKept_7 (by decide) ?_
    refine wp_istore dX12_areSameKept_11 (by decide) (wp_L (L' := [some (vR 124), some (vI l1), some (vI l2), some (vI l3), some (vI l4), some (vI 1), none]) rfl ?_)
    refine wp_iconst dX12_areSameKept_13 (by decide) ?_
    refine wp_istore dX12_areSameKept_14 (by decide) (wp_L (L' := [some (vR 124), some (vI l1), some (vI l2), some (vI l3), some (vI l4), some (vI 1), some (vI 0)]) rfl ?_)
    exact h
theorem v_X12_areSameKept_16 {cs : Cs} {Q : Option AV → Mm → Prop} {MI ML : Nat → Nat → Int} {d e nw th x : Nat} {l1 l2 l3 l4 l5 l6 : Int}
    (h : ((l6 < l2 → ((l5 = 0 → (l5 = 0 ∨ l5 = 1) ∧ Q (some (vI l5)) (MI, ML, (GR d e nw th x))) ∧ (l5 ≠ 0 → (-2147483648 ≤ l1 + l6 ∧ l1 + l6 < 2147483648) ∧ (0 ≤ (l1 + l6) ∧ (l1 + l6) < 4000) ∧ (-2147483648 ≤ l3 + l6 ∧ l3 + l6 < 2147483648) ∧ (0 ≤ (l3 + l6) ∧ (l3 + l6) < 4000) ∧ (((MI 138 (l1 + l6).toNat) = (MI 138 (l3 + l6).toNat) → (-2147483648 ≤ l6 + 1 ∧ l6 + 1 < 2147483648) ∧ wp cs mX12_areSameKept KD Q 16 [some (vR 124), some (vI l1), some (vI l2), some (vI l3), some (vI l4), some (vI 1), some (vI (l6 + 1))] [] (KD, MI, ML, (GR d e nw th x))) ∧ ((MI 138 (l1 + l6).toNat) ≠ (MI 138 (l3 + l6).toNat) → (-2147483648 ≤ l6 + 1 ∧ l6 + 1 < 2147483648) ∧ wp cs mX12_areSameKept KD Q 16 [some (vR 124), some (vI l1), some (vI l2), some (vI l3), some (vI l4), some (vI 0), some (vI (l6 + 1))] [] (KD, MI, ML, (GR d e nw th x))))))) ∧ (l2 ≤ l6 → (l5 = 0 ∨ l5 = 1) ∧ Q (some (vI l5)) (MI, ML, (GR d e nw th x))))) :
    wp cs mX12_areSameKept KD Q 16 [some (vR 124), some (vI l1), some (vI l2), some (vI l3), some (vI l4), some (vI l5), some (vI l6)] [] (KD, MI, ML, (GR d e nw th x)) := by
  refine wp_iload dX12_areSameKept_16 rfl ?_
  refine wp_iload_n dX12_areSameKept_18 rfl rfl ?_
  refine wp_icmp_ge (tgt := 61) dX12_areSameKept_19 (by decide) (fun h19 => ?_) (fun h19 => ?_)
  · replace h := h.2 h19
    refine wp_iload dX12_areSameKept_61 rfl ?_
    exact wp_zret dX12_areSameKept_63 rfl h.1 (fun _ => h.2)
  · replace h := h.1 h19
    refine wp_iload dX12_areSameKept_22 rfl ?_
    refine wp_if_eq (tgt := 61) dX12_areSameKept_24 (by decide) (fun h24 => ?_) (fun h24 => ?_)
    · replace h := h.1 h24
      refine wp_iload dX12_areSameKept_61 rfl ?_
      exact wp_zret dX12_areSameKept_63 rfl h.1 (fun _ => h.2)
    · replace h := h.2 h24
      refine wp_aload_n dX12_areSameKept_27 rfl rfl (by first | exact Or.inl (by decide) | exact Or.inl (by omega) | exact Or.inr (by decide) | exact Or.inr (by omega)) ?_
      refine wp_getR dX12_areSameKept_28 fX12_55 rfl (by decide) ?_
      refine wp_topR (x' := 138) rfl ?_
      refine wp_iload_n dX12_areSameKept_31 rfl rfl ?_
      refine wp_iload dX12_areSameKept_32 rfl ?_
      have c0 := h.1
      replace h := h.2
      refine wp_iaddr dX12_areSameKept_34 c0 ?_
      have c1 := h.1
      replace h := h.2
      refine wp_bald dX12_areSameKept_35 rfl (by decide) c1 ?_
      refine wp_aload_n dX12_areSameKept_36 rfl rfl (by first | exact Or.inl (by decide) | exact Or.inl (by omega) | exact Or.inr (by decide) | exact Or.inr (by omega)) ?_
      refine wp_pc (pc' := 37) rfl ?_
      refine wp_getR dX12_areSameKept_37 fX12_55 rfl (by decide) ?_
      refine wp_topR (x' := 138) rfl ?_
      refine wp_iload_n dX12_areSameKept_40 rfl rfl ?_
      refine wp_iload dX12_areSameKept_41 rfl ?_
      have c2 := h.1
      replace h := h.2
      refine wp_iaddr dX12_areSameKept_43 c2 ?_
      have c3 := h.1
      replace h := h.2
      refine wp_bald dX12_areSameKept_44 rfl (by decide) c3 ?_
      refine wp_icmp_ne (tgt := 52) dX12_areSameKept_45 (by decide) (fun h45 => ?_) (fun h45 => ?_)
      · replace h := h.2 h45
        refine wp_iconst dX12_areSameKept_52 (by decide) ?_
        refine wp_istore dX12_areSameKept_53 (by decide) (wp_L (L' := [some (vR 124), some (vI l1), some (vI l2), some (vI l3), some (vI l4), some (vI 0), some (vI l6)]) rfl ?_)
        have c4 := h.1
        replace h := h.2
        refine wp_iincr dX12_areSameKept_55 rfl (by decide) c4 (wp_L (L' := [some (vR 124), some (vI l1), some (vI l2), some (vI l3), some (vI l4), some (vI 0), some (vI (l6 + 1))]) rfl ?_)
        refine wp_goto (tgt := 16) dX12_areSameKept_58 (by decide) ?_
        exact h
      · replace h := h.1 h45
        refine wp_iconst dX12_areSameKept_48 (by decide) ?_
        refine wp_goto (tgt := 53) dX12_areSameKept_49 (by decide) ?_
        refine wp_istore dX12_areSameKept_53 (by decide) (wp_L (L' := [some (vR 124), some (vI l1), some (vI l2), some (vI l3), some (vI l4), some (vI 1), some (vI l6)]) rfl ?_)
        have c4 := h.1
        replace h := h.2
        refine wp_iincr dX12_areSameKept_55 rfl (by decide) c4 (wp_L (L' := [some (vR 124), some (vI l1), some (vI l2), some (vI l3), some (vI l4), some (vI 1), some (vI (l6 + 1))]) rfl ?_)
        refine wp_goto (tgt := 16) dX12_areSameKept_58 (by decide) ?_
        exact h
theorem dX12_isTaken_0 : decode cX12_isTaken 0 = .ok (.sipush 600, 3) := by decide +kernel
theorem dX12_isTaken_3 : decode cX12_isTaken 3 = .ok (.aload_n 0, 1) := by decide +kernel
theorem dX12_isTaken_4 : decode cX12_isTaken 4 = .ok (.getfield 482, 3) := by decide +kernel
theorem dX12_isTaken_7 : decode cX12_isTaken 7 = .ok (.imul, 1) := by decide +kernel
theorem dX12_isTaken_8 : decode cX12_isTaken 8 = .ok (.istore_n 2, 1) := by decide +kernel
theorem dX12_isTaken_9 : decode cX12_isTaken 9 = .ok (.iconst 0, 1) := by decide +kernel
theorem dX12_isTaken_10 : decode cX12_isTaken 10 = .ok (.istore_n 3, 1) := by decide +kernel
theorem dX12_isTaken_11 : decode cX12_isTaken 11 = .ok (.iconst 0, 1) := by decide +kernel
theorem dX12_isTaken_12 : decode cX12_isTaken 12 = .ok (.istore 4, 2) := by decide +kernel
theorem dX12_isTaken_14 : decode cX12_isTaken 14 = .ok (.iload 4, 2) := by decide +kernel
theorem dX12_isTaken_16 : decode cX12_isTaken 16 = .ok (.iload_n 1, 1) := by decide +kernel
theorem dX12_isTaken_17 : decode cX12_isTaken 17 = .ok (.if_icmp .ge 118, 3) := by decide +kernel
theorem dX12_isTaken_20 : decode cX12_isTaken 20 = .ok (.aload_n 0, 1) := by decide +kernel
theorem dX12_isTaken_21 : decode cX12_isTaken 21 = .ok (.getfield 31, 3) := by decide +kernel
theorem dX12_isTaken_24 : decode cX12_isTaken 24 = .ok (.iload_n 2, 1) := by decide +kernel
theorem dX12_isTaken_25 : decode cX12_isTaken 25 = .ok (.iload 4, 2) := by decide +kernel
theorem dX12_isTaken_27 : decode cX12_isTaken 27 = .ok (.iadd, 1) := by decide +kernel
theorem dX12_isTaken_28 : decode cX12_isTaken 28 = .ok (.iaload, 1) := by decide +kernel
theorem dX12_isTaken_29 : decode cX12_isTaken 29 = .ok (.iconst 2, 1) := by decide +kernel
theorem dX12_isTaken_30 : decode cX12_isTaken 30 = .ok (.if_icmp .ne 99, 3) := by decide +kernel
theorem dX12_isTaken_33 : decode cX12_isTaken 33 = .ok (.aload_n 0, 1) := by decide +kernel
theorem dX12_isTaken_34 : decode cX12_isTaken 34 = .ok (.getfield 49, 3) := by decide +kernel
theorem dX12_isTaken_37 : decode cX12_isTaken 37 = .ok (.iload_n 2, 1) := by decide +kernel
theorem dX12_isTaken_38 : decode cX12_isTaken 38 = .ok (.iload 4, 2) := by decide +kernel
theorem dX12_isTaken_40 : decode cX12_isTaken 40 = .ok (.iadd, 1) := by decide +kernel
theorem dX12_isTaken_41 : decode cX12_isTaken 41 = .ok (.baload, 1) := by decide +kernel
theorem dX12_isTaken_42 : decode cX12_isTaken 42 = .ok (.ifCond .ne 87, 3) := by decide +kernel
theorem dX12_isTaken_45 : decode cX12_isTaken 45 = .ok (.aload_n 0, 1) := by decide +kernel
theorem dX12_isTaken_46 : decode cX12_isTaken 46 = .ok (.aload_n 0, 1) := by decide +kernel
theorem dX12_isTaken_47 : decode cX12_isTaken 47 = .ok (.getfield 34, 3) := by decide +kernel
theorem dX12_isTaken_50 : decode cX12_isTaken 50 = .ok (.iload_n 2, 1) := by decide +kernel
theorem dX12_isTaken_51 : decode cX12_isTaken 51 = .ok (.iload 4, 2) := by decide +kernel
theorem dX12_isTaken_53 : decode cX12_isTaken 53 = .ok (.iadd, 1) := by decide +kernel
theorem dX12_isTaken_54 : decode cX12_isTaken 54 = .ok (.iaload, 1) := by decide +kernel
theorem dX12_isTaken_55 : decode cX12_isTaken 55 = .ok (.iload 4, 2) := by decide +kernel
theorem dX12_isTaken_57 : decode cX12_isTaken 57 = .ok (.invokevirtual 546, 3) := by decide +kernel
theorem dX12_isTaken_60 : decode cX12_isTaken 60 = .ok (.istore 5, 2) := by decide +kernel
theorem dX12_isTaken_62 : decode cX12_isTaken 62 = .ok (.iload_n 3, 1) := by decide +kernel
theorem dX12_isTaken_63 : decode cX12_isTaken 63 = .ok (.ifCond .ne 60, 3) := by decide +kernel
theorem dX12_isTaken_66 : decode cX12_isTaken 66 = .ok (.iload 5, 2) := by decide +kernel
theorem dX12_isTaken_68 : decode cX12_isTaken 68 = .ok (.ifCond .lt 59, 3) := by decide +kernel
theorem dX12_isTaken_71 : decode cX12_isTaken 71 = .ok (.aload_n 0, 1) := by decide +kernel
theorem dX12_isTaken_72 : decode cX12_isTaken 72 = .ok (.getfield 119, 3) := by decide +kernel
theorem dX12_isTaken_75 : decode cX12_isTaken 75 = .ok (.iload 5, 2) := by decide +kernel
theorem dX12_isTaken_77 : decode cX12_isTaken 77 = .ok (.iaload, 1) := by decide +kernel
theorem dX12_isTaken_78 : decode cX12_isTaken 78 = .ok (.iconst 1, 1) := by decide +kernel
theorem dX12_isTaken_79 : decode cX12_isTaken 79 = .ok (.if_icmp .ne 48, 3) := by decide +kernel
theorem dX12_isTaken_82 : decode cX12_isTaken 82 = .ok (.aload_n 0, 1) := by decide +kernel
theorem dX12_isTaken_83 : decode cX12_isTaken 83 = .ok (.aload_n 0, 1) := by decide +kernel
theorem dX12_isTaken_84 : decode cX12_isTaken 84 = .ok (.getfield 43, 3) := by decide +kernel
theorem dX12_isTaken_87 : decode cX12_isTaken 87 = .ok (.iload_n 2, 1) := by decide +kernel
theorem dX12_isTaken_88 : decode cX12_isTaken 88 = .ok (.iload 4, 2) := by decide +kernel
theorem dX12_isTaken_90 : decode cX12_isTaken 90 = .ok (.iadd, 1) := by decide +kernel
theorem dX12_isTaken_91 : decode cX12_isTaken 91 = .ok (.iaload, 1) := by decide +kernel
theorem dX12_isTaken_92 : decode cX12_isTaken 92 = .ok (.aload_n 0, 1) := by decide +kernel
theorem dX12_isTaken_93 : decode cX12_isTaken 93 = .ok (.getfield 46, 3) := by decide +kernel
theorem dX12_isTaken_96 : decode cX12_isTaken 96 = .ok (.iload_n 2, 1) := by decide +kernel
theorem dX12_isTaken_97 : decode cX12_isTaken 97 = .ok (.iload 4, 2) := by decide +kernel
theorem dX12_isTaken_99 : decode cX12_isTaken 99 = .ok (.iadd, 1) := by decide +kernel
theorem dX12_isTaken_100 : decode cX12_isTaken 100 = .ok (.iaload, 1) := by decide +kernel
theorem dX12_isTaken_101 : decode cX12_isTaken 101 = .ok (.aload_n 0, 1) := by decide +kernel
theorem dX12_isTaken_102 : decode cX12_isTaken 102 = .ok (.getfield 43, 3) := by decide +kernel
theorem dX12_isTaken_105 : decode cX12_isTaken 105 = .ok (.iload_n 2, 1) := by decide +kernel
theorem dX12_isTaken_106 : decode cX12_isTaken 106 = .ok (.iload_n 1, 1) := by decide +kernel
theorem dX12_isTaken_107 : decode cX12_isTaken 107 = .ok (.iadd, 1) := by decide +kernel
theorem dX12_isTaken_108 : decode cX12_isTaken 108 = .ok (.iaload, 1) := by decide +kernel
theorem dX12_isTaken_109 : decode cX12_isTaken 109 = .ok (.aload_n 0, 1) := by decide +kernel
theorem dX12_isTaken_110 : decode cX12_isTaken 110 = .ok (.getfield 46, 3) := by decide +kernel
theorem dX12_isTaken_113 : decode cX12_isTaken 113 = .ok (.iload_n 2, 1) := by decide +kernel
theorem dX12_isTaken_114 : decode cX12_isTaken 114 = .ok (.iload_n 1, 1) := by decide +kernel
theorem dX12_isTaken_115 : decode cX12_isTaken 115 = .ok (.iadd, 1) := by decide +kernel
theorem dX12_isTaken_116 : decode cX12_isTaken 116 = .ok (.iaload, 1) := by decide +kernel
theorem dX12_isTaken_117 : decode cX12_isTaken 117 = .ok (.invokevirtual 549, 3) := by decide +kernel
theorem dX12_isTaken_120 : decode cX12_isTaken 120 = .ok (.ifCond .eq 7, 3) := by decide +kernel
theorem dX12_isTaken_123 : decode cX12_isTaken 123 = .ok (.iconst 1, 1) := by decide +kernel
theorem dX12_isTaken_124 : decode cX12_isTaken 124 = .ok (.goto 4, 3) := by decide +kernel
theorem dX12_isTaken_127 : decode cX12_isTaken 127 = .ok (.iconst 0, 1) := by decide +kernel
theorem dX12_isTaken_128 : decode cX12_isTaken 128 = .ok (.istore_n 3, 1) := by decide +kernel
theorem dX12_isTaken_129 : decode cX12_isTaken 129 = .ok (.iinc 4 1, 3) := by decide +kernel
theorem dX12_isTaken_132 : decode cX12_isTaken 132 = .ok (.goto (-118), 3) := by decide +kernel
theorem dX12_isTaken_135 : decode cX12_isTaken 135 = .ok (.iload_n 3, 1) := by decide +kernel
theorem dX12_isTaken_136 : decode cX12_isTaken 136 = .ok (.ireturn, 1) := by decide +kernel
theorem v_X12_isTaken_0 {cs : Cs} {Q : Option AV → Mm → Prop} {MI ML : Nat → Nat → Int} {d e nw th x : Nat} {l1 : Int}
    (h : (-2147483648 ≤ 600 * (MI 124 7) ∧ 600 * (MI 124 7) < 2147483648) ∧ wp cs mX12_isTaken KD Q 14 [some (vR 124), some (vI l1), some (vI (600 * (MI 124 7))), some (vI 0), some (vI 0), none] [] (KD, MI, ML, (GR d e nw th x))) :
    wp cs mX12_isTaken KD Q 0 (padL [vR 124, vI l1] 6) [] (KD, MI, ML, (GR d e nw th x)) := by
  refine wp_L (L' := [some (vR 124), some (vI l1), none, none, none, none]) rfl ?_
  refine wp_sipush dX12_isTaken_0 (by decide +kernel) (by decide) ?_
  refine wp_aload_n dX12_isTaken_3 rfl rfl (by first | exact Or.inl (by decide) | exact Or.inl (by omega) | exact Or.inr (by decide) | exact Or.inr (by omega)) ?_
  refine wp_getI dX12_isTaken_4 fX12_482 rfl (by decide) ?_
  have c0 := h.1
  replace h := h.2
  refine wp_imulr dX12_isTaken_7 c0 ?_
  refine wp_istore_n dX12_isTaken_8 rfl (by decide) (wp_L (L' := [some (vR 124), some (vI l1), some (vI (600 * (MI 124 7))), none, none, none]) rfl ?_)
  refine wp_iconst dX12_isTaken_9 (by decide) ?_
  refine wp_istore_n dX12_isTaken_10 rfl (by decide) (wp_L (L' := [some (vR 124), some (vI l1), some (vI (600 * (MI 124 7))), some (vI 0), none, none]) rfl ?_)
  refine wp_pc (pc' := 11) rfl ?_
  refine wp_iconst dX12_isTaken_11 (by decide) ?_
  refine wp_istore dX12_isTaken_12 (by decide) (wp_L (L' := [some (vR 124), some (vI l1), some (vI (600 * (MI 124 7))), some (vI 0), some (vI 0), none]) rfl ?_)
  exact h
theorem v_X12_isTaken_14 {cs : Cs} {Q : Option AV → Mm → Prop} {MI ML : Nat → Nat → Int} {d e nw th x : Nat} {l1 l2 l3 l4 : Int}
    (h : ((l4 < l1 → (-2147483648 ≤ l2 + l4 ∧ l2 + l4 < 2147483648) ∧ (0 ≤ (l2 + l4) ∧ (l2 + l4) < 1200) ∧ (((MI 130 (l2 + l4).toNat) = 2 → (((MI 136 (l2 + l4).toNat) = 0 → wp cs mX12_ruleFor KD (rI (GR d e nw th x) fun x57 m57 n57 => ((l3 = 0 → ((x57 < 0 → (-2147483648 ≤ l4 + 1 ∧ l4 + 1 < 2147483648) ∧ wp cs mX12_isTaken KD Q 14 [some (vR 124), some (vI l1), some (vI l2), some (vI 0), some (vI (l4 + 1)), none] [] (KD, m57, n57, (GR d e nw th x))) ∧ (0 ≤ x57 → (0 ≤ x57 ∧ x57 < 1600) ∧ (((m57 159 x57.toNat) = 1 → (-2147483648 ≤ l2 + l1 ∧ l2 + l1 < 2147483648) ∧ (0 ≤ (l2 + l1) ∧ (l2 + l1) < 1200) ∧ wp cs mX12_areSameKept KD (rI (GR d e nw th x) fun x117 m117 n117 => ((x117 = 0 → (-2147483648 ≤ l4 + 1 ∧ l4 + 1 < 2147483648) ∧ wp cs mX12_isTaken KD Q 14 [some (vR 124), some (vI l1), some (vI l2), some (vI 0), some (vI (l4 + 1)), none] [] (KD, m117, n117, (GR d e nw th x))) ∧ (x117 ≠ 0 → (-2147483648 ≤ l4 + 1 ∧ l4 + 1 < 2147483648) ∧ wp cs mX12_isTaken KD Q 14 [some (vR 124), some (vI l1), some (vI l2), some (vI 1), some (vI (l4 + 1)), none] [] (KD, m117, n117, (GR d e nw th x))))) 0 (padL [vR 124, vI (m57 134 (l2 + l4).toNat), vI (m57 135 (l2 + l4).toNat), vI (m57 134 (l2 + l1).toNat), vI (m57 135 (l2 + l1).toNat)] 7) [] (KD, m57, n57, (GR d e nw th x))) ∧ ((m57 159 x57.toNat) ≠ 1 → (-2147483648 ≤ l4 + 1 ∧ l4 + 1 < 2147483648) ∧ wp cs mX12_isTaken KD Q 14 [some (vR 124), some (vI l1), some (vI l2), some (vI 0), some (vI (l4 + 1)), none] [] (KD, m57, n57, (GR d e nw th x))))))) ∧ (l3 ≠ 0 → (-2147483648 ≤ l4 + 1 ∧ l4 + 1 < 2147483648) ∧ wp cs mX12_isTaken KD Q 14 [some (vR 124), some (vI l1), some (vI l2), some (vI 1), some (vI (l4 + 1)), none] [] (KD, m57, n57, (GR d e nw th x))))) 0 (padL [vR 124, vI (MI 131 (l2 + l4).toNat), vI l4] 5) [] (KD, MI, ML, (GR d e nw th x))) ∧ ((MI 136 (l2 + l4).toNat) ≠ 0 → (-2147483648 ≤ l4 + 1 ∧ l4 + 1 < 2147483648) ∧ wp cs mX12_isTaken KD Q 14 [some (vR 124), some (vI l1), some (vI l2), some (vI l3), some (vI (l4 + 1)), none] [] (KD, MI, ML, (GR d e nw th x))))) ∧ ((MI 130 (l2 + l4).toNat) ≠ 2 → (-2147483648 ≤ l4 + 1 ∧ l4 + 1 < 2147483648) ∧ wp cs mX12_isTaken KD Q 14 [some (vR 124), some (vI l1), some (vI l2), some (vI l3), some (vI (l4 + 1)), none] [] (KD, MI, ML, (GR d e nw th x))))) ∧ (l1 ≤ l4 → (l3 = 0 ∨ l3 = 1) ∧ Q (some (vI l3)) (MI, ML, (GR d e nw th x))))) :
    wp cs mX12_isTaken KD Q 14 [some (vR 124), some (vI l1), some (vI l2), some (vI l3), some (vI l4), none] [] (KD, MI, ML, (GR d e nw th x)) := by
  refine wp_iload dX12_isTaken_14 rfl ?_
  refine wp_iload_n dX12_isTaken_16 rfl rfl ?_
  refine wp_icmp_ge (tgt := 135) dX12_isTaken_17 (by decide) (fun h17 => ?_) (fun h17 => ?_)
  · replace h := h.2 h17
    refine wp_iload_n dX12_isTaken_135 rfl rfl ?_
    exact wp_zret dX12_isTaken_136 rfl h.1 (fun _ => h.2)
  · replace h := h.1 h17
    refine wp_aload_n dX12_isTaken_20 rfl rfl (by first | exact Or.inl (by decide) | exact Or.inl (by omega) | exact Or.inr (by decide) | exact Or.inr (by omega)) ?_
    refine wp_getR dX12_isTaken_21 fX12_31 rfl (by decide) ?_
    refine wp_topR (x' := 130) rfl ?_
    refine wp_iload_n dX12_isTaken_24 rfl rfl ?_
    refine wp_iload dX12_isTaken_25 rfl ?_
    have c0 := h.1
    replace h := h.2
    refine wp_iaddr dX12_isTaken_27 c0 ?_
    have c1 := h.1
    replace h := h.2
    refine wp_iald dX12_isTaken_28 rfl (by decide) c1 ?_
    refine wp_iconst dX12_isTaken_29 (by decide) ?_
    refine wp_pc (pc' := 30) rfl ?_
    refine wp_icmp_ne (tgt := 129) dX12_isTaken_30 (by decide) (fun h30 => ?_) (fun h30 => ?_)
    · replace h := h.2 h30
      have c2 := h.1
      replace h := h.2
      refine wp_iincr dX12_isTaken_129 rfl (by decide) c2 (wp_L (L' := [some (vR 124), some (vI l1), some (vI l2), some (vI l3), some (vI (l4 + 1)), none]) rfl ?_)
      refine wp_goto (tgt := 14) dX12_isTaken_132 (by decide) ?_
      exact h
    · replace h := h.1 h30
      refine wp_aload_n dX12_isTaken_33 rfl rfl (by first | exact Or.inl (by decide) | exact Or.inl (by omega) | exact Or.inr (by decide) | exact Or.inr (by omega)) ?_
      refine wp_getR dX12_isTaken_34 fX12_49 rfl (by decide) ?_
      refine wp_topR (x' := 136) rfl ?_
      refine wp_iload_n dX12_isTaken_37 rfl rfl ?_
      refine wp_iload dX12_isTaken_38 rfl ?_
      refine wp_iaddr dX12_isTaken_40 c0 ?_
      refine wp_zald dX12_isTaken_41 rfl (by decide) c1 ?_
      refine wp_if_ne (tgt := 129) dX12_isTaken_42 (by decide) (fun h42 => ?_) (fun h42 => ?_)
      · replace h := h.2 h42
        have c2 := h.1
        replace h := h.2
        refine wp_iincr dX12_isTaken_129 rfl (by decide) c2 (wp_L (L' := [some (vR 124), some (vI l1), some (vI l2), some (vI l3), some (vI (l4 + 1)), none]) rfl ?_)
        refine wp_goto (tgt := 14) dX12_isTaken_132 (by decide) ?_
        exact h
      · replace h := h.1 h42
        refine wp_aload_n dX12_isTaken_45 rfl rfl (by first | exact Or.inl (by decide) | exact Or.inl (by omega) | exact Or.inr (by decide) | exact Or.inr (by omega)) ?_
        refine wp_aload_n dX12_isTaken_46 rfl rfl (by first | exact Or.inl (by decide) | exact Or.inl (by omega) | exact Or.inr (by decide) | exact Or.inr (by omega)) ?_
        refine wp_getR dX12_isTaken_47 fX12_34 rfl (by decide) ?_
        refine wp_topR (x' := 131) rfl ?_
        refine wp_iload_n dX12_isTaken_50 rfl rfl ?_
        refine wp_iload dX12_isTaken_51 rfl ?_
        refine wp_iaddr dX12_isTaken_53 c0 ?_
        refine wp_iald dX12_isTaken_54 rfl (by decide) c1 ?_
        refine wp_pc (pc' := 55) rfl ?_
        refine wp_iload dX12_isTaken_55 rfl ?_
        refine wp_cVq (n := 2) (mt' := mX12_ruleFor) (as := [vI (MI 131 (l2 + l4).toNat), vI l4]) (rest := []) _ dX12_isTaken_57 lX12_546 kX12_ruleFor vX12_ruleFor (by decide) (by decide +kernel) rfl (Nat.le_of_ble_eq_true rfl) (by decide) rfl rfl rfl (Nat.le_of_ble_eq_true rfl) (fun hM hS => h) (fun r M' hq hM => ?_)
        obtain ⟨x57, m57, n57, rfl, rfl, h⟩ := rI_out hq
        refine wp_istore dX12_isTaken_60 (by decide) (wp_L (L' := [some (vR 124), some (vI l1), some (vI l2), some (vI l3), some (vI l4), some (vI x57)]) rfl ?_)
        refine wp_iload_n dX12_isTaken_62 rfl rfl ?_
        refine wp_if_ne (tgt := 123) dX12_isTaken_63 (by decide) (fun h63 => ?_) (fun h63 => ?_)
        · replace h := h.2 h63
          refine wp_iconst dX12_isTaken_123 (by decide) ?_
          refine wp_goto (tgt := 128) dX12_isTaken_124 (by decide) ?_
          refine wp_istore_n dX12_isTaken_128 rfl (by decide) (wp_L (L' := [some (vR 124), some (vI l1), some (vI l2), some (vI 1), some (vI l4), some (vI x57)]) rfl ?_)
          have c2 := h.1
          replace h := h.2
          refine wp_iincr dX12_isTaken_129 rfl (by decide) c2 (wp_L (L' := [some (vR 124), some (vI l1), some (vI l2), some (vI 1), some (vI (l4 + 1)), some (vI x57)]) rfl ?_)
          refine wp_goto (tgt := 14) dX12_isTaken_132 (by decide) ?_
          refine wp_forget (L' := [some (vR 124), some (vI l1), some (vI l2), some (vI 1), some (vI (l4 + 1)), none]) (by repeat' (first | exact trivial | refine ⟨rfl, ?_⟩)) ?_
          exact h
        · replace h := h.1 h63
          refine wp_iload dX12_isTaken_66 rfl ?_
          refine wp_if_lt (tgt := 127) dX12_isTaken_68 (by decide) (fun h68 => ?_) (fun h68 => ?_)
          · replace h := h.1 h68
            refine wp_iconst dX12_isTaken_127 (by decide) ?_
            refine wp_istore_n dX12_isTaken_128 rfl (by decide) (wp_L (L' := [some (vR 124), some (vI l1), some (vI l2), some (vI 0), some (vI l4), some (vI x57)]) rfl ?_)
            have c2 := h.1
            replace h := h.2
            refine wp_iincr dX12_isTaken_129 rfl (by decide) c2 (wp_L (L' := [some (vR 124), some (vI l1), some (vI l2), some (vI 0), some (vI (l4 + 1)), some (vI x57)]) rfl ?_)
            refine wp_goto (tgt := 14) dX12_isTaken_132 (by decide) ?_
            refine wp_forget (L' := [some (vR 124), some (vI l1), some (vI l2), some (vI 0), some (vI (l4 + 1)), none]) (by repeat' (first | exact trivial | refine ⟨rfl, ?_⟩)) ?_
            exact h
          · replace h := h.2 h68
            refine wp_aload_n dX12_isTaken_71 rfl rfl (by first | exact Or.inl (by decide) | exact Or.inl (by omega) | exact Or.inr (by decide) | exact Or.inr (by omega)) ?_
            refine wp_getR dX12_isTaken_72 fX12_119 rfl (by decide) ?_
            refine wp_topR (x' := 159) rfl ?_
            refine wp_iload dX12_isTaken_75 rfl ?_
            have c2 := h.1
            replace h := h.2
            refine wp_iald dX12_isTaken_77 rfl (by decide) c2 ?_
            refine wp_iconst dX12_isTaken_78 (by decide) ?_
            refine wp_icmp_ne (tgt := 127) dX12_isTaken_79 (by decide) (fun h79 => ?_) (fun h79 => ?_)
            · replace h := h.2 h79
              refine wp_iconst dX12_isTaken_127 (by decide) ?_
              refine wp_istore_n dX12_isTaken_128 rfl (by decide) (wp_L (L' := [some (vR 124), some (vI l1), some (vI l2), some (vI 0), some (vI l4), some (vI x57)]) rfl ?_)
              have c3 := h.1
              replace h := h.2
              refine wp_iincr dX12_isTaken_129 rfl (by decide) c3 (wp_L (L' := [some (vR 124), some (vI l1), some (vI l2), some (vI 0), some (vI (l4 + 1)), some (vI x57)]) rfl ?_)
              refine wp_goto (tgt := 14) dX12_isTaken_132 (by decide) ?_
              refine wp_forget (L' := [some (vR 124), some (vI l1), some (vI l2), some (vI 0), some (vI (l4 + 1)), none]) (by repeat' (first | exact trivial | refine ⟨rfl, ?_⟩)) ?_
              exact h
            · replace h := h.1 h79
              refine wp_aload_n dX12_isTaken_82 rfl rfl (by first | exact Or.inl (by decide) | exact Or.inl (by omega) | exact Or.inr (by decide) | exact Or.inr (by omega)) ?_
              refine wp_aload_n dX12_isTaken_83 rfl rfl (by first | exact Or.inl (by decide) | exact Or.inl (by omega) | exact Or.inr (by decide) | exact Or.inr (by omega)) ?_
              refine wp_getR dX12_isTaken_84 fX12_43 rfl (by decide) ?_
              refine wp_topR (x' := 134) rfl ?_
              refine wp_iload_n dX12_isTaken_87 rfl rfl ?_
              refine wp_iload dX12_isTaken_88 rfl ?_
              refine wp_iaddr dX12_isTaken_90 c0 ?_
              refine wp_iald dX12_isTaken_91 rfl (by decide) c1 ?_
              refine wp_pc (pc' := 92) rfl ?_
              refine wp_aload_n dX12_isTaken_92 rfl rfl (by first | exact Or.inl (by decide) | exact Or.inl (by omega) | exact Or.inr (by decide) | exact Or.inr (by omega)) ?_
              refine wp_getR dX12_isTaken_93 fX12_46 rfl (by decide) ?_
              refine wp_topR (x' := 135) rfl ?_
              refine wp_iload_n dX12_isTaken_96 rfl rfl ?_
              refine wp_iload dX12_isTaken_97 rfl ?_
              refine wp_iaddr dX12_isTaken_99 c0 ?_
              refine wp_iald dX12_isTaken_100 rfl (by decide) c1 ?_
              refine wp_aload_n dX12_isTaken_101 rfl rfl (by first | exact Or.inl (by decide) | exact Or.inl (by omega) | exact Or.inr (by decide) | exact Or.inr (by omega)) ?_
              refine wp_getR dX12_isTaken_102 fX12_43 rfl (by decide) ?_
              refine wp_topR (x' := 134) rfl ?_
              refine wp_pc (pc' := 105) rfl ?_
              refine wp_iload_n dX12_isTaken_105 rfl rfl ?_
              refine wp_iload_n dX12_isTaken_106 rfl rfl ?_
              have c3 := h.1
              replace h := h.2
              refine wp_iaddr dX12_isTaken_107 c3 ?_
              have c4 := h.1
              replace h := h.2
              refine wp_iald dX12_isTaken_108 rfl (by decide) c4 ?_
              refine wp_aload_n dX12_isTaken_109 rfl rfl (by first | exact Or.inl (by decide) | exact Or.inl (by omega) | exact Or.inr (by decide) | exact Or.inr (by omega)) ?_
              refine wp_getR dX12_isTaken_110 fX12_46 rfl (by decide) ?_
              refine wp_topR (x' := 135) rfl ?_
              refine wp_iload_n dX12_isTaken_113 rfl rfl ?_
              refine wp_iload_n dX12_isTaken_114 rfl rfl ?_
              refine wp_pc (pc' := 115) rfl ?_
              refine wp_iaddr dX12_isTaken_115 c3 ?_
              refine wp_iald dX12_isTaken_116 rfl (by decide) c4 ?_
              refine wp_cVq (n := 4) (mt' := mX12_areSameKept) (as := [vI (m57 134 (l2 + l4).toNat), vI (m57 135 (l2 + l4).toNat), vI (m57 134 (l2 + l1).toNat), vI (m57 135 (l2 + l1).toNat)]) (rest := []) _ dX12_isTaken_117 lX12_549 kX12_areSameKept vX12_areSameKept (by decide) (by decide +kernel) rfl (Nat.le_of_ble_eq_true rfl) (by decide) rfl rfl rfl (Nat.le_of_ble_eq_true rfl) (fun hM hS => h) (fun r M' hq hM => ?_)
              obtain ⟨x117, m117, n117, rfl, rfl, h⟩ := rI_out hq
              refine wp_if_eq (tgt := 127) dX12_isTaken_120 (by decide) (fun h120 => ?_) (fun h120 => ?_)
              · replace h := h.1 h120
                refine wp_iconst dX12_isTaken_127 (by decide) ?_
                refine wp_istore_n dX12_isTaken_128 rfl (by decide) (wp_L (L' := [some (vR 124), some (vI l1), some (vI l2), some (vI 0), some (vI l4), some (vI x57)]) rfl ?_)
                have c5 := h.1
                replace h := h.2
                refine wp_iincr dX12_isTaken_129 rfl (by decide) c5 (wp_L (L' := [some (vR 124), some (vI l1), some (vI l2), some (vI 0), some (vI (l4 + 1)), some (vI x57)]) rfl ?_)
                refine wp_goto (tgt := 14) dX12_isTaken_132 (by decide) ?_
                refine wp_forget (L' := [some (vR 124), some (vI l1), some (vI l2), some (vI 0), some (vI (l4 + 1)), none]) (by repeat' (first | exact trivial | refine ⟨rfl, ?_⟩)) ?_
                exact h
              · replace h := h.2 h120
                refine wp_iconst dX12_isTaken_123 (by decide) ?_
                refine wp_goto (tgt := 128) dX12_isTaken_124 (by decide) ?_
                refine wp_istore_n dX12_isTaken_128 rfl (by decide) (wp_L (L' := [some (vR 124), some (vI l1), some (vI l2), some (vI 1), some (vI l4), some (vI x57)]) rfl ?_)
                have c5 := h.1
                replace h := h.2
                refine wp_iincr dX12_isTaken_129 rfl (by decide) c5 (wp_L (L' := [some (vR 124), some (vI l1), some (vI l2), some (vI 1), some (vI (l4 + 1)), some (vI x57)]) rfl ?_)
                refine wp_goto (tgt := 14) dX12_isTaken_132 (by decide) ?_
                refine wp_forget (L' := [some (vR 124), some (vI l1), some (vI l2), some (vI 1), some (vI (l4 + 1)), none]) (by repeat' (first | exact trivial | refine ⟨rfl, ?_⟩)) ?_
                exact h
theorem dX12_judgeElement_0 : decode cX12_judgeElement 0 = .ok (.sipush 600, 3) := by decide +kernel
theorem dX12_judgeElement_3 : decode cX12_judgeElement 3 = .ok (.aload_n 0, 1) := by decide +kernel
theorem dX12_judgeElement_4 : decode cX12_judgeElement 4 = .ok (.getfield 482, 3) := by decide +kernel
theorem dX12_judgeElement_7 : decode cX12_judgeElement 7 = .ok (.imul, 1) := by decide +kernel
theorem dX12_judgeElement_8 : decode cX12_judgeElement 8 = .ok (.istore_n 2, 1) := by decide +kernel
theorem dX12_judgeElement_9 : decode cX12_judgeElement 9 = .ok (.aload_n 0, 1) := by decide +kernel
theorem dX12_judgeElement_10 : decode cX12_judgeElement 10 = .ok (.aload_n 0, 1) := by decide +kernel
theorem dX12_judgeElement_11 : decode cX12_judgeElement 11 = .ok (.getfield 37, 3) := by decide +kernel
theorem dX12_judgeElement_14 : decode cX12_judgeElement 14 = .ok (.iload_n 2, 1) := by decide +kernel
theorem dX12_judgeElement_15 : decode cX12_judgeElement 15 = .ok (.iload_n 1, 1) := by decide +kernel
theorem dX12_judgeElement_16 : decode cX12_judgeElement 16 = .ok (.iadd, 1) := by decide +kernel
theorem dX12_judgeElement_17 : decode cX12_judgeElement 17 = .ok (.iaload, 1) := by decide +kernel
theorem dX12_judgeElement_18 : decode cX12_judgeElement 18 = .ok (.aload_n 0, 1) := by decide +kernel
theorem dX12_judgeElement_19 : decode cX12_judgeElement 19 = .ok (.getfield 40, 3) := by decide +kernel
theorem dX12_judgeElement_22 : decode cX12_judgeElement 22 = .ok (.iload_n 2, 1) := by decide +kernel
theorem dX12_judgeElement_23 : decode cX12_judgeElement 23 = .ok (.iload_n 1, 1) := by decide +kernel
theorem dX12_judgeElement_24 : decode cX12_judgeElement 24 = .ok (.iadd, 1) := by decide +kernel
theorem dX12_judgeElement_25 : decode cX12_judgeElement 25 = .ok (.iaload, 1) := by decide +kernel
theorem dX12_judgeElement_26 : decode cX12_judgeElement 26 = .ok (.invokevirtual 516, 3) := by decide +kernel
theorem dX12_judgeElement_29 : decode cX12_judgeElement 29 = .ok (.istore_n 3, 1) := by decide +kernel
theorem dX12_judgeElement_30 : decode cX12_judgeElement 30 = .ok (.iload_n 3, 1) := by decide +kernel
theorem dX12_judgeElement_31 : decode cX12_judgeElement 31 = .ok (.ifCond .ge 13, 3) := by decide +kernel
theorem dX12_judgeElement_34 : decode cX12_judgeElement 34 = .ok (.aload_n 0, 1) := by decide +kernel
theorem dX12_judgeElement_35 : decode cX12_judgeElement 35 = .ok (.bipush 7, 2) := by decide +kernel
theorem dX12_judgeElement_37 : decode cX12_judgeElement 37 = .ok (.iload_n 1, 1) := by decide +kernel
theorem dX12_judgeElement_38 : decode cX12_judgeElement 38 = .ok (.invokevirtual 519, 3) := by decide +kernel
theorem dX12_judgeElement_41 : decode cX12_judgeElement 41 = .ok (.goto 19, 3) := by decide +kernel
theorem dX12_judgeElement_44 : decode cX12_judgeElement 44 = .ok (.aload_n 0, 1) := by decide +kernel
theorem dX12_judgeElement_45 : decode cX12_judgeElement 45 = .ok (.iload_n 1, 1) := by decide +kernel
theorem dX12_judgeElement_46 : decode cX12_judgeElement 46 = .ok (.iload_n 3, 1) := by decide +kernel
theorem dX12_judgeElement_47 : decode cX12_judgeElement 47 = .ok (.invokevirtual 552, 3) := by decide +kernel
theorem dX12_judgeElement_50 : decode cX12_judgeElement 50 = .ok (.ifCond .ne 10, 3) := by decide +kernel
theorem dX12_judgeElement_53 : decode cX12_judgeElement 53 = .ok (.aload_n 0, 1) := by decide +kernel
theorem dX12_judgeElement_54 : decode cX12_judgeElement 54 = .ok (.bipush 8, 2) := by decide +kernel
theorem dX12_judgeElement_56 : decode cX12_judgeElement 56 = .ok (.iload_n 1, 1) := by decide +kernel
theorem dX12_judgeElement_57 : decode cX12_judgeElement 57 = .ok (.invokevirtual 519, 3) := by decide +kernel
theorem dX12_judgeElement_60 : decode cX12_judgeElement 60 = .ok (.iload_n 1, 1) := by decide +kernel
theorem dX12_judgeElement_61 : decode cX12_judgeElement 61 = .ok (.iconst 1, 1) := by decide +kernel
theorem dX12_judgeElement_62 : decode cX12_judgeElement 62 = .ok (.iadd, 1) := by decide +kernel
theorem dX12_judgeElement_63 : decode cX12_judgeElement 63 = .ok (.istore 4, 2) := by decide +kernel
theorem dX12_judgeElement_65 : decode cX12_judgeElement 65 = .ok (.iload 4, 2) := by decide +kernel
theorem dX12_judgeElement_67 : decode cX12_judgeElement 67 = .ok (.aload_n 0, 1) := by decide +kernel
theorem dX12_judgeElement_68 : decode cX12_judgeElement 68 = .ok (.getfield 27, 3) := by decide +kernel
theorem dX12_judgeElement_71 : decode cX12_judgeElement 71 = .ok (.aload_n 0, 1) := by decide +kernel
theorem dX12_judgeElement_72 : decode cX12_judgeElement 72 = .ok (.getfield 482, 3) := by decide +kernel
theorem dX12_judgeElement_75 : decode cX12_judgeElement 75 = .ok (.iaload, 1) := by decide +kernel
theorem dX12_judgeElement_76 : decode cX12_judgeElement 76 = .ok (.if_icmp .ge 191, 3) := by decide +kernel
theorem dX12_judgeElement_79 : decode cX12_judgeElement 79 = .ok (.aload_n 0, 1) := by decide +kernel
theorem dX12_judgeElement_80 : decode cX12_judgeElement 80 = .ok (.getfield 31, 3) := by decide +kernel
theorem dX12_judgeElement_83 : decode cX12_judgeElement 83 = .ok (.iload_n 2, 1) := by decide +kernel
theorem dX12_judgeElement_84 : decode cX12_judgeElement 84 = .ok (.iload 4, 2) := by decide +kernel
theorem dX12_judgeElement_86 : decode cX12_judgeElement 86 = .ok (.iadd, 1) := by decide +kernel
theorem dX12_judgeElement_87 : decode cX12_judgeElement 87 = .ok (.iaload, 1) := by decide +kernel
theorem dX12_judgeElement_88 : decode cX12_judgeElement 88 = .ok (.iconst 2, 1) := by decide +kernel
theorem dX12_judgeElement_89 : decode cX12_judgeElement 89 = .ok (.if_icmp .ne 178, 3) := by decide +kernel
theorem dX12_judgeElement_92 : decode cX12_judgeElement 92 = .ok (.aload_n 0, 1) := by decide +kernel
theorem dX12_judgeElement_93 : decode cX12_judgeElement 93 = .ok (.getfield 34, 3) := by decide +kernel
theorem dX12_judgeElement_96 : decode cX12_judgeElement 96 = .ok (.iload_n 2, 1) := by decide +kernel
theorem dX12_judgeElement_97 : decode cX12_judgeElement 97 = .ok (.iload 4, 2) := by decide +kernel
theorem dX12_judgeElement_99 : decode cX12_judgeElement 99 = .ok (.iadd, 1) := by decide +kernel
theorem dX12_judgeElement_100 : decode cX12_judgeElement 100 = .ok (.iaload, 1) := by decide +kernel
theorem dX12_judgeElement_101 : decode cX12_judgeElement 101 = .ok (.iload_n 1, 1) := by decide +kernel
theorem dX12_judgeElement_102 : decode cX12_judgeElement 102 = .ok (.if_icmp .ne 165, 3) := by decide +kernel
theorem dX12_judgeElement_105 : decode cX12_judgeElement 105 = .ok (.aload_n 0, 1) := by decide +kernel
theorem dX12_judgeElement_106 : decode cX12_judgeElement 106 = .ok (.getfield 49, 3) := by decide +kernel
theorem dX12_judgeElement_109 : decode cX12_judgeElement 109 = .ok (.iload_n 2, 1) := by decide +kernel
theorem dX12_judgeElement_110 : decode cX12_judgeElement 110 = .ok (.iload 4, 2) := by decide +kernel
theorem dX12_judgeElement_112 : decode cX12_judgeElement 112 = .ok (.iadd, 1) := by decide +kernel
theorem dX12_judgeElement_113 : decode cX12_judgeElement 113 = .ok (.baload, 1) := by decide +kernel
theorem dX12_judgeElement_114 : decode cX12_judgeElement 114 = .ok (.ifCond .eq 6, 3) := by decide +kernel
theorem dX12_judgeElement_117 : decode cX12_judgeElement 117 = .ok (.goto 144, 3) := by decide +kernel
theorem dX12_judgeElement_120 : decode cX12_judgeElement 120 = .ok (.aload_n 0, 1) := by decide +kernel
theorem dX12_judgeElement_121 : decode cX12_judgeElement 121 = .ok (.iload_n 1, 1) := by decide +kernel
theorem dX12_judgeElement_122 : decode cX12_judgeElement 122 = .ok (.iload 4, 2) := by decide +kernel
theorem dX12_judgeElement_124 : decode cX12_judgeElement 124 = .ok (.invokevirtual 546, 3) := by decide +kernel
theorem dX12_judgeElement_127 : decode cX12_judgeElement 127 = .ok (.istore 5, 2) := by decide +kernel
theorem dX12_judgeElement_129 : decode cX12_judgeElement 129 = .ok (.iload 5, 2) := by decide +kernel
theorem dX12_judgeElement_131 : decode cX12_judgeElement 131 = .ok (.ifCond .ge 14, 3) := by decide +kernel
theorem dX12_judgeElement_134 : decode cX12_judgeElement 134 = .ok (.aload_n 0, 1) := by decide +kernel
theorem dX12_judgeElement_135 : decode cX12_judgeElement 135 = .ok (.bipush 9, 2) := by decide +kernel
theorem dX12_judgeElement_137 : decode cX12_judgeElement 137 = .ok (.iload 4, 2) := by decide +kernel
theorem dX12_judgeElement_139 : decode cX12_judgeElement 139 = .ok (.invokevirtual 519, 3) := by decide +kernel
theorem dX12_judgeElement_142 : decode cX12_judgeElement 142 = .ok (.goto 119, 3) := by decide +kernel
theorem dX12_judgeElement_145 : decode cX12_judgeElement 145 = .ok (.aload_n 0, 1) := by decide +kernel
theorem dX12_judgeElement_146 : decode cX12_judgeElement 146 = .ok (.iload 5, 2) := by decide +kernel
theorem dX12_judgeElement_148 : decode cX12_judgeElement 148 = .ok (.aload_n 0, 1) := by decide +kernel
theorem dX12_judgeElement_149 : decode cX12_judgeElement 149 = .ok (.getfield 43, 3) := by decide +kernel
theorem dX12_judgeElement_152 : decode cX12_judgeElement 152 = .ok (.iload_n 2, 1) := by decide +kernel
theorem dX12_judgeElement_153 : decode cX12_judgeElement 153 = .ok (.iload 4, 2) := by decide +kernel
theorem dX12_judgeElement_155 : decode cX12_judgeElement 155 = .ok (.iadd, 1) := by decide +kernel
theorem dX12_judgeElement_156 : decode cX12_judgeElement 156 = .ok (.iaload, 1) := by decide +kernel
theorem dX12_judgeElement_157 : decode cX12_judgeElement 157 = .ok (.aload_n 0, 1) := by decide +kernel
theorem dX12_judgeElement_158 : decode cX12_judgeElement 158 = .ok (.getfield 46, 3) := by decide +kernel
theorem dX12_judgeElement_161 : decode cX12_judgeElement 161 = .ok (.iload_n 2, 1) := by decide +kernel
theorem dX12_judgeElement_162 : decode cX12_judgeElement 162 = .ok (.iload 4, 2) := by decide +kernel
theorem dX12_judgeElement_164 : decode cX12_judgeElement 164 = .ok (.iadd, 1) := by decide +kernel
theorem dX12_judgeElement_165 : decode cX12_judgeElement 165 = .ok (.iaload, 1) := by decide +kernel
theorem dX12_judgeElement_166 : decode cX12_judgeElement 166 = .ok (.invokevirtual 534, 3) := by decide +kernel
theorem dX12_judgeElement_169 : decode cX12_judgeElement 169 = .ok (.ifCond .eq 53, 3) := by decide +kernel
theorem dX12_judgeElement_172 : decode cX12_judgeElement 172 = .ok (.aload_n 0, 1) := by decide +kernel
theorem dX12_judgeElement_173 : decode cX12_judgeElement 173 = .ok (.getfield 122, 3) := by decide +kernel
theorem dX12_judgeElement_176 : decode cX12_judgeElement 176 = .ok (.iload 5, 2) := by decide +kernel
theorem dX12_judgeElement_178 : decode cX12_judgeElement 178 = .ok (.iaload, 1) := by decide +kernel
theorem dX12_judgeElement_179 : decode cX12_judgeElement 179 = .ok (.iconst 2, 1) := by decide +kernel
theorem dX12_judgeElement_180 : decode cX12_judgeElement 180 = .ok (.if_icmp .ne 53, 3) := by decide +kernel
theorem dX12_judgeElement_183 : decode cX12_judgeElement 183 = .ok (.aload_n 0, 1) := by decide +kernel
theorem dX12_judgeElement_184 : decode cX12_judgeElement 184 = .ok (.aload_n 0, 1) := by decide +kernel
theorem dX12_judgeElement_185 : decode cX12_judgeElement 185 = .ok (.getfield 125, 3) := by decide +kernel
theorem dX12_judgeElement_188 : decode cX12_judgeElement 188 = .ok (.iload 5, 2) := by decide +kernel
theorem dX12_judgeElement_190 : decode cX12_judgeElement 190 = .ok (.iaload, 1) := by decide +kernel
theorem dX12_judgeElement_191 : decode cX12_judgeElement 191 = .ok (.aload_n 0, 1) := by decide +kernel
theorem dX12_judgeElement_192 : decode cX12_judgeElement 192 = .ok (.getfield 128, 3) := by decide +kernel
theorem dX12_judgeElement_195 : decode cX12_judgeElement 195 = .ok (.iload 5, 2) := by decide +kernel
theorem dX12_judgeElement_197 : decode cX12_judgeElement 197 = .ok (.iaload, 1) := by decide +kernel
theorem dX12_judgeElement_198 : decode cX12_judgeElement 198 = .ok (.aload_n 0, 1) := by decide +kernel
theorem dX12_judgeElement_199 : decode cX12_judgeElement 199 = .ok (.getfield 43, 3) := by decide +kernel
theorem dX12_judgeElement_202 : decode cX12_judgeElement 202 = .ok (.iload_n 2, 1) := by decide +kernel
theorem dX12_judgeElement_203 : decode cX12_judgeElement 203 = .ok (.iload 4, 2) := by decide +kernel
theorem dX12_judgeElement_205 : decode cX12_judgeElement 205 = .ok (.iadd, 1) := by decide +kernel
theorem dX12_judgeElement_206 : decode cX12_judgeElement 206 = .ok (.iaload, 1) := by decide +kernel
theorem dX12_judgeElement_207 : decode cX12_judgeElement 207 = .ok (.aload_n 0, 1) := by decide +kernel
theorem dX12_judgeElement_208 : decode cX12_judgeElement 208 = .ok (.getfield 46, 3) := by decide +kernel
theorem dX12_judgeElement_211 : decode cX12_judgeElement 211 = .ok (.iload_n 2, 1) := by decide +kernel
theorem dX12_judgeElement_212 : decode cX12_judgeElement 212 = .ok (.iload 4, 2) := by decide +kernel
theorem dX12_judgeElement_214 : decode cX12_judgeElement 214 = .ok (.iadd, 1) := by decide +kernel
theorem dX12_judgeElement_215 : decode cX12_judgeElement 215 = .ok (.iaload, 1) := by decide +kernel
theorem dX12_judgeElement_216 : decode cX12_judgeElement 216 = .ok (.invokevirtual 549, 3) := by decide +kernel
theorem dX12_judgeElement_219 : decode cX12_judgeElement 219 = .ok (.ifCond .ne 14, 3) := by decide +kernel
theorem dX12_judgeElement_222 : decode cX12_judgeElement 222 = .ok (.aload_n 0, 1) := by decide +kernel
theorem dX12_judgeElement_223 : decode cX12_judgeElement 223 = .ok (.bipush 10, 2) := by decide +kernel
theorem dX12_judgeElement_225 : decode cX12_judgeElement 225 = .ok (.iload 4, 2) := by decide +kernel
theorem dX12_judgeElement_227 : decode cX12_judgeElement 227 = .ok (.invokevirtual 519, 3) := by decide +kernel
theorem dX12_judgeElement_230 : decode cX12_judgeElement 230 = .ok (.goto 31, 3) := by decide +kernel
theorem dX12_judgeElement_233 : decode cX12_judgeElement 233 = .ok (.aload_n 0, 1) := by decide +kernel
theorem dX12_judgeElement_234 : decode cX12_judgeElement 234 = .ok (.getfield 119, 3) := by decide +kernel
theorem dX12_judgeElement_237 : decode cX12_judgeElement 237 = .ok (.iload 5, 2) := by decide +kernel
theorem dX12_judgeElement_239 : decode cX12_judgeElement 239 = .ok (.iaload, 1) := by decide +kernel
theorem dX12_judgeElement_240 : decode cX12_judgeElement 240 = .ok (.iconst 1, 1) := by decide +kernel
theorem dX12_judgeElement_241 : decode cX12_judgeElement 241 = .ok (.if_icmp .ne 20, 3) := by decide +kernel
theorem dX12_judgeElement_244 : decode cX12_judgeElement 244 = .ok (.aload_n 0, 1) := by decide +kernel
theorem dX12_judgeElement_245 : decode cX12_judgeElement 245 = .ok (.iload 4, 2) := by decide +kernel
theorem dX12_judgeElement_247 : decode cX12_judgeElement 247 = .ok (.invokevirtual 555, 3) := by decide +kernel
theorem dX12_judgeElement_250 : decode cX12_judgeElement 250 = .ok (.ifCond .eq 11, 3) := by decide +kernel
theorem dX12_judgeElement_253 : decode cX12_judgeElement 253 = .ok (.aload_n 0, 1) := by decide +kernel
theorem dX12_judgeElement_254 : decode cX12_judgeElement 254 = .ok (.bipush 11, 2) := by decide +kernel
theorem dX12_judgeElement_256 : decode cX12_judgeElement 256 = .ok (.iload 4, 2) := by decide +kernel
theorem dX12_judgeElement_258 : decode cX12_judgeElement 258 = .ok (.invokevirtual 519, 3) := by decide +kernel
theorem dX12_judgeElement_261 : decode cX12_judgeElement 261 = .ok (.iinc 4 1, 3) := by decide +kernel
theorem dX12_judgeElement_264 : decode cX12_judgeElement 264 = .ok (.goto (-199), 3) := by decide +kernel
theorem dX12_judgeElement_267 : decode cX12_judgeElement 267 = .ok (.sipush 800, 3) := by decide +kernel
theorem dX12_judgeElement_270 : decode cX12_judgeElement 270 = .ok (.aload_n 0, 1) := by decide +kernel
theorem dX12_judgeElement_271 : decode cX12_judgeElement 271 = .ok (.getfield 482, 3) := by decide +kernel
theorem dX12_judgeElement_274 : decode cX12_judgeElement 274 = .ok (.imul, 1) := by decide +kernel
theorem dX12_judgeElement_275 : decode cX12_judgeElement 275 = .ok (.istore 4, 2) := by decide +kernel
theorem dX12_judgeElement_277 : decode cX12_judgeElement 277 = .ok (.iload 4, 2) := by decide +kernel
theorem dX12_judgeElement_279 : decode cX12_judgeElement 279 = .ok (.sipush 800, 3) := by decide +kernel
theorem dX12_judgeElement_282 : decode cX12_judgeElement 282 = .ok (.aload_n 0, 1) := by decide +kernel
theorem dX12_judgeElement_283 : decode cX12_judgeElement 283 = .ok (.getfield 482, 3) := by decide +kernel
theorem dX12_judgeElement_286 : decode cX12_judgeElement 286 = .ok (.imul, 1) := by decide +kernel
theorem dX12_judgeElement_287 : decode cX12_judgeElement 287 = .ok (.aload_n 0, 1) := by decide +kernel
theorem dX12_judgeElement_288 : decode cX12_judgeElement 288 = .ok (.getfield 104, 3) := by decide +kernel
theorem dX12_judgeElement_291 : decode cX12_judgeElement 291 = .ok (.aload_n 0, 1) := by decide +kernel
theorem dX12_judgeElement_292 : decode cX12_judgeElement 292 = .ok (.getfield 482, 3) := by decide +kernel
theorem dX12_judgeElement_295 : decode cX12_judgeElement 295 = .ok (.iaload, 1) := by decide +kernel
theorem dX12_judgeElement_296 : decode cX12_judgeElement 296 = .ok (.iadd, 1) := by decide +kernel
theorem dX12_judgeElement_297 : decode cX12_judgeElement 297 = .ok (.if_icmp .ge 89, 3) := by decide +kernel
theorem dX12_judgeElement_300 : decode cX12_judgeElement 300 = .ok (.aload_n 0, 1) := by decide +kernel
theorem dX12_judgeElement_301 : decode cX12_judgeElement 301 = .ok (.aload_n 0, 1) := by decide +kernel
theorem dX12_judgeElement_302 : decode cX12_judgeElement 302 = .ok (.getfield 107, 3) := by decide +kernel
theorem dX12_judgeElement_305 : decode cX12_judgeElement 305 = .ok (.iload 4, 2) := by decide +kernel
theorem dX12_judgeElement_307 : decode cX12_judgeElement 307 = .ok (.iaload, 1) := by decide +kernel
theorem dX12_judgeElement_308 : decode cX12_judgeElement 308 = .ok (.aload_n 0, 1) := by decide +kernel
theorem dX12_judgeElement_309 : decode cX12_judgeElement 309 = .ok (.getfield 110, 3) := by decide +kernel
theorem dX12_judgeElement_312 : decode cX12_judgeElement 312 = .ok (.iload 4, 2) := by decide +kernel
theorem dX12_judgeElement_314 : decode cX12_judgeElement 314 = .ok (.iaload, 1) := by decide +kernel
theorem dX12_judgeElement_315 : decode cX12_judgeElement 315 = .ok (.aload_n 0, 1) := by decide +kernel
theorem dX12_judgeElement_316 : decode cX12_judgeElement 316 = .ok (.getfield 37, 3) := by decide +kernel
theorem dX12_judgeElement_319 : decode cX12_judgeElement 319 = .ok (.iload_n 2, 1) := by decide +kernel
theorem dX12_judgeElement_320 : decode cX12_judgeElement 320 = .ok (.iload_n 1, 1) := by decide +kernel
theorem dX12_judgeElement_321 : decode cX12_judgeElement 321 = .ok (.iadd, 1) := by decide +kernel
theorem dX12_judgeElement_322 : decode cX12_judgeElement 322 = .ok (.iaload, 1) := by decide +kernel
theorem dX12_judgeElement_323 : decode cX12_judgeElement 323 = .ok (.aload_n 0, 1) := by decide +kernel
theorem dX12_judgeElement_324 : decode cX12_judgeElement 324 = .ok (.getfield 40, 3) := by decide +kernel
theorem dX12_judgeElement_327 : decode cX12_judgeElement 327 = .ok (.iload_n 2, 1) := by decide +kernel
theorem dX12_judgeElement_328 : decode cX12_judgeElement 328 = .ok (.iload_n 1, 1) := by decide +kernel
theorem dX12_judgeElement_329 : decode cX12_judgeElement 329 = .ok (.iadd, 1) := by decide +kernel
theorem dX12_judgeElement_330 : decode cX12_judgeElement 330 = .ok (.iaload, 1) := by decide +kernel
theorem dX12_judgeElement_331 : decode cX12_judgeElement 331 = .ok (.invokevirtual 412, 3) := by decide +kernel
theorem dX12_judgeElement_334 : decode cX12_judgeElement 334 = .ok (.istore 5, 2) := by decide +kernel
theorem dX12_judgeElement_336 : decode cX12_judgeElement 336 = .ok (.iload 5, 2) := by decide +kernel
theorem dX12_judgeElement_338 : decode cX12_judgeElement 338 = .ok (.ifCond .eq 42, 3) := by decide +kernel
theorem dX12_judgeElement_341 : decode cX12_judgeElement 341 = .ok (.aload_n 0, 1) := by decide +kernel
theorem dX12_judgeElement_342 : decode cX12_judgeElement 342 = .ok (.getfield 122, 3) := by decide +kernel
theorem dX12_judgeElement_345 : decode cX12_judgeElement 345 = .ok (.iload 4, 2) := by decide +kernel
theorem dX12_judgeElement_347 : decode cX12_judgeElement 347 = .ok (.iaload, 1) := by decide +kernel
theorem dX12_judgeElement_348 : decode cX12_judgeElement 348 = .ok (.ifCond .ne 32, 3) := by decide +kernel
theorem dX12_judgeElement_351 : decode cX12_judgeElement 351 = .ok (.aload_n 0, 1) := by decide +kernel
theorem dX12_judgeElement_352 : decode cX12_judgeElement 352 = .ok (.iload_n 1, 1) := by decide +kernel
theorem dX12_judgeElement_353 : decode cX12_judgeElement 353 = .ok (.aload_n 0, 1) := by decide +kernel
theorem dX12_judgeElement_354 : decode cX12_judgeElement 354 = .ok (.getfield 113, 3) := by decide +kernel
theorem dX12_judgeElement_357 : decode cX12_judgeElement 357 = .ok (.iload 4, 2) := by decide +kernel
theorem dX12_judgeElement_359 : decode cX12_judgeElement 359 = .ok (.iaload, 1) := by decide +kernel
theorem dX12_judgeElement_360 : decode cX12_judgeElement 360 = .ok (.aload_n 0, 1) := by decide +kernel
theorem dX12_judgeElement_361 : decode cX12_judgeElement 361 = .ok (.getfield 116, 3) := by decide +kernel
theorem dX12_judgeElement_364 : decode cX12_judgeElement 364 = .ok (.iload 4, 2) := by decide +kernel
theorem dX12_judgeElement_366 : decode cX12_judgeElement 366 = .ok (.iaload, 1) := by decide +kernel
theorem dX12_judgeElement_367 : decode cX12_judgeElement 367 = .ok (.invokevirtual 458, 3) := by decide +kernel
theorem dX12_judgeElement_370 : decode cX12_judgeElement 370 = .ok (.ifCond .ne 10, 3) := by decide +kernel
theorem dX12_judgeElement_373 : decode cX12_judgeElement 373 = .ok (.aload_n 0, 1) := by decide +kernel
theorem dX12_judgeElement_374 : decode cX12_judgeElement 374 = .ok (.bipush 12, 2) := by decide +kernel
theorem dX12_judgeElement_376 : decode cX12_judgeElement 376 = .ok (.iload_n 1, 1) := by decide +kernel
theorem dX12_judgeElement_377 : decode cX12_judgeElement 377 = .ok (.invokevirtual 519, 3) := by decide +kernel
theorem dX12_judgeElement_380 : decode cX12_judgeElement 380 = .ok (.iinc 4 1, 3) := by decide +kernel
theorem dX12_judgeElement_383 : decode cX12_judgeElement 383 = .ok (.goto (-106), 3) := by decide +kernel
theorem dX12_judgeElement_386 : decode cX12_judgeElement 386 = .ok (.return_, 1) := by decide +kernel
theorem v_X12_judgeElement_0 {cs : Cs} {Q : Option AV → Mm → Prop} {MI ML : Nat → Nat → Int} {d e nw th x : Nat} {l1 : Int}
    (h : (-2147483648 ≤ 600 * (MI 124 7) ∧ 600 * (MI 124 7) < 2147483648) ∧ (-2147483648 ≤ (600 * (MI 124 7)) + l1 ∧ (600 * (MI 124 7)) + l1 < 2147483648) ∧ (0 ≤ ((600 * (MI 124 7)) + l1) ∧ ((600 * (MI 124 7)) + l1) < 1200) ∧ wp cs mX12_declOf KD (rI (GR d e nw th x) fun x26 m26 n26 => ((x26 < 0 → wp cs mX12_tellFinding KD (rV (GR d e nw th x) fun m38 n38 => (-2147483648 ≤ l1 + 1 ∧ l1 + 1 < 2147483648) ∧ wp cs mX12_judgeElement KD Q 65 [some (vR 124), some (vI l1), some (vI (600 * (MI 124 7))), some (vI x26), some (vI (l1 + 1)), none] [] (KD, m38, n38, (GR d e nw th x))) 0 (padL [vR 124, vI 7, vI l1] 3) [] (KD, m26, n26, (GR d e nw th x))) ∧ (0 ≤ x26 → wp cs mX12_fits KD (rI (GR d e nw th x) fun x47 m47 n47 => ((x47 = 0 → wp cs mX12_tellFinding KD (rV (GR d e nw th x) fun m57 n57 => (-2147483648 ≤ l1 + 1 ∧ l1 + 1 < 2147483648) ∧ wp cs mX12_judgeElement KD Q 65 [some (vR 124), some (vI l1), some (vI (600 * (MI 124 7))), some (vI x26), some (vI (l1 + 1)), none] [] (KD, m57, n57, (GR d e nw th x))) 0 (padL [vR 124, vI 8, vI l1] 3) [] (KD, m47, n47, (GR d e nw th x))) ∧ (x47 ≠ 0 → (-2147483648 ≤ l1 + 1 ∧ l1 + 1 < 2147483648) ∧ wp cs mX12_judgeElement KD Q 65 [some (vR 124), some (vI l1), some (vI (600 * (MI 124 7))), some (vI x26), some (vI (l1 + 1)), none] [] (KD, m47, n47, (GR d e nw th x))))) 0 (padL [vR 124, vI l1, vI x26] 12) [] (KD, m26, n26, (GR d e nw th x))))) 0 (padL [vR 124, vI (MI 132 ((600 * (MI 124 7)) + l1).toNat), vI (MI 133 ((600 * (MI 124 7)) + l1).toNat)] 4) [] (KD, MI, ML, (GR d e nw th x))) :
    wp cs mX12_judgeElement KD Q 0 (padL [vR 124, vI l1] 6) [] (KD, MI, ML, (GR d e nw th x)) := by
  refine wp_L (L' := [some (vR 124), some (vI l1), none, none, none, none]) rfl ?_
  refine wp_sipush dX12_judgeElement_0 (by decide +kernel) (by decide) ?_
  refine wp_aload_n dX12_judgeElement_3 rfl rfl (by first | exact Or.inl (by decide) | exact Or.inl (by omega) | exact Or.inr (by decide) | exact Or.inr (by omega)) ?_
  refine wp_getI dX12_judgeElement_4 fX12_482 rfl (by decide) ?_
  have c0 := h.1
  replace h := h.2
  refine wp_imulr dX12_judgeElement_7 c0 ?_
  refine wp_istore_n dX12_judgeElement_8 rfl (by decide) (wp_L (L' := [some (vR 124), some (vI l1), some (vI (600 * (MI 124 7))), none, none, none]) rfl ?_)
  refine wp_aload_n dX12_judgeElement_9 rfl rfl (by first | exact Or.inl (by decide) | exact Or.inl (by omega) | exact Or.inr (by decide) | exact Or.inr (by omega)) ?_
  refine wp_aload_n dX12_judgeElement_10 rfl rfl (by first | exact Or.inl (by decide) | exact Or.inl (by omega) | exact Or.inr (by decide) | exact Or.inr (by omega)) ?_
  refine wp_pc (pc' := 11) rfl ?_
  refine wp_getR dX12_judgeElement_11 fX12_37 rfl (by decide) ?_
  refine wp_topR (x' := 132) rfl ?_
  refine wp_iload_n dX12_judgeElement_14 rfl rfl ?_
  refine wp_iload_n dX12_judgeElement_15 rfl rfl ?_
  have c1 := h.1
  replace h := h.2
  refine wp_iaddr dX12_judgeElement_16 c1 ?_
  have c2 := h.1
  replace h := h.2
  refine wp_iald dX12_judgeElement_17 rfl (by decide) c2 ?_
  refine wp_aload_n dX12_judgeElement_18 rfl rfl (by first | exact Or.inl (by decide) | exact Or.inl (by omega) | exact Or.inr (by decide) | exact Or.inr (by omega)) ?_
  refine wp_getR dX12_judgeElement_19 fX12_40 rfl (by decide) ?_
  refine wp_topR (x' := 133) rfl ?_
  refine wp_iload_n dX12_judgeElement_22 rfl rfl ?_
  refine wp_pc (pc' := 23) rfl ?_
  refine wp_iload_n dX12_judgeElement_23 rfl rfl ?_
  refine wp_iaddr dX12_judgeElement_24 c1 ?_
  refine wp_iald dX12_judgeElement_25 rfl (by decide) c2 ?_
  refine wp_cVq (n := 2) (mt' := mX12_declOf) (as := [vI (MI 132 ((600 * (MI 124 7)) + l1).toNat), vI (MI 133 ((600 * (MI 124 7)) + l1).toNat)]) (rest := []) _ dX12_judgeElement_26 lX12_516 kX12_declOf vX12_declOf (by decide) (by decide +kernel) rfl (Nat.le_of_ble_eq_true rfl) (by decide) rfl rfl rfl (Nat.le_of_ble_eq_true rfl) (fun hM hS => h) (fun r M' hq hM => ?_)
  obtain ⟨x26, m26, n26, rfl, rfl, h⟩ := rI_out hq
  refine wp_istore_n dX12_judgeElement_29 rfl (by decide) (wp_L (L' := [some (vR 124), some (vI l1), some (vI (600 * (MI 124 7))), some (vI x26), none, none]) rfl ?_)
  refine wp_iload_n dX12_judgeElement_30 rfl rfl ?_
  refine wp_if_ge (tgt := 44) dX12_judgeElement_31 (by decide) (fun h31 => ?_) (fun h31 => ?_)
  · replace h := h.2 h31
    refine wp_aload_n dX12_judgeElement_44 rfl rfl (by first | exact Or.inl (by decide) | exact Or.inl (by omega) | exact Or.inr (by decide) | exact Or.inr (by omega)) ?_
    refine wp_iload_n dX12_judgeElement_45 rfl rfl ?_
    refine wp_iload_n dX12_judgeElement_46 rfl rfl ?_
    refine wp_cVq (n := 2) (mt' := mX12_fits) (as := [vI l1, vI x26]) (rest := []) _ dX12_judgeElement_47 lX12_552 kX12_fits vX12_fits (by decide) (by decide +kernel) rfl (Nat.le_of_ble_eq_true rfl) (by decide) rfl rfl rfl (Nat.le_of_ble_eq_true rfl) (fun hM hS => h) (fun r M' hq hM => ?_)
    obtain ⟨x47, m47, n47, rfl, rfl, h⟩ := rI_out hq
    refine wp_if_ne (tgt := 60) dX12_judgeElement_50 (by decide) (fun h50 => ?_) (fun h50 => ?_)
    · replace h := h.2 h50
      refine wp_iload_n dX12_judgeElement_60 rfl rfl ?_
      refine wp_iconst dX12_judgeElement_61 (by decide) ?_
      have c3 := h.1
      replace h := h.2
      refine wp_iaddr dX12_judgeElement_62 c3 ?_
      refine wp_istore dX12_judgeElement_63 (by decide) (wp_L (L' := [some (vR 124), some (vI l1), some (vI (600 * (MI 124 7))), some (vI x26), some (vI (l1 + 1)), none]) rfl ?_)
      exact h
    · replace h := h.1 h50
      refine wp_aload_n dX12_judgeElement_53 rfl rfl (by first | exact Or.inl (by decide) | exact Or.inl (by omega) | exact Or.inr (by decide) | exact Or.inr (by omega)) ?_
      refine wp_bipush dX12_judgeElement_54 (by decide +kernel) (by decide) ?_
      refine wp_iload_n dX12_judgeElement_56 rfl rfl ?_
      refine wp_cVq (n := 2) (mt' := mX12_tellFinding) (as := [vI 8, vI l1]) (rest := []) _ dX12_judgeElement_57 lX12_519 kX12_tellFinding vX12_tellFinding (by decide) (by decide +kernel) rfl (Nat.le_of_ble_eq_true rfl) (by decide) rfl rfl rfl (Nat.le_of_ble_eq_true rfl) (fun hM hS => h) (fun r M' hq hM => ?_)
      obtain ⟨m57, n57, rfl, rfl, h⟩ := rV_out hq
      refine wp_iload_n dX12_judgeElement_60 rfl rfl ?_
      refine wp_iconst dX12_judgeElement_61 (by decide) ?_
      have c3 := h.1
      replace h := h.2
      refine wp_iaddr dX12_judgeElement_62 c3 ?_
      refine wp_istore dX12_judgeElement_63 (by decide) (wp_L (L' := [some (vR 124), some (vI l1), some (vI (600 * (MI 124 7))), some (vI x26), some (vI (l1 + 1)), none]) rfl ?_)
      exact h
  · replace h := h.1 h31
    refine wp_aload_n dX12_judgeElement_34 rfl rfl (by first | exact Or.inl (by decide) | exact Or.inl (by omega) | exact Or.inr (by decide) | exact Or.inr (by omega)) ?_
    refine wp_bipush dX12_judgeElement_35 (by decide +kernel) (by decide) ?_
    refine wp_iload_n dX12_judgeElement_37 rfl rfl ?_
    refine wp_cVq (n := 2) (mt' := mX12_tellFinding) (as := [vI 7, vI l1]) (rest := []) _ dX12_judgeElement_38 lX12_519 kX12_tellFinding vX12_tellFinding (by decide) (by decide +kernel) rfl (Nat.le_of_ble_eq_true rfl) (by decide) rfl rfl rfl (Nat.le_of_ble_eq_true rfl) (fun hM hS => h) (fun r M' hq hM => ?_)
    obtain ⟨m38, n38, rfl, rfl, h⟩ := rV_out hq
    refine wp_goto (tgt := 60) dX12_judgeElement_41 (by decide) ?_
    refine wp_iload_n dX12_judgeElement_60 rfl rfl ?_
    refine wp_iconst dX12_judgeElement_61 (by decide) ?_
    have c3 := h.1
    replace h := h.2
    refine wp_iaddr dX12_judgeElement_62 c3 ?_
    refine wp_istore dX12_judgeElement_63 (by decide) (wp_L (L' := [some (vR 124), some (vI l1), some (vI (600 * (MI 124 7))), some (vI x26), some (vI (l1 + 1)), none]) rfl ?_)
    exact h
theorem v_X12_judgeElement_65 {cs : Cs} {Q : Option AV → Mm → Prop} {MI ML : Nat → Nat → Int} {d e nw th x : Nat} {l1 l2 l3 l4 : Int}
    (h : (0 ≤ (MI 124 7) ∧ (MI 124 7) < 2) ∧ ((l4 < (MI 129 (MI 124 7).toNat) → (-2147483648 ≤ l2 + l4 ∧ l2 + l4 < 2147483648) ∧ (0 ≤ (l2 + l4) ∧ (l2 + l4) < 1200) ∧ (((MI 130 (l2 + l4).toNat) = 2 → (((MI 131 (l2 + l4).toNat) = l1 → (((MI 136 (l2 + l4).toNat) = 0 → wp cs mX12_ruleFor KD (rI (GR d e nw th x) fun x124 m124 n124 => ((x124 < 0 → wp cs mX12_tellFinding KD (rV (GR d e nw th x) fun m139 n139 => wp cs mX12_judgeElement KD Q 261 [some (vR 124), some (vI l1), some (vI l2), some (vI l3), some (vI l4), none] [] (KD, m139, n139, (GR d e nw th x))) 0 (padL [vR 124, vI 9, vI l4] 3) [] (KD, m124, n124, (GR d e nw th x))) ∧ (0 ≤ x124 → wp cs mX12_isOf KD (rI (GR d e nw th x) fun x166 m166 n166 => ((x166 = 0 → wp cs mX12_tellFinding KD (rV (GR d e nw th x) fun m227 n227 => wp cs mX12_judgeElement KD Q 261 [some (vR 124), some (vI l1), some (vI l2), some (vI l3), some (vI l4), none] [] (KD, m227, n227, (GR d e nw th x))) 0 (padL [vR 124, vI 10, vI l4] 3) [] (KD, m166, n166, (GR d e nw th x))) ∧ (x166 ≠ 0 → (0 ≤ x124 ∧ x124 < 1600) ∧ (((m166 160 x124.toNat) = 2 → wp cs mX12_areSameKept KD (rI (GR d e nw th x) fun x216 m216 n216 => ((x216 = 0 → wp cs mX12_tellFinding KD (rV (GR d e nw th x) fun m227 n227 => wp cs mX12_judgeElement KD Q 261 [some (vR 124), some (vI l1), some (vI l2), some (vI l3), some (vI l4), none] [] (KD, m227, n227, (GR d e nw th x))) 0 (padL [vR 124, vI 10, vI l4] 3) [] (KD, m216, n216, (GR d e nw th x))) ∧ (x216 ≠ 0 → wp cs mX12_judgeElement KD Q 233 [some (vR 124), some (vI l1), some (vI l2), some (vI l3), some (vI l4), some (vI x124)] [] (KD, m216, n216, (GR d e nw th x))))) 0 (padL [vR 124, vI (m166 161 x124.toNat), vI (m166 162 x124.toNat), vI (m166 134 (l2 + l4).toNat), vI (m166 135 (l2 + l4).toNat)] 7) [] (KD, m166, n166, (GR d e nw th x))) ∧ ((m166 160 x124.toNat) ≠ 2 → wp cs mX12_judgeElement KD Q 233 [some (vR 124), some (vI l1), some (vI l2), some (vI l3), some (vI l4), some (vI x124)] [] (KD, m166, n166, (GR d e nw th x))))))) 0 (padL [vR 124, vI x124, vI (m124 134 (l2 + l4).toNat), vI (m124 135 (l2 + l4).toNat)] 7) [] (KD, m124, n124, (GR d e nw th x))))) 0 (padL [vR 124, vI l1, vI l4] 5) [] (KD, MI, ML, (GR d e nw th x))) ∧ ((MI 136 (l2 + l4).toNat) ≠ 0 → wp cs mX12_judgeElement KD Q 261 [some (vR 124), some (vI l1), some (vI l2), some (vI l3), some (vI l4), none] [] (KD, MI, ML, (GR d e nw th x))))) ∧ ((MI 131 (l2 + l4).toNat) ≠ l1 → (-2147483648 ≤ 800 * (MI 124 7) ∧ 800 * (MI 124 7) < 2147483648) ∧ wp cs mX12_judgeElement KD Q 277 [some (vR 124), some (vI l1), some (vI l2), some (vI l3), some (vI (800 * (MI 124 7))), none] [] (KD, MI, ML, (GR d e nw th x))))) ∧ ((MI 130 (l2 + l4).toNat) ≠ 2 → (-2147483648 ≤ 800 * (MI 124 7) ∧ 800 * (MI 124 7) < 2147483648) ∧ wp cs mX12_judgeElement KD Q 277 [some (vR 124), some (vI l1), some (vI l2), some (vI l3), some (vI (800 * (MI 124 7))), none] [] (KD, MI, ML, (GR d e nw th x))))) ∧ ((MI 129 (MI 124 7).toNat) ≤ l4 → (-2147483648 ≤ 800 * (MI 124 7) ∧ 800 * (MI 124 7) < 2147483648) ∧ wp cs mX12_judgeElement KD Q 277 [some (vR 124), some (vI l1), some (vI l2), some (vI l3), some (vI (800 * (MI 124 7))), none] [] (KD, MI, ML, (GR d e nw th x))))) :
    wp cs mX12_judgeElement KD Q 65 [some (vR 124), some (vI l1), some (vI l2), some (vI l3), some (vI l4), none] [] (KD, MI, ML, (GR d e nw th x)) := by
  refine wp_iload dX12_judgeElement_65 rfl ?_
  refine wp_aload_n dX12_judgeElement_67 rfl rfl (by first | exact Or.inl (by decide) | exact Or.inl (by omega) | exact Or.inr (by decide) | exact Or.inr (by omega)) ?_
  refine wp_getR dX12_judgeElement_68 fX12_27 rfl (by decide) ?_
  refine wp_topR (x' := 129) rfl ?_
  refine wp_aload_n dX12_judgeElement_71 rfl rfl (by first | exact Or.inl (by decide) | exact Or.inl (by omega) | exact Or.inr (by decide) | exact Or.inr (by omega)) ?_
  refine wp_getI dX12_judgeElement_72 fX12_482 rfl (by decide) ?_
  have c0 := h.1
  replace h := h.2
  refine wp_iald dX12_judgeElement_75 rfl (by decide) c0 ?_
  refine wp_icmp_ge (tgt := 267) dX12_judgeElement_76 (by decide) (fun h76 => ?_) (fun h76 => ?_)
  · replace h := h.2 h76
    refine wp_sipush dX12_judgeElement_267 (by decide +kernel) (by decide) ?_
    refine wp_aload_n dX12_judgeElement_270 rfl rfl (by first | exact Or.inl (by decide) | exact Or.inl (by omega) | exact Or.inr (by decide) | exact Or.inr (by omega)) ?_
    refine wp_getI dX12_judgeElement_271 fX12_482 rfl (by decide) ?_
    have c1 := h.1
    replace h := h.2
    refine wp_imulr dX12_judgeElement_274 c1 ?_
    refine wp_istore dX12_judgeElement_275 (by decide) (wp_L (L' := [some (vR 124), some (vI l1), some (vI l2), some (vI l3), some (vI (800 * (MI 124 7))), none]) rfl ?_)
    exact h
  · replace h := h.1 h76
    refine wp_aload_n dX12_judgeElement_79 rfl rfl (by first | exact Or.inl (by decide) | exact Or.inl (by omega) | exact Or.inr (by decide) | exact Or.inr (by omega)) ?_
    refine wp_getR dX12_judgeElement_80 fX12_31 rfl (by decide) ?_
    refine wp_topR (x' := 130) rfl ?_
    refine wp_iload_n dX12_judgeElement_83 rfl rfl ?_
    refine wp_iload dX12_judgeElement_84 rfl ?_
    have c1 := h.1
    replace h := h.2
    refine wp_iaddr dX12_judgeElement_86 c1 ?_
    have c2 := h.1
    replace h := h.2
    refine wp_iald dX12_judgeElement_87 rfl (by decide) c2 ?_
    refine wp_iconst dX12_judgeElement_88 (by decide) ?_
    refine wp_pc (pc' := 89) rfl ?_
    refine wp_icmp_ne (tgt := 267) dX12_judgeElement_89 (by decide) (fun h89 => ?_) (fun h89 => ?_)
    · replace h := h.2 h89
      refine wp_sipush dX12_judgeElement_267 (by decide +kernel) (by decide) ?_
      refine wp_aload_n dX12_judgeElement_270 rfl rfl (by first | exact Or.inl (by decide) | exact Or.inl (by omega) | exact Or.inr (by decide) | exact Or.inr (by omega)) ?_
      refine wp_getI dX12_judgeElement_271 fX12_482 rfl (by decide) ?_
      have c3 := h.1
      replace h := h.2
      refine wp_imulr dX12_judgeElement_274 c3 ?_
      refine wp_istore dX12_judgeElement_275 (by decide) (wp_L (L' := [some (vR 124), some (vI l1), some (vI l2), some (vI l3), some (vI (800 * (MI 124 7))), none]) rfl ?_)
      exact h
    · replace h := h.1 h89
      refine wp_aload_n dX12_judgeElement_92 rfl rfl (by first | exact Or.inl (by decide) | exact Or.inl (by omega) | exact Or.inr (by decide) | exact Or.inr (by omega)) ?_
      refine wp_getR dX12_judgeElement_93 fX12_34 rfl (by decide) ?_
      refine wp_topR (x' := 131) rfl ?_
      refine wp_iload_n dX12_judgeElement_96 rfl rfl ?_
      refine wp_iload dX12_judgeElement_97 rfl ?_
      refine wp_iaddr dX12_judgeElement_99 c1 ?_
      refine wp_iald dX12_judgeElement_100 rfl (by decide) c2 ?_
      refine wp_iload_n dX12_judgeElement_101 rfl rfl ?_
      refine wp_pc (pc' := 102) rfl ?_
      refine wp_icmp_ne (tgt := 267) dX12_judgeElement_102 (by decide) (fun h102 => ?_) (fun h102 => ?_)
      · replace h := h.2 h102
        refine wp_sipush dX12_judgeElement_267 (by decide +kernel) (by decide) ?_
        refine wp_aload_n dX12_judgeElement_270 rfl rfl (by first | exact Or.inl (by decide) | exact Or.inl (by omega) | exact Or.inr (by decide) | exact Or.inr (by omega)) ?_
        refine wp_getI dX12_judgeElement_271 fX12_482 rfl (by decide) ?_
        have c3 := h.1
        replace h := h.2
        refine wp_imulr dX12_judgeElement_274 c3 ?_
        refine wp_istore dX12_judgeElement_275 (by decide) (wp_L (L' := [some (vR 124), some (vI l1), some (vI l2), some (vI l3), some (vI (800 * (MI 124 7))), none]) rfl ?_)
        exact h
      · replace h := h.1 h102
        refine wp_aload_n dX12_judgeElement_105 rfl rfl (by first | exact Or.inl (by decide) | exact Or.inl (by omega) | exact Or.inr (by decide) | exact Or.inr (by omega)) ?_
        refine wp_getR dX12_judgeElement_106 fX12_49 rfl (by decide) ?_
        refine wp_topR (x' := 136) rfl ?_
        refine wp_iload_n dX12_judgeElement_109 rfl rfl ?_
        refine wp_iload dX12_judgeElement_110 rfl ?_
        refine wp_iaddr dX12_judgeElement_112 c1 ?_
        refine wp_zald dX12_judgeElement_113 rfl (by decide) c2 ?_
        refine wp_if_eq (tgt := 120) dX12_judgeElement_114 (by decide) (fun h114 => ?_) (fun h114 => ?_)
        · replace h := h.1 h114
          refine wp_aload_n dX12_judgeElement_120 rfl rfl (by first | exact Or.inl (by decide) | exact Or.inl (by omega) | exact Or.inr (by decide) | exact Or.inr (by omega)) ?_
          refine wp_iload_n dX12_judgeElement_121 rfl rfl ?_
          refine wp_iload dX12_judgeElement_122 rfl ?_
          refine wp_cVq (n := 2) (mt' := mX12_ruleFor) (as := [vI l1, vI l4]) (rest := []) _ dX12_judgeElement_124 lX12_546 kX12_ruleFor vX12_ruleFor (by decide) (by decide +kernel) rfl (Nat.le_of_ble_eq_true rfl) (by decide) rfl rfl rfl (Nat.le_of_ble_eq_true rfl) (fun hM hS => h) (fun r M' hq hM => ?_)
          obtain ⟨x124, m124, n124, rfl, rfl, h⟩ := rI_out hq
          refine wp_istore dX12_judgeElement_127 (by decide) (wp_L (L' := [some (vR 124), some (vI l1), some (vI l2), some (vI l3), some (vI l4), some (vI x124)]) rfl ?_)
          refine wp_iload dX12_judgeElement_129 rfl ?_
          refine wp_if_ge (tgt := 145) dX12_judgeElement_131 (by decide) (fun h131 => ?_) (fun h131 => ?_)
          · replace h := h.2 h131
            refine wp_aload_n dX12_judgeElement_145 rfl rfl (by first | exact Or.inl (by decide) | exact Or.inl (by omega) | exact Or.inr (by decide) | exact Or.inr (by omega)) ?_
            refine wp_iload dX12_judgeElement_146 rfl ?_
            refine wp_aload_n dX12_judgeElement_148 rfl rfl (by first | exact Or.inl (by decide) | exact Or.inl (by omega) | exact Or.inr (by decide) | exact Or.inr (by omega)) ?_
            refine wp_getR dX12_judgeElement_149 fX12_43 rfl (by decide) ?_
            refine wp_topR (x' := 134) rfl ?_
            refine wp_iload_n dX12_judgeElement_152 rfl rfl ?_
            refine wp_iload dX12_judgeElement_153 rfl ?_
            refine wp_iaddr dX12_judgeElement_155 c1 ?_
            refine wp_pc (pc' := 156) rfl ?_
            refine wp_iald dX12_judgeElement_156 rfl (by decide) c2 ?_
            refine wp_aload_n dX12_judgeElement_157 rfl rfl (by first | exact Or.inl (by decide) | exact Or.inl (by omega) | exact Or.inr (by decide) | exact Or.inr (by omega)) ?_
            refine wp_getR dX12_judgeElement_158 fX12_46 rfl (by decide) ?_
            refine wp_topR (x' := 135) rfl ?_
            refine wp_iload_n dX12_judgeElement_161 rfl rfl ?_
            refine wp_iload dX12_judgeElement_162 rfl ?_
            refine wp_iaddr dX12_judgeElement_164 c1 ?_
            refine wp_iald dX12_judgeElement_165 rfl (by decide) c2 ?_
            refine wp_cVq (n := 3) (mt' := mX12_isOf) (as := [vI x124, vI (m124 134 (l2 + l4).toNat), vI (m124 135 (l2 + l4).toNat)]) (rest := []) _ dX12_judgeElement_166 lX12_534 kX12_isOf vX12_isOf (by decide) (by decide +kernel) rfl (Nat.le_of_ble_eq_true rfl) (by decide) rfl rfl rfl (Nat.le_of_ble_eq_true rfl) (fun hM hS => h) (fun r M' hq hM => ?_)
            obtain ⟨x166, m166, n166, rfl, rfl, h⟩ := rI_out hq
            refine wp_if_eq (tgt := 222) dX12_judgeElement_169 (by decide) (fun h169 => ?_) (fun h169 => ?_)
            · replace h := h.1 h169
              refine wp_aload_n dX12_judgeElement_222 rfl rfl (by first | exact Or.inl (by decide) | exact Or.inl (by omega) | exact Or.inr (by decide) | exact Or.inr (by omega)) ?_
              refine wp_bipush dX12_judgeElement_223 (by decide +kernel) (by decide) ?_
              refine wp_iload dX12_judgeElement_225 rfl ?_
              refine wp_cVq (n := 2) (mt' := mX12_tellFinding) (as := [vI 10, vI l4]) (rest := []) _ dX12_judgeElement_227 lX12_519 kX12_tellFinding vX12_tellFinding (by decide) (by decide +kernel) rfl (Nat.le_of_ble_eq_true rfl) (by decide) rfl rfl rfl (Nat.le_of_ble_eq_true rfl) (fun hM hS => h) (fun r M' hq hM => ?_)
              obtain ⟨m227, n227, rfl, rfl, h⟩ := rV_out hq
              refine wp_goto (tgt := 261) dX12_judgeElement_230 (by decide) ?_
              refine wp_forget (L' := [some (vR 124), some (vI l1), some (vI l2), some (vI l3), some (vI l4), none]) (by repeat' (first | exact trivial | refine ⟨rfl, ?_⟩)) ?_
              exact h
            · replace h := h.2 h169
              refine wp_aload_n dX12_judgeElement_172 rfl rfl (by first | exact Or.inl (by decide) | exact Or.inl (by omega) | exact Or.inr (by decide) | exact Or.inr (by omega)) ?_
              refine wp_getR dX12_judgeElement_173 fX12_122 rfl (by decide) ?_
              refine wp_topR (x' := 160) rfl ?_
              refine wp_iload dX12_judgeElement_176 rfl ?_
              have c3 := h.1
              replace h := h.2
              refine wp_iald dX12_judgeElement_178 rfl (by decide) c3 ?_
              refine wp_iconst dX12_judgeElement_179 (by decide) ?_
              refine wp_icmp_ne (tgt := 233) dX12_judgeElement_180 (by decide) (fun h180 => ?_) (fun h180 => ?_)
              · replace h := h.2 h180
                exact h
              · replace h := h.1 h180
                refine wp_aload_n dX12_judgeElement_183 rfl rfl (by first | exact Or.inl (by decide) | exact Or.inl (by omega) | exact Or.inr (by decide) | exact Or.inr (by omega)) ?_
                refine wp_aload_n dX12_judgeElement_184 rfl rfl (by first | exact Or.inl (by decide) | exact Or.inl (by omega) | exact Or.inr (by decide) | exact Or.inr (by omega)) ?_
                refine wp_getR dX12_judgeElement_185 fX12_125 rfl (by decide) ?_
                refine wp_topR (x' := 161) rfl ?_
                refine wp_iload dX12_judgeElement_188 rfl ?_
                refine wp_iald dX12_judgeElement_190 rfl (by decide) c3 ?_
                refine wp_aload_n dX12_judgeElement_191 rfl rfl (by first | exact Or.inl (by decide) | exact Or.inl (by omega) | exact Or.inr (by decide) | exact Or.inr (by omega)) ?_
                refine wp_getR dX12_judgeElement_192 fX12_128 rfl (by decide) ?_
                refine wp_topR (x' := 162) rfl ?_
                refine wp_pc (pc' := 195) rfl ?_
                refine wp_iload dX12_judgeElement_195 rfl ?_
                refine wp_iald dX12_judgeElement_197 rfl (by decide) c3 ?_
                refine wp_aload_n dX12_judgeElement_198 rfl rfl (by first | exact Or.inl (by decide) | exact Or.inl (by omega) | exact Or.inr (by decide) | exact Or.inr (by omega)) ?_
                refine wp_getR dX12_judgeElement_199 fX12_43 rfl (by decide) ?_
                refine wp_topR (x' := 134) rfl ?_
                refine wp_iload_n dX12_judgeElement_202 rfl rfl ?_
                refine wp_iload dX12_judgeElement_203 rfl ?_
                refine wp_iaddr dX12_judgeElement_205 c1 ?_
                refine wp_iald dX12_judgeElement_206 rfl (by decide) c2 ?_
                refine wp_pc (pc' := 207) rfl ?_
                refine wp_aload_n dX12_judgeElement_207 rfl rfl (by first | exact Or.inl (by decide) | exact Or.inl (by omega) | exact Or.inr (by decide) | exact Or.inr (by omega)) ?_
                refine wp_getR dX12_judgeElement_208 fX12_46 rfl (by decide) ?_
                refine wp_topR (x' := 135) rfl ?_
                refine wp_iload_n dX12_judgeElement_211 rfl rfl ?_
                refine wp_iload dX12_judgeElement_212 rfl ?_
                refine wp_iaddr dX12_judgeElement_214 c1 ?_
                refine wp_iald dX12_judgeElement_215 rfl (by decide) c2 ?_
                refine wp_cVq (n := 4) (mt' := mX12_areSameKept) (as := [vI (m166 161 x124.toNat), vI (m166 162 x124.toNat), vI (m166 134 (l2 + l4).toNat), vI (m166 135 (l2 + l4).toNat)]) (rest := []) _ dX12_judgeElement_216 lX12_549 kX12_areSameKept vX12_areSameKept (by decide) (by decide +kernel) rfl (Nat.le_of_ble_eq_true rfl) (by decide) rfl rfl rfl (Nat.le_of_ble_eq_true rfl) (fun hM hS => h) (fun r M' hq hM => ?_)
                obtain ⟨x216, m216, n216, rfl, rfl, h⟩ := rI_out hq
                refine wp_if_ne (tgt := 233) dX12_judgeElement_219 (by decide) (fun h219 => ?_) (fun h219 => ?_)
                · replace h := h.2 h219
                  exact h
                · replace h := h.1 h219
                  refine wp_aload_n dX12_judgeElement_222 rfl rfl (by first | exact Or.inl (by decide) | exact Or.inl (by omega) | exact Or.inr (by decide) | exact Or.inr (by omega)) ?_
                  refine wp_bipush dX12_judgeElement_223 (by decide +kernel) (by decide) ?_
                  refine wp_iload dX12_judgeElement_225 rfl ?_
                  refine wp_cVq (n := 2) (mt' := mX12_tellFinding) (as := [vI 10, vI l4]) (rest := []) _ dX12_judgeElement_227 lX12_519 kX12_tellFinding vX12_tellFinding (by decide) (by decide +kernel) rfl (Nat.le_of_ble_eq_true rfl) (by decide) rfl rfl rfl (Nat.le_of_ble_eq_true rfl) (fun hM hS => h) (fun r M' hq hM => ?_)
                  obtain ⟨m227, n227, rfl, rfl, h⟩ := rV_out hq
                  refine wp_goto (tgt := 261) dX12_judgeElement_230 (by decide) ?_
                  refine wp_forget (L' := [some (vR 124), some (vI l1), some (vI l2), some (vI l3), some (vI l4), none]) (by repeat' (first | exact trivial | refine ⟨rfl, ?_⟩)) ?_
                  exact h
          · replace h := h.1 h131
            refine wp_aload_n dX12_judgeElement_134 rfl rfl (by first | exact Or.inl (by decide) | exact Or.inl (by omega) | exact Or.inr (by decide) | exact Or.inr (by omega)) ?_
            refine wp_bipush dX12_judgeElement_135 (by decide +kernel) (by decide) ?_
            refine wp_iload dX12_judgeElement_137 rfl ?_
            refine wp_cVq (n := 2) (mt' := mX12_tellFinding) (as := [vI 9, vI l4]) (rest := []) _ dX12_judgeElement_139 lX12_519 kX12_tellFinding vX12_tellFinding (by decide) (by decide +kernel) rfl (Nat.le_of_ble_eq_true rfl) (by decide) rfl rfl rfl (Nat.le_of_ble_eq_true rfl) (fun hM hS => h) (fun r M' hq hM => ?_)
            obtain ⟨m139, n139, rfl, rfl, h⟩ := rV_out hq
            refine wp_goto (tgt := 261) dX12_judgeElement_142 (by decide) ?_
            refine wp_forget (L' := [some (vR 124), some (vI l1), some (vI l2), some (vI l3), some (vI l4), none]) (by repeat' (first | exact trivial | refine ⟨rfl, ?_⟩)) ?_
            exact h
        · replace h := h.2 h114
          refine wp_goto (tgt := 261) dX12_judgeElement_117 (by decide) ?_
          exact h
theorem v_X12_judgeElement_233 {cs : Cs} {Q : Option AV → Mm → Prop} {MI ML : Nat → Nat → Int} {d e nw th x : Nat} {l1 l2 l3 l4 l5 : Int}
    (h : (0 ≤ l5 ∧ l5 < 1600) ∧ (((MI 159 l5.toNat) = 1 → wp cs mX12_isTaken KD (rI (GR d e nw th x) fun x247 m247 n247 => ((x247 = 0 → wp cs mX12_judgeElement KD Q 261 [some (vR 124), some (vI l1), some (vI l2), some (vI l3), some (vI l4), none] [] (KD, m247, n247, (GR d e nw th x))) ∧ (x247 ≠ 0 → wp cs mX12_tellFinding KD (rV (GR d e nw th x) fun m258 n258 => wp cs mX12_judgeElement KD Q 261 [some (vR 124), some (vI l1), some (vI l2), some (vI l3), some (vI l4), none] [] (KD, m258, n258, (GR d e nw th x))) 0 (padL [vR 124, vI 11, vI l4] 3) [] (KD, m247, n247, (GR d e nw th x))))) 0 (padL [vR 124, vI l4] 6) [] (KD, MI, ML, (GR d e nw th x))) ∧ ((MI 159 l5.toNat) ≠ 1 → wp cs mX12_judgeElement KD Q 261 [some (vR 124), some (vI l1), some (vI l2), some (vI l3), some (vI l4), none] [] (KD, MI, ML, (GR d e nw th x))))) :
    wp cs mX12_judgeElement KD Q 233 [some (vR 124), some (vI l1), some (vI l2), some (vI l3), some (vI l4), some (vI l5)] [] (KD, MI, ML, (GR d e nw th x)) := by
  refine wp_aload_n dX12_judgeElement_233 rfl rfl (by first | exact Or.inl (by decide) | exact Or.inl (by omega) | exact Or.inr (by decide) | exact Or.inr (by omega)) ?_
  refine wp_getR dX12_judgeElement_234 fX12_119 rfl (by decide) ?_
  refine wp_topR (x' := 159) rfl ?_
  refine wp_iload dX12_judgeElement_237 rfl ?_
  have c0 := h.1
  replace h := h.2
  refine wp_iald dX12_judgeElement_239 rfl (by decide) c0 ?_
  refine wp_iconst dX12_judgeElement_240 (by decide) ?_
  refine wp_icmp_ne (tgt := 261) dX12_judgeElement_241 (by decide) (fun h241 => ?_) (fun h241 => ?_)
  · replace h := h.2 h241
    refine wp_forget (L' := [some (vR 124), some (vI l1), some (vI l2), some (vI l3), some (vI l4), none]) (by repeat' (first | exact trivial | refine ⟨rfl, ?_⟩)) ?_
    exact h
  · replace h := h.1 h241
    refine wp_aload_n dX12_judgeElement_244 rfl rfl (by first | exact Or.inl (by decide) | exact Or.inl (by omega) | exact Or.inr (by decide) | exact Or.inr (by omega)) ?_
    refine wp_iload dX12_judgeElement_245 rfl ?_
    refine wp_cVq (n := 1) (mt' := mX12_isTaken) (as := [vI l4]) (rest := []) _ dX12_judgeElement_247 lX12_555 kX12_isTaken vX12_isTaken (by decide) (by decide +kernel) rfl (Nat.le_of_ble_eq_true rfl) (by decide) rfl rfl rfl (Nat.le_of_ble_eq_true rfl) (fun hM hS => h) (fun r M' hq hM => ?_)
    obtain ⟨x247, m247, n247, rfl, rfl, h⟩ := rI_out hq
    refine wp_if_eq (tgt := 261) dX12_judgeElement_250 (by decide) (fun h250 => ?_) (fun h250 => ?_)
    · replace h := h.1 h250
      refine wp_forget (L' := [some (vR 124), some (vI l1), some (vI l2), some (vI l3), some (vI l4), none]) (by repeat' (first | exact trivial | refine ⟨rfl, ?_⟩)) ?_
      exact h
    · replace h := h.2 h250
      refine wp_aload_n dX12_judgeElement_253 rfl rfl (by first | exact Or.inl (by decide) | exact Or.inl (by omega) | exact Or.inr (by decide) | exact Or.inr (by omega)) ?_
      refine wp_bipush dX12_judgeElement_254 (by decide +kernel) (by decide) ?_
      refine wp_iload dX12_judgeElement_256 rfl ?_
      refine wp_cVq (n := 2) (mt' := mX12_tellFinding) (as := [vI 11, vI l4]) (rest := []) _ dX12_judgeElement_258 lX12_519 kX12_tellFinding vX12_tellFinding (by decide) (by decide +kernel) rfl (Nat.le_of_ble_eq_true rfl) (by decide) rfl rfl rfl (Nat.le_of_ble_eq_true rfl) (fun hM hS => h) (fun r M' hq hM => ?_)
      obtain ⟨m258, n258, rfl, rfl, h⟩ := rV_out hq
      refine wp_forget (L' := [some (vR 124), some (vI l1), some (vI l2), some (vI l3), some (vI l4), none]) (by repeat' (first | exact trivial | refine ⟨rfl, ?_⟩)) ?_
      exact h
theorem v_X12_judgeElement_261 {cs : Cs} {Q : Option AV → Mm → Prop} {MI ML : Nat → Nat → Int} {d e nw th x : Nat} {l1 l2 l3 l4 : Int}
    (h : (-2147483648 ≤ l4 + 1 ∧ l4 + 1 < 2147483648) ∧ wp cs mX12_judgeElement KD Q 65 [some (vR 124), some (vI l1), some (vI l2), some (vI l3), some (vI (l4 + 1)), none] [] (KD, MI, ML, (GR d e nw th x))) :
    wp cs mX12_judgeElement KD Q 261 [some (vR 124), some (vI l1), some (vI l2), some (vI l3), some (vI l4), none] [] (KD, MI, ML, (GR d e nw th x)) := by
  have c0 := h.1
  replace h := h.2
  refine wp_iincr dX12_judgeElement_261 rfl (by decide) c0 (wp_L (L' := [some (vR 124), some (vI l1), some (vI l2), some (vI l3), some (vI (l4 + 1)), none]) rfl ?_)
  refine wp_goto (tgt := 65) dX12_judgeElement_264 (by decide) ?_
  exact h
theorem v_X12_judgeElement_277 {cs : Cs} {Q : Option AV → Mm → Prop} {MI ML : Nat → Nat → Int} {d e nw th x : Nat} {l1 l2 l3 l4 : Int}
    (h : (-2147483648 ≤ 800 * (MI 124 7) ∧ 800 * (MI 124 7) < 2147483648) ∧ (0 ≤ (MI 124 7) ∧ (MI 124 7) < 2) ∧ (-2147483648 ≤ (800 * (MI 124 7)) + (MI 154 (MI 124 7).toNat) ∧ (800 * (MI 124 7)) + (MI 154 (MI 124 7).toNat) < 2147483648) ∧ ((l4 < ((800 * (MI 124 7)) + (MI 154 (MI 124 7).toNat)) → (0 ≤ l4 ∧ l4 < 1600) ∧ (-2147483648 ≤ l2 + l1 ∧ l2 + l1 < 2147483648) ∧ (0 ≤ (l2 + l1) ∧ (l2 + l1) < 1200) ∧ wp cs mX12_isSame KD (rI (GR d e nw th x) fun x331 m331 n331 => ((x331 = 0 → (-2147483648 ≤ l4 + 1 ∧ l4 + 1 < 2147483648) ∧ wp cs mX12_judgeElement KD Q 277 [some (vR 124), some (vI l1), some (vI l2), some (vI l3), some (vI (l4 + 1)), none] [] (KD, m331, n331, (GR d e nw th x))) ∧ (x331 ≠ 0 → (((m331 160 l4.toNat) = 0 → wp cs mX12_hasAttribute KD (rI (GR d e nw th x) fun x367 m367 n367 => ((x367 = 0 → wp cs mX12_tellFinding KD (rV (GR d e nw th x) fun m377 n377 => (-2147483648 ≤ l4 + 1 ∧ l4 + 1 < 2147483648) ∧ wp cs mX12_judgeElement KD Q 277 [some (vR 124), some (vI l1), some (vI l2), some (vI l3), some (vI (l4 + 1)), none] [] (KD, m377, n377, (GR d e nw th x))) 0 (padL [vR 124, vI 12, vI l1] 3) [] (KD, m367, n367, (GR d e nw th x))) ∧ (x367 ≠ 0 → (-2147483648 ≤ l4 + 1 ∧ l4 + 1 < 2147483648) ∧ wp cs mX12_judgeElement KD Q 277 [some (vR 124), some (vI l1), some (vI l2), some (vI l3), some (vI (l4 + 1)), none] [] (KD, m367, n367, (GR d e nw th x))))) 0 (padL [vR 124, vI l1, vI (m331 157 l4.toNat), vI (m331 158 l4.toNat)] 6) [] (KD, m331, n331, (GR d e nw th x))) ∧ ((m331 160 l4.toNat) ≠ 0 → (-2147483648 ≤ l4 + 1 ∧ l4 + 1 < 2147483648) ∧ wp cs mX12_judgeElement KD Q 277 [some (vR 124), some (vI l1), some (vI l2), some (vI l3), some (vI (l4 + 1)), none] [] (KD, m331, n331, (GR d e nw th x))))))) 0 (padL [vR 124, vI (MI 155 l4.toNat), vI (MI 156 l4.toNat), vI (MI 132 (l2 + l1).toNat), vI (MI 133 (l2 + l1).toNat)] 7) [] (KD, MI, ML, (GR d e nw th x))) ∧ (((800 * (MI 124 7)) + (MI 154 (MI 124 7).toNat)) ≤ l4 → Q none (MI, ML, (GR d e nw th x))))) :
    wp cs mX12_judgeElement KD Q 277 [some (vR 124), some (vI l1), some (vI l2), some (vI l3), some (vI l4), none] [] (KD, MI, ML, (GR d e nw th x)) := by
  refine wp_iload dX12_judgeElement_277 rfl ?_
  refine wp_sipush dX12_judgeElement_279 (by decide +kernel) (by decide) ?_
  refine wp_aload_n dX12_judgeElement_282 rfl rfl (by first | exact Or.inl (by decide) | exact Or.inl (by omega) | exact Or.inr (by decide) | exact Or.inr (by omega)) ?_
  refine wp_getI dX12_judgeElement_283 fX12_482 rfl (by decide) ?_
  have c0 := h.1
  replace h := h.2
  refine wp_imulr dX12_judgeElement_286 c0 ?_
  refine wp_aload_n dX12_judgeElement_287 rfl rfl (by first | exact Or.inl (by decide) | exact Or.inl (by omega) | exact Or.inr (by decide) | exact Or.inr (by omega)) ?_
  refine wp_getR dX12_judgeElement_288 fX12_104 rfl (by decide) ?_
  refine wp_topR (x' := 154) rfl ?_
  refine wp_pc (pc' := 291) rfl ?_
  refine wp_aload_n dX12_judgeElement_291 rfl rfl (by first | exact Or.inl (by decide) | exact Or.inl (by omega) | exact Or.inr (by decide) | exact Or.inr (by omega)) ?_
  refine wp_getI dX12_judgeElement_292 fX12_482 rfl (by decide) ?_
  have c1 := h.1
  replace h := h.2
  refine wp_iald dX12_judgeElement_295 rfl (by decide) c1 ?_
  have c2 := h.1
  replace h := h.2
  refine wp_iaddr dX12_judgeElement_296 c2 ?_
  refine wp_icmp_ge (tgt := 386) dX12_judgeElement_297 (by decide) (fun h297 => ?_) (fun h297 => ?_)
  · replace h := h.2 h297
    exact wp_vret dX12_judgeElement_386 rfl (fun _ => h)
  · replace h := h.1 h297
    refine wp_aload_n dX12_judgeElement_300 rfl rfl (by first | exact Or.inl (by decide) | exact Or.inl (by omega) | exact Or.inr (by decide) | exact Or.inr (by omega)) ?_
    refine wp_aload_n dX12_judgeElement_301 rfl rfl (by first | exact Or.inl (by decide) | exact Or.inl (by omega) | exact Or.inr (by decide) | exact Or.inr (by omega)) ?_
    refine wp_getR dX12_judgeElement_302 fX12_107 rfl (by decide) ?_
    refine wp_topR (x' := 155) rfl ?_
    refine wp_iload dX12_judgeElement_305 rfl ?_
    have c3 := h.1
    replace h := h.2
    refine wp_iald dX12_judgeElement_307 rfl (by decide) c3 ?_
    refine wp_aload_n dX12_judgeElement_308 rfl rfl (by first | exact Or.inl (by decide) | exact Or.inl (by omega) | exact Or.inr (by decide) | exact Or.inr (by omega)) ?_
    refine wp_getR dX12_judgeElement_309 fX12_110 rfl (by decide) ?_
    refine wp_topR (x' := 156) rfl ?_
    refine wp_pc (pc' := 312) rfl ?_
    refine wp_iload dX12_judgeElement_312 rfl ?_
    refine wp_iald dX12_judgeElement_314 rfl (by decide) c3 ?_
    refine wp_aload_n dX12_judgeElement_315 rfl rfl (by first | exact Or.inl (by decide) | exact Or.inl (by omega) | exact Or.inr (by decide) | exact Or.inr (by omega)) ?_
    refine wp_getR dX12_judgeElement_316 fX12_37 rfl (by decide) ?_
    refine wp_topR (x' := 132) rfl ?_
    refine wp_iload_n dX12_judgeElement_319 rfl rfl ?_
    refine wp_iload_n dX12_judgeElement_320 rfl rfl ?_
    have c4 := h.1
    replace h := h.2
    refine wp_iaddr dX12_judgeElement_321 c4 ?_
    have c5 := h.1
    replace h := h.2
    refine wp_iald dX12_judgeElement_322 rfl (by decide) c5 ?_
    refine wp_pc (pc' := 323) rfl ?_
    refine wp_aload_n dX12_judgeElement_323 rfl rfl (by first | exact Or.inl (by decide) | exact Or.inl (by omega) | exact Or.inr (by decide) | exact Or.inr (by omega)) ?_
    refine wp_getR dX12_judgeElement_324 fX12_40 rfl (by decide) ?_
    refine wp_topR (x' := 133) rfl ?_
    refine wp_iload_n dX12_judgeElement_327 rfl rfl ?_
    refine wp_iload_n dX12_judgeElement_328 rfl rfl ?_
    refine wp_iaddr dX12_judgeElement_329 c4 ?_
    refine wp_iald dX12_judgeElement_330 rfl (by decide) c5 ?_
    refine wp_cVq (n := 4) (mt' := mX12_isSame) (as := [vI (MI 155 l4.toNat), vI (MI 156 l4.toNat), vI (MI 132 (l2 + l1).toNat), vI (MI 133 (l2 + l1).toNat)]) (rest := []) _ dX12_judgeElement_331 lX12_412 kX12_isSame vX12_isSame (by decide) (by decide +kernel) rfl (Nat.le_of_ble_eq_true rfl) (by decide) rfl rfl rfl (Nat.le_of_ble_eq_true rfl) (fun hM hS => h) (fun r M' hq hM => ?_)
    obtain ⟨x331, m331, n331, rfl, rfl, h⟩ := rI_out hq
    refine wp_istore dX12_judgeElement_334 (by decide) (wp_L (L' := [some (vR 124), some (vI l1), some (vI l2), some (vI l3), some (vI l4), some (vI x331)]) rfl ?_)
    refine wp_iload dX12_judgeElement_336 rfl ?_
    refine wp_if_eq (tgt := 380) dX12_judgeElement_338 (by decide) (fun h338 => ?_) (fun h338 => ?_)
    · replace h := h.1 h338
      have c6 := h.1
      replace h := h.2
      refine wp_iincr dX12_judgeElement_380 rfl (by decide) c6 (wp_L (L' := [some (vR 124), some (vI l1), some (vI l2), some (vI l3), some (vI (l4 + 1)), some (vI x331)]) rfl ?_)
      refine wp_goto (tgt := 277) dX12_judgeElement_383 (by decide) ?_
      refine wp_forget (L' := [some (vR 124), some (vI l1), some (vI l2), some (vI l3), some (vI (l4 + 1)), none]) (by repeat' (first | exact trivial | refine ⟨rfl, ?_⟩)) ?_
      exact h
    · replace h := h.2 h338
      refine wp_aload_n dX12_judgeElement_341 rfl rfl (by first | exact Or.inl (by decide) | exact Or.inl (by omega) | exact Or.inr (by decide) | exact Or.inr (by omega)) ?_
      refine wp_getR dX12_judgeElement_342 fX12_122 rfl (by decide) ?_
      refine wp_topR (x' := 160) rfl ?_
      refine wp_iload dX12_judgeElement_345 rfl ?_
      refine wp_iald dX12_judgeElement_347 rfl (by decide) c3 ?_
      refine wp_if_ne (tgt := 380) dX12_judgeElement_348 (by decide) (fun h348 => ?_) (fun h348 => ?_)
      · replace h := h.2 h348
        have c6 := h.1
        replace h := h.2
        refine wp_iincr dX12_judgeElement_380 rfl (by decide) c6 (wp_L (L' := [some (vR 124), some (vI l1), some (vI l2), some (vI l3), some (vI (l4 + 1)), some (vI x331)]) rfl ?_)
        refine wp_goto (tgt := 277) dX12_judgeElement_383 (by decide) ?_
        refine wp_forget (L' := [some (vR 124), some (vI l1), some (vI l2), some (vI l3), some (vI (l4 + 1)), none]) (by repeat' (first | exact trivial | refine ⟨rfl, ?_⟩)) ?_
        exact h
      · replace h := h.1 h348
        refine wp_aload_n dX12_judgeElement_351 rfl rfl (by first | exact Or.inl (by decide) | exact Or.inl (by omega) | exact Or.inr (by decide) | exact Or.inr (by omega)) ?_
        refine wp_iload_n dX12_judgeElement_352 rfl rfl ?_
        refine wp_aload_n dX12_judgeElement_353 rfl rfl (by first | exact Or.inl (by decide) | exact Or.inl (by omega) | exact Or.inr (by decide) | exact Or.inr (by omega)) ?_
        refine wp_getR dX12_judgeElement_354 fX12_113 rfl (by decide) ?_
        refine wp_topR (x' := 157) rfl ?_
        refine wp_iload dX12_judgeElement_357 rfl ?_
        refine wp_iald dX12_judgeElement_359 rfl (by decide) c3 ?_
        refine wp_aload_n dX12_judgeElement_360 rfl rfl (by first | exact Or.inl (by decide) | exact Or.inl (by omega) | exact Or.inr (by decide) | exact Or.inr (by omega)) ?_
        refine wp_pc (pc' := 361) rfl ?_
        refine wp_getR dX12_judgeElement_361 fX12_116 rfl (by decide) ?_
        refine wp_topR (x' := 158) rfl ?_
        refine wp_iload dX12_judgeElement_364 rfl ?_
        refine wp_iald dX12_judgeElement_366 rfl (by decide) c3 ?_
        refine wp_cVq (n := 3) (mt' := mX12_hasAttribute) (as := [vI l1, vI (m331 157 l4.toNat), vI (m331 158 l4.toNat)]) (rest := []) _ dX12_judgeElement_367 lX12_458 kX12_hasAttribute vX12_hasAttribute (by decide) (by decide +kernel) rfl (Nat.le_of_ble_eq_true rfl) (by decide) rfl rfl rfl (Nat.le_of_ble_eq_true rfl) (fun hM hS => h) (fun r M' hq hM => ?_)
        obtain ⟨x367, m367, n367, rfl, rfl, h⟩ := rI_out hq
        refine wp_if_ne (tgt := 380) dX12_judgeElement_370 (by decide) (fun h370 => ?_) (fun h370 => ?_)
        · replace h := h.2 h370
          have c6 := h.1
          replace h := h.2
          refine wp_iincr dX12_judgeElement_380 rfl (by decide) c6 (wp_L (L' := [some (vR 124), some (vI l1), some (vI l2), some (vI l3), some (vI (l4 + 1)), some (vI x331)]) rfl ?_)
          refine wp_goto (tgt := 277) dX12_judgeElement_383 (by decide) ?_
          refine wp_forget (L' := [some (vR 124), some (vI l1), some (vI l2), some (vI l3), some (vI (l4 + 1)), none]) (by repeat' (first | exact trivial | refine ⟨rfl, ?_⟩)) ?_
          exact h
        · replace h := h.1 h370
          refine wp_aload_n dX12_judgeElement_373 rfl rfl (by first | exact Or.inl (by decide) | exact Or.inl (by omega) | exact Or.inr (by decide) | exact Or.inr (by omega)) ?_
          refine wp_bipush dX12_judgeElement_374 (by decide +kernel) (by decide) ?_
          refine wp_iload_n dX12_judgeElement_376 rfl rfl ?_
          refine wp_cVq (n := 2) (mt' := mX12_tellFinding) (as := [vI 12, vI l1]) (rest := []) _ dX12_judgeElement_377 lX12_519 kX12_tellFinding vX12_tellFinding (by decide) (by decide +kernel) rfl (Nat.le_of_ble_eq_true rfl) (by decide) rfl rfl rfl (Nat.le_of_ble_eq_true rfl) (fun hM hS => h) (fun r M' hq hM => ?_)
          obtain ⟨m377, n377, rfl, rfl, h⟩ := rV_out hq
          have c6 := h.1
          replace h := h.2
          refine wp_iincr dX12_judgeElement_380 rfl (by decide) c6 (wp_L (L' := [some (vR 124), some (vI l1), some (vI l2), some (vI l3), some (vI (l4 + 1)), some (vI x331)]) rfl ?_)
          refine wp_goto (tgt := 277) dX12_judgeElement_383 (by decide) ?_
          refine wp_forget (L' := [some (vR 124), some (vI l1), some (vI l2), some (vI l3), some (vI (l4 + 1)), none]) (by repeat' (first | exact trivial | refine ⟨rfl, ?_⟩)) ?_
          exact h
theorem dX12_judge_0 : decode cX12_judge 0 = .ok (.aload_n 0, 1) := by decide +kernel
theorem dX12_judge_1 : decode cX12_judge 1 = .ok (.iconst 0, 1) := by decide +kernel
theorem dX12_judge_2 : decode cX12_judge 2 = .ok (.putfield 510, 3) := by decide +kernel
theorem dX12_judge_5 : decode cX12_judge 5 = .ok (.aload_n 0, 1) := by decide +kernel
theorem dX12_judge_6 : decode cX12_judge 6 = .ok (.getfield 20, 3) := by decide +kernel
theorem dX12_judge_9 : decode cX12_judge 9 = .ok (.aload_n 0, 1) := by decide +kernel
theorem dX12_judge_10 : decode cX12_judge 10 = .ok (.getfield 482, 3) := by decide +kernel
theorem dX12_judge_13 : decode cX12_judge 13 = .ok (.baload, 1) := by decide +kernel
theorem dX12_judge_14 : decode cX12_judge 14 = .ok (.ifCond .ne 4, 3) := by decide +kernel
theorem dX12_judge_17 : decode cX12_judge 17 = .ok (.return_, 1) := by decide +kernel
theorem dX12_judge_18 : decode cX12_judge 18 = .ok (.sipush 850, 3) := by decide +kernel
theorem dX12_judge_21 : decode cX12_judge 21 = .ok (.aload_n 0, 1) := by decide +kernel
theorem dX12_judge_22 : decode cX12_judge 22 = .ok (.getfield 482, 3) := by decide +kernel
theorem dX12_judge_25 : decode cX12_judge 25 = .ok (.imul, 1) := by decide +kernel
theorem dX12_judge_26 : decode cX12_judge 26 = .ok (.istore_n 1, 1) := by decide +kernel
theorem dX12_judge_27 : decode cX12_judge 27 = .ok (.iload_n 1, 1) := by decide +kernel
theorem dX12_judge_28 : decode cX12_judge 28 = .ok (.sipush 850, 3) := by decide +kernel
theorem dX12_judge_31 : decode cX12_judge 31 = .ok (.aload_n 0, 1) := by decide +kernel
theorem dX12_judge_32 : decode cX12_judge 32 = .ok (.getfield 482, 3) := by decide +kernel
theorem dX12_judge_35 : decode cX12_judge 35 = .ok (.imul, 1) := by decide +kernel
theorem dX12_judge_36 : decode cX12_judge 36 = .ok (.aload_n 0, 1) := by decide +kernel
theorem dX12_judge_37 : decode cX12_judge 37 = .ok (.getfield 143, 3) := by decide +kernel
theorem dX12_judge_40 : decode cX12_judge 40 = .ok (.aload_n 0, 1) := by decide +kernel
theorem dX12_judge_41 : decode cX12_judge 41 = .ok (.getfield 482, 3) := by decide +kernel
theorem dX12_judge_44 : decode cX12_judge 44 = .ok (.iaload, 1) := by decide +kernel
theorem dX12_judge_45 : decode cX12_judge 45 = .ok (.iadd, 1) := by decide +kernel
theorem dX12_judge_46 : decode cX12_judge 46 = .ok (.if_icmp .ge 47, 3) := by decide +kernel
theorem dX12_judge_49 : decode cX12_judge 49 = .ok (.aload_n 0, 1) := by decide +kernel
theorem dX12_judge_50 : decode cX12_judge 50 = .ok (.getfield 140, 3) := by decide +kernel
theorem dX12_judge_53 : decode cX12_judge 53 = .ok (.iload_n 1, 1) := by decide +kernel
theorem dX12_judge_54 : decode cX12_judge 54 = .ok (.iaload, 1) := by decide +kernel
theorem dX12_judge_55 : decode cX12_judge 55 = .ok (.iconst 2, 1) := by decide +kernel
theorem dX12_judge_56 : decode cX12_judge 56 = .ok (.irem, 1) := by decide +kernel
theorem dX12_judge_57 : decode cX12_judge 57 = .ok (.ifCond .ne 18, 3) := by decide +kernel
theorem dX12_judge_60 : decode cX12_judge 60 = .ok (.aload_n 0, 1) := by decide +kernel
theorem dX12_judge_61 : decode cX12_judge 61 = .ok (.aload_n 0, 1) := by decide +kernel
theorem dX12_judge_62 : decode cX12_judge 62 = .ok (.getfield 140, 3) := by decide +kernel
theorem dX12_judge_65 : decode cX12_judge 65 = .ok (.iload_n 1, 1) := by decide +kernel
theorem dX12_judge_66 : decode cX12_judge 66 = .ok (.iaload, 1) := by decide +kernel
theorem dX12_judge_67 : decode cX12_judge 67 = .ok (.iconst 2, 1) := by decide +kernel
theorem dX12_judge_68 : decode cX12_judge 68 = .ok (.idiv, 1) := by decide +kernel
theorem dX12_judge_69 : decode cX12_judge 69 = .ok (.invokevirtual 537, 3) := by decide +kernel
theorem dX12_judge_72 : decode cX12_judge 72 = .ok (.goto 15, 3) := by decide +kernel
theorem dX12_judge_75 : decode cX12_judge 75 = .ok (.aload_n 0, 1) := by decide +kernel
theorem dX12_judge_76 : decode cX12_judge 76 = .ok (.aload_n 0, 1) := by decide +kernel
theorem dX12_judge_77 : decode cX12_judge 77 = .ok (.getfield 140, 3) := by decide +kernel
theorem dX12_judge_80 : decode cX12_judge 80 = .ok (.iload_n 1, 1) := by decide +kernel
theorem dX12_judge_81 : decode cX12_judge 81 = .ok (.iaload, 1) := by decide +kernel
theorem dX12_judge_82 : decode cX12_judge 82 = .ok (.iconst 2, 1) := by decide +kernel
theorem dX12_judge_83 : decode cX12_judge 83 = .ok (.idiv, 1) := by decide +kernel
theorem dX12_judge_84 : decode cX12_judge 84 = .ok (.invokevirtual 540, 3) := by decide +kernel
theorem dX12_judge_87 : decode cX12_judge 87 = .ok (.iinc 1 1, 3) := by decide +kernel
theorem dX12_judge_90 : decode cX12_judge 90 = .ok (.goto (-63), 3) := by decide +kernel
theorem dX12_judge_93 : decode cX12_judge 93 = .ok (.sipush 600, 3) := by decide +kernel
theorem dX12_judge_96 : decode cX12_judge 96 = .ok (.aload_n 0, 1) := by decide +kernel
theorem dX12_judge_97 : decode cX12_judge 97 = .ok (.getfield 482, 3) := by decide +kernel
theorem dX12_judge_100 : decode cX12_judge 100 = .ok (.imul, 1) := by decide +kernel
theorem dX12_judge_101 : decode cX12_judge 101 = .ok (.istore_n 1, 1) := by decide +kernel
theorem dX12_judge_102 : decode cX12_judge 102 = .ok (.aload_n 0, 1) := by decide +kernel
theorem dX12_judge_103 : decode cX12_judge 103 = .ok (.aload_n 0, 1) := by decide +kernel
theorem dX12_judge_104 : decode cX12_judge 104 = .ok (.getfield 37, 3) := by decide +kernel
theorem dX12_judge_107 : decode cX12_judge 107 = .ok (.iload_n 1, 1) := by decide +kernel
theorem dX12_judge_108 : decode cX12_judge 108 = .ok (.iconst 1, 1) := by decide +kernel
theorem dX12_judge_109 : decode cX12_judge 109 = .ok (.iadd, 1) := by decide +kernel
theorem dX12_judge_110 : decode cX12_judge 110 = .ok (.iaload, 1) := by decide +kernel
theorem dX12_judge_111 : decode cX12_judge 111 = .ok (.aload_n 0, 1) := by decide +kernel
theorem dX12_judge_112 : decode cX12_judge 112 = .ok (.getfield 40, 3) := by decide +kernel
theorem dX12_judge_115 : decode cX12_judge 115 = .ok (.iload_n 1, 1) := by decide +kernel
theorem dX12_judge_116 : decode cX12_judge 116 = .ok (.iconst 1, 1) := by decide +kernel
theorem dX12_judge_117 : decode cX12_judge 117 = .ok (.iadd, 1) := by decide +kernel
theorem dX12_judge_118 : decode cX12_judge 118 = .ok (.iaload, 1) := by decide +kernel
theorem dX12_judge_119 : decode cX12_judge 119 = .ok (.aload_n 0, 1) := by decide +kernel
theorem dX12_judge_120 : decode cX12_judge 120 = .ok (.getfield 64, 3) := by decide +kernel
theorem dX12_judge_123 : decode cX12_judge 123 = .ok (.aload_n 0, 1) := by decide +kernel
theorem dX12_judge_124 : decode cX12_judge 124 = .ok (.getfield 482, 3) := by decide +kernel
theorem dX12_judge_127 : decode cX12_judge 127 = .ok (.iaload, 1) := by decide +kernel
theorem dX12_judge_128 : decode cX12_judge 128 = .ok (.aload_n 0, 1) := by decide +kernel
theorem dX12_judge_129 : decode cX12_judge 129 = .ok (.getfield 67, 3) := by decide +kernel
theorem dX12_judge_132 : decode cX12_judge 132 = .ok (.aload_n 0, 1) := by decide +kernel
theorem dX12_judge_133 : decode cX12_judge 133 = .ok (.getfield 482, 3) := by decide +kernel
theorem dX12_judge_136 : decode cX12_judge 136 = .ok (.iaload, 1) := by decide +kernel
theorem dX12_judge_137 : decode cX12_judge 137 = .ok (.invokevirtual 412, 3) := by decide +kernel
theorem dX12_judge_140 : decode cX12_judge 140 = .ok (.ifCond .ne 10, 3) := by decide +kernel
theorem dX12_judge_143 : decode cX12_judge 143 = .ok (.aload_n 0, 1) := by decide +kernel
theorem dX12_judge_144 : decode cX12_judge 144 = .ok (.bipush 6, 2) := by decide +kernel
theorem dX12_judge_146 : decode cX12_judge 146 = .ok (.iconst 1, 1) := by decide +kernel
theorem dX12_judge_147 : decode cX12_judge 147 = .ok (.invokevirtual 519, 3) := by decide +kernel
theorem dX12_judge_150 : decode cX12_judge 150 = .ok (.iconst 0, 1) := by decide +kernel
theorem dX12_judge_151 : decode cX12_judge 151 = .ok (.istore_n 2, 1) := by decide +kernel
theorem dX12_judge_152 : decode cX12_judge 152 = .ok (.iload_n 2, 1) := by decide +kernel
theorem dX12_judge_153 : decode cX12_judge 153 = .ok (.aload_n 0, 1) := by decide +kernel
theorem dX12_judge_154 : decode cX12_judge 154 = .ok (.getfield 27, 3) := by decide +kernel
theorem dX12_judge_157 : decode cX12_judge 157 = .ok (.aload_n 0, 1) := by decide +kernel
theorem dX12_judge_158 : decode cX12_judge 158 = .ok (.getfield 482, 3) := by decide +kernel
theorem dX12_judge_161 : decode cX12_judge 161 = .ok (.iaload, 1) := by decide +kernel
theorem dX12_judge_162 : decode cX12_judge 162 = .ok (.if_icmp .ge 26, 3) := by decide +kernel
theorem dX12_judge_165 : decode cX12_judge 165 = .ok (.aload_n 0, 1) := by decide +kernel
theorem dX12_judge_166 : decode cX12_judge 166 = .ok (.getfield 31, 3) := by decide +kernel
theorem dX12_judge_169 : decode cX12_judge 169 = .ok (.iload_n 1, 1) := by decide +kernel
theorem dX12_judge_170 : decode cX12_judge 170 = .ok (.iload_n 2, 1) := by decide +kernel
theorem dX12_judge_171 : decode cX12_judge 171 = .ok (.iadd, 1) := by decide +kernel
theorem dX12_judge_172 : decode cX12_judge 172 = .ok (.iaload, 1) := by decide +kernel
theorem dX12_judge_173 : decode cX12_judge 173 = .ok (.iconst 1, 1) := by decide +kernel
theorem dX12_judge_174 : decode cX12_judge 174 = .ok (.if_icmp .ne 8, 3) := by decide +kernel
theorem dX12_judge_177 : decode cX12_judge 177 = .ok (.aload_n 0, 1) := by decide +kernel
theorem dX12_judge_178 : decode cX12_judge 178 = .ok (.iload_n 2, 1) := by decide +kernel
theorem dX12_judge_179 : decode cX12_judge 179 = .ok (.invokevirtual 543, 3) := by decide +kernel
theorem dX12_judge_182 : decode cX12_judge 182 = .ok (.iinc 2 1, 3) := by decide +kernel
theorem dX12_judge_185 : decode cX12_judge 185 = .ok (.goto (-33), 3) := by decide +kernel
theorem dX12_judge_188 : decode cX12_judge 188 = .ok (.return_, 1) := by decide +kernel
theorem v_X12_judge_0 {cs : Cs} {Q : Option AV → Mm → Prop} {MI ML : Nat → Nat → Int} {d e nw th x : Nat}
    (h : ∀ m2, m2 = up2 MI 124 65 0 → (0 ≤ (m2 124 7) ∧ (m2 124 7) < 2) ∧ (((m2 127 (m2 124 7).toNat) = 0 → Q none (m2, ML, (GR d e nw th x))) ∧ ((m2 127 (m2 124 7).toNat) ≠ 0 → (-2147483648 ≤ 850 * (m2 124 7) ∧ 850 * (m2 124 7) < 2147483648) ∧ wp cs mX12_judge KD Q 27 [some (vR 124), some (vI (850 * (m2 124 7))), none] [] (KD, m2, ML, (GR d e nw th x))))) :
    wp cs mX12_judge KD Q 0 (padL [vR 124] 3) [] (KD, MI, ML, (GR d e nw th x)) := by
  refine wp_L (L' := [some (vR 124), none, none]) rfl ?_
  refine wp_aload_n dX12_judge_0 rfl rfl (by first | exact Or.inl (by decide) | exact Or.inl (by omega) | exact Or.inr (by decide) | exact Or.inr (by omega)) ?_
  refine wp_iconst dX12_judge_1 (by decide) ?_
  refine wp_putI dX12_judge_2 pX12_510 rfl (by decide) ?_
  refine wp_gI (fun m2 e2 => ?_)
  replace h := h m2 e2
  refine wp_aload_n dX12_judge_5 rfl rfl (by first | exact Or.inl (by decide) | exact Or.inl (by omega) | exact Or.inr (by decide) | exact Or.inr (by omega)) ?_
  refine wp_getR dX12_judge_6 fX12_20 rfl (by decide) ?_
  refine wp_topR (x' := 127) rfl ?_
  refine wp_aload_n dX12_judge_9 rfl rfl (by first | exact Or.inl (by decide) | exact Or.inl (by omega) | exact Or.inr (by decide) | exact Or.inr (by omega)) ?_
  refine wp_getI dX12_judge_10 fX12_482 rfl (by decide) ?_
  refine wp_pc (pc' := 13) rfl ?_
  have c0 := h.1
  replace h := h.2
  refine wp_zald dX12_judge_13 rfl (by decide) c0 ?_
  refine wp_if_ne (tgt := 18) dX12_judge_14 (by decide) (fun h14 => ?_) (fun h14 => ?_)
  · replace h := h.2 h14
    refine wp_sipush dX12_judge_18 (by decide +kernel) (by decide) ?_
    refine wp_aload_n dX12_judge_21 rfl rfl (by first | exact Or.inl (by decide) | exact Or.inl (by omega) | exact Or.inr (by decide) | exact Or.inr (by omega)) ?_
    refine wp_getI dX12_judge_22 fX12_482 rfl (by decide) ?_
    have c1 := h.1
    replace h := h.2
    refine wp_imulr dX12_judge_25 c1 ?_
    refine wp_istore_n dX12_judge_26 rfl (by decide) (wp_L (L' := [some (vR 124), some (vI (850 * (m2 124 7))), none]) rfl ?_)
    exact h
  · replace h := h.1 h14
    exact wp_vret dX12_judge_17 rfl (fun _ => h)
theorem v_X12_judge_27 {cs : Cs} {Q : Option AV → Mm → Prop} {MI ML : Nat → Nat → Int} {d e nw th x : Nat} {l1 : Int}
    (h : (-2147483648 ≤ 850 * (MI 124 7) ∧ 850 * (MI 124 7) < 2147483648) ∧ (0 ≤ (MI 124 7) ∧ (MI 124 7) < 2) ∧ (-2147483648 ≤ (850 * (MI 124 7)) + (MI 167 (MI 124 7).toNat) ∧ (850 * (MI 124 7)) + (MI 167 (MI 124 7).toNat) < 2147483648) ∧ ((l1 < ((850 * (MI 124 7)) + (MI 167 (MI 124 7).toNat)) → (0 ≤ l1 ∧ l1 < 1700) ∧ (((i_rem (MI 166 l1.toNat) 2) = 0 → wp cs mX12_judgeDecl KD (rV (GR d e nw th x) fun m69 n69 => (-2147483648 ≤ l1 + 1 ∧ l1 + 1 < 2147483648) ∧ wp cs mX12_judge KD Q 27 [some (vR 124), some (vI (l1 + 1)), none] [] (KD, m69, n69, (GR d e nw th x))) 0 (padL [vR 124, vI (i_div (MI 166 l1.toNat) 2)] 5) [] (KD, MI, ML, (GR d e nw th x))) ∧ ((i_rem (MI 166 l1.toNat) 2) ≠ 0 → wp cs mX12_judgeRule KD (rV (GR d e nw th x) fun m84 n84 => (-2147483648 ≤ l1 + 1 ∧ l1 + 1 < 2147483648) ∧ wp cs mX12_judge KD Q 27 [some (vR 124), some (vI (l1 + 1)), none] [] (KD, m84, n84, (GR d e nw th x))) 0 (padL [vR 124, vI (i_div (MI 166 l1.toNat) 2)] 5) [] (KD, MI, ML, (GR d e nw th x))))) ∧ (((850 * (MI 124 7)) + (MI 167 (MI 124 7).toNat)) ≤ l1 → (-2147483648 ≤ 600 * (MI 124 7) ∧ 600 * (MI 124 7) < 2147483648) ∧ (-2147483648 ≤ (600 * (MI 124 7)) + 1 ∧ (600 * (MI 124 7)) + 1 < 2147483648) ∧ (0 ≤ ((600 * (MI 124 7)) + 1) ∧ ((600 * (MI 124 7)) + 1) < 1200) ∧ wp cs mX12_isSame KD (rI (GR d e nw th x) fun x137 m137 n137 => ((x137 = 0 → wp cs mX12_tellFinding KD (rV (GR d e nw th x) fun m147 n147 => wp cs mX12_judge KD Q 152 [some (vR 124), some (vI (600 * (MI 124 7))), some (vI 0)] [] (KD, m147, n147, (GR d e nw th x))) 0 (padL [vR 124, vI 6, vI 1] 3) [] (KD, m137, n137, (GR d e nw th x))) ∧ (x137 ≠ 0 → wp cs mX12_judge KD Q 152 [some (vR 124), some (vI (600 * (MI 124 7))), some (vI 0)] [] (KD, m137, n137, (GR d e nw th x))))) 0 (padL [vR 124, vI (MI 132 ((600 * (MI 124 7)) + 1).toNat), vI (MI 133 ((600 * (MI 124 7)) + 1).toNat), vI (MI 141 (MI 124 7).toNat), vI (MI 142 (MI 124 7).toNat)] 7) [] (KD, MI, ML, (GR d e nw th x))))) :
    wp cs mX12_judge KD Q 27 [some (vR 124), some (vI l1), none] [] (KD, MI, ML, (GR d e nw th x)) := by
  refine wp_iload_n dX12_judge_27 rfl rfl ?_
  refine wp_sipush dX12_judge_28 (by decide +kernel) (by decide) ?_
  refine wp_aload_n dX12_judge_31 rfl rfl (by first | exact Or.inl (by decide) | exact Or.inl (by omega) | exact Or.inr (by decide) | exact Or.inr (by omega)) ?_
  refine wp_getI dX12_judge_32 fX12_482 rfl (by decide) ?_
  have c0 := h.1
  replace h := h.2
  refine wp_imulr dX12_judge_35 c0 ?_
  refine wp_aload_n dX12_judge_36 rfl rfl (by first | exact Or.inl (by decide) | exact Or.inl (by omega) | exact Or.inr (by decide) | exact Or.inr (by omega)) ?_
  refine wp_getR dX12_judge_37 fX12_143 rfl (by decide) ?_
  refine wp_topR (x' := 167) rfl ?_
  refine wp_pc (pc' := 40) rfl ?_
  refine wp_aload_n dX12_judge_40 rfl rfl (by first | exact Or.inl (by decide) | exact Or.inl (by omega) | exact Or.inr (by decide) | exact Or.inr (by omega)) ?_
  refine wp_getI dX12_judge_41 fX12_482 rfl (by decide) ?_
  have c1 := h.1
  replace h := h.2
  refine wp_iald dX12_judge_44 rfl (by decide) c1 ?_
  have c2 := h.1
  replace h := h.2
  refine wp_iaddr dX12_judge_45 c2 ?_
  refine wp_icmp_ge (tgt := 93) dX12_judge_46 (by decide) (fun h46 => ?_) (fun h46 => ?_)
  · replace h := h.2 h46
    refine wp_sipush dX12_judge_93 (by decide +kernel) (by decide) ?_
    refine wp_aload_n dX12_judge_96 rfl rfl (by first | exact Or.inl (by decide) | exact Or.inl (by omega) | exact Or.inr (by decide) | exact Or.inr (by omega)) ?_
    refine wp_getI dX12_judge_97 fX12_482 rfl (by decide) ?_
    have c3 := h.1
    replace h := h.2
    refine wp_imulr dX12_judge_100 c3 ?_
    refine wp_istore_n dX12_judge_101 rfl (by decide) (wp_L (L' := [some (vR 124), some (vI (600 * (MI 124 7))), none]) rfl ?_)
    refine wp_aload_n dX12_judge_102 rfl rfl (by first | exact Or.inl (by decide) | exact Or.inl (by omega) | exact Or.inr (by decide) | exact Or.inr (by omega)) ?_
    refine wp_aload_n dX12_judge_103 rfl rfl (by first | exact Or.inl (by decide) | exact Or.inl (by omega) | exact Or.inr (by decide) | exact Or.inr (by omega)) ?_
    refine wp_pc (pc' := 104) rfl ?_
    refine wp_getR dX12_judge_104 fX12_37 rfl (by decide) ?_
    refine wp_topR (x' := 132) rfl ?_
    refine wp_iload_n dX12_judge_107 rfl rfl ?_
    refine wp_iconst dX12_judge_108 (by decide) ?_
    have c4 := h.1
    replace h := h.2
    refine wp_iaddr dX12_judge_109 c4 ?_
    have c5 := h.1
    replace h := h.2
    refine wp_iald dX12_judge_110 rfl (by decide) c5 ?_
    refine wp_aload_n dX12_judge_111 rfl rfl (by first | exact Or.inl (by decide) | exact Or.inl (by omega) | exact Or.inr (by decide) | exact Or.inr (by omega)) ?_
    refine wp_getR dX12_judge_112 fX12_40 rfl (by decide) ?_
    refine wp_topR (x' := 133) rfl ?_
    refine wp_iload_n dX12_judge_115 rfl rfl ?_
    refine wp_pc (pc' := 116) rfl ?_
    refine wp_iconst dX12_judge_116 (by decide) ?_
    refine wp_iaddr dX12_judge_117 c4 ?_
    refine wp_iald dX12_judge_118 rfl (by decide) c5 ?_
    refine wp_aload_n dX12_judge_119 rfl rfl (by first | exact Or.inl (by decide) | exact Or.inl (by omega) | exact Or.inr (by decide) | exact Or.inr (by omega)) ?_
    refine wp_getR dX12_judge_120 fX12_64 rfl (by decide) ?_
    refine wp_topR (x' := 141) rfl ?_
    refine wp_aload_n dX12_judge_123 rfl rfl (by first | exact Or.inl (by decide) | exact Or.inl (by omega) | exact Or.inr (by decide) | exact Or.inr (by omega)) ?_
    refine wp_getI dX12_judge_124 fX12_482 rfl (by decide) ?_
    refine wp_iald dX12_judge_127 rfl (by decide) c1 ?_
    refine wp_pc (pc' := 128) rfl ?_
    refine wp_aload_n dX12_judge_128 rfl rfl (by first | exact Or.inl (by decide) | exact Or.inl (by omega) | exact Or.inr (by decide) | exact Or.inr (by omega)) ?_
    refine wp_getR dX12_judge_129 fX12_67 rfl (by decide) ?_
    refine wp_topR (x' := 142) rfl ?_
    refine wp_aload_n dX12_judge_132 rfl rfl (by first | exact Or.inl (by decide) | exact Or.inl (by omega) | exact Or.inr (by decide) | exact Or.inr (by omega)) ?_
    refine wp_getI dX12_judge_133 fX12_482 rfl (by decide) ?_
    refine wp_iald dX12_judge_136 rfl (by decide) c1 ?_
    refine wp_cVq (n := 4) (mt' := mX12_isSame) (as := [vI (MI 132 ((600 * (MI 124 7)) + 1).toNat), vI (MI 133 ((600 * (MI 124 7)) + 1).toNat), vI (MI 141 (MI 124 7).toNat), vI (MI 142 (MI 124 7).toNat)]) (rest := []) _ dX12_judge_137 lX12_412 kX12_isSame vX12_isSame (by decide) (by decide +kernel) rfl (Nat.le_of_ble_eq_true rfl) (by decide) rfl rfl rfl (Nat.le_of_ble_eq_true rfl) (fun hM hS => h) (fun r M' hq hM => ?_)
    obtain ⟨x137, m137, n137, rfl, rfl, h⟩ := rI_out hq
    refine wp_if_ne (tgt := 150) dX12_judge_140 (by decide) (fun h140 => ?_) (fun h140 => ?_)
    · replace h := h.2 h140
      refine wp_iconst dX12_judge_150 (by decide) ?_
      refine wp_istore_n dX12_judge_151 rfl (by decide) (wp_L (L' := [some (vR 124), some (vI (600 * (MI 124 7))), some (vI 0)]) rfl ?_)
      exact h
    · replace h := h.1 h140
      refine wp_aload_n dX12_judge_143 rfl rfl (by first | exact Or.inl (by decide) | exact Or.inl (by omega) | exact Or.inr (by decide) | exact Or.inr (by omega)) ?_
      refine wp_bipush dX12_judge_144 (by decide +kernel) (by decide) ?_
      refine wp_iconst dX12_judge_146 (by decide) ?_
      refine wp_cVq (n := 2) (mt' := mX12_tellFinding) (as := [vI 6, vI 1]) (rest := []) _ dX12_judge_147 lX12_519 kX12_tellFinding vX12_tellFinding (by decide) (by decide +kernel) rfl (Nat.le_of_ble_eq_true rfl) (by decide) rfl rfl rfl (Nat.le_of_ble_eq_true rfl) (fun hM hS => h) (fun r M' hq hM => ?_)
      obtain ⟨m147, n147, rfl, rfl, h⟩ := rV_out hq
      refine wp_iconst dX12_judge_150 (by decide) ?_
      refine wp_istore_n dX12_judge_151 rfl (by decide) (wp_L (L' := [some (vR 124), some (vI (600 * (MI 124 7))), some (vI 0)]) rfl ?_)
      exact h
  · replace h := h.1 h46
    refine wp_aload_n dX12_judge_49 rfl rfl (by first | exact Or.inl (by decide) | exact Or.inl (by omega) | exact Or.inr (by decide) | exact Or.inr (by omega)) ?_
    refine wp_getR dX12_judge_50 fX12_140 rfl (by decide) ?_
    refine wp_topR (x' := 166) rfl ?_
    refine wp_iload_n dX12_judge_53 rfl rfl ?_
    have c3 := h.1
    replace h := h.2
    refine wp_iald dX12_judge_54 rfl (by decide) c3 ?_
    refine wp_iconst dX12_judge_55 (by decide) ?_
    refine wp_irem dX12_judge_56 (by decide) ?_
    refine wp_if_ne (tgt := 75) dX12_judge_57 (by decide) (fun h57 => ?_) (fun h57 => ?_)
    · replace h := h.2 h57
      refine wp_aload_n dX12_judge_75 rfl rfl (by first | exact Or.inl (by decide) | exact Or.inl (by omega) | exact Or.inr (by decide) | exact Or.inr (by omega)) ?_
      refine wp_aload_n dX12_judge_76 rfl rfl (by first | exact Or.inl (by decide) | exact Or.inl (by omega) | exact Or.inr (by decide) | exact Or.inr (by omega)) ?_
      refine wp_getR dX12_judge_77 fX12_140 rfl (by decide) ?_
      refine wp_topR (x' := 166) rfl ?_
      refine wp_iload_n dX12_judge_80 rfl rfl ?_
      refine wp_iald dX12_judge_81 rfl (by decide) c3 ?_
      refine wp_iconst dX12_judge_82 (by decide) ?_
      refine wp_idiv dX12_judge_83 (by decide) ?_
      refine wp_pc (pc' := 84) rfl ?_
      refine wp_cVq (n := 1) (mt' := mX12_judgeRule) (as := [vI (i_div (MI 166 l1.toNat) 2)]) (rest := []) _ dX12_judge_84 lX12_540 kX12_judgeRule vX12_judgeRule (by decide) (by decide +kernel) rfl (Nat.le_of_ble_eq_true rfl) (by decide) rfl rfl rfl (Nat.le_of_ble_eq_true rfl) (fun hM hS => h) (fun r M' hq hM => ?_)
      obtain ⟨m84, n84, rfl, rfl, h⟩ := rV_out hq
      have c4 := h.1
      replace h := h.2
      refine wp_iincr dX12_judge_87 rfl (by decide) c4 (wp_L (L' := [some (vR 124), some (vI (l1 + 1)), none]) rfl ?_)
      refine wp_goto (tgt := 27) dX12_judge_90 (by decide) ?_
      exact h
    · replace h := h.1 h57
      refine wp_aload_n dX12_judge_60 rfl rfl (by first | exact Or.inl (by decide) | exact Or.inl (by omega) | exact Or.inr (by decide) | exact Or.inr (by omega)) ?_
      refine wp_aload_n dX12_judge_61 rfl rfl (by first | exact Or.inl (by decide) | exact Or.inl (by omega) | exact Or.inr (by decide) | exact Or.inr (by omega)) ?_
      refine wp_getR dX12_judge_62 fX12_140 rfl (by decide) ?_
      refine wp_topR (x' := 166) rfl ?_
      refine wp_iload_n dX12_judge_65 rfl rfl ?_
      refine wp_iald dX12_judge_66 rfl (by decide) c3 ?_
      refine wp_iconst dX12_judge_67 (by decide) ?_
      refine wp_idiv dX12_judge_68 (by decide) ?_
      refine wp_pc (pc' := 69) rfl ?_
      refine wp_cVq (n := 1) (mt' := mX12_judgeDecl) (as := [vI (i_div (MI 166 l1.toNat) 2)]) (rest := []) _ dX12_judge_69 lX12_537 kX12_judgeDecl vX12_judgeDecl (by decide) (by decide +kernel) rfl (Nat.le_of_ble_eq_true rfl) (by decide) rfl rfl rfl (Nat.le_of_ble_eq_true rfl) (fun hM hS => h) (fun r M' hq hM => ?_)
      obtain ⟨m69, n69, rfl, rfl, h⟩ := rV_out hq
      refine wp_goto (tgt := 87) dX12_judge_72 (by decide) ?_
      have c4 := h.1
      replace h := h.2
      refine wp_iincr dX12_judge_87 rfl (by decide) c4 (wp_L (L' := [some (vR 124), some (vI (l1 + 1)), none]) rfl ?_)
      refine wp_goto (tgt := 27) dX12_judge_90 (by decide) ?_
      exact h
theorem v_X12_judge_152 {cs : Cs} {Q : Option AV → Mm → Prop} {MI ML : Nat → Nat → Int} {d e nw th x : Nat} {l1 l2 : Int}
    (h : (0 ≤ (MI 124 7) ∧ (MI 124 7) < 2) ∧ ((l2 < (MI 129 (MI 124 7).toNat) → (-2147483648 ≤ l1 + l2 ∧ l1 + l2 < 2147483648) ∧ (0 ≤ (l1 + l2) ∧ (l1 + l2) < 1200) ∧ (((MI 130 (l1 + l2).toNat) = 1 → wp cs mX12_judgeElement KD (rV (GR d e nw th x) fun m179 n179 => (-2147483648 ≤ l2 + 1 ∧ l2 + 1 < 2147483648) ∧ wp cs mX12_judge KD Q 152 [some (vR 124), some (vI l1), some (vI (l2 + 1))] [] (KD, m179, n179, (GR d e nw th x))) 0 (padL [vR 124, vI l2] 6) [] (KD, MI, ML, (GR d e nw th x))) ∧ ((MI 130 (l1 + l2).toNat) ≠ 1 → (-2147483648 ≤ l2 + 1 ∧ l2 + 1 < 2147483648) ∧ wp cs mX12_judge KD Q 152 [some (vR 124), some (vI l1), some (vI (l2 + 1))] [] (KD, MI, ML, (GR d e nw th x))))) ∧ ((MI 129 (MI 124 7).toNat) ≤ l2 → Q none (MI, ML, (GR d e nw th x))))) :
    wp cs mX12_judge KD Q 152 [some (vR 124), some (vI l1), some (vI l2)] [] (KD, MI, ML, (GR d e nw th x)) := by
  refine wp_iload_n dX12_judge_152 rfl rfl ?_
  refine wp_aload_n dX12_judge_153 rfl rfl (by first | exact Or.inl (by decide) | exact Or.inl (by omega) | exact Or.inr (by decide) | exact Or.inr (by omega)) ?_
  refine wp_getR dX12_judge_154 fX12_27 rfl (by decide) ?_
  refine wp_topR (x' := 129) rfl ?_
  refine wp_aload_n dX12_judge_157 rfl rfl (by first | exact Or.inl (by decide) | exact Or.inl (by omega) | exact Or.inr (by decide) | exact Or.inr (by omega)) ?_
  refine wp_getI dX12_judge_158 fX12_482 rfl (by decide) ?_
  have c0 := h.1
  replace h := h.2
  refine wp_iald dX12_judge_161 rfl (by decide) c0 ?_
  refine wp_icmp_ge (tgt := 188) dX12_judge_162 (by decide) (fun h162 => ?_) (fun h162 => ?_)
  · replace h := h.2 h162
    exact wp_vret dX12_judge_188 rfl (fun _ => h)
  · replace h := h.1 h162
    refine wp_aload_n dX12_judge_165 rfl rfl (by first | exact Or.inl (by decide) | exact Or.inl (by omega) | exact Or.inr (by decide) | exact Or.inr (by omega)) ?_
    refine wp_getR dX12_judge_166 fX12_31 rfl (by decide) ?_
    refine wp_topR (x' := 130) rfl ?_
    refine wp_iload_n dX12_judge_169 rfl rfl ?_
    refine wp_iload_n dX12_judge_170 rfl rfl ?_
    have c1 := h.1
    replace h := h.2
    refine wp_iaddr dX12_judge_171 c1 ?_
    have c2 := h.1
    replace h := h.2
    refine wp_iald dX12_judge_172 rfl (by decide) c2 ?_
    refine wp_iconst dX12_judge_173 (by decide) ?_
    refine wp_pc (pc' := 174) rfl ?_
    refine wp_icmp_ne (tgt := 182) dX12_judge_174 (by decide) (fun h174 => ?_) (fun h174 => ?_)
    · replace h := h.2 h174
      have c3 := h.1
      replace h := h.2
      refine wp_iincr dX12_judge_182 rfl (by decide) c3 (wp_L (L' := [some (vR 124), some (vI l1), some (vI (l2 + 1))]) rfl ?_)
      refine wp_goto (tgt := 152) dX12_judge_185 (by decide) ?_
      exact h
    · replace h := h.1 h174
      refine wp_aload_n dX12_judge_177 rfl rfl (by first | exact Or.inl (by decide) | exact Or.inl (by omega) | exact Or.inr (by decide) | exact Or.inr (by omega)) ?_
      refine wp_iload_n dX12_judge_178 rfl rfl ?_
      refine wp_cVq (n := 1) (mt' := mX12_judgeElement) (as := [vI l2]) (rest := []) _ dX12_judge_179 lX12_543 kX12_judgeElement vX12_judgeElement (by decide) (by decide +kernel) rfl (Nat.le_of_ble_eq_true rfl) (by decide) rfl rfl rfl (Nat.le_of_ble_eq_true rfl) (fun hM hS => h) (fun r M' hq hM => ?_)
      obtain ⟨m179, n179, rfl, rfl, h⟩ := rV_out hq
      have c3 := h.1
      replace h := h.2
      refine wp_iincr dX12_judge_182 rfl (by decide) c3 (wp_L (L' := [some (vR 124), some (vI l1), some (vI (l2 + 1))]) rfl ?_)
      refine wp_goto (tgt := 152) dX12_judge_185 (by decide) ?_
      exact h
theorem dX12_read_0 : decode cX12_read 0 = .ok (.iload_n 1, 1) := by decide +kernel
theorem dX12_read_1 : decode cX12_read 1 = .ok (.i2l, 1) := by decide +kernel
theorem dX12_read_2 : decode cX12_read 2 = .ok (.lconst 0, 1) := by decide +kernel
theorem dX12_read_3 : decode cX12_read 3 = .ok (.aload_n 0, 1) := by decide +kernel
theorem dX12_read_4 : decode cX12_read 4 = .ok (.getfield 476, 3) := by decide +kernel
theorem dX12_read_7 : decode cX12_read 7 = .ok (.i2l, 1) := by decide +kernel
theorem dX12_read_8 : decode cX12_read 8 = .ok (.invokestatic 256, 3) := by decide +kernel
theorem dX12_read_11 : decode cX12_read 11 = .ok (.ifCond .ne 5, 3) := by decide +kernel
theorem dX12_read_14 : decode cX12_read 14 = .ok (.iconst 0, 1) := by decide +kernel
theorem dX12_read_15 : decode cX12_read 15 = .ok (.ireturn, 1) := by decide +kernel
theorem dX12_read_16 : decode cX12_read 16 = .ok (.aload_n 0, 1) := by decide +kernel
theorem dX12_read_17 : decode cX12_read 17 = .ok (.iload_n 1, 1) := by decide +kernel
theorem dX12_read_18 : decode cX12_read 18 = .ok (.invokevirtual 479, 3) := by decide +kernel
theorem dX12_read_21 : decode cX12_read 21 = .ok (.aload_n 0, 1) := by decide +kernel
theorem dX12_read_22 : decode cX12_read 22 = .ok (.iconst 1, 1) := by decide +kernel
theorem dX12_read_23 : decode cX12_read 23 = .ok (.aload_n 0, 1) := by decide +kernel
theorem dX12_read_24 : decode cX12_read 24 = .ok (.getfield 482, 3) := by decide +kernel
theorem dX12_read_27 : decode cX12_read 27 = .ok (.isub, 1) := by decide +kernel
theorem dX12_read_28 : decode cX12_read 28 = .ok (.putfield 328, 3) := by decide +kernel
theorem dX12_read_31 : decode cX12_read 31 = .ok (.iconst 0, 1) := by decide +kernel
theorem dX12_read_32 : decode cX12_read 32 = .ok (.istore_n 2, 1) := by decide +kernel
theorem dX12_read_33 : decode cX12_read 33 = .ok (.iload_n 2, 1) := by decide +kernel
theorem dX12_read_34 : decode cX12_read 34 = .ok (.iload_n 1, 1) := by decide +kernel
theorem dX12_read_35 : decode cX12_read 35 = .ok (.if_icmp .ge 30, 3) := by decide +kernel
theorem dX12_read_38 : decode cX12_read 38 = .ok (.aload_n 0, 1) := by decide +kernel
theorem dX12_read_39 : decode cX12_read 39 = .ok (.getfield 24, 3) := by decide +kernel
theorem dX12_read_42 : decode cX12_read 42 = .ok (.sipush 6000, 3) := by decide +kernel
theorem dX12_read_45 : decode cX12_read 45 = .ok (.aload_n 0, 1) := by decide +kernel
theorem dX12_read_46 : decode cX12_read 46 = .ok (.getfield 328, 3) := by decide +kernel
theorem dX12_read_49 : decode cX12_read 49 = .ok (.imul, 1) := by decide +kernel
theorem dX12_read_50 : decode cX12_read 50 = .ok (.iload_n 2, 1) := by decide +kernel
theorem dX12_read_51 : decode cX12_read 51 = .ok (.iadd, 1) := by decide +kernel
theorem dX12_read_52 : decode cX12_read 52 = .ok (.aload_n 0, 1) := by decide +kernel
theorem dX12_read_53 : decode cX12_read 53 = .ok (.getfield 13, 3) := by decide +kernel
theorem dX12_read_56 : decode cX12_read 56 = .ok (.iload_n 2, 1) := by decide +kernel
theorem dX12_read_57 : decode cX12_read 57 = .ok (.baload, 1) := by decide +kernel
theorem dX12_read_58 : decode cX12_read 58 = .ok (.bastore, 1) := by decide +kernel
theorem dX12_read_59 : decode cX12_read 59 = .ok (.iinc 2 1, 3) := by decide +kernel
theorem dX12_read_62 : decode cX12_read 62 = .ok (.goto (-29), 3) := by decide +kernel
theorem dX12_read_65 : decode cX12_read 65 = .ok (.aload_n 0, 1) := by decide +kernel
theorem dX12_read_66 : decode cX12_read 66 = .ok (.getfield 27, 3) := by decide +kernel
theorem dX12_read_69 : decode cX12_read 69 = .ok (.aload_n 0, 1) := by decide +kernel
theorem dX12_read_70 : decode cX12_read 70 = .ok (.getfield 328, 3) := by decide +kernel
theorem dX12_read_73 : decode cX12_read 73 = .ok (.iconst 0, 1) := by decide +kernel
theorem dX12_read_74 : decode cX12_read 74 = .ok (.iastore, 1) := by decide +kernel
theorem dX12_read_75 : decode cX12_read 75 = .ok (.aload_n 0, 1) := by decide +kernel
theorem dX12_read_76 : decode cX12_read 76 = .ok (.getfield 58, 3) := by decide +kernel
theorem dX12_read_79 : decode cX12_read 79 = .ok (.aload_n 0, 1) := by decide +kernel
theorem dX12_read_80 : decode cX12_read 80 = .ok (.getfield 328, 3) := by decide +kernel
theorem dX12_read_83 : decode cX12_read 83 = .ok (.iconst 0, 1) := by decide +kernel
theorem dX12_read_84 : decode cX12_read 84 = .ok (.iastore, 1) := by decide +kernel
theorem dX12_read_85 : decode cX12_read 85 = .ok (.aload_n 0, 1) := by decide +kernel
theorem dX12_read_86 : decode cX12_read 86 = .ok (.getfield 61, 3) := by decide +kernel
theorem dX12_read_89 : decode cX12_read 89 = .ok (.aload_n 0, 1) := by decide +kernel
theorem dX12_read_90 : decode cX12_read 90 = .ok (.getfield 328, 3) := by decide +kernel
theorem dX12_read_93 : decode cX12_read 93 = .ok (.iconst 0, 1) := by decide +kernel
theorem dX12_read_94 : decode cX12_read 94 = .ok (.iastore, 1) := by decide +kernel
theorem dX12_read_95 : decode cX12_read 95 = .ok (.aload_n 0, 1) := by decide +kernel
theorem dX12_read_96 : decode cX12_read 96 = .ok (.getfield 70, 3) := by decide +kernel
theorem dX12_read_99 : decode cX12_read 99 = .ok (.aload_n 0, 1) := by decide +kernel
theorem dX12_read_100 : decode cX12_read 100 = .ok (.getfield 328, 3) := by decide +kernel
theorem dX12_read_103 : decode cX12_read 103 = .ok (.iconst 0, 1) := by decide +kernel
theorem dX12_read_104 : decode cX12_read 104 = .ok (.iastore, 1) := by decide +kernel
theorem dX12_read_105 : decode cX12_read 105 = .ok (.aload_n 0, 1) := by decide +kernel
theorem dX12_read_106 : decode cX12_read 106 = .ok (.getfield 104, 3) := by decide +kernel
theorem dX12_read_109 : decode cX12_read 109 = .ok (.aload_n 0, 1) := by decide +kernel
theorem dX12_read_110 : decode cX12_read 110 = .ok (.getfield 328, 3) := by decide +kernel
theorem dX12_read_113 : decode cX12_read 113 = .ok (.iconst 0, 1) := by decide +kernel
theorem dX12_read_114 : decode cX12_read 114 = .ok (.iastore, 1) := by decide +kernel
theorem dX12_read_115 : decode cX12_read 115 = .ok (.aload_n 0, 1) := by decide +kernel
theorem dX12_read_116 : decode cX12_read 116 = .ok (.getfield 143, 3) := by decide +kernel
theorem dX12_read_119 : decode cX12_read 119 = .ok (.aload_n 0, 1) := by decide +kernel
theorem dX12_read_120 : decode cX12_read 120 = .ok (.getfield 328, 3) := by decide +kernel
theorem dX12_read_123 : decode cX12_read 123 = .ok (.iconst 0, 1) := by decide +kernel
theorem dX12_read_124 : decode cX12_read 124 = .ok (.iastore, 1) := by decide +kernel
theorem dX12_read_125 : decode cX12_read 125 = .ok (.aload_n 0, 1) := by decide +kernel
theorem dX12_read_126 : decode cX12_read 126 = .ok (.getfield 20, 3) := by decide +kernel
theorem dX12_read_129 : decode cX12_read 129 = .ok (.aload_n 0, 1) := by decide +kernel
theorem dX12_read_130 : decode cX12_read 130 = .ok (.getfield 328, 3) := by decide +kernel
theorem dX12_read_133 : decode cX12_read 133 = .ok (.iconst 0, 1) := by decide +kernel
theorem dX12_read_134 : decode cX12_read 134 = .ok (.bastore, 1) := by decide +kernel
theorem dX12_read_135 : decode cX12_read 135 = .ok (.aload_n 0, 1) := by decide +kernel
theorem dX12_read_136 : decode cX12_read 136 = .ok (.iconst 0, 1) := by decide +kernel
theorem dX12_read_137 : decode cX12_read 137 = .ok (.putfield 443, 3) := by decide +kernel
theorem dX12_read_140 : decode cX12_read 140 = .ok (.aload_n 0, 1) := by decide +kernel
theorem dX12_read_141 : decode cX12_read 141 = .ok (.iconst 0, 1) := by decide +kernel
theorem dX12_read_142 : decode cX12_read 142 = .ok (.iconst 0, 1) := by decide +kernel
theorem dX12_read_143 : decode cX12_read 143 = .ok (.invokevirtual 446, 3) := by decide +kernel
theorem dX12_read_146 : decode cX12_read 146 = .ok (.istore_n 2, 1) := by decide +kernel
theorem dX12_read_147 : decode cX12_read 147 = .ok (.aload_n 0, 1) := by decide +kernel
theorem dX12_read_148 : decode cX12_read 148 = .ok (.invokevirtual 485, 3) := by decide +kernel
theorem dX12_read_151 : decode cX12_read 151 = .ok (.aload_n 0, 1) := by decide +kernel
theorem dX12_read_152 : decode cX12_read 152 = .ok (.invokevirtual 289, 3) := by decide +kernel
theorem dX12_read_155 : decode cX12_read 155 = .ok (.ifCond .eq 25, 3) := by decide +kernel
theorem dX12_read_158 : decode cX12_read 158 = .ok (.aload_n 0, 1) := by decide +kernel
theorem dX12_read_159 : decode cX12_read 159 = .ok (.ldc2_w 488, 3) := by decide +kernel
theorem dX12_read_162 : decode cX12_read 162 = .ok (.ldc2_w 490, 3) := by decide +kernel
theorem dX12_read_165 : decode cX12_read 165 = .ok (.iconst 1, 1) := by decide +kernel
theorem dX12_read_166 : decode cX12_read 166 = .ok (.invokevirtual 358, 3) := by decide +kernel
theorem dX12_read_169 : decode cX12_read 169 = .ok (.ifCond .eq 11, 3) := by decide +kernel
theorem dX12_read_172 : decode cX12_read 172 = .ok (.aload_n 0, 1) := by decide +kernel
theorem dX12_read_173 : decode cX12_read 173 = .ok (.invokevirtual 492, 3) := by decide +kernel
theorem dX12_read_176 : decode cX12_read 176 = .ok (.aload_n 0, 1) := by decide +kernel
theorem dX12_read_177 : decode cX12_read 177 = .ok (.invokevirtual 485, 3) := by decide +kernel
theorem dX12_read_180 : decode cX12_read 180 = .ok (.aload_n 0, 1) := by decide +kernel
theorem dX12_read_181 : decode cX12_read 181 = .ok (.invokevirtual 470, 3) := by decide +kernel
theorem dX12_read_184 : decode cX12_read 184 = .ok (.aload_n 0, 1) := by decide +kernel
theorem dX12_read_185 : decode cX12_read 185 = .ok (.invokevirtual 495, 3) := by decide +kernel
theorem dX12_read_188 : decode cX12_read 188 = .ok (.aload_n 0, 1) := by decide +kernel
theorem dX12_read_189 : decode cX12_read 189 = .ok (.invokevirtual 485, 3) := by decide +kernel
theorem dX12_read_192 : decode cX12_read 192 = .ok (.aload_n 0, 1) := by decide +kernel
theorem dX12_read_193 : decode cX12_read 193 = .ok (.invokevirtual 289, 3) := by decide +kernel
theorem dX12_read_196 : decode cX12_read 196 = .ok (.ifCond .eq 23, 3) := by decide +kernel
theorem dX12_read_199 : decode cX12_read 199 = .ok (.aload_n 0, 1) := by decide +kernel
theorem dX12_read_200 : decode cX12_read 200 = .ok (.getfield 276, 3) := by decide +kernel
theorem dX12_read_203 : decode cX12_read 203 = .ok (.aload_n 0, 1) := by decide +kernel
theorem dX12_read_204 : decode cX12_read 204 = .ok (.getfield 249, 3) := by decide +kernel
theorem dX12_read_207 : decode cX12_read 207 = .ok (.if_icmp .ge 12, 3) := by decide +kernel
theorem dX12_read_210 : decode cX12_read 210 = .ok (.aload_n 0, 1) := by decide +kernel
theorem dX12_read_211 : decode cX12_read 211 = .ok (.iconst (-1), 1) := by decide +kernel
theorem dX12_read_212 : decode cX12_read 212 = .ok (.aload_n 0, 1) := by decide +kernel
theorem dX12_read_213 : decode cX12_read 213 = .ok (.getfield 276, 3) := by decide +kernel
theorem dX12_read_216 : decode cX12_read 216 = .ok (.invokevirtual 293, 3) := by decide +kernel
theorem dX12_read_219 : decode cX12_read 219 = .ok (.aload_n 0, 1) := by decide +kernel
theorem dX12_read_220 : decode cX12_read 220 = .ok (.invokevirtual 289, 3) := by decide +kernel
theorem dX12_read_223 : decode cX12_read 223 = .ok (.ifCond .ne 8, 3) := by decide +kernel
theorem dX12_read_226 : decode cX12_read 226 = .ok (.aload_n 0, 1) := by decide +kernel
theorem dX12_read_227 : decode cX12_read 227 = .ok (.getfield 246, 3) := by decide +kernel
theorem dX12_read_230 : decode cX12_read 230 = .ok (.ireturn, 1) := by decide +kernel
theorem dX12_read_231 : decode cX12_read 231 = .ok (.aload_n 0, 1) := by decide +kernel
theorem dX12_read_232 : decode cX12_read 232 = .ok (.aload_n 0, 1) := by decide +kernel
theorem dX12_read_233 : decode cX12_read 233 = .ok (.getfield 328, 3) := by decide +kernel
theorem dX12_read_236 : decode cX12_read 236 = .ok (.putfield 482, 3) := by decide +kernel
theorem dX12_read_239 : decode cX12_read 239 = .ok (.aload_n 0, 1) := by decide +kernel
theorem dX12_read_240 : decode cX12_read 240 = .ok (.iconst 1, 1) := by decide +kernel
theorem dX12_read_241 : decode cX12_read 241 = .ok (.putfield 498, 3) := by decide +kernel
theorem dX12_read_244 : decode cX12_read 244 = .ok (.aload_n 0, 1) := by decide +kernel
theorem dX12_read_245 : decode cX12_read 245 = .ok (.iconst 0, 1) := by decide +kernel
theorem dX12_read_246 : decode cX12_read 246 = .ok (.putfield 501, 3) := by decide +kernel
theorem dX12_read_249 : decode cX12_read 249 = .ok (.aload_n 0, 1) := by decide +kernel
theorem dX12_read_250 : decode cX12_read 250 = .ok (.iconst 0, 1) := by decide +kernel
theorem dX12_read_251 : decode cX12_read 251 = .ok (.putfield 504, 3) := by decide +kernel
theorem dX12_read_254 : decode cX12_read 254 = .ok (.aload_n 0, 1) := by decide +kernel
theorem dX12_read_255 : decode cX12_read 255 = .ok (.invokevirtual 507, 3) := by decide +kernel
theorem dX12_read_258 : decode cX12_read 258 = .ok (.aload_n 0, 1) := by decide +kernel
theorem dX12_read_259 : decode cX12_read 259 = .ok (.getfield 27, 3) := by decide +kernel
theorem dX12_read_262 : decode cX12_read 262 = .ok (.aload_n 0, 1) := by decide +kernel
theorem dX12_read_263 : decode cX12_read 263 = .ok (.getfield 328, 3) := by decide +kernel
theorem dX12_read_266 : decode cX12_read 266 = .ok (.iaload, 1) := by decide +kernel
theorem dX12_read_267 : decode cX12_read 267 = .ok (.ireturn, 1) := by decide +kernel
theorem v_X12_read_0 {cs : Cs} {Q : Option AV → Mm → Prop} {MI ML : Nat → Nat → Int} {d e nw th x : Nat} {l1 : Int}
    (h : wp cs mX12_in KD (rI (GR d e nw th x) fun x8 m8 n8 => ((x8 = 0 → Q (some (vI 0)) (m8, n8, (GR d e nw th x))) ∧ (x8 ≠ 0 → wp cs mX12_begin KD (rV (GR d e nw th x) fun m18 n18 => (-2147483648 ≤ 1 - (m18 124 7) ∧ 1 - (m18 124 7) < 2147483648) ∧ ∀ m28, m28 = up2 m18 124 8 (1 - (m18 124 7)) → wp cs mX12_read KD Q 33 [some (vR 124), some (vI l1), some (vI 0)] [] (KD, m28, n18, (GR d e nw th x))) 0 (padL [vR 124, vI l1] 3) [] (KD, m8, n8, (GR d e nw th x))))) 0 (padL [vL l1, vL 0, vL (MI 124 1)] 6) [] (KD, MI, ML, (GR d e nw th x))) :
    wp cs mX12_read KD Q 0 (padL [vR 124, vI l1] 3) [] (KD, MI, ML, (GR d e nw th x)) := by
  refine wp_L (L' := [some (vR 124), some (vI l1), none]) rfl ?_
  refine wp_iload_n dX12_read_0 rfl rfl ?_
  refine wp_i2l dX12_read_1 ?_
  refine wp_lconst (z := 0) dX12_read_2 (by decide +kernel) (by decide) ?_
  refine wp_aload_n dX12_read_3 rfl rfl (by first | exact Or.inl (by decide) | exact Or.inl (by omega) | exact Or.inr (by decide) | exact Or.inr (by omega)) ?_
  refine wp_getI dX12_read_4 fX12_476 rfl (by decide) ?_
  refine wp_i2l dX12_read_7 ?_
  refine wp_cSq (n := 3) (mt' := mX12_in) (as := [vL l1, vL 0, vL (MI 124 1)]) (rest := []) _ dX12_read_8 lX12_256 kX12_in vX12_in (by decide) (by decide +kernel) rfl (Nat.le_of_ble_eq_true rfl) rfl (Nat.le_of_ble_eq_true rfl) (fun hM hS => h) (fun r M' hq hM => ?_)
  obtain ⟨x8, m8, n8, rfl, rfl, h⟩ := rI_out hq
  refine wp_if_ne (tgt := 16) dX12_read_11 (by decide) (fun h11 => ?_) (fun h11 => ?_)
  · replace h := h.2 h11
    refine wp_aload_n dX12_read_16 rfl rfl (by first | exact Or.inl (by decide) | exact Or.inl (by omega) | exact Or.inr (by decide) | exact Or.inr (by omega)) ?_
    refine wp_iload_n dX12_read_17 rfl rfl ?_
    refine wp_cVq (n := 1) (mt' := mX12_begin) (as := [vI l1]) (rest := []) _ dX12_read_18 lX12_479 kX12_begin vX12_begin (by decide) (by decide +kernel) rfl (Nat.le_of_ble_eq_true rfl) (by decide) rfl rfl rfl (Nat.le_of_ble_eq_true rfl) (fun hM hS => h) (fun r M' hq hM => ?_)
    obtain ⟨m18, n18, rfl, rfl, h⟩ := rV_out hq
    refine wp_aload_n dX12_read_21 rfl rfl (by first | exact Or.inl (by decide) | exact Or.inl (by omega) | exact Or.inr (by decide) | exact Or.inr (by omega)) ?_
    refine wp_iconst dX12_read_22 (by decide) ?_
    refine wp_aload_n dX12_read_23 rfl rfl (by first | exact Or.inl (by decide) | exact Or.inl (by omega) | exact Or.inr (by decide) | exact Or.inr (by omega)) ?_
    refine wp_getI dX12_read_24 fX12_482 rfl (by decide) ?_
    have c0 := h.1
    replace h := h.2
    refine wp_isubr dX12_read_27 c0 ?_
    refine wp_putI dX12_read_28 pX12_328 rfl (by decide) ?_
    refine wp_gI (fun m28 e28 => ?_)
    replace h := h m28 e28
    refine wp_iconst dX12_read_31 (by decide) ?_
    refine wp_pc (pc' := 32) rfl ?_
    refine wp_istore_n dX12_read_32 rfl (by decide) (wp_L (L' := [some (vR 124), some (vI l1), some (vI 0)]) rfl ?_)
    exact h
  · replace h := h.1 h11
    refine wp_iconst dX12_read_14 (by decide) ?_
    exact wp_iret dX12_read_15 rfl (fun _ => h)
theorem v_X12_read_33 {cs : Cs} {Q : Option AV → Mm → Prop} {MI ML : Nat → Nat → Int} {d e nw th x : Nat} {l1 l2 : Int}
    (h : ((l2 < l1 → (-2147483648 ≤ 6000 * (MI 124 8) ∧ 6000 * (MI 124 8) < 2147483648) ∧ (-2147483648 ≤ (6000 * (MI 124 8)) + l2 ∧ (6000 * (MI 124 8)) + l2 < 2147483648) ∧ (0 ≤ l2 ∧ l2 < 6000) ∧ (0 ≤ ((6000 * (MI 124 8)) + l2) ∧ ((6000 * (MI 124 8)) + l2) < 12000) ∧ (-128 ≤ (MI 126 l2.toNat) ∧ (MI 126 l2.toNat) < 128) ∧ ∀ m58, m58 = up2 MI 128 ((6000 * (MI 124 8)) + l2).toNat (MI 126 l2.toNat) → (-2147483648 ≤ l2 + 1 ∧ l2 + 1 < 2147483648) ∧ wp cs mX12_read KD Q 33 [some (vR 124), some (vI l1), some (vI (l2 + 1))] [] (KD, m58, ML, (GR d e nw th x))) ∧ (l1 ≤ l2 → (0 ≤ (MI 124 8) ∧ (MI 124 8) < 2) ∧ ∀ m74, m74 = up2 MI 129 (MI 124 8).toNat 0 → (0 ≤ (m74 124 8) ∧ (m74 124 8) < 2) ∧ ∀ m84, m84 = up2 m74 139 (m74 124 8).toNat 0 → (0 ≤ (m84 124 8) ∧ (m84 124 8) < 2) ∧ ∀ m94, m94 = up2 m84 140 (m84 124 8).toNat 0 → (0 ≤ (m94 124 8) ∧ (m94 124 8) < 2) ∧ ∀ m104, m104 = up2 m94 143 (m94 124 8).toNat 0 → (0 ≤ (m104 124 8) ∧ (m104 124 8) < 2) ∧ ∀ m114, m114 = up2 m104 154 (m104 124 8).toNat 0 → (0 ≤ (m114 124 8) ∧ (m114 124 8) < 2) ∧ ∀ m124, m124 = up2 m114 167 (m114 124 8).toNat 0 → (0 ≤ (m124 124 8) ∧ (m124 124 8) < 2) ∧ ∀ m134, m134 = up2 m124 127 (m124 124 8).toNat 0 → ∀ m137, m137 = up2 m134 124 64 0 → wp cs mX12_newNode KD (rI (GR d e nw th x) fun x143 m143 n143 => wp cs mX12_misc KD (rV (GR d e nw th x) fun m148 n148 => wp cs mX12_isGood KD (rI (GR d e nw th x) fun x152 m152 n152 => ((x152 = 0 → wp cs mX12_read KD Q 180 [some (vR 124), some (vI l1), some (vI x143)] [] (KD, m152, n152, (GR d e nw th x))) ∧ (x152 ≠ 0 → wp cs mX12_stands2 KD (rI (GR d e nw th x) fun x166 m166 n166 => ((x166 = 0 → wp cs mX12_read KD Q 180 [some (vR 124), some (vI l1), some (vI x143)] [] (KD, m166, n166, (GR d e nw th x))) ∧ (x166 ≠ 0 → wp cs mX12_doctype KD (rV (GR d e nw th x) fun m173 n173 => wp cs mX12_misc KD (rV (GR d e nw th x) fun m177 n177 => wp cs mX12_read KD Q 180 [some (vR 124), some (vI l1), some (vI x143)] [] (KD, m177, n177, (GR d e nw th x))) 0 (padL [vR 124] 1) [] (KD, m173, n173, (GR d e nw th x))) 0 (padL [vR 124] 3) [] (KD, m166, n166, (GR d e nw th x))))) 0 (padL [vR 124, vL 4332819423729834320, vL 69, vI 1] 7) [] (KD, m152, n152, (GR d e nw th x))))) 0 (padL [vR 124] 1) [] (KD, m148, n148, (GR d e nw th x))) 0 (padL [vR 124] 1) [] (KD, m143, n143, (GR d e nw th x))) 0 (padL [vR 124, vI 0, vI 0] 4) [] (KD, m137, ML, (GR d e nw th x))))) :
    wp cs mX12_read KD Q 33 [some (vR 124), some (vI l1), some (vI l2)] [] (KD, MI, ML, (GR d e nw th x)) := by
  refine wp_iload_n dX12_read_33 rfl rfl ?_
  refine wp_iload_n dX12_read_34 rfl rfl ?_
  refine wp_icmp_ge (tgt := 65) dX12_read_35 (by decide) (fun h35 => ?_) (fun h35 => ?_)
  · replace h := h.2 h35
    refine wp_aload_n dX12_read_65 rfl rfl (by first | exact Or.inl (by decide) | exact Or.inl (by omega) | exact Or.inr (by decide) | exact Or.inr (by omega)) ?_
    refine wp_getR dX12_read_66 fX12_27 rfl (by decide) ?_
    refine wp_topR (x' := 129) rfl ?_
    refine wp_aload_n dX12_read_69 rfl rfl (by first | exact Or.inl (by decide) | exact Or.inl (by omega) | exact Or.inr (by decide) | exact Or.inr (by omega)) ?_
    refine wp_getI dX12_read_70 fX12_328 rfl (by decide) ?_
    refine wp_iconst dX12_read_73 (by decide) ?_
    have c0 := h.1
    replace h := h.2
    refine wp_iast dX12_read_74 rfl (by decide) c0 ?_
    refine wp_gI (fun m74 e74 => ?_)
    replace h := h m74 e74
    refine wp_aload_n dX12_read_75 rfl rfl (by first | exact Or.inl (by decide) | exact Or.inl (by omega) | exact Or.inr (by decide) | exact Or.inr (by omega)) ?_
    refine wp_pc (pc' := 76) rfl ?_
    refine wp_getR dX12_read_76 fX12_58 rfl (by decide) ?_
    refine wp_topR (x' := 139) rfl ?_
    refine wp_aload_n dX12_read_79 rfl rfl (by first | exact Or.inl (by decide) | exact Or.inl (by omega) | exact Or.inr (by decide) | exact Or.inr (by omega)) ?_
    refine wp_getI dX12_read_80 fX12_328 rfl (by decide) ?_
    refine wp_iconst dX12_read_83 (by decide) ?_
    have c1 := h.1
    replace h := h.2
    refine wp_iast dX12_read_84 rfl (by decide) c1 ?_
    refine wp_gI (fun m84 e84 => ?_)
    replace h := h m84 e84
    refine wp_aload_n dX12_read_85 rfl rfl (by first | exact Or.inl (by decide) | exact Or.inl (by omega) | exact Or.inr (by decide) | exact Or.inr (by omega)) ?_
    refine wp_getR dX12_read_86 fX12_61 rfl (by decide) ?_
    refine wp_topR (x' := 140) rfl ?_
    refine wp_aload_n dX12_read_89 rfl rfl (by first | exact Or.inl (by decide) | exact Or.inl (by omega) | exact Or.inr (by decide) | exact Or.inr (by omega)) ?_
    refine wp_pc (pc' := 90) rfl ?_
    refine wp_getI dX12_read_90 fX12_328 rfl (by decide) ?_
    refine wp_iconst dX12_read_93 (by decide) ?_
    have c2 := h.1
    replace h := h.2
    refine wp_iast dX12_read_94 rfl (by decide) c2 ?_
    refine wp_gI (fun m94 e94 => ?_)
    replace h := h m94 e94
    refine wp_aload_n dX12_read_95 rfl rfl (by first | exact Or.inl (by decide) | exact Or.inl (by omega) | exact Or.inr (by decide) | exact Or.inr (by omega)) ?_
    refine wp_getR dX12_read_96 fX12_70 rfl (by decide) ?_
    refine wp_topR (x' := 143) rfl ?_
    refine wp_aload_n dX12_read_99 rfl rfl (by first | exact Or.inl (by decide) | exact Or.inl (by omega) | exact Or.inr (by decide) | exact Or.inr (by omega)) ?_
    refine wp_getI dX12_read_100 fX12_328 rfl (by decide) ?_
    refine wp_iconst dX12_read_103 (by decide) ?_
    refine wp_pc (pc' := 104) rfl ?_
    have c3 := h.1
    replace h := h.2
    refine wp_iast dX12_read_104 rfl (by decide) c3 ?_
    refine wp_gI (fun m104 e104 => ?_)
    replace h := h m104 e104
    refine wp_aload_n dX12_read_105 rfl rfl (by first | exact Or.inl (by decide) | exact Or.inl (by omega) | exact Or.inr (by decide) | exact Or.inr (by omega)) ?_
    refine wp_getR dX12_read_106 fX12_104 rfl (by decide) ?_
    refine wp_topR (x' := 154) rfl ?_
    refine wp_aload_n dX12_read_109 rfl rfl (by first | exact Or.inl (by decide) | exact Or.inl (by omega) | exact Or.inr (by decide) | exact Or.inr (by omega)) ?_
    refine wp_getI dX12_read_110 fX12_328 rfl (by decide) ?_
    refine wp_iconst dX12_read_113 (by decide) ?_
    have c4 := h.1
    replace h := h.2
    refine wp_iast dX12_read_114 rfl (by decide) c4 ?_
    refine wp_gI (fun m114 e114 => ?_)
    replace h := h m114 e114
    refine wp_aload_n dX12_read_115 rfl rfl (by first | exact Or.inl (by decide) | exact Or.inl (by omega) | exact Or.inr (by decide) | exact Or.inr (by omega)) ?_
    refine wp_pc (pc' := 116) rfl ?_
    refine wp_getR dX12_read_116 fX12_143 rfl (by decide) ?_
    refine wp_topR (x' := 167) rfl ?_
    refine wp_aload_n dX12_read_119 rfl rfl (by first | exact Or.inl (by decide) | exact Or.inl (by omega) | exact Or.inr (by decide) | exact Or.inr (by omega)) ?_
    refine wp_getI dX12_read_120 fX12_328 rfl (by decide) ?_
    refine wp_iconst dX12_read_123 (by decide) ?_
    have c5 := h.1
    replace h := h.2
    refine wp_iast dX12_read_124 rfl (by decide) c5 ?_
    refine wp_gI (fun m124 e124 => ?_)
    replace h := h m124 e124
    refine wp_aload_n dX12_read_125 rfl rfl (by first | exact Or.inl (by decide) | exact Or.inl (by omega) | exact Or.inr (by decide) | exact Or.inr (by omega)) ?_
    refine wp_getR dX12_read_126 fX12_20 rfl (by decide) ?_
    refine wp_topR (x' := 127) rfl ?_
    refine wp_aload_n dX12_read_129 rfl rfl (by first | exact Or.inl (by decide) | exact Or.inl (by omega) | exact Or.inr (by decide) | exact Or.inr (by omega)) ?_
    refine wp_pc (pc' := 130) rfl ?_
    refine wp_getI dX12_read_130 fX12_328 rfl (by decide) ?_
    refine wp_iconst dX12_read_133 (by decide) ?_
    have c6 := h.1
    replace h := h.2
    refine wp_zast dX12_read_134 rfl (by decide) c6 (by decide) ?_
    refine wp_gI (fun m134 e134 => ?_)
    replace h := h m134 e134
    refine wp_aload_n dX12_read_135 rfl rfl (by first | exact Or.inl (by decide) | exact Or.inl (by omega) | exact Or.inr (by decide) | exact Or.inr (by omega)) ?_
    refine wp_iconst dX12_read_136 (by decide) ?_
    refine wp_putI dX12_read_137 pX12_443 rfl (by decide) ?_
    refine wp_gI (fun m137 e137 => ?_)
    replace h := h m137 e137
    refine wp_aload_n dX12_read_140 rfl rfl (by first | exact Or.inl (by decide) | exact Or.inl (by omega) | exact Or.inr (by decide) | exact Or.inr (by omega)) ?_
    refine wp_iconst dX12_read_141 (by decide) ?_
    refine wp_pc (pc' := 142) rfl ?_
    refine wp_iconst dX12_read_142 (by decide) ?_
    refine wp_cVq (n := 2) (mt' := mX12_newNode) (as := [vI 0, vI 0]) (rest := []) _ dX12_read_143 lX12_446 kX12_newNode vX12_newNode (by decide) (by decide +kernel) rfl (Nat.le_of_ble_eq_true rfl) (by decide) rfl rfl rfl (Nat.le_of_ble_eq_true rfl) (fun hM hS => h) (fun r M' hq hM => ?_)
    obtain ⟨x143, m143, n143, rfl, rfl, h⟩ := rI_out hq
    refine wp_istore_n dX12_read_146 rfl (by decide) (wp_L (L' := [some (vR 124), some (vI l1), some (vI x143)]) rfl ?_)
    refine wp_aload_n dX12_read_147 rfl rfl (by first | exact Or.inl (by decide) | exact Or.inl (by omega) | exact Or.inr (by decide) | exact Or.inr (by omega)) ?_
    refine wp_cVq (n := 0) (mt' := mX12_misc) (as := []) (rest := []) _ dX12_read_148 lX12_485 kX12_misc vX12_misc (by decide) (by decide +kernel) rfl (Nat.le_of_ble_eq_true rfl) (by decide) rfl rfl rfl (Nat.le_of_ble_eq_true rfl) (fun hM hS => h) (fun r M' hq hM => ?_)
    obtain ⟨m148, n148, rfl, rfl, h⟩ := rV_out hq
    refine wp_aload_n dX12_read_151 rfl rfl (by first | exact Or.inl (by decide) | exact Or.inl (by omega) | exact Or.inr (by decide) | exact Or.inr (by omega)) ?_
    refine wp_cVq (n := 0) (mt' := mX12_isGood) (as := []) (rest := []) _ dX12_read_152 lX12_289 kX12_isGood vX12_isGood (by decide) (by decide +kernel) rfl (Nat.le_of_ble_eq_true rfl) (by decide) rfl rfl rfl (Nat.le_of_ble_eq_true rfl) (fun hM hS => h) (fun r M' hq hM => ?_)
    obtain ⟨x152, m152, n152, rfl, rfl, h⟩ := rI_out hq
    refine wp_if_eq (tgt := 180) dX12_read_155 (by decide) (fun h155 => ?_) (fun h155 => ?_)
    · replace h := h.1 h155
      exact h
    · replace h := h.2 h155
      refine wp_aload_n dX12_read_158 rfl rfl (by first | exact Or.inl (by decide) | exact Or.inl (by omega) | exact Or.inr (by decide) | exact Or.inr (by omega)) ?_
      refine wp_ldc2 (x := 4332819423729834320) dX12_read_159 cX12_488 (by decide) ?_
      refine wp_ldc2 (x := 69) dX12_read_162 cX12_490 (by decide) ?_
      refine wp_iconst dX12_read_165 (by decide) ?_
      refine wp_cVq (n := 3) (mt' := mX12_stands2) (as := [vL 4332819423729834320, vL 69, vI 1]) (rest := []) _ dX12_read_166 lX12_358 kX12_stands2 vX12_stands2 (by decide) (by decide +kernel) rfl (Nat.le_of_ble_eq_true rfl) (by decide) rfl rfl rfl (Nat.le_of_ble_eq_true rfl) (fun hM hS => h) (fun r M' hq hM => ?_)
      obtain ⟨x166, m166, n166, rfl, rfl, h⟩ := rI_out hq
      refine wp_if_eq (tgt := 180) dX12_read_169 (by decide) (fun h169 => ?_) (fun h169 => ?_)
      · replace h := h.1 h169
        exact h
      · replace h := h.2 h169
        refine wp_aload_n dX12_read_172 rfl rfl (by first | exact Or.inl (by decide) | exact Or.inl (by omega) | exact Or.inr (by decide) | exact Or.inr (by omega)) ?_
        refine wp_cVq (n := 0) (mt' := mX12_doctype) (as := []) (rest := []) _ dX12_read_173 lX12_492 kX12_doctype vX12_doctype (by decide) (by decide +kernel) rfl (Nat.le_of_ble_eq_true rfl) (by decide) rfl rfl rfl (Nat.le_of_ble_eq_true rfl) (fun hM hS => h) (fun r M' hq hM => ?_)
        obtain ⟨m173, n173, rfl, rfl, h⟩ := rV_out hq
        refine wp_aload_n dX12_read_176 rfl rfl (by first | exact Or.inl (by decide) | exact Or.inl (by omega) | exact Or.inr (by decide) | exact Or.inr (by omega)) ?_
        refine wp_cVq (n := 0) (mt' := mX12_misc) (as := []) (rest := []) _ dX12_read_177 lX12_485 kX12_misc vX12_misc (by decide) (by decide +kernel) rfl (Nat.le_of_ble_eq_true rfl) (by decide) rfl rfl rfl (Nat.le_of_ble_eq_true rfl) (fun hM hS => h) (fun r M' hq hM => ?_)
        obtain ⟨m177, n177, rfl, rfl, h⟩ := rV_out hq
        exact h
  · replace h := h.1 h35
    refine wp_aload_n dX12_read_38 rfl rfl (by first | exact Or.inl (by decide) | exact Or.inl (by omega) | exact Or.inr (by decide) | exact Or.inr (by omega)) ?_
    refine wp_getR dX12_read_39 fX12_24 rfl (by decide) ?_
    refine wp_topR (x' := 128) rfl ?_
    refine wp_sipush dX12_read_42 (by decide +kernel) (by decide) ?_
    refine wp_aload_n dX12_read_45 rfl rfl (by first | exact Or.inl (by decide) | exact Or.inl (by omega) | exact Or.inr (by decide) | exact Or.inr (by omega)) ?_
    refine wp_getI dX12_read_46 fX12_328 rfl (by decide) ?_
    have c0 := h.1
    replace h := h.2
    refine wp_imulr dX12_read_49 c0 ?_
    refine wp_iload_n dX12_read_50 rfl rfl ?_
    refine wp_pc (pc' := 51) rfl ?_
    have c1 := h.1
    replace h := h.2
    refine wp_iaddr dX12_read_51 c1 ?_
    refine wp_aload_n dX12_read_52 rfl rfl (by first | exact Or.inl (by decide) | exact Or.inl (by omega) | exact Or.inr (by decide) | exact Or.inr (by omega)) ?_
    refine wp_getR dX12_read_53 fX12_13 rfl (by decide) ?_
    refine wp_topR (x' := 126) rfl ?_
    refine wp_iload_n dX12_read_56 rfl rfl ?_
    have c2 := h.1
    replace h := h.2
    refine wp_bald dX12_read_57 rfl (by decide) c2 ?_
    have c3 := h.1
    replace h := h.2
    have c4 := h.1
    replace h := h.2
    refine wp_bast dX12_read_58 rfl (by decide) c3 c4 ?_
    refine wp_gI (fun m58 e58 => ?_)
    replace h := h m58 e58
    have c5 := h.1
    replace h := h.2
    refine wp_iincr dX12_read_59 rfl (by decide) c5 (wp_L (L' := [some (vR 124), some (vI l1), some (vI (l2 + 1))]) rfl ?_)
    refine wp_goto (tgt := 33) dX12_read_62 (by decide) ?_
    exact h
theorem v_X12_read_180 {cs : Cs} {Q : Option AV → Mm → Prop} {MI ML : Nat → Nat → Int} {d e nw th x : Nat} {l1 l2 : Int}
    (h : wp cs mX12_element KD (rV (GR d e nw th x) fun m181 n181 => wp cs mX12_content KD (rV (GR d e nw th x) fun m185 n185 => wp cs mX12_misc KD (rV (GR d e nw th x) fun m189 n189 => wp cs mX12_isGood KD (rI (GR d e nw th x) fun x193 m193 n193 => ((x193 = 0 → wp cs mX12_read KD Q 219 [some (vR 124), some (vI l1), some (vI l2)] [] (KD, m193, n193, (GR d e nw th x))) ∧ (x193 ≠ 0 → (((m193 124 4) < (m193 124 3) → wp cs mX12_fail KD (rV (GR d e nw th x) fun m216 n216 => wp cs mX12_read KD Q 219 [some (vR 124), some (vI l1), some (vI l2)] [] (KD, m216, n216, (GR d e nw th x))) 0 (padL [vR 124, vI (-1), vI (m193 124 4)] 3) [] (KD, m193, n193, (GR d e nw th x))) ∧ ((m193 124 3) ≤ (m193 124 4) → wp cs mX12_read KD Q 219 [some (vR 124), some (vI l1), some (vI l2)] [] (KD, m193, n193, (GR d e nw th x))))))) 0 (padL [vR 124] 1) [] (KD, m189, n189, (GR d e nw th x))) 0 (padL [vR 124] 1) [] (KD, m185, n185, (GR d e nw th x))) 0 (padL [vR 124] 1) [] (KD, m181, n181, (GR d e nw th x))) 0 (padL [vR 124] 8) [] (KD, MI, ML, (GR d e nw th x))) :
    wp cs mX12_read KD Q 180 [some (vR 124), some (vI l1), some (vI l2)] [] (KD, MI, ML, (GR d e nw th x)) := by
  refine wp_aload_n dX12_read_180 rfl rfl (by first | exact Or.inl (by decide) | exact Or.inl (by omega) | exact Or.inr (by decide) | exact Or.inr (by omega)) ?_
  refine wp_cVq (n := 0) (mt' := mX12_element) (as := []) (rest := []) _ dX12_read_181 lX12_470 kX12_element vX12_element (by decide) (by decide +kernel) rfl (Nat.le_of_ble_eq_true rfl) (by decide) rfl rfl rfl (Nat.le_of_ble_eq_true rfl) (fun hM hS => h) (fun r M' hq hM => ?_)
  obtain ⟨m181, n181, rfl, rfl, h⟩ := rV_out hq
  refine wp_aload_n dX12_read_184 rfl rfl (by first | exact Or.inl (by decide) | exact Or.inl (by omega) | exact Or.inr (by decide) | exact Or.inr (by omega)) ?_
  refine wp_cVq (n := 0) (mt' := mX12_content) (as := []) (rest := []) _ dX12_read_185 lX12_495 kX12_content vX12_content (by decide) (by decide +kernel) rfl (Nat.le_of_ble_eq_true rfl) (by decide) rfl rfl rfl (Nat.le_of_ble_eq_true rfl) (fun hM hS => h) (fun r M' hq hM => ?_)
  obtain ⟨m185, n185, rfl, rfl, h⟩ := rV_out hq
  refine wp_aload_n dX12_read_188 rfl rfl (by first | exact Or.inl (by decide) | exact Or.inl (by omega) | exact Or.inr (by decide) | exact Or.inr (by omega)) ?_
  refine wp_cVq (n := 0) (mt' := mX12_misc) (as := []) (rest := []) _ dX12_read_189 lX12_485 kX12_misc vX12_misc (by decide) (by decide +kernel) rfl (Nat.le_of_ble_eq_true rfl) (by decide) rfl rfl rfl (Nat.le_of_ble_eq_true rfl) (fun hM hS => h) (fun r M' hq hM => ?_)
  obtain ⟨m189, n189, rfl, rfl, h⟩ := rV_out hq
  refine wp_aload_n dX12_read_192 rfl rfl (by first | exact Or.inl (by decide) | exact Or.inl (by omega) | exact Or.inr (by decide) | exact Or.inr (by omega)) ?_
  refine wp_cVq (n := 0) (mt' := mX12_isGood) (as := []) (rest := []) _ dX12_read_193 lX12_289 kX12_isGood vX12_isGood (by decide) (by decide +kernel) rfl (Nat.le_of_ble_eq_true rfl) (by decide) rfl rfl rfl (Nat.le_of_ble_eq_true rfl) (fun hM hS => h) (fun r M' hq hM => ?_)
  obtain ⟨x193, m193, n193, rfl, rfl, h⟩ := rI_out hq
  refine wp_if_eq (tgt := 219) dX12_read_196 (by decide) (fun h196 => ?_) (fun h196 => ?_)
  · replace h := h.1 h196
    exact h
  · replace h := h.2 h196
    refine wp_aload_n dX12_read_199 rfl rfl (by first | exact Or.inl (by decide) | exact Or.inl (by omega) | exact Or.inr (by decide) | exact Or.inr (by omega)) ?_
    refine wp_getI dX12_read_200 fX12_276 rfl (by decide) ?_
    refine wp_aload_n dX12_read_203 rfl rfl (by first | exact Or.inl (by decide) | exact Or.inl (by omega) | exact Or.inr (by decide) | exact Or.inr (by omega)) ?_
    refine wp_getI dX12_read_204 fX12_249 rfl (by decide) ?_
    refine wp_icmp_ge (tgt := 219) dX12_read_207 (by decide) (fun h207 => ?_) (fun h207 => ?_)
    · replace h := h.2 h207
      exact h
    · replace h := h.1 h207
      refine wp_aload_n dX12_read_210 rfl rfl (by first | exact Or.inl (by decide) | exact Or.inl (by omega) | exact Or.inr (by decide) | exact Or.inr (by omega)) ?_
      refine wp_iconst dX12_read_211 (by decide) ?_
      refine wp_aload_n dX12_read_212 rfl rfl (by first | exact Or.inl (by decide) | exact Or.inl (by omega) | exact Or.inr (by decide) | exact Or.inr (by omega)) ?_
      refine wp_getI dX12_read_213 fX12_276 rfl (by decide) ?_
      refine wp_cVq (n := 2) (mt' := mX12_fail) (as := [vI (-1), vI (m193 124 4)]) (rest := []) _ dX12_read_216 lX12_293 kX12_fail vX12_fail (by decide) (by decide +kernel) rfl (Nat.le_of_ble_eq_true rfl) (by decide) rfl rfl rfl (Nat.le_of_ble_eq_true rfl) (fun hM hS => h) (fun r M' hq hM => ?_)
      obtain ⟨m216, n216, rfl, rfl, h⟩ := rV_out hq
      exact h
theorem v_X12_read_219 {cs : Cs} {Q : Option AV → Mm → Prop} {MI ML : Nat → Nat → Int} {d e nw th x : Nat} {l1 l2 : Int}
    (h : wp cs mX12_isGood KD (rI (GR d e nw th x) fun x220 m220 n220 => ((x220 = 0 → Q (some (vI (m220 124 5))) (m220, n220, (GR d e nw th x))) ∧ (x220 ≠ 0 → ∀ m236, m236 = up2 m220 124 7 (m220 124 8) → ∀ m241, m241 = up2 m236 124 9 1 → ∀ m246, m246 = up2 m241 124 86 0 → ∀ m251, m251 = up2 m246 124 68 0 → wp cs mX12_judge KD (rV (GR d e nw th x) fun m255 n255 => (0 ≤ (m255 124 8) ∧ (m255 124 8) < 2) ∧ Q (some (vI (m255 129 (m255 124 8).toNat))) (m255, n255, (GR d e nw th x))) 0 (padL [vR 124] 3) [] (KD, m251, n220, (GR d e nw th x))))) 0 (padL [vR 124] 1) [] (KD, MI, ML, (GR d e nw th x))) :
    wp cs mX12_read KD Q 219 [some (vR 124), some (vI l1), some (vI l2)] [] (KD, MI, ML, (GR d e nw th x)) := by
  refine wp_aload_n dX12_read_219 rfl rfl (by first | exact Or.inl (by decide) | exact Or.inl (by omega) | exact Or.inr (by decide) | exact Or.inr (by omega)) ?_
  refine wp_cVq (n := 0) (mt' := mX12_isGood) (as := []) (rest := []) _ dX12_read_220 lX12_289 kX12_isGood vX12_isGood (by decide) (by decide +kernel) rfl (Nat.le_of_ble_eq_true rfl) (by decide) rfl rfl rfl (Nat.le_of_ble_eq_true rfl) (fun hM hS => h) (fun r M' hq hM => ?_)
  obtain ⟨x220, m220, n220, rfl, rfl, h⟩ := rI_out hq
  refine wp_if_ne (tgt := 231) dX12_read_223 (by decide) (fun h223 => ?_) (fun h223 => ?_)
  · replace h := h.2 h223
    refine wp_aload_n dX12_read_231 rfl rfl (by first | exact Or.inl (by decide) | exact Or.inl (by omega) | exact Or.inr (by decide) | exact Or.inr (by omega)) ?_
    refine wp_aload_n dX12_read_232 rfl rfl (by first | exact Or.inl (by decide) | exact Or.inl (by omega) | exact Or.inr (by decide) | exact Or.inr (by omega)) ?_
    refine wp_getI dX12_read_233 fX12_328 rfl (by decide) ?_
    refine wp_putI dX12_read_236 pX12_482 rfl (by decide) ?_
    refine wp_gI (fun m236 e236 => ?_)
    replace h := h m236 e236
    refine wp_aload_n dX12_read_239 rfl rfl (by first | exact Or.inl (by decide) | exact Or.inl (by omega) | exact Or.inr (by decide) | exact Or.inr (by omega)) ?_
    refine wp_iconst dX12_read_240 (by decide) ?_
    refine wp_putZ dX12_read_241 pX12_498 rfl (by decide) (by decide) ?_
    refine wp_gI (fun m241 e241 => ?_)
    replace h := h m241 e241
    refine wp_pc (pc' := 244) rfl ?_
    refine wp_aload_n dX12_read_244 rfl rfl (by first | exact Or.inl (by decide) | exact Or.inl (by omega) | exact Or.inr (by decide) | exact Or.inr (by omega)) ?_
    refine wp_iconst dX12_read_245 (by decide) ?_
    refine wp_putI dX12_read_246 pX12_501 rfl (by decide) ?_
    refine wp_gI (fun m246 e246 => ?_)
    replace h := h m246 e246
    refine wp_aload_n dX12_read_249 rfl rfl (by first | exact Or.inl (by decide) | exact Or.inl (by omega) | exact Or.inr (by decide) | exact Or.inr (by omega)) ?_
    refine wp_iconst dX12_read_250 (by decide) ?_
    refine wp_putI dX12_read_251 pX12_504 rfl (by decide) ?_
    refine wp_gI (fun m251 e251 => ?_)
    replace h := h m251 e251
    refine wp_aload_n dX12_read_254 rfl rfl (by first | exact Or.inl (by decide) | exact Or.inl (by omega) | exact Or.inr (by decide) | exact Or.inr (by omega)) ?_
    refine wp_cVq (n := 0) (mt' := mX12_judge) (as := []) (rest := []) _ dX12_read_255 lX12_507 kX12_judge vX12_judge (by decide) (by decide +kernel) rfl (Nat.le_of_ble_eq_true rfl) (by decide) rfl rfl rfl (Nat.le_of_ble_eq_true rfl) (fun hM hS => h) (fun r M' hq hM => ?_)
    obtain ⟨m255, n255, rfl, rfl, h⟩ := rV_out hq
    refine wp_aload_n dX12_read_258 rfl rfl (by first | exact Or.inl (by decide) | exact Or.inl (by omega) | exact Or.inr (by decide) | exact Or.inr (by omega)) ?_
    refine wp_getR dX12_read_259 fX12_27 rfl (by decide) ?_
    refine wp_topR (x' := 129) rfl ?_
    refine wp_aload_n dX12_read_262 rfl rfl (by first | exact Or.inl (by decide) | exact Or.inl (by omega) | exact Or.inr (by decide) | exact Or.inr (by omega)) ?_
    refine wp_getI dX12_read_263 fX12_328 rfl (by decide) ?_
    have c0 := h.1
    replace h := h.2
    refine wp_iald dX12_read_266 rfl (by decide) c0 ?_
    exact wp_iret dX12_read_267 rfl (fun _ => h)
  · replace h := h.1 h223
    refine wp_aload_n dX12_read_226 rfl rfl (by first | exact Or.inl (by decide) | exact Or.inl (by omega) | exact Or.inr (by decide) | exact Or.inr (by omega)) ?_
    refine wp_getI dX12_read_227 fX12_246 rfl (by decide) ?_
    exact wp_iret dX12_read_230 rfl (fun _ => h)
theorem dX11_node_0 : decode cX11_node 0 = .ok (.aload_n 0, 1) := by decide +kernel
theorem dX11_node_1 : decode cX11_node 1 = .ok (.getfield 67, 3) := by decide +kernel
theorem dX11_node_4 : decode cX11_node 4 = .ok (.iload_n 1, 1) := by decide +kernel
theorem dX11_node_5 : decode cX11_node 5 = .ok (.invokevirtual 120, 3) := by decide +kernel
theorem dX11_node_8 : decode cX11_node 8 = .ok (.ifCond .eq 15, 3) := by decide +kernel
theorem dX11_node_11 : decode cX11_node 11 = .ok (.aload_n 0, 1) := by decide +kernel
theorem dX11_node_12 : decode cX11_node 12 = .ok (.getfield 67, 3) := by decide +kernel
theorem dX11_node_15 : decode cX11_node 15 = .ok (.iload_n 1, 1) := by decide +kernel
theorem dX11_node_16 : decode cX11_node 16 = .ok (.iload_n 2, 1) := by decide +kernel
theorem dX11_node_17 : decode cX11_node 17 = .ok (.invokevirtual 124, 3) := by decide +kernel
theorem dX11_node_20 : decode cX11_node 20 = .ok (.goto 5, 3) := by decide +kernel
theorem dX11_node_23 : decode cX11_node 23 = .ok (.bipush (-9), 2) := by decide +kernel
theorem dX11_node_25 : decode cX11_node 25 = .ok (.ireturn, 1) := by decide +kernel
theorem v_X11_node_0 {cs : Cs} {Q : Option AV → Mm → Prop} {MI ML : Nat → Nat → Int} {b e nw th x : Nat} {l1 l2 : Int} (hbd : b = 38 ∨ b = 81)
    (h : wp cs mX3_has KD (rI (GR b e nw th x) fun x5 m5 n5 => ((x5 = 0 → Q (some (vI (-9))) (m5, n5, (GR b e nw th x))) ∧ (x5 ≠ 0 → wp cs mX3_about KD (rI (GR b e nw th x) fun x17 m17 n17 => Q (some (vI x17)) (m17, n17, (GR b e nw th x))) 0 (padL [vR b, vI l1, vI l2] 3) [] (KD, m5, n5, (GR b e nw th x))))) 0 (padL [vR b, vI l1] 2) [] (KD, MI, ML, (GR b e nw th x))) :
    wp cs mX11_node KD Q 0 (padL [vR 0, vI l1, vI l2] 3) [] (KD, MI, ML, (GR b e nw th x)) := by
  refine wp_L (L' := [some (vR 0), some (vI l1), some (vI l2)]) rfl ?_
  refine wp_aload_n dX11_node_0 rfl rfl (by first | exact Or.inl (by decide) | exact Or.inl (by omega) | exact Or.inr (by decide) | exact Or.inr (by omega)) ?_
  refine wp_getR dX11_node_1 fX11_67 rfl (by decide) ?_
  refine wp_topR (x' := b) rfl ?_
  refine wp_iload_n dX11_node_4 rfl rfl ?_
  refine wp_cVq (n := 1) (mt' := mX3_has) (as := [vI l1]) (rest := []) _ dX11_node_5 lX11_120 kX3_has vX3_has (by decide) (by decide +kernel) rfl (Nat.le_of_ble_eq_true rfl) (by omega) (show KD[b]? = some (7, 19) from kdb_0 hbd) rfl rfl (Nat.le_of_ble_eq_true rfl) (fun hM hS => h) (fun r M' hq hM => ?_)
  obtain ⟨x5, m5, n5, rfl, rfl, h⟩ := rI_out hq
  refine wp_if_eq (tgt := 23) dX11_node_8 (by decide) (fun h8 => ?_) (fun h8 => ?_)
  · replace h := h.1 h8
    refine wp_bipush dX11_node_23 (by decide +kernel) (by decide) ?_
    exact wp_iret dX11_node_25 rfl (fun _ => h)
  · replace h := h.2 h8
    refine wp_aload_n dX11_node_11 rfl rfl (by first | exact Or.inl (by decide) | exact Or.inl (by omega) | exact Or.inr (by decide) | exact Or.inr (by omega)) ?_
    refine wp_getR dX11_node_12 fX11_67 rfl (by decide) ?_
    refine wp_topR (x' := b) rfl ?_
    refine wp_iload_n dX11_node_15 rfl rfl ?_
    refine wp_iload_n dX11_node_16 rfl rfl ?_
    refine wp_cVq (n := 2) (mt' := mX3_about) (as := [vI l1, vI l2]) (rest := []) _ dX11_node_17 lX11_124 kX3_about vX3_about (by decide) (by decide +kernel) rfl (Nat.le_of_ble_eq_true rfl) (by omega) (show KD[b]? = some (7, 19) from kdb_0 hbd) rfl rfl (Nat.le_of_ble_eq_true rfl) (fun hM hS => h) (fun r M' hq hM => ?_)
    obtain ⟨x17, m17, n17, rfl, rfl, h⟩ := rI_out hq
    refine wp_goto (tgt := 25) dX11_node_20 (by decide) ?_
    exact wp_iret dX11_node_25 rfl (fun _ => h)
theorem dX12_isNode_0 : decode cX12_isNode 0 = .ok (.aload_n 0, 1) := by decide +kernel
theorem dX12_isNode_1 : decode cX12_isNode 1 = .ok (.getfield 498, 3) := by decide +kernel
theorem dX12_isNode_4 : decode cX12_isNode 4 = .ok (.ifCond .eq 28, 3) := by decide +kernel
theorem dX12_isNode_7 : decode cX12_isNode 7 = .ok (.iload_n 1, 1) := by decide +kernel
theorem dX12_isNode_8 : decode cX12_isNode 8 = .ok (.i2l, 1) := by decide +kernel
theorem dX12_isNode_9 : decode cX12_isNode 9 = .ok (.lconst 0, 1) := by decide +kernel
theorem dX12_isNode_10 : decode cX12_isNode 10 = .ok (.aload_n 0, 1) := by decide +kernel
theorem dX12_isNode_11 : decode cX12_isNode 11 = .ok (.getfield 27, 3) := by decide +kernel
theorem dX12_isNode_14 : decode cX12_isNode 14 = .ok (.aload_n 0, 1) := by decide +kernel
theorem dX12_isNode_15 : decode cX12_isNode 15 = .ok (.getfield 482, 3) := by decide +kernel
theorem dX12_isNode_18 : decode cX12_isNode 18 = .ok (.iaload, 1) := by decide +kernel
theorem dX12_isNode_19 : decode cX12_isNode 19 = .ok (.iconst 1, 1) := by decide +kernel
theorem dX12_isNode_20 : decode cX12_isNode 20 = .ok (.isub, 1) := by decide +kernel
theorem dX12_isNode_21 : decode cX12_isNode 21 = .ok (.i2l, 1) := by decide +kernel
theorem dX12_isNode_22 : decode cX12_isNode 22 = .ok (.invokestatic 256, 3) := by decide +kernel
theorem dX12_isNode_25 : decode cX12_isNode 25 = .ok (.ifCond .eq 7, 3) := by decide +kernel
theorem dX12_isNode_28 : decode cX12_isNode 28 = .ok (.iconst 1, 1) := by decide +kernel
theorem dX12_isNode_29 : decode cX12_isNode 29 = .ok (.goto 4, 3) := by decide +kernel
theorem dX12_isNode_32 : decode cX12_isNode 32 = .ok (.iconst 0, 1) := by decide +kernel
theorem dX12_isNode_33 : decode cX12_isNode 33 = .ok (.ireturn, 1) := by decide +kernel
theorem v_X12_isNode_0 {cs : Cs} {Q : Option AV → Mm → Prop} {MI ML : Nat → Nat → Int} {d e nw th x : Nat} {l1 : Int}
    (h : (((MI 124 9) = 0 → Q (some (vI 0)) (MI, ML, (GR d e nw th x))) ∧ ((MI 124 9) ≠ 0 → (0 ≤ (MI 124 7) ∧ (MI 124 7) < 2) ∧ (-2147483648 ≤ (MI 129 (MI 124 7).toNat) - 1 ∧ (MI 129 (MI 124 7).toNat) - 1 < 2147483648) ∧ wp cs mX12_in KD (rI (GR d e nw th x) fun x22 m22 n22 => ((x22 = 0 → Q (some (vI 0)) (m22, n22, (GR d e nw th x))) ∧ (x22 ≠ 0 → Q (some (vI 1)) (m22, n22, (GR d e nw th x))))) 0 (padL [vL l1, vL 0, vL ((MI 129 (MI 124 7).toNat) - 1)] 6) [] (KD, MI, ML, (GR d e nw th x))))) :
    wp cs mX12_isNode KD Q 0 (padL [vR 124, vI l1] 2) [] (KD, MI, ML, (GR d e nw th x)) := by
  refine wp_L (L' := [some (vR 124), some (vI l1)]) rfl ?_
  refine wp_aload_n dX12_isNode_0 rfl rfl (by first | exact Or.inl (by decide) | exact Or.inl (by omega) | exact Or.inr (by decide) | exact Or.inr (by omega)) ?_
  refine wp_getI dX12_isNode_1 fX12_498 rfl (by decide) ?_
  refine wp_if_eq (tgt := 32) dX12_isNode_4 (by decide) (fun h4 => ?_) (fun h4 => ?_)
  · replace h := h.1 h4
    refine wp_iconst dX12_isNode_32 (by decide) ?_
    exact wp_zret dX12_isNode_33 rfl (by decide) (fun _ => h)
  · replace h := h.2 h4
    refine wp_iload_n dX12_isNode_7 rfl rfl ?_
    refine wp_i2l dX12_isNode_8 ?_
    refine wp_lconst (z := 0) dX12_isNode_9 (by decide +kernel) (by decide) ?_
    refine wp_aload_n dX12_isNode_10 rfl rfl (by first | exact Or.inl (by decide) | exact Or.inl (by omega) | exact Or.inr (by decide) | exact Or.inr (by omega)) ?_
    refine wp_getR dX12_isNode_11 fX12_27 rfl (by decide) ?_
    refine wp_topR (x' := 129) rfl ?_
    refine wp_aload_n dX12_isNode_14 rfl rfl (by first | exact Or.inl (by decide) | exact Or.inl (by omega) | exact Or.inr (by decide) | exact Or.inr (by omega)) ?_
    refine wp_getI dX12_isNode_15 fX12_482 rfl (by decide) ?_
    refine wp_pc (pc' := 18) rfl ?_
    have c0 := h.1
    replace h := h.2
    refine wp_iald dX12_isNode_18 rfl (by decide) c0 ?_
    refine wp_iconst dX12_isNode_19 (by decide) ?_
    have c1 := h.1
    replace h := h.2
    refine wp_isubr dX12_isNode_20 c1 ?_
    refine wp_i2l dX12_isNode_21 ?_
    refine wp_cSq (n := 3) (mt' := mX12_in) (as := [vL l1, vL 0, vL ((MI 129 (MI 124 7).toNat) - 1)]) (rest := []) _ dX12_isNode_22 lX12_256 kX12_in vX12_in (by decide) (by decide +kernel) rfl (Nat.le_of_ble_eq_true rfl) rfl (Nat.le_of_ble_eq_true rfl) (fun hM hS => h) (fun r M' hq hM => ?_)
    obtain ⟨x22, m22, n22, rfl, rfl, h⟩ := rI_out hq
    refine wp_if_eq (tgt := 32) dX12_isNode_25 (by decide) (fun h25 => ?_) (fun h25 => ?_)
    · replace h := h.1 h25
      refine wp_iconst dX12_isNode_32 (by decide) ?_
      exact wp_zret dX12_isNode_33 rfl (by decide) (fun _ => h)
    · replace h := h.2 h25
      refine wp_iconst dX12_isNode_28 (by decide) ?_
      refine wp_goto (tgt := 33) dX12_isNode_29 (by decide) ?_
      exact wp_zret dX12_isNode_33 rfl (by decide) (fun _ => h)
theorem dX12_isWithin_0 : decode cX12_isWithin 0 = .ok (.iconst 0, 1) := by decide +kernel
theorem dX12_isWithin_1 : decode cX12_isWithin 1 = .ok (.istore_n 3, 1) := by decide +kernel
theorem dX12_isWithin_2 : decode cX12_isWithin 2 = .ok (.iload_n 1, 1) := by decide +kernel
theorem dX12_isWithin_3 : decode cX12_isWithin 3 = .ok (.istore 4, 2) := by decide +kernel
theorem dX12_isWithin_5 : decode cX12_isWithin 5 = .ok (.iload 4, 2) := by decide +kernel
theorem dX12_isWithin_7 : decode cX12_isWithin 7 = .ok (.ifCond .lt 40, 3) := by decide +kernel
theorem dX12_isWithin_10 : decode cX12_isWithin 10 = .ok (.iload_n 3, 1) := by decide +kernel
theorem dX12_isWithin_11 : decode cX12_isWithin 11 = .ok (.ifCond .ne 9, 3) := by decide +kernel
theorem dX12_isWithin_14 : decode cX12_isWithin 14 = .ok (.iload 4, 2) := by decide +kernel
theorem dX12_isWithin_16 : decode cX12_isWithin 16 = .ok (.iload_n 2, 1) := by decide +kernel
theorem dX12_isWithin_17 : decode cX12_isWithin 17 = .ok (.if_icmp .ne 7, 3) := by decide +kernel
theorem dX12_isWithin_20 : decode cX12_isWithin 20 = .ok (.iconst 1, 1) := by decide +kernel
theorem dX12_isWithin_21 : decode cX12_isWithin 21 = .ok (.goto 4, 3) := by decide +kernel
theorem dX12_isWithin_24 : decode cX12_isWithin 24 = .ok (.iconst 0, 1) := by decide +kernel
theorem dX12_isWithin_25 : decode cX12_isWithin 25 = .ok (.istore_n 3, 1) := by decide +kernel
theorem dX12_isWithin_26 : decode cX12_isWithin 26 = .ok (.aload_n 0, 1) := by decide +kernel
theorem dX12_isWithin_27 : decode cX12_isWithin 27 = .ok (.getfield 34, 3) := by decide +kernel
theorem dX12_isWithin_30 : decode cX12_isWithin 30 = .ok (.sipush 600, 3) := by decide +kernel
theorem dX12_isWithin_33 : decode cX12_isWithin 33 = .ok (.aload_n 0, 1) := by decide +kernel
theorem dX12_isWithin_34 : decode cX12_isWithin 34 = .ok (.getfield 482, 3) := by decide +kernel
theorem dX12_isWithin_37 : decode cX12_isWithin 37 = .ok (.imul, 1) := by decide +kernel
theorem dX12_isWithin_38 : decode cX12_isWithin 38 = .ok (.iload 4, 2) := by decide +kernel
theorem dX12_isWithin_40 : decode cX12_isWithin 40 = .ok (.iadd, 1) := by decide +kernel
theorem dX12_isWithin_41 : decode cX12_isWithin 41 = .ok (.iaload, 1) := by decide +kernel
theorem dX12_isWithin_42 : decode cX12_isWithin 42 = .ok (.istore 4, 2) := by decide +kernel
theorem dX12_isWithin_44 : decode cX12_isWithin 44 = .ok (.goto (-39), 3) := by decide +kernel
theorem dX12_isWithin_47 : decode cX12_isWithin 47 = .ok (.iload_n 3, 1) := by decide +kernel
theorem dX12_isWithin_48 : decode cX12_isWithin 48 = .ok (.ireturn, 1) := by decide +kernel
theorem v_X12_isWithin_0 {cs : Cs} {Q : Option AV → Mm → Prop} {MI ML : Nat → Nat → Int} {d e nw th x : Nat} {l1 l2 : Int}
    (h : wp cs mX12_isWithin KD Q 5 [some (vR 124), some (vI l1), some (vI l2), some (vI 0), some (vI l1)] [] (KD, MI, ML, (GR d e nw th x))) :
    wp cs mX12_isWithin KD Q 0 (padL [vR 124, vI l1, vI l2] 5) [] (KD, MI, ML, (GR d e nw th x)) := by
  refine wp_L (L' := [some (vR 124), some (vI l1), some (vI l2), none, none]) rfl ?_
  refine wp_iconst dX12_isWithin_0 (by decide) ?_
  refine wp_istore_n dX12_isWithin_1 rfl (by decide) (wp_L (L' := [some (vR 124), some (vI l1), some (vI l2), some (vI 0), none]) rfl ?_)
  refine wp_iload_n dX12_isWithin_2 rfl rfl ?_
  refine wp_istore dX12_isWithin_3 (by decide) (wp_L (L' := [some (vR 124), some (vI l1), some (vI l2), some (vI 0), some (vI l1)]) rfl ?_)
  exact h
theorem v_X12_isWithin_5 {cs : Cs} {Q : Option AV → Mm → Prop} {MI ML : Nat → Nat → Int} {d e nw th x : Nat} {l1 l2 l3 l4 : Int}
    (h : ((l4 < 0 → (l3 = 0 ∨ l3 = 1) ∧ Q (some (vI l3)) (MI, ML, (GR d e nw th x))) ∧ (0 ≤ l4 → ((l3 = 0 → ((l4 = l2 → wp cs mX12_isWithin KD Q 25 [some (vR 124), some (vI l1), some (vI l2), some (vI l3), some (vI l4)] [vI 1] (KD, MI, ML, (GR d e nw th x))) ∧ (l4 ≠ l2 → wp cs mX12_isWithin KD Q 25 [some (vR 124), some (vI l1), some (vI l2), some (vI l3), some (vI l4)] [vI 0] (KD, MI, ML, (GR d e nw th x))))) ∧ (l3 ≠ 0 → wp cs mX12_isWithin KD Q 25 [some (vR 124), some (vI l1), some (vI l2), some (vI l3), some (vI l4)] [vI 1] (KD, MI, ML, (GR d e nw th x))))))) :
    wp cs mX12_isWithin KD Q 5 [some (vR 124), some (vI l1), some (vI l2), some (vI l3), some (vI l4)] [] (KD, MI, ML, (GR d e nw th x)) := by
  refine wp_iload dX12_isWithin_5 rfl ?_
  refine wp_if_lt (tgt := 47) dX12_isWithin_7 (by decide) (fun h7 => ?_) (fun h7 => ?_)
  · replace h := h.1 h7
    refine wp_iload_n dX12_isWithin_47 rfl rfl ?_
    exact wp_zret dX12_isWithin_48 rfl h.1 (fun _ => h.2)
  · replace h := h.2 h7
    refine wp_iload_n dX12_isWithin_10 rfl rfl ?_
    refine wp_if_ne (tgt := 20) dX12_isWithin_11 (by decide) (fun h11 => ?_) (fun h11 => ?_)
    · replace h := h.2 h11
      refine wp_iconst dX12_isWithin_20 (by decide) ?_
      refine wp_goto (tgt := 25) dX12_isWithin_21 (by decide) ?_
      exact h
    · replace h := h.1 h11
      refine wp_iload dX12_isWithin_14 rfl ?_
      refine wp_iload_n dX12_isWithin_16 rfl rfl ?_
      refine wp_icmp_ne (tgt := 24) dX12_isWithin_17 (by decide) (fun h17 => ?_) (fun h17 => ?_)
      · replace h := h.2 h17
        refine wp_iconst dX12_isWithin_24 (by decide) ?_
        exact h
      · replace h := h.1 h17
        refine wp_iconst dX12_isWithin_20 (by decide) ?_
        refine wp_goto (tgt := 25) dX12_isWithin_21 (by decide) ?_
        exact h
theorem v_X12_isWithin_25 {cs : Cs} {Q : Option AV → Mm → Prop} {MI ML : Nat → Nat → Int} {d e nw th x : Nat} {l1 l2 l3 l4 s0 : Int}
    (h : (-2147483648 ≤ 600 * (MI 124 7) ∧ 600 * (MI 124 7) < 2147483648) ∧ (-2147483648 ≤ (600 * (MI 124 7)) + l4 ∧ (600 * (MI 124 7)) + l4 < 2147483648) ∧ (0 ≤ ((600 * (MI 124 7)) + l4) ∧ ((600 * (MI 124 7)) + l4) < 1200) ∧ wp cs mX12_isWithin KD Q 5 [some (vR 124), some (vI l1), some (vI l2), some (vI s0), some (vI (MI 131 ((600 * (MI 124 7)) + l4).toNat))] [] (KD, MI, ML, (GR d e nw th x))) :
    wp cs mX12_isWithin KD Q 25 [some (vR 124), some (vI l1), some (vI l2), some (vI l3), some (vI l4)] [vI s0] (KD, MI, ML, (GR d e nw th x)) := by
  refine wp_istore_n dX12_isWithin_25 rfl (by decide) (wp_L (L' := [some (vR 124), some (vI l1), some (vI l2), some (vI s0), some (vI l4)]) rfl ?_)
  refine wp_aload_n dX12_isWithin_26 rfl rfl (by first | exact Or.inl (by decide) | exact Or.inl (by omega) | exact Or.inr (by decide) | exact Or.inr (by omega)) ?_
  refine wp_getR dX12_isWithin_27 fX12_34 rfl (by decide) ?_
  refine wp_topR (x' := 131) rfl ?_
  refine wp_sipush dX12_isWithin_30 (by decide +kernel) (by decide) ?_
  refine wp_aload_n dX12_isWithin_33 rfl rfl (by first | exact Or.inl (by decide) | exact Or.inl (by omega) | exact Or.inr (by decide) | exact Or.inr (by omega)) ?_
  refine wp_getI dX12_isWithin_34 fX12_482 rfl (by decide) ?_
  have c0 := h.1
  replace h := h.2
  refine wp_imulr dX12_isWithin_37 c0 ?_
  refine wp_pc (pc' := 38) rfl ?_
  refine wp_iload dX12_isWithin_38 rfl ?_
  have c1 := h.1
  replace h := h.2
  refine wp_iaddr dX12_isWithin_40 c1 ?_
  have c2 := h.1
  replace h := h.2
  refine wp_iald dX12_isWithin_41 rfl (by decide) c2 ?_
  refine wp_istore dX12_isWithin_42 (by decide) (wp_L (L' := [some (vR 124), some (vI l1), some (vI l2), some (vI s0), some (vI (MI 131 ((600 * (MI 124 7)) + l4).toNat))]) rfl ?_)
  refine wp_goto (tgt := 5) dX12_isWithin_44 (by decide) ?_
  exact h
theorem dX12_stringOf_0 : decode cX12_stringOf 0 = .ok (.iconst 0, 1) := by decide +kernel
theorem dX12_stringOf_1 : decode cX12_stringOf 1 = .ok (.istore_n 2, 1) := by decide +kernel
theorem dX12_stringOf_2 : decode cX12_stringOf 2 = .ok (.iload_n 1, 1) := by decide +kernel
theorem dX12_stringOf_3 : decode cX12_stringOf 3 = .ok (.istore_n 3, 1) := by decide +kernel
theorem dX12_stringOf_4 : decode cX12_stringOf 4 = .ok (.iload_n 3, 1) := by decide +kernel
theorem dX12_stringOf_5 : decode cX12_stringOf 5 = .ok (.aload_n 0, 1) := by decide +kernel
theorem dX12_stringOf_6 : decode cX12_stringOf 6 = .ok (.getfield 27, 3) := by decide +kernel
theorem dX12_stringOf_9 : decode cX12_stringOf 9 = .ok (.aload_n 0, 1) := by decide +kernel
theorem dX12_stringOf_10 : decode cX12_stringOf 10 = .ok (.getfield 482, 3) := by decide +kernel
theorem dX12_stringOf_13 : decode cX12_stringOf 13 = .ok (.iaload, 1) := by decide +kernel
theorem dX12_stringOf_14 : decode cX12_stringOf 14 = .ok (.if_icmp .ge 90, 3) := by decide +kernel
theorem dX12_stringOf_17 : decode cX12_stringOf 17 = .ok (.sipush 600, 3) := by decide +kernel
theorem dX12_stringOf_20 : decode cX12_stringOf 20 = .ok (.aload_n 0, 1) := by decide +kernel
theorem dX12_stringOf_21 : decode cX12_stringOf 21 = .ok (.getfield 482, 3) := by decide +kernel
theorem dX12_stringOf_24 : decode cX12_stringOf 24 = .ok (.imul, 1) := by decide +kernel
theorem dX12_stringOf_25 : decode cX12_stringOf 25 = .ok (.iload_n 3, 1) := by decide +kernel
theorem dX12_stringOf_26 : decode cX12_stringOf 26 = .ok (.iadd, 1) := by decide +kernel
theorem dX12_stringOf_27 : decode cX12_stringOf 27 = .ok (.istore 4, 2) := by decide +kernel
theorem dX12_stringOf_29 : decode cX12_stringOf 29 = .ok (.iload_n 2, 1) := by decide +kernel
theorem dX12_stringOf_30 : decode cX12_stringOf 30 = .ok (.iload_n 3, 1) := by decide +kernel
theorem dX12_stringOf_31 : decode cX12_stringOf 31 = .ok (.iload_n 1, 1) := by decide +kernel
theorem dX12_stringOf_32 : decode cX12_stringOf 32 = .ok (.if_icmp .ne 14, 3) := by decide +kernel
theorem dX12_stringOf_35 : decode cX12_stringOf 35 = .ok (.aload_n 0, 1) := by decide +kernel
theorem dX12_stringOf_36 : decode cX12_stringOf 36 = .ok (.getfield 31, 3) := by decide +kernel
theorem dX12_stringOf_39 : decode cX12_stringOf 39 = .ok (.iload 4, 2) := by decide +kernel
theorem dX12_stringOf_41 : decode cX12_stringOf 41 = .ok (.iaload, 1) := by decide +kernel
theorem dX12_stringOf_42 : decode cX12_stringOf 42 = .ok (.iconst 2, 1) := by decide +kernel
theorem dX12_stringOf_43 : decode cX12_stringOf 43 = .ok (.if_icmp .ge 42, 3) := by decide +kernel
theorem dX12_stringOf_46 : decode cX12_stringOf 46 = .ok (.aload_n 0, 1) := by decide +kernel
theorem dX12_stringOf_47 : decode cX12_stringOf 47 = .ok (.getfield 31, 3) := by decide +kernel
theorem dX12_stringOf_50 : decode cX12_stringOf 50 = .ok (.iload 4, 2) := by decide +kernel
theorem dX12_stringOf_52 : decode cX12_stringOf 52 = .ok (.iaload, 1) := by decide +kernel
theorem dX12_stringOf_53 : decode cX12_stringOf 53 = .ok (.iconst 3, 1) := by decide +kernel
theorem dX12_stringOf_54 : decode cX12_stringOf 54 = .ok (.if_icmp .ne 41, 3) := by decide +kernel
theorem dX12_stringOf_57 : decode cX12_stringOf 57 = .ok (.aload_n 0, 1) := by decide +kernel
theorem dX12_stringOf_58 : decode cX12_stringOf 58 = .ok (.getfield 31, 3) := by decide +kernel
theorem dX12_stringOf_61 : decode cX12_stringOf 61 = .ok (.sipush 600, 3) := by decide +kernel
theorem dX12_stringOf_64 : decode cX12_stringOf 64 = .ok (.aload_n 0, 1) := by decide +kernel
theorem dX12_stringOf_65 : decode cX12_stringOf 65 = .ok (.getfield 482, 3) := by decide +kernel
theorem dX12_stringOf_68 : decode cX12_stringOf 68 = .ok (.imul, 1) := by decide +kernel
theorem dX12_stringOf_69 : decode cX12_stringOf 69 = .ok (.iload_n 1, 1) := by decide +kernel
theorem dX12_stringOf_70 : decode cX12_stringOf 70 = .ok (.iadd, 1) := by decide +kernel
theorem dX12_stringOf_71 : decode cX12_stringOf 71 = .ok (.iaload, 1) := by decide +kernel
theorem dX12_stringOf_72 : decode cX12_stringOf 72 = .ok (.iconst 2, 1) := by decide +kernel
theorem dX12_stringOf_73 : decode cX12_stringOf 73 = .ok (.if_icmp .ge 22, 3) := by decide +kernel
theorem dX12_stringOf_76 : decode cX12_stringOf 76 = .ok (.aload_n 0, 1) := by decide +kernel
theorem dX12_stringOf_77 : decode cX12_stringOf 77 = .ok (.iload_n 3, 1) := by decide +kernel
theorem dX12_stringOf_78 : decode cX12_stringOf 78 = .ok (.iload_n 1, 1) := by decide +kernel
theorem dX12_stringOf_79 : decode cX12_stringOf 79 = .ok (.invokevirtual 603, 3) := by decide +kernel
theorem dX12_stringOf_82 : decode cX12_stringOf 82 = .ok (.ifCond .eq 13, 3) := by decide +kernel
theorem dX12_stringOf_85 : decode cX12_stringOf 85 = .ok (.aload_n 0, 1) := by decide +kernel
theorem dX12_stringOf_86 : decode cX12_stringOf 86 = .ok (.getfield 46, 3) := by decide +kernel
theorem dX12_stringOf_89 : decode cX12_stringOf 89 = .ok (.iload 4, 2) := by decide +kernel
theorem dX12_stringOf_91 : decode cX12_stringOf 91 = .ok (.iaload, 1) := by decide +kernel
theorem dX12_stringOf_92 : decode cX12_stringOf 92 = .ok (.goto 4, 3) := by decide +kernel
theorem dX12_stringOf_95 : decode cX12_stringOf 95 = .ok (.iconst 0, 1) := by decide +kernel
theorem dX12_stringOf_96 : decode cX12_stringOf 96 = .ok (.iadd, 1) := by decide +kernel
theorem dX12_stringOf_97 : decode cX12_stringOf 97 = .ok (.istore_n 2, 1) := by decide +kernel
theorem dX12_stringOf_98 : decode cX12_stringOf 98 = .ok (.iinc 3 1, 3) := by decide +kernel
theorem dX12_stringOf_101 : decode cX12_stringOf 101 = .ok (.goto (-97), 3) := by decide +kernel
theorem dX12_stringOf_104 : decode cX12_stringOf 104 = .ok (.iload_n 2, 1) := by decide +kernel
theorem dX12_stringOf_105 : decode cX12_stringOf 105 = .ok (.ireturn, 1) := by decide +kernel
theorem v_X12_stringOf_0 {cs : Cs} {Q : Option AV → Mm → Prop} {MI ML : Nat → Nat → Int} {d e nw th x : Nat} {l1 : Int}
    (h : wp cs mX12_stringOf KD Q 4 [some (vR 124), some (vI l1), some (vI 0), some (vI l1), none] [] (KD, MI, ML, (GR d e nw th x))) :
    wp cs mX12_stringOf KD Q 0 (padL [vR 124, vI l1] 5) [] (KD, MI, ML, (GR d e nw th x)) := by
  refine wp_L (L' := [some (vR 124), some (vI l1), none, none, none]) rfl ?_
  refine wp_iconst dX12_stringOf_0 (by decide) ?_
  refine wp_istore_n dX12_stringOf_1 rfl (by decide) (wp_L (L' := [some (vR 124), some (vI l1), some (vI 0), none, none]) rfl ?_)
  refine wp_iload_n dX12_stringOf_2 rfl rfl ?_
  refine wp_istore_n dX12_stringOf_3 rfl (by decide) (wp_L (L' := [some (vR 124), some (vI l1), some (vI 0), some (vI l1), none]) rfl ?_)
  exact h
theorem v_X12_stringOf_4 {cs : Cs} {Q : Option AV → Mm → Prop} {MI ML : Nat → Nat → Int} {d e nw th x : Nat} {l1 l2 l3 : Int}
    (h : (0 ≤ (MI 124 7) ∧ (MI 124 7) < 2) ∧ ((l3 < (MI 129 (MI 124 7).toNat) → (-2147483648 ≤ 600 * (MI 124 7) ∧ 600 * (MI 124 7) < 2147483648) ∧ (-2147483648 ≤ (600 * (MI 124 7)) + l3 ∧ (600 * (MI 124 7)) + l3 < 2147483648) ∧ ((l3 = l1 → (0 ≤ ((600 * (MI 124 7)) + l3) ∧ ((600 * (MI 124 7)) + l3) < 1200) ∧ (((MI 130 ((600 * (MI 124 7)) + l3).toNat) < 2 → wp cs mX12_stringOf KD Q 46 [some (vR 124), some (vI l1), some (vI l2), some (vI l3), some (vI ((600 * (MI 124 7)) + l3))] [vI l2] (KD, MI, ML, (GR d e nw th x))) ∧ (2 ≤ (MI 130 ((600 * (MI 124 7)) + l3).toNat) → wp cs mX12_stringOf KD Q 96 [some (vR 124), some (vI l1), some (vI l2), some (vI l3), some (vI ((600 * (MI 124 7)) + l3))] [vI (MI 135 ((600 * (MI 124 7)) + l3).toNat), vI l2] (KD, MI, ML, (GR d e nw th x))))) ∧ (l3 ≠ l1 → wp cs mX12_stringOf KD Q 46 [some (vR 124), some (vI l1), some (vI l2), some (vI l3), some (vI ((600 * (MI 124 7)) + l3))] [vI l2] (KD, MI, ML, (GR d e nw th x))))) ∧ ((MI 129 (MI 124 7).toNat) ≤ l3 → Q (some (vI l2)) (MI, ML, (GR d e nw th x))))) :
    wp cs mX12_stringOf KD Q 4 [some (vR 124), some (vI l1), some (vI l2), some (vI l3), none] [] (KD, MI, ML, (GR d e nw th x)) := by
  refine wp_iload_n dX12_stringOf_4 rfl rfl ?_
  refine wp_aload_n dX12_stringOf_5 rfl rfl (by first | exact Or.inl (by decide) | exact Or.inl (by omega) | exact Or.inr (by decide) | exact Or.inr (by omega)) ?_
  refine wp_getR dX12_stringOf_6 fX12_27 rfl (by decide) ?_
  refine wp_topR (x' := 129) rfl ?_
  refine wp_aload_n dX12_stringOf_9 rfl rfl (by first | exact Or.inl (by decide) | exact Or.inl (by omega) | exact Or.inr (by decide) | exact Or.inr (by omega)) ?_
  refine wp_getI dX12_stringOf_10 fX12_482 rfl (by decide) ?_
  have c0 := h.1
  replace h := h.2
  refine wp_iald dX12_stringOf_13 rfl (by decide) c0 ?_
  refine wp_icmp_ge (tgt := 104) dX12_stringOf_14 (by decide) (fun h14 => ?_) (fun h14 => ?_)
  · replace h := h.2 h14
    refine wp_iload_n dX12_stringOf_104 rfl rfl ?_
    exact wp_iret dX12_stringOf_105 rfl (fun _ => h)
  · replace h := h.1 h14
    refine wp_sipush dX12_stringOf_17 (by decide +kernel) (by decide) ?_
    refine wp_aload_n dX12_stringOf_20 rfl rfl (by first | exact Or.inl (by decide) | exact Or.inl (by omega) | exact Or.inr (by decide) | exact Or.inr (by omega)) ?_
    refine wp_getI dX12_stringOf_21 fX12_482 rfl (by decide) ?_
    have c1 := h.1
    replace h := h.2
    refine wp_imulr dX12_stringOf_24 c1 ?_
    refine wp_iload_n dX12_stringOf_25 rfl rfl ?_
    have c2 := h.1
    replace h := h.2
    refine wp_iaddr dX12_stringOf_26 c2 ?_
    refine wp_istore dX12_stringOf_27 (by decide) (wp_L (L' := [some (vR 124), some (vI l1), some (vI l2), some (vI l3), some (vI ((600 * (MI 124 7)) + l3))]) rfl ?_)
    refine wp_pc (pc' := 29) rfl ?_
    refine wp_iload_n dX12_stringOf_29 rfl rfl ?_
    refine wp_iload_n dX12_stringOf_30 rfl rfl ?_
    refine wp_iload_n dX12_stringOf_31 rfl rfl ?_
    refine wp_icmp_ne (tgt := 46) dX12_stringOf_32 (by decide) (fun h32 => ?_) (fun h32 => ?_)
    · replace h := h.2 h32
      exact h
    · replace h := h.1 h32
      refine wp_aload_n dX12_stringOf_35 rfl rfl (by first | exact Or.inl (by decide) | exact Or.inl (by omega) | exact Or.inr (by decide) | exact Or.inr (by omega)) ?_
      refine wp_getR dX12_stringOf_36 fX12_31 rfl (by decide) ?_
      refine wp_topR (x' := 130) rfl ?_
      refine wp_iload dX12_stringOf_39 rfl ?_
      have c3 := h.1
      replace h := h.2
      refine wp_iald dX12_stringOf_41 rfl (by decide) c3 ?_
      refine wp_iconst dX12_stringOf_42 (by decide) ?_
      refine wp_icmp_ge (tgt := 85) dX12_stringOf_43 (by decide) (fun h43 => ?_) (fun h43 => ?_)
      · replace h := h.2 h43
        refine wp_aload_n dX12_stringOf_85 rfl rfl (by first | exact Or.inl (by decide) | exact Or.inl (by omega) | exact Or.inr (by decide) | exact Or.inr (by omega)) ?_
        refine wp_getR dX12_stringOf_86 fX12_46 rfl (by decide) ?_
        refine wp_topR (x' := 135) rfl ?_
        refine wp_iload dX12_stringOf_89 rfl ?_
        refine wp_iald dX12_stringOf_91 rfl (by decide) c3 ?_
        refine wp_goto (tgt := 96) dX12_stringOf_92 (by decide) ?_
        exact h
      · replace h := h.1 h43
        exact h
theorem v_X12_stringOf_46 {cs : Cs} {Q : Option AV → Mm → Prop} {MI ML : Nat → Nat → Int} {d e nw th x : Nat} {l1 l2 l3 l4 s0 : Int}
    (h : (0 ≤ l4 ∧ l4 < 1200) ∧ (((MI 130 l4.toNat) = 3 → (-2147483648 ≤ 600 * (MI 124 7) ∧ 600 * (MI 124 7) < 2147483648) ∧ (-2147483648 ≤ (600 * (MI 124 7)) + l1 ∧ (600 * (MI 124 7)) + l1 < 2147483648) ∧ (0 ≤ ((600 * (MI 124 7)) + l1) ∧ ((600 * (MI 124 7)) + l1) < 1200) ∧ (((MI 130 ((600 * (MI 124 7)) + l1).toNat) < 2 → wp cs mX12_isWithin KD (rI (GR d e nw th x) fun x79 m79 n79 => ((x79 = 0 → wp cs mX12_stringOf KD Q 96 [some (vR 124), some (vI l1), some (vI l2), some (vI l3), some (vI l4)] [vI 0, vI s0] (KD, m79, n79, (GR d e nw th x))) ∧ (x79 ≠ 0 → wp cs mX12_stringOf KD Q 96 [some (vR 124), some (vI l1), some (vI l2), some (vI l3), some (vI l4)] [vI (m79 135 l4.toNat), vI s0] (KD, m79, n79, (GR d e nw th x))))) 0 (padL [vR 124, vI l3, vI l1] 5) [] (KD, MI, ML, (GR d e nw th x))) ∧ (2 ≤ (MI 130 ((600 * (MI 124 7)) + l1).toNat) → wp cs mX12_stringOf KD Q 96 [some (vR 124), some (vI l1), some (vI l2), some (vI l3), some (vI l4)] [vI 0, vI s0] (KD, MI, ML, (GR d e nw th x))))) ∧ ((MI 130 l4.toNat) ≠ 3 → wp cs mX12_stringOf KD Q 96 [some (vR 124), some (vI l1), some (vI l2), some (vI l3), some (vI l4)] [vI 0, vI s0] (KD, MI, ML, (GR d e nw th x))))) :
    wp cs mX12_stringOf KD Q 46 [some (vR 124), some (vI l1), some (vI l2), some (vI l3), some (vI l4)] [vI s0] (KD, MI, ML, (GR d e nw th x)) := by
  refine wp_aload_n dX12_stringOf_46 rfl rfl (by first | exact Or.inl (by decide) | exact Or.inl (by omega) | exact Or.inr (by decide) | exact Or.inr (by omega)) ?_
  refine wp_getR dX12_stringOf_47 fX12_31 rfl (by decide) ?_
  refine wp_topR (x' := 130) rfl ?_
  refine wp_iload dX12_stringOf_50 rfl ?_
  have c0 := h.1
  replace h := h.2
  refine wp_iald dX12_stringOf_52 rfl (by decide) c0 ?_
  refine wp_iconst dX12_stringOf_53 (by decide) ?_
  refine wp_icmp_ne (tgt := 95) dX12_stringOf_54 (by decide) (fun h54 => ?_) (fun h54 => ?_)
  · replace h := h.2 h54
    refine wp_iconst dX12_stringOf_95 (by decide) ?_
    exact h
  · replace h := h.1 h54
    refine wp_aload_n dX12_stringOf_57 rfl rfl (by first | exact Or.inl (by decide) | exact Or.inl (by omega) | exact Or.inr (by decide) | exact Or.inr (by omega)) ?_
    refine wp_getR dX12_stringOf_58 fX12_31 rfl (by decide) ?_
    refine wp_topR (x' := 130) rfl ?_
    refine wp_sipush dX12_stringOf_61 (by decide +kernel) (by decide) ?_
    refine wp_aload_n dX12_stringOf_64 rfl rfl (by first | exact Or.inl (by decide) | exact Or.inl (by omega) | exact Or.inr (by decide) | exact Or.inr (by omega)) ?_
    refine wp_getI dX12_stringOf_65 fX12_482 rfl (by decide) ?_
    have c1 := h.1
    replace h := h.2
    refine wp_imulr dX12_stringOf_68 c1 ?_
    refine wp_iload_n dX12_stringOf_69 rfl rfl ?_
    refine wp_pc (pc' := 70) rfl ?_
    have c2 := h.1
    replace h := h.2
    refine wp_iaddr dX12_stringOf_70 c2 ?_
    have c3 := h.1
    replace h := h.2
    refine wp_iald dX12_stringOf_71 rfl (by decide) c3 ?_
    refine wp_iconst dX12_stringOf_72 (by decide) ?_
    refine wp_icmp_ge (tgt := 95) dX12_stringOf_73 (by decide) (fun h73 => ?_) (fun h73 => ?_)
    · replace h := h.2 h73
      refine wp_iconst dX12_stringOf_95 (by decide) ?_
      exact h
    · replace h := h.1 h73
      refine wp_aload_n dX12_stringOf_76 rfl rfl (by first | exact Or.inl (by decide) | exact Or.inl (by omega) | exact Or.inr (by decide) | exact Or.inr (by omega)) ?_
      refine wp_iload_n dX12_stringOf_77 rfl rfl ?_
      refine wp_iload_n dX12_stringOf_78 rfl rfl ?_
      refine wp_cVq (n := 2) (mt' := mX12_isWithin) (as := [vI l3, vI l1]) (rest := [vI s0]) _ dX12_stringOf_79 lX12_603 kX12_isWithin vX12_isWithin (by decide) (by decide +kernel) rfl (Nat.le_of_ble_eq_true rfl) (by decide) rfl rfl rfl (Nat.le_of_ble_eq_true rfl) (fun hM hS => h) (fun r M' hq hM => ?_)
      obtain ⟨x79, m79, n79, rfl, rfl, h⟩ := rI_out hq
      refine wp_if_eq (tgt := 95) dX12_stringOf_82 (by decide) (fun h82 => ?_) (fun h82 => ?_)
      · replace h := h.1 h82
        refine wp_iconst dX12_stringOf_95 (by decide) ?_
        exact h
      · replace h := h.2 h82
        refine wp_aload_n dX12_stringOf_85 rfl rfl (by first | exact Or.inl (by decide) | exact Or.inl (by omega) | exact Or.inr (by decide) | exact Or.inr (by omega)) ?_
        refine wp_getR dX12_stringOf_86 fX12_46 rfl (by decide) ?_
        refine wp_topR (x' := 135) rfl ?_
        refine wp_iload dX12_stringOf_89 rfl ?_
        refine wp_iald dX12_stringOf_91 rfl (by decide) c0 ?_
        refine wp_goto (tgt := 96) dX12_stringOf_92 (by decide) ?_
        exact h
theorem v_X12_stringOf_96 {cs : Cs} {Q : Option AV → Mm → Prop} {MI ML : Nat → Nat → Int} {d e nw th x : Nat} {l1 l2 l3 l4 s0 s1 : Int}
    (h : (-2147483648 ≤ s1 + s0 ∧ s1 + s0 < 2147483648) ∧ (-2147483648 ≤ l3 + 1 ∧ l3 + 1 < 2147483648) ∧ wp cs mX12_stringOf KD Q 4 [some (vR 124), some (vI l1), some (vI (s1 + s0)), some (vI (l3 + 1)), none] [] (KD, MI, ML, (GR d e nw th x))) :
    wp cs mX12_stringOf KD Q 96 [some (vR 124), some (vI l1), some (vI l2), some (vI l3), some (vI l4)] [vI s0, vI s1] (KD, MI, ML, (GR d e nw th x)) := by
  have c0 := h.1
  replace h := h.2
  refine wp_iaddr dX12_stringOf_96 c0 ?_
  refine wp_istore_n dX12_stringOf_97 rfl (by decide) (wp_L (L' := [some (vR 124), some (vI l1), some (vI (s1 + s0)), some (vI l3), some (vI l4)]) rfl ?_)
  have c1 := h.1
  replace h := h.2
  refine wp_iincr dX12_stringOf_98 rfl (by decide) c1 (wp_L (L' := [some (vR 124), some (vI l1), some (vI (s1 + s0)), some (vI (l3 + 1)), some (vI l4)]) rfl ?_)
  refine wp_goto (tgt := 4) dX12_stringOf_101 (by decide) ?_
  refine wp_forget (L' := [some (vR 124), some (vI l1), some (vI (s1 + s0)), some (vI (l3 + 1)), none]) (by repeat' (first | exact trivial | refine ⟨rfl, ?_⟩)) ?_
  exact h
