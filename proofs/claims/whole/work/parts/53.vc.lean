theorem dX12_passesFilter_0 : decode cX12_passesFilter 0 = .ok (.aload_n 0, 1) := by decide +kernel
theorem dX12_passesFilter_1 : decode cX12_passesFilter 1 = .ok (.getfield 197, 3) := by decide +kernel
theorem dX12_passesFilter_4 : decode cX12_passesFilter 4 = .ok (.iload_n 1, 1) := by decide +kernel
theorem dX12_passesFilter_5 : decode cX12_passesFilter 5 = .ok (.iaload, 1) := by decide +kernel
theorem dX12_passesFilter_6 : decode cX12_passesFilter 6 = .ok (.iconst 4, 1) := by decide +kernel
theorem dX12_passesFilter_7 : decode cX12_passesFilter 7 = .ok (.if_icmp .ne 21, 3) := by decide +kernel
theorem dX12_passesFilter_10 : decode cX12_passesFilter 10 = .ok (.aload_n 0, 1) := by decide +kernel
theorem dX12_passesFilter_11 : decode cX12_passesFilter 11 = .ok (.iload_n 2, 1) := by decide +kernel
theorem dX12_passesFilter_12 : decode cX12_passesFilter 12 = .ok (.aload_n 0, 1) := by decide +kernel
theorem dX12_passesFilter_13 : decode cX12_passesFilter 13 = .ok (.getfield 209, 3) := by decide +kernel
theorem dX12_passesFilter_16 : decode cX12_passesFilter 16 = .ok (.iload_n 1, 1) := by decide +kernel
theorem dX12_passesFilter_17 : decode cX12_passesFilter 17 = .ok (.iaload, 1) := by decide +kernel
theorem dX12_passesFilter_18 : decode cX12_passesFilter 18 = .ok (.aload_n 0, 1) := by decide +kernel
theorem dX12_passesFilter_19 : decode cX12_passesFilter 19 = .ok (.getfield 212, 3) := by decide +kernel
theorem dX12_passesFilter_22 : decode cX12_passesFilter 22 = .ok (.iload_n 1, 1) := by decide +kernel
theorem dX12_passesFilter_23 : decode cX12_passesFilter 23 = .ok (.iaload, 1) := by decide +kernel
theorem dX12_passesFilter_24 : decode cX12_passesFilter 24 = .ok (.invokevirtual 597, 3) := by decide +kernel
theorem dX12_passesFilter_27 : decode cX12_passesFilter 27 = .ok (.ireturn, 1) := by decide +kernel
theorem dX12_passesFilter_28 : decode cX12_passesFilter 28 = .ok (.iconst 0, 1) := by decide +kernel
theorem dX12_passesFilter_29 : decode cX12_passesFilter 29 = .ok (.istore_n 3, 1) := by decide +kernel
theorem dX12_passesFilter_30 : decode cX12_passesFilter 30 = .ok (.iload_n 3, 1) := by decide +kernel
theorem dX12_passesFilter_31 : decode cX12_passesFilter 31 = .ok (.aload_n 0, 1) := by decide +kernel
theorem dX12_passesFilter_32 : decode cX12_passesFilter 32 = .ok (.getfield 27, 3) := by decide +kernel
theorem dX12_passesFilter_35 : decode cX12_passesFilter 35 = .ok (.aload_n 0, 1) := by decide +kernel
theorem dX12_passesFilter_36 : decode cX12_passesFilter 36 = .ok (.getfield 482, 3) := by decide +kernel
theorem dX12_passesFilter_39 : decode cX12_passesFilter 39 = .ok (.iaload, 1) := by decide +kernel
theorem dX12_passesFilter_40 : decode cX12_passesFilter 40 = .ok (.if_icmp .ge 124, 3) := by decide +kernel
theorem dX12_passesFilter_43 : decode cX12_passesFilter 43 = .ok (.aload_n 0, 1) := by decide +kernel
theorem dX12_passesFilter_44 : decode cX12_passesFilter 44 = .ok (.getfield 34, 3) := by decide +kernel
theorem dX12_passesFilter_47 : decode cX12_passesFilter 47 = .ok (.sipush 600, 3) := by decide +kernel
theorem dX12_passesFilter_50 : decode cX12_passesFilter 50 = .ok (.aload_n 0, 1) := by decide +kernel
theorem dX12_passesFilter_51 : decode cX12_passesFilter 51 = .ok (.getfield 482, 3) := by decide +kernel
theorem dX12_passesFilter_54 : decode cX12_passesFilter 54 = .ok (.imul, 1) := by decide +kernel
theorem dX12_passesFilter_55 : decode cX12_passesFilter 55 = .ok (.iload_n 3, 1) := by decide +kernel
theorem dX12_passesFilter_56 : decode cX12_passesFilter 56 = .ok (.iadd, 1) := by decide +kernel
theorem dX12_passesFilter_57 : decode cX12_passesFilter 57 = .ok (.iaload, 1) := by decide +kernel
theorem dX12_passesFilter_58 : decode cX12_passesFilter 58 = .ok (.iload_n 2, 1) := by decide +kernel
theorem dX12_passesFilter_59 : decode cX12_passesFilter 59 = .ok (.if_icmp .ne 39, 3) := by decide +kernel
theorem dX12_passesFilter_62 : decode cX12_passesFilter 62 = .ok (.aload_n 0, 1) := by decide +kernel
theorem dX12_passesFilter_63 : decode cX12_passesFilter 63 = .ok (.getfield 31, 3) := by decide +kernel
theorem dX12_passesFilter_66 : decode cX12_passesFilter 66 = .ok (.sipush 600, 3) := by decide +kernel
theorem dX12_passesFilter_69 : decode cX12_passesFilter 69 = .ok (.aload_n 0, 1) := by decide +kernel
theorem dX12_passesFilter_70 : decode cX12_passesFilter 70 = .ok (.getfield 482, 3) := by decide +kernel
theorem dX12_passesFilter_73 : decode cX12_passesFilter 73 = .ok (.imul, 1) := by decide +kernel
theorem dX12_passesFilter_74 : decode cX12_passesFilter 74 = .ok (.iload_n 3, 1) := by decide +kernel
theorem dX12_passesFilter_75 : decode cX12_passesFilter 75 = .ok (.iadd, 1) := by decide +kernel
theorem dX12_passesFilter_76 : decode cX12_passesFilter 76 = .ok (.iaload, 1) := by decide +kernel
theorem dX12_passesFilter_77 : decode cX12_passesFilter 77 = .ok (.aload_n 0, 1) := by decide +kernel
theorem dX12_passesFilter_78 : decode cX12_passesFilter 78 = .ok (.getfield 206, 3) := by decide +kernel
theorem dX12_passesFilter_81 : decode cX12_passesFilter 81 = .ok (.iload_n 1, 1) := by decide +kernel
theorem dX12_passesFilter_82 : decode cX12_passesFilter 82 = .ok (.baload, 1) := by decide +kernel
theorem dX12_passesFilter_83 : decode cX12_passesFilter 83 = .ok (.ifCond .eq 7, 3) := by decide +kernel
theorem dX12_passesFilter_86 : decode cX12_passesFilter 86 = .ok (.iconst 2, 1) := by decide +kernel
theorem dX12_passesFilter_87 : decode cX12_passesFilter 87 = .ok (.goto 4, 3) := by decide +kernel
theorem dX12_passesFilter_90 : decode cX12_passesFilter 90 = .ok (.iconst 1, 1) := by decide +kernel
theorem dX12_passesFilter_91 : decode cX12_passesFilter 91 = .ok (.if_icmp .ne 7, 3) := by decide +kernel
theorem dX12_passesFilter_94 : decode cX12_passesFilter 94 = .ok (.iconst 1, 1) := by decide +kernel
theorem dX12_passesFilter_95 : decode cX12_passesFilter 95 = .ok (.goto 4, 3) := by decide +kernel
theorem dX12_passesFilter_98 : decode cX12_passesFilter 98 = .ok (.iconst 0, 1) := by decide +kernel
theorem dX12_passesFilter_99 : decode cX12_passesFilter 99 = .ok (.istore 4, 2) := by decide +kernel
theorem dX12_passesFilter_101 : decode cX12_passesFilter 101 = .ok (.iload 4, 2) := by decide +kernel
theorem dX12_passesFilter_103 : decode cX12_passesFilter 103 = .ok (.ifCond .eq 55, 3) := by decide +kernel
theorem dX12_passesFilter_106 : decode cX12_passesFilter 106 = .ok (.aload_n 0, 1) := by decide +kernel
theorem dX12_passesFilter_107 : decode cX12_passesFilter 107 = .ok (.iload_n 3, 1) := by decide +kernel
theorem dX12_passesFilter_108 : decode cX12_passesFilter 108 = .ok (.aload_n 0, 1) := by decide +kernel
theorem dX12_passesFilter_109 : decode cX12_passesFilter 109 = .ok (.getfield 200, 3) := by decide +kernel
theorem dX12_passesFilter_112 : decode cX12_passesFilter 112 = .ok (.iload_n 1, 1) := by decide +kernel
theorem dX12_passesFilter_113 : decode cX12_passesFilter 113 = .ok (.iaload, 1) := by decide +kernel
theorem dX12_passesFilter_114 : decode cX12_passesFilter 114 = .ok (.aload_n 0, 1) := by decide +kernel
theorem dX12_passesFilter_115 : decode cX12_passesFilter 115 = .ok (.getfield 203, 3) := by decide +kernel
theorem dX12_passesFilter_118 : decode cX12_passesFilter 118 = .ok (.iload_n 1, 1) := by decide +kernel
theorem dX12_passesFilter_119 : decode cX12_passesFilter 119 = .ok (.iaload, 1) := by decide +kernel
theorem dX12_passesFilter_120 : decode cX12_passesFilter 120 = .ok (.invokevirtual 588, 3) := by decide +kernel
theorem dX12_passesFilter_123 : decode cX12_passesFilter 123 = .ok (.ifCond .eq 35, 3) := by decide +kernel
theorem dX12_passesFilter_126 : decode cX12_passesFilter 126 = .ok (.aload_n 0, 1) := by decide +kernel
theorem dX12_passesFilter_127 : decode cX12_passesFilter 127 = .ok (.getfield 197, 3) := by decide +kernel
theorem dX12_passesFilter_130 : decode cX12_passesFilter 130 = .ok (.iload_n 1, 1) := by decide +kernel
theorem dX12_passesFilter_131 : decode cX12_passesFilter 131 = .ok (.iaload, 1) := by decide +kernel
theorem dX12_passesFilter_132 : decode cX12_passesFilter 132 = .ok (.iconst 2, 1) := by decide +kernel
theorem dX12_passesFilter_133 : decode cX12_passesFilter 133 = .ok (.if_icmp .eq 23, 3) := by decide +kernel
theorem dX12_passesFilter_136 : decode cX12_passesFilter 136 = .ok (.aload_n 0, 1) := by decide +kernel
theorem dX12_passesFilter_137 : decode cX12_passesFilter 137 = .ok (.iload_n 3, 1) := by decide +kernel
theorem dX12_passesFilter_138 : decode cX12_passesFilter 138 = .ok (.aload_n 0, 1) := by decide +kernel
theorem dX12_passesFilter_139 : decode cX12_passesFilter 139 = .ok (.getfield 209, 3) := by decide +kernel
theorem dX12_passesFilter_142 : decode cX12_passesFilter 142 = .ok (.iload_n 1, 1) := by decide +kernel
theorem dX12_passesFilter_143 : decode cX12_passesFilter 143 = .ok (.iaload, 1) := by decide +kernel
theorem dX12_passesFilter_144 : decode cX12_passesFilter 144 = .ok (.aload_n 0, 1) := by decide +kernel
theorem dX12_passesFilter_145 : decode cX12_passesFilter 145 = .ok (.getfield 212, 3) := by decide +kernel
theorem dX12_passesFilter_148 : decode cX12_passesFilter 148 = .ok (.iload_n 1, 1) := by decide +kernel
theorem dX12_passesFilter_149 : decode cX12_passesFilter 149 = .ok (.iaload, 1) := by decide +kernel
theorem dX12_passesFilter_150 : decode cX12_passesFilter 150 = .ok (.invokevirtual 597, 3) := by decide +kernel
theorem dX12_passesFilter_153 : decode cX12_passesFilter 153 = .ok (.ifCond .eq 5, 3) := by decide +kernel
theorem dX12_passesFilter_156 : decode cX12_passesFilter 156 = .ok (.iconst 1, 1) := by decide +kernel
theorem dX12_passesFilter_157 : decode cX12_passesFilter 157 = .ok (.ireturn, 1) := by decide +kernel
theorem dX12_passesFilter_158 : decode cX12_passesFilter 158 = .ok (.iinc 3 1, 3) := by decide +kernel
theorem dX12_passesFilter_161 : decode cX12_passesFilter 161 = .ok (.goto (-131), 3) := by decide +kernel
theorem dX12_passesFilter_164 : decode cX12_passesFilter 164 = .ok (.iconst 0, 1) := by decide +kernel
theorem dX12_passesFilter_165 : decode cX12_passesFilter 165 = .ok (.ireturn, 1) := by decide +kernel
theorem v_X12_passesFilter_0 {cs : Cs} {Q : Option AV → Mm → Prop} {MI ML : Nat → Nat → Int} {d e nw th x : Nat} {l1 l2 : Int}
    (h : (0 ≤ l1 ∧ l1 < 48) ∧ (((MI 185 l1.toNat) = 4 → wp cs mX12_hasString KD (rI (GR d e nw th x) fun x24 m24 n24 => (x24 = 0 ∨ x24 = 1) ∧ Q (some (vI x24)) (m24, n24, (GR d e nw th x))) 0 (padL [vR 124, vI l2, vI (MI 189 l1.toNat), vI (MI 190 l1.toNat)] 6) [] (KD, MI, ML, (GR d e nw th x))) ∧ ((MI 185 l1.toNat) ≠ 4 → wp cs mX12_passesFilter KD Q 30 [some (vR 124), some (vI l1), some (vI l2), some (vI 0), none] [] (KD, MI, ML, (GR d e nw th x))))) :
    wp cs mX12_passesFilter KD Q 0 (padL [vR 124, vI l1, vI l2] 5) [] (KD, MI, ML, (GR d e nw th x)) := by
  refine wp_L (L' := [some (vR 124), some (vI l1), some (vI l2), none, none]) rfl ?_
  refine wp_aload_n dX12_passesFilter_0 rfl rfl (by first | exact Or.inl (by decide) | exact Or.inl (by omega) | exact Or.inr (by decide) | exact Or.inr (by omega)) ?_
  refine wp_getR dX12_passesFilter_1 fX12_197 rfl (by decide) ?_
  refine wp_topR (x' := 185) rfl ?_
  refine wp_iload_n dX12_passesFilter_4 rfl rfl ?_
  have c0 := h.1
  replace h := h.2
  refine wp_iald dX12_passesFilter_5 rfl (by decide) c0 ?_
  refine wp_iconst dX12_passesFilter_6 (by decide) ?_
  refine wp_icmp_ne (tgt := 28) dX12_passesFilter_7 (by decide) (fun h7 => ?_) (fun h7 => ?_)
  · replace h := h.2 h7
    refine wp_iconst dX12_passesFilter_28 (by decide) ?_
    refine wp_istore_n dX12_passesFilter_29 rfl (by decide) (wp_L (L' := [some (vR 124), some (vI l1), some (vI l2), some (vI 0), none]) rfl ?_)
    exact h
  · replace h := h.1 h7
    refine wp_aload_n dX12_passesFilter_10 rfl rfl (by first | exact Or.inl (by decide) | exact Or.inl (by omega) | exact Or.inr (by decide) | exact Or.inr (by omega)) ?_
    refine wp_iload_n dX12_passesFilter_11 rfl rfl ?_
    refine wp_aload_n dX12_passesFilter_12 rfl rfl (by first | exact Or.inl (by decide) | exact Or.inl (by omega) | exact Or.inr (by decide) | exact Or.inr (by omega)) ?_
    refine wp_getR dX12_passesFilter_13 fX12_209 rfl (by decide) ?_
    refine wp_topR (x' := 189) rfl ?_
    refine wp_iload_n dX12_passesFilter_16 rfl rfl ?_
    refine wp_iald dX12_passesFilter_17 rfl (by decide) c0 ?_
    refine wp_aload_n dX12_passesFilter_18 rfl rfl (by first | exact Or.inl (by decide) | exact Or.inl (by omega) | exact Or.inr (by decide) | exact Or.inr (by omega)) ?_
    refine wp_pc (pc' := 19) rfl ?_
    refine wp_getR dX12_passesFilter_19 fX12_212 rfl (by decide) ?_
    refine wp_topR (x' := 190) rfl ?_
    refine wp_iload_n dX12_passesFilter_22 rfl rfl ?_
    refine wp_iald dX12_passesFilter_23 rfl (by decide) c0 ?_
    refine wp_cVq (n := 3) (mt' := mX12_hasString) (as := [vI l2, vI (MI 189 l1.toNat), vI (MI 190 l1.toNat)]) (rest := []) _ dX12_passesFilter_24 lX12_597 kX12_hasString vX12_hasString (by decide) (by decide +kernel) rfl (Nat.le_of_ble_eq_true rfl) (by decide) rfl rfl rfl (Nat.le_of_ble_eq_true rfl) (fun hM hS => h) (fun r M' hq hM => ?_)
    obtain ⟨x24, m24, n24, rfl, rfl, h⟩ := rI_out hq
    exact wp_zret dX12_passesFilter_27 rfl h.1 (fun _ => h.2)
theorem v_X12_passesFilter_30 {cs : Cs} {Q : Option AV → Mm → Prop} {MI ML : Nat → Nat → Int} {d e nw th x : Nat} {l1 l2 l3 : Int}
    (h : (0 ≤ (MI 124 7) ∧ (MI 124 7) < 2) ∧ ((l3 < (MI 129 (MI 124 7).toNat) → (-2147483648 ≤ 600 * (MI 124 7) ∧ 600 * (MI 124 7) < 2147483648) ∧ (-2147483648 ≤ (600 * (MI 124 7)) + l3 ∧ (600 * (MI 124 7)) + l3 < 2147483648) ∧ (0 ≤ ((600 * (MI 124 7)) + l3) ∧ ((600 * (MI 124 7)) + l3) < 1200) ∧ (((MI 131 ((600 * (MI 124 7)) + l3).toNat) = l2 → (0 ≤ l1 ∧ l1 < 48) ∧ (((MI 188 l1.toNat) = 0 → (((MI 130 ((600 * (MI 124 7)) + l3).toNat) = 1 → wp cs mX12_passesFilter KD Q 99 [some (vR 124), some (vI l1), some (vI l2), some (vI l3), none] [vI 1] (KD, MI, ML, (GR d e nw th x))) ∧ ((MI 130 ((600 * (MI 124 7)) + l3).toNat) ≠ 1 → wp cs mX12_passesFilter KD Q 99 [some (vR 124), some (vI l1), some (vI l2), some (vI l3), none] [vI 0] (KD, MI, ML, (GR d e nw th x))))) ∧ ((MI 188 l1.toNat) ≠ 0 → (((MI 130 ((600 * (MI 124 7)) + l3).toNat) = 2 → wp cs mX12_passesFilter KD Q 99 [some (vR 124), some (vI l1), some (vI l2), some (vI l3), none] [vI 1] (KD, MI, ML, (GR d e nw th x))) ∧ ((MI 130 ((600 * (MI 124 7)) + l3).toNat) ≠ 2 → wp cs mX12_passesFilter KD Q 99 [some (vR 124), some (vI l1), some (vI l2), some (vI l3), none] [vI 0] (KD, MI, ML, (GR d e nw th x))))))) ∧ ((MI 131 ((600 * (MI 124 7)) + l3).toNat) ≠ l2 → wp cs mX12_passesFilter KD Q 99 [some (vR 124), some (vI l1), some (vI l2), some (vI l3), none] [vI 0] (KD, MI, ML, (GR d e nw th x))))) ∧ ((MI 129 (MI 124 7).toNat) ≤ l3 → Q (some (vI 0)) (MI, ML, (GR d e nw th x))))) :
    wp cs mX12_passesFilter KD Q 30 [some (vR 124), some (vI l1), some (vI l2), some (vI l3), none] [] (KD, MI, ML, (GR d e nw th x)) := by
  refine wp_iload_n dX12_passesFilter_30 rfl rfl ?_
  refine wp_aload_n dX12_passesFilter_31 rfl rfl (by first | exact Or.inl (by decide) | exact Or.inl (by omega) | exact Or.inr (by decide) | exact Or.inr (by omega)) ?_
  refine wp_getR dX12_passesFilter_32 fX12_27 rfl (by decide) ?_
  refine wp_topR (x' := 129) rfl ?_
  refine wp_aload_n dX12_passesFilter_35 rfl rfl (by first | exact Or.inl (by decide) | exact Or.inl (by omega) | exact Or.inr (by decide) | exact Or.inr (by omega)) ?_
  refine wp_getI dX12_passesFilter_36 fX12_482 rfl (by decide) ?_
  have c0 := h.1
  replace h := h.2
  refine wp_iald dX12_passesFilter_39 rfl (by decide) c0 ?_
  refine wp_icmp_ge (tgt := 164) dX12_passesFilter_40 (by decide) (fun h40 => ?_) (fun h40 => ?_)
  · replace h := h.2 h40
    refine wp_iconst dX12_passesFilter_164 (by decide) ?_
    exact wp_zret dX12_passesFilter_165 rfl (by decide) (fun _ => h)
  · replace h := h.1 h40
    refine wp_aload_n dX12_passesFilter_43 rfl rfl (by first | exact Or.inl (by decide) | exact Or.inl (by omega) | exact Or.inr (by decide) | exact Or.inr (by omega)) ?_
    refine wp_getR dX12_passesFilter_44 fX12_34 rfl (by decide) ?_
    refine wp_topR (x' := 131) rfl ?_
    refine wp_sipush dX12_passesFilter_47 (by decide +kernel) (by decide) ?_
    refine wp_aload_n dX12_passesFilter_50 rfl rfl (by first | exact Or.inl (by decide) | exact Or.inl (by omega) | exact Or.inr (by decide) | exact Or.inr (by omega)) ?_
    refine wp_getI dX12_passesFilter_51 fX12_482 rfl (by decide) ?_
    have c1 := h.1
    replace h := h.2
    refine wp_imulr dX12_passesFilter_54 c1 ?_
    refine wp_iload_n dX12_passesFilter_55 rfl rfl ?_
    refine wp_pc (pc' := 56) rfl ?_
    have c2 := h.1
    replace h := h.2
    refine wp_iaddr dX12_passesFilter_56 c2 ?_
    have c3 := h.1
    replace h := h.2
    refine wp_iald dX12_passesFilter_57 rfl (by decide) c3 ?_
    refine wp_iload_n dX12_passesFilter_58 rfl rfl ?_
    refine wp_icmp_ne (tgt := 98) dX12_passesFilter_59 (by decide) (fun h59 => ?_) (fun h59 => ?_)
    · replace h := h.2 h59
      refine wp_iconst dX12_passesFilter_98 (by decide) ?_
      exact h
    · replace h := h.1 h59
      refine wp_aload_n dX12_passesFilter_62 rfl rfl (by first | exact Or.inl (by decide) | exact Or.inl (by omega) | exact Or.inr (by decide) | exact Or.inr (by omega)) ?_
      refine wp_getR dX12_passesFilter_63 fX12_31 rfl (by decide) ?_
      refine wp_topR (x' := 130) rfl ?_
      refine wp_sipush dX12_passesFilter_66 (by decide +kernel) (by decide) ?_
      refine wp_aload_n dX12_passesFilter_69 rfl rfl (by first | exact Or.inl (by decide) | exact Or.inl (by omega) | exact Or.inr (by decide) | exact Or.inr (by omega)) ?_
      refine wp_getI dX12_passesFilter_70 fX12_482 rfl (by decide) ?_
      refine wp_imulr dX12_passesFilter_73 c1 ?_
      refine wp_iload_n dX12_passesFilter_74 rfl rfl ?_
      refine wp_pc (pc' := 75) rfl ?_
      refine wp_iaddr dX12_passesFilter_75 c2 ?_
      refine wp_iald dX12_passesFilter_76 rfl (by decide) c3 ?_
      refine wp_aload_n dX12_passesFilter_77 rfl rfl (by first | exact Or.inl (by decide) | exact Or.inl (by omega) | exact Or.inr (by decide) | exact Or.inr (by omega)) ?_
      refine wp_getR dX12_passesFilter_78 fX12_206 rfl (by decide) ?_
      refine wp_topR (x' := 188) rfl ?_
      refine wp_iload_n dX12_passesFilter_81 rfl rfl ?_
      have c4 := h.1
      replace h := h.2
      refine wp_zald dX12_passesFilter_82 rfl (by decide) c4 ?_
      refine wp_if_eq (tgt := 90) dX12_passesFilter_83 (by decide) (fun h83 => ?_) (fun h83 => ?_)
      · replace h := h.1 h83
        refine wp_iconst dX12_passesFilter_90 (by decide) ?_
        refine wp_icmp_ne (tgt := 98) dX12_passesFilter_91 (by decide) (fun h91 => ?_) (fun h91 => ?_)
        · replace h := h.2 h91
          refine wp_iconst dX12_passesFilter_98 (by decide) ?_
          exact h
        · replace h := h.1 h91
          refine wp_iconst dX12_passesFilter_94 (by decide) ?_
          refine wp_goto (tgt := 99) dX12_passesFilter_95 (by decide) ?_
          exact h
      · replace h := h.2 h83
        refine wp_iconst dX12_passesFilter_86 (by decide) ?_
        refine wp_goto (tgt := 91) dX12_passesFilter_87 (by decide) ?_
        refine wp_icmp_ne (tgt := 98) dX12_passesFilter_91 (by decide) (fun h91 => ?_) (fun h91 => ?_)
        · replace h := h.2 h91
          refine wp_iconst dX12_passesFilter_98 (by decide) ?_
          exact h
        · replace h := h.1 h91
          refine wp_iconst dX12_passesFilter_94 (by decide) ?_
          refine wp_goto (tgt := 99) dX12_passesFilter_95 (by decide) ?_
          exact h
theorem v_X12_passesFilter_99 {cs : Cs} {Q : Option AV → Mm → Prop} {MI ML : Nat → Nat → Int} {d e nw th x : Nat} {l1 l2 l3 s0 : Int}
    (h : ((s0 = 0 → (-2147483648 ≤ l3 + 1 ∧ l3 + 1 < 2147483648) ∧ wp cs mX12_passesFilter KD Q 30 [some (vR 124), some (vI l1), some (vI l2), some (vI (l3 + 1)), none] [] (KD, MI, ML, (GR d e nw th x))) ∧ (s0 ≠ 0 → (0 ≤ l1 ∧ l1 < 48) ∧ wp cs mX12_isCalled KD (rI (GR d e nw th x) fun x120 m120 n120 => ((x120 = 0 → (-2147483648 ≤ l3 + 1 ∧ l3 + 1 < 2147483648) ∧ wp cs mX12_passesFilter KD Q 30 [some (vR 124), some (vI l1), some (vI l2), some (vI (l3 + 1)), none] [] (KD, m120, n120, (GR d e nw th x))) ∧ (x120 ≠ 0 → (((m120 185 l1.toNat) = 2 → Q (some (vI 1)) (m120, n120, (GR d e nw th x))) ∧ ((m120 185 l1.toNat) ≠ 2 → wp cs mX12_hasString KD (rI (GR d e nw th x) fun x150 m150 n150 => ((x150 = 0 → (-2147483648 ≤ l3 + 1 ∧ l3 + 1 < 2147483648) ∧ wp cs mX12_passesFilter KD Q 30 [some (vR 124), some (vI l1), some (vI l2), some (vI (l3 + 1)), none] [] (KD, m150, n150, (GR d e nw th x))) ∧ (x150 ≠ 0 → Q (some (vI 1)) (m150, n150, (GR d e nw th x))))) 0 (padL [vR 124, vI l3, vI (m120 189 l1.toNat), vI (m120 190 l1.toNat)] 6) [] (KD, m120, n120, (GR d e nw th x))))))) 0 (padL [vR 124, vI l3, vI (MI 186 l1.toNat), vI (MI 187 l1.toNat)] 6) [] (KD, MI, ML, (GR d e nw th x))))) :
    wp cs mX12_passesFilter KD Q 99 [some (vR 124), some (vI l1), some (vI l2), some (vI l3), none] [vI s0] (KD, MI, ML, (GR d e nw th x)) := by
  refine wp_istore dX12_passesFilter_99 (by decide) (wp_L (L' := [some (vR 124), some (vI l1), some (vI l2), some (vI l3), some (vI s0)]) rfl ?_)
  refine wp_iload dX12_passesFilter_101 rfl ?_
  refine wp_if_eq (tgt := 158) dX12_passesFilter_103 (by decide) (fun h103 => ?_) (fun h103 => ?_)
  · replace h := h.1 h103
    have c0 := h.1
    replace h := h.2
    refine wp_iincr dX12_passesFilter_158 rfl (by decide) c0 (wp_L (L' := [some (vR 124), some (vI l1), some (vI l2), some (vI (l3 + 1)), some (vI s0)]) rfl ?_)
    refine wp_goto (tgt := 30) dX12_passesFilter_161 (by decide) ?_
    refine wp_forget (L' := [some (vR 124), some (vI l1), some (vI l2), some (vI (l3 + 1)), none]) (by repeat' (first | exact trivial | refine ⟨rfl, ?_⟩)) ?_
    exact h
  · replace h := h.2 h103
    refine wp_aload_n dX12_passesFilter_106 rfl rfl (by first | exact Or.inl (by decide) | exact Or.inl (by omega) | exact Or.inr (by decide) | exact Or.inr (by omega)) ?_
    refine wp_iload_n dX12_passesFilter_107 rfl rfl ?_
    refine wp_aload_n dX12_passesFilter_108 rfl rfl (by first | exact Or.inl (by decide) | exact Or.inl (by omega) | exact Or.inr (by decide) | exact Or.inr (by omega)) ?_
    refine wp_getR dX12_passesFilter_109 fX12_200 rfl (by decide) ?_
    refine wp_topR (x' := 186) rfl ?_
    refine wp_iload_n dX12_passesFilter_112 rfl rfl ?_
    have c0 := h.1
    replace h := h.2
    refine wp_iald dX12_passesFilter_113 rfl (by decide) c0 ?_
    refine wp_aload_n dX12_passesFilter_114 rfl rfl (by first | exact Or.inl (by decide) | exact Or.inl (by omega) | exact Or.inr (by decide) | exact Or.inr (by omega)) ?_
    refine wp_pc (pc' := 115) rfl ?_
    refine wp_getR dX12_passesFilter_115 fX12_203 rfl (by decide) ?_
    refine wp_topR (x' := 187) rfl ?_
    refine wp_iload_n dX12_passesFilter_118 rfl rfl ?_
    refine wp_iald dX12_passesFilter_119 rfl (by decide) c0 ?_
    refine wp_cVq (n := 3) (mt' := mX12_isCalled) (as := [vI l3, vI (MI 186 l1.toNat), vI (MI 187 l1.toNat)]) (rest := []) _ dX12_passesFilter_120 lX12_588 kX12_isCalled vX12_isCalled (by decide) (by decide +kernel) rfl (Nat.le_of_ble_eq_true rfl) (by decide) rfl rfl rfl (Nat.le_of_ble_eq_true rfl) (fun hM hS => h) (fun r M' hq hM => ?_)
    obtain ⟨x120, m120, n120, rfl, rfl, h⟩ := rI_out hq
    refine wp_if_eq (tgt := 158) dX12_passesFilter_123 (by decide) (fun h123 => ?_) (fun h123 => ?_)
    · replace h := h.1 h123
      have c1 := h.1
      replace h := h.2
      refine wp_iincr dX12_passesFilter_158 rfl (by decide) c1 (wp_L (L' := [some (vR 124), some (vI l1), some (vI l2), some (vI (l3 + 1)), some (vI s0)]) rfl ?_)
      refine wp_goto (tgt := 30) dX12_passesFilter_161 (by decide) ?_
      refine wp_forget (L' := [some (vR 124), some (vI l1), some (vI l2), some (vI (l3 + 1)), none]) (by repeat' (first | exact trivial | refine ⟨rfl, ?_⟩)) ?_
      exact h
    · replace h := h.2 h123
      refine wp_aload_n dX12_passesFilter_126 rfl rfl (by first | exact Or.inl (by decide) | exact Or.inl (by omega) | exact Or.inr (by decide) | exact Or.inr (by omega)) ?_
      refine wp_getR dX12_passesFilter_127 fX12_197 rfl (by decide) ?_
      refine wp_topR (x' := 185) rfl ?_
      refine wp_iload_n dX12_passesFilter_130 rfl rfl ?_
      refine wp_iald dX12_passesFilter_131 rfl (by decide) c0 ?_
      refine wp_iconst dX12_passesFilter_132 (by decide) ?_
      refine wp_icmp_eq (tgt := 156) dX12_passesFilter_133 (by decide) (fun h133 => ?_) (fun h133 => ?_)
      · replace h := h.1 h133
        refine wp_iconst dX12_passesFilter_156 (by decide) ?_
        exact wp_zret dX12_passesFilter_157 rfl (by decide) (fun _ => h)
      · replace h := h.2 h133
        refine wp_aload_n dX12_passesFilter_136 rfl rfl (by first | exact Or.inl (by decide) | exact Or.inl (by omega) | exact Or.inr (by decide) | exact Or.inr (by omega)) ?_
        refine wp_iload_n dX12_passesFilter_137 rfl rfl ?_
        refine wp_aload_n dX12_passesFilter_138 rfl rfl (by first | exact Or.inl (by decide) | exact Or.inl (by omega) | exact Or.inr (by decide) | exact Or.inr (by omega)) ?_
        refine wp_getR dX12_passesFilter_139 fX12_209 rfl (by decide) ?_
        refine wp_topR (x' := 189) rfl ?_
        refine wp_iload_n dX12_passesFilter_142 rfl rfl ?_
        refine wp_iald dX12_passesFilter_143 rfl (by decide) c0 ?_
        refine wp_aload_n dX12_passesFilter_144 rfl rfl (by first | exact Or.inl (by decide) | exact Or.inl (by omega) | exact Or.inr (by decide) | exact Or.inr (by omega)) ?_
        refine wp_pc (pc' := 145) rfl ?_
        refine wp_getR dX12_passesFilter_145 fX12_212 rfl (by decide) ?_
        refine wp_topR (x' := 190) rfl ?_
        refine wp_iload_n dX12_passesFilter_148 rfl rfl ?_
        refine wp_iald dX12_passesFilter_149 rfl (by decide) c0 ?_
        refine wp_cVq (n := 3) (mt' := mX12_hasString) (as := [vI l3, vI (m120 189 l1.toNat), vI (m120 190 l1.toNat)]) (rest := []) _ dX12_passesFilter_150 lX12_597 kX12_hasString vX12_hasString (by decide) (by decide +kernel) rfl (Nat.le_of_ble_eq_true rfl) (by decide) rfl rfl rfl (Nat.le_of_ble_eq_true rfl) (fun hM hS => h) (fun r M' hq hM => ?_)
        obtain ⟨x150, m150, n150, rfl, rfl, h⟩ := rI_out hq
        refine wp_if_eq (tgt := 158) dX12_passesFilter_153 (by decide) (fun h153 => ?_) (fun h153 => ?_)
        · replace h := h.1 h153
          have c1 := h.1
          replace h := h.2
          refine wp_iincr dX12_passesFilter_158 rfl (by decide) c1 (wp_L (L' := [some (vR 124), some (vI l1), some (vI l2), some (vI (l3 + 1)), some (vI s0)]) rfl ?_)
          refine wp_goto (tgt := 30) dX12_passesFilter_161 (by decide) ?_
          refine wp_forget (L' := [some (vR 124), some (vI l1), some (vI l2), some (vI (l3 + 1)), none]) (by repeat' (first | exact trivial | refine ⟨rfl, ?_⟩)) ?_
          exact h
        · replace h := h.2 h153
          refine wp_iconst dX12_passesFilter_156 (by decide) ?_
          exact wp_zret dX12_passesFilter_157 rfl (by decide) (fun _ => h)
theorem dX12_filterMine_0 : decode cX12_filterMine 0 = .ok (.iconst 0, 1) := by decide +kernel
theorem dX12_filterMine_1 : decode cX12_filterMine 1 = .ok (.istore_n 2, 1) := by decide +kernel
theorem dX12_filterMine_2 : decode cX12_filterMine 2 = .ok (.iconst 0, 1) := by decide +kernel
theorem dX12_filterMine_3 : decode cX12_filterMine 3 = .ok (.istore_n 3, 1) := by decide +kernel
theorem dX12_filterMine_4 : decode cX12_filterMine 4 = .ok (.iload_n 3, 1) := by decide +kernel
theorem dX12_filterMine_5 : decode cX12_filterMine 5 = .ok (.aload_n 0, 1) := by decide +kernel
theorem dX12_filterMine_6 : decode cX12_filterMine 6 = .ok (.getfield 27, 3) := by decide +kernel
theorem dX12_filterMine_9 : decode cX12_filterMine 9 = .ok (.aload_n 0, 1) := by decide +kernel
theorem dX12_filterMine_10 : decode cX12_filterMine 10 = .ok (.getfield 482, 3) := by decide +kernel
theorem dX12_filterMine_13 : decode cX12_filterMine 13 = .ok (.iaload, 1) := by decide +kernel
theorem dX12_filterMine_14 : decode cX12_filterMine 14 = .ok (.if_icmp .ge 26, 3) := by decide +kernel
theorem dX12_filterMine_17 : decode cX12_filterMine 17 = .ok (.iload_n 2, 1) := by decide +kernel
theorem dX12_filterMine_18 : decode cX12_filterMine 18 = .ok (.aload_n 0, 1) := by decide +kernel
theorem dX12_filterMine_19 : decode cX12_filterMine 19 = .ok (.getfield 179, 3) := by decide +kernel
theorem dX12_filterMine_22 : decode cX12_filterMine 22 = .ok (.iload_n 3, 1) := by decide +kernel
theorem dX12_filterMine_23 : decode cX12_filterMine 23 = .ok (.baload, 1) := by decide +kernel
theorem dX12_filterMine_24 : decode cX12_filterMine 24 = .ok (.ifCond .eq 7, 3) := by decide +kernel
theorem dX12_filterMine_27 : decode cX12_filterMine 27 = .ok (.iconst 1, 1) := by decide +kernel
theorem dX12_filterMine_28 : decode cX12_filterMine 28 = .ok (.goto 4, 3) := by decide +kernel
theorem dX12_filterMine_31 : decode cX12_filterMine 31 = .ok (.iconst 0, 1) := by decide +kernel
theorem dX12_filterMine_32 : decode cX12_filterMine 32 = .ok (.iadd, 1) := by decide +kernel
theorem dX12_filterMine_33 : decode cX12_filterMine 33 = .ok (.istore_n 2, 1) := by decide +kernel
theorem dX12_filterMine_34 : decode cX12_filterMine 34 = .ok (.iinc 3 1, 3) := by decide +kernel
theorem dX12_filterMine_37 : decode cX12_filterMine 37 = .ok (.goto (-33), 3) := by decide +kernel
theorem dX12_filterMine_40 : decode cX12_filterMine 40 = .ok (.iconst 0, 1) := by decide +kernel
theorem dX12_filterMine_41 : decode cX12_filterMine 41 = .ok (.istore_n 3, 1) := by decide +kernel
theorem dX12_filterMine_42 : decode cX12_filterMine 42 = .ok (.iconst 0, 1) := by decide +kernel
theorem dX12_filterMine_43 : decode cX12_filterMine 43 = .ok (.istore 4, 2) := by decide +kernel
theorem dX12_filterMine_45 : decode cX12_filterMine 45 = .ok (.iload 4, 2) := by decide +kernel
theorem dX12_filterMine_47 : decode cX12_filterMine 47 = .ok (.aload_n 0, 1) := by decide +kernel
theorem dX12_filterMine_48 : decode cX12_filterMine 48 = .ok (.getfield 27, 3) := by decide +kernel
theorem dX12_filterMine_51 : decode cX12_filterMine 51 = .ok (.aload_n 0, 1) := by decide +kernel
theorem dX12_filterMine_52 : decode cX12_filterMine 52 = .ok (.getfield 482, 3) := by decide +kernel
theorem dX12_filterMine_55 : decode cX12_filterMine 55 = .ok (.iaload, 1) := by decide +kernel
theorem dX12_filterMine_56 : decode cX12_filterMine 56 = .ok (.if_icmp .ge 86, 3) := by decide +kernel
theorem dX12_filterMine_59 : decode cX12_filterMine 59 = .ok (.aload_n 0, 1) := by decide +kernel
theorem dX12_filterMine_60 : decode cX12_filterMine 60 = .ok (.getfield 179, 3) := by decide +kernel
theorem dX12_filterMine_63 : decode cX12_filterMine 63 = .ok (.iload 4, 2) := by decide +kernel
theorem dX12_filterMine_65 : decode cX12_filterMine 65 = .ok (.baload, 1) := by decide +kernel
theorem dX12_filterMine_66 : decode cX12_filterMine 66 = .ok (.ifCond .eq 70, 3) := by decide +kernel
theorem dX12_filterMine_69 : decode cX12_filterMine 69 = .ok (.iinc 3 1, 3) := by decide +kernel
theorem dX12_filterMine_72 : decode cX12_filterMine 72 = .ok (.aload_n 0, 1) := by decide +kernel
theorem dX12_filterMine_73 : decode cX12_filterMine 73 = .ok (.getfield 179, 3) := by decide +kernel
theorem dX12_filterMine_76 : decode cX12_filterMine 76 = .ok (.iload 4, 2) := by decide +kernel
theorem dX12_filterMine_78 : decode cX12_filterMine 78 = .ok (.aload_n 0, 1) := by decide +kernel
theorem dX12_filterMine_79 : decode cX12_filterMine 79 = .ok (.getfield 197, 3) := by decide +kernel
theorem dX12_filterMine_82 : decode cX12_filterMine 82 = .ok (.iload_n 1, 1) := by decide +kernel
theorem dX12_filterMine_83 : decode cX12_filterMine 83 = .ok (.iaload, 1) := by decide +kernel
theorem dX12_filterMine_84 : decode cX12_filterMine 84 = .ok (.ifCond .ne 21, 3) := by decide +kernel
theorem dX12_filterMine_87 : decode cX12_filterMine 87 = .ok (.iload_n 3, 1) := by decide +kernel
theorem dX12_filterMine_88 : decode cX12_filterMine 88 = .ok (.aload_n 0, 1) := by decide +kernel
theorem dX12_filterMine_89 : decode cX12_filterMine 89 = .ok (.getfield 200, 3) := by decide +kernel
theorem dX12_filterMine_92 : decode cX12_filterMine 92 = .ok (.iload_n 1, 1) := by decide +kernel
theorem dX12_filterMine_93 : decode cX12_filterMine 93 = .ok (.iaload, 1) := by decide +kernel
theorem dX12_filterMine_94 : decode cX12_filterMine 94 = .ok (.if_icmp .ne 7, 3) := by decide +kernel
theorem dX12_filterMine_97 : decode cX12_filterMine 97 = .ok (.iconst 1, 1) := by decide +kernel
theorem dX12_filterMine_98 : decode cX12_filterMine 98 = .ok (.goto 37, 3) := by decide +kernel
theorem dX12_filterMine_101 : decode cX12_filterMine 101 = .ok (.iconst 0, 1) := by decide +kernel
theorem dX12_filterMine_102 : decode cX12_filterMine 102 = .ok (.goto 33, 3) := by decide +kernel
theorem dX12_filterMine_105 : decode cX12_filterMine 105 = .ok (.aload_n 0, 1) := by decide +kernel
theorem dX12_filterMine_106 : decode cX12_filterMine 106 = .ok (.getfield 197, 3) := by decide +kernel
theorem dX12_filterMine_109 : decode cX12_filterMine 109 = .ok (.iload_n 1, 1) := by decide +kernel
theorem dX12_filterMine_110 : decode cX12_filterMine 110 = .ok (.iaload, 1) := by decide +kernel
theorem dX12_filterMine_111 : decode cX12_filterMine 111 = .ok (.iconst 1, 1) := by decide +kernel
theorem dX12_filterMine_112 : decode cX12_filterMine 112 = .ok (.if_icmp .ne 16, 3) := by decide +kernel
theorem dX12_filterMine_115 : decode cX12_filterMine 115 = .ok (.iload_n 3, 1) := by decide +kernel
theorem dX12_filterMine_116 : decode cX12_filterMine 116 = .ok (.iload_n 2, 1) := by decide +kernel
theorem dX12_filterMine_117 : decode cX12_filterMine 117 = .ok (.if_icmp .ne 7, 3) := by decide +kernel
theorem dX12_filterMine_120 : decode cX12_filterMine 120 = .ok (.iconst 1, 1) := by decide +kernel
theorem dX12_filterMine_121 : decode cX12_filterMine 121 = .ok (.goto 14, 3) := by decide +kernel
theorem dX12_filterMine_124 : decode cX12_filterMine 124 = .ok (.iconst 0, 1) := by decide +kernel
theorem dX12_filterMine_125 : decode cX12_filterMine 125 = .ok (.goto 10, 3) := by decide +kernel
theorem dX12_filterMine_128 : decode cX12_filterMine 128 = .ok (.aload_n 0, 1) := by decide +kernel
theorem dX12_filterMine_129 : decode cX12_filterMine 129 = .ok (.iload_n 1, 1) := by decide +kernel
theorem dX12_filterMine_130 : decode cX12_filterMine 130 = .ok (.iload 4, 2) := by decide +kernel
theorem dX12_filterMine_132 : decode cX12_filterMine 132 = .ok (.invokevirtual 600, 3) := by decide +kernel
theorem dX12_filterMine_135 : decode cX12_filterMine 135 = .ok (.bastore, 1) := by decide +kernel
theorem dX12_filterMine_136 : decode cX12_filterMine 136 = .ok (.iinc 4 1, 3) := by decide +kernel
theorem dX12_filterMine_139 : decode cX12_filterMine 139 = .ok (.goto (-94), 3) := by decide +kernel
theorem dX12_filterMine_142 : decode cX12_filterMine 142 = .ok (.return_, 1) := by decide +kernel
theorem v_X12_filterMine_0 {cs : Cs} {Q : Option AV → Mm → Prop} {MI ML : Nat → Nat → Int} {d e nw th x : Nat} {l1 : Int}
    (h : wp cs mX12_filterMine KD Q 4 [some (vR 124), some (vI l1), some (vI 0), some (vI 0), none] [] (KD, MI, ML, (GR d e nw th x))) :
    wp cs mX12_filterMine KD Q 0 (padL [vR 124, vI l1] 5) [] (KD, MI, ML, (GR d e nw th x)) := by
  refine wp_L (L' := [some (vR 124), some (vI l1), none, none, none]) rfl ?_
  refine wp_iconst dX12_filterMine_0 (by decide) ?_
  refine wp_istore_n dX12_filterMine_1 rfl (by decide) (wp_L (L' := [some (vR 124), some (vI l1), some (vI 0), none, none]) rfl ?_)
  refine wp_iconst dX12_filterMine_2 (by decide) ?_
  refine wp_istore_n dX12_filterMine_3 rfl (by decide) (wp_L (L' := [some (vR 124), some (vI l1), some (vI 0), some (vI 0), none]) rfl ?_)
  exact h
theorem v_X12_filterMine_4 {cs : Cs} {Q : Option AV → Mm → Prop} {MI ML : Nat → Nat → Int} {d e nw th x : Nat} {l1 l2 l3 : Int}
    (h : (0 ≤ (MI 124 7) ∧ (MI 124 7) < 2) ∧ ((l3 < (MI 129 (MI 124 7).toNat) → (0 ≤ l3 ∧ l3 < 600) ∧ (((MI 179 l3.toNat) = 0 → (-2147483648 ≤ l3 + 1 ∧ l3 + 1 < 2147483648) ∧ wp cs mX12_filterMine KD Q 4 [some (vR 124), some (vI l1), some (vI l2), some (vI (l3 + 1)), none] [] (KD, MI, ML, (GR d e nw th x))) ∧ ((MI 179 l3.toNat) ≠ 0 → (-2147483648 ≤ l2 + 1 ∧ l2 + 1 < 2147483648) ∧ (-2147483648 ≤ l3 + 1 ∧ l3 + 1 < 2147483648) ∧ wp cs mX12_filterMine KD Q 4 [some (vR 124), some (vI l1), some (vI (l2 + 1)), some (vI (l3 + 1)), none] [] (KD, MI, ML, (GR d e nw th x))))) ∧ ((MI 129 (MI 124 7).toNat) ≤ l3 → wp cs mX12_filterMine KD Q 45 [some (vR 124), some (vI l1), some (vI l2), some (vI 0), some (vI 0)] [] (KD, MI, ML, (GR d e nw th x))))) :
    wp cs mX12_filterMine KD Q 4 [some (vR 124), some (vI l1), some (vI l2), some (vI l3), none] [] (KD, MI, ML, (GR d e nw th x)) := by
  refine wp_iload_n dX12_filterMine_4 rfl rfl ?_
  refine wp_aload_n dX12_filterMine_5 rfl rfl (by first | exact Or.inl (by decide) | exact Or.inl (by omega) | exact Or.inr (by decide) | exact Or.inr (by omega)) ?_
  refine wp_getR dX12_filterMine_6 fX12_27 rfl (by decide) ?_
  refine wp_topR (x' := 129) rfl ?_
  refine wp_aload_n dX12_filterMine_9 rfl rfl (by first | exact Or.inl (by decide) | exact Or.inl (by omega) | exact Or.inr (by decide) | exact Or.inr (by omega)) ?_
  refine wp_getI dX12_filterMine_10 fX12_482 rfl (by decide) ?_
  have c0 := h.1
  replace h := h.2
  refine wp_iald dX12_filterMine_13 rfl (by decide) c0 ?_
  refine wp_icmp_ge (tgt := 40) dX12_filterMine_14 (by decide) (fun h14 => ?_) (fun h14 => ?_)
  · replace h := h.2 h14
    refine wp_iconst dX12_filterMine_40 (by decide) ?_
    refine wp_istore_n dX12_filterMine_41 rfl (by decide) (wp_L (L' := [some (vR 124), some (vI l1), some (vI l2), some (vI 0), none]) rfl ?_)
    refine wp_iconst dX12_filterMine_42 (by decide) ?_
    refine wp_istore dX12_filterMine_43 (by decide) (wp_L (L' := [some (vR 124), some (vI l1), some (vI l2), some (vI 0), some (vI 0)]) rfl ?_)
    exact h
  · replace h := h.1 h14
    refine wp_iload_n dX12_filterMine_17 rfl rfl ?_
    refine wp_aload_n dX12_filterMine_18 rfl rfl (by first | exact Or.inl (by decide) | exact Or.inl (by omega) | exact Or.inr (by decide) | exact Or.inr (by omega)) ?_
    refine wp_getR dX12_filterMine_19 fX12_179 rfl (by decide) ?_
    refine wp_topR (x' := 179) rfl ?_
    refine wp_iload_n dX12_filterMine_22 rfl rfl ?_
    have c1 := h.1
    replace h := h.2
    refine wp_zald dX12_filterMine_23 rfl (by decide) c1 ?_
    refine wp_if_eq (tgt := 31) dX12_filterMine_24 (by decide) (fun h24 => ?_) (fun h24 => ?_)
    · replace h := h.1 h24
      refine wp_iconst dX12_filterMine_31 (by decide) ?_
      refine wp_ok (fun hM hL hS => ?_)
      have hr := hS _ (List.mem_cons_of_mem _ List.mem_cons_self)
      refine wp_iaddr dX12_filterMine_32 (by have := hr; simp only [okV] at this; omega) ?_
      refine wp_topI (x' := l2) (by omega) ?_
      refine wp_istore_n dX12_filterMine_33 rfl (by decide) (wp_L (L' := [some (vR 124), some (vI l1), some (vI l2), some (vI l3), none]) rfl ?_)
      have c2 := h.1
      replace h := h.2
      refine wp_iincr dX12_filterMine_34 rfl (by decide) c2 (wp_L (L' := [some (vR 124), some (vI l1), some (vI l2), some (vI (l3 + 1)), none]) rfl ?_)
      refine wp_goto (tgt := 4) dX12_filterMine_37 (by decide) ?_
      exact h
    · replace h := h.2 h24
      refine wp_iconst dX12_filterMine_27 (by decide) ?_
      refine wp_goto (tgt := 32) dX12_filterMine_28 (by decide) ?_
      have c2 := h.1
      replace h := h.2
      refine wp_iaddr dX12_filterMine_32 c2 ?_
      refine wp_istore_n dX12_filterMine_33 rfl (by decide) (wp_L (L' := [some (vR 124), some (vI l1), some (vI (l2 + 1)), some (vI l3), none]) rfl ?_)
      have c3 := h.1
      replace h := h.2
      refine wp_iincr dX12_filterMine_34 rfl (by decide) c3 (wp_L (L' := [some (vR 124), some (vI l1), some (vI (l2 + 1)), some (vI (l3 + 1)), none]) rfl ?_)
      refine wp_goto (tgt := 4) dX12_filterMine_37 (by decide) ?_
      exact h
theorem v_X12_filterMine_45 {cs : Cs} {Q : Option AV → Mm → Prop} {MI ML : Nat → Nat → Int} {d e nw th x : Nat} {l1 l2 l3 l4 : Int}
    (h : (0 ≤ (MI 124 7) ∧ (MI 124 7) < 2) ∧ ((l4 < (MI 129 (MI 124 7).toNat) → (0 ≤ l4 ∧ l4 < 600) ∧ (((MI 179 l4.toNat) = 0 → (-2147483648 ≤ l4 + 1 ∧ l4 + 1 < 2147483648) ∧ wp cs mX12_filterMine KD Q 45 [some (vR 124), some (vI l1), some (vI l2), some (vI l3), some (vI (l4 + 1))] [] (KD, MI, ML, (GR d e nw th x))) ∧ ((MI 179 l4.toNat) ≠ 0 → (-2147483648 ≤ l3 + 1 ∧ l3 + 1 < 2147483648) ∧ (0 ≤ l1 ∧ l1 < 48) ∧ (((MI 185 l1.toNat) = 0 → (((l3 + 1) = (MI 186 l1.toNat) → ∀ m135, m135 = up2 MI 179 l4.toNat 1 → (-2147483648 ≤ l4 + 1 ∧ l4 + 1 < 2147483648) ∧ wp cs mX12_filterMine KD Q 45 [some (vR 124), some (vI l1), some (vI l2), some (vI (l3 + 1)), some (vI (l4 + 1))] [] (KD, m135, ML, (GR d e nw th x))) ∧ ((l3 + 1) ≠ (MI 186 l1.toNat) → ∀ m135, m135 = up2 MI 179 l4.toNat 0 → (-2147483648 ≤ l4 + 1 ∧ l4 + 1 < 2147483648) ∧ wp cs mX12_filterMine KD Q 45 [some (vR 124), some (vI l1), some (vI l2), some (vI (l3 + 1)), some (vI (l4 + 1))] [] (KD, m135, ML, (GR d e nw th x))))) ∧ ((MI 185 l1.toNat) ≠ 0 → (((MI 185 l1.toNat) = 1 → (((l3 + 1) = l2 → ∀ m135, m135 = up2 MI 179 l4.toNat 1 → (-2147483648 ≤ l4 + 1 ∧ l4 + 1 < 2147483648) ∧ wp cs mX12_filterMine KD Q 45 [some (vR 124), some (vI l1), some (vI l2), some (vI (l3 + 1)), some (vI (l4 + 1))] [] (KD, m135, ML, (GR d e nw th x))) ∧ ((l3 + 1) ≠ l2 → ∀ m135, m135 = up2 MI 179 l4.toNat 0 → (-2147483648 ≤ l4 + 1 ∧ l4 + 1 < 2147483648) ∧ wp cs mX12_filterMine KD Q 45 [some (vR 124), some (vI l1), some (vI l2), some (vI (l3 + 1)), some (vI (l4 + 1))] [] (KD, m135, ML, (GR d e nw th x))))) ∧ ((MI 185 l1.toNat) ≠ 1 → wp cs mX12_passesFilter KD (rI (GR d e nw th x) fun x132 m132 n132 => (x132 = 0 ∨ x132 = 1) ∧ ∀ m135, m135 = up2 m132 179 l4.toNat x132 → (-2147483648 ≤ l4 + 1 ∧ l4 + 1 < 2147483648) ∧ wp cs mX12_filterMine KD Q 45 [some (vR 124), some (vI l1), some (vI l2), some (vI (l3 + 1)), some (vI (l4 + 1))] [] (KD, m135, n132, (GR d e nw th x))) 0 (padL [vR 124, vI l1, vI l4] 5) [] (KD, MI, ML, (GR d e nw th x))))))))) ∧ ((MI 129 (MI 124 7).toNat) ≤ l4 → Q none (MI, ML, (GR d e nw th x))))) :
    wp cs mX12_filterMine KD Q 45 [some (vR 124), some (vI l1), some (vI l2), some (vI l3), some (vI l4)] [] (KD, MI, ML, (GR d e nw th x)) := by
  refine wp_iload dX12_filterMine_45 rfl ?_
  refine wp_aload_n dX12_filterMine_47 rfl rfl (by first | exact Or.inl (by decide) | exact Or.inl (by omega) | exact Or.inr (by decide) | exact Or.inr (by omega)) ?_
  refine wp_getR dX12_filterMine_48 fX12_27 rfl (by decide) ?_
  refine wp_topR (x' := 129) rfl ?_
  refine wp_aload_n dX12_filterMine_51 rfl rfl (by first | exact Or.inl (by decide) | exact Or.inl (by omega) | exact Or.inr (by decide) | exact Or.inr (by omega)) ?_
  refine wp_getI dX12_filterMine_52 fX12_482 rfl (by decide) ?_
  have c0 := h.1
  replace h := h.2
  refine wp_iald dX12_filterMine_55 rfl (by decide) c0 ?_
  refine wp_icmp_ge (tgt := 142) dX12_filterMine_56 (by decide) (fun h56 => ?_) (fun h56 => ?_)
  · replace h := h.2 h56
    exact wp_vret dX12_filterMine_142 rfl (fun _ => h)
  · replace h := h.1 h56
    refine wp_aload_n dX12_filterMine_59 rfl rfl (by first | exact Or.inl (by decide) | exact Or.inl (by omega) | exact Or.inr (by decide) | exact Or.inr (by omega)) ?_
    refine wp_getR dX12_filterMine_60 fX12_179 rfl (by decide) ?_
    refine wp_topR (x' := 179) rfl ?_
    refine wp_iload dX12_filterMine_63 rfl ?_
    have c1 := h.1
    replace h := h.2
    refine wp_zald dX12_filterMine_65 rfl (by decide) c1 ?_
    refine wp_if_eq (tgt := 136) dX12_filterMine_66 (by decide) (fun h66 => ?_) (fun h66 => ?_)
    · replace h := h.1 h66
      have c2 := h.1
      replace h := h.2
      refine wp_iincr dX12_filterMine_136 rfl (by decide) c2 (wp_L (L' := [some (vR 124), some (vI l1), some (vI l2), some (vI l3), some (vI (l4 + 1))]) rfl ?_)
      refine wp_goto (tgt := 45) dX12_filterMine_139 (by decide) ?_
      exact h
    · replace h := h.2 h66
      have c2 := h.1
      replace h := h.2
      refine wp_iincr dX12_filterMine_69 rfl (by decide) c2 (wp_L (L' := [some (vR 124), some (vI l1), some (vI l2), some (vI (l3 + 1)), some (vI l4)]) rfl ?_)
      refine wp_aload_n dX12_filterMine_72 rfl rfl (by first | exact Or.inl (by decide) | exact Or.inl (by omega) | exact Or.inr (by decide) | exact Or.inr (by omega)) ?_
      refine wp_getR dX12_filterMine_73 fX12_179 rfl (by decide) ?_
      refine wp_topR (x' := 179) rfl ?_
      refine wp_iload dX12_filterMine_76 rfl ?_
      refine wp_aload_n dX12_filterMine_78 rfl rfl (by first | exact Or.inl (by decide) | exact Or.inl (by omega) | exact Or.inr (by decide) | exact Or.inr (by omega)) ?_
      refine wp_getR dX12_filterMine_79 fX12_197 rfl (by decide) ?_
      refine wp_topR (x' := 185) rfl ?_
      refine wp_iload_n dX12_filterMine_82 rfl rfl ?_
      refine wp_pc (pc' := 83) rfl ?_
      have c3 := h.1
      replace h := h.2
      refine wp_iald dX12_filterMine_83 rfl (by decide) c3 ?_
      refine wp_if_ne (tgt := 105) dX12_filterMine_84 (by decide) (fun h84 => ?_) (fun h84 => ?_)
      · replace h := h.2 h84
        refine wp_aload_n dX12_filterMine_105 rfl rfl (by first | exact Or.inl (by decide) | exact Or.inl (by omega) | exact Or.inr (by decide) | exact Or.inr (by omega)) ?_
        refine wp_getR dX12_filterMine_106 fX12_197 rfl (by decide) ?_
        refine wp_topR (x' := 185) rfl ?_
        refine wp_iload_n dX12_filterMine_109 rfl rfl ?_
        refine wp_iald dX12_filterMine_110 rfl (by decide) c3 ?_
        refine wp_iconst dX12_filterMine_111 (by decide) ?_
        refine wp_icmp_ne (tgt := 128) dX12_filterMine_112 (by decide) (fun h112 => ?_) (fun h112 => ?_)
        · replace h := h.2 h112
          refine wp_aload_n dX12_filterMine_128 rfl rfl (by first | exact Or.inl (by decide) | exact Or.inl (by omega) | exact Or.inr (by decide) | exact Or.inr (by omega)) ?_
          refine wp_iload_n dX12_filterMine_129 rfl rfl ?_
          refine wp_iload dX12_filterMine_130 rfl ?_
          refine wp_cVq (n := 2) (mt' := mX12_passesFilter) (as := [vI l1, vI l4]) (rest := [vI l4, vR 179]) _ dX12_filterMine_132 lX12_600 kX12_passesFilter vX12_passesFilter (by decide) (by decide +kernel) rfl (Nat.le_of_ble_eq_true rfl) (by decide) rfl rfl rfl (Nat.le_of_ble_eq_true rfl) (fun hM hS => h) (fun r M' hq hM => ?_)
          obtain ⟨x132, m132, n132, rfl, rfl, h⟩ := rI_out hq
          have c4 := h.1
          replace h := h.2
          refine wp_zast dX12_filterMine_135 rfl (by decide) c1 c4 ?_
          refine wp_gI (fun m135 e135 => ?_)
          replace h := h m135 e135
          have c5 := h.1
          replace h := h.2
          refine wp_iincr dX12_filterMine_136 rfl (by decide) c5 (wp_L (L' := [some (vR 124), some (vI l1), some (vI l2), some (vI (l3 + 1)), some (vI (l4 + 1))]) rfl ?_)
          refine wp_goto (tgt := 45) dX12_filterMine_139 (by decide) ?_
          exact h
        · replace h := h.1 h112
          refine wp_iload_n dX12_filterMine_115 rfl rfl ?_
          refine wp_iload_n dX12_filterMine_116 rfl rfl ?_
          refine wp_icmp_ne (tgt := 124) dX12_filterMine_117 (by decide) (fun h117 => ?_) (fun h117 => ?_)
          · replace h := h.2 h117
            refine wp_iconst dX12_filterMine_124 (by decide) ?_
            refine wp_goto (tgt := 135) dX12_filterMine_125 (by decide) ?_
            refine wp_zast dX12_filterMine_135 rfl (by decide) c1 (by decide) ?_
            refine wp_gI (fun m135 e135 => ?_)
            replace h := h m135 e135
            have c4 := h.1
            replace h := h.2
            refine wp_iincr dX12_filterMine_136 rfl (by decide) c4 (wp_L (L' := [some (vR 124), some (vI l1), some (vI l2), some (vI (l3 + 1)), some (vI (l4 + 1))]) rfl ?_)
            refine wp_goto (tgt := 45) dX12_filterMine_139 (by decide) ?_
            exact h
          · replace h := h.1 h117
            refine wp_iconst dX12_filterMine_120 (by decide) ?_
            refine wp_goto (tgt := 135) dX12_filterMine_121 (by decide) ?_
            refine wp_zast dX12_filterMine_135 rfl (by decide) c1 (by decide) ?_
            refine wp_gI (fun m135 e135 => ?_)
            replace h := h m135 e135
            have c4 := h.1
            replace h := h.2
            refine wp_iincr dX12_filterMine_136 rfl (by decide) c4 (wp_L (L' := [some (vR 124), some (vI l1), some (vI l2), some (vI (l3 + 1)), some (vI (l4 + 1))]) rfl ?_)
            refine wp_goto (tgt := 45) dX12_filterMine_139 (by decide) ?_
            exact h
      · replace h := h.1 h84
        refine wp_iload_n dX12_filterMine_87 rfl rfl ?_
        refine wp_aload_n dX12_filterMine_88 rfl rfl (by first | exact Or.inl (by decide) | exact Or.inl (by omega) | exact Or.inr (by decide) | exact Or.inr (by omega)) ?_
        refine wp_getR dX12_filterMine_89 fX12_200 rfl (by decide) ?_
        refine wp_topR (x' := 186) rfl ?_
        refine wp_iload_n dX12_filterMine_92 rfl rfl ?_
        refine wp_iald dX12_filterMine_93 rfl (by decide) c3 ?_
        refine wp_icmp_ne (tgt := 101) dX12_filterMine_94 (by decide) (fun h94 => ?_) (fun h94 => ?_)
        · replace h := h.2 h94
          refine wp_iconst dX12_filterMine_101 (by decide) ?_
          refine wp_goto (tgt := 135) dX12_filterMine_102 (by decide) ?_
          refine wp_zast dX12_filterMine_135 rfl (by decide) c1 (by decide) ?_
          refine wp_gI (fun m135 e135 => ?_)
          replace h := h m135 e135
          have c4 := h.1
          replace h := h.2
          refine wp_iincr dX12_filterMine_136 rfl (by decide) c4 (wp_L (L' := [some (vR 124), some (vI l1), some (vI l2), some (vI (l3 + 1)), some (vI (l4 + 1))]) rfl ?_)
          refine wp_goto (tgt := 45) dX12_filterMine_139 (by decide) ?_
          exact h
        · replace h := h.1 h94
          refine wp_iconst dX12_filterMine_97 (by decide) ?_
          refine wp_goto (tgt := 135) dX12_filterMine_98 (by decide) ?_
          refine wp_zast dX12_filterMine_135 rfl (by decide) c1 (by decide) ?_
          refine wp_gI (fun m135 e135 => ?_)
          replace h := h m135 e135
          have c4 := h.1
          replace h := h.2
          refine wp_iincr dX12_filterMine_136 rfl (by decide) c4 (wp_L (L' := [some (vR 124), some (vI l1), some (vI l2), some (vI (l3 + 1)), some (vI (l4 + 1))]) rfl ?_)
          refine wp_goto (tgt := 45) dX12_filterMine_139 (by decide) ?_
          exact h
theorem dX12_goStep_0 : decode cX12_goStep 0 = .ok (.aload_n 0, 1) := by decide +kernel
theorem dX12_goStep_1 : decode cX12_goStep 1 = .ok (.getfield 27, 3) := by decide +kernel
theorem dX12_goStep_4 : decode cX12_goStep 4 = .ok (.aload_n 0, 1) := by decide +kernel
theorem dX12_goStep_5 : decode cX12_goStep 5 = .ok (.getfield 482, 3) := by decide +kernel
theorem dX12_goStep_8 : decode cX12_goStep 8 = .ok (.iaload, 1) := by decide +kernel
theorem dX12_goStep_9 : decode cX12_goStep 9 = .ok (.istore_n 2, 1) := by decide +kernel
theorem dX12_goStep_10 : decode cX12_goStep 10 = .ok (.aload_n 0, 1) := by decide +kernel
theorem dX12_goStep_11 : decode cX12_goStep 11 = .ok (.getfield 185, 3) := by decide +kernel
theorem dX12_goStep_14 : decode cX12_goStep 14 = .ok (.iload_n 1, 1) := by decide +kernel
theorem dX12_goStep_15 : decode cX12_goStep 15 = .ok (.baload, 1) := by decide +kernel
theorem dX12_goStep_16 : decode cX12_goStep 16 = .ok (.ifCond .eq 128, 3) := by decide +kernel
theorem dX12_goStep_19 : decode cX12_goStep 19 = .ok (.iconst 0, 1) := by decide +kernel
theorem dX12_goStep_20 : decode cX12_goStep 20 = .ok (.istore_n 3, 1) := by decide +kernel
theorem dX12_goStep_21 : decode cX12_goStep 21 = .ok (.iload_n 3, 1) := by decide +kernel
theorem dX12_goStep_22 : decode cX12_goStep 22 = .ok (.iload_n 2, 1) := by decide +kernel
theorem dX12_goStep_23 : decode cX12_goStep 23 = .ok (.if_icmp .ge 96, 3) := by decide +kernel
theorem dX12_goStep_26 : decode cX12_goStep 26 = .ok (.aload_n 0, 1) := by decide +kernel
theorem dX12_goStep_27 : decode cX12_goStep 27 = .ok (.getfield 176, 3) := by decide +kernel
theorem dX12_goStep_30 : decode cX12_goStep 30 = .ok (.iload_n 3, 1) := by decide +kernel
theorem dX12_goStep_31 : decode cX12_goStep 31 = .ok (.iconst 0, 1) := by decide +kernel
theorem dX12_goStep_32 : decode cX12_goStep 32 = .ok (.bastore, 1) := by decide +kernel
theorem dX12_goStep_33 : decode cX12_goStep 33 = .ok (.iconst 0, 1) := by decide +kernel
theorem dX12_goStep_34 : decode cX12_goStep 34 = .ok (.istore 4, 2) := by decide +kernel
theorem dX12_goStep_36 : decode cX12_goStep 36 = .ok (.iload 4, 2) := by decide +kernel
theorem dX12_goStep_38 : decode cX12_goStep 38 = .ok (.iload_n 3, 1) := by decide +kernel
theorem dX12_goStep_39 : decode cX12_goStep 39 = .ok (.if_icmp .gt 74, 3) := by decide +kernel
theorem dX12_goStep_42 : decode cX12_goStep 42 = .ok (.aload_n 0, 1) := by decide +kernel
theorem dX12_goStep_43 : decode cX12_goStep 43 = .ok (.getfield 176, 3) := by decide +kernel
theorem dX12_goStep_46 : decode cX12_goStep 46 = .ok (.iload_n 3, 1) := by decide +kernel
theorem dX12_goStep_47 : decode cX12_goStep 47 = .ok (.aload_n 0, 1) := by decide +kernel
theorem dX12_goStep_48 : decode cX12_goStep 48 = .ok (.getfield 176, 3) := by decide +kernel
theorem dX12_goStep_51 : decode cX12_goStep 51 = .ok (.iload_n 3, 1) := by decide +kernel
theorem dX12_goStep_52 : decode cX12_goStep 52 = .ok (.baload, 1) := by decide +kernel
theorem dX12_goStep_53 : decode cX12_goStep 53 = .ok (.ifCond .ne 48, 3) := by decide +kernel
theorem dX12_goStep_56 : decode cX12_goStep 56 = .ok (.aload_n 0, 1) := by decide +kernel
theorem dX12_goStep_57 : decode cX12_goStep 57 = .ok (.getfield 173, 3) := by decide +kernel
theorem dX12_goStep_60 : decode cX12_goStep 60 = .ok (.iload 4, 2) := by decide +kernel
theorem dX12_goStep_62 : decode cX12_goStep 62 = .ok (.baload, 1) := by decide +kernel
theorem dX12_goStep_63 : decode cX12_goStep 63 = .ok (.ifCond .eq 42, 3) := by decide +kernel
theorem dX12_goStep_66 : decode cX12_goStep 66 = .ok (.iload 4, 2) := by decide +kernel
theorem dX12_goStep_68 : decode cX12_goStep 68 = .ok (.iload_n 3, 1) := by decide +kernel
theorem dX12_goStep_69 : decode cX12_goStep 69 = .ok (.if_icmp .eq 32, 3) := by decide +kernel
theorem dX12_goStep_72 : decode cX12_goStep 72 = .ok (.aload_n 0, 1) := by decide +kernel
theorem dX12_goStep_73 : decode cX12_goStep 73 = .ok (.getfield 31, 3) := by decide +kernel
theorem dX12_goStep_76 : decode cX12_goStep 76 = .ok (.sipush 600, 3) := by decide +kernel
theorem dX12_goStep_79 : decode cX12_goStep 79 = .ok (.aload_n 0, 1) := by decide +kernel
theorem dX12_goStep_80 : decode cX12_goStep 80 = .ok (.getfield 482, 3) := by decide +kernel
theorem dX12_goStep_83 : decode cX12_goStep 83 = .ok (.imul, 1) := by decide +kernel
theorem dX12_goStep_84 : decode cX12_goStep 84 = .ok (.iload_n 3, 1) := by decide +kernel
theorem dX12_goStep_85 : decode cX12_goStep 85 = .ok (.iadd, 1) := by decide +kernel
theorem dX12_goStep_86 : decode cX12_goStep 86 = .ok (.iaload, 1) := by decide +kernel
theorem dX12_goStep_87 : decode cX12_goStep 87 = .ok (.iconst 1, 1) := by decide +kernel
theorem dX12_goStep_88 : decode cX12_goStep 88 = .ok (.if_icmp .ne 17, 3) := by decide +kernel
theorem dX12_goStep_91 : decode cX12_goStep 91 = .ok (.aload_n 0, 1) := by decide +kernel
theorem dX12_goStep_92 : decode cX12_goStep 92 = .ok (.iload_n 3, 1) := by decide +kernel
theorem dX12_goStep_93 : decode cX12_goStep 93 = .ok (.iload 4, 2) := by decide +kernel
theorem dX12_goStep_95 : decode cX12_goStep 95 = .ok (.invokevirtual 603, 3) := by decide +kernel
theorem dX12_goStep_98 : decode cX12_goStep 98 = .ok (.ifCond .eq 7, 3) := by decide +kernel
theorem dX12_goStep_101 : decode cX12_goStep 101 = .ok (.iconst 1, 1) := by decide +kernel
theorem dX12_goStep_102 : decode cX12_goStep 102 = .ok (.goto 4, 3) := by decide +kernel
theorem dX12_goStep_105 : decode cX12_goStep 105 = .ok (.iconst 0, 1) := by decide +kernel
theorem dX12_goStep_106 : decode cX12_goStep 106 = .ok (.bastore, 1) := by decide +kernel
theorem dX12_goStep_107 : decode cX12_goStep 107 = .ok (.iinc 4 1, 3) := by decide +kernel
theorem dX12_goStep_110 : decode cX12_goStep 110 = .ok (.goto (-74), 3) := by decide +kernel
theorem dX12_goStep_113 : decode cX12_goStep 113 = .ok (.iinc 3 1, 3) := by decide +kernel
theorem dX12_goStep_116 : decode cX12_goStep 116 = .ok (.goto (-95), 3) := by decide +kernel
theorem dX12_goStep_119 : decode cX12_goStep 119 = .ok (.iconst 0, 1) := by decide +kernel
theorem dX12_goStep_120 : decode cX12_goStep 120 = .ok (.istore_n 3, 1) := by decide +kernel
theorem dX12_goStep_121 : decode cX12_goStep 121 = .ok (.iload_n 3, 1) := by decide +kernel
theorem dX12_goStep_122 : decode cX12_goStep 122 = .ok (.iload_n 2, 1) := by decide +kernel
theorem dX12_goStep_123 : decode cX12_goStep 123 = .ok (.if_icmp .ge 21, 3) := by decide +kernel
theorem dX12_goStep_126 : decode cX12_goStep 126 = .ok (.aload_n 0, 1) := by decide +kernel
theorem dX12_goStep_127 : decode cX12_goStep 127 = .ok (.getfield 173, 3) := by decide +kernel
theorem dX12_goStep_130 : decode cX12_goStep 130 = .ok (.iload_n 3, 1) := by decide +kernel
theorem dX12_goStep_131 : decode cX12_goStep 131 = .ok (.aload_n 0, 1) := by decide +kernel
theorem dX12_goStep_132 : decode cX12_goStep 132 = .ok (.getfield 176, 3) := by decide +kernel
theorem dX12_goStep_135 : decode cX12_goStep 135 = .ok (.iload_n 3, 1) := by decide +kernel
theorem dX12_goStep_136 : decode cX12_goStep 136 = .ok (.baload, 1) := by decide +kernel
theorem dX12_goStep_137 : decode cX12_goStep 137 = .ok (.bastore, 1) := by decide +kernel
theorem dX12_goStep_138 : decode cX12_goStep 138 = .ok (.iinc 3 1, 3) := by decide +kernel
theorem dX12_goStep_141 : decode cX12_goStep 141 = .ok (.goto (-20), 3) := by decide +kernel
theorem dX12_goStep_144 : decode cX12_goStep 144 = .ok (.iconst 0, 1) := by decide +kernel
theorem dX12_goStep_145 : decode cX12_goStep 145 = .ok (.istore_n 3, 1) := by decide +kernel
theorem dX12_goStep_146 : decode cX12_goStep 146 = .ok (.iload_n 3, 1) := by decide +kernel
theorem dX12_goStep_147 : decode cX12_goStep 147 = .ok (.iload_n 2, 1) := by decide +kernel
theorem dX12_goStep_148 : decode cX12_goStep 148 = .ok (.if_icmp .ge 16, 3) := by decide +kernel
theorem dX12_goStep_151 : decode cX12_goStep 151 = .ok (.aload_n 0, 1) := by decide +kernel
theorem dX12_goStep_152 : decode cX12_goStep 152 = .ok (.getfield 176, 3) := by decide +kernel
theorem dX12_goStep_155 : decode cX12_goStep 155 = .ok (.iload_n 3, 1) := by decide +kernel
theorem dX12_goStep_156 : decode cX12_goStep 156 = .ok (.iconst 0, 1) := by decide +kernel
theorem dX12_goStep_157 : decode cX12_goStep 157 = .ok (.bastore, 1) := by decide +kernel
theorem dX12_goStep_158 : decode cX12_goStep 158 = .ok (.iinc 3 1, 3) := by decide +kernel
theorem dX12_goStep_161 : decode cX12_goStep 161 = .ok (.goto (-15), 3) := by decide +kernel
theorem dX12_goStep_164 : decode cX12_goStep 164 = .ok (.iconst 0, 1) := by decide +kernel
theorem dX12_goStep_165 : decode cX12_goStep 165 = .ok (.istore_n 3, 1) := by decide +kernel
theorem dX12_goStep_166 : decode cX12_goStep 166 = .ok (.iload_n 3, 1) := by decide +kernel
theorem dX12_goStep_167 : decode cX12_goStep 167 = .ok (.iload_n 2, 1) := by decide +kernel
theorem dX12_goStep_168 : decode cX12_goStep 168 = .ok (.if_icmp .ge 128, 3) := by decide +kernel
theorem dX12_goStep_171 : decode cX12_goStep 171 = .ok (.aload_n 0, 1) := by decide +kernel
theorem dX12_goStep_172 : decode cX12_goStep 172 = .ok (.getfield 173, 3) := by decide +kernel
theorem dX12_goStep_175 : decode cX12_goStep 175 = .ok (.iload_n 3, 1) := by decide +kernel
theorem dX12_goStep_176 : decode cX12_goStep 176 = .ok (.baload, 1) := by decide +kernel
theorem dX12_goStep_177 : decode cX12_goStep 177 = .ok (.ifCond .ne 6, 3) := by decide +kernel
theorem dX12_goStep_180 : decode cX12_goStep 180 = .ok (.goto 110, 3) := by decide +kernel
theorem dX12_goStep_183 : decode cX12_goStep 183 = .ok (.iconst 0, 1) := by decide +kernel
theorem dX12_goStep_184 : decode cX12_goStep 184 = .ok (.istore 4, 2) := by decide +kernel
theorem dX12_goStep_186 : decode cX12_goStep 186 = .ok (.iload 4, 2) := by decide +kernel
theorem dX12_goStep_188 : decode cX12_goStep 188 = .ok (.iload_n 2, 1) := by decide +kernel
theorem dX12_goStep_189 : decode cX12_goStep 189 = .ok (.if_icmp .ge 24, 3) := by decide +kernel
theorem dX12_goStep_192 : decode cX12_goStep 192 = .ok (.aload_n 0, 1) := by decide +kernel
theorem dX12_goStep_193 : decode cX12_goStep 193 = .ok (.getfield 179, 3) := by decide +kernel
theorem dX12_goStep_196 : decode cX12_goStep 196 = .ok (.iload 4, 2) := by decide +kernel
theorem dX12_goStep_198 : decode cX12_goStep 198 = .ok (.aload_n 0, 1) := by decide +kernel
theorem dX12_goStep_199 : decode cX12_goStep 199 = .ok (.iload_n 1, 1) := by decide +kernel
theorem dX12_goStep_200 : decode cX12_goStep 200 = .ok (.iload_n 3, 1) := by decide +kernel
theorem dX12_goStep_201 : decode cX12_goStep 201 = .ok (.iload 4, 2) := by decide +kernel
theorem dX12_goStep_203 : decode cX12_goStep 203 = .ok (.invokevirtual 606, 3) := by decide +kernel
theorem dX12_goStep_206 : decode cX12_goStep 206 = .ok (.bastore, 1) := by decide +kernel
theorem dX12_goStep_207 : decode cX12_goStep 207 = .ok (.iinc 4 1, 3) := by decide +kernel
theorem dX12_goStep_210 : decode cX12_goStep 210 = .ok (.goto (-24), 3) := by decide +kernel
theorem dX12_goStep_213 : decode cX12_goStep 213 = .ok (.iconst 0, 1) := by decide +kernel
theorem dX12_goStep_214 : decode cX12_goStep 214 = .ok (.istore 4, 2) := by decide +kernel
theorem dX12_goStep_216 : decode cX12_goStep 216 = .ok (.iload 4, 2) := by decide +kernel
theorem dX12_goStep_218 : decode cX12_goStep 218 = .ok (.aload_n 0, 1) := by decide +kernel
theorem dX12_goStep_219 : decode cX12_goStep 219 = .ok (.getfield 194, 3) := by decide +kernel
theorem dX12_goStep_222 : decode cX12_goStep 222 = .ok (.iload_n 1, 1) := by decide +kernel
theorem dX12_goStep_223 : decode cX12_goStep 223 = .ok (.iaload, 1) := by decide +kernel
theorem dX12_goStep_224 : decode cX12_goStep 224 = .ok (.if_icmp .ge 19, 3) := by decide +kernel
theorem dX12_goStep_227 : decode cX12_goStep 227 = .ok (.aload_n 0, 1) := by decide +kernel
theorem dX12_goStep_228 : decode cX12_goStep 228 = .ok (.iconst 4, 1) := by decide +kernel
theorem dX12_goStep_229 : decode cX12_goStep 229 = .ok (.iload_n 1, 1) := by decide +kernel
theorem dX12_goStep_230 : decode cX12_goStep 230 = .ok (.imul, 1) := by decide +kernel
theorem dX12_goStep_231 : decode cX12_goStep 231 = .ok (.iload 4, 2) := by decide +kernel
theorem dX12_goStep_233 : decode cX12_goStep 233 = .ok (.iadd, 1) := by decide +kernel
theorem dX12_goStep_234 : decode cX12_goStep 234 = .ok (.invokevirtual 609, 3) := by decide +kernel
theorem dX12_goStep_237 : decode cX12_goStep 237 = .ok (.iinc 4 1, 3) := by decide +kernel
theorem dX12_goStep_240 : decode cX12_goStep 240 = .ok (.goto (-24), 3) := by decide +kernel
theorem dX12_goStep_243 : decode cX12_goStep 243 = .ok (.iconst 0, 1) := by decide +kernel
theorem dX12_goStep_244 : decode cX12_goStep 244 = .ok (.istore 4, 2) := by decide +kernel
theorem dX12_goStep_246 : decode cX12_goStep 246 = .ok (.iload 4, 2) := by decide +kernel
theorem dX12_goStep_248 : decode cX12_goStep 248 = .ok (.iload_n 2, 1) := by decide +kernel
theorem dX12_goStep_249 : decode cX12_goStep 249 = .ok (.if_icmp .ge 41, 3) := by decide +kernel
theorem dX12_goStep_252 : decode cX12_goStep 252 = .ok (.aload_n 0, 1) := by decide +kernel
theorem dX12_goStep_253 : decode cX12_goStep 253 = .ok (.getfield 176, 3) := by decide +kernel
theorem dX12_goStep_256 : decode cX12_goStep 256 = .ok (.iload 4, 2) := by decide +kernel
theorem dX12_goStep_258 : decode cX12_goStep 258 = .ok (.aload_n 0, 1) := by decide +kernel
theorem dX12_goStep_259 : decode cX12_goStep 259 = .ok (.getfield 176, 3) := by decide +kernel
theorem dX12_goStep_262 : decode cX12_goStep 262 = .ok (.iload 4, 2) := by decide +kernel
theorem dX12_goStep_264 : decode cX12_goStep 264 = .ok (.baload, 1) := by decide +kernel
theorem dX12_goStep_265 : decode cX12_goStep 265 = .ok (.ifCond .ne 13, 3) := by decide +kernel
theorem dX12_goStep_268 : decode cX12_goStep 268 = .ok (.aload_n 0, 1) := by decide +kernel
theorem dX12_goStep_269 : decode cX12_goStep 269 = .ok (.getfield 179, 3) := by decide +kernel
theorem dX12_goStep_272 : decode cX12_goStep 272 = .ok (.iload 4, 2) := by decide +kernel
theorem dX12_goStep_274 : decode cX12_goStep 274 = .ok (.baload, 1) := by decide +kernel
theorem dX12_goStep_275 : decode cX12_goStep 275 = .ok (.ifCond .eq 7, 3) := by decide +kernel
theorem dX12_goStep_278 : decode cX12_goStep 278 = .ok (.iconst 1, 1) := by decide +kernel
theorem dX12_goStep_279 : decode cX12_goStep 279 = .ok (.goto 4, 3) := by decide +kernel
theorem dX12_goStep_282 : decode cX12_goStep 282 = .ok (.iconst 0, 1) := by decide +kernel
theorem dX12_goStep_283 : decode cX12_goStep 283 = .ok (.bastore, 1) := by decide +kernel
theorem dX12_goStep_284 : decode cX12_goStep 284 = .ok (.iinc 4 1, 3) := by decide +kernel
theorem dX12_goStep_287 : decode cX12_goStep 287 = .ok (.goto (-41), 3) := by decide +kernel
theorem dX12_goStep_290 : decode cX12_goStep 290 = .ok (.iinc 3 1, 3) := by decide +kernel
theorem dX12_goStep_293 : decode cX12_goStep 293 = .ok (.goto (-127), 3) := by decide +kernel
theorem dX12_goStep_296 : decode cX12_goStep 296 = .ok (.iconst 0, 1) := by decide +kernel
theorem dX12_goStep_297 : decode cX12_goStep 297 = .ok (.istore_n 3, 1) := by decide +kernel
theorem dX12_goStep_298 : decode cX12_goStep 298 = .ok (.iload_n 3, 1) := by decide +kernel
theorem dX12_goStep_299 : decode cX12_goStep 299 = .ok (.iload_n 2, 1) := by decide +kernel
theorem dX12_goStep_300 : decode cX12_goStep 300 = .ok (.if_icmp .ge 21, 3) := by decide +kernel
theorem dX12_goStep_303 : decode cX12_goStep 303 = .ok (.aload_n 0, 1) := by decide +kernel
theorem dX12_goStep_304 : decode cX12_goStep 304 = .ok (.getfield 173, 3) := by decide +kernel
theorem dX12_goStep_307 : decode cX12_goStep 307 = .ok (.iload_n 3, 1) := by decide +kernel
theorem dX12_goStep_308 : decode cX12_goStep 308 = .ok (.aload_n 0, 1) := by decide +kernel
theorem dX12_goStep_309 : decode cX12_goStep 309 = .ok (.getfield 176, 3) := by decide +kernel
theorem dX12_goStep_312 : decode cX12_goStep 312 = .ok (.iload_n 3, 1) := by decide +kernel
theorem dX12_goStep_313 : decode cX12_goStep 313 = .ok (.baload, 1) := by decide +kernel
theorem dX12_goStep_314 : decode cX12_goStep 314 = .ok (.bastore, 1) := by decide +kernel
theorem dX12_goStep_315 : decode cX12_goStep 315 = .ok (.iinc 3 1, 3) := by decide +kernel
theorem dX12_goStep_318 : decode cX12_goStep 318 = .ok (.goto (-20), 3) := by decide +kernel
theorem dX12_goStep_321 : decode cX12_goStep 321 = .ok (.return_, 1) := by decide +kernel
theorem v_X12_goStep_0 {cs : Cs} {Q : Option AV → Mm → Prop} {MI ML : Nat → Nat → Int} {d e nw th x : Nat} {l1 : Int}
    (h : (0 ≤ (MI 124 7) ∧ (MI 124 7) < 2) ∧ (0 ≤ l1 ∧ l1 < 12) ∧ (((MI 181 l1.toNat) = 0 → wp cs mX12_goStep KD Q 146 [some (vR 124), some (vI l1), some (vI (MI 129 (MI 124 7).toNat)), some (vI 0), none] [] (KD, MI, ML, (GR d e nw th x))) ∧ ((MI 181 l1.toNat) ≠ 0 → wp cs mX12_goStep KD Q 21 [some (vR 124), some (vI l1), some (vI (MI 129 (MI 124 7).toNat)), some (vI 0), none] [] (KD, MI, ML, (GR d e nw th x))))) :
    wp cs mX12_goStep KD Q 0 (padL [vR 124, vI l1] 5) [] (KD, MI, ML, (GR d e nw th x)) := by
  refine wp_L (L' := [some (vR 124), some (vI l1), none, none, none]) rfl ?_
  refine wp_aload_n dX12_goStep_0 rfl rfl (by first | exact Or.inl (by decide) | exact Or.inl (by omega) | exact Or.inr (by decide) | exact Or.inr (by omega)) ?_
  refine wp_getR dX12_goStep_1 fX12_27 rfl (by decide) ?_
  refine wp_topR (x' := 129) rfl ?_
  refine wp_aload_n dX12_goStep_4 rfl rfl (by first | exact Or.inl (by decide) | exact Or.inl (by omega) | exact Or.inr (by decide) | exact Or.inr (by omega)) ?_
  refine wp_getI dX12_goStep_5 fX12_482 rfl (by decide) ?_
  have c0 := h.1
  replace h := h.2
  refine wp_iald dX12_goStep_8 rfl (by decide) c0 ?_
  refine wp_istore_n dX12_goStep_9 rfl (by decide) (wp_L (L' := [some (vR 124), some (vI l1), some (vI (MI 129 (MI 124 7).toNat)), none, none]) rfl ?_)
  refine wp_aload_n dX12_goStep_10 rfl rfl (by first | exact Or.inl (by decide) | exact Or.inl (by omega) | exact Or.inr (by decide) | exact Or.inr (by omega)) ?_
  refine wp_pc (pc' := 11) rfl ?_
  refine wp_getR dX12_goStep_11 fX12_185 rfl (by decide) ?_
  refine wp_topR (x' := 181) rfl ?_
  refine wp_iload_n dX12_goStep_14 rfl rfl ?_
  have c1 := h.1
  replace h := h.2
  refine wp_zald dX12_goStep_15 rfl (by decide) c1 ?_
  refine wp_if_eq (tgt := 144) dX12_goStep_16 (by decide) (fun h16 => ?_) (fun h16 => ?_)
  · replace h := h.1 h16
    refine wp_iconst dX12_goStep_144 (by decide) ?_
    refine wp_istore_n dX12_goStep_145 rfl (by decide) (wp_L (L' := [some (vR 124), some (vI l1), some (vI (MI 129 (MI 124 7).toNat)), some (vI 0), none]) rfl ?_)
    exact h
  · replace h := h.2 h16
    refine wp_iconst dX12_goStep_19 (by decide) ?_
    refine wp_istore_n dX12_goStep_20 rfl (by decide) (wp_L (L' := [some (vR 124), some (vI l1), some (vI (MI 129 (MI 124 7).toNat)), some (vI 0), none]) rfl ?_)
    exact h
theorem v_X12_goStep_21 {cs : Cs} {Q : Option AV → Mm → Prop} {MI ML : Nat → Nat → Int} {d e nw th x : Nat} {l1 l2 l3 : Int}
    (h : ((l3 < l2 → (0 ≤ l3 ∧ l3 < 600) ∧ ∀ m32, m32 = up2 MI 178 l3.toNat 0 → wp cs mX12_goStep KD Q 36 [some (vR 124), some (vI l1), some (vI l2), some (vI l3), some (vI 0)] [] (KD, m32, ML, (GR d e nw th x))) ∧ (l2 ≤ l3 → wp cs mX12_goStep KD Q 121 [some (vR 124), some (vI l1), some (vI l2), some (vI 0), none] [] (KD, MI, ML, (GR d e nw th x))))) :
    wp cs mX12_goStep KD Q 21 [some (vR 124), some (vI l1), some (vI l2), some (vI l3), none] [] (KD, MI, ML, (GR d e nw th x)) := by
  refine wp_iload_n dX12_goStep_21 rfl rfl ?_
  refine wp_iload_n dX12_goStep_22 rfl rfl ?_
  refine wp_icmp_ge (tgt := 119) dX12_goStep_23 (by decide) (fun h23 => ?_) (fun h23 => ?_)
  · replace h := h.2 h23
    refine wp_iconst dX12_goStep_119 (by decide) ?_
    refine wp_istore_n dX12_goStep_120 rfl (by decide) (wp_L (L' := [some (vR 124), some (vI l1), some (vI l2), some (vI 0), none]) rfl ?_)
    exact h
  · replace h := h.1 h23
    refine wp_aload_n dX12_goStep_26 rfl rfl (by first | exact Or.inl (by decide) | exact Or.inl (by omega) | exact Or.inr (by decide) | exact Or.inr (by omega)) ?_
    refine wp_getR dX12_goStep_27 fX12_176 rfl (by decide) ?_
    refine wp_topR (x' := 178) rfl ?_
    refine wp_iload_n dX12_goStep_30 rfl rfl ?_
    refine wp_iconst dX12_goStep_31 (by decide) ?_
    have c0 := h.1
    replace h := h.2
    refine wp_zast dX12_goStep_32 rfl (by decide) c0 (by decide) ?_
    refine wp_gI (fun m32 e32 => ?_)
    replace h := h m32 e32
    refine wp_iconst dX12_goStep_33 (by decide) ?_
    refine wp_istore dX12_goStep_34 (by decide) (wp_L (L' := [some (vR 124), some (vI l1), some (vI l2), some (vI l3), some (vI 0)]) rfl ?_)
    exact h
theorem v_X12_goStep_36 {cs : Cs} {Q : Option AV → Mm → Prop} {MI ML : Nat → Nat → Int} {d e nw th x : Nat} {l1 l2 l3 l4 : Int}
    (h : ((l3 < l4 → (-2147483648 ≤ l3 + 1 ∧ l3 + 1 < 2147483648) ∧ wp cs mX12_goStep KD Q 21 [some (vR 124), some (vI l1), some (vI l2), some (vI (l3 + 1)), none] [] (KD, MI, ML, (GR d e nw th x))) ∧ (l4 ≤ l3 → (0 ≤ l3 ∧ l3 < 600) ∧ (((MI 178 l3.toNat) = 0 → (0 ≤ l4 ∧ l4 < 600) ∧ (((MI 177 l4.toNat) = 0 → wp cs mX12_goStep KD Q 106 [some (vR 124), some (vI l1), some (vI l2), some (vI l3), some (vI l4)] [vI 0, vI l3, vR 178] (KD, MI, ML, (GR d e nw th x))) ∧ ((MI 177 l4.toNat) ≠ 0 → ((l4 = l3 → wp cs mX12_goStep KD Q 106 [some (vR 124), some (vI l1), some (vI l2), some (vI l3), some (vI l4)] [vI 1, vI l3, vR 178] (KD, MI, ML, (GR d e nw th x))) ∧ (l4 ≠ l3 → (-2147483648 ≤ 600 * (MI 124 7) ∧ 600 * (MI 124 7) < 2147483648) ∧ (-2147483648 ≤ (600 * (MI 124 7)) + l3 ∧ (600 * (MI 124 7)) + l3 < 2147483648) ∧ (0 ≤ ((600 * (MI 124 7)) + l3) ∧ ((600 * (MI 124 7)) + l3) < 1200) ∧ (((MI 130 ((600 * (MI 124 7)) + l3).toNat) = 1 → wp cs mX12_isWithin KD (rI (GR d e nw th x) fun x95 m95 n95 => ((x95 = 0 → wp cs mX12_goStep KD Q 106 [some (vR 124), some (vI l1), some (vI l2), some (vI l3), some (vI l4)] [vI 0, vI l3, vR 178] (KD, m95, n95, (GR d e nw th x))) ∧ (x95 ≠ 0 → wp cs mX12_goStep KD Q 106 [some (vR 124), some (vI l1), some (vI l2), some (vI l3), some (vI l4)] [vI 1, vI l3, vR 178] (KD, m95, n95, (GR d e nw th x))))) 0 (padL [vR 124, vI l3, vI l4] 5) [] (KD, MI, ML, (GR d e nw th x))) ∧ ((MI 130 ((600 * (MI 124 7)) + l3).toNat) ≠ 1 → wp cs mX12_goStep KD Q 106 [some (vR 124), some (vI l1), some (vI l2), some (vI l3), some (vI l4)] [vI 0, vI l3, vR 178] (KD, MI, ML, (GR d e nw th x))))))))) ∧ ((MI 178 l3.toNat) ≠ 0 → wp cs mX12_goStep KD Q 106 [some (vR 124), some (vI l1), some (vI l2), some (vI l3), some (vI l4)] [vI 1, vI l3, vR 178] (KD, MI, ML, (GR d e nw th x))))))) :
    wp cs mX12_goStep KD Q 36 [some (vR 124), some (vI l1), some (vI l2), some (vI l3), some (vI l4)] [] (KD, MI, ML, (GR d e nw th x)) := by
  refine wp_iload dX12_goStep_36 rfl ?_
  refine wp_iload_n dX12_goStep_38 rfl rfl ?_
  refine wp_icmp_gt (tgt := 113) dX12_goStep_39 (by decide) (fun h39 => ?_) (fun h39 => ?_)
  · replace h := h.1 h39
    have c0 := h.1
    replace h := h.2
    refine wp_iincr dX12_goStep_113 rfl (by decide) c0 (wp_L (L' := [some (vR 124), some (vI l1), some (vI l2), some (vI (l3 + 1)), some (vI l4)]) rfl ?_)
    refine wp_goto (tgt := 21) dX12_goStep_116 (by decide) ?_
    refine wp_forget (L' := [some (vR 124), some (vI l1), some (vI l2), some (vI (l3 + 1)), none]) (by repeat' (first | exact trivial | refine ⟨rfl, ?_⟩)) ?_
    exact h
  · replace h := h.2 h39
    refine wp_aload_n dX12_goStep_42 rfl rfl (by first | exact Or.inl (by decide) | exact Or.inl (by omega) | exact Or.inr (by decide) | exact Or.inr (by omega)) ?_
    refine wp_getR dX12_goStep_43 fX12_176 rfl (by decide) ?_
    refine wp_topR (x' := 178) rfl ?_
    refine wp_iload_n dX12_goStep_46 rfl rfl ?_
    refine wp_aload_n dX12_goStep_47 rfl rfl (by first | exact Or.inl (by decide) | exact Or.inl (by omega) | exact Or.inr (by decide) | exact Or.inr (by omega)) ?_
    refine wp_getR dX12_goStep_48 fX12_176 rfl (by decide) ?_
    refine wp_topR (x' := 178) rfl ?_
    refine wp_iload_n dX12_goStep_51 rfl rfl ?_
    have c0 := h.1
    replace h := h.2
    refine wp_zald dX12_goStep_52 rfl (by decide) c0 ?_
    refine wp_pc (pc' := 53) rfl ?_
    refine wp_if_ne (tgt := 101) dX12_goStep_53 (by decide) (fun h53 => ?_) (fun h53 => ?_)
    · replace h := h.2 h53
      refine wp_iconst dX12_goStep_101 (by decide) ?_
      refine wp_goto (tgt := 106) dX12_goStep_102 (by decide) ?_
      exact h
    · replace h := h.1 h53
      refine wp_aload_n dX12_goStep_56 rfl rfl (by first | exact Or.inl (by decide) | exact Or.inl (by omega) | exact Or.inr (by decide) | exact Or.inr (by omega)) ?_
      refine wp_getR dX12_goStep_57 fX12_173 rfl (by decide) ?_
      refine wp_topR (x' := 177) rfl ?_
      refine wp_iload dX12_goStep_60 rfl ?_
      have c1 := h.1
      replace h := h.2
      refine wp_zald dX12_goStep_62 rfl (by decide) c1 ?_
      refine wp_if_eq (tgt := 105) dX12_goStep_63 (by decide) (fun h63 => ?_) (fun h63 => ?_)
      · replace h := h.1 h63
        refine wp_iconst dX12_goStep_105 (by decide) ?_
        exact h
      · replace h := h.2 h63
        refine wp_iload dX12_goStep_66 rfl ?_
        refine wp_iload_n dX12_goStep_68 rfl rfl ?_
        refine wp_icmp_eq (tgt := 101) dX12_goStep_69 (by decide) (fun h69 => ?_) (fun h69 => ?_)
        · replace h := h.1 h69
          refine wp_iconst dX12_goStep_101 (by decide) ?_
          refine wp_goto (tgt := 106) dX12_goStep_102 (by decide) ?_
          exact h
        · replace h := h.2 h69
          refine wp_aload_n dX12_goStep_72 rfl rfl (by first | exact Or.inl (by decide) | exact Or.inl (by omega) | exact Or.inr (by decide) | exact Or.inr (by omega)) ?_
          refine wp_getR dX12_goStep_73 fX12_31 rfl (by decide) ?_
          refine wp_topR (x' := 130) rfl ?_
          refine wp_sipush dX12_goStep_76 (by decide +kernel) (by decide) ?_
          refine wp_aload_n dX12_goStep_79 rfl rfl (by first | exact Or.inl (by decide) | exact Or.inl (by omega) | exact Or.inr (by decide) | exact Or.inr (by omega)) ?_
          refine wp_getI dX12_goStep_80 fX12_482 rfl (by decide) ?_
          have c2 := h.1
          replace h := h.2
          refine wp_imulr dX12_goStep_83 c2 ?_
          refine wp_iload_n dX12_goStep_84 rfl rfl ?_
          refine wp_pc (pc' := 85) rfl ?_
          have c3 := h.1
          replace h := h.2
          refine wp_iaddr dX12_goStep_85 c3 ?_
          have c4 := h.1
          replace h := h.2
          refine wp_iald dX12_goStep_86 rfl (by decide) c4 ?_
          refine wp_iconst dX12_goStep_87 (by decide) ?_
          refine wp_icmp_ne (tgt := 105) dX12_goStep_88 (by decide) (fun h88 => ?_) (fun h88 => ?_)
          · replace h := h.2 h88
            refine wp_iconst dX12_goStep_105 (by decide) ?_
            exact h
          · replace h := h.1 h88
            refine wp_aload_n dX12_goStep_91 rfl rfl (by first | exact Or.inl (by decide) | exact Or.inl (by omega) | exact Or.inr (by decide) | exact Or.inr (by omega)) ?_
            refine wp_iload_n dX12_goStep_92 rfl rfl ?_
            refine wp_iload dX12_goStep_93 rfl ?_
            refine wp_cVq (n := 2) (mt' := mX12_isWithin) (as := [vI l3, vI l4]) (rest := [vI l3, vR 178]) _ dX12_goStep_95 lX12_603 kX12_isWithin vX12_isWithin (by decide) (by decide +kernel) rfl (Nat.le_of_ble_eq_true rfl) (by decide) rfl rfl rfl (Nat.le_of_ble_eq_true rfl) (fun hM hS => h) (fun r M' hq hM => ?_)
            obtain ⟨x95, m95, n95, rfl, rfl, h⟩ := rI_out hq
            refine wp_if_eq (tgt := 105) dX12_goStep_98 (by decide) (fun h98 => ?_) (fun h98 => ?_)
            · replace h := h.1 h98
              refine wp_iconst dX12_goStep_105 (by decide) ?_
              exact h
            · replace h := h.2 h98
              refine wp_iconst dX12_goStep_101 (by decide) ?_
              refine wp_goto (tgt := 106) dX12_goStep_102 (by decide) ?_
              exact h
theorem v_X12_goStep_106 {cs : Cs} {Q : Option AV → Mm → Prop} {MI ML : Nat → Nat → Int} {d e nw th x : Nat} {l1 l2 l3 l4 s0 s1 : Int}
    (h : (0 ≤ s1 ∧ s1 < 600) ∧ (s0 = 0 ∨ s0 = 1) ∧ ∀ m106, m106 = up2 MI 178 s1.toNat s0 → (-2147483648 ≤ l4 + 1 ∧ l4 + 1 < 2147483648) ∧ wp cs mX12_goStep KD Q 36 [some (vR 124), some (vI l1), some (vI l2), some (vI l3), some (vI (l4 + 1))] [] (KD, m106, ML, (GR d e nw th x))) :
    wp cs mX12_goStep KD Q 106 [some (vR 124), some (vI l1), some (vI l2), some (vI l3), some (vI l4)] [vI s0, vI s1, vR 178] (KD, MI, ML, (GR d e nw th x)) := by
  have c0 := h.1
  replace h := h.2
  have c1 := h.1
  replace h := h.2
  refine wp_zast dX12_goStep_106 rfl (by decide) c0 c1 ?_
  refine wp_gI (fun m106 e106 => ?_)
  replace h := h m106 e106
  have c2 := h.1
  replace h := h.2
  refine wp_iincr dX12_goStep_107 rfl (by decide) c2 (wp_L (L' := [some (vR 124), some (vI l1), some (vI l2), some (vI l3), some (vI (l4 + 1))]) rfl ?_)
  refine wp_goto (tgt := 36) dX12_goStep_110 (by decide) ?_
  exact h
theorem v_X12_goStep_121 {cs : Cs} {Q : Option AV → Mm → Prop} {MI ML : Nat → Nat → Int} {d e nw th x : Nat} {l1 l2 l3 : Int}
    (h : ((l3 < l2 → (0 ≤ l3 ∧ l3 < 600) ∧ ((MI 178 l3.toNat) = 0 ∨ (MI 178 l3.toNat) = 1) ∧ ∀ m137, m137 = up2 MI 177 l3.toNat (MI 178 l3.toNat) → (-2147483648 ≤ l3 + 1 ∧ l3 + 1 < 2147483648) ∧ wp cs mX12_goStep KD Q 121 [some (vR 124), some (vI l1), some (vI l2), some (vI (l3 + 1)), none] [] (KD, m137, ML, (GR d e nw th x))) ∧ (l2 ≤ l3 → wp cs mX12_goStep KD Q 146 [some (vR 124), some (vI l1), some (vI l2), some (vI 0), none] [] (KD, MI, ML, (GR d e nw th x))))) :
    wp cs mX12_goStep KD Q 121 [some (vR 124), some (vI l1), some (vI l2), some (vI l3), none] [] (KD, MI, ML, (GR d e nw th x)) := by
  refine wp_iload_n dX12_goStep_121 rfl rfl ?_
  refine wp_iload_n dX12_goStep_122 rfl rfl ?_
  refine wp_icmp_ge (tgt := 144) dX12_goStep_123 (by decide) (fun h123 => ?_) (fun h123 => ?_)
  · replace h := h.2 h123
    refine wp_iconst dX12_goStep_144 (by decide) ?_
    refine wp_istore_n dX12_goStep_145 rfl (by decide) (wp_L (L' := [some (vR 124), some (vI l1), some (vI l2), some (vI 0), none]) rfl ?_)
    exact h
  · replace h := h.1 h123
    refine wp_aload_n dX12_goStep_126 rfl rfl (by first | exact Or.inl (by decide) | exact Or.inl (by omega) | exact Or.inr (by decide) | exact Or.inr (by omega)) ?_
    refine wp_getR dX12_goStep_127 fX12_173 rfl (by decide) ?_
    refine wp_topR (x' := 177) rfl ?_
    refine wp_iload_n dX12_goStep_130 rfl rfl ?_
    refine wp_aload_n dX12_goStep_131 rfl rfl (by first | exact Or.inl (by decide) | exact Or.inl (by omega) | exact Or.inr (by decide) | exact Or.inr (by omega)) ?_
    refine wp_getR dX12_goStep_132 fX12_176 rfl (by decide) ?_
    refine wp_topR (x' := 178) rfl ?_
    refine wp_iload_n dX12_goStep_135 rfl rfl ?_
    have c0 := h.1
    replace h := h.2
    refine wp_zald dX12_goStep_136 rfl (by decide) c0 ?_
    refine wp_pc (pc' := 137) rfl ?_
    have c1 := h.1
    replace h := h.2
    refine wp_zast dX12_goStep_137 rfl (by decide) c0 c1 ?_
    refine wp_gI (fun m137 e137 => ?_)
    replace h := h m137 e137
    have c2 := h.1
    replace h := h.2
    refine wp_iincr dX12_goStep_138 rfl (by decide) c2 (wp_L (L' := [some (vR 124), some (vI l1), some (vI l2), some (vI (l3 + 1)), none]) rfl ?_)
    refine wp_goto (tgt := 121) dX12_goStep_141 (by decide) ?_
    exact h
theorem v_X12_goStep_146 {cs : Cs} {Q : Option AV → Mm → Prop} {MI ML : Nat → Nat → Int} {d e nw th x : Nat} {l1 l2 l3 : Int}
    (h : ((l3 < l2 → (0 ≤ l3 ∧ l3 < 600) ∧ ∀ m157, m157 = up2 MI 178 l3.toNat 0 → (-2147483648 ≤ l3 + 1 ∧ l3 + 1 < 2147483648) ∧ wp cs mX12_goStep KD Q 146 [some (vR 124), some (vI l1), some (vI l2), some (vI (l3 + 1)), none] [] (KD, m157, ML, (GR d e nw th x))) ∧ (l2 ≤ l3 → wp cs mX12_goStep KD Q 166 [some (vR 124), some (vI l1), some (vI l2), some (vI 0), none] [] (KD, MI, ML, (GR d e nw th x))))) :
    wp cs mX12_goStep KD Q 146 [some (vR 124), some (vI l1), some (vI l2), some (vI l3), none] [] (KD, MI, ML, (GR d e nw th x)) := by
  refine wp_iload_n dX12_goStep_146 rfl rfl ?_
  refine wp_iload_n dX12_goStep_147 rfl rfl ?_
  refine wp_icmp_ge (tgt := 164) dX12_goStep_148 (by decide) (fun h148 => ?_) (fun h148 => ?_)
  · replace h := h.2 h148
    refine wp_iconst dX12_goStep_164 (by decide) ?_
    refine wp_istore_n dX12_goStep_165 rfl (by decide) (wp_L (L' := [some (vR 124), some (vI l1), some (vI l2), some (vI 0), none]) rfl ?_)
    exact h
  · replace h := h.1 h148
    refine wp_aload_n dX12_goStep_151 rfl rfl (by first | exact Or.inl (by decide) | exact Or.inl (by omega) | exact Or.inr (by decide) | exact Or.inr (by omega)) ?_
    refine wp_getR dX12_goStep_152 fX12_176 rfl (by decide) ?_
    refine wp_topR (x' := 178) rfl ?_
    refine wp_iload_n dX12_goStep_155 rfl rfl ?_
    refine wp_iconst dX12_goStep_156 (by decide) ?_
    have c0 := h.1
    replace h := h.2
    refine wp_zast dX12_goStep_157 rfl (by decide) c0 (by decide) ?_
    refine wp_gI (fun m157 e157 => ?_)
    replace h := h m157 e157
    have c1 := h.1
    replace h := h.2
    refine wp_iincr dX12_goStep_158 rfl (by decide) c1 (wp_L (L' := [some (vR 124), some (vI l1), some (vI l2), some (vI (l3 + 1)), none]) rfl ?_)
    refine wp_goto (tgt := 146) dX12_goStep_161 (by decide) ?_
    exact h
theorem v_X12_goStep_166 {cs : Cs} {Q : Option AV → Mm → Prop} {MI ML : Nat → Nat → Int} {d e nw th x : Nat} {l1 l2 l3 : Int}
    (h : ((l3 < l2 → (0 ≤ l3 ∧ l3 < 600) ∧ (((MI 177 l3.toNat) = 0 → (-2147483648 ≤ l3 + 1 ∧ l3 + 1 < 2147483648) ∧ wp cs mX12_goStep KD Q 166 [some (vR 124), some (vI l1), some (vI l2), some (vI (l3 + 1)), none] [] (KD, MI, ML, (GR d e nw th x))) ∧ ((MI 177 l3.toNat) ≠ 0 → wp cs mX12_goStep KD Q 186 [some (vR 124), some (vI l1), some (vI l2), some (vI l3), some (vI 0)] [] (KD, MI, ML, (GR d e nw th x))))) ∧ (l2 ≤ l3 → wp cs mX12_goStep KD Q 298 [some (vR 124), some (vI l1), some (vI l2), some (vI 0), none] [] (KD, MI, ML, (GR d e nw th x))))) :
    wp cs mX12_goStep KD Q 166 [some (vR 124), some (vI l1), some (vI l2), some (vI l3), none] [] (KD, MI, ML, (GR d e nw th x)) := by
  refine wp_iload_n dX12_goStep_166 rfl rfl ?_
  refine wp_iload_n dX12_goStep_167 rfl rfl ?_
  refine wp_icmp_ge (tgt := 296) dX12_goStep_168 (by decide) (fun h168 => ?_) (fun h168 => ?_)
  · replace h := h.2 h168
    refine wp_iconst dX12_goStep_296 (by decide) ?_
    refine wp_istore_n dX12_goStep_297 rfl (by decide) (wp_L (L' := [some (vR 124), some (vI l1), some (vI l2), some (vI 0), none]) rfl ?_)
    exact h
  · replace h := h.1 h168
    refine wp_aload_n dX12_goStep_171 rfl rfl (by first | exact Or.inl (by decide) | exact Or.inl (by omega) | exact Or.inr (by decide) | exact Or.inr (by omega)) ?_
    refine wp_getR dX12_goStep_172 fX12_173 rfl (by decide) ?_
    refine wp_topR (x' := 177) rfl ?_
    refine wp_iload_n dX12_goStep_175 rfl rfl ?_
    have c0 := h.1
    replace h := h.2
    refine wp_zald dX12_goStep_176 rfl (by decide) c0 ?_
    refine wp_if_ne (tgt := 183) dX12_goStep_177 (by decide) (fun h177 => ?_) (fun h177 => ?_)
    · replace h := h.2 h177
      refine wp_iconst dX12_goStep_183 (by decide) ?_
      refine wp_istore dX12_goStep_184 (by decide) (wp_L (L' := [some (vR 124), some (vI l1), some (vI l2), some (vI l3), some (vI 0)]) rfl ?_)
      exact h
    · replace h := h.1 h177
      refine wp_goto (tgt := 290) dX12_goStep_180 (by decide) ?_
      have c1 := h.1
      replace h := h.2
      refine wp_iincr dX12_goStep_290 rfl (by decide) c1 (wp_L (L' := [some (vR 124), some (vI l1), some (vI l2), some (vI (l3 + 1)), none]) rfl ?_)
      refine wp_goto (tgt := 166) dX12_goStep_293 (by decide) ?_
      exact h
theorem v_X12_goStep_186 {cs : Cs} {Q : Option AV → Mm → Prop} {MI ML : Nat → Nat → Int} {d e nw th x : Nat} {l1 l2 l3 l4 : Int}
    (h : ((l4 < l2 → wp cs mX12_leads KD (rI (GR d e nw th x) fun x203 m203 n203 => (0 ≤ l4 ∧ l4 < 600) ∧ (x203 = 0 ∨ x203 = 1) ∧ ∀ m206, m206 = up2 m203 179 l4.toNat x203 → (-2147483648 ≤ l4 + 1 ∧ l4 + 1 < 2147483648) ∧ wp cs mX12_goStep KD Q 186 [some (vR 124), some (vI l1), some (vI l2), some (vI l3), some (vI (l4 + 1))] [] (KD, m206, n203, (GR d e nw th x))) 0 (padL [vR 124, vI l1, vI l3, vI l4] 6) [] (KD, MI, ML, (GR d e nw th x))) ∧ (l2 ≤ l4 → wp cs mX12_goStep KD Q 216 [some (vR 124), some (vI l1), some (vI l2), some (vI l3), some (vI 0)] [] (KD, MI, ML, (GR d e nw th x))))) :
    wp cs mX12_goStep KD Q 186 [some (vR 124), some (vI l1), some (vI l2), some (vI l3), some (vI l4)] [] (KD, MI, ML, (GR d e nw th x)) := by
  refine wp_iload dX12_goStep_186 rfl ?_
  refine wp_iload_n dX12_goStep_188 rfl rfl ?_
  refine wp_icmp_ge (tgt := 213) dX12_goStep_189 (by decide) (fun h189 => ?_) (fun h189 => ?_)
  · replace h := h.2 h189
    refine wp_iconst dX12_goStep_213 (by decide) ?_
    refine wp_istore dX12_goStep_214 (by decide) (wp_L (L' := [some (vR 124), some (vI l1), some (vI l2), some (vI l3), some (vI 0)]) rfl ?_)
    exact h
  · replace h := h.1 h189
    refine wp_aload_n dX12_goStep_192 rfl rfl (by first | exact Or.inl (by decide) | exact Or.inl (by omega) | exact Or.inr (by decide) | exact Or.inr (by omega)) ?_
    refine wp_getR dX12_goStep_193 fX12_179 rfl (by decide) ?_
    refine wp_topR (x' := 179) rfl ?_
    refine wp_iload dX12_goStep_196 rfl ?_
    refine wp_aload_n dX12_goStep_198 rfl rfl (by first | exact Or.inl (by decide) | exact Or.inl (by omega) | exact Or.inr (by decide) | exact Or.inr (by omega)) ?_
    refine wp_iload_n dX12_goStep_199 rfl rfl ?_
    refine wp_iload_n dX12_goStep_200 rfl rfl ?_
    refine wp_iload dX12_goStep_201 rfl ?_
    refine wp_pc (pc' := 203) rfl ?_
    refine wp_cVq (n := 3) (mt' := mX12_leads) (as := [vI l1, vI l3, vI l4]) (rest := [vI l4, vR 179]) _ dX12_goStep_203 lX12_606 kX12_leads vX12_leads (by decide) (by decide +kernel) rfl (Nat.le_of_ble_eq_true rfl) (by decide) rfl rfl rfl (Nat.le_of_ble_eq_true rfl) (fun hM hS => h) (fun r M' hq hM => ?_)
    obtain ⟨x203, m203, n203, rfl, rfl, h⟩ := rI_out hq
    have c0 := h.1
    replace h := h.2
    have c1 := h.1
    replace h := h.2
    refine wp_zast dX12_goStep_206 rfl (by decide) c0 c1 ?_
    refine wp_gI (fun m206 e206 => ?_)
    replace h := h m206 e206
    have c2 := h.1
    replace h := h.2
    refine wp_iincr dX12_goStep_207 rfl (by decide) c2 (wp_L (L' := [some (vR 124), some (vI l1), some (vI l2), some (vI l3), some (vI (l4 + 1))]) rfl ?_)
    refine wp_goto (tgt := 186) dX12_goStep_210 (by decide) ?_
    exact h
theorem v_X12_goStep_216 {cs : Cs} {Q : Option AV → Mm → Prop} {MI ML : Nat → Nat → Int} {d e nw th x : Nat} {l1 l2 l3 l4 : Int}
    (h : (0 ≤ l1 ∧ l1 < 12) ∧ ((l4 < (MI 184 l1.toNat) → (-2147483648 ≤ 4 * l1 ∧ 4 * l1 < 2147483648) ∧ (-2147483648 ≤ (4 * l1) + l4 ∧ (4 * l1) + l4 < 2147483648) ∧ wp cs mX12_filterMine KD (rV (GR d e nw th x) fun m234 n234 => (-2147483648 ≤ l4 + 1 ∧ l4 + 1 < 2147483648) ∧ wp cs mX12_goStep KD Q 216 [some (vR 124), some (vI l1), some (vI l2), some (vI l3), some (vI (l4 + 1))] [] (KD, m234, n234, (GR d e nw th x))) 0 (padL [vR 124, vI ((4 * l1) + l4)] 5) [] (KD, MI, ML, (GR d e nw th x))) ∧ ((MI 184 l1.toNat) ≤ l4 → wp cs mX12_goStep KD Q 246 [some (vR 124), some (vI l1), some (vI l2), some (vI l3), some (vI 0)] [] (KD, MI, ML, (GR d e nw th x))))) :
    wp cs mX12_goStep KD Q 216 [some (vR 124), some (vI l1), some (vI l2), some (vI l3), some (vI l4)] [] (KD, MI, ML, (GR d e nw th x)) := by
  refine wp_iload dX12_goStep_216 rfl ?_
  refine wp_aload_n dX12_goStep_218 rfl rfl (by first | exact Or.inl (by decide) | exact Or.inl (by omega) | exact Or.inr (by decide) | exact Or.inr (by omega)) ?_
  refine wp_getR dX12_goStep_219 fX12_194 rfl (by decide) ?_
  refine wp_topR (x' := 184) rfl ?_
  refine wp_iload_n dX12_goStep_222 rfl rfl ?_
  have c0 := h.1
  replace h := h.2
  refine wp_iald dX12_goStep_223 rfl (by decide) c0 ?_
  refine wp_icmp_ge (tgt := 243) dX12_goStep_224 (by decide) (fun h224 => ?_) (fun h224 => ?_)
  · replace h := h.2 h224
    refine wp_iconst dX12_goStep_243 (by decide) ?_
    refine wp_istore dX12_goStep_244 (by decide) (wp_L (L' := [some (vR 124), some (vI l1), some (vI l2), some (vI l3), some (vI 0)]) rfl ?_)
    exact h
  · replace h := h.1 h224
    refine wp_aload_n dX12_goStep_227 rfl rfl (by first | exact Or.inl (by decide) | exact Or.inl (by omega) | exact Or.inr (by decide) | exact Or.inr (by omega)) ?_
    refine wp_iconst dX12_goStep_228 (by decide) ?_
    refine wp_iload_n dX12_goStep_229 rfl rfl ?_
    have c1 := h.1
    replace h := h.2
    refine wp_imulr dX12_goStep_230 c1 ?_
    refine wp_iload dX12_goStep_231 rfl ?_
    have c2 := h.1
    replace h := h.2
    refine wp_iaddr dX12_goStep_233 c2 ?_
    refine wp_cVq (n := 1) (mt' := mX12_filterMine) (as := [vI ((4 * l1) + l4)]) (rest := []) _ dX12_goStep_234 lX12_609 kX12_filterMine vX12_filterMine (by decide) (by decide +kernel) rfl (Nat.le_of_ble_eq_true rfl) (by decide) rfl rfl rfl (Nat.le_of_ble_eq_true rfl) (fun hM hS => h) (fun r M' hq hM => ?_)
    obtain ⟨m234, n234, rfl, rfl, h⟩ := rV_out hq
    have c3 := h.1
    replace h := h.2
    refine wp_iincr dX12_goStep_237 rfl (by decide) c3 (wp_L (L' := [some (vR 124), some (vI l1), some (vI l2), some (vI l3), some (vI (l4 + 1))]) rfl ?_)
    refine wp_goto (tgt := 216) dX12_goStep_240 (by decide) ?_
    exact h
theorem v_X12_goStep_246 {cs : Cs} {Q : Option AV → Mm → Prop} {MI ML : Nat → Nat → Int} {d e nw th x : Nat} {l1 l2 l3 l4 : Int}
    (h : ((l4 < l2 → (0 ≤ l4 ∧ l4 < 600) ∧ (((MI 178 l4.toNat) = 0 → (((MI 179 l4.toNat) = 0 → ∀ m283, m283 = up2 MI 178 l4.toNat 0 → (-2147483648 ≤ l4 + 1 ∧ l4 + 1 < 2147483648) ∧ wp cs mX12_goStep KD Q 246 [some (vR 124), some (vI l1), some (vI l2), some (vI l3), some (vI (l4 + 1))] [] (KD, m283, ML, (GR d e nw th x))) ∧ ((MI 179 l4.toNat) ≠ 0 → ∀ m283, m283 = up2 MI 178 l4.toNat 1 → (-2147483648 ≤ l4 + 1 ∧ l4 + 1 < 2147483648) ∧ wp cs mX12_goStep KD Q 246 [some (vR 124), some (vI l1), some (vI l2), some (vI l3), some (vI (l4 + 1))] [] (KD, m283, ML, (GR d e nw th x))))) ∧ ((MI 178 l4.toNat) ≠ 0 → ∀ m283, m283 = up2 MI 178 l4.toNat 1 → (-2147483648 ≤ l4 + 1 ∧ l4 + 1 < 2147483648) ∧ wp cs mX12_goStep KD Q 246 [some (vR 124), some (vI l1), some (vI l2), some (vI l3), some (vI (l4 + 1))] [] (KD, m283, ML, (GR d e nw th x))))) ∧ (l2 ≤ l4 → (-2147483648 ≤ l3 + 1 ∧ l3 + 1 < 2147483648) ∧ wp cs mX12_goStep KD Q 166 [some (vR 124), some (vI l1), some (vI l2), some (vI (l3 + 1)), none] [] (KD, MI, ML, (GR d e nw th x))))) :
    wp cs mX12_goStep KD Q 246 [some (vR 124), some (vI l1), some (vI l2), some (vI l3), some (vI l4)] [] (KD, MI, ML, (GR d e nw th x)) := by
  refine wp_iload dX12_goStep_246 rfl ?_
  refine wp_iload_n dX12_goStep_248 rfl rfl ?_
  refine wp_icmp_ge (tgt := 290) dX12_goStep_249 (by decide) (fun h249 => ?_) (fun h249 => ?_)
  · replace h := h.2 h249
    have c0 := h.1
    replace h := h.2
    refine wp_iincr dX12_goStep_290 rfl (by decide) c0 (wp_L (L' := [some (vR 124), some (vI l1), some (vI l2), some (vI (l3 + 1)), some (vI l4)]) rfl ?_)
    refine wp_goto (tgt := 166) dX12_goStep_293 (by decide) ?_
    refine wp_forget (L' := [some (vR 124), some (vI l1), some (vI l2), some (vI (l3 + 1)), none]) (by repeat' (first | exact trivial | refine ⟨rfl, ?_⟩)) ?_
    exact h
  · replace h := h.1 h249
    refine wp_aload_n dX12_goStep_252 rfl rfl (by first | exact Or.inl (by decide) | exact Or.inl (by omega) | exact Or.inr (by decide) | exact Or.inr (by omega)) ?_
    refine wp_getR dX12_goStep_253 fX12_176 rfl (by decide) ?_
    refine wp_topR (x' := 178) rfl ?_
    refine wp_iload dX12_goStep_256 rfl ?_
    refine wp_aload_n dX12_goStep_258 rfl rfl (by first | exact Or.inl (by decide) | exact Or.inl (by omega) | exact Or.inr (by decide) | exact Or.inr (by omega)) ?_
    refine wp_getR dX12_goStep_259 fX12_176 rfl (by decide) ?_
    refine wp_topR (x' := 178) rfl ?_
    refine wp_iload dX12_goStep_262 rfl ?_
    have c0 := h.1
    replace h := h.2
    refine wp_zald dX12_goStep_264 rfl (by decide) c0 ?_
    refine wp_pc (pc' := 265) rfl ?_
    refine wp_if_ne (tgt := 278) dX12_goStep_265 (by decide) (fun h265 => ?_) (fun h265 => ?_)
    · replace h := h.2 h265
      refine wp_iconst dX12_goStep_278 (by decide) ?_
      refine wp_goto (tgt := 283) dX12_goStep_279 (by decide) ?_
      refine wp_zast dX12_goStep_283 rfl (by decide) c0 (by decide) ?_
      refine wp_gI (fun m283 e283 => ?_)
      replace h := h m283 e283
      have c1 := h.1
      replace h := h.2
      refine wp_iincr dX12_goStep_284 rfl (by decide) c1 (wp_L (L' := [some (vR 124), some (vI l1), some (vI l2), some (vI l3), some (vI (l4 + 1))]) rfl ?_)
      refine wp_goto (tgt := 246) dX12_goStep_287 (by decide) ?_
      exact h
    · replace h := h.1 h265
      refine wp_aload_n dX12_goStep_268 rfl rfl (by first | exact Or.inl (by decide) | exact Or.inl (by omega) | exact Or.inr (by decide) | exact Or.inr (by omega)) ?_
      refine wp_getR dX12_goStep_269 fX12_179 rfl (by decide) ?_
      refine wp_topR (x' := 179) rfl ?_
      refine wp_iload dX12_goStep_272 rfl ?_
      refine wp_zald dX12_goStep_274 rfl (by decide) c0 ?_
      refine wp_if_eq (tgt := 282) dX12_goStep_275 (by decide) (fun h275 => ?_) (fun h275 => ?_)
      · replace h := h.1 h275
        refine wp_iconst dX12_goStep_282 (by decide) ?_
        refine wp_zast dX12_goStep_283 rfl (by decide) c0 (by decide) ?_
        refine wp_gI (fun m283 e283 => ?_)
        replace h := h m283 e283
        have c1 := h.1
        replace h := h.2
        refine wp_iincr dX12_goStep_284 rfl (by decide) c1 (wp_L (L' := [some (vR 124), some (vI l1), some (vI l2), some (vI l3), some (vI (l4 + 1))]) rfl ?_)
        refine wp_goto (tgt := 246) dX12_goStep_287 (by decide) ?_
        exact h
      · replace h := h.2 h275
        refine wp_iconst dX12_goStep_278 (by decide) ?_
        refine wp_goto (tgt := 283) dX12_goStep_279 (by decide) ?_
        refine wp_zast dX12_goStep_283 rfl (by decide) c0 (by decide) ?_
        refine wp_gI (fun m283 e283 => ?_)
        replace h := h m283 e283
        have c1 := h.1
        replace h := h.2
        refine wp_iincr dX12_goStep_284 rfl (by decide) c1 (wp_L (L' := [some (vR 124), some (vI l1), some (vI l2), some (vI l3), some (vI (l4 + 1))]) rfl ?_)
        refine wp_goto (tgt := 246) dX12_goStep_287 (by decide) ?_
        exact h
theorem v_X12_goStep_298 {cs : Cs} {Q : Option AV → Mm → Prop} {MI ML : Nat → Nat → Int} {d e nw th x : Nat} {l1 l2 l3 : Int}
    (h : ((l3 < l2 → (0 ≤ l3 ∧ l3 < 600) ∧ ((MI 178 l3.toNat) = 0 ∨ (MI 178 l3.toNat) = 1) ∧ ∀ m314, m314 = up2 MI 177 l3.toNat (MI 178 l3.toNat) → (-2147483648 ≤ l3 + 1 ∧ l3 + 1 < 2147483648) ∧ wp cs mX12_goStep KD Q 298 [some (vR 124), some (vI l1), some (vI l2), some (vI (l3 + 1)), none] [] (KD, m314, ML, (GR d e nw th x))) ∧ (l2 ≤ l3 → Q none (MI, ML, (GR d e nw th x))))) :
    wp cs mX12_goStep KD Q 298 [some (vR 124), some (vI l1), some (vI l2), some (vI l3), none] [] (KD, MI, ML, (GR d e nw th x)) := by
  refine wp_iload_n dX12_goStep_298 rfl rfl ?_
  refine wp_iload_n dX12_goStep_299 rfl rfl ?_
  refine wp_icmp_ge (tgt := 321) dX12_goStep_300 (by decide) (fun h300 => ?_) (fun h300 => ?_)
  · replace h := h.2 h300
    exact wp_vret dX12_goStep_321 rfl (fun _ => h)
  · replace h := h.1 h300
    refine wp_aload_n dX12_goStep_303 rfl rfl (by first | exact Or.inl (by decide) | exact Or.inl (by omega) | exact Or.inr (by decide) | exact Or.inr (by omega)) ?_
    refine wp_getR dX12_goStep_304 fX12_173 rfl (by decide) ?_
    refine wp_topR (x' := 177) rfl ?_
    refine wp_iload_n dX12_goStep_307 rfl rfl ?_
    refine wp_aload_n dX12_goStep_308 rfl rfl (by first | exact Or.inl (by decide) | exact Or.inl (by omega) | exact Or.inr (by decide) | exact Or.inr (by omega)) ?_
    refine wp_getR dX12_goStep_309 fX12_176 rfl (by decide) ?_
    refine wp_topR (x' := 178) rfl ?_
    refine wp_iload_n dX12_goStep_312 rfl rfl ?_
    have c0 := h.1
    replace h := h.2
    refine wp_zald dX12_goStep_313 rfl (by decide) c0 ?_
    refine wp_pc (pc' := 314) rfl ?_
    have c1 := h.1
    replace h := h.2
    refine wp_zast dX12_goStep_314 rfl (by decide) c0 c1 ?_
    refine wp_gI (fun m314 e314 => ?_)
    replace h := h m314 e314
    have c2 := h.1
    replace h := h.2
    refine wp_iincr dX12_goStep_315 rfl (by decide) c2 (wp_L (L' := [some (vR 124), some (vI l1), some (vI l2), some (vI (l3 + 1)), none]) rfl ?_)
    refine wp_goto (tgt := 298) dX12_goStep_318 (by decide) ?_
    exact h
theorem dX12_select_0 : decode cX12_select 0 = .ok (.aload_n 0, 1) := by decide +kernel
theorem dX12_select_1 : decode cX12_select 1 = .ok (.getfield 498, 3) := by decide +kernel
theorem dX12_select_4 : decode cX12_select 4 = .ok (.ifCond .eq 38, 3) := by decide +kernel
theorem dX12_select_7 : decode cX12_select 7 = .ok (.iload_n 1, 1) := by decide +kernel
theorem dX12_select_8 : decode cX12_select 8 = .ok (.i2l, 1) := by decide +kernel
theorem dX12_select_9 : decode cX12_select 9 = .ok (.lconst 0, 1) := by decide +kernel
theorem dX12_select_10 : decode cX12_select 10 = .ok (.aload_n 0, 1) := by decide +kernel
theorem dX12_select_11 : decode cX12_select 11 = .ok (.getfield 27, 3) := by decide +kernel
theorem dX12_select_14 : decode cX12_select 14 = .ok (.aload_n 0, 1) := by decide +kernel
theorem dX12_select_15 : decode cX12_select 15 = .ok (.getfield 482, 3) := by decide +kernel
theorem dX12_select_18 : decode cX12_select 18 = .ok (.iaload, 1) := by decide +kernel
theorem dX12_select_19 : decode cX12_select 19 = .ok (.iconst 1, 1) := by decide +kernel
theorem dX12_select_20 : decode cX12_select 20 = .ok (.isub, 1) := by decide +kernel
theorem dX12_select_21 : decode cX12_select 21 = .ok (.i2l, 1) := by decide +kernel
theorem dX12_select_22 : decode cX12_select 22 = .ok (.invokestatic 256, 3) := by decide +kernel
theorem dX12_select_25 : decode cX12_select 25 = .ok (.ifCond .eq 17, 3) := by decide +kernel
theorem dX12_select_28 : decode cX12_select 28 = .ok (.iload_n 2, 1) := by decide +kernel
theorem dX12_select_29 : decode cX12_select 29 = .ok (.i2l, 1) := by decide +kernel
theorem dX12_select_30 : decode cX12_select 30 = .ok (.lconst 0, 1) := by decide +kernel
theorem dX12_select_31 : decode cX12_select 31 = .ok (.aload_n 0, 1) := by decide +kernel
theorem dX12_select_32 : decode cX12_select 32 = .ok (.getfield 476, 3) := by decide +kernel
theorem dX12_select_35 : decode cX12_select 35 = .ok (.i2l, 1) := by decide +kernel
theorem dX12_select_36 : decode cX12_select 36 = .ok (.invokestatic 256, 3) := by decide +kernel
theorem dX12_select_39 : decode cX12_select 39 = .ok (.ifCond .ne 6, 3) := by decide +kernel
theorem dX12_select_42 : decode cX12_select 42 = .ok (.bipush (-9), 2) := by decide +kernel
theorem dX12_select_44 : decode cX12_select 44 = .ok (.ireturn, 1) := by decide +kernel
theorem dX12_select_45 : decode cX12_select 45 = .ok (.aload_n 0, 1) := by decide +kernel
theorem dX12_select_46 : decode cX12_select 46 = .ok (.iload_n 2, 1) := by decide +kernel
theorem dX12_select_47 : decode cX12_select 47 = .ok (.invokevirtual 479, 3) := by decide +kernel
theorem dX12_select_50 : decode cX12_select 50 = .ok (.aload_n 0, 1) := by decide +kernel
theorem dX12_select_51 : decode cX12_select 51 = .ok (.invokevirtual 612, 3) := by decide +kernel
theorem dX12_select_54 : decode cX12_select 54 = .ok (.aload_n 0, 1) := by decide +kernel
theorem dX12_select_55 : decode cX12_select 55 = .ok (.invokevirtual 289, 3) := by decide +kernel
theorem dX12_select_58 : decode cX12_select 58 = .ok (.ifCond .ne 8, 3) := by decide +kernel
theorem dX12_select_61 : decode cX12_select 61 = .ok (.aload_n 0, 1) := by decide +kernel
theorem dX12_select_62 : decode cX12_select 62 = .ok (.getfield 246, 3) := by decide +kernel
theorem dX12_select_65 : decode cX12_select 65 = .ok (.ireturn, 1) := by decide +kernel
theorem dX12_select_66 : decode cX12_select 66 = .ok (.iconst 0, 1) := by decide +kernel
theorem dX12_select_67 : decode cX12_select 67 = .ok (.istore_n 3, 1) := by decide +kernel
theorem dX12_select_68 : decode cX12_select 68 = .ok (.iload_n 3, 1) := by decide +kernel
theorem dX12_select_69 : decode cX12_select 69 = .ok (.aload_n 0, 1) := by decide +kernel
theorem dX12_select_70 : decode cX12_select 70 = .ok (.getfield 27, 3) := by decide +kernel
theorem dX12_select_73 : decode cX12_select 73 = .ok (.aload_n 0, 1) := by decide +kernel
theorem dX12_select_74 : decode cX12_select 74 = .ok (.getfield 482, 3) := by decide +kernel
theorem dX12_select_77 : decode cX12_select 77 = .ok (.iaload, 1) := by decide +kernel
theorem dX12_select_78 : decode cX12_select 78 = .ok (.if_icmp .ge 36, 3) := by decide +kernel
theorem dX12_select_81 : decode cX12_select 81 = .ok (.aload_n 0, 1) := by decide +kernel
theorem dX12_select_82 : decode cX12_select 82 = .ok (.getfield 173, 3) := by decide +kernel
theorem dX12_select_85 : decode cX12_select 85 = .ok (.iload_n 3, 1) := by decide +kernel
theorem dX12_select_86 : decode cX12_select 86 = .ok (.iload_n 3, 1) := by decide +kernel
theorem dX12_select_87 : decode cX12_select 87 = .ok (.aload_n 0, 1) := by decide +kernel
theorem dX12_select_88 : decode cX12_select 88 = .ok (.getfield 579, 3) := by decide +kernel
theorem dX12_select_91 : decode cX12_select 91 = .ok (.ifCond .eq 7, 3) := by decide +kernel
theorem dX12_select_94 : decode cX12_select 94 = .ok (.iconst 0, 1) := by decide +kernel
theorem dX12_select_95 : decode cX12_select 95 = .ok (.goto 4, 3) := by decide +kernel
theorem dX12_select_98 : decode cX12_select 98 = .ok (.iload_n 1, 1) := by decide +kernel
theorem dX12_select_99 : decode cX12_select 99 = .ok (.if_icmp .ne 7, 3) := by decide +kernel
theorem dX12_select_102 : decode cX12_select 102 = .ok (.iconst 1, 1) := by decide +kernel
theorem dX12_select_103 : decode cX12_select 103 = .ok (.goto 4, 3) := by decide +kernel
theorem dX12_select_106 : decode cX12_select 106 = .ok (.iconst 0, 1) := by decide +kernel
theorem dX12_select_107 : decode cX12_select 107 = .ok (.bastore, 1) := by decide +kernel
theorem dX12_select_108 : decode cX12_select 108 = .ok (.iinc 3 1, 3) := by decide +kernel
theorem dX12_select_111 : decode cX12_select 111 = .ok (.goto (-43), 3) := by decide +kernel
theorem dX12_select_114 : decode cX12_select 114 = .ok (.iconst 0, 1) := by decide +kernel
theorem dX12_select_115 : decode cX12_select 115 = .ok (.istore_n 3, 1) := by decide +kernel
theorem dX12_select_116 : decode cX12_select 116 = .ok (.iload_n 3, 1) := by decide +kernel
theorem dX12_select_117 : decode cX12_select 117 = .ok (.aload_n 0, 1) := by decide +kernel
theorem dX12_select_118 : decode cX12_select 118 = .ok (.getfield 569, 3) := by decide +kernel
theorem dX12_select_121 : decode cX12_select 121 = .ok (.if_icmp .ge 14, 3) := by decide +kernel
theorem dX12_select_124 : decode cX12_select 124 = .ok (.aload_n 0, 1) := by decide +kernel
theorem dX12_select_125 : decode cX12_select 125 = .ok (.iload_n 3, 1) := by decide +kernel
theorem dX12_select_126 : decode cX12_select 126 = .ok (.invokevirtual 615, 3) := by decide +kernel
theorem dX12_select_129 : decode cX12_select 129 = .ok (.iinc 3 1, 3) := by decide +kernel
theorem dX12_select_132 : decode cX12_select 132 = .ok (.goto (-16), 3) := by decide +kernel
theorem dX12_select_135 : decode cX12_select 135 = .ok (.aload_n 0, 1) := by decide +kernel
theorem dX12_select_136 : decode cX12_select 136 = .ok (.iconst 0, 1) := by decide +kernel
theorem dX12_select_137 : decode cX12_select 137 = .ok (.putfield 504, 3) := by decide +kernel
theorem dX12_select_140 : decode cX12_select 140 = .ok (.iconst 0, 1) := by decide +kernel
theorem dX12_select_141 : decode cX12_select 141 = .ok (.istore_n 3, 1) := by decide +kernel
theorem dX12_select_142 : decode cX12_select 142 = .ok (.iload_n 3, 1) := by decide +kernel
theorem dX12_select_143 : decode cX12_select 143 = .ok (.aload_n 0, 1) := by decide +kernel
theorem dX12_select_144 : decode cX12_select 144 = .ok (.getfield 27, 3) := by decide +kernel
theorem dX12_select_147 : decode cX12_select 147 = .ok (.aload_n 0, 1) := by decide +kernel
theorem dX12_select_148 : decode cX12_select 148 = .ok (.getfield 482, 3) := by decide +kernel
theorem dX12_select_151 : decode cX12_select 151 = .ok (.iaload, 1) := by decide +kernel
theorem dX12_select_152 : decode cX12_select 152 = .ok (.if_icmp .ge 38, 3) := by decide +kernel
theorem dX12_select_155 : decode cX12_select 155 = .ok (.aload_n 0, 1) := by decide +kernel
theorem dX12_select_156 : decode cX12_select 156 = .ok (.getfield 173, 3) := by decide +kernel
theorem dX12_select_159 : decode cX12_select 159 = .ok (.iload_n 3, 1) := by decide +kernel
theorem dX12_select_160 : decode cX12_select 160 = .ok (.baload, 1) := by decide +kernel
theorem dX12_select_161 : decode cX12_select 161 = .ok (.ifCond .eq 23, 3) := by decide +kernel
theorem dX12_select_164 : decode cX12_select 164 = .ok (.aload_n 0, 1) := by decide +kernel
theorem dX12_select_165 : decode cX12_select 165 = .ok (.getfield 170, 3) := by decide +kernel
theorem dX12_select_168 : decode cX12_select 168 = .ok (.aload_n 0, 1) := by decide +kernel
theorem dX12_select_169 : decode cX12_select 169 = .ok (.getfield 504, 3) := by decide +kernel
theorem dX12_select_172 : decode cX12_select 172 = .ok (.iload_n 3, 1) := by decide +kernel
theorem dX12_select_173 : decode cX12_select 173 = .ok (.iastore, 1) := by decide +kernel
theorem dX12_select_174 : decode cX12_select 174 = .ok (.aload_n 0, 1) := by decide +kernel
theorem dX12_select_175 : decode cX12_select 175 = .ok (.dup, 1) := by decide +kernel
theorem dX12_select_176 : decode cX12_select 176 = .ok (.getfield 504, 3) := by decide +kernel
theorem dX12_select_179 : decode cX12_select 179 = .ok (.iconst 1, 1) := by decide +kernel
theorem dX12_select_180 : decode cX12_select 180 = .ok (.iadd, 1) := by decide +kernel
theorem dX12_select_181 : decode cX12_select 181 = .ok (.putfield 504, 3) := by decide +kernel
theorem dX12_select_184 : decode cX12_select 184 = .ok (.iinc 3 1, 3) := by decide +kernel
theorem dX12_select_187 : decode cX12_select 187 = .ok (.goto (-45), 3) := by decide +kernel
theorem dX12_select_190 : decode cX12_select 190 = .ok (.aload_n 0, 1) := by decide +kernel
theorem dX12_select_191 : decode cX12_select 191 = .ok (.getfield 504, 3) := by decide +kernel
theorem dX12_select_194 : decode cX12_select 194 = .ok (.ireturn, 1) := by decide +kernel
theorem v_X12_select_0 {cs : Cs} {Q : Option AV → Mm → Prop} {MI ML : Nat → Nat → Int} {d e nw th x : Nat} {l1 l2 : Int}
    (h : (((MI 124 9) = 0 → Q (some (vI (-9))) (MI, ML, (GR d e nw th x))) ∧ ((MI 124 9) ≠ 0 → (0 ≤ (MI 124 7) ∧ (MI 124 7) < 2) ∧ (-2147483648 ≤ (MI 129 (MI 124 7).toNat) - 1 ∧ (MI 129 (MI 124 7).toNat) - 1 < 2147483648) ∧ wp cs mX12_in KD (rI (GR d e nw th x) fun x22 m22 n22 => ((x22 = 0 → Q (some (vI (-9))) (m22, n22, (GR d e nw th x))) ∧ (x22 ≠ 0 → wp cs mX12_in KD (rI (GR d e nw th x) fun x36 m36 n36 => ((x36 = 0 → Q (some (vI (-9))) (m36, n36, (GR d e nw th x))) ∧ (x36 ≠ 0 → wp cs mX12_begin KD (rV (GR d e nw th x) fun m47 n47 => wp cs mX12_path KD (rV (GR d e nw th x) fun m51 n51 => wp cs mX12_isGood KD (rI (GR d e nw th x) fun x55 m55 n55 => ((x55 = 0 → Q (some (vI (m55 124 5))) (m55, n55, (GR d e nw th x))) ∧ (x55 ≠ 0 → wp cs mX12_select KD Q 68 [some (vR 124), some (vI l1), some (vI l2), some (vI 0)] [] (KD, m55, n55, (GR d e nw th x))))) 0 (padL [vR 124] 1) [] (KD, m51, n51, (GR d e nw th x))) 0 (padL [vR 124] 3) [] (KD, m47, n47, (GR d e nw th x))) 0 (padL [vR 124, vI l2] 3) [] (KD, m36, n36, (GR d e nw th x))))) 0 (padL [vL l2, vL 0, vL (m22 124 1)] 6) [] (KD, m22, n22, (GR d e nw th x))))) 0 (padL [vL l1, vL 0, vL ((MI 129 (MI 124 7).toNat) - 1)] 6) [] (KD, MI, ML, (GR d e nw th x))))) :
    wp cs mX12_select KD Q 0 (padL [vR 124, vI l1, vI l2] 4) [] (KD, MI, ML, (GR d e nw th x)) := by
  refine wp_L (L' := [some (vR 124), some (vI l1), some (vI l2), none]) rfl ?_
  refine wp_aload_n dX12_select_0 rfl rfl (by first | exact Or.inl (by decide) | exact Or.inl (by omega) | exact Or.inr (by decide) | exact Or.inr (by omega)) ?_
  refine wp_getI dX12_select_1 fX12_498 rfl (by decide) ?_
  refine wp_if_eq (tgt := 42) dX12_select_4 (by decide) (fun h4 => ?_) (fun h4 => ?_)
  · replace h := h.1 h4
    refine wp_bipush dX12_select_42 (by decide +kernel) (by decide) ?_
    exact wp_iret dX12_select_44 rfl (fun _ => h)
  · replace h := h.2 h4
    refine wp_iload_n dX12_select_7 rfl rfl ?_
    refine wp_i2l dX12_select_8 ?_
    refine wp_lconst (z := 0) dX12_select_9 (by decide +kernel) (by decide) ?_
    refine wp_aload_n dX12_select_10 rfl rfl (by first | exact Or.inl (by decide) | exact Or.inl (by omega) | exact Or.inr (by decide) | exact Or.inr (by omega)) ?_
    refine wp_getR dX12_select_11 fX12_27 rfl (by decide) ?_
    refine wp_topR (x' := 129) rfl ?_
    refine wp_aload_n dX12_select_14 rfl rfl (by first | exact Or.inl (by decide) | exact Or.inl (by omega) | exact Or.inr (by decide) | exact Or.inr (by omega)) ?_
    refine wp_getI dX12_select_15 fX12_482 rfl (by decide) ?_
    refine wp_pc (pc' := 18) rfl ?_
    have c0 := h.1
    replace h := h.2
    refine wp_iald dX12_select_18 rfl (by decide) c0 ?_
    refine wp_iconst dX12_select_19 (by decide) ?_
    have c1 := h.1
    replace h := h.2
    refine wp_isubr dX12_select_20 c1 ?_
    refine wp_i2l dX12_select_21 ?_
    refine wp_cSq (n := 3) (mt' := mX12_in) (as := [vL l1, vL 0, vL ((MI 129 (MI 124 7).toNat) - 1)]) (rest := []) _ dX12_select_22 lX12_256 kX12_in vX12_in (by decide) (by decide +kernel) rfl (Nat.le_of_ble_eq_true rfl) rfl (Nat.le_of_ble_eq_true rfl) (fun hM hS => h) (fun r M' hq hM => ?_)
    obtain ⟨x22, m22, n22, rfl, rfl, h⟩ := rI_out hq
    refine wp_if_eq (tgt := 42) dX12_select_25 (by decide) (fun h25 => ?_) (fun h25 => ?_)
    · replace h := h.1 h25
      refine wp_bipush dX12_select_42 (by decide +kernel) (by decide) ?_
      exact wp_iret dX12_select_44 rfl (fun _ => h)
    · replace h := h.2 h25
      refine wp_iload_n dX12_select_28 rfl rfl ?_
      refine wp_i2l dX12_select_29 ?_
      refine wp_lconst (z := 0) dX12_select_30 (by decide +kernel) (by decide) ?_
      refine wp_aload_n dX12_select_31 rfl rfl (by first | exact Or.inl (by decide) | exact Or.inl (by omega) | exact Or.inr (by decide) | exact Or.inr (by omega)) ?_
      refine wp_getI dX12_select_32 fX12_476 rfl (by decide) ?_
      refine wp_i2l dX12_select_35 ?_
      refine wp_cSq (n := 3) (mt' := mX12_in) (as := [vL l2, vL 0, vL (m22 124 1)]) (rest := []) _ dX12_select_36 lX12_256 kX12_in vX12_in (by decide) (by decide +kernel) rfl (Nat.le_of_ble_eq_true rfl) rfl (Nat.le_of_ble_eq_true rfl) (fun hM hS => h) (fun r M' hq hM => ?_)
      obtain ⟨x36, m36, n36, rfl, rfl, h⟩ := rI_out hq
      refine wp_if_ne (tgt := 45) dX12_select_39 (by decide) (fun h39 => ?_) (fun h39 => ?_)
      · replace h := h.2 h39
        refine wp_aload_n dX12_select_45 rfl rfl (by first | exact Or.inl (by decide) | exact Or.inl (by omega) | exact Or.inr (by decide) | exact Or.inr (by omega)) ?_
        refine wp_iload_n dX12_select_46 rfl rfl ?_
        refine wp_cVq (n := 1) (mt' := mX12_begin) (as := [vI l2]) (rest := []) _ dX12_select_47 lX12_479 kX12_begin vX12_begin (by decide) (by decide +kernel) rfl (Nat.le_of_ble_eq_true rfl) (by decide) rfl rfl rfl (Nat.le_of_ble_eq_true rfl) (fun hM hS => h) (fun r M' hq hM => ?_)
        obtain ⟨m47, n47, rfl, rfl, h⟩ := rV_out hq
        refine wp_aload_n dX12_select_50 rfl rfl (by first | exact Or.inl (by decide) | exact Or.inl (by omega) | exact Or.inr (by decide) | exact Or.inr (by omega)) ?_
        refine wp_cVq (n := 0) (mt' := mX12_path) (as := []) (rest := []) _ dX12_select_51 lX12_612 kX12_path vX12_path (by decide) (by decide +kernel) rfl (Nat.le_of_ble_eq_true rfl) (by decide) rfl rfl rfl (Nat.le_of_ble_eq_true rfl) (fun hM hS => h) (fun r M' hq hM => ?_)
        obtain ⟨m51, n51, rfl, rfl, h⟩ := rV_out hq
        refine wp_aload_n dX12_select_54 rfl rfl (by first | exact Or.inl (by decide) | exact Or.inl (by omega) | exact Or.inr (by decide) | exact Or.inr (by omega)) ?_
        refine wp_cVq (n := 0) (mt' := mX12_isGood) (as := []) (rest := []) _ dX12_select_55 lX12_289 kX12_isGood vX12_isGood (by decide) (by decide +kernel) rfl (Nat.le_of_ble_eq_true rfl) (by decide) rfl rfl rfl (Nat.le_of_ble_eq_true rfl) (fun hM hS => h) (fun r M' hq hM => ?_)
        obtain ⟨x55, m55, n55, rfl, rfl, h⟩ := rI_out hq
        refine wp_if_ne (tgt := 66) dX12_select_58 (by decide) (fun h58 => ?_) (fun h58 => ?_)
        · replace h := h.2 h58
          refine wp_iconst dX12_select_66 (by decide) ?_
          refine wp_istore_n dX12_select_67 rfl (by decide) (wp_L (L' := [some (vR 124), some (vI l1), some (vI l2), some (vI 0)]) rfl ?_)
          exact h
        · replace h := h.1 h58
          refine wp_aload_n dX12_select_61 rfl rfl (by first | exact Or.inl (by decide) | exact Or.inl (by omega) | exact Or.inr (by decide) | exact Or.inr (by omega)) ?_
          refine wp_getI dX12_select_62 fX12_246 rfl (by decide) ?_
          exact wp_iret dX12_select_65 rfl (fun _ => h)
      · replace h := h.1 h39
        refine wp_bipush dX12_select_42 (by decide +kernel) (by decide) ?_
        exact wp_iret dX12_select_44 rfl (fun _ => h)
theorem v_X12_select_68 {cs : Cs} {Q : Option AV → Mm → Prop} {MI ML : Nat → Nat → Int} {d e nw th x : Nat} {l1 l2 l3 : Int}
    (h : (0 ≤ (MI 124 7) ∧ (MI 124 7) < 2) ∧ ((l3 < (MI 129 (MI 124 7).toNat) → (((MI 124 85) = 0 → ((l3 = l1 → (0 ≤ l3 ∧ l3 < 600) ∧ ∀ m107, m107 = up2 MI 177 l3.toNat 1 → (-2147483648 ≤ l3 + 1 ∧ l3 + 1 < 2147483648) ∧ wp cs mX12_select KD Q 68 [some (vR 124), some (vI l1), some (vI l2), some (vI (l3 + 1))] [] (KD, m107, ML, (GR d e nw th x))) ∧ (l3 ≠ l1 → (0 ≤ l3 ∧ l3 < 600) ∧ ∀ m107, m107 = up2 MI 177 l3.toNat 0 → (-2147483648 ≤ l3 + 1 ∧ l3 + 1 < 2147483648) ∧ wp cs mX12_select KD Q 68 [some (vR 124), some (vI l1), some (vI l2), some (vI (l3 + 1))] [] (KD, m107, ML, (GR d e nw th x))))) ∧ ((MI 124 85) ≠ 0 → ((l3 = 0 → (0 ≤ l3 ∧ l3 < 600) ∧ ∀ m107, m107 = up2 MI 177 l3.toNat 1 → (-2147483648 ≤ l3 + 1 ∧ l3 + 1 < 2147483648) ∧ wp cs mX12_select KD Q 68 [some (vR 124), some (vI l1), some (vI l2), some (vI (l3 + 1))] [] (KD, m107, ML, (GR d e nw th x))) ∧ (l3 ≠ 0 → (0 ≤ l3 ∧ l3 < 600) ∧ ∀ m107, m107 = up2 MI 177 l3.toNat 0 → (-2147483648 ≤ l3 + 1 ∧ l3 + 1 < 2147483648) ∧ wp cs mX12_select KD Q 68 [some (vR 124), some (vI l1), some (vI l2), some (vI (l3 + 1))] [] (KD, m107, ML, (GR d e nw th x))))))) ∧ ((MI 129 (MI 124 7).toNat) ≤ l3 → wp cs mX12_select KD Q 116 [some (vR 124), some (vI l1), some (vI l2), some (vI 0)] [] (KD, MI, ML, (GR d e nw th x))))) :
    wp cs mX12_select KD Q 68 [some (vR 124), some (vI l1), some (vI l2), some (vI l3)] [] (KD, MI, ML, (GR d e nw th x)) := by
  refine wp_iload_n dX12_select_68 rfl rfl ?_
  refine wp_aload_n dX12_select_69 rfl rfl (by first | exact Or.inl (by decide) | exact Or.inl (by omega) | exact Or.inr (by decide) | exact Or.inr (by omega)) ?_
  refine wp_getR dX12_select_70 fX12_27 rfl (by decide) ?_
  refine wp_topR (x' := 129) rfl ?_
  refine wp_aload_n dX12_select_73 rfl rfl (by first | exact Or.inl (by decide) | exact Or.inl (by omega) | exact Or.inr (by decide) | exact Or.inr (by omega)) ?_
  refine wp_getI dX12_select_74 fX12_482 rfl (by decide) ?_
  have c0 := h.1
  replace h := h.2
  refine wp_iald dX12_select_77 rfl (by decide) c0 ?_
  refine wp_icmp_ge (tgt := 114) dX12_select_78 (by decide) (fun h78 => ?_) (fun h78 => ?_)
  · replace h := h.2 h78
    refine wp_iconst dX12_select_114 (by decide) ?_
    refine wp_istore_n dX12_select_115 rfl (by decide) (wp_L (L' := [some (vR 124), some (vI l1), some (vI l2), some (vI 0)]) rfl ?_)
    exact h
  · replace h := h.1 h78
    refine wp_aload_n dX12_select_81 rfl rfl (by first | exact Or.inl (by decide) | exact Or.inl (by omega) | exact Or.inr (by decide) | exact Or.inr (by omega)) ?_
    refine wp_getR dX12_select_82 fX12_173 rfl (by decide) ?_
    refine wp_topR (x' := 177) rfl ?_
    refine wp_iload_n dX12_select_85 rfl rfl ?_
    refine wp_iload_n dX12_select_86 rfl rfl ?_
    refine wp_aload_n dX12_select_87 rfl rfl (by first | exact Or.inl (by decide) | exact Or.inl (by omega) | exact Or.inr (by decide) | exact Or.inr (by omega)) ?_
    refine wp_getI dX12_select_88 fX12_579 rfl (by decide) ?_
    refine wp_if_eq (tgt := 98) dX12_select_91 (by decide) (fun h91 => ?_) (fun h91 => ?_)
    · replace h := h.1 h91
      refine wp_iload_n dX12_select_98 rfl rfl ?_
      refine wp_icmp_ne (tgt := 106) dX12_select_99 (by decide) (fun h99 => ?_) (fun h99 => ?_)
      · replace h := h.2 h99
        refine wp_iconst dX12_select_106 (by decide) ?_
        have c1 := h.1
        replace h := h.2
        refine wp_zast dX12_select_107 rfl (by decide) c1 (by decide) ?_
        refine wp_gI (fun m107 e107 => ?_)
        replace h := h m107 e107
        have c2 := h.1
        replace h := h.2
        refine wp_iincr dX12_select_108 rfl (by decide) c2 (wp_L (L' := [some (vR 124), some (vI l1), some (vI l2), some (vI (l3 + 1))]) rfl ?_)
        refine wp_goto (tgt := 68) dX12_select_111 (by decide) ?_
        exact h
      · replace h := h.1 h99
        refine wp_iconst dX12_select_102 (by decide) ?_
        refine wp_goto (tgt := 107) dX12_select_103 (by decide) ?_
        have c1 := h.1
        replace h := h.2
        refine wp_zast dX12_select_107 rfl (by decide) c1 (by decide) ?_
        refine wp_gI (fun m107 e107 => ?_)
        replace h := h m107 e107
        have c2 := h.1
        replace h := h.2
        refine wp_iincr dX12_select_108 rfl (by decide) c2 (wp_L (L' := [some (vR 124), some (vI l1), some (vI l2), some (vI (l3 + 1))]) rfl ?_)
        refine wp_goto (tgt := 68) dX12_select_111 (by decide) ?_
        exact h
    · replace h := h.2 h91
      refine wp_iconst dX12_select_94 (by decide) ?_
      refine wp_goto (tgt := 99) dX12_select_95 (by decide) ?_
      refine wp_icmp_ne (tgt := 106) dX12_select_99 (by decide) (fun h99 => ?_) (fun h99 => ?_)
      · replace h := h.2 h99
        refine wp_iconst dX12_select_106 (by decide) ?_
        have c1 := h.1
        replace h := h.2
        refine wp_zast dX12_select_107 rfl (by decide) c1 (by decide) ?_
        refine wp_gI (fun m107 e107 => ?_)
        replace h := h m107 e107
        have c2 := h.1
        replace h := h.2
        refine wp_iincr dX12_select_108 rfl (by decide) c2 (wp_L (L' := [some (vR 124), some (vI l1), some (vI l2), some (vI (l3 + 1))]) rfl ?_)
        refine wp_goto (tgt := 68) dX12_select_111 (by decide) ?_
        exact h
      · replace h := h.1 h99
        refine wp_iconst dX12_select_102 (by decide) ?_
        refine wp_goto (tgt := 107) dX12_select_103 (by decide) ?_
        have c1 := h.1
        replace h := h.2
        refine wp_zast dX12_select_107 rfl (by decide) c1 (by decide) ?_
        refine wp_gI (fun m107 e107 => ?_)
        replace h := h m107 e107
        have c2 := h.1
        replace h := h.2
        refine wp_iincr dX12_select_108 rfl (by decide) c2 (wp_L (L' := [some (vR 124), some (vI l1), some (vI l2), some (vI (l3 + 1))]) rfl ?_)
        refine wp_goto (tgt := 68) dX12_select_111 (by decide) ?_
        exact h
theorem v_X12_select_116 {cs : Cs} {Q : Option AV → Mm → Prop} {MI ML : Nat → Nat → Int} {d e nw th x : Nat} {l1 l2 l3 : Int}
    (h : ((l3 < (MI 124 84) → wp cs mX12_goStep KD (rV (GR d e nw th x) fun m126 n126 => (-2147483648 ≤ l3 + 1 ∧ l3 + 1 < 2147483648) ∧ wp cs mX12_select KD Q 116 [some (vR 124), some (vI l1), some (vI l2), some (vI (l3 + 1))] [] (KD, m126, n126, (GR d e nw th x))) 0 (padL [vR 124, vI l3] 5) [] (KD, MI, ML, (GR d e nw th x))) ∧ ((MI 124 84) ≤ l3 → ∀ m137, m137 = up2 MI 124 68 0 → wp cs mX12_select KD Q 142 [some (vR 124), some (vI l1), some (vI l2), some (vI 0)] [] (KD, m137, ML, (GR d e nw th x))))) :
    wp cs mX12_select KD Q 116 [some (vR 124), some (vI l1), some (vI l2), some (vI l3)] [] (KD, MI, ML, (GR d e nw th x)) := by
  refine wp_iload_n dX12_select_116 rfl rfl ?_
  refine wp_aload_n dX12_select_117 rfl rfl (by first | exact Or.inl (by decide) | exact Or.inl (by omega) | exact Or.inr (by decide) | exact Or.inr (by omega)) ?_
  refine wp_getI dX12_select_118 fX12_569 rfl (by decide) ?_
  refine wp_icmp_ge (tgt := 135) dX12_select_121 (by decide) (fun h121 => ?_) (fun h121 => ?_)
  · replace h := h.2 h121
    refine wp_aload_n dX12_select_135 rfl rfl (by first | exact Or.inl (by decide) | exact Or.inl (by omega) | exact Or.inr (by decide) | exact Or.inr (by omega)) ?_
    refine wp_iconst dX12_select_136 (by decide) ?_
    refine wp_putI dX12_select_137 pX12_504 rfl (by decide) ?_
    refine wp_gI (fun m137 e137 => ?_)
    replace h := h m137 e137
    refine wp_iconst dX12_select_140 (by decide) ?_
    refine wp_istore_n dX12_select_141 rfl (by decide) (wp_L (L' := [some (vR 124), some (vI l1), some (vI l2), some (vI 0)]) rfl ?_)
    exact h
  · replace h := h.1 h121
    refine wp_aload_n dX12_select_124 rfl rfl (by first | exact Or.inl (by decide) | exact Or.inl (by omega) | exact Or.inr (by decide) | exact Or.inr (by omega)) ?_
    refine wp_iload_n dX12_select_125 rfl rfl ?_
    refine wp_cVq (n := 1) (mt' := mX12_goStep) (as := [vI l3]) (rest := []) _ dX12_select_126 lX12_615 kX12_goStep vX12_goStep (by decide) (by decide +kernel) rfl (Nat.le_of_ble_eq_true rfl) (by decide) rfl rfl rfl (Nat.le_of_ble_eq_true rfl) (fun hM hS => h) (fun r M' hq hM => ?_)
    obtain ⟨m126, n126, rfl, rfl, h⟩ := rV_out hq
    have c0 := h.1
    replace h := h.2
    refine wp_iincr dX12_select_129 rfl (by decide) c0 (wp_L (L' := [some (vR 124), some (vI l1), some (vI l2), some (vI (l3 + 1))]) rfl ?_)
    refine wp_goto (tgt := 116) dX12_select_132 (by decide) ?_
    exact h
theorem v_X12_select_142 {cs : Cs} {Q : Option AV → Mm → Prop} {MI ML : Nat → Nat → Int} {d e nw th x : Nat} {l1 l2 l3 : Int}
    (h : (0 ≤ (MI 124 7) ∧ (MI 124 7) < 2) ∧ ((l3 < (MI 129 (MI 124 7).toNat) → (0 ≤ l3 ∧ l3 < 600) ∧ (((MI 177 l3.toNat) = 0 → (-2147483648 ≤ l3 + 1 ∧ l3 + 1 < 2147483648) ∧ wp cs mX12_select KD Q 142 [some (vR 124), some (vI l1), some (vI l2), some (vI (l3 + 1))] [] (KD, MI, ML, (GR d e nw th x))) ∧ ((MI 177 l3.toNat) ≠ 0 → (0 ≤ (MI 124 68) ∧ (MI 124 68) < 600) ∧ ∀ m173, m173 = up2 MI 176 (MI 124 68).toNat l3 → (-2147483648 ≤ (m173 124 68) + 1 ∧ (m173 124 68) + 1 < 2147483648) ∧ ∀ m181, m181 = up2 m173 124 68 ((m173 124 68) + 1) → (-2147483648 ≤ l3 + 1 ∧ l3 + 1 < 2147483648) ∧ wp cs mX12_select KD Q 142 [some (vR 124), some (vI l1), some (vI l2), some (vI (l3 + 1))] [] (KD, m181, ML, (GR d e nw th x))))) ∧ ((MI 129 (MI 124 7).toNat) ≤ l3 → Q (some (vI (MI 124 68))) (MI, ML, (GR d e nw th x))))) :
    wp cs mX12_select KD Q 142 [some (vR 124), some (vI l1), some (vI l2), some (vI l3)] [] (KD, MI, ML, (GR d e nw th x)) := by
  refine wp_iload_n dX12_select_142 rfl rfl ?_
  refine wp_aload_n dX12_select_143 rfl rfl (by first | exact Or.inl (by decide) | exact Or.inl (by omega) | exact Or.inr (by decide) | exact Or.inr (by omega)) ?_
  refine wp_getR dX12_select_144 fX12_27 rfl (by decide) ?_
  refine wp_topR (x' := 129) rfl ?_
  refine wp_aload_n dX12_select_147 rfl rfl (by first | exact Or.inl (by decide) | exact Or.inl (by omega) | exact Or.inr (by decide) | exact Or.inr (by omega)) ?_
  refine wp_getI dX12_select_148 fX12_482 rfl (by decide) ?_
  have c0 := h.1
  replace h := h.2
  refine wp_iald dX12_select_151 rfl (by decide) c0 ?_
  refine wp_icmp_ge (tgt := 190) dX12_select_152 (by decide) (fun h152 => ?_) (fun h152 => ?_)
  · replace h := h.2 h152
    refine wp_aload_n dX12_select_190 rfl rfl (by first | exact Or.inl (by decide) | exact Or.inl (by omega) | exact Or.inr (by decide) | exact Or.inr (by omega)) ?_
    refine wp_getI dX12_select_191 fX12_504 rfl (by decide) ?_
    exact wp_iret dX12_select_194 rfl (fun _ => h)
  · replace h := h.1 h152
    refine wp_aload_n dX12_select_155 rfl rfl (by first | exact Or.inl (by decide) | exact Or.inl (by omega) | exact Or.inr (by decide) | exact Or.inr (by omega)) ?_
    refine wp_getR dX12_select_156 fX12_173 rfl (by decide) ?_
    refine wp_topR (x' := 177) rfl ?_
    refine wp_iload_n dX12_select_159 rfl rfl ?_
    have c1 := h.1
    replace h := h.2
    refine wp_zald dX12_select_160 rfl (by decide) c1 ?_
    refine wp_if_eq (tgt := 184) dX12_select_161 (by decide) (fun h161 => ?_) (fun h161 => ?_)
    · replace h := h.1 h161
      have c2 := h.1
      replace h := h.2
      refine wp_iincr dX12_select_184 rfl (by decide) c2 (wp_L (L' := [some (vR 124), some (vI l1), some (vI l2), some (vI (l3 + 1))]) rfl ?_)
      refine wp_goto (tgt := 142) dX12_select_187 (by decide) ?_
      exact h
    · replace h := h.2 h161
      refine wp_aload_n dX12_select_164 rfl rfl (by first | exact Or.inl (by decide) | exact Or.inl (by omega) | exact Or.inr (by decide) | exact Or.inr (by omega)) ?_
      refine wp_getR dX12_select_165 fX12_170 rfl (by decide) ?_
      refine wp_topR (x' := 176) rfl ?_
      refine wp_aload_n dX12_select_168 rfl rfl (by first | exact Or.inl (by decide) | exact Or.inl (by omega) | exact Or.inr (by decide) | exact Or.inr (by omega)) ?_
      refine wp_getI dX12_select_169 fX12_504 rfl (by decide) ?_
      refine wp_iload_n dX12_select_172 rfl rfl ?_
      have c2 := h.1
      replace h := h.2
      refine wp_iast dX12_select_173 rfl (by decide) c2 ?_
      refine wp_gI (fun m173 e173 => ?_)
      replace h := h m173 e173
      refine wp_aload_n dX12_select_174 rfl rfl (by first | exact Or.inl (by decide) | exact Or.inl (by omega) | exact Or.inr (by decide) | exact Or.inr (by omega)) ?_
      refine wp_pc (pc' := 175) rfl ?_
      refine wp_dup dX12_select_175 (fun x e => by cases e) ?_
      refine wp_getI dX12_select_176 fX12_504 rfl (by decide) ?_
      refine wp_iconst dX12_select_179 (by decide) ?_
      have c3 := h.1
      replace h := h.2
      refine wp_iaddr dX12_select_180 c3 ?_
      refine wp_putI dX12_select_181 pX12_504 rfl (by decide) ?_
      refine wp_gI (fun m181 e181 => ?_)
      replace h := h m181 e181
      have c4 := h.1
      replace h := h.2
      refine wp_iincr dX12_select_184 rfl (by decide) c4 (wp_L (L' := [some (vR 124), some (vI l1), some (vI l2), some (vI (l3 + 1))]) rfl ?_)
      refine wp_goto (tgt := 142) dX12_select_187 (by decide) ?_
      exact h
theorem dX0_finishLine_0 : decode cX0_finishLine 0 = .ok (.aload_n 0, 1) := by decide +kernel
theorem dX0_finishLine_1 : decode cX0_finishLine 1 = .ok (.getfield 47, 3) := by decide +kernel
theorem dX0_finishLine_4 : decode cX0_finishLine 4 = .ok (.ifCond .le 36, 3) := by decide +kernel
theorem dX0_finishLine_7 : decode cX0_finishLine 7 = .ok (.aload_n 0, 1) := by decide +kernel
theorem dX0_finishLine_8 : decode cX0_finishLine 8 = .ok (.getfield 62, 3) := by decide +kernel
theorem dX0_finishLine_11 : decode cX0_finishLine 11 = .ok (.sipush 2000, 3) := by decide +kernel
theorem dX0_finishLine_14 : decode cX0_finishLine 14 = .ok (.if_icmp .ge 26, 3) := by decide +kernel
theorem dX0_finishLine_17 : decode cX0_finishLine 17 = .ok (.aload_n 0, 1) := by decide +kernel
theorem dX0_finishLine_18 : decode cX0_finishLine 18 = .ok (.getfield 19, 3) := by decide +kernel
theorem dX0_finishLine_21 : decode cX0_finishLine 21 = .ok (.aload_n 0, 1) := by decide +kernel
theorem dX0_finishLine_22 : decode cX0_finishLine 22 = .ok (.getfield 62, 3) := by decide +kernel
theorem dX0_finishLine_25 : decode cX0_finishLine 25 = .ok (.aload_n 0, 1) := by decide +kernel
theorem dX0_finishLine_26 : decode cX0_finishLine 26 = .ok (.getfield 47, 3) := by decide +kernel
theorem dX0_finishLine_29 : decode cX0_finishLine 29 = .ok (.iastore, 1) := by decide +kernel
theorem dX0_finishLine_30 : decode cX0_finishLine 30 = .ok (.aload_n 0, 1) := by decide +kernel
theorem dX0_finishLine_31 : decode cX0_finishLine 31 = .ok (.dup, 1) := by decide +kernel
theorem dX0_finishLine_32 : decode cX0_finishLine 32 = .ok (.getfield 62, 3) := by decide +kernel
theorem dX0_finishLine_35 : decode cX0_finishLine 35 = .ok (.iconst 1, 1) := by decide +kernel
theorem dX0_finishLine_36 : decode cX0_finishLine 36 = .ok (.iadd, 1) := by decide +kernel
theorem dX0_finishLine_37 : decode cX0_finishLine 37 = .ok (.putfield 62, 3) := by decide +kernel
theorem dX0_finishLine_40 : decode cX0_finishLine 40 = .ok (.aload_n 0, 1) := by decide +kernel
theorem dX0_finishLine_41 : decode cX0_finishLine 41 = .ok (.iconst 0, 1) := by decide +kernel
theorem dX0_finishLine_42 : decode cX0_finishLine 42 = .ok (.putfield 47, 3) := by decide +kernel
theorem dX0_finishLine_45 : decode cX0_finishLine 45 = .ok (.return_, 1) := by decide +kernel
theorem v_X0_finishLine_0 {cs : Cs} {Q : Option AV → Mm → Prop} {MI ML : Nat → Nat → Int} {d e nw th x : Nat}
    (h : ((0 < (MI 28 11) → (((MI 28 16) < 2000 → (0 ≤ (MI 28 16) ∧ (MI 28 16) < 2000) ∧ ∀ m29, m29 = up2 MI 31 (MI 28 16).toNat (MI 28 11) → (-2147483648 ≤ (m29 28 16) + 1 ∧ (m29 28 16) + 1 < 2147483648) ∧ ∀ m37, m37 = up2 m29 28 16 ((m29 28 16) + 1) → ∀ m42, m42 = up2 m37 28 11 0 → Q none (m42, ML, (GR d e nw th x))) ∧ (2000 ≤ (MI 28 16) → ∀ m42, m42 = up2 MI 28 11 0 → Q none (m42, ML, (GR d e nw th x))))) ∧ ((MI 28 11) ≤ 0 → ∀ m42, m42 = up2 MI 28 11 0 → Q none (m42, ML, (GR d e nw th x))))) :
    wp cs mX0_finishLine KD Q 0 (padL [vR 28] 1) [] (KD, MI, ML, (GR d e nw th x)) := by
  refine wp_L (L' := [some (vR 28)]) rfl ?_
  refine wp_aload_n dX0_finishLine_0 rfl rfl (by first | exact Or.inl (by decide) | exact Or.inl (by omega) | exact Or.inr (by decide) | exact Or.inr (by omega)) ?_
  refine wp_getI dX0_finishLine_1 fX0_47 rfl (by decide) ?_
  refine wp_if_le (tgt := 40) dX0_finishLine_4 (by decide) (fun h4 => ?_) (fun h4 => ?_)
  · replace h := h.2 h4
    refine wp_aload_n dX0_finishLine_40 rfl rfl (by first | exact Or.inl (by decide) | exact Or.inl (by omega) | exact Or.inr (by decide) | exact Or.inr (by omega)) ?_
    refine wp_iconst dX0_finishLine_41 (by decide) ?_
    refine wp_putI dX0_finishLine_42 pX0_47 rfl (by decide) ?_
    refine wp_gI (fun m42 e42 => ?_)
    replace h := h m42 e42
    exact wp_vret dX0_finishLine_45 rfl (fun _ => h)
  · replace h := h.1 h4
    refine wp_aload_n dX0_finishLine_7 rfl rfl (by first | exact Or.inl (by decide) | exact Or.inl (by omega) | exact Or.inr (by decide) | exact Or.inr (by omega)) ?_
    refine wp_getI dX0_finishLine_8 fX0_62 rfl (by decide) ?_
    refine wp_sipush dX0_finishLine_11 (by decide +kernel) (by decide) ?_
    refine wp_icmp_ge (tgt := 40) dX0_finishLine_14 (by decide) (fun h14 => ?_) (fun h14 => ?_)
    · replace h := h.2 h14
      refine wp_aload_n dX0_finishLine_40 rfl rfl (by first | exact Or.inl (by decide) | exact Or.inl (by omega) | exact Or.inr (by decide) | exact Or.inr (by omega)) ?_
      refine wp_iconst dX0_finishLine_41 (by decide) ?_
      refine wp_putI dX0_finishLine_42 pX0_47 rfl (by decide) ?_
      refine wp_gI (fun m42 e42 => ?_)
      replace h := h m42 e42
      exact wp_vret dX0_finishLine_45 rfl (fun _ => h)
    · replace h := h.1 h14
      refine wp_aload_n dX0_finishLine_17 rfl rfl (by first | exact Or.inl (by decide) | exact Or.inl (by omega) | exact Or.inr (by decide) | exact Or.inr (by omega)) ?_
      refine wp_getR dX0_finishLine_18 fX0_19 rfl (by decide) ?_
      refine wp_topR (x' := 31) rfl ?_
      refine wp_aload_n dX0_finishLine_21 rfl rfl (by first | exact Or.inl (by decide) | exact Or.inl (by omega) | exact Or.inr (by decide) | exact Or.inr (by omega)) ?_
      refine wp_getI dX0_finishLine_22 fX0_62 rfl (by decide) ?_
      refine wp_aload_n dX0_finishLine_25 rfl rfl (by first | exact Or.inl (by decide) | exact Or.inl (by omega) | exact Or.inr (by decide) | exact Or.inr (by omega)) ?_
      refine wp_getI dX0_finishLine_26 fX0_47 rfl (by decide) ?_
      have c0 := h.1
      replace h := h.2
      refine wp_iast dX0_finishLine_29 rfl (by decide) c0 ?_
      refine wp_gI (fun m29 e29 => ?_)
      replace h := h m29 e29
      refine wp_pc (pc' := 30) rfl ?_
      refine wp_aload_n dX0_finishLine_30 rfl rfl (by first | exact Or.inl (by decide) | exact Or.inl (by omega) | exact Or.inr (by decide) | exact Or.inr (by omega)) ?_
      refine wp_dup dX0_finishLine_31 (fun x e => by cases e) ?_
      refine wp_getI dX0_finishLine_32 fX0_62 rfl (by decide) ?_
      refine wp_iconst dX0_finishLine_35 (by decide) ?_
      have c1 := h.1
      replace h := h.2
      refine wp_iaddr dX0_finishLine_36 c1 ?_
      refine wp_putI dX0_finishLine_37 pX0_62 rfl (by decide) ?_
      refine wp_gI (fun m37 e37 => ?_)
      replace h := h m37 e37
      refine wp_aload_n dX0_finishLine_40 rfl rfl (by first | exact Or.inl (by decide) | exact Or.inl (by omega) | exact Or.inr (by decide) | exact Or.inr (by omega)) ?_
      refine wp_iconst dX0_finishLine_41 (by decide) ?_
      refine wp_pc (pc' := 42) rfl ?_
      refine wp_putI dX0_finishLine_42 pX0_47 rfl (by decide) ?_
      refine wp_gI (fun m42 e42 => ?_)
      replace h := h m42 e42
      exact wp_vret dX0_finishLine_45 rfl (fun _ => h)
theorem dX0_append_0 : decode cX0_append 0 = .ok (.aload_n 0, 1) := by decide +kernel
theorem dX0_append_1 : decode cX0_append 1 = .ok (.getfield 47, 3) := by decide +kernel
theorem dX0_append_4 : decode cX0_append 4 = .ok (.ifCond .ne 7, 3) := by decide +kernel
theorem dX0_append_7 : decode cX0_append 7 = .ok (.iconst 0, 1) := by decide +kernel
theorem dX0_append_8 : decode cX0_append 8 = .ok (.goto 4, 3) := by decide +kernel
theorem dX0_append_11 : decode cX0_append 11 = .ok (.iconst 1, 1) := by decide +kernel
theorem dX0_append_12 : decode cX0_append 12 = .ok (.istore_n 3, 1) := by decide +kernel
theorem dX0_append_13 : decode cX0_append 13 = .ok (.aload_n 0, 1) := by decide +kernel
theorem dX0_append_14 : decode cX0_append 14 = .ok (.getfield 62, 3) := by decide +kernel
theorem dX0_append_17 : decode cX0_append 17 = .ok (.sipush 2000, 3) := by decide +kernel
theorem dX0_append_20 : decode cX0_append 20 = .ok (.if_icmp .ge 17, 3) := by decide +kernel
theorem dX0_append_23 : decode cX0_append 23 = .ok (.aload_n 0, 1) := by decide +kernel
theorem dX0_append_24 : decode cX0_append 24 = .ok (.getfield 44, 3) := by decide +kernel
theorem dX0_append_27 : decode cX0_append 27 = .ok (.iload_n 3, 1) := by decide +kernel
theorem dX0_append_28 : decode cX0_append 28 = .ok (.iadd, 1) := by decide +kernel
theorem dX0_append_29 : decode cX0_append 29 = .ok (.iload_n 2, 1) := by decide +kernel
theorem dX0_append_30 : decode cX0_append 30 = .ok (.iadd, 1) := by decide +kernel
theorem dX0_append_31 : decode cX0_append 31 = .ok (.sipush 2000, 3) := by decide +kernel
theorem dX0_append_34 : decode cX0_append 34 = .ok (.if_icmp .le 4, 3) := by decide +kernel
theorem dX0_append_37 : decode cX0_append 37 = .ok (.return_, 1) := by decide +kernel
theorem dX0_append_38 : decode cX0_append 38 = .ok (.iload_n 3, 1) := by decide +kernel
theorem dX0_append_39 : decode cX0_append 39 = .ok (.ifCond .ne 32, 3) := by decide +kernel
theorem dX0_append_42 : decode cX0_append 42 = .ok (.aload_n 0, 1) := by decide +kernel
theorem dX0_append_43 : decode cX0_append 43 = .ok (.getfield 15, 3) := by decide +kernel
theorem dX0_append_46 : decode cX0_append 46 = .ok (.aload_n 0, 1) := by decide +kernel
theorem dX0_append_47 : decode cX0_append 47 = .ok (.getfield 62, 3) := by decide +kernel
theorem dX0_append_50 : decode cX0_append 50 = .ok (.aload_n 0, 1) := by decide +kernel
theorem dX0_append_51 : decode cX0_append 51 = .ok (.getfield 44, 3) := by decide +kernel
theorem dX0_append_54 : decode cX0_append 54 = .ok (.iastore, 1) := by decide +kernel
theorem dX0_append_55 : decode cX0_append 55 = .ok (.aload_n 0, 1) := by decide +kernel
theorem dX0_append_56 : decode cX0_append 56 = .ok (.getfield 28, 3) := by decide +kernel
theorem dX0_append_59 : decode cX0_append 59 = .ok (.aload_n 0, 1) := by decide +kernel
theorem dX0_append_60 : decode cX0_append 60 = .ok (.getfield 62, 3) := by decide +kernel
theorem dX0_append_63 : decode cX0_append 63 = .ok (.aload_n 0, 1) := by decide +kernel
theorem dX0_append_64 : decode cX0_append 64 = .ok (.getfield 50, 3) := by decide +kernel
theorem dX0_append_67 : decode cX0_append 67 = .ok (.iastore, 1) := by decide +kernel
theorem dX0_append_68 : decode cX0_append 68 = .ok (.goto 34, 3) := by decide +kernel
theorem dX0_append_71 : decode cX0_append 71 = .ok (.aload_n 0, 1) := by decide +kernel
theorem dX0_append_72 : decode cX0_append 72 = .ok (.getfield 9, 3) := by decide +kernel
theorem dX0_append_75 : decode cX0_append 75 = .ok (.aload_n 0, 1) := by decide +kernel
theorem dX0_append_76 : decode cX0_append 76 = .ok (.getfield 44, 3) := by decide +kernel
theorem dX0_append_79 : decode cX0_append 79 = .ok (.bipush 32, 2) := by decide +kernel
theorem dX0_append_81 : decode cX0_append 81 = .ok (.bastore, 1) := by decide +kernel
theorem dX0_append_82 : decode cX0_append 82 = .ok (.aload_n 0, 1) := by decide +kernel
theorem dX0_append_83 : decode cX0_append 83 = .ok (.dup, 1) := by decide +kernel
theorem dX0_append_84 : decode cX0_append 84 = .ok (.getfield 44, 3) := by decide +kernel
theorem dX0_append_87 : decode cX0_append 87 = .ok (.iconst 1, 1) := by decide +kernel
theorem dX0_append_88 : decode cX0_append 88 = .ok (.iadd, 1) := by decide +kernel
theorem dX0_append_89 : decode cX0_append 89 = .ok (.putfield 44, 3) := by decide +kernel
theorem dX0_append_92 : decode cX0_append 92 = .ok (.aload_n 0, 1) := by decide +kernel
theorem dX0_append_93 : decode cX0_append 93 = .ok (.dup, 1) := by decide +kernel
theorem dX0_append_94 : decode cX0_append 94 = .ok (.getfield 47, 3) := by decide +kernel
theorem dX0_append_97 : decode cX0_append 97 = .ok (.iconst 1, 1) := by decide +kernel
theorem dX0_append_98 : decode cX0_append 98 = .ok (.iadd, 1) := by decide +kernel
theorem dX0_append_99 : decode cX0_append 99 = .ok (.putfield 47, 3) := by decide +kernel
theorem dX0_append_102 : decode cX0_append 102 = .ok (.aload_n 1, 1) := by decide +kernel
theorem dX0_append_103 : decode cX0_append 103 = .ok (.getfield 144, 3) := by decide +kernel
theorem dX0_append_106 : decode cX0_append 106 = .ok (.aload_n 0, 1) := by decide +kernel
theorem dX0_append_107 : decode cX0_append 107 = .ok (.getfield 50, 3) := by decide +kernel
theorem dX0_append_110 : decode cX0_append 110 = .ok (.aload_n 0, 1) := by decide +kernel
theorem dX0_append_111 : decode cX0_append 111 = .ok (.getfield 9, 3) := by decide +kernel
theorem dX0_append_114 : decode cX0_append 114 = .ok (.aload_n 0, 1) := by decide +kernel
theorem dX0_append_115 : decode cX0_append 115 = .ok (.getfield 44, 3) := by decide +kernel
theorem dX0_append_118 : decode cX0_append 118 = .ok (.iload_n 2, 1) := by decide +kernel
theorem dX0_append_119 : decode cX0_append 119 = .ok (.invokestatic 162, 3) := by decide +kernel
theorem dX0_append_122 : decode cX0_append 122 = .ok (.aload_n 0, 1) := by decide +kernel
theorem dX0_append_123 : decode cX0_append 123 = .ok (.dup, 1) := by decide +kernel
theorem dX0_append_124 : decode cX0_append 124 = .ok (.getfield 44, 3) := by decide +kernel
theorem dX0_append_127 : decode cX0_append 127 = .ok (.iload_n 2, 1) := by decide +kernel
theorem dX0_append_128 : decode cX0_append 128 = .ok (.iadd, 1) := by decide +kernel
theorem dX0_append_129 : decode cX0_append 129 = .ok (.putfield 44, 3) := by decide +kernel
theorem dX0_append_132 : decode cX0_append 132 = .ok (.aload_n 0, 1) := by decide +kernel
theorem dX0_append_133 : decode cX0_append 133 = .ok (.dup, 1) := by decide +kernel
theorem dX0_append_134 : decode cX0_append 134 = .ok (.getfield 47, 3) := by decide +kernel
theorem dX0_append_137 : decode cX0_append 137 = .ok (.iload_n 2, 1) := by decide +kernel
theorem dX0_append_138 : decode cX0_append 138 = .ok (.iadd, 1) := by decide +kernel
theorem dX0_append_139 : decode cX0_append 139 = .ok (.putfield 47, 3) := by decide +kernel
theorem dX0_append_142 : decode cX0_append 142 = .ok (.return_, 1) := by decide +kernel
theorem v_X0_append_0 {cs : Cs} {Q : Option AV → Mm → Prop} {MI ML : Nat → Nat → Int} {b d e nw th x : Nat} {l2 : Int} (hbd : b = 38 ∨ b = 81)
    (h : (((MI 28 11) = 0 → wp cs mX0_append KD Q 12 [some (vR 28), some (vR b), some (vI l2), none] [vI 0] (KD, MI, ML, (GR d e nw th x))) ∧ ((MI 28 11) ≠ 0 → wp cs mX0_append KD Q 12 [some (vR 28), some (vR b), some (vI l2), none] [vI 1] (KD, MI, ML, (GR d e nw th x))))) :
    wp cs mX0_append KD Q 0 (padL [vR 28, vR b, vI l2] 4) [] (KD, MI, ML, (GR d e nw th x)) := by
  refine wp_L (L' := [some (vR 28), some (vR b), some (vI l2), none]) rfl ?_
  refine wp_aload_n dX0_append_0 rfl rfl (by first | exact Or.inl (by decide) | exact Or.inl (by omega) | exact Or.inr (by decide) | exact Or.inr (by omega)) ?_
  refine wp_getI dX0_append_1 fX0_47 rfl (by decide) ?_
  refine wp_if_ne (tgt := 11) dX0_append_4 (by decide) (fun h4 => ?_) (fun h4 => ?_)
  · replace h := h.2 h4
    refine wp_iconst dX0_append_11 (by decide) ?_
    exact h
  · replace h := h.1 h4
    refine wp_iconst dX0_append_7 (by decide) ?_
    refine wp_goto (tgt := 12) dX0_append_8 (by decide) ?_
    exact h
theorem v_X0_append_12 {cs : Cs} {Q : Option AV → Mm → Prop} {MI ML : Nat → Nat → Int} {b d e nw th x : Nat} {l2 s0 : Int} (hbd : b = 38 ∨ b = 81)
    (h : (((MI 28 16) < 2000 → (-2147483648 ≤ (MI 28 10) + s0 ∧ (MI 28 10) + s0 < 2147483648) ∧ (-2147483648 ≤ ((MI 28 10) + s0) + l2 ∧ ((MI 28 10) + s0) + l2 < 2147483648) ∧ ((2000 < (((MI 28 10) + s0) + l2) → Q none (MI, ML, (GR d e nw th x))) ∧ ((((MI 28 10) + s0) + l2) ≤ 2000 → ((s0 = 0 → (0 ≤ (MI 28 16) ∧ (MI 28 16) < 2000) ∧ ∀ m54, m54 = up2 MI 30 (MI 28 16).toNat (MI 28 10) → (0 ≤ (m54 28 16) ∧ (m54 28 16) < 2000) ∧ ∀ m67, m67 = up2 m54 34 (m54 28 16).toNat (m54 28 12) → ((0 : Int) ≤ l2 ∧ (0 : Int) ≤ (m67 28 12) ∧ (m67 28 12) + l2 ≤ 2000 ∧ (0 : Int) ≤ (m67 28 10) ∧ (m67 28 10) + l2 ≤ 2000 ∧ (∀ k, -128 ≤ m67 (b + 42) k ∧ m67 (b + 42) k < 128)) ∧ ∀ m119, m119 = cpy m67 (b + 42) (m67 28 12).toNat 29 (m67 28 10).toNat l2.toNat → (-2147483648 ≤ (m119 28 10) + l2 ∧ (m119 28 10) + l2 < 2147483648) ∧ ∀ m129, m129 = up2 m119 28 10 ((m119 28 10) + l2) → (-2147483648 ≤ (m129 28 11) + l2 ∧ (m129 28 11) + l2 < 2147483648) ∧ ∀ m139, m139 = up2 m129 28 11 ((m129 28 11) + l2) → Q none (m139, ML, (GR d e nw th x))) ∧ (s0 ≠ 0 → (0 ≤ (MI 28 10) ∧ (MI 28 10) < 2000) ∧ ∀ m81, m81 = up2 MI 29 (MI 28 10).toNat 32 → (-2147483648 ≤ (m81 28 10) + 1 ∧ (m81 28 10) + 1 < 2147483648) ∧ ∀ m89, m89 = up2 m81 28 10 ((m81 28 10) + 1) → (-2147483648 ≤ (m89 28 11) + 1 ∧ (m89 28 11) + 1 < 2147483648) ∧ ∀ m99, m99 = up2 m89 28 11 ((m89 28 11) + 1) → ((0 : Int) ≤ l2 ∧ (0 : Int) ≤ (m99 28 12) ∧ (m99 28 12) + l2 ≤ 2000 ∧ (0 : Int) ≤ (m99 28 10) ∧ (m99 28 10) + l2 ≤ 2000 ∧ (∀ k, -128 ≤ m99 (b + 42) k ∧ m99 (b + 42) k < 128)) ∧ ∀ m119, m119 = cpy m99 (b + 42) (m99 28 12).toNat 29 (m99 28 10).toNat l2.toNat → (-2147483648 ≤ (m119 28 10) + l2 ∧ (m119 28 10) + l2 < 2147483648) ∧ ∀ m129, m129 = up2 m119 28 10 ((m119 28 10) + l2) → (-2147483648 ≤ (m129 28 11) + l2 ∧ (m129 28 11) + l2 < 2147483648) ∧ ∀ m139, m139 = up2 m129 28 11 ((m129 28 11) + l2) → Q none (m139, ML, (GR d e nw th x))))))) ∧ (2000 ≤ (MI 28 16) → Q none (MI, ML, (GR d e nw th x))))) :
    wp cs mX0_append KD Q 12 [some (vR 28), some (vR b), some (vI l2), none] [vI s0] (KD, MI, ML, (GR d e nw th x)) := by
  refine wp_istore_n dX0_append_12 rfl (by decide) (wp_L (L' := [some (vR 28), some (vR b), some (vI l2), some (vI s0)]) rfl ?_)
  refine wp_aload_n dX0_append_13 rfl rfl (by first | exact Or.inl (by decide) | exact Or.inl (by omega) | exact Or.inr (by decide) | exact Or.inr (by omega)) ?_
  refine wp_getI dX0_append_14 fX0_62 rfl (by decide) ?_
  refine wp_sipush dX0_append_17 (by decide +kernel) (by decide) ?_
  refine wp_icmp_ge (tgt := 37) dX0_append_20 (by decide) (fun h20 => ?_) (fun h20 => ?_)
  · replace h := h.2 h20
    exact wp_vret dX0_append_37 rfl (fun _ => h)
  · replace h := h.1 h20
    refine wp_aload_n dX0_append_23 rfl rfl (by first | exact Or.inl (by decide) | exact Or.inl (by omega) | exact Or.inr (by decide) | exact Or.inr (by omega)) ?_
    refine wp_getI dX0_append_24 fX0_44 rfl (by decide) ?_
    refine wp_iload_n dX0_append_27 rfl rfl ?_
    have c0 := h.1
    replace h := h.2
    refine wp_iaddr dX0_append_28 c0 ?_
    refine wp_iload_n dX0_append_29 rfl rfl ?_
    have c1 := h.1
    replace h := h.2
    refine wp_iaddr dX0_append_30 c1 ?_
    refine wp_sipush dX0_append_31 (by decide +kernel) (by decide) ?_
    refine wp_pc (pc' := 34) rfl ?_
    refine wp_icmp_le (tgt := 38) dX0_append_34 (by decide) (fun h34 => ?_) (fun h34 => ?_)
    · replace h := h.2 h34
      refine wp_iload_n dX0_append_38 rfl rfl ?_
      refine wp_if_ne (tgt := 71) dX0_append_39 (by decide) (fun h39 => ?_) (fun h39 => ?_)
      · replace h := h.2 h39
        refine wp_aload_n dX0_append_71 rfl rfl (by first | exact Or.inl (by decide) | exact Or.inl (by omega) | exact Or.inr (by decide) | exact Or.inr (by omega)) ?_
        refine wp_getR dX0_append_72 fX0_9 rfl (by decide) ?_
        refine wp_topR (x' := 29) rfl ?_
        refine wp_aload_n dX0_append_75 rfl rfl (by first | exact Or.inl (by decide) | exact Or.inl (by omega) | exact Or.inr (by decide) | exact Or.inr (by omega)) ?_
        refine wp_getI dX0_append_76 fX0_44 rfl (by decide) ?_
        refine wp_bipush dX0_append_79 (by decide +kernel) (by decide) ?_
        have c2 := h.1
        replace h := h.2
        refine wp_bast dX0_append_81 rfl (by decide) c2 (by decide) ?_
        refine wp_gI (fun m81 e81 => ?_)
        replace h := h m81 e81
        refine wp_aload_n dX0_append_82 rfl rfl (by first | exact Or.inl (by decide) | exact Or.inl (by omega) | exact Or.inr (by decide) | exact Or.inr (by omega)) ?_
        refine wp_pc (pc' := 83) rfl ?_
        refine wp_dup dX0_append_83 (fun x e => by cases e) ?_
        refine wp_getI dX0_append_84 fX0_44 rfl (by decide) ?_
        refine wp_iconst dX0_append_87 (by decide) ?_
        have c3 := h.1
        replace h := h.2
        refine wp_iaddr dX0_append_88 c3 ?_
        refine wp_putI dX0_append_89 pX0_44 rfl (by decide) ?_
        refine wp_gI (fun m89 e89 => ?_)
        replace h := h m89 e89
        refine wp_aload_n dX0_append_92 rfl rfl (by first | exact Or.inl (by decide) | exact Or.inl (by omega) | exact Or.inr (by decide) | exact Or.inr (by omega)) ?_
        refine wp_dup dX0_append_93 (fun x e => by cases e) ?_
        refine wp_getI dX0_append_94 fX0_47 rfl (by decide) ?_
        refine wp_pc (pc' := 97) rfl ?_
        refine wp_iconst dX0_append_97 (by decide) ?_
        have c4 := h.1
        replace h := h.2
        refine wp_iaddr dX0_append_98 c4 ?_
        refine wp_putI dX0_append_99 pX0_47 rfl (by decide) ?_
        refine wp_gI (fun m99 e99 => ?_)
        replace h := h m99 e99
        refine wp_aload_n dX0_append_102 rfl rfl (by first | exact Or.inl (by decide) | exact Or.inl (by omega) | exact Or.inr (by decide) | exact Or.inr (by omega)) ?_
        refine wp_getR dX0_append_103 fX0_144 (show KD[b]? = some (7, 19) from kdb_0 hbd) (by omega) ?_
        refine wp_topR (x' := (b + 42)) (grb_0_13 hbd) ?_
        refine wp_aload_n dX0_append_106 rfl rfl (by first | exact Or.inl (by decide) | exact Or.inl (by omega) | exact Or.inr (by decide) | exact Or.inr (by omega)) ?_
        refine wp_getI dX0_append_107 fX0_50 rfl (by decide) ?_
        refine wp_aload_n dX0_append_110 rfl rfl (by first | exact Or.inl (by decide) | exact Or.inl (by omega) | exact Or.inr (by decide) | exact Or.inr (by omega)) ?_
        refine wp_pc (pc' := 111) rfl ?_
        refine wp_getR dX0_append_111 fX0_9 rfl (by decide) ?_
        refine wp_topR (x' := 29) rfl ?_
        refine wp_aload_n dX0_append_114 rfl rfl (by first | exact Or.inl (by decide) | exact Or.inl (by omega) | exact Or.inr (by decide) | exact Or.inr (by omega)) ?_
        refine wp_getI dX0_append_115 fX0_44 rfl (by decide) ?_
        refine wp_iload_n dX0_append_118 rfl rfl ?_
        have c5 := h.1
        replace h := h.2
        refine wp_copyB dX0_append_119 lX0_162 ac1 ac2 ac3 (kdb_42 hbd) rfl (by omega) (by decide) c5.2.1 c5.2.2.2.1 c5.1 c5.2.2.1 c5.2.2.2.2.1 c5.2.2.2.2.2 (by decide) (by decide) (by decide +kernel) (Nat.le_of_ble_eq_true rfl) ?_
        refine wp_gI (fun m119 e119 => ?_)
        replace h := h m119 e119
        refine wp_aload_n dX0_append_122 rfl rfl (by first | exact Or.inl (by decide) | exact Or.inl (by omega) | exact Or.inr (by decide) | exact Or.inr (by omega)) ?_
        refine wp_dup dX0_append_123 (fun x e => by cases e) ?_
        refine wp_getI dX0_append_124 fX0_44 rfl (by decide) ?_
        refine wp_pc (pc' := 127) rfl ?_
        refine wp_iload_n dX0_append_127 rfl rfl ?_
        have c6 := h.1
        replace h := h.2
        refine wp_iaddr dX0_append_128 c6 ?_
        refine wp_putI dX0_append_129 pX0_44 rfl (by decide) ?_
        refine wp_gI (fun m129 e129 => ?_)
        replace h := h m129 e129
        refine wp_aload_n dX0_append_132 rfl rfl (by first | exact Or.inl (by decide) | exact Or.inl (by omega) | exact Or.inr (by decide) | exact Or.inr (by omega)) ?_
        refine wp_dup dX0_append_133 (fun x e => by cases e) ?_
        refine wp_getI dX0_append_134 fX0_47 rfl (by decide) ?_
        refine wp_iload_n dX0_append_137 rfl rfl ?_
        have c7 := h.1
        replace h := h.2
        refine wp_iaddr dX0_append_138 c7 ?_
        refine wp_pc (pc' := 139) rfl ?_
        refine wp_putI dX0_append_139 pX0_47 rfl (by decide) ?_
        refine wp_gI (fun m139 e139 => ?_)
        replace h := h m139 e139
        exact wp_vret dX0_append_142 rfl (fun _ => h)
      · replace h := h.1 h39
        refine wp_aload_n dX0_append_42 rfl rfl (by first | exact Or.inl (by decide) | exact Or.inl (by omega) | exact Or.inr (by decide) | exact Or.inr (by omega)) ?_
        refine wp_getR dX0_append_43 fX0_15 rfl (by decide) ?_
        refine wp_topR (x' := 30) rfl ?_
        refine wp_aload_n dX0_append_46 rfl rfl (by first | exact Or.inl (by decide) | exact Or.inl (by omega) | exact Or.inr (by decide) | exact Or.inr (by omega)) ?_
        refine wp_getI dX0_append_47 fX0_62 rfl (by decide) ?_
        refine wp_aload_n dX0_append_50 rfl rfl (by first | exact Or.inl (by decide) | exact Or.inl (by omega) | exact Or.inr (by decide) | exact Or.inr (by omega)) ?_
        refine wp_getI dX0_append_51 fX0_44 rfl (by decide) ?_
        have c2 := h.1
        replace h := h.2
        refine wp_iast dX0_append_54 rfl (by decide) c2 ?_
        refine wp_gI (fun m54 e54 => ?_)
        replace h := h m54 e54
        refine wp_pc (pc' := 55) rfl ?_
        refine wp_aload_n dX0_append_55 rfl rfl (by first | exact Or.inl (by decide) | exact Or.inl (by omega) | exact Or.inr (by decide) | exact Or.inr (by omega)) ?_
        refine wp_getR dX0_append_56 fX0_28 rfl (by decide) ?_
        refine wp_topR (x' := 34) rfl ?_
        refine wp_aload_n dX0_append_59 rfl rfl (by first | exact Or.inl (by decide) | exact Or.inl (by omega) | exact Or.inr (by decide) | exact Or.inr (by omega)) ?_
        refine wp_getI dX0_append_60 fX0_62 rfl (by decide) ?_
        refine wp_aload_n dX0_append_63 rfl rfl (by first | exact Or.inl (by decide) | exact Or.inl (by omega) | exact Or.inr (by decide) | exact Or.inr (by omega)) ?_
        refine wp_getI dX0_append_64 fX0_50 rfl (by decide) ?_
        have c3 := h.1
        replace h := h.2
        refine wp_iast dX0_append_67 rfl (by decide) c3 ?_
        refine wp_gI (fun m67 e67 => ?_)
        replace h := h m67 e67
        refine wp_goto (tgt := 102) dX0_append_68 (by decide) ?_
        refine wp_pc (pc' := 102) rfl ?_
        refine wp_aload_n dX0_append_102 rfl rfl (by first | exact Or.inl (by decide) | exact Or.inl (by omega) | exact Or.inr (by decide) | exact Or.inr (by omega)) ?_
        refine wp_getR dX0_append_103 fX0_144 (show KD[b]? = some (7, 19) from kdb_0 hbd) (by omega) ?_
        refine wp_topR (x' := (b + 42)) (grb_0_13 hbd) ?_
        refine wp_aload_n dX0_append_106 rfl rfl (by first | exact Or.inl (by decide) | exact Or.inl (by omega) | exact Or.inr (by decide) | exact Or.inr (by omega)) ?_
        refine wp_getI dX0_append_107 fX0_50 rfl (by decide) ?_
        refine wp_aload_n dX0_append_110 rfl rfl (by first | exact Or.inl (by decide) | exact Or.inl (by omega) | exact Or.inr (by decide) | exact Or.inr (by omega)) ?_
        refine wp_getR dX0_append_111 fX0_9 rfl (by decide) ?_
        refine wp_topR (x' := 29) rfl ?_
        refine wp_aload_n dX0_append_114 rfl rfl (by first | exact Or.inl (by decide) | exact Or.inl (by omega) | exact Or.inr (by decide) | exact Or.inr (by omega)) ?_
        refine wp_getI dX0_append_115 fX0_44 rfl (by decide) ?_
        refine wp_pc (pc' := 118) rfl ?_
        refine wp_iload_n dX0_append_118 rfl rfl ?_
        have c4 := h.1
        replace h := h.2
        refine wp_copyB dX0_append_119 lX0_162 ac1 ac2 ac3 (kdb_42 hbd) rfl (by omega) (by decide) c4.2.1 c4.2.2.2.1 c4.1 c4.2.2.1 c4.2.2.2.2.1 c4.2.2.2.2.2 (by decide) (by decide) (by decide +kernel) (Nat.le_of_ble_eq_true rfl) ?_
        refine wp_gI (fun m119 e119 => ?_)
        replace h := h m119 e119
        refine wp_aload_n dX0_append_122 rfl rfl (by first | exact Or.inl (by decide) | exact Or.inl (by omega) | exact Or.inr (by decide) | exact Or.inr (by omega)) ?_
        refine wp_dup dX0_append_123 (fun x e => by cases e) ?_
        refine wp_getI dX0_append_124 fX0_44 rfl (by decide) ?_
        refine wp_iload_n dX0_append_127 rfl rfl ?_
        have c5 := h.1
        replace h := h.2
        refine wp_iaddr dX0_append_128 c5 ?_
        refine wp_putI dX0_append_129 pX0_44 rfl (by decide) ?_
        refine wp_gI (fun m129 e129 => ?_)
        replace h := h m129 e129
        refine wp_pc (pc' := 132) rfl ?_
        refine wp_aload_n dX0_append_132 rfl rfl (by first | exact Or.inl (by decide) | exact Or.inl (by omega) | exact Or.inr (by decide) | exact Or.inr (by omega)) ?_
        refine wp_dup dX0_append_133 (fun x e => by cases e) ?_
        refine wp_getI dX0_append_134 fX0_47 rfl (by decide) ?_
        refine wp_iload_n dX0_append_137 rfl rfl ?_
        have c6 := h.1
        replace h := h.2
        refine wp_iaddr dX0_append_138 c6 ?_
        refine wp_putI dX0_append_139 pX0_47 rfl (by decide) ?_
        refine wp_gI (fun m139 e139 => ?_)
        replace h := h m139 e139
        exact wp_vret dX0_append_142 rfl (fun _ => h)
    · replace h := h.1 h34
      exact wp_vret dX0_append_37 rfl (fun _ => h)
theorem dX0_endWord_0 : decode cX0_endWord 0 = .ok (.aload_n 0, 1) := by decide +kernel
theorem dX0_endWord_1 : decode cX0_endWord 1 = .ok (.getfield 53, 3) := by decide +kernel
theorem dX0_endWord_4 : decode cX0_endWord 4 = .ok (.aload_n 0, 1) := by decide +kernel
theorem dX0_endWord_5 : decode cX0_endWord 5 = .ok (.getfield 56, 3) := by decide +kernel
theorem dX0_endWord_8 : decode cX0_endWord 8 = .ok (.if_icmp .le 7, 3) := by decide +kernel
theorem dX0_endWord_11 : decode cX0_endWord 11 = .ok (.aload_n 0, 1) := by decide +kernel
theorem dX0_endWord_12 : decode cX0_endWord 12 = .ok (.invokevirtual 156, 3) := by decide +kernel
theorem dX0_endWord_15 : decode cX0_endWord 15 = .ok (.iconst 0, 1) := by decide +kernel
theorem dX0_endWord_16 : decode cX0_endWord 16 = .ok (.istore_n 2, 1) := by decide +kernel
theorem dX0_endWord_17 : decode cX0_endWord 17 = .ok (.iload_n 2, 1) := by decide +kernel
theorem dX0_endWord_18 : decode cX0_endWord 18 = .ok (.sipush 2000, 3) := by decide +kernel
theorem dX0_endWord_21 : decode cX0_endWord 21 = .ok (.if_icmp .ge 59, 3) := by decide +kernel
theorem dX0_endWord_24 : decode cX0_endWord 24 = .ok (.aload_n 0, 1) := by decide +kernel
theorem dX0_endWord_25 : decode cX0_endWord 25 = .ok (.getfield 53, 3) := by decide +kernel
theorem dX0_endWord_28 : decode cX0_endWord 28 = .ok (.aload_n 0, 1) := by decide +kernel
theorem dX0_endWord_29 : decode cX0_endWord 29 = .ok (.getfield 56, 3) := by decide +kernel
theorem dX0_endWord_32 : decode cX0_endWord 32 = .ok (.if_icmp .le 48, 3) := by decide +kernel
theorem dX0_endWord_35 : decode cX0_endWord 35 = .ok (.aload_n 0, 1) := by decide +kernel
theorem dX0_endWord_36 : decode cX0_endWord 36 = .ok (.aload_n 1, 1) := by decide +kernel
theorem dX0_endWord_37 : decode cX0_endWord 37 = .ok (.aload_n 0, 1) := by decide +kernel
theorem dX0_endWord_38 : decode cX0_endWord 38 = .ok (.getfield 56, 3) := by decide +kernel
theorem dX0_endWord_41 : decode cX0_endWord 41 = .ok (.invokevirtual 159, 3) := by decide +kernel
theorem dX0_endWord_44 : decode cX0_endWord 44 = .ok (.aload_n 0, 1) := by decide +kernel
theorem dX0_endWord_45 : decode cX0_endWord 45 = .ok (.invokevirtual 156, 3) := by decide +kernel
theorem dX0_endWord_48 : decode cX0_endWord 48 = .ok (.aload_n 0, 1) := by decide +kernel
theorem dX0_endWord_49 : decode cX0_endWord 49 = .ok (.dup, 1) := by decide +kernel
theorem dX0_endWord_50 : decode cX0_endWord 50 = .ok (.getfield 50, 3) := by decide +kernel
theorem dX0_endWord_53 : decode cX0_endWord 53 = .ok (.aload_n 0, 1) := by decide +kernel
theorem dX0_endWord_54 : decode cX0_endWord 54 = .ok (.getfield 56, 3) := by decide +kernel
theorem dX0_endWord_57 : decode cX0_endWord 57 = .ok (.iadd, 1) := by decide +kernel
theorem dX0_endWord_58 : decode cX0_endWord 58 = .ok (.putfield 50, 3) := by decide +kernel
theorem dX0_endWord_61 : decode cX0_endWord 61 = .ok (.aload_n 0, 1) := by decide +kernel
theorem dX0_endWord_62 : decode cX0_endWord 62 = .ok (.dup, 1) := by decide +kernel
theorem dX0_endWord_63 : decode cX0_endWord 63 = .ok (.getfield 53, 3) := by decide +kernel
theorem dX0_endWord_66 : decode cX0_endWord 66 = .ok (.aload_n 0, 1) := by decide +kernel
theorem dX0_endWord_67 : decode cX0_endWord 67 = .ok (.getfield 56, 3) := by decide +kernel
theorem dX0_endWord_70 : decode cX0_endWord 70 = .ok (.isub, 1) := by decide +kernel
theorem dX0_endWord_71 : decode cX0_endWord 71 = .ok (.putfield 53, 3) := by decide +kernel
theorem dX0_endWord_74 : decode cX0_endWord 74 = .ok (.iinc 2 1, 3) := by decide +kernel
theorem dX0_endWord_77 : decode cX0_endWord 77 = .ok (.goto (-60), 3) := by decide +kernel
theorem dX0_endWord_80 : decode cX0_endWord 80 = .ok (.aload_n 0, 1) := by decide +kernel
theorem dX0_endWord_81 : decode cX0_endWord 81 = .ok (.getfield 53, 3) := by decide +kernel
theorem dX0_endWord_84 : decode cX0_endWord 84 = .ok (.ifCond .le 34, 3) := by decide +kernel
theorem dX0_endWord_87 : decode cX0_endWord 87 = .ok (.aload_n 0, 1) := by decide +kernel
theorem dX0_endWord_88 : decode cX0_endWord 88 = .ok (.getfield 47, 3) := by decide +kernel
theorem dX0_endWord_91 : decode cX0_endWord 91 = .ok (.iconst 1, 1) := by decide +kernel
theorem dX0_endWord_92 : decode cX0_endWord 92 = .ok (.iadd, 1) := by decide +kernel
theorem dX0_endWord_93 : decode cX0_endWord 93 = .ok (.aload_n 0, 1) := by decide +kernel
theorem dX0_endWord_94 : decode cX0_endWord 94 = .ok (.getfield 53, 3) := by decide +kernel
theorem dX0_endWord_97 : decode cX0_endWord 97 = .ok (.iadd, 1) := by decide +kernel
theorem dX0_endWord_98 : decode cX0_endWord 98 = .ok (.aload_n 0, 1) := by decide +kernel
theorem dX0_endWord_99 : decode cX0_endWord 99 = .ok (.getfield 56, 3) := by decide +kernel
theorem dX0_endWord_102 : decode cX0_endWord 102 = .ok (.if_icmp .le 7, 3) := by decide +kernel
theorem dX0_endWord_105 : decode cX0_endWord 105 = .ok (.aload_n 0, 1) := by decide +kernel
theorem dX0_endWord_106 : decode cX0_endWord 106 = .ok (.invokevirtual 156, 3) := by decide +kernel
theorem dX0_endWord_109 : decode cX0_endWord 109 = .ok (.aload_n 0, 1) := by decide +kernel
theorem dX0_endWord_110 : decode cX0_endWord 110 = .ok (.aload_n 1, 1) := by decide +kernel
theorem dX0_endWord_111 : decode cX0_endWord 111 = .ok (.aload_n 0, 1) := by decide +kernel
theorem dX0_endWord_112 : decode cX0_endWord 112 = .ok (.getfield 53, 3) := by decide +kernel
theorem dX0_endWord_115 : decode cX0_endWord 115 = .ok (.invokevirtual 159, 3) := by decide +kernel
theorem dX0_endWord_118 : decode cX0_endWord 118 = .ok (.aload_n 0, 1) := by decide +kernel
theorem dX0_endWord_119 : decode cX0_endWord 119 = .ok (.iconst 0, 1) := by decide +kernel
theorem dX0_endWord_120 : decode cX0_endWord 120 = .ok (.putfield 53, 3) := by decide +kernel
theorem dX0_endWord_123 : decode cX0_endWord 123 = .ok (.return_, 1) := by decide +kernel
theorem v_X0_endWord_0 {cs : Cs} {Q : Option AV → Mm → Prop} {MI ML : Nat → Nat → Int} {b d e nw th x : Nat} (hbd : b = 38 ∨ b = 81)
    (h : (((MI 28 14) < (MI 28 13) → wp cs mX0_finishLine KD (rV (GR d e nw th x) fun m12 n12 => wp cs mX0_endWord KD Q 17 [some (vR 28), some (vR b), some (vI 0)] [] (KD, m12, n12, (GR d e nw th x))) 0 (padL [vR 28] 1) [] (KD, MI, ML, (GR d e nw th x))) ∧ ((MI 28 13) ≤ (MI 28 14) → wp cs mX0_endWord KD Q 17 [some (vR 28), some (vR b), some (vI 0)] [] (KD, MI, ML, (GR d e nw th x))))) :
    wp cs mX0_endWord KD Q 0 (padL [vR 28, vR b] 3) [] (KD, MI, ML, (GR d e nw th x)) := by
  refine wp_L (L' := [some (vR 28), some (vR b), none]) rfl ?_
  refine wp_aload_n dX0_endWord_0 rfl rfl (by first | exact Or.inl (by decide) | exact Or.inl (by omega) | exact Or.inr (by decide) | exact Or.inr (by omega)) ?_
  refine wp_getI dX0_endWord_1 fX0_53 rfl (by decide) ?_
  refine wp_aload_n dX0_endWord_4 rfl rfl (by first | exact Or.inl (by decide) | exact Or.inl (by omega) | exact Or.inr (by decide) | exact Or.inr (by omega)) ?_
  refine wp_getI dX0_endWord_5 fX0_56 rfl (by decide) ?_
  refine wp_icmp_le (tgt := 15) dX0_endWord_8 (by decide) (fun h8 => ?_) (fun h8 => ?_)
  · replace h := h.2 h8
    refine wp_iconst dX0_endWord_15 (by decide) ?_
    refine wp_istore_n dX0_endWord_16 rfl (by decide) (wp_L (L' := [some (vR 28), some (vR b), some (vI 0)]) rfl ?_)
    exact h
  · replace h := h.1 h8
    refine wp_aload_n dX0_endWord_11 rfl rfl (by first | exact Or.inl (by decide) | exact Or.inl (by omega) | exact Or.inr (by decide) | exact Or.inr (by omega)) ?_
    refine wp_cVq (n := 0) (mt' := mX0_finishLine) (as := []) (rest := []) _ dX0_endWord_12 lX0_156 kX0_finishLine vX0_finishLine (by decide) (by decide +kernel) rfl (Nat.le_of_ble_eq_true rfl) (by decide) rfl rfl rfl (Nat.le_of_ble_eq_true rfl) (fun hM hS => h) (fun r M' hq hM => ?_)
    obtain ⟨m12, n12, rfl, rfl, h⟩ := rV_out hq
    refine wp_iconst dX0_endWord_15 (by decide) ?_
    refine wp_istore_n dX0_endWord_16 rfl (by decide) (wp_L (L' := [some (vR 28), some (vR b), some (vI 0)]) rfl ?_)
    exact h
theorem v_X0_endWord_17 {cs : Cs} {Q : Option AV → Mm → Prop} {MI ML : Nat → Nat → Int} {b d e nw th x : Nat} {l2 : Int} (hbd : b = 38 ∨ b = 81)
    (h : ((l2 < 2000 → (((MI 28 14) < (MI 28 13) → wp cs mX0_append KD (rV (GR d e nw th x) fun m41 n41 => wp cs mX0_finishLine KD (rV (GR d e nw th x) fun m45 n45 => (-2147483648 ≤ (m45 28 12) + (m45 28 14) ∧ (m45 28 12) + (m45 28 14) < 2147483648) ∧ ∀ m58, m58 = up2 m45 28 12 ((m45 28 12) + (m45 28 14)) → (-2147483648 ≤ (m58 28 13) - (m58 28 14) ∧ (m58 28 13) - (m58 28 14) < 2147483648) ∧ ∀ m71, m71 = up2 m58 28 13 ((m58 28 13) - (m58 28 14)) → (-2147483648 ≤ l2 + 1 ∧ l2 + 1 < 2147483648) ∧ wp cs mX0_endWord KD Q 17 [some (vR 28), some (vR b), some (vI (l2 + 1))] [] (KD, m71, n45, (GR d e nw th x))) 0 (padL [vR 28] 1) [] (KD, m41, n41, (GR d e nw th x))) 0 (padL [vR 28, vR b, vI (MI 28 14)] 4) [] (KD, MI, ML, (GR d e nw th x))) ∧ ((MI 28 13) ≤ (MI 28 14) → wp cs mX0_endWord KD Q 80 [some (vR 28), some (vR b), some (vI l2)] [] (KD, MI, ML, (GR d e nw th x))))) ∧ (2000 ≤ l2 → wp cs mX0_endWord KD Q 80 [some (vR 28), some (vR b), some (vI l2)] [] (KD, MI, ML, (GR d e nw th x))))) :
    wp cs mX0_endWord KD Q 17 [some (vR 28), some (vR b), some (vI l2)] [] (KD, MI, ML, (GR d e nw th x)) := by
  refine wp_iload_n dX0_endWord_17 rfl rfl ?_
  refine wp_sipush dX0_endWord_18 (by decide +kernel) (by decide) ?_
  refine wp_icmp_ge (tgt := 80) dX0_endWord_21 (by decide) (fun h21 => ?_) (fun h21 => ?_)
  · replace h := h.2 h21
    exact h
  · replace h := h.1 h21
    refine wp_aload_n dX0_endWord_24 rfl rfl (by first | exact Or.inl (by decide) | exact Or.inl (by omega) | exact Or.inr (by decide) | exact Or.inr (by omega)) ?_
    refine wp_getI dX0_endWord_25 fX0_53 rfl (by decide) ?_
    refine wp_aload_n dX0_endWord_28 rfl rfl (by first | exact Or.inl (by decide) | exact Or.inl (by omega) | exact Or.inr (by decide) | exact Or.inr (by omega)) ?_
    refine wp_getI dX0_endWord_29 fX0_56 rfl (by decide) ?_
    refine wp_icmp_le (tgt := 80) dX0_endWord_32 (by decide) (fun h32 => ?_) (fun h32 => ?_)
    · replace h := h.2 h32
      exact h
    · replace h := h.1 h32
      refine wp_aload_n dX0_endWord_35 rfl rfl (by first | exact Or.inl (by decide) | exact Or.inl (by omega) | exact Or.inr (by decide) | exact Or.inr (by omega)) ?_
      refine wp_aload_n dX0_endWord_36 rfl rfl (by first | exact Or.inl (by decide) | exact Or.inl (by omega) | exact Or.inr (by decide) | exact Or.inr (by omega)) ?_
      refine wp_aload_n dX0_endWord_37 rfl rfl (by first | exact Or.inl (by decide) | exact Or.inl (by omega) | exact Or.inr (by decide) | exact Or.inr (by omega)) ?_
      refine wp_getI dX0_endWord_38 fX0_56 rfl (by decide) ?_
      refine wp_cVq (n := 2) (mt' := mX0_append) (as := [vR b, vI (MI 28 14)]) (rest := []) _ dX0_endWord_41 lX0_159 kX0_append vX0_append (by decide) (by decide +kernel) rfl (Nat.le_of_ble_eq_true rfl) (by decide) rfl rfl rfl (Nat.le_of_ble_eq_true rfl) (fun hM hS => h) (fun r M' hq hM => ?_)
      obtain ⟨m41, n41, rfl, rfl, h⟩ := rV_out hq
      refine wp_aload_n dX0_endWord_44 rfl rfl (by first | exact Or.inl (by decide) | exact Or.inl (by omega) | exact Or.inr (by decide) | exact Or.inr (by omega)) ?_
      refine wp_cVq (n := 0) (mt' := mX0_finishLine) (as := []) (rest := []) _ dX0_endWord_45 lX0_156 kX0_finishLine vX0_finishLine (by decide) (by decide +kernel) rfl (Nat.le_of_ble_eq_true rfl) (by decide) rfl rfl rfl (Nat.le_of_ble_eq_true rfl) (fun hM hS => h) (fun r M' hq hM => ?_)
      obtain ⟨m45, n45, rfl, rfl, h⟩ := rV_out hq
      refine wp_aload_n dX0_endWord_48 rfl rfl (by first | exact Or.inl (by decide) | exact Or.inl (by omega) | exact Or.inr (by decide) | exact Or.inr (by omega)) ?_
      refine wp_dup dX0_endWord_49 (fun x e => by cases e) ?_
      refine wp_getI dX0_endWord_50 fX0_50 rfl (by decide) ?_
      refine wp_aload_n dX0_endWord_53 rfl rfl (by first | exact Or.inl (by decide) | exact Or.inl (by omega) | exact Or.inr (by decide) | exact Or.inr (by omega)) ?_
      refine wp_getI dX0_endWord_54 fX0_56 rfl (by decide) ?_
      have c0 := h.1
      replace h := h.2
      refine wp_iaddr dX0_endWord_57 c0 ?_
      refine wp_putI dX0_endWord_58 pX0_50 rfl (by decide) ?_
      refine wp_gI (fun m58 e58 => ?_)
      replace h := h m58 e58
      refine wp_pc (pc' := 61) rfl ?_
      refine wp_aload_n dX0_endWord_61 rfl rfl (by first | exact Or.inl (by decide) | exact Or.inl (by omega) | exact Or.inr (by decide) | exact Or.inr (by omega)) ?_
      refine wp_dup dX0_endWord_62 (fun x e => by cases e) ?_
      refine wp_getI dX0_endWord_63 fX0_53 rfl (by decide) ?_
      refine wp_aload_n dX0_endWord_66 rfl rfl (by first | exact Or.inl (by decide) | exact Or.inl (by omega) | exact Or.inr (by decide) | exact Or.inr (by omega)) ?_
      refine wp_getI dX0_endWord_67 fX0_56 rfl (by decide) ?_
      have c1 := h.1
      replace h := h.2
      refine wp_isubr dX0_endWord_70 c1 ?_
      refine wp_putI dX0_endWord_71 pX0_53 rfl (by decide) ?_
      refine wp_gI (fun m71 e71 => ?_)
      replace h := h m71 e71
      have c2 := h.1
      replace h := h.2
      refine wp_iincr dX0_endWord_74 rfl (by decide) c2 (wp_L (L' := [some (vR 28), some (vR b), some (vI (l2 + 1))]) rfl ?_)
      refine wp_pc (pc' := 77) rfl ?_
      refine wp_goto (tgt := 17) dX0_endWord_77 (by decide) ?_
      exact h
theorem v_X0_endWord_80 {cs : Cs} {Q : Option AV → Mm → Prop} {MI ML : Nat → Nat → Int} {b d e nw th x : Nat} {l2 : Int} (hbd : b = 38 ∨ b = 81)
    (h : ((0 < (MI 28 13) → (-2147483648 ≤ (MI 28 11) + 1 ∧ (MI 28 11) + 1 < 2147483648) ∧ (-2147483648 ≤ ((MI 28 11) + 1) + (MI 28 13) ∧ ((MI 28 11) + 1) + (MI 28 13) < 2147483648) ∧ (((MI 28 14) < (((MI 28 11) + 1) + (MI 28 13)) → wp cs mX0_finishLine KD (rV (GR d e nw th x) fun m106 n106 => wp cs mX0_append KD (rV (GR d e nw th x) fun m115 n115 => ∀ m120, m120 = up2 m115 28 13 0 → Q none (m120, n115, (GR d e nw th x))) 0 (padL [vR 28, vR b, vI (m106 28 13)] 4) [] (KD, m106, n106, (GR d e nw th x))) 0 (padL [vR 28] 1) [] (KD, MI, ML, (GR d e nw th x))) ∧ ((((MI 28 11) + 1) + (MI 28 13)) ≤ (MI 28 14) → wp cs mX0_append KD (rV (GR d e nw th x) fun m115 n115 => ∀ m120, m120 = up2 m115 28 13 0 → Q none (m120, n115, (GR d e nw th x))) 0 (padL [vR 28, vR b, vI (MI 28 13)] 4) [] (KD, MI, ML, (GR d e nw th x))))) ∧ ((MI 28 13) ≤ 0 → ∀ m120, m120 = up2 MI 28 13 0 → Q none (m120, ML, (GR d e nw th x))))) :
    wp cs mX0_endWord KD Q 80 [some (vR 28), some (vR b), some (vI l2)] [] (KD, MI, ML, (GR d e nw th x)) := by
  refine wp_aload_n dX0_endWord_80 rfl rfl (by first | exact Or.inl (by decide) | exact Or.inl (by omega) | exact Or.inr (by decide) | exact Or.inr (by omega)) ?_
  refine wp_getI dX0_endWord_81 fX0_53 rfl (by decide) ?_
  refine wp_if_le (tgt := 118) dX0_endWord_84 (by decide) (fun h84 => ?_) (fun h84 => ?_)
  · replace h := h.2 h84
    refine wp_aload_n dX0_endWord_118 rfl rfl (by first | exact Or.inl (by decide) | exact Or.inl (by omega) | exact Or.inr (by decide) | exact Or.inr (by omega)) ?_
    refine wp_iconst dX0_endWord_119 (by decide) ?_
    refine wp_putI dX0_endWord_120 pX0_53 rfl (by decide) ?_
    refine wp_gI (fun m120 e120 => ?_)
    replace h := h m120 e120
    exact wp_vret dX0_endWord_123 rfl (fun _ => h)
  · replace h := h.1 h84
    refine wp_aload_n dX0_endWord_87 rfl rfl (by first | exact Or.inl (by decide) | exact Or.inl (by omega) | exact Or.inr (by decide) | exact Or.inr (by omega)) ?_
    refine wp_getI dX0_endWord_88 fX0_47 rfl (by decide) ?_
    refine wp_iconst dX0_endWord_91 (by decide) ?_
    have c0 := h.1
    replace h := h.2
    refine wp_iaddr dX0_endWord_92 c0 ?_
    refine wp_aload_n dX0_endWord_93 rfl rfl (by first | exact Or.inl (by decide) | exact Or.inl (by omega) | exact Or.inr (by decide) | exact Or.inr (by omega)) ?_
    refine wp_getI dX0_endWord_94 fX0_53 rfl (by decide) ?_
    have c1 := h.1
    replace h := h.2
    refine wp_iaddr dX0_endWord_97 c1 ?_
    refine wp_pc (pc' := 98) rfl ?_
    refine wp_aload_n dX0_endWord_98 rfl rfl (by first | exact Or.inl (by decide) | exact Or.inl (by omega) | exact Or.inr (by decide) | exact Or.inr (by omega)) ?_
    refine wp_getI dX0_endWord_99 fX0_56 rfl (by decide) ?_
    refine wp_icmp_le (tgt := 109) dX0_endWord_102 (by decide) (fun h102 => ?_) (fun h102 => ?_)
    · replace h := h.2 h102
      refine wp_aload_n dX0_endWord_109 rfl rfl (by first | exact Or.inl (by decide) | exact Or.inl (by omega) | exact Or.inr (by decide) | exact Or.inr (by omega)) ?_
      refine wp_aload_n dX0_endWord_110 rfl rfl (by first | exact Or.inl (by decide) | exact Or.inl (by omega) | exact Or.inr (by decide) | exact Or.inr (by omega)) ?_
      refine wp_aload_n dX0_endWord_111 rfl rfl (by first | exact Or.inl (by decide) | exact Or.inl (by omega) | exact Or.inr (by decide) | exact Or.inr (by omega)) ?_
      refine wp_getI dX0_endWord_112 fX0_53 rfl (by decide) ?_
      refine wp_cVq (n := 2) (mt' := mX0_append) (as := [vR b, vI (MI 28 13)]) (rest := []) _ dX0_endWord_115 lX0_159 kX0_append vX0_append (by decide) (by decide +kernel) rfl (Nat.le_of_ble_eq_true rfl) (by decide) rfl rfl rfl (Nat.le_of_ble_eq_true rfl) (fun hM hS => h) (fun r M' hq hM => ?_)
      obtain ⟨m115, n115, rfl, rfl, h⟩ := rV_out hq
      refine wp_aload_n dX0_endWord_118 rfl rfl (by first | exact Or.inl (by decide) | exact Or.inl (by omega) | exact Or.inr (by decide) | exact Or.inr (by omega)) ?_
      refine wp_iconst dX0_endWord_119 (by decide) ?_
      refine wp_putI dX0_endWord_120 pX0_53 rfl (by decide) ?_
      refine wp_gI (fun m120 e120 => ?_)
      replace h := h m120 e120
      exact wp_vret dX0_endWord_123 rfl (fun _ => h)
    · replace h := h.1 h102
      refine wp_aload_n dX0_endWord_105 rfl rfl (by first | exact Or.inl (by decide) | exact Or.inl (by omega) | exact Or.inr (by decide) | exact Or.inr (by omega)) ?_
      refine wp_cVq (n := 0) (mt' := mX0_finishLine) (as := []) (rest := []) _ dX0_endWord_106 lX0_156 kX0_finishLine vX0_finishLine (by decide) (by decide +kernel) rfl (Nat.le_of_ble_eq_true rfl) (by decide) rfl rfl rfl (Nat.le_of_ble_eq_true rfl) (fun hM hS => h) (fun r M' hq hM => ?_)
      obtain ⟨m106, n106, rfl, rfl, h⟩ := rV_out hq
      refine wp_aload_n dX0_endWord_109 rfl rfl (by first | exact Or.inl (by decide) | exact Or.inl (by omega) | exact Or.inr (by decide) | exact Or.inr (by omega)) ?_
      refine wp_aload_n dX0_endWord_110 rfl rfl (by first | exact Or.inl (by decide) | exact Or.inl (by omega) | exact Or.inr (by decide) | exact Or.inr (by omega)) ?_
      refine wp_aload_n dX0_endWord_111 rfl rfl (by first | exact Or.inl (by decide) | exact Or.inl (by omega) | exact Or.inr (by decide) | exact Or.inr (by omega)) ?_
      refine wp_getI dX0_endWord_112 fX0_53 rfl (by decide) ?_
      refine wp_cVq (n := 2) (mt' := mX0_append) (as := [vR b, vI (m106 28 13)]) (rest := []) _ dX0_endWord_115 lX0_159 kX0_append vX0_append (by decide) (by decide +kernel) rfl (Nat.le_of_ble_eq_true rfl) (by decide) rfl rfl rfl (Nat.le_of_ble_eq_true rfl) (fun hM hS => h) (fun r M' hq hM => ?_)
      obtain ⟨m115, n115, rfl, rfl, h⟩ := rV_out hq
      refine wp_aload_n dX0_endWord_118 rfl rfl (by first | exact Or.inl (by decide) | exact Or.inl (by omega) | exact Or.inr (by decide) | exact Or.inr (by omega)) ?_
      refine wp_iconst dX0_endWord_119 (by decide) ?_
      refine wp_putI dX0_endWord_120 pX0_53 rfl (by decide) ?_
      refine wp_gI (fun m120 e120 => ?_)
      replace h := h m120 e120
      exact wp_vret dX0_endWord_123 rfl (fun _ => h)
theorem dX0_endLine_0 : decode cX0_endLine 0 = .ok (.aload_n 0, 1) := by decide +kernel
theorem dX0_endLine_1 : decode cX0_endLine 1 = .ok (.aload_n 1, 1) := by decide +kernel
theorem dX0_endLine_2 : decode cX0_endLine 2 = .ok (.invokevirtual 153, 3) := by decide +kernel
theorem dX0_endLine_5 : decode cX0_endLine 5 = .ok (.aload_n 0, 1) := by decide +kernel
theorem dX0_endLine_6 : decode cX0_endLine 6 = .ok (.invokevirtual 156, 3) := by decide +kernel
theorem dX0_endLine_9 : decode cX0_endLine 9 = .ok (.return_, 1) := by decide +kernel
theorem v_X0_endLine_0 {cs : Cs} {Q : Option AV → Mm → Prop} {MI ML : Nat → Nat → Int} {b d e nw th x : Nat} (hbd : b = 38 ∨ b = 81)
    (h : wp cs mX0_endWord KD (rV (GR d e nw th x) fun m2 n2 => wp cs mX0_finishLine KD (rV (GR d e nw th x) fun m6 n6 => Q none (m6, n6, (GR d e nw th x))) 0 (padL [vR 28] 1) [] (KD, m2, n2, (GR d e nw th x))) 0 (padL [vR 28, vR b] 3) [] (KD, MI, ML, (GR d e nw th x))) :
    wp cs mX0_endLine KD Q 0 (padL [vR 28, vR b] 2) [] (KD, MI, ML, (GR d e nw th x)) := by
  refine wp_L (L' := [some (vR 28), some (vR b)]) rfl ?_
  refine wp_aload_n dX0_endLine_0 rfl rfl (by first | exact Or.inl (by decide) | exact Or.inl (by omega) | exact Or.inr (by decide) | exact Or.inr (by omega)) ?_
  refine wp_aload_n dX0_endLine_1 rfl rfl (by first | exact Or.inl (by decide) | exact Or.inl (by omega) | exact Or.inr (by decide) | exact Or.inr (by omega)) ?_
  refine wp_cVq (n := 1) (mt' := mX0_endWord) (as := [vR b]) (rest := []) _ dX0_endLine_2 lX0_153 kX0_endWord vX0_endWord (by decide) (by decide +kernel) rfl (Nat.le_of_ble_eq_true rfl) (by decide) rfl rfl rfl (Nat.le_of_ble_eq_true rfl) (fun hM hS => h) (fun r M' hq hM => ?_)
  obtain ⟨m2, n2, rfl, rfl, h⟩ := rV_out hq
  refine wp_aload_n dX0_endLine_5 rfl rfl (by first | exact Or.inl (by decide) | exact Or.inl (by omega) | exact Or.inr (by decide) | exact Or.inr (by omega)) ?_
  refine wp_cVq (n := 0) (mt' := mX0_finishLine) (as := []) (rest := []) _ dX0_endLine_6 lX0_156 kX0_finishLine vX0_finishLine (by decide) (by decide +kernel) rfl (Nat.le_of_ble_eq_true rfl) (by decide) rfl rfl rfl (Nat.le_of_ble_eq_true rfl) (fun hM hS => h) (fun r M' hq hM => ?_)
  obtain ⟨m6, n6, rfl, rfl, h⟩ := rV_out hq
  exact wp_vret dX0_endLine_9 rfl (fun _ => h)
theorem dX0_isNamedKeep_0 : decode cX0_isNamedKeep 0 = .ok (.aload_n 0, 1) := by decide +kernel
theorem dX0_isNamedKeep_1 : decode cX0_isNamedKeep 1 = .ok (.iload_n 1, 1) := by decide +kernel
theorem dX0_isNamedKeep_2 : decode cX0_isNamedKeep 2 = .ok (.invokevirtual 141, 3) := by decide +kernel
theorem dX0_isNamedKeep_5 : decode cX0_isNamedKeep 5 = .ok (.iconst 4, 1) := by decide +kernel
theorem dX0_isNamedKeep_6 : decode cX0_isNamedKeep 6 = .ok (.if_icmp .ne 51, 3) := by decide +kernel
theorem dX0_isNamedKeep_9 : decode cX0_isNamedKeep 9 = .ok (.aload_n 0, 1) := by decide +kernel
theorem dX0_isNamedKeep_10 : decode cX0_isNamedKeep 10 = .ok (.iload_n 1, 1) := by decide +kernel
theorem dX0_isNamedKeep_11 : decode cX0_isNamedKeep 11 = .ok (.iconst 0, 1) := by decide +kernel
theorem dX0_isNamedKeep_12 : decode cX0_isNamedKeep 12 = .ok (.invokevirtual 108, 3) := by decide +kernel
theorem dX0_isNamedKeep_15 : decode cX0_isNamedKeep 15 = .ok (.bipush 107, 2) := by decide +kernel
theorem dX0_isNamedKeep_17 : decode cX0_isNamedKeep 17 = .ok (.if_icmp .ne 40, 3) := by decide +kernel
theorem dX0_isNamedKeep_20 : decode cX0_isNamedKeep 20 = .ok (.aload_n 0, 1) := by decide +kernel
theorem dX0_isNamedKeep_21 : decode cX0_isNamedKeep 21 = .ok (.iload_n 1, 1) := by decide +kernel
theorem dX0_isNamedKeep_22 : decode cX0_isNamedKeep 22 = .ok (.iconst 1, 1) := by decide +kernel
theorem dX0_isNamedKeep_23 : decode cX0_isNamedKeep 23 = .ok (.invokevirtual 108, 3) := by decide +kernel
theorem dX0_isNamedKeep_26 : decode cX0_isNamedKeep 26 = .ok (.bipush 101, 2) := by decide +kernel
theorem dX0_isNamedKeep_28 : decode cX0_isNamedKeep 28 = .ok (.if_icmp .ne 29, 3) := by decide +kernel
theorem dX0_isNamedKeep_31 : decode cX0_isNamedKeep 31 = .ok (.aload_n 0, 1) := by decide +kernel
theorem dX0_isNamedKeep_32 : decode cX0_isNamedKeep 32 = .ok (.iload_n 1, 1) := by decide +kernel
theorem dX0_isNamedKeep_33 : decode cX0_isNamedKeep 33 = .ok (.iconst 2, 1) := by decide +kernel
theorem dX0_isNamedKeep_34 : decode cX0_isNamedKeep 34 = .ok (.invokevirtual 108, 3) := by decide +kernel
theorem dX0_isNamedKeep_37 : decode cX0_isNamedKeep 37 = .ok (.bipush 101, 2) := by decide +kernel
theorem dX0_isNamedKeep_39 : decode cX0_isNamedKeep 39 = .ok (.if_icmp .ne 18, 3) := by decide +kernel
theorem dX0_isNamedKeep_42 : decode cX0_isNamedKeep 42 = .ok (.aload_n 0, 1) := by decide +kernel
theorem dX0_isNamedKeep_43 : decode cX0_isNamedKeep 43 = .ok (.iload_n 1, 1) := by decide +kernel
theorem dX0_isNamedKeep_44 : decode cX0_isNamedKeep 44 = .ok (.iconst 3, 1) := by decide +kernel
theorem dX0_isNamedKeep_45 : decode cX0_isNamedKeep 45 = .ok (.invokevirtual 108, 3) := by decide +kernel
theorem dX0_isNamedKeep_48 : decode cX0_isNamedKeep 48 = .ok (.bipush 112, 2) := by decide +kernel
theorem dX0_isNamedKeep_50 : decode cX0_isNamedKeep 50 = .ok (.if_icmp .ne 7, 3) := by decide +kernel
theorem dX0_isNamedKeep_53 : decode cX0_isNamedKeep 53 = .ok (.iconst 1, 1) := by decide +kernel
theorem dX0_isNamedKeep_54 : decode cX0_isNamedKeep 54 = .ok (.goto 4, 3) := by decide +kernel
theorem dX0_isNamedKeep_57 : decode cX0_isNamedKeep 57 = .ok (.iconst 0, 1) := by decide +kernel
theorem dX0_isNamedKeep_58 : decode cX0_isNamedKeep 58 = .ok (.ireturn, 1) := by decide +kernel
theorem v_X0_isNamedKeep_0 {cs : Cs} {Q : Option AV → Mm → Prop} {MI ML : Nat → Nat → Int} {b d e nw th x : Nat} {l1 : Int} (hbd : b = 38 ∨ b = 81)
    (h : wp cs mX5_lengthOf KD (rI (GR d e nw th x) fun x2 m2 n2 => ((x2 = 4 → wp cs mX5_byteOf KD (rI (GR d e nw th x) fun x12 m12 n12 => ((x12 = 107 → wp cs mX5_byteOf KD (rI (GR d e nw th x) fun x23 m23 n23 => ((x23 = 101 → wp cs mX5_byteOf KD (rI (GR d e nw th x) fun x34 m34 n34 => ((x34 = 101 → wp cs mX5_byteOf KD (rI (GR d e nw th x) fun x45 m45 n45 => ((x45 = 112 → Q (some (vI 1)) (m45, n45, (GR d e nw th x))) ∧ (x45 ≠ 112 → Q (some (vI 0)) (m45, n45, (GR d e nw th x))))) 0 (padL [vR (b + 1), vI l1, vI 3] 3) [] (KD, m34, n34, (GR d e nw th x))) ∧ (x34 ≠ 101 → Q (some (vI 0)) (m34, n34, (GR d e nw th x))))) 0 (padL [vR (b + 1), vI l1, vI 2] 3) [] (KD, m23, n23, (GR d e nw th x))) ∧ (x23 ≠ 101 → Q (some (vI 0)) (m23, n23, (GR d e nw th x))))) 0 (padL [vR (b + 1), vI l1, vI 1] 3) [] (KD, m12, n12, (GR d e nw th x))) ∧ (x12 ≠ 107 → Q (some (vI 0)) (m12, n12, (GR d e nw th x))))) 0 (padL [vR (b + 1), vI l1, vI 0] 3) [] (KD, m2, n2, (GR d e nw th x))) ∧ (x2 ≠ 4 → Q (some (vI 0)) (m2, n2, (GR d e nw th x))))) 0 (padL [vR (b + 1), vI l1] 2) [] (KD, MI, ML, (GR d e nw th x))) :
    wp cs mX0_isNamedKeep KD Q 0 (padL [vR (b + 1), vI l1] 2) [] (KD, MI, ML, (GR d e nw th x)) := by
  refine wp_L (L' := [some (vR (b + 1)), some (vI l1)]) rfl ?_
  refine wp_aload_n dX0_isNamedKeep_0 rfl rfl (by first | exact Or.inl (by decide) | exact Or.inl (by omega) | exact Or.inr (by decide) | exact Or.inr (by omega)) ?_
  refine wp_iload_n dX0_isNamedKeep_1 rfl rfl ?_
  refine wp_cVq (n := 1) (mt' := mX5_lengthOf) (as := [vI l1]) (rest := []) _ dX0_isNamedKeep_2 lX0_141 kX5_lengthOf vX5_lengthOf (by decide) (by decide +kernel) rfl (Nat.le_of_ble_eq_true rfl) (by omega) (kdb_1 hbd) rfl rfl (Nat.le_of_ble_eq_true rfl) (fun hM hS => h) (fun r M' hq hM => ?_)
  obtain ⟨x2, m2, n2, rfl, rfl, h⟩ := rI_out hq
  refine wp_iconst dX0_isNamedKeep_5 (by decide) ?_
  refine wp_icmp_ne (tgt := 57) dX0_isNamedKeep_6 (by decide) (fun h6 => ?_) (fun h6 => ?_)
  · replace h := h.2 h6
    refine wp_iconst dX0_isNamedKeep_57 (by decide) ?_
    exact wp_zret dX0_isNamedKeep_58 rfl (by decide) (fun _ => h)
  · replace h := h.1 h6
    refine wp_aload_n dX0_isNamedKeep_9 rfl rfl (by first | exact Or.inl (by decide) | exact Or.inl (by omega) | exact Or.inr (by decide) | exact Or.inr (by omega)) ?_
    refine wp_iload_n dX0_isNamedKeep_10 rfl rfl ?_
    refine wp_iconst dX0_isNamedKeep_11 (by decide) ?_
    refine wp_cVq (n := 2) (mt' := mX5_byteOf) (as := [vI l1, vI 0]) (rest := []) _ dX0_isNamedKeep_12 lX0_108 kX5_byteOf vX5_byteOf (by decide) (by decide +kernel) rfl (Nat.le_of_ble_eq_true rfl) (by omega) (kdb_1 hbd) rfl rfl (Nat.le_of_ble_eq_true rfl) (fun hM hS => h) (fun r M' hq hM => ?_)
    obtain ⟨x12, m12, n12, rfl, rfl, h⟩ := rI_out hq
    refine wp_bipush dX0_isNamedKeep_15 (by decide +kernel) (by decide) ?_
    refine wp_icmp_ne (tgt := 57) dX0_isNamedKeep_17 (by decide) (fun h17 => ?_) (fun h17 => ?_)
    · replace h := h.2 h17
      refine wp_iconst dX0_isNamedKeep_57 (by decide) ?_
      exact wp_zret dX0_isNamedKeep_58 rfl (by decide) (fun _ => h)
    · replace h := h.1 h17
      refine wp_aload_n dX0_isNamedKeep_20 rfl rfl (by first | exact Or.inl (by decide) | exact Or.inl (by omega) | exact Or.inr (by decide) | exact Or.inr (by omega)) ?_
      refine wp_iload_n dX0_isNamedKeep_21 rfl rfl ?_
      refine wp_iconst dX0_isNamedKeep_22 (by decide) ?_
      refine wp_cVq (n := 2) (mt' := mX5_byteOf) (as := [vI l1, vI 1]) (rest := []) _ dX0_isNamedKeep_23 lX0_108 kX5_byteOf vX5_byteOf (by decide) (by decide +kernel) rfl (Nat.le_of_ble_eq_true rfl) (by omega) (kdb_1 hbd) rfl rfl (Nat.le_of_ble_eq_true rfl) (fun hM hS => h) (fun r M' hq hM => ?_)
      obtain ⟨x23, m23, n23, rfl, rfl, h⟩ := rI_out hq
      refine wp_bipush dX0_isNamedKeep_26 (by decide +kernel) (by decide) ?_
      refine wp_icmp_ne (tgt := 57) dX0_isNamedKeep_28 (by decide) (fun h28 => ?_) (fun h28 => ?_)
      · replace h := h.2 h28
        refine wp_iconst dX0_isNamedKeep_57 (by decide) ?_
        exact wp_zret dX0_isNamedKeep_58 rfl (by decide) (fun _ => h)
      · replace h := h.1 h28
        refine wp_aload_n dX0_isNamedKeep_31 rfl rfl (by first | exact Or.inl (by decide) | exact Or.inl (by omega) | exact Or.inr (by decide) | exact Or.inr (by omega)) ?_
        refine wp_iload_n dX0_isNamedKeep_32 rfl rfl ?_
        refine wp_iconst dX0_isNamedKeep_33 (by decide) ?_
        refine wp_cVq (n := 2) (mt' := mX5_byteOf) (as := [vI l1, vI 2]) (rest := []) _ dX0_isNamedKeep_34 lX0_108 kX5_byteOf vX5_byteOf (by decide) (by decide +kernel) rfl (Nat.le_of_ble_eq_true rfl) (by omega) (kdb_1 hbd) rfl rfl (Nat.le_of_ble_eq_true rfl) (fun hM hS => h) (fun r M' hq hM => ?_)
        obtain ⟨x34, m34, n34, rfl, rfl, h⟩ := rI_out hq
        refine wp_bipush dX0_isNamedKeep_37 (by decide +kernel) (by decide) ?_
        refine wp_icmp_ne (tgt := 57) dX0_isNamedKeep_39 (by decide) (fun h39 => ?_) (fun h39 => ?_)
        · replace h := h.2 h39
          refine wp_iconst dX0_isNamedKeep_57 (by decide) ?_
          exact wp_zret dX0_isNamedKeep_58 rfl (by decide) (fun _ => h)
        · replace h := h.1 h39
          refine wp_aload_n dX0_isNamedKeep_42 rfl rfl (by first | exact Or.inl (by decide) | exact Or.inl (by omega) | exact Or.inr (by decide) | exact Or.inr (by omega)) ?_
          refine wp_iload_n dX0_isNamedKeep_43 rfl rfl ?_
          refine wp_iconst dX0_isNamedKeep_44 (by decide) ?_
          refine wp_cVq (n := 2) (mt' := mX5_byteOf) (as := [vI l1, vI 3]) (rest := []) _ dX0_isNamedKeep_45 lX0_108 kX5_byteOf vX5_byteOf (by decide) (by decide +kernel) rfl (Nat.le_of_ble_eq_true rfl) (by omega) (kdb_1 hbd) rfl rfl (Nat.le_of_ble_eq_true rfl) (fun hM hS => h) (fun r M' hq hM => ?_)
          obtain ⟨x45, m45, n45, rfl, rfl, h⟩ := rI_out hq
          refine wp_bipush dX0_isNamedKeep_48 (by decide +kernel) (by decide) ?_
          refine wp_icmp_ne (tgt := 57) dX0_isNamedKeep_50 (by decide) (fun h50 => ?_) (fun h50 => ?_)
          · replace h := h.2 h50
            refine wp_iconst dX0_isNamedKeep_57 (by decide) ?_
            exact wp_zret dX0_isNamedKeep_58 rfl (by decide) (fun _ => h)
          · replace h := h.1 h50
            refine wp_iconst dX0_isNamedKeep_53 (by decide) ?_
            refine wp_goto (tgt := 58) dX0_isNamedKeep_54 (by decide) ?_
            exact wp_zret dX0_isNamedKeep_58 rfl (by decide) (fun _ => h)
