theorem dX12_node_0 : decode cX12_node 0 = .ok (.aload_n 0, 1) := by decide +kernel
theorem dX12_node_1 : decode cX12_node 1 = .ok (.iload_n 1, 1) := by decide +kernel
theorem dX12_node_2 : decode cX12_node 2 = .ok (.invokevirtual 664, 3) := by decide +kernel
theorem dX12_node_5 : decode cX12_node 5 = .ok (.ifCond .ne 6, 3) := by decide +kernel
theorem dX12_node_8 : decode cX12_node 8 = .ok (.bipush (-9), 2) := by decide +kernel
theorem dX12_node_10 : decode cX12_node 10 = .ok (.ireturn, 1) := by decide +kernel
theorem dX12_node_11 : decode cX12_node 11 = .ok (.sipush 600, 3) := by decide +kernel
theorem dX12_node_14 : decode cX12_node 14 = .ok (.aload_n 0, 1) := by decide +kernel
theorem dX12_node_15 : decode cX12_node 15 = .ok (.getfield 482, 3) := by decide +kernel
theorem dX12_node_18 : decode cX12_node 18 = .ok (.imul, 1) := by decide +kernel
theorem dX12_node_19 : decode cX12_node 19 = .ok (.iload_n 1, 1) := by decide +kernel
theorem dX12_node_20 : decode cX12_node 20 = .ok (.iadd, 1) := by decide +kernel
theorem dX12_node_21 : decode cX12_node 21 = .ok (.istore_n 3, 1) := by decide +kernel
theorem dX12_node_22 : decode cX12_node 22 = .ok (.iconst 0, 1) := by decide +kernel
theorem dX12_node_23 : decode cX12_node 23 = .ok (.istore 4, 2) := by decide +kernel
theorem dX12_node_25 : decode cX12_node 25 = .ok (.iconst 0, 1) := by decide +kernel
theorem dX12_node_26 : decode cX12_node 26 = .ok (.istore 5, 2) := by decide +kernel
theorem dX12_node_28 : decode cX12_node 28 = .ok (.sipush 600, 3) := by decide +kernel
theorem dX12_node_31 : decode cX12_node 31 = .ok (.aload_n 0, 1) := by decide +kernel
theorem dX12_node_32 : decode cX12_node 32 = .ok (.getfield 482, 3) := by decide +kernel
theorem dX12_node_35 : decode cX12_node 35 = .ok (.imul, 1) := by decide +kernel
theorem dX12_node_36 : decode cX12_node 36 = .ok (.istore 6, 2) := by decide +kernel
theorem dX12_node_38 : decode cX12_node 38 = .ok (.iload 6, 2) := by decide +kernel
theorem dX12_node_40 : decode cX12_node 40 = .ok (.sipush 600, 3) := by decide +kernel
theorem dX12_node_43 : decode cX12_node 43 = .ok (.aload_n 0, 1) := by decide +kernel
theorem dX12_node_44 : decode cX12_node 44 = .ok (.getfield 482, 3) := by decide +kernel
theorem dX12_node_47 : decode cX12_node 47 = .ok (.imul, 1) := by decide +kernel
theorem dX12_node_48 : decode cX12_node 48 = .ok (.aload_n 0, 1) := by decide +kernel
theorem dX12_node_49 : decode cX12_node 49 = .ok (.getfield 27, 3) := by decide +kernel
theorem dX12_node_52 : decode cX12_node 52 = .ok (.aload_n 0, 1) := by decide +kernel
theorem dX12_node_53 : decode cX12_node 53 = .ok (.getfield 482, 3) := by decide +kernel
theorem dX12_node_56 : decode cX12_node 56 = .ok (.iaload, 1) := by decide +kernel
theorem dX12_node_57 : decode cX12_node 57 = .ok (.iadd, 1) := by decide +kernel
theorem dX12_node_58 : decode cX12_node 58 = .ok (.if_icmp .ge 73, 3) := by decide +kernel
theorem dX12_node_61 : decode cX12_node 61 = .ok (.iload 4, 2) := by decide +kernel
theorem dX12_node_63 : decode cX12_node 63 = .ok (.aload_n 0, 1) := by decide +kernel
theorem dX12_node_64 : decode cX12_node 64 = .ok (.getfield 34, 3) := by decide +kernel
theorem dX12_node_67 : decode cX12_node 67 = .ok (.iload 6, 2) := by decide +kernel
theorem dX12_node_69 : decode cX12_node 69 = .ok (.iaload, 1) := by decide +kernel
theorem dX12_node_70 : decode cX12_node 70 = .ok (.iload_n 1, 1) := by decide +kernel
theorem dX12_node_71 : decode cX12_node 71 = .ok (.if_icmp .ne 18, 3) := by decide +kernel
theorem dX12_node_74 : decode cX12_node 74 = .ok (.aload_n 0, 1) := by decide +kernel
theorem dX12_node_75 : decode cX12_node 75 = .ok (.getfield 31, 3) := by decide +kernel
theorem dX12_node_78 : decode cX12_node 78 = .ok (.iload 6, 2) := by decide +kernel
theorem dX12_node_80 : decode cX12_node 80 = .ok (.iaload, 1) := by decide +kernel
theorem dX12_node_81 : decode cX12_node 81 = .ok (.iconst 2, 1) := by decide +kernel
theorem dX12_node_82 : decode cX12_node 82 = .ok (.if_icmp .ne 7, 3) := by decide +kernel
theorem dX12_node_85 : decode cX12_node 85 = .ok (.iconst 1, 1) := by decide +kernel
theorem dX12_node_86 : decode cX12_node 86 = .ok (.goto 4, 3) := by decide +kernel
theorem dX12_node_89 : decode cX12_node 89 = .ok (.iconst 0, 1) := by decide +kernel
theorem dX12_node_90 : decode cX12_node 90 = .ok (.iadd, 1) := by decide +kernel
theorem dX12_node_91 : decode cX12_node 91 = .ok (.istore 4, 2) := by decide +kernel
theorem dX12_node_93 : decode cX12_node 93 = .ok (.iload 5, 2) := by decide +kernel
theorem dX12_node_95 : decode cX12_node 95 = .ok (.aload_n 0, 1) := by decide +kernel
theorem dX12_node_96 : decode cX12_node 96 = .ok (.getfield 34, 3) := by decide +kernel
theorem dX12_node_99 : decode cX12_node 99 = .ok (.iload 6, 2) := by decide +kernel
theorem dX12_node_101 : decode cX12_node 101 = .ok (.iaload, 1) := by decide +kernel
theorem dX12_node_102 : decode cX12_node 102 = .ok (.iload_n 1, 1) := by decide +kernel
theorem dX12_node_103 : decode cX12_node 103 = .ok (.if_icmp .ne 18, 3) := by decide +kernel
theorem dX12_node_106 : decode cX12_node 106 = .ok (.aload_n 0, 1) := by decide +kernel
theorem dX12_node_107 : decode cX12_node 107 = .ok (.getfield 31, 3) := by decide +kernel
theorem dX12_node_110 : decode cX12_node 110 = .ok (.iload 6, 2) := by decide +kernel
theorem dX12_node_112 : decode cX12_node 112 = .ok (.iaload, 1) := by decide +kernel
theorem dX12_node_113 : decode cX12_node 113 = .ok (.iconst 2, 1) := by decide +kernel
theorem dX12_node_114 : decode cX12_node 114 = .ok (.if_icmp .eq 7, 3) := by decide +kernel
theorem dX12_node_117 : decode cX12_node 117 = .ok (.iconst 1, 1) := by decide +kernel
theorem dX12_node_118 : decode cX12_node 118 = .ok (.goto 4, 3) := by decide +kernel
theorem dX12_node_121 : decode cX12_node 121 = .ok (.iconst 0, 1) := by decide +kernel
theorem dX12_node_122 : decode cX12_node 122 = .ok (.iadd, 1) := by decide +kernel
theorem dX12_node_123 : decode cX12_node 123 = .ok (.istore 5, 2) := by decide +kernel
theorem dX12_node_125 : decode cX12_node 125 = .ok (.iinc 6 1, 3) := by decide +kernel
theorem dX12_node_128 : decode cX12_node 128 = .ok (.goto (-90), 3) := by decide +kernel
theorem dX12_node_131 : decode cX12_node 131 = .ok (.iload_n 2, 1) := by decide +kernel
theorem dX12_node_132 : decode cX12_node 132 = .ok (.tableswitch 73 0 5 #[40, 47, 54, 61, 67, 70], 40) := by decide +kernel
theorem dX12_node_172 : decode cX12_node 172 = .ok (.aload_n 0, 1) := by decide +kernel
theorem dX12_node_173 : decode cX12_node 173 = .ok (.getfield 31, 3) := by decide +kernel
theorem dX12_node_176 : decode cX12_node 176 = .ok (.iload_n 3, 1) := by decide +kernel
theorem dX12_node_177 : decode cX12_node 177 = .ok (.iaload, 1) := by decide +kernel
theorem dX12_node_178 : decode cX12_node 178 = .ok (.ireturn, 1) := by decide +kernel
theorem dX12_node_179 : decode cX12_node 179 = .ok (.aload_n 0, 1) := by decide +kernel
theorem dX12_node_180 : decode cX12_node 180 = .ok (.getfield 34, 3) := by decide +kernel
theorem dX12_node_183 : decode cX12_node 183 = .ok (.iload_n 3, 1) := by decide +kernel
theorem dX12_node_184 : decode cX12_node 184 = .ok (.iaload, 1) := by decide +kernel
theorem dX12_node_185 : decode cX12_node 185 = .ok (.ireturn, 1) := by decide +kernel
theorem dX12_node_186 : decode cX12_node 186 = .ok (.aload_n 0, 1) := by decide +kernel
theorem dX12_node_187 : decode cX12_node 187 = .ok (.getfield 40, 3) := by decide +kernel
theorem dX12_node_190 : decode cX12_node 190 = .ok (.iload_n 3, 1) := by decide +kernel
theorem dX12_node_191 : decode cX12_node 191 = .ok (.iaload, 1) := by decide +kernel
theorem dX12_node_192 : decode cX12_node 192 = .ok (.ireturn, 1) := by decide +kernel
theorem dX12_node_193 : decode cX12_node 193 = .ok (.aload_n 0, 1) := by decide +kernel
theorem dX12_node_194 : decode cX12_node 194 = .ok (.iload_n 1, 1) := by decide +kernel
theorem dX12_node_195 : decode cX12_node 195 = .ok (.invokevirtual 591, 3) := by decide +kernel
theorem dX12_node_198 : decode cX12_node 198 = .ok (.ireturn, 1) := by decide +kernel
theorem dX12_node_199 : decode cX12_node 199 = .ok (.iload 4, 2) := by decide +kernel
theorem dX12_node_201 : decode cX12_node 201 = .ok (.ireturn, 1) := by decide +kernel
theorem dX12_node_202 : decode cX12_node 202 = .ok (.iload 5, 2) := by decide +kernel
theorem dX12_node_204 : decode cX12_node 204 = .ok (.ireturn, 1) := by decide +kernel
theorem dX12_node_205 : decode cX12_node 205 = .ok (.iload_n 2, 1) := by decide +kernel
theorem dX12_node_206 : decode cX12_node 206 = .ok (.bipush 6, 2) := by decide +kernel
theorem dX12_node_208 : decode cX12_node 208 = .ok (.if_icmp .ne 20, 3) := by decide +kernel
theorem dX12_node_211 : decode cX12_node 211 = .ok (.aload_n 0, 1) := by decide +kernel
theorem dX12_node_212 : decode cX12_node 212 = .ok (.getfield 49, 3) := by decide +kernel
theorem dX12_node_215 : decode cX12_node 215 = .ok (.iload_n 3, 1) := by decide +kernel
theorem dX12_node_216 : decode cX12_node 216 = .ok (.baload, 1) := by decide +kernel
theorem dX12_node_217 : decode cX12_node 217 = .ok (.ifCond .eq 7, 3) := by decide +kernel
theorem dX12_node_220 : decode cX12_node 220 = .ok (.iconst 1, 1) := by decide +kernel
theorem dX12_node_221 : decode cX12_node 221 = .ok (.goto 9, 3) := by decide +kernel
theorem dX12_node_224 : decode cX12_node 224 = .ok (.iconst 0, 1) := by decide +kernel
theorem dX12_node_225 : decode cX12_node 225 = .ok (.goto 5, 3) := by decide +kernel
theorem dX12_node_228 : decode cX12_node 228 = .ok (.bipush (-9), 2) := by decide +kernel
theorem dX12_node_230 : decode cX12_node 230 = .ok (.ireturn, 1) := by decide +kernel
theorem v_X12_node_0 {cs : Cs} {Q : Option AV → Mm → Prop} {MI ML : Nat → Nat → Int} {d e nw th x : Nat} {l1 l2 : Int}
    (h : wp cs mX12_isNode KD (rI (GR d e nw th x) fun x2 m2 n2 => ((x2 = 0 → Q (some (vI (-9))) (m2, n2, (GR d e nw th x))) ∧ (x2 ≠ 0 → (-2147483648 ≤ 600 * (m2 124 7) ∧ 600 * (m2 124 7) < 2147483648) ∧ (-2147483648 ≤ (600 * (m2 124 7)) + l1 ∧ (600 * (m2 124 7)) + l1 < 2147483648) ∧ wp cs mX12_node KD Q 38 [some (vR 124), some (vI l1), some (vI l2), some (vI ((600 * (m2 124 7)) + l1)), some (vI 0), some (vI 0), some (vI (600 * (m2 124 7)))] [] (KD, m2, n2, (GR d e nw th x))))) 0 (padL [vR 124, vI l1] 2) [] (KD, MI, ML, (GR d e nw th x))) :
    wp cs mX12_node KD Q 0 (padL [vR 124, vI l1, vI l2] 7) [] (KD, MI, ML, (GR d e nw th x)) := by
  refine wp_L (L' := [some (vR 124), some (vI l1), some (vI l2), none, none, none, none]) rfl ?_
  refine wp_aload_n dX12_node_0 rfl rfl (by first | exact Or.inl (by decide) | exact Or.inl (by omega) | exact Or.inr (by decide) | exact Or.inr (by omega)) ?_
  refine wp_iload_n dX12_node_1 rfl rfl ?_
  refine wp_cVq (n := 1) (mt' := mX12_isNode) (as := [vI l1]) (rest := []) _ dX12_node_2 lX12_664 kX12_isNode vX12_isNode (by decide) (by decide +kernel) rfl (Nat.le_of_ble_eq_true rfl) (by decide) rfl rfl rfl (Nat.le_of_ble_eq_true rfl) (fun hM hS => h) (fun r M' hq hM => ?_)
  obtain ⟨x2, m2, n2, rfl, rfl, h⟩ := rI_out hq
  refine wp_if_ne (tgt := 11) dX12_node_5 (by decide) (fun h5 => ?_) (fun h5 => ?_)
  · replace h := h.2 h5
    refine wp_sipush dX12_node_11 (by decide +kernel) (by decide) ?_
    refine wp_aload_n dX12_node_14 rfl rfl (by first | exact Or.inl (by decide) | exact Or.inl (by omega) | exact Or.inr (by decide) | exact Or.inr (by omega)) ?_
    refine wp_getI dX12_node_15 fX12_482 rfl (by decide) ?_
    have c0 := h.1
    replace h := h.2
    refine wp_imulr dX12_node_18 c0 ?_
    refine wp_iload_n dX12_node_19 rfl rfl ?_
    have c1 := h.1
    replace h := h.2
    refine wp_iaddr dX12_node_20 c1 ?_
    refine wp_istore_n dX12_node_21 rfl (by decide) (wp_L (L' := [some (vR 124), some (vI l1), some (vI l2), some (vI ((600 * (m2 124 7)) + l1)), none, none, none]) rfl ?_)
    refine wp_pc (pc' := 22) rfl ?_
    refine wp_iconst dX12_node_22 (by decide) ?_
    refine wp_istore dX12_node_23 (by decide) (wp_L (L' := [some (vR 124), some (vI l1), some (vI l2), some (vI ((600 * (m2 124 7)) + l1)), some (vI 0), none, none]) rfl ?_)
    refine wp_iconst dX12_node_25 (by decide) ?_
    refine wp_istore dX12_node_26 (by decide) (wp_L (L' := [some (vR 124), some (vI l1), some (vI l2), some (vI ((600 * (m2 124 7)) + l1)), some (vI 0), some (vI 0), none]) rfl ?_)
    refine wp_sipush dX12_node_28 (by decide +kernel) (by decide) ?_
    refine wp_aload_n dX12_node_31 rfl rfl (by first | exact Or.inl (by decide) | exact Or.inl (by omega) | exact Or.inr (by decide) | exact Or.inr (by omega)) ?_
    refine wp_getI dX12_node_32 fX12_482 rfl (by decide) ?_
    refine wp_imulr dX12_node_35 c0 ?_
    refine wp_pc (pc' := 36) rfl ?_
    refine wp_istore dX12_node_36 (by decide) (wp_L (L' := [some (vR 124), some (vI l1), some (vI l2), some (vI ((600 * (m2 124 7)) + l1)), some (vI 0), some (vI 0), some (vI (600 * (m2 124 7)))]) rfl ?_)
    exact h
  · replace h := h.1 h5
    refine wp_bipush dX12_node_8 (by decide +kernel) (by decide) ?_
    exact wp_iret dX12_node_10 rfl (fun _ => h)
theorem v_X12_node_38 {cs : Cs} {Q : Option AV → Mm → Prop} {MI ML : Nat → Nat → Int} {d e nw th x : Nat} {l1 l2 l3 l4 l5 l6 : Int}
    (h : (-2147483648 ≤ 600 * (MI 124 7) ∧ 600 * (MI 124 7) < 2147483648) ∧ (0 ≤ (MI 124 7) ∧ (MI 124 7) < 2) ∧ (-2147483648 ≤ (600 * (MI 124 7)) + (MI 129 (MI 124 7).toNat) ∧ (600 * (MI 124 7)) + (MI 129 (MI 124 7).toNat) < 2147483648) ∧ ((l6 < ((600 * (MI 124 7)) + (MI 129 (MI 124 7).toNat)) → (0 ≤ l6 ∧ l6 < 1200) ∧ (((MI 131 l6.toNat) = l1 → (((MI 130 l6.toNat) = 2 → wp cs mX12_node KD Q 90 [some (vR 124), some (vI l1), some (vI l2), some (vI l3), some (vI l4), some (vI l5), some (vI l6)] [vI 1, vI l4] (KD, MI, ML, (GR d e nw th x))) ∧ ((MI 130 l6.toNat) ≠ 2 → wp cs mX12_node KD Q 90 [some (vR 124), some (vI l1), some (vI l2), some (vI l3), some (vI l4), some (vI l5), some (vI l6)] [vI 0, vI l4] (KD, MI, ML, (GR d e nw th x))))) ∧ ((MI 131 l6.toNat) ≠ l1 → wp cs mX12_node KD Q 90 [some (vR 124), some (vI l1), some (vI l2), some (vI l3), some (vI l4), some (vI l5), some (vI l6)] [vI 0, vI l4] (KD, MI, ML, (GR d e nw th x))))) ∧ (((600 * (MI 124 7)) + (MI 129 (MI 124 7).toNat)) ≤ l6 → ((l2 = 0 → (0 ≤ l3 ∧ l3 < 1200) ∧ Q (some (vI (MI 130 l3.toNat))) (MI, ML, (GR d e nw th x))) ∧ (l2 = 1 → (0 ≤ l3 ∧ l3 < 1200) ∧ Q (some (vI (MI 131 l3.toNat))) (MI, ML, (GR d e nw th x))) ∧ (l2 = 2 → (0 ≤ l3 ∧ l3 < 1200) ∧ Q (some (vI (MI 133 l3.toNat))) (MI, ML, (GR d e nw th x))) ∧ (l2 = 3 → wp cs mX12_stringOf KD (rI (GR d e nw th x) fun x195 m195 n195 => Q (some (vI x195)) (m195, n195, (GR d e nw th x))) 0 (padL [vR 124, vI l1] 5) [] (KD, MI, ML, (GR d e nw th x))) ∧ (l2 = 4 → Q (some (vI l4)) (MI, ML, (GR d e nw th x))) ∧ (l2 = 5 → Q (some (vI l5)) (MI, ML, (GR d e nw th x))) ∧ (l2 < 0 ∨ 5 < l2 → ((l2 = 6 → (0 ≤ l3 ∧ l3 < 1200) ∧ (((MI 136 l3.toNat) = 0 → Q (some (vI 0)) (MI, ML, (GR d e nw th x))) ∧ ((MI 136 l3.toNat) ≠ 0 → Q (some (vI 1)) (MI, ML, (GR d e nw th x))))) ∧ (l2 ≠ 6 → Q (some (vI (-9))) (MI, ML, (GR d e nw th x))))))))) :
    wp cs mX12_node KD Q 38 [some (vR 124), some (vI l1), some (vI l2), some (vI l3), some (vI l4), some (vI l5), some (vI l6)] [] (KD, MI, ML, (GR d e nw th x)) := by
  refine wp_iload dX12_node_38 rfl ?_
  refine wp_sipush dX12_node_40 (by decide +kernel) (by decide) ?_
  refine wp_aload_n dX12_node_43 rfl rfl (by first | exact Or.inl (by decide) | exact Or.inl (by omega) | exact Or.inr (by decide) | exact Or.inr (by omega)) ?_
  refine wp_getI dX12_node_44 fX12_482 rfl (by decide) ?_
  have c0 := h.1
  replace h := h.2
  refine wp_imulr dX12_node_47 c0 ?_
  refine wp_aload_n dX12_node_48 rfl rfl (by first | exact Or.inl (by decide) | exact Or.inl (by omega) | exact Or.inr (by decide) | exact Or.inr (by omega)) ?_
  refine wp_getR dX12_node_49 fX12_27 rfl (by decide) ?_
  refine wp_topR (x' := 129) rfl ?_
  refine wp_pc (pc' := 52) rfl ?_
  refine wp_aload_n dX12_node_52 rfl rfl (by first | exact Or.inl (by decide) | exact Or.inl (by omega) | exact Or.inr (by decide) | exact Or.inr (by omega)) ?_
  refine wp_getI dX12_node_53 fX12_482 rfl (by decide) ?_
  have c1 := h.1
  replace h := h.2
  refine wp_iald dX12_node_56 rfl (by decide) c1 ?_
  have c2 := h.1
  replace h := h.2
  refine wp_iaddr dX12_node_57 c2 ?_
  refine wp_icmp_ge (tgt := 131) dX12_node_58 (by decide) (fun h58 => ?_) (fun h58 => ?_)
  · replace h := h.2 h58
    refine wp_iload_n dX12_node_131 rfl rfl ?_
    by_cases hsw : 0 ≤ l2 ∧ l2 ≤ 5
    · rcases (by omega : l2 = 0 ∨ l2 = 1 ∨ l2 = 2 ∨ l2 = 3 ∨ l2 = 4 ∨ l2 = 5) with q | q | q | q | q | q
      · refine wp_topI (x' := 0) q ?_
        refine wp_tableIn (tgt := 172) dX12_node_132 (by decide) rfl (by decide) ?_
        replace h := h.1 q
        refine wp_aload_n dX12_node_172 rfl rfl (by first | exact Or.inl (by decide) | exact Or.inl (by omega) | exact Or.inr (by decide) | exact Or.inr (by omega)) ?_
        refine wp_getR dX12_node_173 fX12_31 rfl (by decide) ?_
        refine wp_topR (x' := 130) rfl ?_
        refine wp_iload_n dX12_node_176 rfl rfl ?_
        have c3 := h.1
        replace h := h.2
        refine wp_iald dX12_node_177 rfl (by decide) c3 ?_
        exact wp_iret dX12_node_178 rfl (fun _ => h)
      · refine wp_topI (x' := 1) q ?_
        refine wp_tableIn (tgt := 179) dX12_node_132 (by decide) rfl (by decide) ?_
        replace h := h.2.1 q
        refine wp_aload_n dX12_node_179 rfl rfl (by first | exact Or.inl (by decide) | exact Or.inl (by omega) | exact Or.inr (by decide) | exact Or.inr (by omega)) ?_
        refine wp_getR dX12_node_180 fX12_34 rfl (by decide) ?_
        refine wp_topR (x' := 131) rfl ?_
        refine wp_iload_n dX12_node_183 rfl rfl ?_
        have c3 := h.1
        replace h := h.2
        refine wp_iald dX12_node_184 rfl (by decide) c3 ?_
        exact wp_iret dX12_node_185 rfl (fun _ => h)
      · refine wp_topI (x' := 2) q ?_
        refine wp_tableIn (tgt := 186) dX12_node_132 (by decide) rfl (by decide) ?_
        replace h := h.2.2.1 q
        refine wp_aload_n dX12_node_186 rfl rfl (by first | exact Or.inl (by decide) | exact Or.inl (by omega) | exact Or.inr (by decide) | exact Or.inr (by omega)) ?_
        refine wp_getR dX12_node_187 fX12_40 rfl (by decide) ?_
        refine wp_topR (x' := 133) rfl ?_
        refine wp_iload_n dX12_node_190 rfl rfl ?_
        have c3 := h.1
        replace h := h.2
        refine wp_iald dX12_node_191 rfl (by decide) c3 ?_
        exact wp_iret dX12_node_192 rfl (fun _ => h)
      · refine wp_topI (x' := 3) q ?_
        refine wp_tableIn (tgt := 193) dX12_node_132 (by decide) rfl (by decide) ?_
        replace h := h.2.2.2.1 q
        refine wp_aload_n dX12_node_193 rfl rfl (by first | exact Or.inl (by decide) | exact Or.inl (by omega) | exact Or.inr (by decide) | exact Or.inr (by omega)) ?_
        refine wp_iload_n dX12_node_194 rfl rfl ?_
        refine wp_cVq (n := 1) (mt' := mX12_stringOf) (as := [vI l1]) (rest := []) _ dX12_node_195 lX12_591 kX12_stringOf vX12_stringOf (by decide) (by decide +kernel) rfl (Nat.le_of_ble_eq_true rfl) (by decide) rfl rfl rfl (Nat.le_of_ble_eq_true rfl) (fun hM hS => h) (fun r M' hq hM => ?_)
        obtain ⟨x195, m195, n195, rfl, rfl, h⟩ := rI_out hq
        exact wp_iret dX12_node_198 rfl (fun _ => h)
      · refine wp_topI (x' := 4) q ?_
        refine wp_tableIn (tgt := 199) dX12_node_132 (by decide) rfl (by decide) ?_
        replace h := h.2.2.2.2.1 q
        refine wp_iload dX12_node_199 rfl ?_
        exact wp_iret dX12_node_201 rfl (fun _ => h)
      · refine wp_topI (x' := 5) q ?_
        refine wp_tableIn (tgt := 202) dX12_node_132 (by decide) rfl (by decide) ?_
        replace h := h.2.2.2.2.2.1 q
        refine wp_iload dX12_node_202 rfl ?_
        exact wp_iret dX12_node_204 rfl (fun _ => h)
    · refine wp_tableOut (tgt := 205) dX12_node_132 (by omega) (by decide) ?_
      replace h := h.2.2.2.2.2.2 (by omega)
      refine wp_iload_n dX12_node_205 rfl rfl ?_
      refine wp_bipush dX12_node_206 (by decide +kernel) (by decide) ?_
      refine wp_icmp_ne (tgt := 228) dX12_node_208 (by decide) (fun h208 => ?_) (fun h208 => ?_)
      · replace h := h.2 h208
        refine wp_bipush dX12_node_228 (by decide +kernel) (by decide) ?_
        exact wp_iret dX12_node_230 rfl (fun _ => h)
      · replace h := h.1 h208
        refine wp_aload_n dX12_node_211 rfl rfl (by first | exact Or.inl (by decide) | exact Or.inl (by omega) | exact Or.inr (by decide) | exact Or.inr (by omega)) ?_
        refine wp_getR dX12_node_212 fX12_49 rfl (by decide) ?_
        refine wp_topR (x' := 136) rfl ?_
        refine wp_iload_n dX12_node_215 rfl rfl ?_
        have c3 := h.1
        replace h := h.2
        refine wp_zald dX12_node_216 rfl (by decide) c3 ?_
        refine wp_if_eq (tgt := 224) dX12_node_217 (by decide) (fun h217 => ?_) (fun h217 => ?_)
        · replace h := h.1 h217
          refine wp_iconst dX12_node_224 (by decide) ?_
          refine wp_goto (tgt := 230) dX12_node_225 (by decide) ?_
          exact wp_iret dX12_node_230 rfl (fun _ => h)
        · replace h := h.2 h217
          refine wp_iconst dX12_node_220 (by decide) ?_
          refine wp_goto (tgt := 230) dX12_node_221 (by decide) ?_
          exact wp_iret dX12_node_230 rfl (fun _ => h)
  · replace h := h.1 h58
    refine wp_iload dX12_node_61 rfl ?_
    refine wp_aload_n dX12_node_63 rfl rfl (by first | exact Or.inl (by decide) | exact Or.inl (by omega) | exact Or.inr (by decide) | exact Or.inr (by omega)) ?_
    refine wp_getR dX12_node_64 fX12_34 rfl (by decide) ?_
    refine wp_topR (x' := 131) rfl ?_
    refine wp_iload dX12_node_67 rfl ?_
    have c3 := h.1
    replace h := h.2
    refine wp_iald dX12_node_69 rfl (by decide) c3 ?_
    refine wp_iload_n dX12_node_70 rfl rfl ?_
    refine wp_icmp_ne (tgt := 89) dX12_node_71 (by decide) (fun h71 => ?_) (fun h71 => ?_)
    · replace h := h.2 h71
      refine wp_iconst dX12_node_89 (by decide) ?_
      exact h
    · replace h := h.1 h71
      refine wp_aload_n dX12_node_74 rfl rfl (by first | exact Or.inl (by decide) | exact Or.inl (by omega) | exact Or.inr (by decide) | exact Or.inr (by omega)) ?_
      refine wp_getR dX12_node_75 fX12_31 rfl (by decide) ?_
      refine wp_topR (x' := 130) rfl ?_
      refine wp_iload dX12_node_78 rfl ?_
      refine wp_iald dX12_node_80 rfl (by decide) c3 ?_
      refine wp_iconst dX12_node_81 (by decide) ?_
      refine wp_icmp_ne (tgt := 89) dX12_node_82 (by decide) (fun h82 => ?_) (fun h82 => ?_)
      · replace h := h.2 h82
        refine wp_iconst dX12_node_89 (by decide) ?_
        exact h
      · replace h := h.1 h82
        refine wp_iconst dX12_node_85 (by decide) ?_
        refine wp_goto (tgt := 90) dX12_node_86 (by decide) ?_
        exact h
theorem v_X12_node_90 {cs : Cs} {Q : Option AV → Mm → Prop} {MI ML : Nat → Nat → Int} {d e nw th x : Nat} {l1 l2 l3 l4 l5 l6 s0 s1 : Int}
    (h : (-2147483648 ≤ s1 + s0 ∧ s1 + s0 < 2147483648) ∧ (0 ≤ l6 ∧ l6 < 1200) ∧ (((MI 131 l6.toNat) = l1 → (((MI 130 l6.toNat) = 2 → (-2147483648 ≤ l6 + 1 ∧ l6 + 1 < 2147483648) ∧ wp cs mX12_node KD Q 38 [some (vR 124), some (vI l1), some (vI l2), some (vI l3), some (vI (s1 + s0)), some (vI l5), some (vI (l6 + 1))] [] (KD, MI, ML, (GR d e nw th x))) ∧ ((MI 130 l6.toNat) ≠ 2 → (-2147483648 ≤ l5 + 1 ∧ l5 + 1 < 2147483648) ∧ (-2147483648 ≤ l6 + 1 ∧ l6 + 1 < 2147483648) ∧ wp cs mX12_node KD Q 38 [some (vR 124), some (vI l1), some (vI l2), some (vI l3), some (vI (s1 + s0)), some (vI (l5 + 1)), some (vI (l6 + 1))] [] (KD, MI, ML, (GR d e nw th x))))) ∧ ((MI 131 l6.toNat) ≠ l1 → (-2147483648 ≤ l6 + 1 ∧ l6 + 1 < 2147483648) ∧ wp cs mX12_node KD Q 38 [some (vR 124), some (vI l1), some (vI l2), some (vI l3), some (vI (s1 + s0)), some (vI l5), some (vI (l6 + 1))] [] (KD, MI, ML, (GR d e nw th x))))) :
    wp cs mX12_node KD Q 90 [some (vR 124), some (vI l1), some (vI l2), some (vI l3), some (vI l4), some (vI l5), some (vI l6)] [vI s0, vI s1] (KD, MI, ML, (GR d e nw th x)) := by
  have c0 := h.1
  replace h := h.2
  refine wp_iaddr dX12_node_90 c0 ?_
  refine wp_istore dX12_node_91 (by decide) (wp_L (L' := [some (vR 124), some (vI l1), some (vI l2), some (vI l3), some (vI (s1 + s0)), some (vI l5), some (vI l6)]) rfl ?_)
  refine wp_iload dX12_node_93 rfl ?_
  refine wp_aload_n dX12_node_95 rfl rfl (by first | exact Or.inl (by decide) | exact Or.inl (by omega) | exact Or.inr (by decide) | exact Or.inr (by omega)) ?_
  refine wp_getR dX12_node_96 fX12_34 rfl (by decide) ?_
  refine wp_topR (x' := 131) rfl ?_
  refine wp_iload dX12_node_99 rfl ?_
  have c1 := h.1
  replace h := h.2
  refine wp_iald dX12_node_101 rfl (by decide) c1 ?_
  refine wp_pc (pc' := 102) rfl ?_
  refine wp_iload_n dX12_node_102 rfl rfl ?_
  refine wp_icmp_ne (tgt := 121) dX12_node_103 (by decide) (fun h103 => ?_) (fun h103 => ?_)
  · replace h := h.2 h103
    refine wp_iconst dX12_node_121 (by decide) ?_
    refine wp_ok (fun hM hL hS => ?_)
    have hr := hS _ (List.mem_cons_of_mem _ List.mem_cons_self)
    refine wp_iaddr dX12_node_122 (by have := hr; simp only [okV] at this; omega) ?_
    refine wp_topI (x' := l5) (by omega) ?_
    refine wp_istore dX12_node_123 (by decide) (wp_L (L' := [some (vR 124), some (vI l1), some (vI l2), some (vI l3), some (vI (s1 + s0)), some (vI l5), some (vI l6)]) rfl ?_)
    have c2 := h.1
    replace h := h.2
    refine wp_iincr dX12_node_125 rfl (by decide) c2 (wp_L (L' := [some (vR 124), some (vI l1), some (vI l2), some (vI l3), some (vI (s1 + s0)), some (vI l5), some (vI (l6 + 1))]) rfl ?_)
    refine wp_goto (tgt := 38) dX12_node_128 (by decide) ?_
    exact h
  · replace h := h.1 h103
    refine wp_aload_n dX12_node_106 rfl rfl (by first | exact Or.inl (by decide) | exact Or.inl (by omega) | exact Or.inr (by decide) | exact Or.inr (by omega)) ?_
    refine wp_getR dX12_node_107 fX12_31 rfl (by decide) ?_
    refine wp_topR (x' := 130) rfl ?_
    refine wp_iload dX12_node_110 rfl ?_
    refine wp_iald dX12_node_112 rfl (by decide) c1 ?_
    refine wp_iconst dX12_node_113 (by decide) ?_
    refine wp_icmp_eq (tgt := 121) dX12_node_114 (by decide) (fun h114 => ?_) (fun h114 => ?_)
    · replace h := h.1 h114
      refine wp_iconst dX12_node_121 (by decide) ?_
      refine wp_ok (fun hM hL hS => ?_)
      have hr := hS _ (List.mem_cons_of_mem _ List.mem_cons_self)
      refine wp_iaddr dX12_node_122 (by have := hr; simp only [okV] at this; omega) ?_
      refine wp_topI (x' := l5) (by omega) ?_
      refine wp_istore dX12_node_123 (by decide) (wp_L (L' := [some (vR 124), some (vI l1), some (vI l2), some (vI l3), some (vI (s1 + s0)), some (vI l5), some (vI l6)]) rfl ?_)
      have c2 := h.1
      replace h := h.2
      refine wp_iincr dX12_node_125 rfl (by decide) c2 (wp_L (L' := [some (vR 124), some (vI l1), some (vI l2), some (vI l3), some (vI (s1 + s0)), some (vI l5), some (vI (l6 + 1))]) rfl ?_)
      refine wp_goto (tgt := 38) dX12_node_128 (by decide) ?_
      exact h
    · replace h := h.2 h114
      refine wp_iconst dX12_node_117 (by decide) ?_
      refine wp_goto (tgt := 122) dX12_node_118 (by decide) ?_
      have c2 := h.1
      replace h := h.2
      refine wp_iaddr dX12_node_122 c2 ?_
      refine wp_istore dX12_node_123 (by decide) (wp_L (L' := [some (vR 124), some (vI l1), some (vI l2), some (vI l3), some (vI (s1 + s0)), some (vI (l5 + 1)), some (vI l6)]) rfl ?_)
      have c3 := h.1
      replace h := h.2
      refine wp_iincr dX12_node_125 rfl (by decide) c3 (wp_L (L' := [some (vR 124), some (vI l1), some (vI l2), some (vI l3), some (vI (s1 + s0)), some (vI (l5 + 1)), some (vI (l6 + 1))]) rfl ?_)
      refine wp_goto (tgt := 38) dX12_node_128 (by decide) ?_
      exact h
theorem dX11_name_0 : decode cX11_name 0 = .ok (.aload_n 0, 1) := by decide +kernel
theorem dX11_name_1 : decode cX11_name 1 = .ok (.getfield 67, 3) := by decide +kernel
theorem dX11_name_4 : decode cX11_name 4 = .ok (.iload_n 1, 1) := by decide +kernel
theorem dX11_name_5 : decode cX11_name 5 = .ok (.invokevirtual 120, 3) := by decide +kernel
theorem dX11_name_8 : decode cX11_name 8 = .ok (.ifCond .eq 26, 3) := by decide +kernel
theorem dX11_name_11 : decode cX11_name 11 = .ok (.aload_n 0, 1) := by decide +kernel
theorem dX11_name_12 : decode cX11_name 12 = .ok (.getfield 67, 3) := by decide +kernel
theorem dX11_name_15 : decode cX11_name 15 = .ok (.getfield 128, 3) := by decide +kernel
theorem dX11_name_18 : decode cX11_name 18 = .ok (.aload_n 0, 1) := by decide +kernel
theorem dX11_name_19 : decode cX11_name 19 = .ok (.getfield 67, 3) := by decide +kernel
theorem dX11_name_22 : decode cX11_name 22 = .ok (.getfield 132, 3) := by decide +kernel
theorem dX11_name_25 : decode cX11_name 25 = .ok (.iload_n 1, 1) := by decide +kernel
theorem dX11_name_26 : decode cX11_name 26 = .ok (.iaload, 1) := by decide +kernel
theorem dX11_name_27 : decode cX11_name 27 = .ok (.iload_n 2, 1) := by decide +kernel
theorem dX11_name_28 : decode cX11_name 28 = .ok (.invokevirtual 136, 3) := by decide +kernel
theorem dX11_name_31 : decode cX11_name 31 = .ok (.goto 4, 3) := by decide +kernel
theorem dX11_name_34 : decode cX11_name 34 = .ok (.iconst (-1), 1) := by decide +kernel
theorem dX11_name_35 : decode cX11_name 35 = .ok (.ireturn, 1) := by decide +kernel
theorem v_X11_name_0 {cs : Cs} {Q : Option AV → Mm → Prop} {MI ML : Nat → Nat → Int} {b e nw th x : Nat} {l1 l2 : Int} (hbd : b = 38 ∨ b = 81)
    (h : wp cs mX3_has KD (rI (GR b e nw th x) fun x5 m5 n5 => ((x5 = 0 → Q (some (vI (-1))) (m5, n5, (GR b e nw th x))) ∧ (x5 ≠ 0 → (0 ≤ l1 ∧ l1 < 600) ∧ wp cs mX5_byteOf KD (rI (GR b e nw th x) fun x28 m28 n28 => Q (some (vI x28)) (m28, n28, (GR b e nw th x))) 0 (padL [vR (b + 1), vI (m5 (b + 34) l1.toNat), vI l2] 3) [] (KD, m5, n5, (GR b e nw th x))))) 0 (padL [vR b, vI l1] 2) [] (KD, MI, ML, (GR b e nw th x))) :
    wp cs mX11_name KD Q 0 (padL [vR 0, vI l1, vI l2] 3) [] (KD, MI, ML, (GR b e nw th x)) := by
  refine wp_L (L' := [some (vR 0), some (vI l1), some (vI l2)]) rfl ?_
  refine wp_aload_n dX11_name_0 rfl rfl (by first | exact Or.inl (by decide) | exact Or.inl (by omega) | exact Or.inr (by decide) | exact Or.inr (by omega)) ?_
  refine wp_getR dX11_name_1 fX11_67 rfl (by decide) ?_
  refine wp_topR (x' := b) rfl ?_
  refine wp_iload_n dX11_name_4 rfl rfl ?_
  refine wp_cVq (n := 1) (mt' := mX3_has) (as := [vI l1]) (rest := []) _ dX11_name_5 lX11_120 kX3_has vX3_has (by decide) (by decide +kernel) rfl (Nat.le_of_ble_eq_true rfl) (by omega) (show KD[b]? = some (7, 19) from kdb_0 hbd) rfl rfl (Nat.le_of_ble_eq_true rfl) (fun hM hS => h) (fun r M' hq hM => ?_)
  obtain ⟨x5, m5, n5, rfl, rfl, h⟩ := rI_out hq
  refine wp_if_eq (tgt := 34) dX11_name_8 (by decide) (fun h8 => ?_) (fun h8 => ?_)
  · replace h := h.1 h8
    refine wp_iconst dX11_name_34 (by decide) ?_
    exact wp_iret dX11_name_35 rfl (fun _ => h)
  · replace h := h.2 h8
    refine wp_aload_n dX11_name_11 rfl rfl (by first | exact Or.inl (by decide) | exact Or.inl (by omega) | exact Or.inr (by decide) | exact Or.inr (by omega)) ?_
    refine wp_getR dX11_name_12 fX11_67 rfl (by decide) ?_
    refine wp_topR (x' := b) rfl ?_
    refine wp_getR dX11_name_15 fX11_128 (show KD[b]? = some (7, 19) from kdb_0 hbd) (by omega) ?_
    refine wp_topR (x' := (b + 1)) (grb_0_0 hbd) ?_
    refine wp_aload_n dX11_name_18 rfl rfl (by first | exact Or.inl (by decide) | exact Or.inl (by omega) | exact Or.inr (by decide) | exact Or.inr (by omega)) ?_
    refine wp_getR dX11_name_19 fX11_67 rfl (by decide) ?_
    refine wp_topR (x' := b) rfl ?_
    refine wp_getR dX11_name_22 fX11_132 (show KD[b]? = some (7, 19) from kdb_0 hbd) (by omega) ?_
    refine wp_topR (x' := (b + 34)) (grb_0_5 hbd) ?_
    refine wp_iload_n dX11_name_25 rfl rfl ?_
    refine wp_pc (pc' := 26) rfl ?_
    have c0 := h.1
    replace h := h.2
    refine wp_iald dX11_name_26 (kdb_34 hbd) (by omega) c0 ?_
    refine wp_iload_n dX11_name_27 rfl rfl ?_
    refine wp_cVq (n := 2) (mt' := mX5_byteOf) (as := [vI (m5 (b + 34) l1.toNat), vI l2]) (rest := []) _ dX11_name_28 lX11_136 kX5_byteOf vX5_byteOf (by decide) (by decide +kernel) rfl (Nat.le_of_ble_eq_true rfl) (by omega) (kdb_1 hbd) rfl rfl (Nat.le_of_ble_eq_true rfl) (fun hM hS => h) (fun r M' hq hM => ?_)
    obtain ⟨x28, m28, n28, rfl, rfl, h⟩ := rI_out hq
    refine wp_goto (tgt := 35) dX11_name_31 (by decide) ?_
    exact wp_iret dX11_name_35 rfl (fun _ => h)
theorem dX12_name_0 : decode cX12_name 0 = .ok (.aload_n 0, 1) := by decide +kernel
theorem dX12_name_1 : decode cX12_name 1 = .ok (.iload_n 1, 1) := by decide +kernel
theorem dX12_name_2 : decode cX12_name 2 = .ok (.invokevirtual 664, 3) := by decide +kernel
theorem dX12_name_5 : decode cX12_name 5 = .ok (.ifCond .eq 59, 3) := by decide +kernel
theorem dX12_name_8 : decode cX12_name 8 = .ok (.iload_n 2, 1) := by decide +kernel
theorem dX12_name_9 : decode cX12_name 9 = .ok (.i2l, 1) := by decide +kernel
theorem dX12_name_10 : decode cX12_name 10 = .ok (.lconst 0, 1) := by decide +kernel
theorem dX12_name_11 : decode cX12_name 11 = .ok (.aload_n 0, 1) := by decide +kernel
theorem dX12_name_12 : decode cX12_name 12 = .ok (.getfield 40, 3) := by decide +kernel
theorem dX12_name_15 : decode cX12_name 15 = .ok (.sipush 600, 3) := by decide +kernel
theorem dX12_name_18 : decode cX12_name 18 = .ok (.aload_n 0, 1) := by decide +kernel
theorem dX12_name_19 : decode cX12_name 19 = .ok (.getfield 482, 3) := by decide +kernel
theorem dX12_name_22 : decode cX12_name 22 = .ok (.imul, 1) := by decide +kernel
theorem dX12_name_23 : decode cX12_name 23 = .ok (.iload_n 1, 1) := by decide +kernel
theorem dX12_name_24 : decode cX12_name 24 = .ok (.iadd, 1) := by decide +kernel
theorem dX12_name_25 : decode cX12_name 25 = .ok (.iaload, 1) := by decide +kernel
theorem dX12_name_26 : decode cX12_name 26 = .ok (.iconst 1, 1) := by decide +kernel
theorem dX12_name_27 : decode cX12_name 27 = .ok (.isub, 1) := by decide +kernel
theorem dX12_name_28 : decode cX12_name 28 = .ok (.i2l, 1) := by decide +kernel
theorem dX12_name_29 : decode cX12_name 29 = .ok (.invokestatic 256, 3) := by decide +kernel
theorem dX12_name_32 : decode cX12_name 32 = .ok (.ifCond .eq 32, 3) := by decide +kernel
theorem dX12_name_35 : decode cX12_name 35 = .ok (.aload_n 0, 1) := by decide +kernel
theorem dX12_name_36 : decode cX12_name 36 = .ok (.getfield 24, 3) := by decide +kernel
theorem dX12_name_39 : decode cX12_name 39 = .ok (.aload_n 0, 1) := by decide +kernel
theorem dX12_name_40 : decode cX12_name 40 = .ok (.getfield 37, 3) := by decide +kernel
theorem dX12_name_43 : decode cX12_name 43 = .ok (.sipush 600, 3) := by decide +kernel
theorem dX12_name_46 : decode cX12_name 46 = .ok (.aload_n 0, 1) := by decide +kernel
theorem dX12_name_47 : decode cX12_name 47 = .ok (.getfield 482, 3) := by decide +kernel
theorem dX12_name_50 : decode cX12_name 50 = .ok (.imul, 1) := by decide +kernel
theorem dX12_name_51 : decode cX12_name 51 = .ok (.iload_n 1, 1) := by decide +kernel
theorem dX12_name_52 : decode cX12_name 52 = .ok (.iadd, 1) := by decide +kernel
theorem dX12_name_53 : decode cX12_name 53 = .ok (.iaload, 1) := by decide +kernel
theorem dX12_name_54 : decode cX12_name 54 = .ok (.iload_n 2, 1) := by decide +kernel
theorem dX12_name_55 : decode cX12_name 55 = .ok (.iadd, 1) := by decide +kernel
theorem dX12_name_56 : decode cX12_name 56 = .ok (.baload, 1) := by decide +kernel
theorem dX12_name_57 : decode cX12_name 57 = .ok (.sipush 255, 3) := by decide +kernel
theorem dX12_name_60 : decode cX12_name 60 = .ok (.iand, 1) := by decide +kernel
theorem dX12_name_61 : decode cX12_name 61 = .ok (.goto 4, 3) := by decide +kernel
theorem dX12_name_64 : decode cX12_name 64 = .ok (.iconst (-1), 1) := by decide +kernel
theorem dX12_name_65 : decode cX12_name 65 = .ok (.ireturn, 1) := by decide +kernel
theorem v_X12_name_0 {cs : Cs} {Q : Option AV → Mm → Prop} {MI ML : Nat → Nat → Int} {d e nw th x : Nat} {l1 l2 : Int}
    (h : wp cs mX12_isNode KD (rI (GR d e nw th x) fun x2 m2 n2 => ((x2 = 0 → Q (some (vI (-1))) (m2, n2, (GR d e nw th x))) ∧ (x2 ≠ 0 → (-2147483648 ≤ 600 * (m2 124 7) ∧ 600 * (m2 124 7) < 2147483648) ∧ (-2147483648 ≤ (600 * (m2 124 7)) + l1 ∧ (600 * (m2 124 7)) + l1 < 2147483648) ∧ (0 ≤ ((600 * (m2 124 7)) + l1) ∧ ((600 * (m2 124 7)) + l1) < 1200) ∧ (-2147483648 ≤ (m2 133 ((600 * (m2 124 7)) + l1).toNat) - 1 ∧ (m2 133 ((600 * (m2 124 7)) + l1).toNat) - 1 < 2147483648) ∧ wp cs mX12_in KD (rI (GR d e nw th x) fun x29 m29 n29 => ((x29 = 0 → Q (some (vI (-1))) (m29, n29, (GR d e nw th x))) ∧ (x29 ≠ 0 → (-2147483648 ≤ 600 * (m29 124 7) ∧ 600 * (m29 124 7) < 2147483648) ∧ (-2147483648 ≤ (600 * (m29 124 7)) + l1 ∧ (600 * (m29 124 7)) + l1 < 2147483648) ∧ (0 ≤ ((600 * (m29 124 7)) + l1) ∧ ((600 * (m29 124 7)) + l1) < 1200) ∧ (-2147483648 ≤ (m29 132 ((600 * (m29 124 7)) + l1).toNat) + l2 ∧ (m29 132 ((600 * (m29 124 7)) + l1).toNat) + l2 < 2147483648) ∧ (0 ≤ ((m29 132 ((600 * (m29 124 7)) + l1).toNat) + l2) ∧ ((m29 132 ((600 * (m29 124 7)) + l1).toNat) + l2) < 12000) ∧ Q (some (vI (i_and (m29 128 ((m29 132 ((600 * (m29 124 7)) + l1).toNat) + l2).toNat) 255))) (m29, n29, (GR d e nw th x))))) 0 (padL [vL l2, vL 0, vL ((m2 133 ((600 * (m2 124 7)) + l1).toNat) - 1)] 6) [] (KD, m2, n2, (GR d e nw th x))))) 0 (padL [vR 124, vI l1] 2) [] (KD, MI, ML, (GR d e nw th x))) :
    wp cs mX12_name KD Q 0 (padL [vR 124, vI l1, vI l2] 3) [] (KD, MI, ML, (GR d e nw th x)) := by
  refine wp_L (L' := [some (vR 124), some (vI l1), some (vI l2)]) rfl ?_
  refine wp_aload_n dX12_name_0 rfl rfl (by first | exact Or.inl (by decide) | exact Or.inl (by omega) | exact Or.inr (by decide) | exact Or.inr (by omega)) ?_
  refine wp_iload_n dX12_name_1 rfl rfl ?_
  refine wp_cVq (n := 1) (mt' := mX12_isNode) (as := [vI l1]) (rest := []) _ dX12_name_2 lX12_664 kX12_isNode vX12_isNode (by decide) (by decide +kernel) rfl (Nat.le_of_ble_eq_true rfl) (by decide) rfl rfl rfl (Nat.le_of_ble_eq_true rfl) (fun hM hS => h) (fun r M' hq hM => ?_)
  obtain ⟨x2, m2, n2, rfl, rfl, h⟩ := rI_out hq
  refine wp_if_eq (tgt := 64) dX12_name_5 (by decide) (fun h5 => ?_) (fun h5 => ?_)
  · replace h := h.1 h5
    refine wp_iconst dX12_name_64 (by decide) ?_
    exact wp_iret dX12_name_65 rfl (fun _ => h)
  · replace h := h.2 h5
    refine wp_iload_n dX12_name_8 rfl rfl ?_
    refine wp_i2l dX12_name_9 ?_
    refine wp_lconst (z := 0) dX12_name_10 (by decide +kernel) (by decide) ?_
    refine wp_aload_n dX12_name_11 rfl rfl (by first | exact Or.inl (by decide) | exact Or.inl (by omega) | exact Or.inr (by decide) | exact Or.inr (by omega)) ?_
    refine wp_getR dX12_name_12 fX12_40 rfl (by decide) ?_
    refine wp_topR (x' := 133) rfl ?_
    refine wp_sipush dX12_name_15 (by decide +kernel) (by decide) ?_
    refine wp_aload_n dX12_name_18 rfl rfl (by first | exact Or.inl (by decide) | exact Or.inl (by omega) | exact Or.inr (by decide) | exact Or.inr (by omega)) ?_
    refine wp_pc (pc' := 19) rfl ?_
    refine wp_getI dX12_name_19 fX12_482 rfl (by decide) ?_
    have c0 := h.1
    replace h := h.2
    refine wp_imulr dX12_name_22 c0 ?_
    refine wp_iload_n dX12_name_23 rfl rfl ?_
    have c1 := h.1
    replace h := h.2
    refine wp_iaddr dX12_name_24 c1 ?_
    have c2 := h.1
    replace h := h.2
    refine wp_iald dX12_name_25 rfl (by decide) c2 ?_
    refine wp_iconst dX12_name_26 (by decide) ?_
    have c3 := h.1
    replace h := h.2
    refine wp_isubr dX12_name_27 c3 ?_
    refine wp_i2l dX12_name_28 ?_
    refine wp_pc (pc' := 29) rfl ?_
    refine wp_cSq (n := 3) (mt' := mX12_in) (as := [vL l2, vL 0, vL ((m2 133 ((600 * (m2 124 7)) + l1).toNat) - 1)]) (rest := []) _ dX12_name_29 lX12_256 kX12_in vX12_in (by decide) (by decide +kernel) rfl (Nat.le_of_ble_eq_true rfl) rfl (Nat.le_of_ble_eq_true rfl) (fun hM hS => h) (fun r M' hq hM => ?_)
    obtain ⟨x29, m29, n29, rfl, rfl, h⟩ := rI_out hq
    refine wp_if_eq (tgt := 64) dX12_name_32 (by decide) (fun h32 => ?_) (fun h32 => ?_)
    · replace h := h.1 h32
      refine wp_iconst dX12_name_64 (by decide) ?_
      exact wp_iret dX12_name_65 rfl (fun _ => h)
    · replace h := h.2 h32
      refine wp_aload_n dX12_name_35 rfl rfl (by first | exact Or.inl (by decide) | exact Or.inl (by omega) | exact Or.inr (by decide) | exact Or.inr (by omega)) ?_
      refine wp_getR dX12_name_36 fX12_24 rfl (by decide) ?_
      refine wp_topR (x' := 128) rfl ?_
      refine wp_aload_n dX12_name_39 rfl rfl (by first | exact Or.inl (by decide) | exact Or.inl (by omega) | exact Or.inr (by decide) | exact Or.inr (by omega)) ?_
      refine wp_getR dX12_name_40 fX12_37 rfl (by decide) ?_
      refine wp_topR (x' := 132) rfl ?_
      refine wp_sipush dX12_name_43 (by decide +kernel) (by decide) ?_
      refine wp_aload_n dX12_name_46 rfl rfl (by first | exact Or.inl (by decide) | exact Or.inl (by omega) | exact Or.inr (by decide) | exact Or.inr (by omega)) ?_
      refine wp_getI dX12_name_47 fX12_482 rfl (by decide) ?_
      refine wp_pc (pc' := 50) rfl ?_
      have c4 := h.1
      replace h := h.2
      refine wp_imulr dX12_name_50 c4 ?_
      refine wp_iload_n dX12_name_51 rfl rfl ?_
      have c5 := h.1
      replace h := h.2
      refine wp_iaddr dX12_name_52 c5 ?_
      have c6 := h.1
      replace h := h.2
      refine wp_iald dX12_name_53 rfl (by decide) c6 ?_
      refine wp_iload_n dX12_name_54 rfl rfl ?_
      have c7 := h.1
      replace h := h.2
      refine wp_iaddr dX12_name_55 c7 ?_
      have c8 := h.1
      replace h := h.2
      refine wp_bald dX12_name_56 rfl (by decide) c8 ?_
      refine wp_sipush dX12_name_57 (by decide +kernel) (by decide) ?_
      refine wp_pc (pc' := 60) rfl ?_
      refine wp_iand dX12_name_60 ?_
      refine wp_goto (tgt := 65) dX12_name_61 (by decide) ?_
      exact wp_iret dX12_name_65 rfl (fun _ => h)
theorem dX11_string_0 : decode cX11_string 0 = .ok (.aload_n 0, 1) := by decide +kernel
theorem dX11_string_1 : decode cX11_string 1 = .ok (.getfield 67, 3) := by decide +kernel
theorem dX11_string_4 : decode cX11_string 4 = .ok (.iload_n 1, 1) := by decide +kernel
theorem dX11_string_5 : decode cX11_string 5 = .ok (.invokevirtual 120, 3) := by decide +kernel
theorem dX11_string_8 : decode cX11_string 8 = .ok (.ifCond .eq 15, 3) := by decide +kernel
theorem dX11_string_11 : decode cX11_string 11 = .ok (.aload_n 0, 1) := by decide +kernel
theorem dX11_string_12 : decode cX11_string 12 = .ok (.getfield 67, 3) := by decide +kernel
theorem dX11_string_15 : decode cX11_string 15 = .ok (.iload_n 1, 1) := by decide +kernel
theorem dX11_string_16 : decode cX11_string 16 = .ok (.iload_n 2, 1) := by decide +kernel
theorem dX11_string_17 : decode cX11_string 17 = .ok (.invokevirtual 141, 3) := by decide +kernel
theorem dX11_string_20 : decode cX11_string 20 = .ok (.goto 4, 3) := by decide +kernel
theorem dX11_string_23 : decode cX11_string 23 = .ok (.iconst (-1), 1) := by decide +kernel
theorem dX11_string_24 : decode cX11_string 24 = .ok (.ireturn, 1) := by decide +kernel
theorem v_X11_string_0 {cs : Cs} {Q : Option AV → Mm → Prop} {MI ML : Nat → Nat → Int} {b e nw th x : Nat} {l1 l2 : Int} (hbd : b = 38 ∨ b = 81)
    (h : wp cs mX3_has KD (rI (GR b e nw th x) fun x5 m5 n5 => ((x5 = 0 → Q (some (vI (-1))) (m5, n5, (GR b e nw th x))) ∧ (x5 ≠ 0 → wp cs mX3_stringByte KD (rI (GR b e nw th x) fun x17 m17 n17 => Q (some (vI x17)) (m17, n17, (GR b e nw th x))) 0 (padL [vR b, vI l1, vI l2] 3) [] (KD, m5, n5, (GR b e nw th x))))) 0 (padL [vR b, vI l1] 2) [] (KD, MI, ML, (GR b e nw th x))) :
    wp cs mX11_string KD Q 0 (padL [vR 0, vI l1, vI l2] 3) [] (KD, MI, ML, (GR b e nw th x)) := by
  refine wp_L (L' := [some (vR 0), some (vI l1), some (vI l2)]) rfl ?_
  refine wp_aload_n dX11_string_0 rfl rfl (by first | exact Or.inl (by decide) | exact Or.inl (by omega) | exact Or.inr (by decide) | exact Or.inr (by omega)) ?_
  refine wp_getR dX11_string_1 fX11_67 rfl (by decide) ?_
  refine wp_topR (x' := b) rfl ?_
  refine wp_iload_n dX11_string_4 rfl rfl ?_
  refine wp_cVq (n := 1) (mt' := mX3_has) (as := [vI l1]) (rest := []) _ dX11_string_5 lX11_120 kX3_has vX3_has (by decide) (by decide +kernel) rfl (Nat.le_of_ble_eq_true rfl) (by omega) (show KD[b]? = some (7, 19) from kdb_0 hbd) rfl rfl (Nat.le_of_ble_eq_true rfl) (fun hM hS => h) (fun r M' hq hM => ?_)
  obtain ⟨x5, m5, n5, rfl, rfl, h⟩ := rI_out hq
  refine wp_if_eq (tgt := 23) dX11_string_8 (by decide) (fun h8 => ?_) (fun h8 => ?_)
  · replace h := h.1 h8
    refine wp_iconst dX11_string_23 (by decide) ?_
    exact wp_iret dX11_string_24 rfl (fun _ => h)
  · replace h := h.2 h8
    refine wp_aload_n dX11_string_11 rfl rfl (by first | exact Or.inl (by decide) | exact Or.inl (by omega) | exact Or.inr (by decide) | exact Or.inr (by omega)) ?_
    refine wp_getR dX11_string_12 fX11_67 rfl (by decide) ?_
    refine wp_topR (x' := b) rfl ?_
    refine wp_iload_n dX11_string_15 rfl rfl ?_
    refine wp_iload_n dX11_string_16 rfl rfl ?_
    refine wp_cVq (n := 2) (mt' := mX3_stringByte) (as := [vI l1, vI l2]) (rest := []) _ dX11_string_17 lX11_141 kX3_stringByte vX3_stringByte (by decide) (by decide +kernel) rfl (Nat.le_of_ble_eq_true rfl) (by omega) (show KD[b]? = some (7, 19) from kdb_0 hbd) rfl rfl (Nat.le_of_ble_eq_true rfl) (fun hM hS => h) (fun r M' hq hM => ?_)
    obtain ⟨x17, m17, n17, rfl, rfl, h⟩ := rI_out hq
    refine wp_goto (tgt := 24) dX11_string_20 (by decide) ?_
    exact wp_iret dX11_string_24 rfl (fun _ => h)
theorem dX12_stringAt_0 : decode cX12_stringAt 0 = .ok (.iload_n 2, 1) := by decide +kernel
theorem dX12_stringAt_1 : decode cX12_stringAt 1 = .ok (.istore_n 3, 1) := by decide +kernel
theorem dX12_stringAt_2 : decode cX12_stringAt 2 = .ok (.iload_n 1, 1) := by decide +kernel
theorem dX12_stringAt_3 : decode cX12_stringAt 3 = .ok (.istore 4, 2) := by decide +kernel
theorem dX12_stringAt_5 : decode cX12_stringAt 5 = .ok (.iload 4, 2) := by decide +kernel
theorem dX12_stringAt_7 : decode cX12_stringAt 7 = .ok (.aload_n 0, 1) := by decide +kernel
theorem dX12_stringAt_8 : decode cX12_stringAt 8 = .ok (.getfield 27, 3) := by decide +kernel
theorem dX12_stringAt_11 : decode cX12_stringAt 11 = .ok (.aload_n 0, 1) := by decide +kernel
theorem dX12_stringAt_12 : decode cX12_stringAt 12 = .ok (.getfield 482, 3) := by decide +kernel
theorem dX12_stringAt_15 : decode cX12_stringAt 15 = .ok (.iaload, 1) := by decide +kernel
theorem dX12_stringAt_16 : decode cX12_stringAt 16 = .ok (.if_icmp .ge 144, 3) := by decide +kernel
theorem dX12_stringAt_19 : decode cX12_stringAt 19 = .ok (.iload_n 2, 1) := by decide +kernel
theorem dX12_stringAt_20 : decode cX12_stringAt 20 = .ok (.ifCond .lt 140, 3) := by decide +kernel
theorem dX12_stringAt_23 : decode cX12_stringAt 23 = .ok (.sipush 600, 3) := by decide +kernel
theorem dX12_stringAt_26 : decode cX12_stringAt 26 = .ok (.aload_n 0, 1) := by decide +kernel
theorem dX12_stringAt_27 : decode cX12_stringAt 27 = .ok (.getfield 482, 3) := by decide +kernel
theorem dX12_stringAt_30 : decode cX12_stringAt 30 = .ok (.imul, 1) := by decide +kernel
theorem dX12_stringAt_31 : decode cX12_stringAt 31 = .ok (.iload 4, 2) := by decide +kernel
theorem dX12_stringAt_33 : decode cX12_stringAt 33 = .ok (.iadd, 1) := by decide +kernel
theorem dX12_stringAt_34 : decode cX12_stringAt 34 = .ok (.istore 5, 2) := by decide +kernel
theorem dX12_stringAt_36 : decode cX12_stringAt 36 = .ok (.iload 4, 2) := by decide +kernel
theorem dX12_stringAt_38 : decode cX12_stringAt 38 = .ok (.iload_n 1, 1) := by decide +kernel
theorem dX12_stringAt_39 : decode cX12_stringAt 39 = .ok (.if_icmp .ne 14, 3) := by decide +kernel
theorem dX12_stringAt_42 : decode cX12_stringAt 42 = .ok (.aload_n 0, 1) := by decide +kernel
theorem dX12_stringAt_43 : decode cX12_stringAt 43 = .ok (.getfield 31, 3) := by decide +kernel
theorem dX12_stringAt_46 : decode cX12_stringAt 46 = .ok (.iload 5, 2) := by decide +kernel
theorem dX12_stringAt_48 : decode cX12_stringAt 48 = .ok (.iaload, 1) := by decide +kernel
theorem dX12_stringAt_49 : decode cX12_stringAt 49 = .ok (.iconst 2, 1) := by decide +kernel
theorem dX12_stringAt_50 : decode cX12_stringAt 50 = .ok (.if_icmp .ge 43, 3) := by decide +kernel
theorem dX12_stringAt_53 : decode cX12_stringAt 53 = .ok (.aload_n 0, 1) := by decide +kernel
theorem dX12_stringAt_54 : decode cX12_stringAt 54 = .ok (.getfield 31, 3) := by decide +kernel
theorem dX12_stringAt_57 : decode cX12_stringAt 57 = .ok (.iload 5, 2) := by decide +kernel
theorem dX12_stringAt_59 : decode cX12_stringAt 59 = .ok (.iaload, 1) := by decide +kernel
theorem dX12_stringAt_60 : decode cX12_stringAt 60 = .ok (.iconst 3, 1) := by decide +kernel
theorem dX12_stringAt_61 : decode cX12_stringAt 61 = .ok (.if_icmp .ne 36, 3) := by decide +kernel
theorem dX12_stringAt_64 : decode cX12_stringAt 64 = .ok (.aload_n 0, 1) := by decide +kernel
theorem dX12_stringAt_65 : decode cX12_stringAt 65 = .ok (.getfield 31, 3) := by decide +kernel
theorem dX12_stringAt_68 : decode cX12_stringAt 68 = .ok (.sipush 600, 3) := by decide +kernel
theorem dX12_stringAt_71 : decode cX12_stringAt 71 = .ok (.aload_n 0, 1) := by decide +kernel
theorem dX12_stringAt_72 : decode cX12_stringAt 72 = .ok (.getfield 482, 3) := by decide +kernel
theorem dX12_stringAt_75 : decode cX12_stringAt 75 = .ok (.imul, 1) := by decide +kernel
theorem dX12_stringAt_76 : decode cX12_stringAt 76 = .ok (.iload_n 1, 1) := by decide +kernel
theorem dX12_stringAt_77 : decode cX12_stringAt 77 = .ok (.iadd, 1) := by decide +kernel
theorem dX12_stringAt_78 : decode cX12_stringAt 78 = .ok (.iaload, 1) := by decide +kernel
theorem dX12_stringAt_79 : decode cX12_stringAt 79 = .ok (.iconst 2, 1) := by decide +kernel
theorem dX12_stringAt_80 : decode cX12_stringAt 80 = .ok (.if_icmp .ge 17, 3) := by decide +kernel
theorem dX12_stringAt_83 : decode cX12_stringAt 83 = .ok (.aload_n 0, 1) := by decide +kernel
theorem dX12_stringAt_84 : decode cX12_stringAt 84 = .ok (.iload 4, 2) := by decide +kernel
theorem dX12_stringAt_86 : decode cX12_stringAt 86 = .ok (.iload_n 1, 1) := by decide +kernel
theorem dX12_stringAt_87 : decode cX12_stringAt 87 = .ok (.invokevirtual 603, 3) := by decide +kernel
theorem dX12_stringAt_90 : decode cX12_stringAt 90 = .ok (.ifCond .eq 7, 3) := by decide +kernel
theorem dX12_stringAt_93 : decode cX12_stringAt 93 = .ok (.iconst 1, 1) := by decide +kernel
theorem dX12_stringAt_94 : decode cX12_stringAt 94 = .ok (.goto 4, 3) := by decide +kernel
theorem dX12_stringAt_97 : decode cX12_stringAt 97 = .ok (.iconst 0, 1) := by decide +kernel
theorem dX12_stringAt_98 : decode cX12_stringAt 98 = .ok (.istore 6, 2) := by decide +kernel
theorem dX12_stringAt_100 : decode cX12_stringAt 100 = .ok (.iload 6, 2) := by decide +kernel
theorem dX12_stringAt_102 : decode cX12_stringAt 102 = .ok (.ifCond .eq 33, 3) := by decide +kernel
theorem dX12_stringAt_105 : decode cX12_stringAt 105 = .ok (.iload_n 3, 1) := by decide +kernel
theorem dX12_stringAt_106 : decode cX12_stringAt 106 = .ok (.aload_n 0, 1) := by decide +kernel
theorem dX12_stringAt_107 : decode cX12_stringAt 107 = .ok (.getfield 46, 3) := by decide +kernel
theorem dX12_stringAt_110 : decode cX12_stringAt 110 = .ok (.iload 5, 2) := by decide +kernel
theorem dX12_stringAt_112 : decode cX12_stringAt 112 = .ok (.iaload, 1) := by decide +kernel
theorem dX12_stringAt_113 : decode cX12_stringAt 113 = .ok (.if_icmp .ge 22, 3) := by decide +kernel
theorem dX12_stringAt_116 : decode cX12_stringAt 116 = .ok (.aload_n 0, 1) := by decide +kernel
theorem dX12_stringAt_117 : decode cX12_stringAt 117 = .ok (.getfield 55, 3) := by decide +kernel
theorem dX12_stringAt_120 : decode cX12_stringAt 120 = .ok (.aload_n 0, 1) := by decide +kernel
theorem dX12_stringAt_121 : decode cX12_stringAt 121 = .ok (.getfield 43, 3) := by decide +kernel
theorem dX12_stringAt_124 : decode cX12_stringAt 124 = .ok (.iload 5, 2) := by decide +kernel
theorem dX12_stringAt_126 : decode cX12_stringAt 126 = .ok (.iaload, 1) := by decide +kernel
theorem dX12_stringAt_127 : decode cX12_stringAt 127 = .ok (.iload_n 3, 1) := by decide +kernel
theorem dX12_stringAt_128 : decode cX12_stringAt 128 = .ok (.iadd, 1) := by decide +kernel
theorem dX12_stringAt_129 : decode cX12_stringAt 129 = .ok (.baload, 1) := by decide +kernel
theorem dX12_stringAt_130 : decode cX12_stringAt 130 = .ok (.sipush 255, 3) := by decide +kernel
theorem dX12_stringAt_133 : decode cX12_stringAt 133 = .ok (.iand, 1) := by decide +kernel
theorem dX12_stringAt_134 : decode cX12_stringAt 134 = .ok (.ireturn, 1) := by decide +kernel
theorem dX12_stringAt_135 : decode cX12_stringAt 135 = .ok (.iload_n 3, 1) := by decide +kernel
theorem dX12_stringAt_136 : decode cX12_stringAt 136 = .ok (.iload 6, 2) := by decide +kernel
theorem dX12_stringAt_138 : decode cX12_stringAt 138 = .ok (.ifCond .eq 13, 3) := by decide +kernel
theorem dX12_stringAt_141 : decode cX12_stringAt 141 = .ok (.aload_n 0, 1) := by decide +kernel
theorem dX12_stringAt_142 : decode cX12_stringAt 142 = .ok (.getfield 46, 3) := by decide +kernel
theorem dX12_stringAt_145 : decode cX12_stringAt 145 = .ok (.iload 5, 2) := by decide +kernel
theorem dX12_stringAt_147 : decode cX12_stringAt 147 = .ok (.iaload, 1) := by decide +kernel
theorem dX12_stringAt_148 : decode cX12_stringAt 148 = .ok (.goto 4, 3) := by decide +kernel
theorem dX12_stringAt_151 : decode cX12_stringAt 151 = .ok (.iconst 0, 1) := by decide +kernel
theorem dX12_stringAt_152 : decode cX12_stringAt 152 = .ok (.isub, 1) := by decide +kernel
theorem dX12_stringAt_153 : decode cX12_stringAt 153 = .ok (.istore_n 3, 1) := by decide +kernel
theorem dX12_stringAt_154 : decode cX12_stringAt 154 = .ok (.iinc 4 1, 3) := by decide +kernel
theorem dX12_stringAt_157 : decode cX12_stringAt 157 = .ok (.goto (-152), 3) := by decide +kernel
theorem dX12_stringAt_160 : decode cX12_stringAt 160 = .ok (.iconst (-1), 1) := by decide +kernel
theorem dX12_stringAt_161 : decode cX12_stringAt 161 = .ok (.ireturn, 1) := by decide +kernel
theorem v_X12_stringAt_0 {cs : Cs} {Q : Option AV → Mm → Prop} {MI ML : Nat → Nat → Int} {d e nw th x : Nat} {l1 l2 : Int}
    (h : wp cs mX12_stringAt KD Q 5 [some (vR 124), some (vI l1), some (vI l2), some (vI l2), some (vI l1), none, none] [] (KD, MI, ML, (GR d e nw th x))) :
    wp cs mX12_stringAt KD Q 0 (padL [vR 124, vI l1, vI l2] 7) [] (KD, MI, ML, (GR d e nw th x)) := by
  refine wp_L (L' := [some (vR 124), some (vI l1), some (vI l2), none, none, none, none]) rfl ?_
  refine wp_iload_n dX12_stringAt_0 rfl rfl ?_
  refine wp_istore_n dX12_stringAt_1 rfl (by decide) (wp_L (L' := [some (vR 124), some (vI l1), some (vI l2), some (vI l2), none, none, none]) rfl ?_)
  refine wp_iload_n dX12_stringAt_2 rfl rfl ?_
  refine wp_istore dX12_stringAt_3 (by decide) (wp_L (L' := [some (vR 124), some (vI l1), some (vI l2), some (vI l2), some (vI l1), none, none]) rfl ?_)
  exact h
theorem v_X12_stringAt_5 {cs : Cs} {Q : Option AV → Mm → Prop} {MI ML : Nat → Nat → Int} {d e nw th x : Nat} {l1 l2 l3 l4 : Int}
    (h : (0 ≤ (MI 124 7) ∧ (MI 124 7) < 2) ∧ ((l4 < (MI 129 (MI 124 7).toNat) → ((l2 < 0 → Q (some (vI (-1))) (MI, ML, (GR d e nw th x))) ∧ (0 ≤ l2 → (-2147483648 ≤ 600 * (MI 124 7) ∧ 600 * (MI 124 7) < 2147483648) ∧ (-2147483648 ≤ (600 * (MI 124 7)) + l4 ∧ (600 * (MI 124 7)) + l4 < 2147483648) ∧ ((l4 = l1 → (0 ≤ ((600 * (MI 124 7)) + l4) ∧ ((600 * (MI 124 7)) + l4) < 1200) ∧ (((MI 130 ((600 * (MI 124 7)) + l4).toNat) < 2 → wp cs mX12_stringAt KD Q 53 [some (vR 124), some (vI l1), some (vI l2), some (vI l3), some (vI l4), some (vI ((600 * (MI 124 7)) + l4)), none] [] (KD, MI, ML, (GR d e nw th x))) ∧ (2 ≤ (MI 130 ((600 * (MI 124 7)) + l4).toNat) → wp cs mX12_stringAt KD Q 98 [some (vR 124), some (vI l1), some (vI l2), some (vI l3), some (vI l4), some (vI ((600 * (MI 124 7)) + l4)), none] [vI 1] (KD, MI, ML, (GR d e nw th x))))) ∧ (l4 ≠ l1 → wp cs mX12_stringAt KD Q 53 [some (vR 124), some (vI l1), some (vI l2), some (vI l3), some (vI l4), some (vI ((600 * (MI 124 7)) + l4)), none] [] (KD, MI, ML, (GR d e nw th x))))))) ∧ ((MI 129 (MI 124 7).toNat) ≤ l4 → Q (some (vI (-1))) (MI, ML, (GR d e nw th x))))) :
    wp cs mX12_stringAt KD Q 5 [some (vR 124), some (vI l1), some (vI l2), some (vI l3), some (vI l4), none, none] [] (KD, MI, ML, (GR d e nw th x)) := by
  refine wp_iload dX12_stringAt_5 rfl ?_
  refine wp_aload_n dX12_stringAt_7 rfl rfl (by first | exact Or.inl (by decide) | exact Or.inl (by omega) | exact Or.inr (by decide) | exact Or.inr (by omega)) ?_
  refine wp_getR dX12_stringAt_8 fX12_27 rfl (by decide) ?_
  refine wp_topR (x' := 129) rfl ?_
  refine wp_aload_n dX12_stringAt_11 rfl rfl (by first | exact Or.inl (by decide) | exact Or.inl (by omega) | exact Or.inr (by decide) | exact Or.inr (by omega)) ?_
  refine wp_getI dX12_stringAt_12 fX12_482 rfl (by decide) ?_
  have c0 := h.1
  replace h := h.2
  refine wp_iald dX12_stringAt_15 rfl (by decide) c0 ?_
  refine wp_icmp_ge (tgt := 160) dX12_stringAt_16 (by decide) (fun h16 => ?_) (fun h16 => ?_)
  · replace h := h.2 h16
    refine wp_iconst dX12_stringAt_160 (by decide) ?_
    exact wp_iret dX12_stringAt_161 rfl (fun _ => h)
  · replace h := h.1 h16
    refine wp_iload_n dX12_stringAt_19 rfl rfl ?_
    refine wp_if_lt (tgt := 160) dX12_stringAt_20 (by decide) (fun h20 => ?_) (fun h20 => ?_)
    · replace h := h.1 h20
      refine wp_iconst dX12_stringAt_160 (by decide) ?_
      exact wp_iret dX12_stringAt_161 rfl (fun _ => h)
    · replace h := h.2 h20
      refine wp_sipush dX12_stringAt_23 (by decide +kernel) (by decide) ?_
      refine wp_aload_n dX12_stringAt_26 rfl rfl (by first | exact Or.inl (by decide) | exact Or.inl (by omega) | exact Or.inr (by decide) | exact Or.inr (by omega)) ?_
      refine wp_getI dX12_stringAt_27 fX12_482 rfl (by decide) ?_
      have c1 := h.1
      replace h := h.2
      refine wp_imulr dX12_stringAt_30 c1 ?_
      refine wp_iload dX12_stringAt_31 rfl ?_
      have c2 := h.1
      replace h := h.2
      refine wp_iaddr dX12_stringAt_33 c2 ?_
      refine wp_istore dX12_stringAt_34 (by decide) (wp_L (L' := [some (vR 124), some (vI l1), some (vI l2), some (vI l3), some (vI l4), some (vI ((600 * (MI 124 7)) + l4)), none]) rfl ?_)
      refine wp_pc (pc' := 36) rfl ?_
      refine wp_iload dX12_stringAt_36 rfl ?_
      refine wp_iload_n dX12_stringAt_38 rfl rfl ?_
      refine wp_icmp_ne (tgt := 53) dX12_stringAt_39 (by decide) (fun h39 => ?_) (fun h39 => ?_)
      · replace h := h.2 h39
        exact h
      · replace h := h.1 h39
        refine wp_aload_n dX12_stringAt_42 rfl rfl (by first | exact Or.inl (by decide) | exact Or.inl (by omega) | exact Or.inr (by decide) | exact Or.inr (by omega)) ?_
        refine wp_getR dX12_stringAt_43 fX12_31 rfl (by decide) ?_
        refine wp_topR (x' := 130) rfl ?_
        refine wp_iload dX12_stringAt_46 rfl ?_
        have c3 := h.1
        replace h := h.2
        refine wp_iald dX12_stringAt_48 rfl (by decide) c3 ?_
        refine wp_iconst dX12_stringAt_49 (by decide) ?_
        refine wp_icmp_ge (tgt := 93) dX12_stringAt_50 (by decide) (fun h50 => ?_) (fun h50 => ?_)
        · replace h := h.2 h50
          refine wp_iconst dX12_stringAt_93 (by decide) ?_
          refine wp_goto (tgt := 98) dX12_stringAt_94 (by decide) ?_
          exact h
        · replace h := h.1 h50
          exact h
theorem v_X12_stringAt_53 {cs : Cs} {Q : Option AV → Mm → Prop} {MI ML : Nat → Nat → Int} {d e nw th x : Nat} {l1 l2 l3 l4 l5 : Int}
    (h : (0 ≤ l5 ∧ l5 < 1200) ∧ (((MI 130 l5.toNat) = 3 → (-2147483648 ≤ 600 * (MI 124 7) ∧ 600 * (MI 124 7) < 2147483648) ∧ (-2147483648 ≤ (600 * (MI 124 7)) + l1 ∧ (600 * (MI 124 7)) + l1 < 2147483648) ∧ (0 ≤ ((600 * (MI 124 7)) + l1) ∧ ((600 * (MI 124 7)) + l1) < 1200) ∧ (((MI 130 ((600 * (MI 124 7)) + l1).toNat) < 2 → wp cs mX12_isWithin KD (rI (GR d e nw th x) fun x87 m87 n87 => ((x87 = 0 → wp cs mX12_stringAt KD Q 98 [some (vR 124), some (vI l1), some (vI l2), some (vI l3), some (vI l4), some (vI l5), none] [vI 0] (KD, m87, n87, (GR d e nw th x))) ∧ (x87 ≠ 0 → wp cs mX12_stringAt KD Q 98 [some (vR 124), some (vI l1), some (vI l2), some (vI l3), some (vI l4), some (vI l5), none] [vI 1] (KD, m87, n87, (GR d e nw th x))))) 0 (padL [vR 124, vI l4, vI l1] 5) [] (KD, MI, ML, (GR d e nw th x))) ∧ (2 ≤ (MI 130 ((600 * (MI 124 7)) + l1).toNat) → wp cs mX12_stringAt KD Q 98 [some (vR 124), some (vI l1), some (vI l2), some (vI l3), some (vI l4), some (vI l5), none] [vI 0] (KD, MI, ML, (GR d e nw th x))))) ∧ ((MI 130 l5.toNat) ≠ 3 → wp cs mX12_stringAt KD Q 98 [some (vR 124), some (vI l1), some (vI l2), some (vI l3), some (vI l4), some (vI l5), none] [vI 0] (KD, MI, ML, (GR d e nw th x))))) :
    wp cs mX12_stringAt KD Q 53 [some (vR 124), some (vI l1), some (vI l2), some (vI l3), some (vI l4), some (vI l5), none] [] (KD, MI, ML, (GR d e nw th x)) := by
  refine wp_aload_n dX12_stringAt_53 rfl rfl (by first | exact Or.inl (by decide) | exact Or.inl (by omega) | exact Or.inr (by decide) | exact Or.inr (by omega)) ?_
  refine wp_getR dX12_stringAt_54 fX12_31 rfl (by decide) ?_
  refine wp_topR (x' := 130) rfl ?_
  refine wp_iload dX12_stringAt_57 rfl ?_
  have c0 := h.1
  replace h := h.2
  refine wp_iald dX12_stringAt_59 rfl (by decide) c0 ?_
  refine wp_iconst dX12_stringAt_60 (by decide) ?_
  refine wp_icmp_ne (tgt := 97) dX12_stringAt_61 (by decide) (fun h61 => ?_) (fun h61 => ?_)
  · replace h := h.2 h61
    refine wp_iconst dX12_stringAt_97 (by decide) ?_
    exact h
  · replace h := h.1 h61
    refine wp_aload_n dX12_stringAt_64 rfl rfl (by first | exact Or.inl (by decide) | exact Or.inl (by omega) | exact Or.inr (by decide) | exact Or.inr (by omega)) ?_
    refine wp_getR dX12_stringAt_65 fX12_31 rfl (by decide) ?_
    refine wp_topR (x' := 130) rfl ?_
    refine wp_sipush dX12_stringAt_68 (by decide +kernel) (by decide) ?_
    refine wp_aload_n dX12_stringAt_71 rfl rfl (by first | exact Or.inl (by decide) | exact Or.inl (by omega) | exact Or.inr (by decide) | exact Or.inr (by omega)) ?_
    refine wp_getI dX12_stringAt_72 fX12_482 rfl (by decide) ?_
    have c1 := h.1
    replace h := h.2
    refine wp_imulr dX12_stringAt_75 c1 ?_
    refine wp_iload_n dX12_stringAt_76 rfl rfl ?_
    refine wp_pc (pc' := 77) rfl ?_
    have c2 := h.1
    replace h := h.2
    refine wp_iaddr dX12_stringAt_77 c2 ?_
    have c3 := h.1
    replace h := h.2
    refine wp_iald dX12_stringAt_78 rfl (by decide) c3 ?_
    refine wp_iconst dX12_stringAt_79 (by decide) ?_
    refine wp_icmp_ge (tgt := 97) dX12_stringAt_80 (by decide) (fun h80 => ?_) (fun h80 => ?_)
    · replace h := h.2 h80
      refine wp_iconst dX12_stringAt_97 (by decide) ?_
      exact h
    · replace h := h.1 h80
      refine wp_aload_n dX12_stringAt_83 rfl rfl (by first | exact Or.inl (by decide) | exact Or.inl (by omega) | exact Or.inr (by decide) | exact Or.inr (by omega)) ?_
      refine wp_iload dX12_stringAt_84 rfl ?_
      refine wp_iload_n dX12_stringAt_86 rfl rfl ?_
      refine wp_cVq (n := 2) (mt' := mX12_isWithin) (as := [vI l4, vI l1]) (rest := []) _ dX12_stringAt_87 lX12_603 kX12_isWithin vX12_isWithin (by decide) (by decide +kernel) rfl (Nat.le_of_ble_eq_true rfl) (by decide) rfl rfl rfl (Nat.le_of_ble_eq_true rfl) (fun hM hS => h) (fun r M' hq hM => ?_)
      obtain ⟨x87, m87, n87, rfl, rfl, h⟩ := rI_out hq
      refine wp_if_eq (tgt := 97) dX12_stringAt_90 (by decide) (fun h90 => ?_) (fun h90 => ?_)
      · replace h := h.1 h90
        refine wp_iconst dX12_stringAt_97 (by decide) ?_
        exact h
      · replace h := h.2 h90
        refine wp_iconst dX12_stringAt_93 (by decide) ?_
        refine wp_goto (tgt := 98) dX12_stringAt_94 (by decide) ?_
        exact h
theorem v_X12_stringAt_98 {cs : Cs} {Q : Option AV → Mm → Prop} {MI ML : Nat → Nat → Int} {d e nw th x : Nat} {l1 l2 l3 l4 l5 s0 : Int}
    (h : ((s0 = 0 → wp cs mX12_stringAt KD Q 135 [some (vR 124), some (vI l1), some (vI l2), some (vI l3), some (vI l4), some (vI l5), some (vI s0)] [] (KD, MI, ML, (GR d e nw th x))) ∧ (s0 ≠ 0 → (0 ≤ l5 ∧ l5 < 1200) ∧ ((l3 < (MI 135 l5.toNat) → (-2147483648 ≤ (MI 134 l5.toNat) + l3 ∧ (MI 134 l5.toNat) + l3 < 2147483648) ∧ (0 ≤ ((MI 134 l5.toNat) + l3) ∧ ((MI 134 l5.toNat) + l3) < 4000) ∧ Q (some (vI (i_and (MI 138 ((MI 134 l5.toNat) + l3).toNat) 255))) (MI, ML, (GR d e nw th x))) ∧ ((MI 135 l5.toNat) ≤ l3 → wp cs mX12_stringAt KD Q 135 [some (vR 124), some (vI l1), some (vI l2), some (vI l3), some (vI l4), some (vI l5), some (vI s0)] [] (KD, MI, ML, (GR d e nw th x))))))) :
    wp cs mX12_stringAt KD Q 98 [some (vR 124), some (vI l1), some (vI l2), some (vI l3), some (vI l4), some (vI l5), none] [vI s0] (KD, MI, ML, (GR d e nw th x)) := by
  refine wp_istore dX12_stringAt_98 (by decide) (wp_L (L' := [some (vR 124), some (vI l1), some (vI l2), some (vI l3), some (vI l4), some (vI l5), some (vI s0)]) rfl ?_)
  refine wp_iload dX12_stringAt_100 rfl ?_
  refine wp_if_eq (tgt := 135) dX12_stringAt_102 (by decide) (fun h102 => ?_) (fun h102 => ?_)
  · replace h := h.1 h102
    exact h
  · replace h := h.2 h102
    refine wp_iload_n dX12_stringAt_105 rfl rfl ?_
    refine wp_aload_n dX12_stringAt_106 rfl rfl (by first | exact Or.inl (by decide) | exact Or.inl (by omega) | exact Or.inr (by decide) | exact Or.inr (by omega)) ?_
    refine wp_getR dX12_stringAt_107 fX12_46 rfl (by decide) ?_
    refine wp_topR (x' := 135) rfl ?_
    refine wp_iload dX12_stringAt_110 rfl ?_
    have c0 := h.1
    replace h := h.2
    refine wp_iald dX12_stringAt_112 rfl (by decide) c0 ?_
    refine wp_icmp_ge (tgt := 135) dX12_stringAt_113 (by decide) (fun h113 => ?_) (fun h113 => ?_)
    · replace h := h.2 h113
      exact h
    · replace h := h.1 h113
      refine wp_aload_n dX12_stringAt_116 rfl rfl (by first | exact Or.inl (by decide) | exact Or.inl (by omega) | exact Or.inr (by decide) | exact Or.inr (by omega)) ?_
      refine wp_getR dX12_stringAt_117 fX12_55 rfl (by decide) ?_
      refine wp_topR (x' := 138) rfl ?_
      refine wp_aload_n dX12_stringAt_120 rfl rfl (by first | exact Or.inl (by decide) | exact Or.inl (by omega) | exact Or.inr (by decide) | exact Or.inr (by omega)) ?_
      refine wp_getR dX12_stringAt_121 fX12_43 rfl (by decide) ?_
      refine wp_topR (x' := 134) rfl ?_
      refine wp_iload dX12_stringAt_124 rfl ?_
      refine wp_iald dX12_stringAt_126 rfl (by decide) c0 ?_
      refine wp_iload_n dX12_stringAt_127 rfl rfl ?_
      refine wp_pc (pc' := 128) rfl ?_
      have c1 := h.1
      replace h := h.2
      refine wp_iaddr dX12_stringAt_128 c1 ?_
      have c2 := h.1
      replace h := h.2
      refine wp_bald dX12_stringAt_129 rfl (by decide) c2 ?_
      refine wp_sipush dX12_stringAt_130 (by decide +kernel) (by decide) ?_
      refine wp_iand dX12_stringAt_133 ?_
      exact wp_iret dX12_stringAt_134 rfl (fun _ => h)
theorem v_X12_stringAt_135 {cs : Cs} {Q : Option AV → Mm → Prop} {MI ML : Nat → Nat → Int} {d e nw th x : Nat} {l1 l2 l3 l4 l5 l6 : Int}
    (h : ((l6 = 0 → (-2147483648 ≤ l4 + 1 ∧ l4 + 1 < 2147483648) ∧ wp cs mX12_stringAt KD Q 5 [some (vR 124), some (vI l1), some (vI l2), some (vI l3), some (vI (l4 + 1)), none, none] [] (KD, MI, ML, (GR d e nw th x))) ∧ (l6 ≠ 0 → (0 ≤ l5 ∧ l5 < 1200) ∧ (-2147483648 ≤ l3 - (MI 135 l5.toNat) ∧ l3 - (MI 135 l5.toNat) < 2147483648) ∧ (-2147483648 ≤ l4 + 1 ∧ l4 + 1 < 2147483648) ∧ wp cs mX12_stringAt KD Q 5 [some (vR 124), some (vI l1), some (vI l2), some (vI (l3 - (MI 135 l5.toNat))), some (vI (l4 + 1)), none, none] [] (KD, MI, ML, (GR d e nw th x))))) :
    wp cs mX12_stringAt KD Q 135 [some (vR 124), some (vI l1), some (vI l2), some (vI l3), some (vI l4), some (vI l5), some (vI l6)] [] (KD, MI, ML, (GR d e nw th x)) := by
  refine wp_iload_n dX12_stringAt_135 rfl rfl ?_
  refine wp_iload dX12_stringAt_136 rfl ?_
  refine wp_if_eq (tgt := 151) dX12_stringAt_138 (by decide) (fun h138 => ?_) (fun h138 => ?_)
  · replace h := h.1 h138
    refine wp_iconst dX12_stringAt_151 (by decide) ?_
    refine wp_ok (fun hM hL hS => ?_)
    have hr := hS _ (List.mem_cons_of_mem _ List.mem_cons_self)
    refine wp_isubr dX12_stringAt_152 (by have := hr; simp only [okV] at this; omega) ?_
    refine wp_topI (x' := l3) (by omega) ?_
    refine wp_istore_n dX12_stringAt_153 rfl (by decide) (wp_L (L' := [some (vR 124), some (vI l1), some (vI l2), some (vI l3), some (vI l4), some (vI l5), some (vI l6)]) rfl ?_)
    have c0 := h.1
    replace h := h.2
    refine wp_iincr dX12_stringAt_154 rfl (by decide) c0 (wp_L (L' := [some (vR 124), some (vI l1), some (vI l2), some (vI l3), some (vI (l4 + 1)), some (vI l5), some (vI l6)]) rfl ?_)
    refine wp_goto (tgt := 5) dX12_stringAt_157 (by decide) ?_
    refine wp_forget (L' := [some (vR 124), some (vI l1), some (vI l2), some (vI l3), some (vI (l4 + 1)), none, none]) (by repeat' (first | exact trivial | refine ⟨rfl, ?_⟩)) ?_
    exact h
  · replace h := h.2 h138
    refine wp_aload_n dX12_stringAt_141 rfl rfl (by first | exact Or.inl (by decide) | exact Or.inl (by omega) | exact Or.inr (by decide) | exact Or.inr (by omega)) ?_
    refine wp_getR dX12_stringAt_142 fX12_46 rfl (by decide) ?_
    refine wp_topR (x' := 135) rfl ?_
    refine wp_iload dX12_stringAt_145 rfl ?_
    have c0 := h.1
    replace h := h.2
    refine wp_iald dX12_stringAt_147 rfl (by decide) c0 ?_
    refine wp_goto (tgt := 152) dX12_stringAt_148 (by decide) ?_
    have c1 := h.1
    replace h := h.2
    refine wp_isubr dX12_stringAt_152 c1 ?_
    refine wp_istore_n dX12_stringAt_153 rfl (by decide) (wp_L (L' := [some (vR 124), some (vI l1), some (vI l2), some (vI (l3 - (MI 135 l5.toNat))), some (vI l4), some (vI l5), some (vI l6)]) rfl ?_)
    refine wp_pc (pc' := 154) rfl ?_
    have c2 := h.1
    replace h := h.2
    refine wp_iincr dX12_stringAt_154 rfl (by decide) c2 (wp_L (L' := [some (vR 124), some (vI l1), some (vI l2), some (vI (l3 - (MI 135 l5.toNat))), some (vI (l4 + 1)), some (vI l5), some (vI l6)]) rfl ?_)
    refine wp_goto (tgt := 5) dX12_stringAt_157 (by decide) ?_
    refine wp_forget (L' := [some (vR 124), some (vI l1), some (vI l2), some (vI (l3 - (MI 135 l5.toNat))), some (vI (l4 + 1)), none, none]) (by repeat' (first | exact trivial | refine ⟨rfl, ?_⟩)) ?_
    exact h
theorem dX12_string_0 : decode cX12_string 0 = .ok (.aload_n 0, 1) := by decide +kernel
theorem dX12_string_1 : decode cX12_string 1 = .ok (.iload_n 1, 1) := by decide +kernel
theorem dX12_string_2 : decode cX12_string 2 = .ok (.invokevirtual 664, 3) := by decide +kernel
theorem dX12_string_5 : decode cX12_string 5 = .ok (.ifCond .eq 12, 3) := by decide +kernel
theorem dX12_string_8 : decode cX12_string 8 = .ok (.aload_n 0, 1) := by decide +kernel
theorem dX12_string_9 : decode cX12_string 9 = .ok (.iload_n 1, 1) := by decide +kernel
theorem dX12_string_10 : decode cX12_string 10 = .ok (.iload_n 2, 1) := by decide +kernel
theorem dX12_string_11 : decode cX12_string 11 = .ok (.invokevirtual 594, 3) := by decide +kernel
theorem dX12_string_14 : decode cX12_string 14 = .ok (.goto 4, 3) := by decide +kernel
theorem dX12_string_17 : decode cX12_string 17 = .ok (.iconst (-1), 1) := by decide +kernel
theorem dX12_string_18 : decode cX12_string 18 = .ok (.ireturn, 1) := by decide +kernel
theorem v_X12_string_0 {cs : Cs} {Q : Option AV → Mm → Prop} {MI ML : Nat → Nat → Int} {d e nw th x : Nat} {l1 l2 : Int}
    (h : wp cs mX12_isNode KD (rI (GR d e nw th x) fun x2 m2 n2 => ((x2 = 0 → Q (some (vI (-1))) (m2, n2, (GR d e nw th x))) ∧ (x2 ≠ 0 → wp cs mX12_stringAt KD (rI (GR d e nw th x) fun x11 m11 n11 => Q (some (vI x11)) (m11, n11, (GR d e nw th x))) 0 (padL [vR 124, vI l1, vI l2] 7) [] (KD, m2, n2, (GR d e nw th x))))) 0 (padL [vR 124, vI l1] 2) [] (KD, MI, ML, (GR d e nw th x))) :
    wp cs mX12_string KD Q 0 (padL [vR 124, vI l1, vI l2] 3) [] (KD, MI, ML, (GR d e nw th x)) := by
  refine wp_L (L' := [some (vR 124), some (vI l1), some (vI l2)]) rfl ?_
  refine wp_aload_n dX12_string_0 rfl rfl (by first | exact Or.inl (by decide) | exact Or.inl (by omega) | exact Or.inr (by decide) | exact Or.inr (by omega)) ?_
  refine wp_iload_n dX12_string_1 rfl rfl ?_
  refine wp_cVq (n := 1) (mt' := mX12_isNode) (as := [vI l1]) (rest := []) _ dX12_string_2 lX12_664 kX12_isNode vX12_isNode (by decide) (by decide +kernel) rfl (Nat.le_of_ble_eq_true rfl) (by decide) rfl rfl rfl (Nat.le_of_ble_eq_true rfl) (fun hM hS => h) (fun r M' hq hM => ?_)
  obtain ⟨x2, m2, n2, rfl, rfl, h⟩ := rI_out hq
  refine wp_if_eq (tgt := 17) dX12_string_5 (by decide) (fun h5 => ?_) (fun h5 => ?_)
  · replace h := h.1 h5
    refine wp_iconst dX12_string_17 (by decide) ?_
    exact wp_iret dX12_string_18 rfl (fun _ => h)
  · replace h := h.2 h5
    refine wp_aload_n dX12_string_8 rfl rfl (by first | exact Or.inl (by decide) | exact Or.inl (by omega) | exact Or.inr (by decide) | exact Or.inr (by omega)) ?_
    refine wp_iload_n dX12_string_9 rfl rfl ?_
    refine wp_iload_n dX12_string_10 rfl rfl ?_
    refine wp_cVq (n := 2) (mt' := mX12_stringAt) (as := [vI l1, vI l2]) (rest := []) _ dX12_string_11 lX12_594 kX12_stringAt vX12_stringAt (by decide) (by decide +kernel) rfl (Nat.le_of_ble_eq_true rfl) (by decide) rfl rfl rfl (Nat.le_of_ble_eq_true rfl) (fun hM hS => h) (fun r M' hq hM => ?_)
    obtain ⟨x11, m11, n11, rfl, rfl, h⟩ := rI_out hq
    refine wp_goto (tgt := 18) dX12_string_14 (by decide) ?_
    exact wp_iret dX12_string_18 rfl (fun _ => h)
theorem dX11_findings_0 : decode cX11_findings 0 = .ok (.aload_n 0, 1) := by decide +kernel
theorem dX11_findings_1 : decode cX11_findings 1 = .ok (.getfield 67, 3) := by decide +kernel
theorem dX11_findings_4 : decode cX11_findings 4 = .ok (.getfield 144, 3) := by decide +kernel
theorem dX11_findings_7 : decode cX11_findings 7 = .ok (.iconst (-1), 1) := by decide +kernel
theorem dX11_findings_8 : decode cX11_findings 8 = .ok (.if_icmp .ne 7, 3) := by decide +kernel
theorem dX11_findings_11 : decode cX11_findings 11 = .ok (.iconst (-1), 1) := by decide +kernel
theorem dX11_findings_12 : decode cX11_findings 12 = .ok (.goto 10, 3) := by decide +kernel
theorem dX11_findings_15 : decode cX11_findings 15 = .ok (.aload_n 0, 1) := by decide +kernel
theorem dX11_findings_16 : decode cX11_findings 16 = .ok (.getfield 39, 3) := by decide +kernel
theorem dX11_findings_19 : decode cX11_findings 19 = .ok (.getfield 147, 3) := by decide +kernel
theorem dX11_findings_22 : decode cX11_findings 22 = .ok (.ireturn, 1) := by decide +kernel
theorem v_X11_findings_0 {cs : Cs} {Q : Option AV → Mm → Prop} {MI ML : Nat → Nat → Int} {b e nw th x : Nat} (hbd : b = 38 ∨ b = 81)
    (h : (((MI b 17) = (-1) → Q (some (vI (-1))) (MI, ML, (GR b e nw th x))) ∧ ((MI b 17) ≠ (-1) → Q (some (vI (MI 11 3))) (MI, ML, (GR b e nw th x))))) :
    wp cs mX11_findings KD Q 0 (padL [vR 0] 1) [] (KD, MI, ML, (GR b e nw th x)) := by
  refine wp_L (L' := [some (vR 0)]) rfl ?_
  refine wp_aload_n dX11_findings_0 rfl rfl (by first | exact Or.inl (by decide) | exact Or.inl (by omega) | exact Or.inr (by decide) | exact Or.inr (by omega)) ?_
  refine wp_getR dX11_findings_1 fX11_67 rfl (by decide) ?_
  refine wp_topR (x' := b) rfl ?_
  refine wp_getI dX11_findings_4 fX11_144 (show KD[b]? = some (7, 19) from kdb_0 hbd) (by omega) ?_
  refine wp_iconst dX11_findings_7 (by decide) ?_
  refine wp_icmp_ne (tgt := 15) dX11_findings_8 (by decide) (fun h8 => ?_) (fun h8 => ?_)
  · replace h := h.2 h8
    refine wp_aload_n dX11_findings_15 rfl rfl (by first | exact Or.inl (by decide) | exact Or.inl (by omega) | exact Or.inr (by decide) | exact Or.inr (by omega)) ?_
    refine wp_getR dX11_findings_16 fX11_39 rfl (by decide) ?_
    refine wp_topR (x' := 11) rfl ?_
    refine wp_getI dX11_findings_19 fX11_147 rfl (by decide) ?_
    exact wp_iret dX11_findings_22 rfl (fun _ => h)
  · replace h := h.1 h8
    refine wp_iconst dX11_findings_11 (by decide) ?_
    refine wp_goto (tgt := 22) dX11_findings_12 (by decide) ?_
    exact wp_iret dX11_findings_22 rfl (fun _ => h)
theorem dX12_findings_0 : decode cX12_findings 0 = .ok (.aload_n 0, 1) := by decide +kernel
theorem dX12_findings_1 : decode cX12_findings 1 = .ok (.getfield 498, 3) := by decide +kernel
theorem dX12_findings_4 : decode cX12_findings 4 = .ok (.ifCond .eq 22, 3) := by decide +kernel
theorem dX12_findings_7 : decode cX12_findings 7 = .ok (.aload_n 0, 1) := by decide +kernel
theorem dX12_findings_8 : decode cX12_findings 8 = .ok (.getfield 20, 3) := by decide +kernel
theorem dX12_findings_11 : decode cX12_findings 11 = .ok (.aload_n 0, 1) := by decide +kernel
theorem dX12_findings_12 : decode cX12_findings 12 = .ok (.getfield 482, 3) := by decide +kernel
theorem dX12_findings_15 : decode cX12_findings 15 = .ok (.baload, 1) := by decide +kernel
theorem dX12_findings_16 : decode cX12_findings 16 = .ok (.ifCond .eq 10, 3) := by decide +kernel
theorem dX12_findings_19 : decode cX12_findings 19 = .ok (.aload_n 0, 1) := by decide +kernel
theorem dX12_findings_20 : decode cX12_findings 20 = .ok (.getfield 510, 3) := by decide +kernel
theorem dX12_findings_23 : decode cX12_findings 23 = .ok (.goto 4, 3) := by decide +kernel
theorem dX12_findings_26 : decode cX12_findings 26 = .ok (.iconst (-1), 1) := by decide +kernel
theorem dX12_findings_27 : decode cX12_findings 27 = .ok (.ireturn, 1) := by decide +kernel
theorem v_X12_findings_0 {cs : Cs} {Q : Option AV → Mm → Prop} {MI ML : Nat → Nat → Int} {d e nw th x : Nat}
    (h : (((MI 124 9) = 0 → Q (some (vI (-1))) (MI, ML, (GR d e nw th x))) ∧ ((MI 124 9) ≠ 0 → (0 ≤ (MI 124 7) ∧ (MI 124 7) < 2) ∧ (((MI 127 (MI 124 7).toNat) = 0 → Q (some (vI (-1))) (MI, ML, (GR d e nw th x))) ∧ ((MI 127 (MI 124 7).toNat) ≠ 0 → Q (some (vI (MI 124 65))) (MI, ML, (GR d e nw th x))))))) :
    wp cs mX12_findings KD Q 0 (padL [vR 124] 1) [] (KD, MI, ML, (GR d e nw th x)) := by
  refine wp_L (L' := [some (vR 124)]) rfl ?_
  refine wp_aload_n dX12_findings_0 rfl rfl (by first | exact Or.inl (by decide) | exact Or.inl (by omega) | exact Or.inr (by decide) | exact Or.inr (by omega)) ?_
  refine wp_getI dX12_findings_1 fX12_498 rfl (by decide) ?_
  refine wp_if_eq (tgt := 26) dX12_findings_4 (by decide) (fun h4 => ?_) (fun h4 => ?_)
  · replace h := h.1 h4
    refine wp_iconst dX12_findings_26 (by decide) ?_
    exact wp_iret dX12_findings_27 rfl (fun _ => h)
  · replace h := h.2 h4
    refine wp_aload_n dX12_findings_7 rfl rfl (by first | exact Or.inl (by decide) | exact Or.inl (by omega) | exact Or.inr (by decide) | exact Or.inr (by omega)) ?_
    refine wp_getR dX12_findings_8 fX12_20 rfl (by decide) ?_
    refine wp_topR (x' := 127) rfl ?_
    refine wp_aload_n dX12_findings_11 rfl rfl (by first | exact Or.inl (by decide) | exact Or.inl (by omega) | exact Or.inr (by decide) | exact Or.inr (by omega)) ?_
    refine wp_getI dX12_findings_12 fX12_482 rfl (by decide) ?_
    have c0 := h.1
    replace h := h.2
    refine wp_zald dX12_findings_15 rfl (by decide) c0 ?_
    refine wp_if_eq (tgt := 26) dX12_findings_16 (by decide) (fun h16 => ?_) (fun h16 => ?_)
    · replace h := h.1 h16
      refine wp_iconst dX12_findings_26 (by decide) ?_
      exact wp_iret dX12_findings_27 rfl (fun _ => h)
    · replace h := h.2 h16
      refine wp_aload_n dX12_findings_19 rfl rfl (by first | exact Or.inl (by decide) | exact Or.inl (by omega) | exact Or.inr (by decide) | exact Or.inr (by omega)) ?_
      refine wp_getI dX12_findings_20 fX12_510 rfl (by decide) ?_
      refine wp_goto (tgt := 27) dX12_findings_23 (by decide) ?_
      exact wp_iret dX12_findings_27 rfl (fun _ => h)
theorem dX4_numberOf_0 : decode cX4_numberOf 0 = .ok (.aload_n 0, 1) := by decide +kernel
theorem dX4_numberOf_1 : decode cX4_numberOf 1 = .ok (.getfield 11, 3) := by decide +kernel
theorem dX4_numberOf_4 : decode cX4_numberOf 4 = .ok (.iload_n 1, 1) := by decide +kernel
theorem dX4_numberOf_5 : decode cX4_numberOf 5 = .ok (.iaload, 1) := by decide +kernel
theorem dX4_numberOf_6 : decode cX4_numberOf 6 = .ok (.sipush 1024, 3) := by decide +kernel
theorem dX4_numberOf_9 : decode cX4_numberOf 9 = .ok (.idiv, 1) := by decide +kernel
theorem dX4_numberOf_10 : decode cX4_numberOf 10 = .ok (.ireturn, 1) := by decide +kernel
theorem v_X4_numberOf_0 {cs : Cs} {Q : Option AV → Mm → Prop} {MI ML : Nat → Nat → Int} {d e nw th x : Nat} {l1 : Int}
    (h : (0 ≤ l1 ∧ l1 < 8200) ∧ Q (some (vI (i_div (MI 12 l1.toNat) 1024))) (MI, ML, (GR d e nw th x))) :
    wp cs mX4_numberOf KD Q 0 (padL [vR 11, vI l1] 2) [] (KD, MI, ML, (GR d e nw th x)) := by
  refine wp_L (L' := [some (vR 11), some (vI l1)]) rfl ?_
  refine wp_aload_n dX4_numberOf_0 rfl rfl (by first | exact Or.inl (by decide) | exact Or.inl (by omega) | exact Or.inr (by decide) | exact Or.inr (by omega)) ?_
  refine wp_getR dX4_numberOf_1 fX4_11 rfl (by decide) ?_
  refine wp_topR (x' := 12) rfl ?_
  refine wp_iload_n dX4_numberOf_4 rfl rfl ?_
  have c0 := h.1
  replace h := h.2
  refine wp_iald dX4_numberOf_5 rfl (by decide) c0 ?_
  refine wp_sipush dX4_numberOf_6 (by decide +kernel) (by decide) ?_
  refine wp_idiv dX4_numberOf_9 (by decide) ?_
  exact wp_iret dX4_numberOf_10 rfl (fun _ => h)
theorem dX4_subjectOf_0 : decode cX4_subjectOf 0 = .ok (.aload_n 0, 1) := by decide +kernel
theorem dX4_subjectOf_1 : decode cX4_subjectOf 1 = .ok (.getfield 11, 3) := by decide +kernel
theorem dX4_subjectOf_4 : decode cX4_subjectOf 4 = .ok (.iload_n 1, 1) := by decide +kernel
theorem dX4_subjectOf_5 : decode cX4_subjectOf 5 = .ok (.iaload, 1) := by decide +kernel
theorem dX4_subjectOf_6 : decode cX4_subjectOf 6 = .ok (.sipush 1024, 3) := by decide +kernel
theorem dX4_subjectOf_9 : decode cX4_subjectOf 9 = .ok (.irem, 1) := by decide +kernel
theorem dX4_subjectOf_10 : decode cX4_subjectOf 10 = .ok (.ireturn, 1) := by decide +kernel
theorem v_X4_subjectOf_0 {cs : Cs} {Q : Option AV → Mm → Prop} {MI ML : Nat → Nat → Int} {d e nw th x : Nat} {l1 : Int}
    (h : (0 ≤ l1 ∧ l1 < 8200) ∧ Q (some (vI (i_rem (MI 12 l1.toNat) 1024))) (MI, ML, (GR d e nw th x))) :
    wp cs mX4_subjectOf KD Q 0 (padL [vR 11, vI l1] 2) [] (KD, MI, ML, (GR d e nw th x)) := by
  refine wp_L (L' := [some (vR 11), some (vI l1)]) rfl ?_
  refine wp_aload_n dX4_subjectOf_0 rfl rfl (by first | exact Or.inl (by decide) | exact Or.inl (by omega) | exact Or.inr (by decide) | exact Or.inr (by omega)) ?_
  refine wp_getR dX4_subjectOf_1 fX4_11 rfl (by decide) ?_
  refine wp_topR (x' := 12) rfl ?_
  refine wp_iload_n dX4_subjectOf_4 rfl rfl ?_
  have c0 := h.1
  replace h := h.2
  refine wp_iald dX4_subjectOf_5 rfl (by decide) c0 ?_
  refine wp_sipush dX4_subjectOf_6 (by decide +kernel) (by decide) ?_
  refine wp_irem dX4_subjectOf_9 (by decide) ?_
  exact wp_iret dX4_subjectOf_10 rfl (fun _ => h)
theorem dX11_finding_0 : decode cX11_finding 0 = .ok (.iload_n 1, 1) := by decide +kernel
theorem dX11_finding_1 : decode cX11_finding 1 = .ok (.ifCond .lt 14, 3) := by decide +kernel
theorem dX11_finding_4 : decode cX11_finding 4 = .ok (.iload_n 1, 1) := by decide +kernel
theorem dX11_finding_5 : decode cX11_finding 5 = .ok (.aload_n 0, 1) := by decide +kernel
theorem dX11_finding_6 : decode cX11_finding 6 = .ok (.getfield 39, 3) := by decide +kernel
theorem dX11_finding_9 : decode cX11_finding 9 = .ok (.getfield 147, 3) := by decide +kernel
theorem dX11_finding_12 : decode cX11_finding 12 = .ok (.if_icmp .lt 6, 3) := by decide +kernel
theorem dX11_finding_15 : decode cX11_finding 15 = .ok (.bipush (-9), 2) := by decide +kernel
theorem dX11_finding_17 : decode cX11_finding 17 = .ok (.ireturn, 1) := by decide +kernel
theorem dX11_finding_18 : decode cX11_finding 18 = .ok (.iload_n 2, 1) := by decide +kernel
theorem dX11_finding_19 : decode cX11_finding 19 = .ok (.ifCond .ne 12, 3) := by decide +kernel
theorem dX11_finding_22 : decode cX11_finding 22 = .ok (.aload_n 0, 1) := by decide +kernel
theorem dX11_finding_23 : decode cX11_finding 23 = .ok (.getfield 39, 3) := by decide +kernel
theorem dX11_finding_26 : decode cX11_finding 26 = .ok (.iload_n 1, 1) := by decide +kernel
theorem dX11_finding_27 : decode cX11_finding 27 = .ok (.invokevirtual 148, 3) := by decide +kernel
theorem dX11_finding_30 : decode cX11_finding 30 = .ok (.ireturn, 1) := by decide +kernel
theorem dX11_finding_31 : decode cX11_finding 31 = .ok (.iload_n 2, 1) := by decide +kernel
theorem dX11_finding_32 : decode cX11_finding 32 = .ok (.iconst 1, 1) := by decide +kernel
theorem dX11_finding_33 : decode cX11_finding 33 = .ok (.if_icmp .ne 14, 3) := by decide +kernel
theorem dX11_finding_36 : decode cX11_finding 36 = .ok (.aload_n 0, 1) := by decide +kernel
theorem dX11_finding_37 : decode cX11_finding 37 = .ok (.getfield 39, 3) := by decide +kernel
theorem dX11_finding_40 : decode cX11_finding 40 = .ok (.iload_n 1, 1) := by decide +kernel
theorem dX11_finding_41 : decode cX11_finding 41 = .ok (.invokevirtual 152, 3) := by decide +kernel
theorem dX11_finding_44 : decode cX11_finding 44 = .ok (.goto 5, 3) := by decide +kernel
theorem dX11_finding_47 : decode cX11_finding 47 = .ok (.bipush (-9), 2) := by decide +kernel
theorem dX11_finding_49 : decode cX11_finding 49 = .ok (.ireturn, 1) := by decide +kernel
theorem v_X11_finding_0 {cs : Cs} {Q : Option AV → Mm → Prop} {MI ML : Nat → Nat → Int} {b e nw th x : Nat} {l1 l2 : Int} (hbd : b = 38 ∨ b = 81)
    (h : ((l1 < 0 → Q (some (vI (-9))) (MI, ML, (GR b e nw th x))) ∧ (0 ≤ l1 → ((l1 < (MI 11 3) → ((l2 = 0 → wp cs mX4_numberOf KD (rI (GR b e nw th x) fun x27 m27 n27 => Q (some (vI x27)) (m27, n27, (GR b e nw th x))) 0 (padL [vR 11, vI l1] 2) [] (KD, MI, ML, (GR b e nw th x))) ∧ (l2 ≠ 0 → ((l2 = 1 → wp cs mX4_subjectOf KD (rI (GR b e nw th x) fun x41 m41 n41 => Q (some (vI x41)) (m41, n41, (GR b e nw th x))) 0 (padL [vR 11, vI l1] 2) [] (KD, MI, ML, (GR b e nw th x))) ∧ (l2 ≠ 1 → Q (some (vI (-9))) (MI, ML, (GR b e nw th x))))))) ∧ ((MI 11 3) ≤ l1 → Q (some (vI (-9))) (MI, ML, (GR b e nw th x))))))) :
    wp cs mX11_finding KD Q 0 (padL [vR 0, vI l1, vI l2] 3) [] (KD, MI, ML, (GR b e nw th x)) := by
  refine wp_L (L' := [some (vR 0), some (vI l1), some (vI l2)]) rfl ?_
  refine wp_iload_n dX11_finding_0 rfl rfl ?_
  refine wp_if_lt (tgt := 15) dX11_finding_1 (by decide) (fun h1 => ?_) (fun h1 => ?_)
  · replace h := h.1 h1
    refine wp_bipush dX11_finding_15 (by decide +kernel) (by decide) ?_
    exact wp_iret dX11_finding_17 rfl (fun _ => h)
  · replace h := h.2 h1
    refine wp_iload_n dX11_finding_4 rfl rfl ?_
    refine wp_aload_n dX11_finding_5 rfl rfl (by first | exact Or.inl (by decide) | exact Or.inl (by omega) | exact Or.inr (by decide) | exact Or.inr (by omega)) ?_
    refine wp_getR dX11_finding_6 fX11_39 rfl (by decide) ?_
    refine wp_topR (x' := 11) rfl ?_
    refine wp_getI dX11_finding_9 fX11_147 rfl (by decide) ?_
    refine wp_icmp_lt (tgt := 18) dX11_finding_12 (by decide) (fun h12 => ?_) (fun h12 => ?_)
    · replace h := h.1 h12
      refine wp_iload_n dX11_finding_18 rfl rfl ?_
      refine wp_if_ne (tgt := 31) dX11_finding_19 (by decide) (fun h19 => ?_) (fun h19 => ?_)
      · replace h := h.2 h19
        refine wp_iload_n dX11_finding_31 rfl rfl ?_
        refine wp_iconst dX11_finding_32 (by decide) ?_
        refine wp_icmp_ne (tgt := 47) dX11_finding_33 (by decide) (fun h33 => ?_) (fun h33 => ?_)
        · replace h := h.2 h33
          refine wp_bipush dX11_finding_47 (by decide +kernel) (by decide) ?_
          exact wp_iret dX11_finding_49 rfl (fun _ => h)
        · replace h := h.1 h33
          refine wp_aload_n dX11_finding_36 rfl rfl (by first | exact Or.inl (by decide) | exact Or.inl (by omega) | exact Or.inr (by decide) | exact Or.inr (by omega)) ?_
          refine wp_getR dX11_finding_37 fX11_39 rfl (by decide) ?_
          refine wp_topR (x' := 11) rfl ?_
          refine wp_iload_n dX11_finding_40 rfl rfl ?_
          refine wp_cVq (n := 1) (mt' := mX4_subjectOf) (as := [vI l1]) (rest := []) _ dX11_finding_41 lX11_152 kX4_subjectOf vX4_subjectOf (by decide) (by decide +kernel) rfl (Nat.le_of_ble_eq_true rfl) (by decide) rfl rfl rfl (Nat.le_of_ble_eq_true rfl) (fun hM hS => h) (fun r M' hq hM => ?_)
          obtain ⟨x41, m41, n41, rfl, rfl, h⟩ := rI_out hq
          refine wp_goto (tgt := 49) dX11_finding_44 (by decide) ?_
          exact wp_iret dX11_finding_49 rfl (fun _ => h)
      · replace h := h.1 h19
        refine wp_aload_n dX11_finding_22 rfl rfl (by first | exact Or.inl (by decide) | exact Or.inl (by omega) | exact Or.inr (by decide) | exact Or.inr (by omega)) ?_
        refine wp_getR dX11_finding_23 fX11_39 rfl (by decide) ?_
        refine wp_topR (x' := 11) rfl ?_
        refine wp_iload_n dX11_finding_26 rfl rfl ?_
        refine wp_cVq (n := 1) (mt' := mX4_numberOf) (as := [vI l1]) (rest := []) _ dX11_finding_27 lX11_148 kX4_numberOf vX4_numberOf (by decide) (by decide +kernel) rfl (Nat.le_of_ble_eq_true rfl) (by decide) rfl rfl rfl (Nat.le_of_ble_eq_true rfl) (fun hM hS => h) (fun r M' hq hM => ?_)
        obtain ⟨x27, m27, n27, rfl, rfl, h⟩ := rI_out hq
        exact wp_iret dX11_finding_30 rfl (fun _ => h)
    · replace h := h.2 h12
      refine wp_bipush dX11_finding_15 (by decide +kernel) (by decide) ?_
      exact wp_iret dX11_finding_17 rfl (fun _ => h)
theorem dX12_finding_0 : decode cX12_finding 0 = .ok (.aload_n 0, 1) := by decide +kernel
theorem dX12_finding_1 : decode cX12_finding 1 = .ok (.invokevirtual 667, 3) := by decide +kernel
theorem dX12_finding_4 : decode cX12_finding 4 = .ok (.iload_n 1, 1) := by decide +kernel
theorem dX12_finding_5 : decode cX12_finding 5 = .ok (.if_icmp .le 7, 3) := by decide +kernel
theorem dX12_finding_8 : decode cX12_finding 8 = .ok (.iload_n 1, 1) := by decide +kernel
theorem dX12_finding_9 : decode cX12_finding 9 = .ok (.ifCond .ge 6, 3) := by decide +kernel
theorem dX12_finding_12 : decode cX12_finding 12 = .ok (.bipush (-9), 2) := by decide +kernel
theorem dX12_finding_14 : decode cX12_finding 14 = .ok (.ireturn, 1) := by decide +kernel
theorem dX12_finding_15 : decode cX12_finding 15 = .ok (.iload_n 2, 1) := by decide +kernel
theorem dX12_finding_16 : decode cX12_finding 16 = .ok (.ifCond .ne 12, 3) := by decide +kernel
theorem dX12_finding_19 : decode cX12_finding 19 = .ok (.aload_n 0, 1) := by decide +kernel
theorem dX12_finding_20 : decode cX12_finding 20 = .ok (.getfield 164, 3) := by decide +kernel
theorem dX12_finding_23 : decode cX12_finding 23 = .ok (.iload_n 1, 1) := by decide +kernel
theorem dX12_finding_24 : decode cX12_finding 24 = .ok (.iaload, 1) := by decide +kernel
theorem dX12_finding_25 : decode cX12_finding 25 = .ok (.goto 19, 3) := by decide +kernel
theorem dX12_finding_28 : decode cX12_finding 28 = .ok (.iload_n 2, 1) := by decide +kernel
theorem dX12_finding_29 : decode cX12_finding 29 = .ok (.iconst 1, 1) := by decide +kernel
theorem dX12_finding_30 : decode cX12_finding 30 = .ok (.if_icmp .ne 12, 3) := by decide +kernel
theorem dX12_finding_33 : decode cX12_finding 33 = .ok (.aload_n 0, 1) := by decide +kernel
theorem dX12_finding_34 : decode cX12_finding 34 = .ok (.getfield 167, 3) := by decide +kernel
theorem dX12_finding_37 : decode cX12_finding 37 = .ok (.iload_n 1, 1) := by decide +kernel
theorem dX12_finding_38 : decode cX12_finding 38 = .ok (.iaload, 1) := by decide +kernel
theorem dX12_finding_39 : decode cX12_finding 39 = .ok (.goto 5, 3) := by decide +kernel
theorem dX12_finding_42 : decode cX12_finding 42 = .ok (.bipush (-9), 2) := by decide +kernel
theorem dX12_finding_44 : decode cX12_finding 44 = .ok (.ireturn, 1) := by decide +kernel
theorem v_X12_finding_0 {cs : Cs} {Q : Option AV → Mm → Prop} {MI ML : Nat → Nat → Int} {d e nw th x : Nat} {l1 l2 : Int}
    (h : wp cs mX12_findings KD (rI (GR d e nw th x) fun x1 m1 n1 => ((l1 < x1 → ((l1 < 0 → Q (some (vI (-9))) (m1, n1, (GR d e nw th x))) ∧ (0 ≤ l1 → ((l2 = 0 → (0 ≤ l1 ∧ l1 < 8000) ∧ Q (some (vI (m1 174 l1.toNat))) (m1, n1, (GR d e nw th x))) ∧ (l2 ≠ 0 → ((l2 = 1 → (0 ≤ l1 ∧ l1 < 8000) ∧ Q (some (vI (m1 175 l1.toNat))) (m1, n1, (GR d e nw th x))) ∧ (l2 ≠ 1 → Q (some (vI (-9))) (m1, n1, (GR d e nw th x))))))))) ∧ (x1 ≤ l1 → Q (some (vI (-9))) (m1, n1, (GR d e nw th x))))) 0 (padL [vR 124] 1) [] (KD, MI, ML, (GR d e nw th x))) :
    wp cs mX12_finding KD Q 0 (padL [vR 124, vI l1, vI l2] 3) [] (KD, MI, ML, (GR d e nw th x)) := by
  refine wp_L (L' := [some (vR 124), some (vI l1), some (vI l2)]) rfl ?_
  refine wp_aload_n dX12_finding_0 rfl rfl (by first | exact Or.inl (by decide) | exact Or.inl (by omega) | exact Or.inr (by decide) | exact Or.inr (by omega)) ?_
  refine wp_cVq (n := 0) (mt' := mX12_findings) (as := []) (rest := []) _ dX12_finding_1 lX12_667 kX12_findings vX12_findings (by decide) (by decide +kernel) rfl (Nat.le_of_ble_eq_true rfl) (by decide) rfl rfl rfl (Nat.le_of_ble_eq_true rfl) (fun hM hS => h) (fun r M' hq hM => ?_)
  obtain ⟨x1, m1, n1, rfl, rfl, h⟩ := rI_out hq
  refine wp_iload_n dX12_finding_4 rfl rfl ?_
  refine wp_icmp_le (tgt := 12) dX12_finding_5 (by decide) (fun h5 => ?_) (fun h5 => ?_)
  · replace h := h.2 h5
    refine wp_bipush dX12_finding_12 (by decide +kernel) (by decide) ?_
    exact wp_iret dX12_finding_14 rfl (fun _ => h)
  · replace h := h.1 h5
    refine wp_iload_n dX12_finding_8 rfl rfl ?_
    refine wp_if_ge (tgt := 15) dX12_finding_9 (by decide) (fun h9 => ?_) (fun h9 => ?_)
    · replace h := h.2 h9
      refine wp_iload_n dX12_finding_15 rfl rfl ?_
      refine wp_if_ne (tgt := 28) dX12_finding_16 (by decide) (fun h16 => ?_) (fun h16 => ?_)
      · replace h := h.2 h16
        refine wp_iload_n dX12_finding_28 rfl rfl ?_
        refine wp_iconst dX12_finding_29 (by decide) ?_
        refine wp_icmp_ne (tgt := 42) dX12_finding_30 (by decide) (fun h30 => ?_) (fun h30 => ?_)
        · replace h := h.2 h30
          refine wp_bipush dX12_finding_42 (by decide +kernel) (by decide) ?_
          exact wp_iret dX12_finding_44 rfl (fun _ => h)
        · replace h := h.1 h30
          refine wp_aload_n dX12_finding_33 rfl rfl (by first | exact Or.inl (by decide) | exact Or.inl (by omega) | exact Or.inr (by decide) | exact Or.inr (by omega)) ?_
          refine wp_getR dX12_finding_34 fX12_167 rfl (by decide) ?_
          refine wp_topR (x' := 175) rfl ?_
          refine wp_iload_n dX12_finding_37 rfl rfl ?_
          have c0 := h.1
          replace h := h.2
          refine wp_iald dX12_finding_38 rfl (by decide) c0 ?_
          refine wp_goto (tgt := 44) dX12_finding_39 (by decide) ?_
          exact wp_iret dX12_finding_44 rfl (fun _ => h)
      · replace h := h.1 h16
        refine wp_aload_n dX12_finding_19 rfl rfl (by first | exact Or.inl (by decide) | exact Or.inl (by omega) | exact Or.inr (by decide) | exact Or.inr (by omega)) ?_
        refine wp_getR dX12_finding_20 fX12_164 rfl (by decide) ?_
        refine wp_topR (x' := 174) rfl ?_
        refine wp_iload_n dX12_finding_23 rfl rfl ?_
        have c0 := h.1
        replace h := h.2
        refine wp_iald dX12_finding_24 rfl (by decide) c0 ?_
        refine wp_goto (tgt := 44) dX12_finding_25 (by decide) ?_
        exact wp_iret dX12_finding_44 rfl (fun _ => h)
    · replace h := h.1 h9
      refine wp_bipush dX12_finding_12 (by decide +kernel) (by decide) ?_
      exact wp_iret dX12_finding_14 rfl (fun _ => h)
theorem dX6_takeNumber_0 : decode cX6_takeNumber 0 = .ok (.iconst 0, 1) := by decide +kernel
theorem dX6_takeNumber_1 : decode cX6_takeNumber 1 = .ok (.istore_n 1, 1) := by decide +kernel
theorem dX6_takeNumber_2 : decode cX6_takeNumber 2 = .ok (.iconst 0, 1) := by decide +kernel
theorem dX6_takeNumber_3 : decode cX6_takeNumber 3 = .ok (.istore_n 2, 1) := by decide +kernel
theorem dX6_takeNumber_4 : decode cX6_takeNumber 4 = .ok (.iload_n 2, 1) := by decide +kernel
theorem dX6_takeNumber_5 : decode cX6_takeNumber 5 = .ok (.iconst 4, 1) := by decide +kernel
theorem dX6_takeNumber_6 : decode cX6_takeNumber 6 = .ok (.if_icmp .ge 51, 3) := by decide +kernel
theorem dX6_takeNumber_9 : decode cX6_takeNumber 9 = .ok (.aload_n 0, 1) := by decide +kernel
theorem dX6_takeNumber_10 : decode cX6_takeNumber 10 = .ok (.getfield 45, 3) := by decide +kernel
theorem dX6_takeNumber_13 : decode cX6_takeNumber 13 = .ok (.invokevirtual 62, 3) := by decide +kernel
theorem dX6_takeNumber_16 : decode cX6_takeNumber 16 = .ok (.invokestatic 115, 3) := by decide +kernel
theorem dX6_takeNumber_19 : decode cX6_takeNumber 19 = .ok (.ifCond .eq 38, 3) := by decide +kernel
theorem dX6_takeNumber_22 : decode cX6_takeNumber 22 = .ok (.iload_n 1, 1) := by decide +kernel
theorem dX6_takeNumber_23 : decode cX6_takeNumber 23 = .ok (.bipush 10, 2) := by decide +kernel
theorem dX6_takeNumber_25 : decode cX6_takeNumber 25 = .ok (.imul, 1) := by decide +kernel
theorem dX6_takeNumber_26 : decode cX6_takeNumber 26 = .ok (.aload_n 0, 1) := by decide +kernel
theorem dX6_takeNumber_27 : decode cX6_takeNumber 27 = .ok (.getfield 45, 3) := by decide +kernel
theorem dX6_takeNumber_30 : decode cX6_takeNumber 30 = .ok (.invokevirtual 62, 3) := by decide +kernel
theorem dX6_takeNumber_33 : decode cX6_takeNumber 33 = .ok (.iadd, 1) := by decide +kernel
theorem dX6_takeNumber_34 : decode cX6_takeNumber 34 = .ok (.bipush 48, 2) := by decide +kernel
theorem dX6_takeNumber_36 : decode cX6_takeNumber 36 = .ok (.isub, 1) := by decide +kernel
theorem dX6_takeNumber_37 : decode cX6_takeNumber 37 = .ok (.istore_n 1, 1) := by decide +kernel
theorem dX6_takeNumber_38 : decode cX6_takeNumber 38 = .ok (.aload_n 0, 1) := by decide +kernel
theorem dX6_takeNumber_39 : decode cX6_takeNumber 39 = .ok (.getfield 45, 3) := by decide +kernel
theorem dX6_takeNumber_42 : decode cX6_takeNumber 42 = .ok (.dup, 1) := by decide +kernel
theorem dX6_takeNumber_43 : decode cX6_takeNumber 43 = .ok (.getfield 77, 3) := by decide +kernel
theorem dX6_takeNumber_46 : decode cX6_takeNumber 46 = .ok (.iconst 1, 1) := by decide +kernel
theorem dX6_takeNumber_47 : decode cX6_takeNumber 47 = .ok (.iadd, 1) := by decide +kernel
theorem dX6_takeNumber_48 : decode cX6_takeNumber 48 = .ok (.putfield 77, 3) := by decide +kernel
theorem dX6_takeNumber_51 : decode cX6_takeNumber 51 = .ok (.iinc 2 1, 3) := by decide +kernel
theorem dX6_takeNumber_54 : decode cX6_takeNumber 54 = .ok (.goto (-50), 3) := by decide +kernel
theorem dX6_takeNumber_57 : decode cX6_takeNumber 57 = .ok (.iload_n 1, 1) := by decide +kernel
theorem dX6_takeNumber_58 : decode cX6_takeNumber 58 = .ok (.ireturn, 1) := by decide +kernel
theorem v_X6_takeNumber_0 {cs : Cs} {Q : Option AV → Mm → Prop} {MI ML : Nat → Nat → Int} {d e nw th : Nat}
    (h : wp cs mX6_takeNumber KD Q 4 [some (vR 14), some (vI 0), some (vI 0)] [] (KD, MI, ML, (GR d e nw th 1))) :
    wp cs mX6_takeNumber KD Q 0 (padL [vR 14] 3) [] (KD, MI, ML, (GR d e nw th 1)) := by
  refine wp_L (L' := [some (vR 14), none, none]) rfl ?_
  refine wp_iconst dX6_takeNumber_0 (by decide) ?_
  refine wp_istore_n dX6_takeNumber_1 rfl (by decide) (wp_L (L' := [some (vR 14), some (vI 0), none]) rfl ?_)
  refine wp_iconst dX6_takeNumber_2 (by decide) ?_
  refine wp_istore_n dX6_takeNumber_3 rfl (by decide) (wp_L (L' := [some (vR 14), some (vI 0), some (vI 0)]) rfl ?_)
  exact h
theorem v_X6_takeNumber_4 {cs : Cs} {Q : Option AV → Mm → Prop} {MI ML : Nat → Nat → Int} {d e nw th : Nat} {l1 l2 : Int}
    (h : ((l2 < 4 → wp cs mX1_peek KD (rI (GR d e nw th 1) fun x13 m13 n13 => wp cs mX1_isDigit KD (rI (GR d e nw th 1) fun x16 m16 n16 => ((x16 = 0 → Q (some (vI l1)) (m16, n16, (GR d e nw th 1))) ∧ (x16 ≠ 0 → (-2147483648 ≤ l1 * 10 ∧ l1 * 10 < 2147483648) ∧ wp cs mX1_peek KD (rI (GR d e nw th 1) fun x30 m30 n30 => (-2147483648 ≤ (l1 * 10) + x30 ∧ (l1 * 10) + x30 < 2147483648) ∧ (-2147483648 ≤ ((l1 * 10) + x30) - 48 ∧ ((l1 * 10) + x30) - 48 < 2147483648) ∧ (-2147483648 ≤ (m30 2 2) + 1 ∧ (m30 2 2) + 1 < 2147483648) ∧ ∀ m48, m48 = up2 m30 2 2 ((m30 2 2) + 1) → (-2147483648 ≤ l2 + 1 ∧ l2 + 1 < 2147483648) ∧ wp cs mX6_takeNumber KD Q 4 [some (vR 14), some (vI (((l1 * 10) + x30) - 48)), some (vI (l2 + 1))] [] (KD, m48, n30, (GR d e nw th 1))) 0 (padL [vR 2] 1) [] (KD, m16, n16, (GR d e nw th 1))))) 0 (padL [vI x13] 1) [] (KD, m13, n13, (GR d e nw th 1))) 0 (padL [vR 2] 1) [] (KD, MI, ML, (GR d e nw th 1))) ∧ (4 ≤ l2 → Q (some (vI l1)) (MI, ML, (GR d e nw th 1))))) :
    wp cs mX6_takeNumber KD Q 4 [some (vR 14), some (vI l1), some (vI l2)] [] (KD, MI, ML, (GR d e nw th 1)) := by
  refine wp_iload_n dX6_takeNumber_4 rfl rfl ?_
  refine wp_iconst dX6_takeNumber_5 (by decide) ?_
  refine wp_icmp_ge (tgt := 57) dX6_takeNumber_6 (by decide) (fun h6 => ?_) (fun h6 => ?_)
  · replace h := h.2 h6
    refine wp_iload_n dX6_takeNumber_57 rfl rfl ?_
    exact wp_iret dX6_takeNumber_58 rfl (fun _ => h)
  · replace h := h.1 h6
    refine wp_aload_n dX6_takeNumber_9 rfl rfl (by first | exact Or.inl (by decide) | exact Or.inl (by omega) | exact Or.inr (by decide) | exact Or.inr (by omega)) ?_
    refine wp_getR dX6_takeNumber_10 fX6_45 rfl (by decide) ?_
    refine wp_topR (x' := 2) rfl ?_
    refine wp_cVq (n := 0) (mt' := mX1_peek) (as := []) (rest := []) _ dX6_takeNumber_13 lX6_62 kX1_peek vX1_peek (by decide) (by decide +kernel) rfl (Nat.le_of_ble_eq_true rfl) (by decide) rfl rfl rfl (Nat.le_of_ble_eq_true rfl) (fun hM hS => h) (fun r M' hq hM => ?_)
    obtain ⟨x13, m13, n13, rfl, rfl, h⟩ := rI_out hq
    refine wp_cSq (n := 1) (mt' := mX1_isDigit) (as := [vI x13]) (rest := []) _ dX6_takeNumber_16 lX6_115 kX1_isDigit vX1_isDigit (by decide) (by decide +kernel) rfl (Nat.le_of_ble_eq_true rfl) rfl (Nat.le_of_ble_eq_true rfl) (fun hM hS => h) (fun r M' hq hM => ?_)
    obtain ⟨x16, m16, n16, rfl, rfl, h⟩ := rI_out hq
    refine wp_if_eq (tgt := 57) dX6_takeNumber_19 (by decide) (fun h19 => ?_) (fun h19 => ?_)
    · replace h := h.1 h19
      refine wp_iload_n dX6_takeNumber_57 rfl rfl ?_
      exact wp_iret dX6_takeNumber_58 rfl (fun _ => h)
    · replace h := h.2 h19
      refine wp_iload_n dX6_takeNumber_22 rfl rfl ?_
      refine wp_bipush dX6_takeNumber_23 (by decide +kernel) (by decide) ?_
      have c0 := h.1
      replace h := h.2
      refine wp_imulr dX6_takeNumber_25 c0 ?_
      refine wp_aload_n dX6_takeNumber_26 rfl rfl (by first | exact Or.inl (by decide) | exact Or.inl (by omega) | exact Or.inr (by decide) | exact Or.inr (by omega)) ?_
      refine wp_getR dX6_takeNumber_27 fX6_45 rfl (by decide) ?_
      refine wp_topR (x' := 2) rfl ?_
      refine wp_cVq (n := 0) (mt' := mX1_peek) (as := []) (rest := [vI (l1 * 10)]) _ dX6_takeNumber_30 lX6_62 kX1_peek vX1_peek (by decide) (by decide +kernel) rfl (Nat.le_of_ble_eq_true rfl) (by decide) rfl rfl rfl (Nat.le_of_ble_eq_true rfl) (fun hM hS => h) (fun r M' hq hM => ?_)
      obtain ⟨x30, m30, n30, rfl, rfl, h⟩ := rI_out hq
      have c1 := h.1
      replace h := h.2
      refine wp_iaddr dX6_takeNumber_33 c1 ?_
      refine wp_bipush dX6_takeNumber_34 (by decide +kernel) (by decide) ?_
      have c2 := h.1
      replace h := h.2
      refine wp_isubr dX6_takeNumber_36 c2 ?_
      refine wp_istore_n dX6_takeNumber_37 rfl (by decide) (wp_L (L' := [some (vR 14), some (vI (((l1 * 10) + x30) - 48)), some (vI l2)]) rfl ?_)
      refine wp_aload_n dX6_takeNumber_38 rfl rfl (by first | exact Or.inl (by decide) | exact Or.inl (by omega) | exact Or.inr (by decide) | exact Or.inr (by omega)) ?_
      refine wp_getR dX6_takeNumber_39 fX6_45 rfl (by decide) ?_
      refine wp_topR (x' := 2) rfl ?_
      refine wp_dup dX6_takeNumber_42 (fun x e => by cases e) ?_
      refine wp_pc (pc' := 43) rfl ?_
      refine wp_getI dX6_takeNumber_43 fX6_77 rfl (by decide) ?_
      refine wp_iconst dX6_takeNumber_46 (by decide) ?_
      have c3 := h.1
      replace h := h.2
      refine wp_iaddr dX6_takeNumber_47 c3 ?_
      refine wp_putI dX6_takeNumber_48 pX6_77 rfl (by decide) ?_
      refine wp_gI (fun m48 e48 => ?_)
      replace h := h m48 e48
      have c4 := h.1
      replace h := h.2
      refine wp_iincr dX6_takeNumber_51 rfl (by decide) c4 (wp_L (L' := [some (vR 14), some (vI (((l1 * 10) + x30) - 48)), some (vI (l2 + 1))]) rfl ?_)
      refine wp_goto (tgt := 4) dX6_takeNumber_54 (by decide) ?_
      exact h
theorem dX6_readQuoted_0 : decode cX6_readQuoted 0 = .ok (.aload_n 0, 1) := by decide +kernel
theorem dX6_readQuoted_1 : decode cX6_readQuoted 1 = .ok (.getfield 45, 3) := by decide +kernel
theorem dX6_readQuoted_4 : decode cX6_readQuoted 4 = .ok (.invokevirtual 62, 3) := by decide +kernel
theorem dX6_readQuoted_7 : decode cX6_readQuoted 7 = .ok (.istore_n 2, 1) := by decide +kernel
theorem dX6_readQuoted_8 : decode cX6_readQuoted 8 = .ok (.iload_n 2, 1) := by decide +kernel
theorem dX6_readQuoted_9 : decode cX6_readQuoted 9 = .ok (.bipush 34, 2) := by decide +kernel
theorem dX6_readQuoted_11 : decode cX6_readQuoted 11 = .ok (.if_icmp .eq 25, 3) := by decide +kernel
theorem dX6_readQuoted_14 : decode cX6_readQuoted 14 = .ok (.iload_n 2, 1) := by decide +kernel
theorem dX6_readQuoted_15 : decode cX6_readQuoted 15 = .ok (.bipush 39, 2) := by decide +kernel
theorem dX6_readQuoted_17 : decode cX6_readQuoted 17 = .ok (.if_icmp .eq 19, 3) := by decide +kernel
theorem dX6_readQuoted_20 : decode cX6_readQuoted 20 = .ok (.aload_n 0, 1) := by decide +kernel
theorem dX6_readQuoted_21 : decode cX6_readQuoted 21 = .ok (.getfield 45, 3) := by decide +kernel
theorem dX6_readQuoted_24 : decode cX6_readQuoted 24 = .ok (.iconst (-1), 1) := by decide +kernel
theorem dX6_readQuoted_25 : decode cX6_readQuoted 25 = .ok (.aload_n 0, 1) := by decide +kernel
theorem dX6_readQuoted_26 : decode cX6_readQuoted 26 = .ok (.getfield 45, 3) := by decide +kernel
theorem dX6_readQuoted_29 : decode cX6_readQuoted 29 = .ok (.getfield 77, 3) := by decide +kernel
theorem dX6_readQuoted_32 : decode cX6_readQuoted 32 = .ok (.invokevirtual 80, 3) := by decide +kernel
theorem dX6_readQuoted_35 : decode cX6_readQuoted 35 = .ok (.ireturn, 1) := by decide +kernel
theorem dX6_readQuoted_36 : decode cX6_readQuoted 36 = .ok (.aload_n 0, 1) := by decide +kernel
theorem dX6_readQuoted_37 : decode cX6_readQuoted 37 = .ok (.getfield 45, 3) := by decide +kernel
theorem dX6_readQuoted_40 : decode cX6_readQuoted 40 = .ok (.dup, 1) := by decide +kernel
theorem dX6_readQuoted_41 : decode cX6_readQuoted 41 = .ok (.getfield 77, 3) := by decide +kernel
theorem dX6_readQuoted_44 : decode cX6_readQuoted 44 = .ok (.iconst 1, 1) := by decide +kernel
theorem dX6_readQuoted_45 : decode cX6_readQuoted 45 = .ok (.iadd, 1) := by decide +kernel
theorem dX6_readQuoted_46 : decode cX6_readQuoted 46 = .ok (.putfield 77, 3) := by decide +kernel
theorem dX6_readQuoted_49 : decode cX6_readQuoted 49 = .ok (.aload_n 0, 1) := by decide +kernel
theorem dX6_readQuoted_50 : decode cX6_readQuoted 50 = .ok (.getfield 31, 3) := by decide +kernel
theorem dX6_readQuoted_53 : decode cX6_readQuoted 53 = .ok (.iload_n 1, 1) := by decide +kernel
theorem dX6_readQuoted_54 : decode cX6_readQuoted 54 = .ok (.aload_n 0, 1) := by decide +kernel
theorem dX6_readQuoted_55 : decode cX6_readQuoted 55 = .ok (.getfield 45, 3) := by decide +kernel
theorem dX6_readQuoted_58 : decode cX6_readQuoted 58 = .ok (.getfield 77, 3) := by decide +kernel
theorem dX6_readQuoted_61 : decode cX6_readQuoted 61 = .ok (.iastore, 1) := by decide +kernel
theorem dX6_readQuoted_62 : decode cX6_readQuoted 62 = .ok (.aload_n 0, 1) := by decide +kernel
theorem dX6_readQuoted_63 : decode cX6_readQuoted 63 = .ok (.getfield 45, 3) := by decide +kernel
theorem dX6_readQuoted_66 : decode cX6_readQuoted 66 = .ok (.getfield 77, 3) := by decide +kernel
theorem dX6_readQuoted_69 : decode cX6_readQuoted 69 = .ok (.aload_n 0, 1) := by decide +kernel
theorem dX6_readQuoted_70 : decode cX6_readQuoted 70 = .ok (.getfield 45, 3) := by decide +kernel
theorem dX6_readQuoted_73 : decode cX6_readQuoted 73 = .ok (.getfield 130, 3) := by decide +kernel
theorem dX6_readQuoted_76 : decode cX6_readQuoted 76 = .ok (.if_icmp .ge 59, 3) := by decide +kernel
theorem dX6_readQuoted_79 : decode cX6_readQuoted 79 = .ok (.aload_n 0, 1) := by decide +kernel
theorem dX6_readQuoted_80 : decode cX6_readQuoted 80 = .ok (.getfield 45, 3) := by decide +kernel
theorem dX6_readQuoted_83 : decode cX6_readQuoted 83 = .ok (.invokevirtual 62, 3) := by decide +kernel
theorem dX6_readQuoted_86 : decode cX6_readQuoted 86 = .ok (.iload_n 2, 1) := by decide +kernel
theorem dX6_readQuoted_87 : decode cX6_readQuoted 87 = .ok (.if_icmp .eq 48, 3) := by decide +kernel
theorem dX6_readQuoted_90 : decode cX6_readQuoted 90 = .ok (.aload_n 0, 1) := by decide +kernel
theorem dX6_readQuoted_91 : decode cX6_readQuoted 91 = .ok (.getfield 45, 3) := by decide +kernel
theorem dX6_readQuoted_94 : decode cX6_readQuoted 94 = .ok (.invokevirtual 62, 3) := by decide +kernel
theorem dX6_readQuoted_97 : decode cX6_readQuoted 97 = .ok (.invokestatic 133, 3) := by decide +kernel
theorem dX6_readQuoted_100 : decode cX6_readQuoted 100 = .ok (.ifCond .ne 19, 3) := by decide +kernel
theorem dX6_readQuoted_103 : decode cX6_readQuoted 103 = .ok (.aload_n 0, 1) := by decide +kernel
theorem dX6_readQuoted_104 : decode cX6_readQuoted 104 = .ok (.getfield 45, 3) := by decide +kernel
theorem dX6_readQuoted_107 : decode cX6_readQuoted 107 = .ok (.iconst (-1), 1) := by decide +kernel
theorem dX6_readQuoted_108 : decode cX6_readQuoted 108 = .ok (.aload_n 0, 1) := by decide +kernel
theorem dX6_readQuoted_109 : decode cX6_readQuoted 109 = .ok (.getfield 45, 3) := by decide +kernel
theorem dX6_readQuoted_112 : decode cX6_readQuoted 112 = .ok (.getfield 77, 3) := by decide +kernel
theorem dX6_readQuoted_115 : decode cX6_readQuoted 115 = .ok (.invokevirtual 80, 3) := by decide +kernel
theorem dX6_readQuoted_118 : decode cX6_readQuoted 118 = .ok (.ireturn, 1) := by decide +kernel
theorem dX6_readQuoted_119 : decode cX6_readQuoted 119 = .ok (.aload_n 0, 1) := by decide +kernel
theorem dX6_readQuoted_120 : decode cX6_readQuoted 120 = .ok (.getfield 45, 3) := by decide +kernel
theorem dX6_readQuoted_123 : decode cX6_readQuoted 123 = .ok (.dup, 1) := by decide +kernel
theorem dX6_readQuoted_124 : decode cX6_readQuoted 124 = .ok (.getfield 77, 3) := by decide +kernel
theorem dX6_readQuoted_127 : decode cX6_readQuoted 127 = .ok (.iconst 1, 1) := by decide +kernel
theorem dX6_readQuoted_128 : decode cX6_readQuoted 128 = .ok (.iadd, 1) := by decide +kernel
theorem dX6_readQuoted_129 : decode cX6_readQuoted 129 = .ok (.putfield 77, 3) := by decide +kernel
theorem dX6_readQuoted_132 : decode cX6_readQuoted 132 = .ok (.goto (-70), 3) := by decide +kernel
theorem dX6_readQuoted_135 : decode cX6_readQuoted 135 = .ok (.aload_n 0, 1) := by decide +kernel
theorem dX6_readQuoted_136 : decode cX6_readQuoted 136 = .ok (.getfield 34, 3) := by decide +kernel
theorem dX6_readQuoted_139 : decode cX6_readQuoted 139 = .ok (.iload_n 1, 1) := by decide +kernel
theorem dX6_readQuoted_140 : decode cX6_readQuoted 140 = .ok (.aload_n 0, 1) := by decide +kernel
theorem dX6_readQuoted_141 : decode cX6_readQuoted 141 = .ok (.getfield 45, 3) := by decide +kernel
theorem dX6_readQuoted_144 : decode cX6_readQuoted 144 = .ok (.getfield 77, 3) := by decide +kernel
theorem dX6_readQuoted_147 : decode cX6_readQuoted 147 = .ok (.aload_n 0, 1) := by decide +kernel
theorem dX6_readQuoted_148 : decode cX6_readQuoted 148 = .ok (.getfield 31, 3) := by decide +kernel
theorem dX6_readQuoted_151 : decode cX6_readQuoted 151 = .ok (.iload_n 1, 1) := by decide +kernel
theorem dX6_readQuoted_152 : decode cX6_readQuoted 152 = .ok (.iaload, 1) := by decide +kernel
theorem dX6_readQuoted_153 : decode cX6_readQuoted 153 = .ok (.isub, 1) := by decide +kernel
theorem dX6_readQuoted_154 : decode cX6_readQuoted 154 = .ok (.iastore, 1) := by decide +kernel
theorem dX6_readQuoted_155 : decode cX6_readQuoted 155 = .ok (.aload_n 0, 1) := by decide +kernel
theorem dX6_readQuoted_156 : decode cX6_readQuoted 156 = .ok (.getfield 45, 3) := by decide +kernel
theorem dX6_readQuoted_159 : decode cX6_readQuoted 159 = .ok (.iload_n 2, 1) := by decide +kernel
theorem dX6_readQuoted_160 : decode cX6_readQuoted 160 = .ok (.bipush 34, 2) := by decide +kernel
theorem dX6_readQuoted_162 : decode cX6_readQuoted 162 = .ok (.if_icmp .ne 8, 3) := by decide +kernel
theorem dX6_readQuoted_165 : decode cX6_readQuoted 165 = .ok (.ldc 136, 2) := by decide +kernel
theorem dX6_readQuoted_167 : decode cX6_readQuoted 167 = .ok (.goto 5, 3) := by decide +kernel
theorem dX6_readQuoted_170 : decode cX6_readQuoted 170 = .ok (.ldc 138, 2) := by decide +kernel
theorem dX6_readQuoted_172 : decode cX6_readQuoted 172 = .ok (.invokevirtual 70, 3) := by decide +kernel
theorem dX6_readQuoted_175 : decode cX6_readQuoted 175 = .ok (.ireturn, 1) := by decide +kernel
theorem v_X6_readQuoted_0 {cs : Cs} {Q : Option AV → Mm → Prop} {MI ML : Nat → Nat → Int} {d e nw th : Nat} {l1 : Int}
    (h : wp cs mX1_peek KD (rI (GR d e nw th 1) fun x4 m4 n4 => ((x4 = 34 → (-2147483648 ≤ (m4 2 2) + 1 ∧ (m4 2 2) + 1 < 2147483648) ∧ ∀ m46, m46 = up2 m4 2 2 ((m4 2 2) + 1) → (0 ≤ l1 ∧ l1 < 48) ∧ ∀ m61, m61 = up2 m46 21 l1.toNat (m46 2 2) → wp cs mX6_readQuoted KD Q 62 [some (vR 14), some (vI l1), some (vI x4)] [] (KD, m61, n4, (GR d e nw th 1))) ∧ (x4 ≠ 34 → ((x4 = 39 → (-2147483648 ≤ (m4 2 2) + 1 ∧ (m4 2 2) + 1 < 2147483648) ∧ ∀ m46, m46 = up2 m4 2 2 ((m4 2 2) + 1) → (0 ≤ l1 ∧ l1 < 48) ∧ ∀ m61, m61 = up2 m46 21 l1.toNat (m46 2 2) → wp cs mX6_readQuoted KD Q 62 [some (vR 14), some (vI l1), some (vI x4)] [] (KD, m61, n4, (GR d e nw th 1))) ∧ (x4 ≠ 39 → wp cs mX1_refuse KD (rI (GR d e nw th 1) fun x32 m32 n32 => (x32 = 0 ∨ x32 = 1) ∧ Q (some (vI x32)) (m32, n32, (GR d e nw th 1))) 0 (padL [vR 2, vI (-1), vI (m4 2 2)] 3) [] (KD, m4, n4, (GR d e nw th 1))))))) 0 (padL [vR 2] 1) [] (KD, MI, ML, (GR d e nw th 1))) :
    wp cs mX6_readQuoted KD Q 0 (padL [vR 14, vI l1] 3) [] (KD, MI, ML, (GR d e nw th 1)) := by
  refine wp_L (L' := [some (vR 14), some (vI l1), none]) rfl ?_
  refine wp_aload_n dX6_readQuoted_0 rfl rfl (by first | exact Or.inl (by decide) | exact Or.inl (by omega) | exact Or.inr (by decide) | exact Or.inr (by omega)) ?_
  refine wp_getR dX6_readQuoted_1 fX6_45 rfl (by decide) ?_
  refine wp_topR (x' := 2) rfl ?_
  refine wp_cVq (n := 0) (mt' := mX1_peek) (as := []) (rest := []) _ dX6_readQuoted_4 lX6_62 kX1_peek vX1_peek (by decide) (by decide +kernel) rfl (Nat.le_of_ble_eq_true rfl) (by decide) rfl rfl rfl (Nat.le_of_ble_eq_true rfl) (fun hM hS => h) (fun r M' hq hM => ?_)
  obtain ⟨x4, m4, n4, rfl, rfl, h⟩ := rI_out hq
  refine wp_istore_n dX6_readQuoted_7 rfl (by decide) (wp_L (L' := [some (vR 14), some (vI l1), some (vI x4)]) rfl ?_)
  refine wp_iload_n dX6_readQuoted_8 rfl rfl ?_
  refine wp_bipush dX6_readQuoted_9 (by decide +kernel) (by decide) ?_
  refine wp_icmp_eq (tgt := 36) dX6_readQuoted_11 (by decide) (fun h11 => ?_) (fun h11 => ?_)
  · replace h := h.1 h11
    refine wp_aload_n dX6_readQuoted_36 rfl rfl (by first | exact Or.inl (by decide) | exact Or.inl (by omega) | exact Or.inr (by decide) | exact Or.inr (by omega)) ?_
    refine wp_getR dX6_readQuoted_37 fX6_45 rfl (by decide) ?_
    refine wp_topR (x' := 2) rfl ?_
    refine wp_dup dX6_readQuoted_40 (fun x e => by cases e) ?_
    refine wp_getI dX6_readQuoted_41 fX6_77 rfl (by decide) ?_
    refine wp_iconst dX6_readQuoted_44 (by decide) ?_
    have c0 := h.1
    replace h := h.2
    refine wp_iaddr dX6_readQuoted_45 c0 ?_
    refine wp_putI dX6_readQuoted_46 pX6_77 rfl (by decide) ?_
    refine wp_gI (fun m46 e46 => ?_)
    replace h := h m46 e46
    refine wp_pc (pc' := 49) rfl ?_
    refine wp_aload_n dX6_readQuoted_49 rfl rfl (by first | exact Or.inl (by decide) | exact Or.inl (by omega) | exact Or.inr (by decide) | exact Or.inr (by omega)) ?_
    refine wp_getR dX6_readQuoted_50 fX6_31 rfl (by decide) ?_
    refine wp_topR (x' := 21) rfl ?_
    refine wp_iload_n dX6_readQuoted_53 rfl rfl ?_
    refine wp_aload_n dX6_readQuoted_54 rfl rfl (by first | exact Or.inl (by decide) | exact Or.inl (by omega) | exact Or.inr (by decide) | exact Or.inr (by omega)) ?_
    refine wp_getR dX6_readQuoted_55 fX6_45 rfl (by decide) ?_
    refine wp_topR (x' := 2) rfl ?_
    refine wp_getI dX6_readQuoted_58 fX6_77 rfl (by decide) ?_
    have c1 := h.1
    replace h := h.2
    refine wp_iast dX6_readQuoted_61 rfl (by decide) c1 ?_
    refine wp_gI (fun m61 e61 => ?_)
    replace h := h m61 e61
    exact h
  · replace h := h.2 h11
    refine wp_iload_n dX6_readQuoted_14 rfl rfl ?_
    refine wp_bipush dX6_readQuoted_15 (by decide +kernel) (by decide) ?_
    refine wp_icmp_eq (tgt := 36) dX6_readQuoted_17 (by decide) (fun h17 => ?_) (fun h17 => ?_)
    · replace h := h.1 h17
      refine wp_aload_n dX6_readQuoted_36 rfl rfl (by first | exact Or.inl (by decide) | exact Or.inl (by omega) | exact Or.inr (by decide) | exact Or.inr (by omega)) ?_
      refine wp_getR dX6_readQuoted_37 fX6_45 rfl (by decide) ?_
      refine wp_topR (x' := 2) rfl ?_
      refine wp_dup dX6_readQuoted_40 (fun x e => by cases e) ?_
      refine wp_getI dX6_readQuoted_41 fX6_77 rfl (by decide) ?_
      refine wp_iconst dX6_readQuoted_44 (by decide) ?_
      have c0 := h.1
      replace h := h.2
      refine wp_iaddr dX6_readQuoted_45 c0 ?_
      refine wp_putI dX6_readQuoted_46 pX6_77 rfl (by decide) ?_
      refine wp_gI (fun m46 e46 => ?_)
      replace h := h m46 e46
      refine wp_pc (pc' := 49) rfl ?_
      refine wp_aload_n dX6_readQuoted_49 rfl rfl (by first | exact Or.inl (by decide) | exact Or.inl (by omega) | exact Or.inr (by decide) | exact Or.inr (by omega)) ?_
      refine wp_getR dX6_readQuoted_50 fX6_31 rfl (by decide) ?_
      refine wp_topR (x' := 21) rfl ?_
      refine wp_iload_n dX6_readQuoted_53 rfl rfl ?_
      refine wp_aload_n dX6_readQuoted_54 rfl rfl (by first | exact Or.inl (by decide) | exact Or.inl (by omega) | exact Or.inr (by decide) | exact Or.inr (by omega)) ?_
      refine wp_getR dX6_readQuoted_55 fX6_45 rfl (by decide) ?_
      refine wp_topR (x' := 2) rfl ?_
      refine wp_getI dX6_readQuoted_58 fX6_77 rfl (by decide) ?_
      have c1 := h.1
      replace h := h.2
      refine wp_iast dX6_readQuoted_61 rfl (by decide) c1 ?_
      refine wp_gI (fun m61 e61 => ?_)
      replace h := h m61 e61
      exact h
    · replace h := h.2 h17
      refine wp_aload_n dX6_readQuoted_20 rfl rfl (by first | exact Or.inl (by decide) | exact Or.inl (by omega) | exact Or.inr (by decide) | exact Or.inr (by omega)) ?_
      refine wp_getR dX6_readQuoted_21 fX6_45 rfl (by decide) ?_
      refine wp_topR (x' := 2) rfl ?_
      refine wp_iconst dX6_readQuoted_24 (by decide) ?_
      refine wp_aload_n dX6_readQuoted_25 rfl rfl (by first | exact Or.inl (by decide) | exact Or.inl (by omega) | exact Or.inr (by decide) | exact Or.inr (by omega)) ?_
      refine wp_getR dX6_readQuoted_26 fX6_45 rfl (by decide) ?_
      refine wp_topR (x' := 2) rfl ?_
      refine wp_getI dX6_readQuoted_29 fX6_77 rfl (by decide) ?_
      refine wp_cVq (n := 2) (mt' := mX1_refuse) (as := [vI (-1), vI (m4 2 2)]) (rest := []) _ dX6_readQuoted_32 lX6_80 kX1_refuse vX1_refuse (by decide) (by decide +kernel) rfl (Nat.le_of_ble_eq_true rfl) (by decide) rfl rfl rfl (Nat.le_of_ble_eq_true rfl) (fun hM hS => h) (fun r M' hq hM => ?_)
      obtain ⟨x32, m32, n32, rfl, rfl, h⟩ := rI_out hq
      exact wp_zret dX6_readQuoted_35 rfl h.1 (fun _ => h.2)
theorem v_X6_readQuoted_62 {cs : Cs} {Q : Option AV → Mm → Prop} {MI ML : Nat → Nat → Int} {d e nw th : Nat} {l1 l2 : Int}
    (h : (((MI 2 2) < (MI 2 1) → wp cs mX1_peek KD (rI (GR d e nw th 1) fun x83 m83 n83 => ((x83 = l2 → wp cs mX6_readQuoted KD Q 135 [some (vR 14), some (vI l1), some (vI l2)] [] (KD, m83, n83, (GR d e nw th 1))) ∧ (x83 ≠ l2 → wp cs mX1_peek KD (rI (GR d e nw th 1) fun x94 m94 n94 => wp cs mX1_isChar KD (rI (GR d e nw th 1) fun x97 m97 n97 => ((x97 = 0 → wp cs mX1_refuse KD (rI (GR d e nw th 1) fun x115 m115 n115 => (x115 = 0 ∨ x115 = 1) ∧ Q (some (vI x115)) (m115, n115, (GR d e nw th 1))) 0 (padL [vR 2, vI (-1), vI (m97 2 2)] 3) [] (KD, m97, n97, (GR d e nw th 1))) ∧ (x97 ≠ 0 → (-2147483648 ≤ (m97 2 2) + 1 ∧ (m97 2 2) + 1 < 2147483648) ∧ ∀ m129, m129 = up2 m97 2 2 ((m97 2 2) + 1) → wp cs mX6_readQuoted KD Q 62 [some (vR 14), some (vI l1), some (vI l2)] [] (KD, m129, n97, (GR d e nw th 1))))) 0 (padL [vI x94] 1) [] (KD, m94, n94, (GR d e nw th 1))) 0 (padL [vR 2] 1) [] (KD, m83, n83, (GR d e nw th 1))))) 0 (padL [vR 2] 1) [] (KD, MI, ML, (GR d e nw th 1))) ∧ ((MI 2 1) ≤ (MI 2 2) → wp cs mX6_readQuoted KD Q 135 [some (vR 14), some (vI l1), some (vI l2)] [] (KD, MI, ML, (GR d e nw th 1))))) :
    wp cs mX6_readQuoted KD Q 62 [some (vR 14), some (vI l1), some (vI l2)] [] (KD, MI, ML, (GR d e nw th 1)) := by
  refine wp_aload_n dX6_readQuoted_62 rfl rfl (by first | exact Or.inl (by decide) | exact Or.inl (by omega) | exact Or.inr (by decide) | exact Or.inr (by omega)) ?_
  refine wp_getR dX6_readQuoted_63 fX6_45 rfl (by decide) ?_
  refine wp_topR (x' := 2) rfl ?_
  refine wp_getI dX6_readQuoted_66 fX6_77 rfl (by decide) ?_
  refine wp_aload_n dX6_readQuoted_69 rfl rfl (by first | exact Or.inl (by decide) | exact Or.inl (by omega) | exact Or.inr (by decide) | exact Or.inr (by omega)) ?_
  refine wp_getR dX6_readQuoted_70 fX6_45 rfl (by decide) ?_
  refine wp_topR (x' := 2) rfl ?_
  refine wp_getI dX6_readQuoted_73 fX6_130 rfl (by decide) ?_
  refine wp_icmp_ge (tgt := 135) dX6_readQuoted_76 (by decide) (fun h76 => ?_) (fun h76 => ?_)
  · replace h := h.2 h76
    exact h
  · replace h := h.1 h76
    refine wp_aload_n dX6_readQuoted_79 rfl rfl (by first | exact Or.inl (by decide) | exact Or.inl (by omega) | exact Or.inr (by decide) | exact Or.inr (by omega)) ?_
    refine wp_getR dX6_readQuoted_80 fX6_45 rfl (by decide) ?_
    refine wp_topR (x' := 2) rfl ?_
    refine wp_cVq (n := 0) (mt' := mX1_peek) (as := []) (rest := []) _ dX6_readQuoted_83 lX6_62 kX1_peek vX1_peek (by decide) (by decide +kernel) rfl (Nat.le_of_ble_eq_true rfl) (by decide) rfl rfl rfl (Nat.le_of_ble_eq_true rfl) (fun hM hS => h) (fun r M' hq hM => ?_)
    obtain ⟨x83, m83, n83, rfl, rfl, h⟩ := rI_out hq
    refine wp_iload_n dX6_readQuoted_86 rfl rfl ?_
    refine wp_icmp_eq (tgt := 135) dX6_readQuoted_87 (by decide) (fun h87 => ?_) (fun h87 => ?_)
    · replace h := h.1 h87
      exact h
    · replace h := h.2 h87
      refine wp_aload_n dX6_readQuoted_90 rfl rfl (by first | exact Or.inl (by decide) | exact Or.inl (by omega) | exact Or.inr (by decide) | exact Or.inr (by omega)) ?_
      refine wp_getR dX6_readQuoted_91 fX6_45 rfl (by decide) ?_
      refine wp_topR (x' := 2) rfl ?_
      refine wp_cVq (n := 0) (mt' := mX1_peek) (as := []) (rest := []) _ dX6_readQuoted_94 lX6_62 kX1_peek vX1_peek (by decide) (by decide +kernel) rfl (Nat.le_of_ble_eq_true rfl) (by decide) rfl rfl rfl (Nat.le_of_ble_eq_true rfl) (fun hM hS => h) (fun r M' hq hM => ?_)
      obtain ⟨x94, m94, n94, rfl, rfl, h⟩ := rI_out hq
      refine wp_cSq (n := 1) (mt' := mX1_isChar) (as := [vI x94]) (rest := []) _ dX6_readQuoted_97 lX6_133 kX1_isChar vX1_isChar (by decide) (by decide +kernel) rfl (Nat.le_of_ble_eq_true rfl) rfl (Nat.le_of_ble_eq_true rfl) (fun hM hS => h) (fun r M' hq hM => ?_)
      obtain ⟨x97, m97, n97, rfl, rfl, h⟩ := rI_out hq
      refine wp_if_ne (tgt := 119) dX6_readQuoted_100 (by decide) (fun h100 => ?_) (fun h100 => ?_)
      · replace h := h.2 h100
        refine wp_aload_n dX6_readQuoted_119 rfl rfl (by first | exact Or.inl (by decide) | exact Or.inl (by omega) | exact Or.inr (by decide) | exact Or.inr (by omega)) ?_
        refine wp_getR dX6_readQuoted_120 fX6_45 rfl (by decide) ?_
        refine wp_topR (x' := 2) rfl ?_
        refine wp_dup dX6_readQuoted_123 (fun x e => by cases e) ?_
        refine wp_getI dX6_readQuoted_124 fX6_77 rfl (by decide) ?_
        refine wp_iconst dX6_readQuoted_127 (by decide) ?_
        have c0 := h.1
        replace h := h.2
        refine wp_iaddr dX6_readQuoted_128 c0 ?_
        refine wp_putI dX6_readQuoted_129 pX6_77 rfl (by decide) ?_
        refine wp_gI (fun m129 e129 => ?_)
        replace h := h m129 e129
        refine wp_pc (pc' := 132) rfl ?_
        refine wp_goto (tgt := 62) dX6_readQuoted_132 (by decide) ?_
        exact h
      · replace h := h.1 h100
        refine wp_aload_n dX6_readQuoted_103 rfl rfl (by first | exact Or.inl (by decide) | exact Or.inl (by omega) | exact Or.inr (by decide) | exact Or.inr (by omega)) ?_
        refine wp_getR dX6_readQuoted_104 fX6_45 rfl (by decide) ?_
        refine wp_topR (x' := 2) rfl ?_
        refine wp_iconst dX6_readQuoted_107 (by decide) ?_
        refine wp_aload_n dX6_readQuoted_108 rfl rfl (by first | exact Or.inl (by decide) | exact Or.inl (by omega) | exact Or.inr (by decide) | exact Or.inr (by omega)) ?_
        refine wp_getR dX6_readQuoted_109 fX6_45 rfl (by decide) ?_
        refine wp_topR (x' := 2) rfl ?_
        refine wp_getI dX6_readQuoted_112 fX6_77 rfl (by decide) ?_
        refine wp_cVq (n := 2) (mt' := mX1_refuse) (as := [vI (-1), vI (m97 2 2)]) (rest := []) _ dX6_readQuoted_115 lX6_80 kX1_refuse vX1_refuse (by decide) (by decide +kernel) rfl (Nat.le_of_ble_eq_true rfl) (by decide) rfl rfl rfl (Nat.le_of_ble_eq_true rfl) (fun hM hS => h) (fun r M' hq hM => ?_)
        obtain ⟨x115, m115, n115, rfl, rfl, h⟩ := rI_out hq
        exact wp_zret dX6_readQuoted_118 rfl h.1 (fun _ => h.2)
theorem v_X6_readQuoted_135 {cs : Cs} {Q : Option AV → Mm → Prop} {MI ML : Nat → Nat → Int} {d e nw th : Nat} {l1 l2 : Int}
    (h : (0 ≤ l1 ∧ l1 < 48) ∧ (-2147483648 ≤ (MI 2 2) - (MI 21 l1.toNat) ∧ (MI 2 2) - (MI 21 l1.toNat) < 2147483648) ∧ ∀ m154, m154 = up2 MI 22 l1.toNat ((MI 2 2) - (MI 21 l1.toNat)) → ((l2 = 34 → wp cs mX1_take KD (rI (GR d e nw th 1) fun x172 m172 n172 => (x172 = 0 ∨ x172 = 1) ∧ Q (some (vI x172)) (m172, n172, (GR d e nw th 1))) 0 (padL [vR 2, vR 1000042] 2) [] (KD, m154, ML, (GR d e nw th 1))) ∧ (l2 ≠ 34 → wp cs mX1_take KD (rI (GR d e nw th 1) fun x172 m172 n172 => (x172 = 0 ∨ x172 = 1) ∧ Q (some (vI x172)) (m172, n172, (GR d e nw th 1))) 0 (padL [vR 2, vR 1000043] 2) [] (KD, m154, ML, (GR d e nw th 1))))) :
    wp cs mX6_readQuoted KD Q 135 [some (vR 14), some (vI l1), some (vI l2)] [] (KD, MI, ML, (GR d e nw th 1)) := by
  refine wp_aload_n dX6_readQuoted_135 rfl rfl (by first | exact Or.inl (by decide) | exact Or.inl (by omega) | exact Or.inr (by decide) | exact Or.inr (by omega)) ?_
  refine wp_getR dX6_readQuoted_136 fX6_34 rfl (by decide) ?_
  refine wp_topR (x' := 22) rfl ?_
  refine wp_iload_n dX6_readQuoted_139 rfl rfl ?_
  refine wp_aload_n dX6_readQuoted_140 rfl rfl (by first | exact Or.inl (by decide) | exact Or.inl (by omega) | exact Or.inr (by decide) | exact Or.inr (by omega)) ?_
  refine wp_getR dX6_readQuoted_141 fX6_45 rfl (by decide) ?_
  refine wp_topR (x' := 2) rfl ?_
  refine wp_getI dX6_readQuoted_144 fX6_77 rfl (by decide) ?_
  refine wp_aload_n dX6_readQuoted_147 rfl rfl (by first | exact Or.inl (by decide) | exact Or.inl (by omega) | exact Or.inr (by decide) | exact Or.inr (by omega)) ?_
  refine wp_pc (pc' := 148) rfl ?_
  refine wp_getR dX6_readQuoted_148 fX6_31 rfl (by decide) ?_
  refine wp_topR (x' := 21) rfl ?_
  refine wp_iload_n dX6_readQuoted_151 rfl rfl ?_
  have c0 := h.1
  replace h := h.2
  refine wp_iald dX6_readQuoted_152 rfl (by decide) c0 ?_
  have c1 := h.1
  replace h := h.2
  refine wp_isubr dX6_readQuoted_153 c1 ?_
  refine wp_iast dX6_readQuoted_154 rfl (by decide) c0 ?_
  refine wp_gI (fun m154 e154 => ?_)
  replace h := h m154 e154
  refine wp_aload_n dX6_readQuoted_155 rfl rfl (by first | exact Or.inl (by decide) | exact Or.inl (by omega) | exact Or.inr (by decide) | exact Or.inr (by omega)) ?_
  refine wp_getR dX6_readQuoted_156 fX6_45 rfl (by decide) ?_
  refine wp_topR (x' := 2) rfl ?_
  refine wp_iload_n dX6_readQuoted_159 rfl rfl ?_
  refine wp_pc (pc' := 160) rfl ?_
  refine wp_bipush dX6_readQuoted_160 (by decide +kernel) (by decide) ?_
  refine wp_icmp_ne (tgt := 170) dX6_readQuoted_162 (by decide) (fun h162 => ?_) (fun h162 => ?_)
  · replace h := h.2 h162
    refine wp_ldcS (k := 40) dX6_readQuoted_170 cX6_138 ?_
    refine wp_cVq (n := 1) (mt' := mX1_take) (as := [vR 1000043]) (rest := []) _ dX6_readQuoted_172 lX6_70 kX1_take vX1_take (by decide) (by decide +kernel) rfl (Nat.le_of_ble_eq_true rfl) (by decide) rfl rfl rfl (Nat.le_of_ble_eq_true rfl) (fun hM hS => h) (fun r M' hq hM => ?_)
    obtain ⟨x172, m172, n172, rfl, rfl, h⟩ := rI_out hq
    exact wp_zret dX6_readQuoted_175 rfl h.1 (fun _ => h.2)
  · replace h := h.1 h162
    refine wp_ldcS (k := 39) dX6_readQuoted_165 cX6_136 ?_
    refine wp_goto (tgt := 172) dX6_readQuoted_167 (by decide) ?_
    refine wp_cVq (n := 1) (mt' := mX1_take) (as := [vR 1000042]) (rest := []) _ dX6_readQuoted_172 lX6_70 kX1_take vX1_take (by decide) (by decide +kernel) rfl (Nat.le_of_ble_eq_true rfl) (by decide) rfl rfl rfl (Nat.le_of_ble_eq_true rfl) (fun hM hS => h) (fun r M' hq hM => ?_)
    obtain ⟨x172, m172, n172, rfl, rfl, h⟩ := rI_out hq
    exact wp_zret dX6_readQuoted_175 rfl h.1 (fun _ => h.2)
theorem dX6_readBracket_0 : decode cX6_readBracket 0 = .ok (.aload_n 0, 1) := by decide +kernel
theorem dX6_readBracket_1 : decode cX6_readBracket 1 = .ok (.getfield 34, 3) := by decide +kernel
theorem dX6_readBracket_4 : decode cX6_readBracket 4 = .ok (.iload_n 2, 1) := by decide +kernel
theorem dX6_readBracket_5 : decode cX6_readBracket 5 = .ok (.iconst (-1), 1) := by decide +kernel
theorem dX6_readBracket_6 : decode cX6_readBracket 6 = .ok (.iastore, 1) := by decide +kernel
theorem dX6_readBracket_7 : decode cX6_readBracket 7 = .ok (.aload_n 0, 1) := by decide +kernel
theorem dX6_readBracket_8 : decode cX6_readBracket 8 = .ok (.getfield 28, 3) := by decide +kernel
theorem dX6_readBracket_11 : decode cX6_readBracket 11 = .ok (.iload_n 2, 1) := by decide +kernel
theorem dX6_readBracket_12 : decode cX6_readBracket 12 = .ok (.iconst 0, 1) := by decide +kernel
theorem dX6_readBracket_13 : decode cX6_readBracket 13 = .ok (.iastore, 1) := by decide +kernel
theorem dX6_readBracket_14 : decode cX6_readBracket 14 = .ok (.aload_n 0, 1) := by decide +kernel
theorem dX6_readBracket_15 : decode cX6_readBracket 15 = .ok (.getfield 45, 3) := by decide +kernel
theorem dX6_readBracket_18 : decode cX6_readBracket 18 = .ok (.invokevirtual 62, 3) := by decide +kernel
theorem dX6_readBracket_21 : decode cX6_readBracket 21 = .ok (.invokestatic 115, 3) := by decide +kernel
theorem dX6_readBracket_24 : decode cX6_readBracket 24 = .ok (.ifCond .eq 22, 3) := by decide +kernel
theorem dX6_readBracket_27 : decode cX6_readBracket 27 = .ok (.aload_n 0, 1) := by decide +kernel
theorem dX6_readBracket_28 : decode cX6_readBracket 28 = .ok (.getfield 25, 3) := by decide +kernel
theorem dX6_readBracket_31 : decode cX6_readBracket 31 = .ok (.iload_n 2, 1) := by decide +kernel
theorem dX6_readBracket_32 : decode cX6_readBracket 32 = .ok (.iconst 0, 1) := by decide +kernel
theorem dX6_readBracket_33 : decode cX6_readBracket 33 = .ok (.iastore, 1) := by decide +kernel
theorem dX6_readBracket_34 : decode cX6_readBracket 34 = .ok (.aload_n 0, 1) := by decide +kernel
theorem dX6_readBracket_35 : decode cX6_readBracket 35 = .ok (.getfield 28, 3) := by decide +kernel
theorem dX6_readBracket_38 : decode cX6_readBracket 38 = .ok (.iload_n 2, 1) := by decide +kernel
theorem dX6_readBracket_39 : decode cX6_readBracket 39 = .ok (.aload_n 0, 1) := by decide +kernel
theorem dX6_readBracket_40 : decode cX6_readBracket 40 = .ok (.invokevirtual 118, 3) := by decide +kernel
theorem dX6_readBracket_43 : decode cX6_readBracket 43 = .ok (.iastore, 1) := by decide +kernel
theorem dX6_readBracket_44 : decode cX6_readBracket 44 = .ok (.iconst 1, 1) := by decide +kernel
theorem dX6_readBracket_45 : decode cX6_readBracket 45 = .ok (.ireturn, 1) := by decide +kernel
theorem dX6_readBracket_46 : decode cX6_readBracket 46 = .ok (.aload_n 0, 1) := by decide +kernel
theorem dX6_readBracket_47 : decode cX6_readBracket 47 = .ok (.getfield 45, 3) := by decide +kernel
theorem dX6_readBracket_50 : decode cX6_readBracket 50 = .ok (.ldc 121, 2) := by decide +kernel
theorem dX6_readBracket_52 : decode cX6_readBracket 52 = .ok (.invokevirtual 56, 3) := by decide +kernel
theorem dX6_readBracket_55 : decode cX6_readBracket 55 = .ok (.ifCond .eq 12, 3) := by decide +kernel
theorem dX6_readBracket_58 : decode cX6_readBracket 58 = .ok (.aload_n 0, 1) := by decide +kernel
theorem dX6_readBracket_59 : decode cX6_readBracket 59 = .ok (.getfield 25, 3) := by decide +kernel
theorem dX6_readBracket_62 : decode cX6_readBracket 62 = .ok (.iload_n 2, 1) := by decide +kernel
theorem dX6_readBracket_63 : decode cX6_readBracket 63 = .ok (.iconst 1, 1) := by decide +kernel
theorem dX6_readBracket_64 : decode cX6_readBracket 64 = .ok (.iastore, 1) := by decide +kernel
theorem dX6_readBracket_65 : decode cX6_readBracket 65 = .ok (.iconst 1, 1) := by decide +kernel
theorem dX6_readBracket_66 : decode cX6_readBracket 66 = .ok (.ireturn, 1) := by decide +kernel
theorem dX6_readBracket_67 : decode cX6_readBracket 67 = .ok (.aload_n 0, 1) := by decide +kernel
theorem dX6_readBracket_68 : decode cX6_readBracket 68 = .ok (.getfield 45, 3) := by decide +kernel
theorem dX6_readBracket_71 : decode cX6_readBracket 71 = .ok (.ldc 123, 2) := by decide +kernel
theorem dX6_readBracket_73 : decode cX6_readBracket 73 = .ok (.invokevirtual 56, 3) := by decide +kernel
theorem dX6_readBracket_76 : decode cX6_readBracket 76 = .ok (.ifCond .eq 16, 3) := by decide +kernel
theorem dX6_readBracket_79 : decode cX6_readBracket 79 = .ok (.aload_n 0, 1) := by decide +kernel
theorem dX6_readBracket_80 : decode cX6_readBracket 80 = .ok (.getfield 25, 3) := by decide +kernel
theorem dX6_readBracket_83 : decode cX6_readBracket 83 = .ok (.iload_n 2, 1) := by decide +kernel
theorem dX6_readBracket_84 : decode cX6_readBracket 84 = .ok (.iconst 2, 1) := by decide +kernel
theorem dX6_readBracket_85 : decode cX6_readBracket 85 = .ok (.iastore, 1) := by decide +kernel
theorem dX6_readBracket_86 : decode cX6_readBracket 86 = .ok (.aload_n 0, 1) := by decide +kernel
theorem dX6_readBracket_87 : decode cX6_readBracket 87 = .ok (.iload_n 2, 1) := by decide +kernel
theorem dX6_readBracket_88 : decode cX6_readBracket 88 = .ok (.invokevirtual 125, 3) := by decide +kernel
theorem dX6_readBracket_91 : decode cX6_readBracket 91 = .ok (.ireturn, 1) := by decide +kernel
theorem dX6_readBracket_92 : decode cX6_readBracket 92 = .ok (.aload_n 0, 1) := by decide +kernel
theorem dX6_readBracket_93 : decode cX6_readBracket 93 = .ok (.getfield 25, 3) := by decide +kernel
theorem dX6_readBracket_96 : decode cX6_readBracket 96 = .ok (.iload_n 2, 1) := by decide +kernel
theorem dX6_readBracket_97 : decode cX6_readBracket 97 = .ok (.aload_n 0, 1) := by decide +kernel
theorem dX6_readBracket_98 : decode cX6_readBracket 98 = .ok (.getfield 45, 3) := by decide +kernel
theorem dX6_readBracket_101 : decode cX6_readBracket 101 = .ok (.ldc 90, 2) := by decide +kernel
theorem dX6_readBracket_103 : decode cX6_readBracket 103 = .ok (.invokevirtual 56, 3) := by decide +kernel
theorem dX6_readBracket_106 : decode cX6_readBracket 106 = .ok (.ifCond .eq 7, 3) := by decide +kernel
theorem dX6_readBracket_109 : decode cX6_readBracket 109 = .ok (.iconst 3, 1) := by decide +kernel
theorem dX6_readBracket_110 : decode cX6_readBracket 110 = .ok (.goto 4, 3) := by decide +kernel
theorem dX6_readBracket_113 : decode cX6_readBracket 113 = .ok (.iconst 4, 1) := by decide +kernel
theorem dX6_readBracket_114 : decode cX6_readBracket 114 = .ok (.iastore, 1) := by decide +kernel
theorem dX6_readBracket_115 : decode cX6_readBracket 115 = .ok (.aload_n 0, 1) := by decide +kernel
theorem dX6_readBracket_116 : decode cX6_readBracket 116 = .ok (.getfield 45, 3) := by decide +kernel
theorem dX6_readBracket_119 : decode cX6_readBracket 119 = .ok (.invokevirtual 94, 3) := by decide +kernel
theorem dX6_readBracket_122 : decode cX6_readBracket 122 = .ok (.ifCond .ne 5, 3) := by decide +kernel
theorem dX6_readBracket_125 : decode cX6_readBracket 125 = .ok (.iconst 0, 1) := by decide +kernel
theorem dX6_readBracket_126 : decode cX6_readBracket 126 = .ok (.ireturn, 1) := by decide +kernel
theorem dX6_readBracket_127 : decode cX6_readBracket 127 = .ok (.aload_n 0, 1) := by decide +kernel
theorem dX6_readBracket_128 : decode cX6_readBracket 128 = .ok (.getfield 28, 3) := by decide +kernel
theorem dX6_readBracket_131 : decode cX6_readBracket 131 = .ok (.iload_n 2, 1) := by decide +kernel
theorem dX6_readBracket_132 : decode cX6_readBracket 132 = .ok (.aload_n 1, 1) := by decide +kernel
theorem dX6_readBracket_133 : decode cX6_readBracket 133 = .ok (.aload_n 0, 1) := by decide +kernel
theorem dX6_readBracket_134 : decode cX6_readBracket 134 = .ok (.getfield 45, 3) := by decide +kernel
theorem dX6_readBracket_137 : decode cX6_readBracket 137 = .ok (.invokevirtual 98, 3) := by decide +kernel
theorem dX6_readBracket_140 : decode cX6_readBracket 140 = .ok (.iastore, 1) := by decide +kernel
theorem dX6_readBracket_141 : decode cX6_readBracket 141 = .ok (.aload_n 0, 1) := by decide +kernel
theorem dX6_readBracket_142 : decode cX6_readBracket 142 = .ok (.getfield 45, 3) := by decide +kernel
theorem dX6_readBracket_145 : decode cX6_readBracket 145 = .ok (.ldc 128, 2) := by decide +kernel
theorem dX6_readBracket_147 : decode cX6_readBracket 147 = .ok (.invokevirtual 56, 3) := by decide +kernel
theorem dX6_readBracket_150 : decode cX6_readBracket 150 = .ok (.ifCond .eq 11, 3) := by decide +kernel
theorem dX6_readBracket_153 : decode cX6_readBracket 153 = .ok (.aload_n 0, 1) := by decide +kernel
theorem dX6_readBracket_154 : decode cX6_readBracket 154 = .ok (.iload_n 2, 1) := by decide +kernel
theorem dX6_readBracket_155 : decode cX6_readBracket 155 = .ok (.invokevirtual 125, 3) := by decide +kernel
theorem dX6_readBracket_158 : decode cX6_readBracket 158 = .ok (.ifCond .eq 7, 3) := by decide +kernel
theorem dX6_readBracket_161 : decode cX6_readBracket 161 = .ok (.iconst 1, 1) := by decide +kernel
theorem dX6_readBracket_162 : decode cX6_readBracket 162 = .ok (.goto 4, 3) := by decide +kernel
theorem dX6_readBracket_165 : decode cX6_readBracket 165 = .ok (.iconst 0, 1) := by decide +kernel
theorem dX6_readBracket_166 : decode cX6_readBracket 166 = .ok (.ireturn, 1) := by decide +kernel
theorem v_X6_readBracket_0 {cs : Cs} {Q : Option AV → Mm → Prop} {MI ML : Nat → Nat → Int} {b d e nw th : Nat} {l2 : Int} (hbd : b = 38 ∨ b = 81)
    (h : (0 ≤ l2 ∧ l2 < 48) ∧ ∀ m6, m6 = up2 MI 22 l2.toNat (-1) → ∀ m13, m13 = up2 m6 20 l2.toNat 0 → wp cs mX1_peek KD (rI (GR d e nw th 1) fun x18 m18 n18 => wp cs mX1_isDigit KD (rI (GR d e nw th 1) fun x21 m21 n21 => ((x21 = 0 → wp cs mX1_takeIf KD (rI (GR d e nw th 1) fun x52 m52 n52 => ((x52 = 0 → wp cs mX1_takeIf KD (rI (GR d e nw th 1) fun x73 m73 n73 => ((x73 = 0 → wp cs mX1_takeIf KD (rI (GR d e nw th 1) fun x103 m103 n103 => ((x103 = 0 → wp cs mX6_readBracket KD Q 114 [some (vR 14), some (vR (b + 1)), some (vI l2)] [vI 4, vI l2, vR 19] (KD, m103, n103, (GR d e nw th 1))) ∧ (x103 ≠ 0 → wp cs mX6_readBracket KD Q 114 [some (vR 14), some (vR (b + 1)), some (vI l2)] [vI 3, vI l2, vR 19] (KD, m103, n103, (GR d e nw th 1))))) 0 (padL [vR 2, vR 1000039] 4) [] (KD, m73, n73, (GR d e nw th 1))) ∧ (x73 ≠ 0 → ∀ m85, m85 = up2 m73 19 l2.toNat 2 → wp cs mX6_readQuoted KD (rI (GR d e nw th 1) fun x88 m88 n88 => (x88 = 0 ∨ x88 = 1) ∧ Q (some (vI x88)) (m88, n88, (GR d e nw th 1))) 0 (padL [vR 14, vI l2] 3) [] (KD, m85, n73, (GR d e nw th 1))))) 0 (padL [vR 2, vR 1000041] 4) [] (KD, m52, n52, (GR d e nw th 1))) ∧ (x52 ≠ 0 → ∀ m64, m64 = up2 m52 19 l2.toNat 1 → Q (some (vI 1)) (m64, n52, (GR d e nw th 1))))) 0 (padL [vR 2, vR 1000040] 4) [] (KD, m21, n21, (GR d e nw th 1))) ∧ (x21 ≠ 0 → ∀ m33, m33 = up2 m21 19 l2.toNat 0 → wp cs mX6_takeNumber KD (rI (GR d e nw th 1) fun x40 m40 n40 => ∀ m43, m43 = up2 m40 20 l2.toNat x40 → Q (some (vI 1)) (m43, n40, (GR d e nw th 1))) 0 (padL [vR 14] 3) [] (KD, m33, n21, (GR d e nw th 1))))) 0 (padL [vI x18] 1) [] (KD, m18, n18, (GR d e nw th 1))) 0 (padL [vR 2] 1) [] (KD, m13, ML, (GR d e nw th 1))) :
    wp cs mX6_readBracket KD Q 0 (padL [vR 14, vR (b + 1), vI l2] 3) [] (KD, MI, ML, (GR d e nw th 1)) := by
  refine wp_L (L' := [some (vR 14), some (vR (b + 1)), some (vI l2)]) rfl ?_
  refine wp_aload_n dX6_readBracket_0 rfl rfl (by first | exact Or.inl (by decide) | exact Or.inl (by omega) | exact Or.inr (by decide) | exact Or.inr (by omega)) ?_
  refine wp_getR dX6_readBracket_1 fX6_34 rfl (by decide) ?_
  refine wp_topR (x' := 22) rfl ?_
  refine wp_iload_n dX6_readBracket_4 rfl rfl ?_
  refine wp_iconst dX6_readBracket_5 (by decide) ?_
  have c0 := h.1
  replace h := h.2
  refine wp_iast dX6_readBracket_6 rfl (by decide) c0 ?_
  refine wp_gI (fun m6 e6 => ?_)
  replace h := h m6 e6
  refine wp_aload_n dX6_readBracket_7 rfl rfl (by first | exact Or.inl (by decide) | exact Or.inl (by omega) | exact Or.inr (by decide) | exact Or.inr (by omega)) ?_
  refine wp_getR dX6_readBracket_8 fX6_28 rfl (by decide) ?_
  refine wp_topR (x' := 20) rfl ?_
  refine wp_pc (pc' := 11) rfl ?_
  refine wp_iload_n dX6_readBracket_11 rfl rfl ?_
  refine wp_iconst dX6_readBracket_12 (by decide) ?_
  refine wp_iast dX6_readBracket_13 rfl (by decide) c0 ?_
  refine wp_gI (fun m13 e13 => ?_)
  replace h := h m13 e13
  refine wp_aload_n dX6_readBracket_14 rfl rfl (by first | exact Or.inl (by decide) | exact Or.inl (by omega) | exact Or.inr (by decide) | exact Or.inr (by omega)) ?_
  refine wp_getR dX6_readBracket_15 fX6_45 rfl (by decide) ?_
  refine wp_topR (x' := 2) rfl ?_
  refine wp_cVq (n := 0) (mt' := mX1_peek) (as := []) (rest := []) _ dX6_readBracket_18 lX6_62 kX1_peek vX1_peek (by decide) (by decide +kernel) rfl (Nat.le_of_ble_eq_true rfl) (by decide) rfl rfl rfl (Nat.le_of_ble_eq_true rfl) (fun hM hS => h) (fun r M' hq hM => ?_)
  obtain ⟨x18, m18, n18, rfl, rfl, h⟩ := rI_out hq
  refine wp_cSq (n := 1) (mt' := mX1_isDigit) (as := [vI x18]) (rest := []) _ dX6_readBracket_21 lX6_115 kX1_isDigit vX1_isDigit (by decide) (by decide +kernel) rfl (Nat.le_of_ble_eq_true rfl) rfl (Nat.le_of_ble_eq_true rfl) (fun hM hS => h) (fun r M' hq hM => ?_)
  obtain ⟨x21, m21, n21, rfl, rfl, h⟩ := rI_out hq
  refine wp_if_eq (tgt := 46) dX6_readBracket_24 (by decide) (fun h24 => ?_) (fun h24 => ?_)
  · replace h := h.1 h24
    refine wp_aload_n dX6_readBracket_46 rfl rfl (by first | exact Or.inl (by decide) | exact Or.inl (by omega) | exact Or.inr (by decide) | exact Or.inr (by omega)) ?_
    refine wp_getR dX6_readBracket_47 fX6_45 rfl (by decide) ?_
    refine wp_topR (x' := 2) rfl ?_
    refine wp_ldcS (k := 37) dX6_readBracket_50 cX6_121 ?_
    refine wp_cVq (n := 1) (mt' := mX1_takeIf) (as := [vR 1000040]) (rest := []) _ dX6_readBracket_52 lX6_56 kX1_takeIf vX1_takeIf (by decide) (by decide +kernel) rfl (Nat.le_of_ble_eq_true rfl) (by decide) rfl rfl rfl (Nat.le_of_ble_eq_true rfl) (fun hM hS => h) (fun r M' hq hM => ?_)
    obtain ⟨x52, m52, n52, rfl, rfl, h⟩ := rI_out hq
    refine wp_if_eq (tgt := 67) dX6_readBracket_55 (by decide) (fun h55 => ?_) (fun h55 => ?_)
    · replace h := h.1 h55
      refine wp_aload_n dX6_readBracket_67 rfl rfl (by first | exact Or.inl (by decide) | exact Or.inl (by omega) | exact Or.inr (by decide) | exact Or.inr (by omega)) ?_
      refine wp_getR dX6_readBracket_68 fX6_45 rfl (by decide) ?_
      refine wp_topR (x' := 2) rfl ?_
      refine wp_ldcS (k := 38) dX6_readBracket_71 cX6_123 ?_
      refine wp_cVq (n := 1) (mt' := mX1_takeIf) (as := [vR 1000041]) (rest := []) _ dX6_readBracket_73 lX6_56 kX1_takeIf vX1_takeIf (by decide) (by decide +kernel) rfl (Nat.le_of_ble_eq_true rfl) (by decide) rfl rfl rfl (Nat.le_of_ble_eq_true rfl) (fun hM hS => h) (fun r M' hq hM => ?_)
      obtain ⟨x73, m73, n73, rfl, rfl, h⟩ := rI_out hq
      refine wp_if_eq (tgt := 92) dX6_readBracket_76 (by decide) (fun h76 => ?_) (fun h76 => ?_)
      · replace h := h.1 h76
        refine wp_aload_n dX6_readBracket_92 rfl rfl (by first | exact Or.inl (by decide) | exact Or.inl (by omega) | exact Or.inr (by decide) | exact Or.inr (by omega)) ?_
        refine wp_getR dX6_readBracket_93 fX6_25 rfl (by decide) ?_
        refine wp_topR (x' := 19) rfl ?_
        refine wp_iload_n dX6_readBracket_96 rfl rfl ?_
        refine wp_aload_n dX6_readBracket_97 rfl rfl (by first | exact Or.inl (by decide) | exact Or.inl (by omega) | exact Or.inr (by decide) | exact Or.inr (by omega)) ?_
        refine wp_getR dX6_readBracket_98 fX6_45 rfl (by decide) ?_
        refine wp_topR (x' := 2) rfl ?_
        refine wp_ldcS (k := 36) dX6_readBracket_101 cX6_90 ?_
        refine wp_cVq (n := 1) (mt' := mX1_takeIf) (as := [vR 1000039]) (rest := [vI l2, vR 19]) _ dX6_readBracket_103 lX6_56 kX1_takeIf vX1_takeIf (by decide) (by decide +kernel) rfl (Nat.le_of_ble_eq_true rfl) (by decide) rfl rfl rfl (Nat.le_of_ble_eq_true rfl) (fun hM hS => h) (fun r M' hq hM => ?_)
        obtain ⟨x103, m103, n103, rfl, rfl, h⟩ := rI_out hq
        refine wp_if_eq (tgt := 113) dX6_readBracket_106 (by decide) (fun h106 => ?_) (fun h106 => ?_)
        · replace h := h.1 h106
          refine wp_iconst dX6_readBracket_113 (by decide) ?_
          exact h
        · replace h := h.2 h106
          refine wp_iconst dX6_readBracket_109 (by decide) ?_
          refine wp_goto (tgt := 114) dX6_readBracket_110 (by decide) ?_
          exact h
      · replace h := h.2 h76
        refine wp_aload_n dX6_readBracket_79 rfl rfl (by first | exact Or.inl (by decide) | exact Or.inl (by omega) | exact Or.inr (by decide) | exact Or.inr (by omega)) ?_
        refine wp_getR dX6_readBracket_80 fX6_25 rfl (by decide) ?_
        refine wp_topR (x' := 19) rfl ?_
        refine wp_iload_n dX6_readBracket_83 rfl rfl ?_
        refine wp_iconst dX6_readBracket_84 (by decide) ?_
        refine wp_iast dX6_readBracket_85 rfl (by decide) c0 ?_
        refine wp_gI (fun m85 e85 => ?_)
        replace h := h m85 e85
        refine wp_aload_n dX6_readBracket_86 rfl rfl (by first | exact Or.inl (by decide) | exact Or.inl (by omega) | exact Or.inr (by decide) | exact Or.inr (by omega)) ?_
        refine wp_iload_n dX6_readBracket_87 rfl rfl ?_
        refine wp_pc (pc' := 88) rfl ?_
        refine wp_cVq (n := 1) (mt' := mX6_readQuoted) (as := [vI l2]) (rest := []) _ dX6_readBracket_88 lX6_125 kX6_readQuoted vX6_readQuoted (by decide) (by decide +kernel) rfl (Nat.le_of_ble_eq_true rfl) (by decide) rfl rfl rfl (Nat.le_of_ble_eq_true rfl) (fun hM hS => h) (fun r M' hq hM => ?_)
        obtain ⟨x88, m88, n88, rfl, rfl, h⟩ := rI_out hq
        exact wp_zret dX6_readBracket_91 rfl h.1 (fun _ => h.2)
    · replace h := h.2 h55
      refine wp_aload_n dX6_readBracket_58 rfl rfl (by first | exact Or.inl (by decide) | exact Or.inl (by omega) | exact Or.inr (by decide) | exact Or.inr (by omega)) ?_
      refine wp_getR dX6_readBracket_59 fX6_25 rfl (by decide) ?_
      refine wp_topR (x' := 19) rfl ?_
      refine wp_iload_n dX6_readBracket_62 rfl rfl ?_
      refine wp_iconst dX6_readBracket_63 (by decide) ?_
      refine wp_iast dX6_readBracket_64 rfl (by decide) c0 ?_
      refine wp_gI (fun m64 e64 => ?_)
      replace h := h m64 e64
      refine wp_iconst dX6_readBracket_65 (by decide) ?_
      exact wp_zret dX6_readBracket_66 rfl (by decide) (fun _ => h)
  · replace h := h.2 h24
    refine wp_aload_n dX6_readBracket_27 rfl rfl (by first | exact Or.inl (by decide) | exact Or.inl (by omega) | exact Or.inr (by decide) | exact Or.inr (by omega)) ?_
    refine wp_getR dX6_readBracket_28 fX6_25 rfl (by decide) ?_
    refine wp_topR (x' := 19) rfl ?_
    refine wp_iload_n dX6_readBracket_31 rfl rfl ?_
    refine wp_iconst dX6_readBracket_32 (by decide) ?_
    refine wp_iast dX6_readBracket_33 rfl (by decide) c0 ?_
    refine wp_gI (fun m33 e33 => ?_)
    replace h := h m33 e33
    refine wp_aload_n dX6_readBracket_34 rfl rfl (by first | exact Or.inl (by decide) | exact Or.inl (by omega) | exact Or.inr (by decide) | exact Or.inr (by omega)) ?_
    refine wp_getR dX6_readBracket_35 fX6_28 rfl (by decide) ?_
    refine wp_topR (x' := 20) rfl ?_
    refine wp_pc (pc' := 38) rfl ?_
    refine wp_iload_n dX6_readBracket_38 rfl rfl ?_
    refine wp_aload_n dX6_readBracket_39 rfl rfl (by first | exact Or.inl (by decide) | exact Or.inl (by omega) | exact Or.inr (by decide) | exact Or.inr (by omega)) ?_
    refine wp_cVq (n := 0) (mt' := mX6_takeNumber) (as := []) (rest := [vI l2, vR 20]) _ dX6_readBracket_40 lX6_118 kX6_takeNumber vX6_takeNumber (by decide) (by decide +kernel) rfl (Nat.le_of_ble_eq_true rfl) (by decide) rfl rfl rfl (Nat.le_of_ble_eq_true rfl) (fun hM hS => h) (fun r M' hq hM => ?_)
    obtain ⟨x40, m40, n40, rfl, rfl, h⟩ := rI_out hq
    refine wp_iast dX6_readBracket_43 rfl (by decide) c0 ?_
    refine wp_gI (fun m43 e43 => ?_)
    replace h := h m43 e43
    refine wp_iconst dX6_readBracket_44 (by decide) ?_
    exact wp_zret dX6_readBracket_45 rfl (by decide) (fun _ => h)
theorem v_X6_readBracket_114 {cs : Cs} {Q : Option AV → Mm → Prop} {MI ML : Nat → Nat → Int} {b d e nw th : Nat} {l2 s0 s1 : Int} (hbd : b = 38 ∨ b = 81)
    (h : (0 ≤ s1 ∧ s1 < 48) ∧ ∀ m114, m114 = up2 MI 19 s1.toNat s0 → wp cs mX1_needName KD (rI (GR d e nw th 1) fun x119 m119 n119 => ((x119 = 0 → Q (some (vI 0)) (m119, n119, (GR d e nw th 1))) ∧ (x119 ≠ 0 → wp cs mX5_find KD (rI (GR d e nw th 1) fun x137 m137 n137 => (0 ≤ l2 ∧ l2 < 48) ∧ ∀ m140, m140 = up2 m137 20 l2.toNat x137 → wp cs mX1_takeIf KD (rI (GR d e nw th 1) fun x147 m147 n147 => ((x147 = 0 → Q (some (vI 1)) (m147, n147, (GR d e nw th 1))) ∧ (x147 ≠ 0 → wp cs mX6_readQuoted KD (rI (GR d e nw th 1) fun x155 m155 n155 => ((x155 = 0 → Q (some (vI 0)) (m155, n155, (GR d e nw th 1))) ∧ (x155 ≠ 0 → Q (some (vI 1)) (m155, n155, (GR d e nw th 1))))) 0 (padL [vR 14, vI l2] 3) [] (KD, m147, n147, (GR d e nw th 1))))) 0 (padL [vR 2, vR 1000031] 4) [] (KD, m140, n137, (GR d e nw th 1))) 0 (padL [vR (b + 1), vR 2] 4) [] (KD, m119, n119, (GR d e nw th 1))))) 0 (padL [vR 2] 1) [] (KD, m114, ML, (GR d e nw th 1))) :
    wp cs mX6_readBracket KD Q 114 [some (vR 14), some (vR (b + 1)), some (vI l2)] [vI s0, vI s1, vR 19] (KD, MI, ML, (GR d e nw th 1)) := by
  have c0 := h.1
  replace h := h.2
  refine wp_iast dX6_readBracket_114 rfl (by decide) c0 ?_
  refine wp_gI (fun m114 e114 => ?_)
  replace h := h m114 e114
  refine wp_aload_n dX6_readBracket_115 rfl rfl (by first | exact Or.inl (by decide) | exact Or.inl (by omega) | exact Or.inr (by decide) | exact Or.inr (by omega)) ?_
  refine wp_getR dX6_readBracket_116 fX6_45 rfl (by decide) ?_
  refine wp_topR (x' := 2) rfl ?_
  refine wp_cVq (n := 0) (mt' := mX1_needName) (as := []) (rest := []) _ dX6_readBracket_119 lX6_94 kX1_needName vX1_needName (by decide) (by decide +kernel) rfl (Nat.le_of_ble_eq_true rfl) (by decide) rfl rfl rfl (Nat.le_of_ble_eq_true rfl) (fun hM hS => h) (fun r M' hq hM => ?_)
  obtain ⟨x119, m119, n119, rfl, rfl, h⟩ := rI_out hq
  refine wp_if_ne (tgt := 127) dX6_readBracket_122 (by decide) (fun h122 => ?_) (fun h122 => ?_)
  · replace h := h.2 h122
    refine wp_aload_n dX6_readBracket_127 rfl rfl (by first | exact Or.inl (by decide) | exact Or.inl (by omega) | exact Or.inr (by decide) | exact Or.inr (by omega)) ?_
    refine wp_getR dX6_readBracket_128 fX6_28 rfl (by decide) ?_
    refine wp_topR (x' := 20) rfl ?_
    refine wp_iload_n dX6_readBracket_131 rfl rfl ?_
    refine wp_aload_n dX6_readBracket_132 rfl rfl (by first | exact Or.inl (by decide) | exact Or.inl (by omega) | exact Or.inr (by decide) | exact Or.inr (by omega)) ?_
    refine wp_aload_n dX6_readBracket_133 rfl rfl (by first | exact Or.inl (by decide) | exact Or.inl (by omega) | exact Or.inr (by decide) | exact Or.inr (by omega)) ?_
    refine wp_getR dX6_readBracket_134 fX6_45 rfl (by decide) ?_
    refine wp_topR (x' := 2) rfl ?_
    refine wp_cVq (n := 1) (mt' := mX5_find) (as := [vR 2]) (rest := [vI l2, vR 20]) _ dX6_readBracket_137 lX6_98 kX5_find vX5_find (by decide) (by decide +kernel) rfl (Nat.le_of_ble_eq_true rfl) (by omega) (kdb_1 hbd) rfl rfl (Nat.le_of_ble_eq_true rfl) (fun hM hS => h) (fun r M' hq hM => ?_)
    obtain ⟨x137, m137, n137, rfl, rfl, h⟩ := rI_out hq
    have c1 := h.1
    replace h := h.2
    refine wp_iast dX6_readBracket_140 rfl (by decide) c1 ?_
    refine wp_gI (fun m140 e140 => ?_)
    replace h := h m140 e140
    refine wp_aload_n dX6_readBracket_141 rfl rfl (by first | exact Or.inl (by decide) | exact Or.inl (by omega) | exact Or.inr (by decide) | exact Or.inr (by omega)) ?_
    refine wp_getR dX6_readBracket_142 fX6_45 rfl (by decide) ?_
    refine wp_topR (x' := 2) rfl ?_
    refine wp_ldcS (k := 28) dX6_readBracket_145 cX6_128 ?_
    refine wp_cVq (n := 1) (mt' := mX1_takeIf) (as := [vR 1000031]) (rest := []) _ dX6_readBracket_147 lX6_56 kX1_takeIf vX1_takeIf (by decide) (by decide +kernel) rfl (Nat.le_of_ble_eq_true rfl) (by decide) rfl rfl rfl (Nat.le_of_ble_eq_true rfl) (fun hM hS => h) (fun r M' hq hM => ?_)
    obtain ⟨x147, m147, n147, rfl, rfl, h⟩ := rI_out hq
    refine wp_if_eq (tgt := 161) dX6_readBracket_150 (by decide) (fun h150 => ?_) (fun h150 => ?_)
    · replace h := h.1 h150
      refine wp_iconst dX6_readBracket_161 (by decide) ?_
      refine wp_goto (tgt := 166) dX6_readBracket_162 (by decide) ?_
      exact wp_zret dX6_readBracket_166 rfl (by decide) (fun _ => h)
    · replace h := h.2 h150
      refine wp_aload_n dX6_readBracket_153 rfl rfl (by first | exact Or.inl (by decide) | exact Or.inl (by omega) | exact Or.inr (by decide) | exact Or.inr (by omega)) ?_
      refine wp_iload_n dX6_readBracket_154 rfl rfl ?_
      refine wp_cVq (n := 1) (mt' := mX6_readQuoted) (as := [vI l2]) (rest := []) _ dX6_readBracket_155 lX6_125 kX6_readQuoted vX6_readQuoted (by decide) (by decide +kernel) rfl (Nat.le_of_ble_eq_true rfl) (by decide) rfl rfl rfl (Nat.le_of_ble_eq_true rfl) (fun hM hS => h) (fun r M' hq hM => ?_)
      obtain ⟨x155, m155, n155, rfl, rfl, h⟩ := rI_out hq
      refine wp_if_eq (tgt := 165) dX6_readBracket_158 (by decide) (fun h158 => ?_) (fun h158 => ?_)
      · replace h := h.1 h158
        refine wp_iconst dX6_readBracket_165 (by decide) ?_
        exact wp_zret dX6_readBracket_166 rfl (by decide) (fun _ => h)
      · replace h := h.2 h158
        refine wp_iconst dX6_readBracket_161 (by decide) ?_
        refine wp_goto (tgt := 166) dX6_readBracket_162 (by decide) ?_
        exact wp_zret dX6_readBracket_166 rfl (by decide) (fun _ => h)
  · replace h := h.1 h122
    refine wp_iconst dX6_readBracket_125 (by decide) ?_
    exact wp_zret dX6_readBracket_126 rfl (by decide) (fun _ => h)
theorem dX6_readBrackets_0 : decode cX6_readBrackets 0 = .ok (.iconst 0, 1) := by decide +kernel
theorem dX6_readBrackets_1 : decode cX6_readBrackets 1 = .ok (.istore_n 3, 1) := by decide +kernel
theorem dX6_readBrackets_2 : decode cX6_readBrackets 2 = .ok (.iload_n 3, 1) := by decide +kernel
theorem dX6_readBrackets_3 : decode cX6_readBrackets 3 = .ok (.iconst 4, 1) := by decide +kernel
theorem dX6_readBrackets_4 : decode cX6_readBrackets 4 = .ok (.if_icmp .gt 86, 3) := by decide +kernel
theorem dX6_readBrackets_7 : decode cX6_readBrackets 7 = .ok (.aload_n 0, 1) := by decide +kernel
theorem dX6_readBrackets_8 : decode cX6_readBrackets 8 = .ok (.getfield 45, 3) := by decide +kernel
theorem dX6_readBrackets_11 : decode cX6_readBrackets 11 = .ok (.getfield 77, 3) := by decide +kernel
theorem dX6_readBrackets_14 : decode cX6_readBrackets 14 = .ok (.istore 4, 2) := by decide +kernel
theorem dX6_readBrackets_16 : decode cX6_readBrackets 16 = .ok (.aload_n 0, 1) := by decide +kernel
theorem dX6_readBrackets_17 : decode cX6_readBrackets 17 = .ok (.getfield 45, 3) := by decide +kernel
theorem dX6_readBrackets_20 : decode cX6_readBrackets 20 = .ok (.ldc 108, 2) := by decide +kernel
theorem dX6_readBrackets_22 : decode cX6_readBrackets 22 = .ok (.invokevirtual 56, 3) := by decide +kernel
theorem dX6_readBrackets_25 : decode cX6_readBrackets 25 = .ok (.ifCond .ne 5, 3) := by decide +kernel
theorem dX6_readBrackets_28 : decode cX6_readBrackets 28 = .ok (.iconst 1, 1) := by decide +kernel
theorem dX6_readBrackets_29 : decode cX6_readBrackets 29 = .ok (.ireturn, 1) := by decide +kernel
theorem dX6_readBrackets_30 : decode cX6_readBrackets 30 = .ok (.iload_n 3, 1) := by decide +kernel
theorem dX6_readBrackets_31 : decode cX6_readBrackets 31 = .ok (.iconst 4, 1) := by decide +kernel
theorem dX6_readBrackets_32 : decode cX6_readBrackets 32 = .ok (.if_icmp .lt 15, 3) := by decide +kernel
theorem dX6_readBrackets_35 : decode cX6_readBrackets 35 = .ok (.aload_n 0, 1) := by decide +kernel
theorem dX6_readBrackets_36 : decode cX6_readBrackets 36 = .ok (.getfield 45, 3) := by decide +kernel
theorem dX6_readBrackets_39 : decode cX6_readBrackets 39 = .ok (.bipush (-3), 2) := by decide +kernel
theorem dX6_readBrackets_41 : decode cX6_readBrackets 41 = .ok (.iload 4, 2) := by decide +kernel
theorem dX6_readBrackets_43 : decode cX6_readBrackets 43 = .ok (.invokevirtual 80, 3) := by decide +kernel
theorem dX6_readBrackets_46 : decode cX6_readBrackets 46 = .ok (.ireturn, 1) := by decide +kernel
theorem dX6_readBrackets_47 : decode cX6_readBrackets 47 = .ok (.aload_n 0, 1) := by decide +kernel
theorem dX6_readBrackets_48 : decode cX6_readBrackets 48 = .ok (.aload_n 1, 1) := by decide +kernel
theorem dX6_readBrackets_49 : decode cX6_readBrackets 49 = .ok (.iload_n 2, 1) := by decide +kernel
theorem dX6_readBrackets_50 : decode cX6_readBrackets 50 = .ok (.iconst 4, 1) := by decide +kernel
theorem dX6_readBrackets_51 : decode cX6_readBrackets 51 = .ok (.imul, 1) := by decide +kernel
theorem dX6_readBrackets_52 : decode cX6_readBrackets 52 = .ok (.iload_n 3, 1) := by decide +kernel
theorem dX6_readBrackets_53 : decode cX6_readBrackets 53 = .ok (.iadd, 1) := by decide +kernel
theorem dX6_readBrackets_54 : decode cX6_readBrackets 54 = .ok (.invokevirtual 110, 3) := by decide +kernel
theorem dX6_readBrackets_57 : decode cX6_readBrackets 57 = .ok (.ifCond .eq 15, 3) := by decide +kernel
theorem dX6_readBrackets_60 : decode cX6_readBrackets 60 = .ok (.aload_n 0, 1) := by decide +kernel
theorem dX6_readBrackets_61 : decode cX6_readBrackets 61 = .ok (.getfield 45, 3) := by decide +kernel
theorem dX6_readBrackets_64 : decode cX6_readBrackets 64 = .ok (.ldc 113, 2) := by decide +kernel
theorem dX6_readBrackets_66 : decode cX6_readBrackets 66 = .ok (.invokevirtual 70, 3) := by decide +kernel
theorem dX6_readBrackets_69 : decode cX6_readBrackets 69 = .ok (.ifCond .ne 5, 3) := by decide +kernel
theorem dX6_readBrackets_72 : decode cX6_readBrackets 72 = .ok (.iconst 0, 1) := by decide +kernel
theorem dX6_readBrackets_73 : decode cX6_readBrackets 73 = .ok (.ireturn, 1) := by decide +kernel
theorem dX6_readBrackets_74 : decode cX6_readBrackets 74 = .ok (.aload_n 0, 1) := by decide +kernel
theorem dX6_readBrackets_75 : decode cX6_readBrackets 75 = .ok (.getfield 22, 3) := by decide +kernel
theorem dX6_readBrackets_78 : decode cX6_readBrackets 78 = .ok (.iload_n 2, 1) := by decide +kernel
theorem dX6_readBrackets_79 : decode cX6_readBrackets 79 = .ok (.dup2, 1) := by decide +kernel
theorem dX6_readBrackets_80 : decode cX6_readBrackets 80 = .ok (.iaload, 1) := by decide +kernel
theorem dX6_readBrackets_81 : decode cX6_readBrackets 81 = .ok (.iconst 1, 1) := by decide +kernel
theorem dX6_readBrackets_82 : decode cX6_readBrackets 82 = .ok (.iadd, 1) := by decide +kernel
theorem dX6_readBrackets_83 : decode cX6_readBrackets 83 = .ok (.iastore, 1) := by decide +kernel
theorem dX6_readBrackets_84 : decode cX6_readBrackets 84 = .ok (.iinc 3 1, 3) := by decide +kernel
theorem dX6_readBrackets_87 : decode cX6_readBrackets 87 = .ok (.goto (-85), 3) := by decide +kernel
theorem dX6_readBrackets_90 : decode cX6_readBrackets 90 = .ok (.iconst 1, 1) := by decide +kernel
theorem dX6_readBrackets_91 : decode cX6_readBrackets 91 = .ok (.ireturn, 1) := by decide +kernel
theorem v_X6_readBrackets_0 {cs : Cs} {Q : Option AV → Mm → Prop} {MI ML : Nat → Nat → Int} {b d e nw th : Nat} {l2 : Int}
    (h : wp cs mX6_readBrackets KD Q 2 [some (vR 14), some (vR (b + 1)), some (vI l2), some (vI 0), none] [] (KD, MI, ML, (GR d e nw th 1))) :
    wp cs mX6_readBrackets KD Q 0 (padL [vR 14, vR (b + 1), vI l2] 5) [] (KD, MI, ML, (GR d e nw th 1)) := by
  refine wp_L (L' := [some (vR 14), some (vR (b + 1)), some (vI l2), none, none]) rfl ?_
  refine wp_iconst dX6_readBrackets_0 (by decide) ?_
  refine wp_istore_n dX6_readBrackets_1 rfl (by decide) (wp_L (L' := [some (vR 14), some (vR (b + 1)), some (vI l2), some (vI 0), none]) rfl ?_)
  exact h
theorem v_X6_readBrackets_2 {cs : Cs} {Q : Option AV → Mm → Prop} {MI ML : Nat → Nat → Int} {b d e nw th : Nat} {l2 l3 : Int} (hbd : b = 38 ∨ b = 81)
    (h : ((4 < l3 → Q (some (vI 1)) (MI, ML, (GR d e nw th 1))) ∧ (l3 ≤ 4 → wp cs mX1_takeIf KD (rI (GR d e nw th 1) fun x22 m22 n22 => ((x22 = 0 → Q (some (vI 1)) (m22, n22, (GR d e nw th 1))) ∧ (x22 ≠ 0 → ((l3 < 4 → (-2147483648 ≤ l2 * 4 ∧ l2 * 4 < 2147483648) ∧ (-2147483648 ≤ (l2 * 4) + l3 ∧ (l2 * 4) + l3 < 2147483648) ∧ wp cs mX6_readBracket KD (rI (GR d e nw th 1) fun x54 m54 n54 => ((x54 = 0 → Q (some (vI 0)) (m54, n54, (GR d e nw th 1))) ∧ (x54 ≠ 0 → wp cs mX1_take KD (rI (GR d e nw th 1) fun x66 m66 n66 => ((x66 = 0 → Q (some (vI 0)) (m66, n66, (GR d e nw th 1))) ∧ (x66 ≠ 0 → (0 ≤ l2 ∧ l2 < 12) ∧ (-2147483648 ≤ (m66 18 l2.toNat) + 1 ∧ (m66 18 l2.toNat) + 1 < 2147483648) ∧ ∀ m83, m83 = up2 m66 18 l2.toNat ((m66 18 l2.toNat) + 1) → (-2147483648 ≤ l3 + 1 ∧ l3 + 1 < 2147483648) ∧ wp cs mX6_readBrackets KD Q 2 [some (vR 14), some (vR (b + 1)), some (vI l2), some (vI (l3 + 1)), none] [] (KD, m83, n66, (GR d e nw th 1))))) 0 (padL [vR 2, vR 1000008] 2) [] (KD, m54, n54, (GR d e nw th 1))))) 0 (padL [vR 14, vR (b + 1), vI ((l2 * 4) + l3)] 3) [] (KD, m22, n22, (GR d e nw th 1))) ∧ (4 ≤ l3 → wp cs mX1_refuse KD (rI (GR d e nw th 1) fun x43 m43 n43 => (x43 = 0 ∨ x43 = 1) ∧ Q (some (vI x43)) (m43, n43, (GR d e nw th 1))) 0 (padL [vR 2, vI (-3), vI (MI 2 2)] 3) [] (KD, m22, n22, (GR d e nw th 1))))))) 0 (padL [vR 2, vR 1000007] 4) [] (KD, MI, ML, (GR d e nw th 1))))) :
    wp cs mX6_readBrackets KD Q 2 [some (vR 14), some (vR (b + 1)), some (vI l2), some (vI l3), none] [] (KD, MI, ML, (GR d e nw th 1)) := by
  refine wp_iload_n dX6_readBrackets_2 rfl rfl ?_
  refine wp_iconst dX6_readBrackets_3 (by decide) ?_
  refine wp_icmp_gt (tgt := 90) dX6_readBrackets_4 (by decide) (fun h4 => ?_) (fun h4 => ?_)
  · replace h := h.1 h4
    refine wp_iconst dX6_readBrackets_90 (by decide) ?_
    exact wp_zret dX6_readBrackets_91 rfl (by decide) (fun _ => h)
  · replace h := h.2 h4
    refine wp_aload_n dX6_readBrackets_7 rfl rfl (by first | exact Or.inl (by decide) | exact Or.inl (by omega) | exact Or.inr (by decide) | exact Or.inr (by omega)) ?_
    refine wp_getR dX6_readBrackets_8 fX6_45 rfl (by decide) ?_
    refine wp_topR (x' := 2) rfl ?_
    refine wp_getI dX6_readBrackets_11 fX6_77 rfl (by decide) ?_
    refine wp_istore dX6_readBrackets_14 (by decide) (wp_L (L' := [some (vR 14), some (vR (b + 1)), some (vI l2), some (vI l3), some (vI (MI 2 2))]) rfl ?_)
    refine wp_aload_n dX6_readBrackets_16 rfl rfl (by first | exact Or.inl (by decide) | exact Or.inl (by omega) | exact Or.inr (by decide) | exact Or.inr (by omega)) ?_
    refine wp_getR dX6_readBrackets_17 fX6_45 rfl (by decide) ?_
    refine wp_topR (x' := 2) rfl ?_
    refine wp_ldcS (k := 4) dX6_readBrackets_20 cX6_108 ?_
    refine wp_pc (pc' := 22) rfl ?_
    refine wp_cVq (n := 1) (mt' := mX1_takeIf) (as := [vR 1000007]) (rest := []) _ dX6_readBrackets_22 lX6_56 kX1_takeIf vX1_takeIf (by decide) (by decide +kernel) rfl (Nat.le_of_ble_eq_true rfl) (by decide) rfl rfl rfl (Nat.le_of_ble_eq_true rfl) (fun hM hS => h) (fun r M' hq hM => ?_)
    obtain ⟨x22, m22, n22, rfl, rfl, h⟩ := rI_out hq
    refine wp_if_ne (tgt := 30) dX6_readBrackets_25 (by decide) (fun h25 => ?_) (fun h25 => ?_)
    · replace h := h.2 h25
      refine wp_iload_n dX6_readBrackets_30 rfl rfl ?_
      refine wp_iconst dX6_readBrackets_31 (by decide) ?_
      refine wp_icmp_lt (tgt := 47) dX6_readBrackets_32 (by decide) (fun h32 => ?_) (fun h32 => ?_)
      · replace h := h.1 h32
        refine wp_aload_n dX6_readBrackets_47 rfl rfl (by first | exact Or.inl (by decide) | exact Or.inl (by omega) | exact Or.inr (by decide) | exact Or.inr (by omega)) ?_
        refine wp_aload_n dX6_readBrackets_48 rfl rfl (by first | exact Or.inl (by decide) | exact Or.inl (by omega) | exact Or.inr (by decide) | exact Or.inr (by omega)) ?_
        refine wp_iload_n dX6_readBrackets_49 rfl rfl ?_
        refine wp_iconst dX6_readBrackets_50 (by decide) ?_
        have c0 := h.1
        replace h := h.2
        refine wp_imulr dX6_readBrackets_51 c0 ?_
        refine wp_iload_n dX6_readBrackets_52 rfl rfl ?_
        have c1 := h.1
        replace h := h.2
        refine wp_iaddr dX6_readBrackets_53 c1 ?_
        refine wp_pc (pc' := 54) rfl ?_
        refine wp_cVq (n := 2) (mt' := mX6_readBracket) (as := [vR (b + 1), vI ((l2 * 4) + l3)]) (rest := []) _ dX6_readBrackets_54 lX6_110 kX6_readBracket vX6_readBracket (by decide) (by decide +kernel) rfl (Nat.le_of_ble_eq_true rfl) (by decide) rfl rfl rfl (Nat.le_of_ble_eq_true rfl) (fun hM hS => h) (fun r M' hq hM => ?_)
        obtain ⟨x54, m54, n54, rfl, rfl, h⟩ := rI_out hq
        refine wp_if_eq (tgt := 72) dX6_readBrackets_57 (by decide) (fun h57 => ?_) (fun h57 => ?_)
        · replace h := h.1 h57
          refine wp_iconst dX6_readBrackets_72 (by decide) ?_
          exact wp_zret dX6_readBrackets_73 rfl (by decide) (fun _ => h)
        · replace h := h.2 h57
          refine wp_aload_n dX6_readBrackets_60 rfl rfl (by first | exact Or.inl (by decide) | exact Or.inl (by omega) | exact Or.inr (by decide) | exact Or.inr (by omega)) ?_
          refine wp_getR dX6_readBrackets_61 fX6_45 rfl (by decide) ?_
          refine wp_topR (x' := 2) rfl ?_
          refine wp_ldcS (k := 5) dX6_readBrackets_64 cX6_113 ?_
          refine wp_cVq (n := 1) (mt' := mX1_take) (as := [vR 1000008]) (rest := []) _ dX6_readBrackets_66 lX6_70 kX1_take vX1_take (by decide) (by decide +kernel) rfl (Nat.le_of_ble_eq_true rfl) (by decide) rfl rfl rfl (Nat.le_of_ble_eq_true rfl) (fun hM hS => h) (fun r M' hq hM => ?_)
          obtain ⟨x66, m66, n66, rfl, rfl, h⟩ := rI_out hq
          refine wp_if_ne (tgt := 74) dX6_readBrackets_69 (by decide) (fun h69 => ?_) (fun h69 => ?_)
          · replace h := h.2 h69
            refine wp_aload_n dX6_readBrackets_74 rfl rfl (by first | exact Or.inl (by decide) | exact Or.inl (by omega) | exact Or.inr (by decide) | exact Or.inr (by omega)) ?_
            refine wp_getR dX6_readBrackets_75 fX6_22 rfl (by decide) ?_
            refine wp_topR (x' := 18) rfl ?_
            refine wp_iload_n dX6_readBrackets_78 rfl rfl ?_
            refine wp_dup2 dX6_readBrackets_79 (fun x e => by cases e) (fun x e => by cases e) ?_
            have c2 := h.1
            replace h := h.2
            refine wp_iald dX6_readBrackets_80 rfl (by decide) c2 ?_
            refine wp_iconst dX6_readBrackets_81 (by decide) ?_
            have c3 := h.1
            replace h := h.2
            refine wp_iaddr dX6_readBrackets_82 c3 ?_
            refine wp_pc (pc' := 83) rfl ?_
            refine wp_iast dX6_readBrackets_83 rfl (by decide) c2 ?_
            refine wp_gI (fun m83 e83 => ?_)
            replace h := h m83 e83
            have c4 := h.1
            replace h := h.2
            refine wp_iincr dX6_readBrackets_84 rfl (by decide) c4 (wp_L (L' := [some (vR 14), some (vR (b + 1)), some (vI l2), some (vI (l3 + 1)), some (vI (MI 2 2))]) rfl ?_)
            refine wp_goto (tgt := 2) dX6_readBrackets_87 (by decide) ?_
            refine wp_forget (L' := [some (vR 14), some (vR (b + 1)), some (vI l2), some (vI (l3 + 1)), none]) (by repeat' (first | exact trivial | refine ⟨rfl, ?_⟩)) ?_
            exact h
          · replace h := h.1 h69
            refine wp_iconst dX6_readBrackets_72 (by decide) ?_
            exact wp_zret dX6_readBrackets_73 rfl (by decide) (fun _ => h)
      · replace h := h.2 h32
        refine wp_aload_n dX6_readBrackets_35 rfl rfl (by first | exact Or.inl (by decide) | exact Or.inl (by omega) | exact Or.inr (by decide) | exact Or.inr (by omega)) ?_
        refine wp_getR dX6_readBrackets_36 fX6_45 rfl (by decide) ?_
        refine wp_topR (x' := 2) rfl ?_
        refine wp_bipush dX6_readBrackets_39 (by decide +kernel) (by decide) ?_
        refine wp_iload dX6_readBrackets_41 rfl ?_
        refine wp_cVq (n := 2) (mt' := mX1_refuse) (as := [vI (-3), vI (MI 2 2)]) (rest := []) _ dX6_readBrackets_43 lX6_80 kX1_refuse vX1_refuse (by decide) (by decide +kernel) rfl (Nat.le_of_ble_eq_true rfl) (by decide) rfl rfl rfl (Nat.le_of_ble_eq_true rfl) (fun hM hS => h) (fun r M' hq hM => ?_)
        obtain ⟨x43, m43, n43, rfl, rfl, h⟩ := rI_out hq
        exact wp_zret dX6_readBrackets_46 rfl h.1 (fun _ => h.2)
    · replace h := h.1 h25
      refine wp_iconst dX6_readBrackets_28 (by decide) ?_
      exact wp_zret dX6_readBrackets_29 rfl (by decide) (fun _ => h)
theorem dX6_readStep_0 : decode cX6_readStep 0 = .ok (.aload_n 0, 1) := by decide +kernel
theorem dX6_readStep_1 : decode cX6_readStep 1 = .ok (.getfield 45, 3) := by decide +kernel
theorem dX6_readStep_4 : decode cX6_readStep 4 = .ok (.invokevirtual 62, 3) := by decide +kernel
theorem dX6_readStep_7 : decode cX6_readStep 7 = .ok (.istore_n 3, 1) := by decide +kernel
theorem dX6_readStep_8 : decode cX6_readStep 8 = .ok (.iload_n 3, 1) := by decide +kernel
theorem dX6_readStep_9 : decode cX6_readStep 9 = .ok (.bipush 46, 2) := by decide +kernel
theorem dX6_readStep_11 : decode cX6_readStep 11 = .ok (.if_icmp .eq 38, 3) := by decide +kernel
theorem dX6_readStep_14 : decode cX6_readStep 14 = .ok (.iload_n 3, 1) := by decide +kernel
theorem dX6_readStep_15 : decode cX6_readStep 15 = .ok (.bipush 64, 2) := by decide +kernel
theorem dX6_readStep_17 : decode cX6_readStep 17 = .ok (.if_icmp .eq 32, 3) := by decide +kernel
theorem dX6_readStep_20 : decode cX6_readStep 20 = .ok (.iload_n 3, 1) := by decide +kernel
theorem dX6_readStep_21 : decode cX6_readStep 21 = .ok (.bipush 42, 2) := by decide +kernel
theorem dX6_readStep_23 : decode cX6_readStep 23 = .ok (.if_icmp .eq 26, 3) := by decide +kernel
theorem dX6_readStep_26 : decode cX6_readStep 26 = .ok (.iload_n 3, 1) := by decide +kernel
theorem dX6_readStep_27 : decode cX6_readStep 27 = .ok (.invokestatic 73, 3) := by decide +kernel
theorem dX6_readStep_30 : decode cX6_readStep 30 = .ok (.ifCond .ne 19, 3) := by decide +kernel
theorem dX6_readStep_33 : decode cX6_readStep 33 = .ok (.aload_n 0, 1) := by decide +kernel
theorem dX6_readStep_34 : decode cX6_readStep 34 = .ok (.getfield 45, 3) := by decide +kernel
theorem dX6_readStep_37 : decode cX6_readStep 37 = .ok (.iconst (-1), 1) := by decide +kernel
theorem dX6_readStep_38 : decode cX6_readStep 38 = .ok (.aload_n 0, 1) := by decide +kernel
theorem dX6_readStep_39 : decode cX6_readStep 39 = .ok (.getfield 45, 3) := by decide +kernel
theorem dX6_readStep_42 : decode cX6_readStep 42 = .ok (.getfield 77, 3) := by decide +kernel
theorem dX6_readStep_45 : decode cX6_readStep 45 = .ok (.invokevirtual 80, 3) := by decide +kernel
theorem dX6_readStep_48 : decode cX6_readStep 48 = .ok (.ireturn, 1) := by decide +kernel
theorem dX6_readStep_49 : decode cX6_readStep 49 = .ok (.aload_n 0, 1) := by decide +kernel
theorem dX6_readStep_50 : decode cX6_readStep 50 = .ok (.getfield 37, 3) := by decide +kernel
theorem dX6_readStep_53 : decode cX6_readStep 53 = .ok (.bipush 12, 2) := by decide +kernel
theorem dX6_readStep_55 : decode cX6_readStep 55 = .ok (.if_icmp .lt 20, 3) := by decide +kernel
theorem dX6_readStep_58 : decode cX6_readStep 58 = .ok (.aload_n 0, 1) := by decide +kernel
theorem dX6_readStep_59 : decode cX6_readStep 59 = .ok (.getfield 45, 3) := by decide +kernel
theorem dX6_readStep_62 : decode cX6_readStep 62 = .ok (.bipush (-3), 2) := by decide +kernel
theorem dX6_readStep_64 : decode cX6_readStep 64 = .ok (.aload_n 0, 1) := by decide +kernel
theorem dX6_readStep_65 : decode cX6_readStep 65 = .ok (.getfield 45, 3) := by decide +kernel
theorem dX6_readStep_68 : decode cX6_readStep 68 = .ok (.getfield 77, 3) := by decide +kernel
theorem dX6_readStep_71 : decode cX6_readStep 71 = .ok (.invokevirtual 80, 3) := by decide +kernel
theorem dX6_readStep_74 : decode cX6_readStep 74 = .ok (.ireturn, 1) := by decide +kernel
theorem dX6_readStep_75 : decode cX6_readStep 75 = .ok (.aload_n 0, 1) := by decide +kernel
theorem dX6_readStep_76 : decode cX6_readStep 76 = .ok (.getfield 37, 3) := by decide +kernel
theorem dX6_readStep_79 : decode cX6_readStep 79 = .ok (.istore 4, 2) := by decide +kernel
theorem dX6_readStep_81 : decode cX6_readStep 81 = .ok (.aload_n 0, 1) := by decide +kernel
theorem dX6_readStep_82 : decode cX6_readStep 82 = .ok (.dup, 1) := by decide +kernel
theorem dX6_readStep_83 : decode cX6_readStep 83 = .ok (.getfield 37, 3) := by decide +kernel
theorem dX6_readStep_86 : decode cX6_readStep 86 = .ok (.iconst 1, 1) := by decide +kernel
theorem dX6_readStep_87 : decode cX6_readStep 87 = .ok (.iadd, 1) := by decide +kernel
theorem dX6_readStep_88 : decode cX6_readStep 88 = .ok (.putfield 37, 3) := by decide +kernel
theorem dX6_readStep_91 : decode cX6_readStep 91 = .ok (.aload_n 0, 1) := by decide +kernel
theorem dX6_readStep_92 : decode cX6_readStep 92 = .ok (.getfield 18, 3) := by decide +kernel
theorem dX6_readStep_95 : decode cX6_readStep 95 = .ok (.iload 4, 2) := by decide +kernel
theorem dX6_readStep_97 : decode cX6_readStep 97 = .ok (.iload_n 2, 1) := by decide +kernel
theorem dX6_readStep_98 : decode cX6_readStep 98 = .ok (.ifCond .eq 7, 3) := by decide +kernel
theorem dX6_readStep_101 : decode cX6_readStep 101 = .ok (.iconst 1, 1) := by decide +kernel
theorem dX6_readStep_102 : decode cX6_readStep 102 = .ok (.goto 4, 3) := by decide +kernel
theorem dX6_readStep_105 : decode cX6_readStep 105 = .ok (.iconst 0, 1) := by decide +kernel
theorem dX6_readStep_106 : decode cX6_readStep 106 = .ok (.i2b, 1) := by decide +kernel
theorem dX6_readStep_107 : decode cX6_readStep 107 = .ok (.bastore, 1) := by decide +kernel
theorem dX6_readStep_108 : decode cX6_readStep 108 = .ok (.aload_n 0, 1) := by decide +kernel
theorem dX6_readStep_109 : decode cX6_readStep 109 = .ok (.getfield 22, 3) := by decide +kernel
theorem dX6_readStep_112 : decode cX6_readStep 112 = .ok (.iload 4, 2) := by decide +kernel
theorem dX6_readStep_114 : decode cX6_readStep 114 = .ok (.iconst 0, 1) := by decide +kernel
theorem dX6_readStep_115 : decode cX6_readStep 115 = .ok (.iastore, 1) := by decide +kernel
theorem dX6_readStep_116 : decode cX6_readStep 116 = .ok (.aload_n 0, 1) := by decide +kernel
theorem dX6_readStep_117 : decode cX6_readStep 117 = .ok (.getfield 15, 3) := by decide +kernel
theorem dX6_readStep_120 : decode cX6_readStep 120 = .ok (.iload 4, 2) := by decide +kernel
theorem dX6_readStep_122 : decode cX6_readStep 122 = .ok (.bipush (-2), 2) := by decide +kernel
theorem dX6_readStep_124 : decode cX6_readStep 124 = .ok (.iastore, 1) := by decide +kernel
theorem dX6_readStep_125 : decode cX6_readStep 125 = .ok (.iload_n 3, 1) := by decide +kernel
theorem dX6_readStep_126 : decode cX6_readStep 126 = .ok (.bipush 46, 2) := by decide +kernel
theorem dX6_readStep_128 : decode cX6_readStep 128 = .ok (.if_icmp .ne 56, 3) := by decide +kernel
theorem dX6_readStep_131 : decode cX6_readStep 131 = .ok (.aload_n 0, 1) := by decide +kernel
theorem dX6_readStep_132 : decode cX6_readStep 132 = .ok (.getfield 11, 3) := by decide +kernel
theorem dX6_readStep_135 : decode cX6_readStep 135 = .ok (.iload 4, 2) := by decide +kernel
theorem dX6_readStep_137 : decode cX6_readStep 137 = .ok (.aload_n 0, 1) := by decide +kernel
theorem dX6_readStep_138 : decode cX6_readStep 138 = .ok (.getfield 45, 3) := by decide +kernel
theorem dX6_readStep_141 : decode cX6_readStep 141 = .ok (.ldc 84, 2) := by decide +kernel
theorem dX6_readStep_143 : decode cX6_readStep 143 = .ok (.invokevirtual 56, 3) := by decide +kernel
theorem dX6_readStep_146 : decode cX6_readStep 146 = .ok (.ifCond .eq 7, 3) := by decide +kernel
theorem dX6_readStep_149 : decode cX6_readStep 149 = .ok (.iconst 1, 1) := by decide +kernel
theorem dX6_readStep_150 : decode cX6_readStep 150 = .ok (.goto 4, 3) := by decide +kernel
theorem dX6_readStep_153 : decode cX6_readStep 153 = .ok (.iconst 0, 1) := by decide +kernel
theorem dX6_readStep_154 : decode cX6_readStep 154 = .ok (.iastore, 1) := by decide +kernel
theorem dX6_readStep_155 : decode cX6_readStep 155 = .ok (.aload_n 0, 1) := by decide +kernel
theorem dX6_readStep_156 : decode cX6_readStep 156 = .ok (.getfield 11, 3) := by decide +kernel
theorem dX6_readStep_159 : decode cX6_readStep 159 = .ok (.iload 4, 2) := by decide +kernel
theorem dX6_readStep_161 : decode cX6_readStep 161 = .ok (.iaload, 1) := by decide +kernel
theorem dX6_readStep_162 : decode cX6_readStep 162 = .ok (.iconst 1, 1) := by decide +kernel
theorem dX6_readStep_163 : decode cX6_readStep 163 = .ok (.if_icmp .eq 15, 3) := by decide +kernel
theorem dX6_readStep_166 : decode cX6_readStep 166 = .ok (.aload_n 0, 1) := by decide +kernel
theorem dX6_readStep_167 : decode cX6_readStep 167 = .ok (.getfield 45, 3) := by decide +kernel
theorem dX6_readStep_170 : decode cX6_readStep 170 = .ok (.ldc 86, 2) := by decide +kernel
theorem dX6_readStep_172 : decode cX6_readStep 172 = .ok (.invokevirtual 70, 3) := by decide +kernel
theorem dX6_readStep_175 : decode cX6_readStep 175 = .ok (.ifCond .eq 7, 3) := by decide +kernel
theorem dX6_readStep_178 : decode cX6_readStep 178 = .ok (.iconst 1, 1) := by decide +kernel
theorem dX6_readStep_179 : decode cX6_readStep 179 = .ok (.goto 4, 3) := by decide +kernel
theorem dX6_readStep_182 : decode cX6_readStep 182 = .ok (.iconst 0, 1) := by decide +kernel
theorem dX6_readStep_183 : decode cX6_readStep 183 = .ok (.ireturn, 1) := by decide +kernel
theorem dX6_readStep_184 : decode cX6_readStep 184 = .ok (.aload_n 0, 1) := by decide +kernel
theorem dX6_readStep_185 : decode cX6_readStep 185 = .ok (.getfield 45, 3) := by decide +kernel
theorem dX6_readStep_188 : decode cX6_readStep 188 = .ok (.ldc 88, 2) := by decide +kernel
theorem dX6_readStep_190 : decode cX6_readStep 190 = .ok (.invokevirtual 56, 3) := by decide +kernel
theorem dX6_readStep_193 : decode cX6_readStep 193 = .ok (.ifCond .eq 14, 3) := by decide +kernel
theorem dX6_readStep_196 : decode cX6_readStep 196 = .ok (.aload_n 0, 1) := by decide +kernel
theorem dX6_readStep_197 : decode cX6_readStep 197 = .ok (.getfield 11, 3) := by decide +kernel
theorem dX6_readStep_200 : decode cX6_readStep 200 = .ok (.iload 4, 2) := by decide +kernel
theorem dX6_readStep_202 : decode cX6_readStep 202 = .ok (.iconst 2, 1) := by decide +kernel
theorem dX6_readStep_203 : decode cX6_readStep 203 = .ok (.iastore, 1) := by decide +kernel
theorem dX6_readStep_204 : decode cX6_readStep 204 = .ok (.goto 66, 3) := by decide +kernel
theorem dX6_readStep_207 : decode cX6_readStep 207 = .ok (.aload_n 0, 1) := by decide +kernel
theorem dX6_readStep_208 : decode cX6_readStep 208 = .ok (.getfield 11, 3) := by decide +kernel
theorem dX6_readStep_211 : decode cX6_readStep 211 = .ok (.iload 4, 2) := by decide +kernel
theorem dX6_readStep_213 : decode cX6_readStep 213 = .ok (.aload_n 0, 1) := by decide +kernel
theorem dX6_readStep_214 : decode cX6_readStep 214 = .ok (.getfield 45, 3) := by decide +kernel
theorem dX6_readStep_217 : decode cX6_readStep 217 = .ok (.ldc 90, 2) := by decide +kernel
theorem dX6_readStep_219 : decode cX6_readStep 219 = .ok (.invokevirtual 56, 3) := by decide +kernel
theorem dX6_readStep_222 : decode cX6_readStep 222 = .ok (.ifCond .eq 7, 3) := by decide +kernel
theorem dX6_readStep_225 : decode cX6_readStep 225 = .ok (.iconst 3, 1) := by decide +kernel
theorem dX6_readStep_226 : decode cX6_readStep 226 = .ok (.goto 4, 3) := by decide +kernel
theorem dX6_readStep_229 : decode cX6_readStep 229 = .ok (.iconst 4, 1) := by decide +kernel
theorem dX6_readStep_230 : decode cX6_readStep 230 = .ok (.iastore, 1) := by decide +kernel
theorem dX6_readStep_231 : decode cX6_readStep 231 = .ok (.aload_n 0, 1) := by decide +kernel
theorem dX6_readStep_232 : decode cX6_readStep 232 = .ok (.getfield 45, 3) := by decide +kernel
theorem dX6_readStep_235 : decode cX6_readStep 235 = .ok (.ldc 92, 2) := by decide +kernel
theorem dX6_readStep_237 : decode cX6_readStep 237 = .ok (.invokevirtual 56, 3) := by decide +kernel
theorem dX6_readStep_240 : decode cX6_readStep 240 = .ok (.ifCond .ne 30, 3) := by decide +kernel
theorem dX6_readStep_243 : decode cX6_readStep 243 = .ok (.aload_n 0, 1) := by decide +kernel
theorem dX6_readStep_244 : decode cX6_readStep 244 = .ok (.getfield 45, 3) := by decide +kernel
theorem dX6_readStep_247 : decode cX6_readStep 247 = .ok (.invokevirtual 94, 3) := by decide +kernel
theorem dX6_readStep_250 : decode cX6_readStep 250 = .ok (.ifCond .ne 5, 3) := by decide +kernel
theorem dX6_readStep_253 : decode cX6_readStep 253 = .ok (.iconst 0, 1) := by decide +kernel
theorem dX6_readStep_254 : decode cX6_readStep 254 = .ok (.ireturn, 1) := by decide +kernel
theorem dX6_readStep_255 : decode cX6_readStep 255 = .ok (.aload_n 0, 1) := by decide +kernel
theorem dX6_readStep_256 : decode cX6_readStep 256 = .ok (.getfield 15, 3) := by decide +kernel
theorem dX6_readStep_259 : decode cX6_readStep 259 = .ok (.iload 4, 2) := by decide +kernel
theorem dX6_readStep_261 : decode cX6_readStep 261 = .ok (.aload_n 1, 1) := by decide +kernel
theorem dX6_readStep_262 : decode cX6_readStep 262 = .ok (.aload_n 0, 1) := by decide +kernel
theorem dX6_readStep_263 : decode cX6_readStep 263 = .ok (.getfield 45, 3) := by decide +kernel
theorem dX6_readStep_266 : decode cX6_readStep 266 = .ok (.invokevirtual 98, 3) := by decide +kernel
theorem dX6_readStep_269 : decode cX6_readStep 269 = .ok (.iastore, 1) := by decide +kernel
theorem dX6_readStep_270 : decode cX6_readStep 270 = .ok (.aload_n 0, 1) := by decide +kernel
theorem dX6_readStep_271 : decode cX6_readStep 271 = .ok (.aload_n 1, 1) := by decide +kernel
theorem dX6_readStep_272 : decode cX6_readStep 272 = .ok (.iload 4, 2) := by decide +kernel
theorem dX6_readStep_274 : decode cX6_readStep 274 = .ok (.invokevirtual 104, 3) := by decide +kernel
theorem dX6_readStep_277 : decode cX6_readStep 277 = .ok (.ireturn, 1) := by decide +kernel
theorem v_X6_readStep_0 {cs : Cs} {Q : Option AV → Mm → Prop} {MI ML : Nat → Nat → Int} {b d e nw th : Nat} {l2 : Int} (hbd : b = 38 ∨ b = 81)
    (h : wp cs mX1_peek KD (rI (GR d e nw th 1) fun x4 m4 n4 => ((x4 = 46 → wp cs mX6_readStep KD Q 49 [some (vR 14), some (vR (b + 1)), some (vI l2), some (vI x4), none] [] (KD, m4, n4, (GR d e nw th 1))) ∧ (x4 ≠ 46 → ((x4 = 64 → wp cs mX6_readStep KD Q 49 [some (vR 14), some (vR (b + 1)), some (vI l2), some (vI x4), none] [] (KD, m4, n4, (GR d e nw th 1))) ∧ (x4 ≠ 64 → ((x4 = 42 → wp cs mX6_readStep KD Q 49 [some (vR 14), some (vR (b + 1)), some (vI l2), some (vI x4), none] [] (KD, m4, n4, (GR d e nw th 1))) ∧ (x4 ≠ 42 → wp cs mX1_startsName KD (rI (GR d e nw th 1) fun x27 m27 n27 => ((x27 = 0 → wp cs mX1_refuse KD (rI (GR d e nw th 1) fun x45 m45 n45 => (x45 = 0 ∨ x45 = 1) ∧ Q (some (vI x45)) (m45, n45, (GR d e nw th 1))) 0 (padL [vR 2, vI (-1), vI (m27 2 2)] 3) [] (KD, m27, n27, (GR d e nw th 1))) ∧ (x27 ≠ 0 → wp cs mX6_readStep KD Q 49 [some (vR 14), some (vR (b + 1)), some (vI l2), some (vI x4), none] [] (KD, m27, n27, (GR d e nw th 1))))) 0 (padL [vI x4] 1) [] (KD, m4, n4, (GR d e nw th 1))))))))) 0 (padL [vR 2] 1) [] (KD, MI, ML, (GR d e nw th 1))) :
    wp cs mX6_readStep KD Q 0 (padL [vR 14, vR (b + 1), vI l2] 5) [] (KD, MI, ML, (GR d e nw th 1)) := by
  refine wp_L (L' := [some (vR 14), some (vR (b + 1)), some (vI l2), none, none]) rfl ?_
  refine wp_aload_n dX6_readStep_0 rfl rfl (by first | exact Or.inl (by decide) | exact Or.inl (by omega) | exact Or.inr (by decide) | exact Or.inr (by omega)) ?_
  refine wp_getR dX6_readStep_1 fX6_45 rfl (by decide) ?_
  refine wp_topR (x' := 2) rfl ?_
  refine wp_cVq (n := 0) (mt' := mX1_peek) (as := []) (rest := []) _ dX6_readStep_4 lX6_62 kX1_peek vX1_peek (by decide) (by decide +kernel) rfl (Nat.le_of_ble_eq_true rfl) (by decide) rfl rfl rfl (Nat.le_of_ble_eq_true rfl) (fun hM hS => h) (fun r M' hq hM => ?_)
  obtain ⟨x4, m4, n4, rfl, rfl, h⟩ := rI_out hq
  refine wp_istore_n dX6_readStep_7 rfl (by decide) (wp_L (L' := [some (vR 14), some (vR (b + 1)), some (vI l2), some (vI x4), none]) rfl ?_)
  refine wp_iload_n dX6_readStep_8 rfl rfl ?_
  refine wp_bipush dX6_readStep_9 (by decide +kernel) (by decide) ?_
  refine wp_icmp_eq (tgt := 49) dX6_readStep_11 (by decide) (fun h11 => ?_) (fun h11 => ?_)
  · replace h := h.1 h11
    exact h
  · replace h := h.2 h11
    refine wp_iload_n dX6_readStep_14 rfl rfl ?_
    refine wp_bipush dX6_readStep_15 (by decide +kernel) (by decide) ?_
    refine wp_icmp_eq (tgt := 49) dX6_readStep_17 (by decide) (fun h17 => ?_) (fun h17 => ?_)
    · replace h := h.1 h17
      exact h
    · replace h := h.2 h17
      refine wp_iload_n dX6_readStep_20 rfl rfl ?_
      refine wp_bipush dX6_readStep_21 (by decide +kernel) (by decide) ?_
      refine wp_icmp_eq (tgt := 49) dX6_readStep_23 (by decide) (fun h23 => ?_) (fun h23 => ?_)
      · replace h := h.1 h23
        exact h
      · replace h := h.2 h23
        refine wp_iload_n dX6_readStep_26 rfl rfl ?_
        refine wp_cSq (n := 1) (mt' := mX1_startsName) (as := [vI x4]) (rest := []) _ dX6_readStep_27 lX6_73 kX1_startsName vX1_startsName (by decide) (by decide +kernel) rfl (Nat.le_of_ble_eq_true rfl) rfl (Nat.le_of_ble_eq_true rfl) (fun hM hS => h) (fun r M' hq hM => ?_)
        obtain ⟨x27, m27, n27, rfl, rfl, h⟩ := rI_out hq
        refine wp_if_ne (tgt := 49) dX6_readStep_30 (by decide) (fun h30 => ?_) (fun h30 => ?_)
        · replace h := h.2 h30
          exact h
        · replace h := h.1 h30
          refine wp_aload_n dX6_readStep_33 rfl rfl (by first | exact Or.inl (by decide) | exact Or.inl (by omega) | exact Or.inr (by decide) | exact Or.inr (by omega)) ?_
          refine wp_getR dX6_readStep_34 fX6_45 rfl (by decide) ?_
          refine wp_topR (x' := 2) rfl ?_
          refine wp_iconst dX6_readStep_37 (by decide) ?_
          refine wp_aload_n dX6_readStep_38 rfl rfl (by first | exact Or.inl (by decide) | exact Or.inl (by omega) | exact Or.inr (by decide) | exact Or.inr (by omega)) ?_
          refine wp_getR dX6_readStep_39 fX6_45 rfl (by decide) ?_
          refine wp_topR (x' := 2) rfl ?_
          refine wp_getI dX6_readStep_42 fX6_77 rfl (by decide) ?_
          refine wp_cVq (n := 2) (mt' := mX1_refuse) (as := [vI (-1), vI (m27 2 2)]) (rest := []) _ dX6_readStep_45 lX6_80 kX1_refuse vX1_refuse (by decide) (by decide +kernel) rfl (Nat.le_of_ble_eq_true rfl) (by decide) rfl rfl rfl (Nat.le_of_ble_eq_true rfl) (fun hM hS => h) (fun r M' hq hM => ?_)
          obtain ⟨x45, m45, n45, rfl, rfl, h⟩ := rI_out hq
          exact wp_zret dX6_readStep_48 rfl h.1 (fun _ => h.2)
theorem v_X6_readStep_49 {cs : Cs} {Q : Option AV → Mm → Prop} {MI ML : Nat → Nat → Int} {b d e nw th : Nat} {l2 l3 : Int} (hbd : b = 38 ∨ b = 81)
    (h : (((MI 14 9) < 12 → (-2147483648 ≤ (MI 14 9) + 1 ∧ (MI 14 9) + 1 < 2147483648) ∧ ∀ m88, m88 = up2 MI 14 9 ((MI 14 9) + 1) → ((l2 = 0 → wp cs mX6_readStep KD Q 106 [some (vR 14), some (vR (b + 1)), some (vI l2), some (vI l3), some (vI (MI 14 9))] [vI 0, vI (MI 14 9), vR 17] (KD, m88, ML, (GR d e nw th 1))) ∧ (l2 ≠ 0 → wp cs mX6_readStep KD Q 106 [some (vR 14), some (vR (b + 1)), some (vI l2), some (vI l3), some (vI (MI 14 9))] [vI 1, vI (MI 14 9), vR 17] (KD, m88, ML, (GR d e nw th 1))))) ∧ (12 ≤ (MI 14 9) → wp cs mX1_refuse KD (rI (GR d e nw th 1) fun x71 m71 n71 => (x71 = 0 ∨ x71 = 1) ∧ Q (some (vI x71)) (m71, n71, (GR d e nw th 1))) 0 (padL [vR 2, vI (-3), vI (MI 2 2)] 3) [] (KD, MI, ML, (GR d e nw th 1))))) :
    wp cs mX6_readStep KD Q 49 [some (vR 14), some (vR (b + 1)), some (vI l2), some (vI l3), none] [] (KD, MI, ML, (GR d e nw th 1)) := by
  refine wp_aload_n dX6_readStep_49 rfl rfl (by first | exact Or.inl (by decide) | exact Or.inl (by omega) | exact Or.inr (by decide) | exact Or.inr (by omega)) ?_
  refine wp_getI dX6_readStep_50 fX6_37 rfl (by decide) ?_
  refine wp_bipush dX6_readStep_53 (by decide +kernel) (by decide) ?_
  refine wp_icmp_lt (tgt := 75) dX6_readStep_55 (by decide) (fun h55 => ?_) (fun h55 => ?_)
  · replace h := h.1 h55
    refine wp_aload_n dX6_readStep_75 rfl rfl (by first | exact Or.inl (by decide) | exact Or.inl (by omega) | exact Or.inr (by decide) | exact Or.inr (by omega)) ?_
    refine wp_getI dX6_readStep_76 fX6_37 rfl (by decide) ?_
    refine wp_istore dX6_readStep_79 (by decide) (wp_L (L' := [some (vR 14), some (vR (b + 1)), some (vI l2), some (vI l3), some (vI (MI 14 9))]) rfl ?_)
    refine wp_aload_n dX6_readStep_81 rfl rfl (by first | exact Or.inl (by decide) | exact Or.inl (by omega) | exact Or.inr (by decide) | exact Or.inr (by omega)) ?_
    refine wp_dup dX6_readStep_82 (fun x e => by cases e) ?_
    refine wp_getI dX6_readStep_83 fX6_37 rfl (by decide) ?_
    refine wp_iconst dX6_readStep_86 (by decide) ?_
    refine wp_pc (pc' := 87) rfl ?_
    have c0 := h.1
    replace h := h.2
    refine wp_iaddr dX6_readStep_87 c0 ?_
    refine wp_putI dX6_readStep_88 pX6_37 rfl (by decide) ?_
    refine wp_gI (fun m88 e88 => ?_)
    replace h := h m88 e88
    refine wp_aload_n dX6_readStep_91 rfl rfl (by first | exact Or.inl (by decide) | exact Or.inl (by omega) | exact Or.inr (by decide) | exact Or.inr (by omega)) ?_
    refine wp_getR dX6_readStep_92 fX6_18 rfl (by decide) ?_
    refine wp_topR (x' := 17) rfl ?_
    refine wp_iload dX6_readStep_95 rfl ?_
    refine wp_iload_n dX6_readStep_97 rfl rfl ?_
    refine wp_if_eq (tgt := 105) dX6_readStep_98 (by decide) (fun h98 => ?_) (fun h98 => ?_)
    · replace h := h.1 h98
      refine wp_iconst dX6_readStep_105 (by decide) ?_
      exact h
    · replace h := h.2 h98
      refine wp_iconst dX6_readStep_101 (by decide) ?_
      refine wp_goto (tgt := 106) dX6_readStep_102 (by decide) ?_
      exact h
  · replace h := h.2 h55
    refine wp_aload_n dX6_readStep_58 rfl rfl (by first | exact Or.inl (by decide) | exact Or.inl (by omega) | exact Or.inr (by decide) | exact Or.inr (by omega)) ?_
    refine wp_getR dX6_readStep_59 fX6_45 rfl (by decide) ?_
    refine wp_topR (x' := 2) rfl ?_
    refine wp_bipush dX6_readStep_62 (by decide +kernel) (by decide) ?_
    refine wp_aload_n dX6_readStep_64 rfl rfl (by first | exact Or.inl (by decide) | exact Or.inl (by omega) | exact Or.inr (by decide) | exact Or.inr (by omega)) ?_
    refine wp_getR dX6_readStep_65 fX6_45 rfl (by decide) ?_
    refine wp_topR (x' := 2) rfl ?_
    refine wp_getI dX6_readStep_68 fX6_77 rfl (by decide) ?_
    refine wp_cVq (n := 2) (mt' := mX1_refuse) (as := [vI (-3), vI (MI 2 2)]) (rest := []) _ dX6_readStep_71 lX6_80 kX1_refuse vX1_refuse (by decide) (by decide +kernel) rfl (Nat.le_of_ble_eq_true rfl) (by decide) rfl rfl rfl (Nat.le_of_ble_eq_true rfl) (fun hM hS => h) (fun r M' hq hM => ?_)
    obtain ⟨x71, m71, n71, rfl, rfl, h⟩ := rI_out hq
    exact wp_zret dX6_readStep_74 rfl h.1 (fun _ => h.2)
theorem v_X6_readStep_106 {cs : Cs} {Q : Option AV → Mm → Prop} {MI ML : Nat → Nat → Int} {b d e nw th : Nat} {l2 l3 l4 s0 s1 : Int} (hbd : b = 38 ∨ b = 81)
    (h : (0 ≤ s1 ∧ s1 < 12) ∧ ∀ m107, m107 = up2 MI 17 s1.toNat (i_2b s0) → (0 ≤ l4 ∧ l4 < 12) ∧ ∀ m115, m115 = up2 m107 18 l4.toNat 0 → ∀ m124, m124 = up2 m115 16 l4.toNat (-2) → ((l3 = 46 → wp cs mX1_takeIf KD (rI (GR d e nw th 1) fun x143 m143 n143 => ((x143 = 0 → wp cs mX6_readStep KD Q 154 [some (vR 14), some (vR (b + 1)), some (vI l2), some (vI l3), some (vI l4)] [vI 0, vI l4, vR 15] (KD, m143, n143, (GR d e nw th 1))) ∧ (x143 ≠ 0 → wp cs mX6_readStep KD Q 154 [some (vR 14), some (vR (b + 1)), some (vI l2), some (vI l3), some (vI l4)] [vI 1, vI l4, vR 15] (KD, m143, n143, (GR d e nw th 1))))) 0 (padL [vR 2, vR 1000036] 4) [] (KD, m124, ML, (GR d e nw th 1))) ∧ (l3 ≠ 46 → wp cs mX1_takeIf KD (rI (GR d e nw th 1) fun x190 m190 n190 => ((x190 = 0 → wp cs mX1_takeIf KD (rI (GR d e nw th 1) fun x219 m219 n219 => ((x219 = 0 → wp cs mX6_readStep KD Q 230 [some (vR 14), some (vR (b + 1)), some (vI l2), some (vI l3), some (vI l4)] [vI 4, vI l4, vR 15] (KD, m219, n219, (GR d e nw th 1))) ∧ (x219 ≠ 0 → wp cs mX6_readStep KD Q 230 [some (vR 14), some (vR (b + 1)), some (vI l2), some (vI l3), some (vI l4)] [vI 3, vI l4, vR 15] (KD, m219, n219, (GR d e nw th 1))))) 0 (padL [vR 2, vR 1000039] 4) [] (KD, m190, n190, (GR d e nw th 1))) ∧ (x190 ≠ 0 → ∀ m203, m203 = up2 m190 15 l4.toNat 2 → wp cs mX6_readBrackets KD (rI (GR d e nw th 1) fun x274 m274 n274 => (x274 = 0 ∨ x274 = 1) ∧ Q (some (vI x274)) (m274, n274, (GR d e nw th 1))) 0 (padL [vR 14, vR (b + 1), vI l4] 5) [] (KD, m203, n190, (GR d e nw th 1))))) 0 (padL [vR 2, vR 1000038] 4) [] (KD, m124, ML, (GR d e nw th 1))))) :
    wp cs mX6_readStep KD Q 106 [some (vR 14), some (vR (b + 1)), some (vI l2), some (vI l3), some (vI l4)] [vI s0, vI s1, vR 17] (KD, MI, ML, (GR d e nw th 1)) := by
  refine wp_i2b dX6_readStep_106 ?_
  have c0 := h.1
  replace h := h.2
  refine wp_bast dX6_readStep_107 rfl (by decide) c0 (b_2b _) ?_
  refine wp_gI (fun m107 e107 => ?_)
  replace h := h m107 e107
  refine wp_aload_n dX6_readStep_108 rfl rfl (by first | exact Or.inl (by decide) | exact Or.inl (by omega) | exact Or.inr (by decide) | exact Or.inr (by omega)) ?_
  refine wp_getR dX6_readStep_109 fX6_22 rfl (by decide) ?_
  refine wp_topR (x' := 18) rfl ?_
  refine wp_iload dX6_readStep_112 rfl ?_
  refine wp_iconst dX6_readStep_114 (by decide) ?_
  have c1 := h.1
  replace h := h.2
  refine wp_iast dX6_readStep_115 rfl (by decide) c1 ?_
  refine wp_gI (fun m115 e115 => ?_)
  replace h := h m115 e115
  refine wp_pc (pc' := 116) rfl ?_
  refine wp_aload_n dX6_readStep_116 rfl rfl (by first | exact Or.inl (by decide) | exact Or.inl (by omega) | exact Or.inr (by decide) | exact Or.inr (by omega)) ?_
  refine wp_getR dX6_readStep_117 fX6_15 rfl (by decide) ?_
  refine wp_topR (x' := 16) rfl ?_
  refine wp_iload dX6_readStep_120 rfl ?_
  refine wp_bipush dX6_readStep_122 (by decide +kernel) (by decide) ?_
  refine wp_iast dX6_readStep_124 rfl (by decide) c1 ?_
  refine wp_gI (fun m124 e124 => ?_)
  replace h := h m124 e124
  refine wp_iload_n dX6_readStep_125 rfl rfl ?_
  refine wp_bipush dX6_readStep_126 (by decide +kernel) (by decide) ?_
  refine wp_icmp_ne (tgt := 184) dX6_readStep_128 (by decide) (fun h128 => ?_) (fun h128 => ?_)
  · replace h := h.2 h128
    refine wp_aload_n dX6_readStep_184 rfl rfl (by first | exact Or.inl (by decide) | exact Or.inl (by omega) | exact Or.inr (by decide) | exact Or.inr (by omega)) ?_
    refine wp_getR dX6_readStep_185 fX6_45 rfl (by decide) ?_
    refine wp_topR (x' := 2) rfl ?_
    refine wp_ldcS (k := 35) dX6_readStep_188 cX6_88 ?_
    refine wp_cVq (n := 1) (mt' := mX1_takeIf) (as := [vR 1000038]) (rest := []) _ dX6_readStep_190 lX6_56 kX1_takeIf vX1_takeIf (by decide) (by decide +kernel) rfl (Nat.le_of_ble_eq_true rfl) (by decide) rfl rfl rfl (Nat.le_of_ble_eq_true rfl) (fun hM hS => h) (fun r M' hq hM => ?_)
    obtain ⟨x190, m190, n190, rfl, rfl, h⟩ := rI_out hq
    refine wp_if_eq (tgt := 207) dX6_readStep_193 (by decide) (fun h193 => ?_) (fun h193 => ?_)
    · replace h := h.1 h193
      refine wp_aload_n dX6_readStep_207 rfl rfl (by first | exact Or.inl (by decide) | exact Or.inl (by omega) | exact Or.inr (by decide) | exact Or.inr (by omega)) ?_
      refine wp_getR dX6_readStep_208 fX6_11 rfl (by decide) ?_
      refine wp_topR (x' := 15) rfl ?_
      refine wp_iload dX6_readStep_211 rfl ?_
      refine wp_aload_n dX6_readStep_213 rfl rfl (by first | exact Or.inl (by decide) | exact Or.inl (by omega) | exact Or.inr (by decide) | exact Or.inr (by omega)) ?_
      refine wp_getR dX6_readStep_214 fX6_45 rfl (by decide) ?_
      refine wp_topR (x' := 2) rfl ?_
      refine wp_ldcS (k := 36) dX6_readStep_217 cX6_90 ?_
      refine wp_cVq (n := 1) (mt' := mX1_takeIf) (as := [vR 1000039]) (rest := [vI l4, vR 15]) _ dX6_readStep_219 lX6_56 kX1_takeIf vX1_takeIf (by decide) (by decide +kernel) rfl (Nat.le_of_ble_eq_true rfl) (by decide) rfl rfl rfl (Nat.le_of_ble_eq_true rfl) (fun hM hS => h) (fun r M' hq hM => ?_)
      obtain ⟨x219, m219, n219, rfl, rfl, h⟩ := rI_out hq
      refine wp_if_eq (tgt := 229) dX6_readStep_222 (by decide) (fun h222 => ?_) (fun h222 => ?_)
      · replace h := h.1 h222
        refine wp_iconst dX6_readStep_229 (by decide) ?_
        exact h
      · replace h := h.2 h222
        refine wp_iconst dX6_readStep_225 (by decide) ?_
        refine wp_goto (tgt := 230) dX6_readStep_226 (by decide) ?_
        exact h
    · replace h := h.2 h193
      refine wp_aload_n dX6_readStep_196 rfl rfl (by first | exact Or.inl (by decide) | exact Or.inl (by omega) | exact Or.inr (by decide) | exact Or.inr (by omega)) ?_
      refine wp_getR dX6_readStep_197 fX6_11 rfl (by decide) ?_
      refine wp_topR (x' := 15) rfl ?_
      refine wp_iload dX6_readStep_200 rfl ?_
      refine wp_iconst dX6_readStep_202 (by decide) ?_
      refine wp_iast dX6_readStep_203 rfl (by decide) c1 ?_
      refine wp_gI (fun m203 e203 => ?_)
      replace h := h m203 e203
      refine wp_goto (tgt := 270) dX6_readStep_204 (by decide) ?_
      refine wp_aload_n dX6_readStep_270 rfl rfl (by first | exact Or.inl (by decide) | exact Or.inl (by omega) | exact Or.inr (by decide) | exact Or.inr (by omega)) ?_
      refine wp_pc (pc' := 271) rfl ?_
      refine wp_aload_n dX6_readStep_271 rfl rfl (by first | exact Or.inl (by decide) | exact Or.inl (by omega) | exact Or.inr (by decide) | exact Or.inr (by omega)) ?_
      refine wp_iload dX6_readStep_272 rfl ?_
      refine wp_cVq (n := 2) (mt' := mX6_readBrackets) (as := [vR (b + 1), vI l4]) (rest := []) _ dX6_readStep_274 lX6_104 kX6_readBrackets vX6_readBrackets (by decide) (by decide +kernel) rfl (Nat.le_of_ble_eq_true rfl) (by decide) rfl rfl rfl (Nat.le_of_ble_eq_true rfl) (fun hM hS => h) (fun r M' hq hM => ?_)
      obtain ⟨x274, m274, n274, rfl, rfl, h⟩ := rI_out hq
      exact wp_zret dX6_readStep_277 rfl h.1 (fun _ => h.2)
  · replace h := h.1 h128
    refine wp_aload_n dX6_readStep_131 rfl rfl (by first | exact Or.inl (by decide) | exact Or.inl (by omega) | exact Or.inr (by decide) | exact Or.inr (by omega)) ?_
    refine wp_getR dX6_readStep_132 fX6_11 rfl (by decide) ?_
    refine wp_topR (x' := 15) rfl ?_
    refine wp_iload dX6_readStep_135 rfl ?_
    refine wp_aload_n dX6_readStep_137 rfl rfl (by first | exact Or.inl (by decide) | exact Or.inl (by omega) | exact Or.inr (by decide) | exact Or.inr (by omega)) ?_
    refine wp_getR dX6_readStep_138 fX6_45 rfl (by decide) ?_
    refine wp_topR (x' := 2) rfl ?_
    refine wp_ldcS (k := 33) dX6_readStep_141 cX6_84 ?_
    refine wp_cVq (n := 1) (mt' := mX1_takeIf) (as := [vR 1000036]) (rest := [vI l4, vR 15]) _ dX6_readStep_143 lX6_56 kX1_takeIf vX1_takeIf (by decide) (by decide +kernel) rfl (Nat.le_of_ble_eq_true rfl) (by decide) rfl rfl rfl (Nat.le_of_ble_eq_true rfl) (fun hM hS => h) (fun r M' hq hM => ?_)
    obtain ⟨x143, m143, n143, rfl, rfl, h⟩ := rI_out hq
    refine wp_if_eq (tgt := 153) dX6_readStep_146 (by decide) (fun h146 => ?_) (fun h146 => ?_)
    · replace h := h.1 h146
      refine wp_iconst dX6_readStep_153 (by decide) ?_
      exact h
    · replace h := h.2 h146
      refine wp_iconst dX6_readStep_149 (by decide) ?_
      refine wp_goto (tgt := 154) dX6_readStep_150 (by decide) ?_
      exact h
theorem v_X6_readStep_154 {cs : Cs} {Q : Option AV → Mm → Prop} {MI ML : Nat → Nat → Int} {b d e nw th : Nat} {l2 l3 l4 s0 s1 : Int} (hbd : b = 38 ∨ b = 81)
    (h : (0 ≤ s1 ∧ s1 < 12) ∧ ∀ m154, m154 = up2 MI 15 s1.toNat s0 → (0 ≤ l4 ∧ l4 < 12) ∧ (((m154 15 l4.toNat) = 1 → Q (some (vI 1)) (m154, ML, (GR d e nw th 1))) ∧ ((m154 15 l4.toNat) ≠ 1 → wp cs mX1_take KD (rI (GR d e nw th 1) fun x172 m172 n172 => ((x172 = 0 → Q (some (vI 0)) (m172, n172, (GR d e nw th 1))) ∧ (x172 ≠ 0 → Q (some (vI 1)) (m172, n172, (GR d e nw th 1))))) 0 (padL [vR 2, vR 1000037] 2) [] (KD, m154, ML, (GR d e nw th 1))))) :
    wp cs mX6_readStep KD Q 154 [some (vR 14), some (vR (b + 1)), some (vI l2), some (vI l3), some (vI l4)] [vI s0, vI s1, vR 15] (KD, MI, ML, (GR d e nw th 1)) := by
  have c0 := h.1
  replace h := h.2
  refine wp_iast dX6_readStep_154 rfl (by decide) c0 ?_
  refine wp_gI (fun m154 e154 => ?_)
  replace h := h m154 e154
  refine wp_aload_n dX6_readStep_155 rfl rfl (by first | exact Or.inl (by decide) | exact Or.inl (by omega) | exact Or.inr (by decide) | exact Or.inr (by omega)) ?_
  refine wp_getR dX6_readStep_156 fX6_11 rfl (by decide) ?_
  refine wp_topR (x' := 15) rfl ?_
  refine wp_iload dX6_readStep_159 rfl ?_
  have c1 := h.1
  replace h := h.2
  refine wp_iald dX6_readStep_161 rfl (by decide) c1 ?_
  refine wp_iconst dX6_readStep_162 (by decide) ?_
  refine wp_icmp_eq (tgt := 178) dX6_readStep_163 (by decide) (fun h163 => ?_) (fun h163 => ?_)
  · replace h := h.1 h163
    refine wp_iconst dX6_readStep_178 (by decide) ?_
    refine wp_goto (tgt := 183) dX6_readStep_179 (by decide) ?_
    exact wp_zret dX6_readStep_183 rfl (by decide) (fun _ => h)
  · replace h := h.2 h163
    refine wp_aload_n dX6_readStep_166 rfl rfl (by first | exact Or.inl (by decide) | exact Or.inl (by omega) | exact Or.inr (by decide) | exact Or.inr (by omega)) ?_
    refine wp_getR dX6_readStep_167 fX6_45 rfl (by decide) ?_
    refine wp_topR (x' := 2) rfl ?_
    refine wp_ldcS (k := 34) dX6_readStep_170 cX6_86 ?_
    refine wp_cVq (n := 1) (mt' := mX1_take) (as := [vR 1000037]) (rest := []) _ dX6_readStep_172 lX6_70 kX1_take vX1_take (by decide) (by decide +kernel) rfl (Nat.le_of_ble_eq_true rfl) (by decide) rfl rfl rfl (Nat.le_of_ble_eq_true rfl) (fun hM hS => h) (fun r M' hq hM => ?_)
    obtain ⟨x172, m172, n172, rfl, rfl, h⟩ := rI_out hq
    refine wp_if_eq (tgt := 182) dX6_readStep_175 (by decide) (fun h175 => ?_) (fun h175 => ?_)
    · replace h := h.1 h175
      refine wp_iconst dX6_readStep_182 (by decide) ?_
      exact wp_zret dX6_readStep_183 rfl (by decide) (fun _ => h)
    · replace h := h.2 h175
      refine wp_iconst dX6_readStep_178 (by decide) ?_
      refine wp_goto (tgt := 183) dX6_readStep_179 (by decide) ?_
      exact wp_zret dX6_readStep_183 rfl (by decide) (fun _ => h)
theorem v_X6_readStep_230 {cs : Cs} {Q : Option AV → Mm → Prop} {MI ML : Nat → Nat → Int} {b d e nw th : Nat} {l2 l3 l4 s0 s1 : Int} (hbd : b = 38 ∨ b = 81)
    (h : (0 ≤ s1 ∧ s1 < 12) ∧ ∀ m230, m230 = up2 MI 15 s1.toNat s0 → wp cs mX1_takeIf KD (rI (GR d e nw th 1) fun x237 m237 n237 => ((x237 = 0 → wp cs mX1_needName KD (rI (GR d e nw th 1) fun x247 m247 n247 => ((x247 = 0 → Q (some (vI 0)) (m247, n247, (GR d e nw th 1))) ∧ (x247 ≠ 0 → wp cs mX5_find KD (rI (GR d e nw th 1) fun x266 m266 n266 => (0 ≤ l4 ∧ l4 < 12) ∧ ∀ m269, m269 = up2 m266 16 l4.toNat x266 → wp cs mX6_readBrackets KD (rI (GR d e nw th 1) fun x274 m274 n274 => (x274 = 0 ∨ x274 = 1) ∧ Q (some (vI x274)) (m274, n274, (GR d e nw th 1))) 0 (padL [vR 14, vR (b + 1), vI l4] 5) [] (KD, m269, n266, (GR d e nw th 1))) 0 (padL [vR (b + 1), vR 2] 4) [] (KD, m247, n247, (GR d e nw th 1))))) 0 (padL [vR 2] 1) [] (KD, m237, n237, (GR d e nw th 1))) ∧ (x237 ≠ 0 → wp cs mX6_readBrackets KD (rI (GR d e nw th 1) fun x274 m274 n274 => (x274 = 0 ∨ x274 = 1) ∧ Q (some (vI x274)) (m274, n274, (GR d e nw th 1))) 0 (padL [vR 14, vR (b + 1), vI l4] 5) [] (KD, m237, n237, (GR d e nw th 1))))) 0 (padL [vR 2, vR 1000016] 4) [] (KD, m230, ML, (GR d e nw th 1))) :
    wp cs mX6_readStep KD Q 230 [some (vR 14), some (vR (b + 1)), some (vI l2), some (vI l3), some (vI l4)] [vI s0, vI s1, vR 15] (KD, MI, ML, (GR d e nw th 1)) := by
  have c0 := h.1
  replace h := h.2
  refine wp_iast dX6_readStep_230 rfl (by decide) c0 ?_
  refine wp_gI (fun m230 e230 => ?_)
  replace h := h m230 e230
  refine wp_aload_n dX6_readStep_231 rfl rfl (by first | exact Or.inl (by decide) | exact Or.inl (by omega) | exact Or.inr (by decide) | exact Or.inr (by omega)) ?_
  refine wp_getR dX6_readStep_232 fX6_45 rfl (by decide) ?_
  refine wp_topR (x' := 2) rfl ?_
  refine wp_ldcS (k := 13) dX6_readStep_235 cX6_92 ?_
  refine wp_cVq (n := 1) (mt' := mX1_takeIf) (as := [vR 1000016]) (rest := []) _ dX6_readStep_237 lX6_56 kX1_takeIf vX1_takeIf (by decide) (by decide +kernel) rfl (Nat.le_of_ble_eq_true rfl) (by decide) rfl rfl rfl (Nat.le_of_ble_eq_true rfl) (fun hM hS => h) (fun r M' hq hM => ?_)
  obtain ⟨x237, m237, n237, rfl, rfl, h⟩ := rI_out hq
  refine wp_if_ne (tgt := 270) dX6_readStep_240 (by decide) (fun h240 => ?_) (fun h240 => ?_)
  · replace h := h.2 h240
    refine wp_aload_n dX6_readStep_270 rfl rfl (by first | exact Or.inl (by decide) | exact Or.inl (by omega) | exact Or.inr (by decide) | exact Or.inr (by omega)) ?_
    refine wp_aload_n dX6_readStep_271 rfl rfl (by first | exact Or.inl (by decide) | exact Or.inl (by omega) | exact Or.inr (by decide) | exact Or.inr (by omega)) ?_
    refine wp_iload dX6_readStep_272 rfl ?_
    refine wp_cVq (n := 2) (mt' := mX6_readBrackets) (as := [vR (b + 1), vI l4]) (rest := []) _ dX6_readStep_274 lX6_104 kX6_readBrackets vX6_readBrackets (by decide) (by decide +kernel) rfl (Nat.le_of_ble_eq_true rfl) (by decide) rfl rfl rfl (Nat.le_of_ble_eq_true rfl) (fun hM hS => h) (fun r M' hq hM => ?_)
    obtain ⟨x274, m274, n274, rfl, rfl, h⟩ := rI_out hq
    exact wp_zret dX6_readStep_277 rfl h.1 (fun _ => h.2)
  · replace h := h.1 h240
    refine wp_aload_n dX6_readStep_243 rfl rfl (by first | exact Or.inl (by decide) | exact Or.inl (by omega) | exact Or.inr (by decide) | exact Or.inr (by omega)) ?_
    refine wp_getR dX6_readStep_244 fX6_45 rfl (by decide) ?_
    refine wp_topR (x' := 2) rfl ?_
    refine wp_cVq (n := 0) (mt' := mX1_needName) (as := []) (rest := []) _ dX6_readStep_247 lX6_94 kX1_needName vX1_needName (by decide) (by decide +kernel) rfl (Nat.le_of_ble_eq_true rfl) (by decide) rfl rfl rfl (Nat.le_of_ble_eq_true rfl) (fun hM hS => h) (fun r M' hq hM => ?_)
    obtain ⟨x247, m247, n247, rfl, rfl, h⟩ := rI_out hq
    refine wp_if_ne (tgt := 255) dX6_readStep_250 (by decide) (fun h250 => ?_) (fun h250 => ?_)
    · replace h := h.2 h250
      refine wp_aload_n dX6_readStep_255 rfl rfl (by first | exact Or.inl (by decide) | exact Or.inl (by omega) | exact Or.inr (by decide) | exact Or.inr (by omega)) ?_
      refine wp_getR dX6_readStep_256 fX6_15 rfl (by decide) ?_
      refine wp_topR (x' := 16) rfl ?_
      refine wp_iload dX6_readStep_259 rfl ?_
      refine wp_aload_n dX6_readStep_261 rfl rfl (by first | exact Or.inl (by decide) | exact Or.inl (by omega) | exact Or.inr (by decide) | exact Or.inr (by omega)) ?_
      refine wp_aload_n dX6_readStep_262 rfl rfl (by first | exact Or.inl (by decide) | exact Or.inl (by omega) | exact Or.inr (by decide) | exact Or.inr (by omega)) ?_
      refine wp_getR dX6_readStep_263 fX6_45 rfl (by decide) ?_
      refine wp_topR (x' := 2) rfl ?_
      refine wp_cVq (n := 1) (mt' := mX5_find) (as := [vR 2]) (rest := [vI l4, vR 16]) _ dX6_readStep_266 lX6_98 kX5_find vX5_find (by decide) (by decide +kernel) rfl (Nat.le_of_ble_eq_true rfl) (by omega) (kdb_1 hbd) rfl rfl (Nat.le_of_ble_eq_true rfl) (fun hM hS => h) (fun r M' hq hM => ?_)
      obtain ⟨x266, m266, n266, rfl, rfl, h⟩ := rI_out hq
      have c1 := h.1
      replace h := h.2
      refine wp_iast dX6_readStep_269 rfl (by decide) c1 ?_
      refine wp_gI (fun m269 e269 => ?_)
      replace h := h m269 e269
      refine wp_aload_n dX6_readStep_270 rfl rfl (by first | exact Or.inl (by decide) | exact Or.inl (by omega) | exact Or.inr (by decide) | exact Or.inr (by omega)) ?_
      refine wp_aload_n dX6_readStep_271 rfl rfl (by first | exact Or.inl (by decide) | exact Or.inl (by omega) | exact Or.inr (by decide) | exact Or.inr (by omega)) ?_
      refine wp_iload dX6_readStep_272 rfl ?_
      refine wp_cVq (n := 2) (mt' := mX6_readBrackets) (as := [vR (b + 1), vI l4]) (rest := []) _ dX6_readStep_274 lX6_104 kX6_readBrackets vX6_readBrackets (by decide) (by decide +kernel) rfl (Nat.le_of_ble_eq_true rfl) (by decide) rfl rfl rfl (Nat.le_of_ble_eq_true rfl) (fun hM hS => h) (fun r M' hq hM => ?_)
      obtain ⟨x274, m274, n274, rfl, rfl, h⟩ := rI_out hq
      exact wp_zret dX6_readStep_277 rfl h.1 (fun _ => h.2)
    · replace h := h.1 h250
      refine wp_iconst dX6_readStep_253 (by decide) ?_
      exact wp_zret dX6_readStep_254 rfl (by decide) (fun _ => h)
