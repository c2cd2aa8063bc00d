theorem dX2_readGroup_0 : decode cX2_readGroup 0 = .ok (.iconst 0, 1) := by decide +kernel
theorem dX2_readGroup_1 : decode cX2_readGroup 1 = .ok (.istore_n 3, 1) := by decide +kernel
theorem dX2_readGroup_2 : decode cX2_readGroup 2 = .ok (.aload_n 0, 1) := by decide +kernel
theorem dX2_readGroup_3 : decode cX2_readGroup 3 = .ok (.iconst 0, 1) := by decide +kernel
theorem dX2_readGroup_4 : decode cX2_readGroup 4 = .ok (.putfield 29, 3) := by decide +kernel
theorem dX2_readGroup_7 : decode cX2_readGroup 7 = .ok (.aload_n 0, 1) := by decide +kernel
theorem dX2_readGroup_8 : decode cX2_readGroup 8 = .ok (.invokevirtual 169, 3) := by decide +kernel
theorem dX2_readGroup_11 : decode cX2_readGroup 11 = .ok (.iconst 0, 1) := by decide +kernel
theorem dX2_readGroup_12 : decode cX2_readGroup 12 = .ok (.istore 4, 2) := by decide +kernel
theorem dX2_readGroup_14 : decode cX2_readGroup 14 = .ok (.iload 4, 2) := by decide +kernel
theorem dX2_readGroup_16 : decode cX2_readGroup 16 = .ok (.aload_n 0, 1) := by decide +kernel
theorem dX2_readGroup_17 : decode cX2_readGroup 17 = .ok (.getfield 44, 3) := by decide +kernel
theorem dX2_readGroup_20 : decode cX2_readGroup 20 = .ok (.getfield 89, 3) := by decide +kernel
theorem dX2_readGroup_23 : decode cX2_readGroup 23 = .ok (.if_icmp .ge 141, 3) := by decide +kernel
theorem dX2_readGroup_26 : decode cX2_readGroup 26 = .ok (.aload_n 0, 1) := by decide +kernel
theorem dX2_readGroup_27 : decode cX2_readGroup 27 = .ok (.getfield 29, 3) := by decide +kernel
theorem dX2_readGroup_30 : decode cX2_readGroup 30 = .ok (.ifCond .le 134, 3) := by decide +kernel
theorem dX2_readGroup_33 : decode cX2_readGroup 33 = .ok (.aload_n 0, 1) := by decide +kernel
theorem dX2_readGroup_34 : decode cX2_readGroup 34 = .ok (.getfield 44, 3) := by decide +kernel
theorem dX2_readGroup_37 : decode cX2_readGroup 37 = .ok (.invokevirtual 78, 3) := by decide +kernel
theorem dX2_readGroup_40 : decode cX2_readGroup 40 = .ok (.aload_n 0, 1) := by decide +kernel
theorem dX2_readGroup_41 : decode cX2_readGroup 41 = .ok (.getfield 44, 3) := by decide +kernel
theorem dX2_readGroup_44 : decode cX2_readGroup 44 = .ok (.getfield 94, 3) := by decide +kernel
theorem dX2_readGroup_47 : decode cX2_readGroup 47 = .ok (.istore 5, 2) := by decide +kernel
theorem dX2_readGroup_49 : decode cX2_readGroup 49 = .ok (.iload_n 3, 1) := by decide +kernel
theorem dX2_readGroup_50 : decode cX2_readGroup 50 = .ok (.ifCond .eq 46, 3) := by decide +kernel
theorem dX2_readGroup_53 : decode cX2_readGroup 53 = .ok (.aload_n 0, 1) := by decide +kernel
theorem dX2_readGroup_54 : decode cX2_readGroup 54 = .ok (.getfield 44, 3) := by decide +kernel
theorem dX2_readGroup_57 : decode cX2_readGroup 57 = .ok (.ldc 162, 2) := by decide +kernel
theorem dX2_readGroup_59 : decode cX2_readGroup 59 = .ok (.invokevirtual 50, 3) := by decide +kernel
theorem dX2_readGroup_62 : decode cX2_readGroup 62 = .ok (.istore_n 3, 1) := by decide +kernel
theorem dX2_readGroup_63 : decode cX2_readGroup 63 = .ok (.iload_n 3, 1) := by decide +kernel
theorem dX2_readGroup_64 : decode cX2_readGroup 64 = .ok (.ifCond .ne 12, 3) := by decide +kernel
theorem dX2_readGroup_67 : decode cX2_readGroup 67 = .ok (.aload_n 0, 1) := by decide +kernel
theorem dX2_readGroup_68 : decode cX2_readGroup 68 = .ok (.invokevirtual 172, 3) := by decide +kernel
theorem dX2_readGroup_71 : decode cX2_readGroup 71 = .ok (.ifCond .ne 5, 3) := by decide +kernel
theorem dX2_readGroup_74 : decode cX2_readGroup 74 = .ok (.iconst 0, 1) := by decide +kernel
theorem dX2_readGroup_75 : decode cX2_readGroup 75 = .ok (.ireturn, 1) := by decide +kernel
theorem dX2_readGroup_76 : decode cX2_readGroup 76 = .ok (.iload_n 3, 1) := by decide +kernel
theorem dX2_readGroup_77 : decode cX2_readGroup 77 = .ok (.ifCond .eq 81, 3) := by decide +kernel
theorem dX2_readGroup_80 : decode cX2_readGroup 80 = .ok (.aload_n 0, 1) := by decide +kernel
theorem dX2_readGroup_81 : decode cX2_readGroup 81 = .ok (.invokevirtual 175, 3) := by decide +kernel
theorem dX2_readGroup_84 : decode cX2_readGroup 84 = .ok (.aload_n 0, 1) := by decide +kernel
theorem dX2_readGroup_85 : decode cX2_readGroup 85 = .ok (.aload_n 1, 1) := by decide +kernel
theorem dX2_readGroup_86 : decode cX2_readGroup 86 = .ok (.getfield 111, 3) := by decide +kernel
theorem dX2_readGroup_89 : decode cX2_readGroup 89 = .ok (.iload_n 2, 1) := by decide +kernel
theorem dX2_readGroup_90 : decode cX2_readGroup 90 = .ok (.invokevirtual 178, 3) := by decide +kernel
theorem dX2_readGroup_93 : decode cX2_readGroup 93 = .ok (.goto 65, 3) := by decide +kernel
theorem dX2_readGroup_96 : decode cX2_readGroup 96 = .ok (.aload_n 0, 1) := by decide +kernel
theorem dX2_readGroup_97 : decode cX2_readGroup 97 = .ok (.getfield 44, 3) := by decide +kernel
theorem dX2_readGroup_100 : decode cX2_readGroup 100 = .ok (.ldc 147, 2) := by decide +kernel
theorem dX2_readGroup_102 : decode cX2_readGroup 102 = .ok (.invokevirtual 50, 3) := by decide +kernel
theorem dX2_readGroup_105 : decode cX2_readGroup 105 = .ok (.ifCond .eq 31, 3) := by decide +kernel
theorem dX2_readGroup_108 : decode cX2_readGroup 108 = .ok (.aload_n 0, 1) := by decide +kernel
theorem dX2_readGroup_109 : decode cX2_readGroup 109 = .ok (.getfield 29, 3) := by decide +kernel
theorem dX2_readGroup_112 : decode cX2_readGroup 112 = .ok (.bipush 6, 2) := by decide +kernel
theorem dX2_readGroup_114 : decode cX2_readGroup 114 = .ok (.if_icmp .lt 15, 3) := by decide +kernel
theorem dX2_readGroup_117 : decode cX2_readGroup 117 = .ok (.aload_n 0, 1) := by decide +kernel
theorem dX2_readGroup_118 : decode cX2_readGroup 118 = .ok (.getfield 44, 3) := by decide +kernel
theorem dX2_readGroup_121 : decode cX2_readGroup 121 = .ok (.bipush (-3), 2) := by decide +kernel
theorem dX2_readGroup_123 : decode cX2_readGroup 123 = .ok (.iload 5, 2) := by decide +kernel
theorem dX2_readGroup_125 : decode cX2_readGroup 125 = .ok (.invokevirtual 118, 3) := by decide +kernel
theorem dX2_readGroup_128 : decode cX2_readGroup 128 = .ok (.ireturn, 1) := by decide +kernel
theorem dX2_readGroup_129 : decode cX2_readGroup 129 = .ok (.aload_n 0, 1) := by decide +kernel
theorem dX2_readGroup_130 : decode cX2_readGroup 130 = .ok (.invokevirtual 169, 3) := by decide +kernel
theorem dX2_readGroup_133 : decode cX2_readGroup 133 = .ok (.goto 25, 3) := by decide +kernel
theorem dX2_readGroup_136 : decode cX2_readGroup 136 = .ok (.aload_n 0, 1) := by decide +kernel
theorem dX2_readGroup_137 : decode cX2_readGroup 137 = .ok (.aload_n 1, 1) := by decide +kernel
theorem dX2_readGroup_138 : decode cX2_readGroup 138 = .ok (.iload_n 2, 1) := by decide +kernel
theorem dX2_readGroup_139 : decode cX2_readGroup 139 = .ok (.invokevirtual 159, 3) := by decide +kernel
theorem dX2_readGroup_142 : decode cX2_readGroup 142 = .ok (.ifCond .ne 5, 3) := by decide +kernel
theorem dX2_readGroup_145 : decode cX2_readGroup 145 = .ok (.iconst 0, 1) := by decide +kernel
theorem dX2_readGroup_146 : decode cX2_readGroup 146 = .ok (.ireturn, 1) := by decide +kernel
theorem dX2_readGroup_147 : decode cX2_readGroup 147 = .ok (.aload_n 0, 1) := by decide +kernel
theorem dX2_readGroup_148 : decode cX2_readGroup 148 = .ok (.aload_n 1, 1) := by decide +kernel
theorem dX2_readGroup_149 : decode cX2_readGroup 149 = .ok (.getfield 111, 3) := by decide +kernel
theorem dX2_readGroup_152 : decode cX2_readGroup 152 = .ok (.iload_n 2, 1) := by decide +kernel
theorem dX2_readGroup_153 : decode cX2_readGroup 153 = .ok (.invokevirtual 178, 3) := by decide +kernel
theorem dX2_readGroup_156 : decode cX2_readGroup 156 = .ok (.iconst 1, 1) := by decide +kernel
theorem dX2_readGroup_157 : decode cX2_readGroup 157 = .ok (.istore_n 3, 1) := by decide +kernel
theorem dX2_readGroup_158 : decode cX2_readGroup 158 = .ok (.iinc 4 1, 3) := by decide +kernel
theorem dX2_readGroup_161 : decode cX2_readGroup 161 = .ok (.goto (-147), 3) := by decide +kernel
theorem dX2_readGroup_164 : decode cX2_readGroup 164 = .ok (.aload_n 1, 1) := by decide +kernel
theorem dX2_readGroup_165 : decode cX2_readGroup 165 = .ok (.getfield 111, 3) := by decide +kernel
theorem dX2_readGroup_168 : decode cX2_readGroup 168 = .ok (.getfield 182, 3) := by decide +kernel
theorem dX2_readGroup_171 : decode cX2_readGroup 171 = .ok (.iload_n 2, 1) := by decide +kernel
theorem dX2_readGroup_172 : decode cX2_readGroup 172 = .ok (.aload_n 0, 1) := by decide +kernel
theorem dX2_readGroup_173 : decode cX2_readGroup 173 = .ok (.getfield 33, 3) := by decide +kernel
theorem dX2_readGroup_176 : decode cX2_readGroup 176 = .ok (.lastore, 1) := by decide +kernel
theorem dX2_readGroup_177 : decode cX2_readGroup 177 = .ok (.aload_n 1, 1) := by decide +kernel
theorem dX2_readGroup_178 : decode cX2_readGroup 178 = .ok (.getfield 111, 3) := by decide +kernel
theorem dX2_readGroup_181 : decode cX2_readGroup 181 = .ok (.getfield 183, 3) := by decide +kernel
theorem dX2_readGroup_184 : decode cX2_readGroup 184 = .ok (.iload_n 2, 1) := by decide +kernel
theorem dX2_readGroup_185 : decode cX2_readGroup 185 = .ok (.aload_n 0, 1) := by decide +kernel
theorem dX2_readGroup_186 : decode cX2_readGroup 186 = .ok (.getfield 37, 3) := by decide +kernel
theorem dX2_readGroup_189 : decode cX2_readGroup 189 = .ok (.lastore, 1) := by decide +kernel
theorem dX2_readGroup_190 : decode cX2_readGroup 190 = .ok (.aload_n 1, 1) := by decide +kernel
theorem dX2_readGroup_191 : decode cX2_readGroup 191 = .ok (.getfield 111, 3) := by decide +kernel
theorem dX2_readGroup_194 : decode cX2_readGroup 194 = .ok (.getfield 184, 3) := by decide +kernel
theorem dX2_readGroup_197 : decode cX2_readGroup 197 = .ok (.iload_n 2, 1) := by decide +kernel
theorem dX2_readGroup_198 : decode cX2_readGroup 198 = .ok (.aload_n 0, 1) := by decide +kernel
theorem dX2_readGroup_199 : decode cX2_readGroup 199 = .ok (.getfield 40, 3) := by decide +kernel
theorem dX2_readGroup_202 : decode cX2_readGroup 202 = .ok (.bastore, 1) := by decide +kernel
theorem dX2_readGroup_203 : decode cX2_readGroup 203 = .ok (.iconst 1, 1) := by decide +kernel
theorem dX2_readGroup_204 : decode cX2_readGroup 204 = .ok (.ireturn, 1) := by decide +kernel
theorem v_X2_readGroup_0 {cs : Cs} {Q : Option AV → Mm → Prop} {MI ML : Nat → Nat → Int} {b d e nw th : Nat} {l2 : Int} (hbd : b = 38 ∨ b = 81)
    (h : ∀ m4, m4 = up2 MI 4 6 0 → wp cs mX2_openGroup KD (rV (GR d e nw th 1) fun m8 n8 => wp cs mX2_readGroup KD Q 14 [some (vR 4), some (vR b), some (vI l2), some (vI 0), some (vI 0), none] [] (KD, m8, n8, (GR d e nw th 1))) 0 (padL [vR 4] 1) [] (KD, m4, ML, (GR d e nw th 1))) :
    wp cs mX2_readGroup KD Q 0 (padL [vR 4, vR b, vI l2] 6) [] (KD, MI, ML, (GR d e nw th 1)) := by
  refine wp_L (L' := [some (vR 4), some (vR b), some (vI l2), none, none, none]) rfl ?_
  refine wp_iconst dX2_readGroup_0 (by decide) ?_
  refine wp_istore_n dX2_readGroup_1 rfl (by decide) (wp_L (L' := [some (vR 4), some (vR b), some (vI l2), some (vI 0), none, none]) rfl ?_)
  refine wp_aload_n dX2_readGroup_2 rfl rfl (by first | exact Or.inl (by decide) | exact Or.inl (by omega) | exact Or.inr (by decide) | exact Or.inr (by omega)) ?_
  refine wp_iconst dX2_readGroup_3 (by decide) ?_
  refine wp_putI dX2_readGroup_4 pX2_29 rfl (by decide) ?_
  refine wp_gI (fun m4 e4 => ?_)
  replace h := h m4 e4
  refine wp_aload_n dX2_readGroup_7 rfl rfl (by first | exact Or.inl (by decide) | exact Or.inl (by omega) | exact Or.inr (by decide) | exact Or.inr (by omega)) ?_
  refine wp_cVq (n := 0) (mt' := mX2_openGroup) (as := []) (rest := []) _ dX2_readGroup_8 lX2_169 kX2_openGroup vX2_openGroup (by decide) (by decide +kernel) rfl (Nat.le_of_ble_eq_true rfl) (by decide) rfl rfl rfl (Nat.le_of_ble_eq_true rfl) (fun hM hS => h) (fun r M' hq hM => ?_)
  obtain ⟨m8, n8, rfl, rfl, h⟩ := rV_out hq
  refine wp_iconst dX2_readGroup_11 (by decide) ?_
  refine wp_istore dX2_readGroup_12 (by decide) (wp_L (L' := [some (vR 4), some (vR b), some (vI l2), some (vI 0), some (vI 0), none]) rfl ?_)
  exact h
theorem v_X2_readGroup_14 {cs : Cs} {Q : Option AV → Mm → Prop} {MI ML : Nat → Nat → Int} {b d e nw th : Nat} {l2 l3 l4 : Int} (hbd : b = 38 ∨ b = 81)
    (h : ((l4 < (MI 2 1) → ((0 < (MI 4 6) → wp cs mX1_skipSpace KD (rV (GR d e nw th 1) fun m37 n37 => ((l3 = 0 → wp cs mX1_takeIf KD (rI (GR d e nw th 1) fun x102 m102 n102 => ((x102 = 0 → wp cs mX2_readPlace KD (rI (GR d e nw th 1) fun x139 m139 n139 => ((x139 = 0 → Q (some (vI 0)) (m139, n139, (GR d e nw th 1))) ∧ (x139 ≠ 0 → wp cs mX2_endPart KD (rV (GR d e nw th 1) fun m153 n153 => (-2147483648 ≤ l4 + 1 ∧ l4 + 1 < 2147483648) ∧ wp cs mX2_readGroup KD Q 14 [some (vR 4), some (vR b), some (vI l2), some (vI 1), some (vI (l4 + 1)), none] [] (KD, m153, n153, (GR d e nw th 1))) 0 (padL [vR 4, vR (b + 9), vI l2] 6) [] (KD, m139, n139, (GR d e nw th 1))))) 0 (padL [vR 4, vR b, vI l2] 4) [] (KD, m102, n102, (GR d e nw th 1))) ∧ (x102 ≠ 0 → (((m102 4 6) < 6 → wp cs mX2_openGroup KD (rV (GR d e nw th 1) fun m130 n130 => (-2147483648 ≤ l4 + 1 ∧ l4 + 1 < 2147483648) ∧ wp cs mX2_readGroup KD Q 14 [some (vR 4), some (vR b), some (vI l2), some (vI l3), some (vI (l4 + 1)), none] [] (KD, m130, n130, (GR d e nw th 1))) 0 (padL [vR 4] 1) [] (KD, m102, n102, (GR d e nw th 1))) ∧ (6 ≤ (m102 4 6) → wp cs mX1_refuse KD (rI (GR d e nw th 1) fun x125 m125 n125 => (x125 = 0 ∨ x125 = 1) ∧ Q (some (vI x125)) (m125, n125, (GR d e nw th 1))) 0 (padL [vR 2, vI (-3), vI (m37 2 2)] 3) [] (KD, m102, n102, (GR d e nw th 1))))))) 0 (padL [vR 2, vR 1000012] 4) [] (KD, m37, n37, (GR d e nw th 1))) ∧ (l3 ≠ 0 → wp cs mX1_takeIf KD (rI (GR d e nw th 1) fun x59 m59 n59 => ((x59 = 0 → wp cs mX2_readSign KD (rI (GR d e nw th 1) fun x68 m68 n68 => ((x68 = 0 → Q (some (vI 0)) (m68, n68, (GR d e nw th 1))) ∧ (x68 ≠ 0 → ((x59 = 0 → (-2147483648 ≤ l4 + 1 ∧ l4 + 1 < 2147483648) ∧ wp cs mX2_readGroup KD Q 14 [some (vR 4), some (vR b), some (vI l2), some (vI x59), some (vI (l4 + 1)), none] [] (KD, m68, n68, (GR d e nw th 1))) ∧ (x59 ≠ 0 → wp cs mX2_closeGroup KD (rV (GR d e nw th 1) fun m81 n81 => wp cs mX2_endPart KD (rV (GR d e nw th 1) fun m90 n90 => (-2147483648 ≤ l4 + 1 ∧ l4 + 1 < 2147483648) ∧ wp cs mX2_readGroup KD Q 14 [some (vR 4), some (vR b), some (vI l2), some (vI x59), some (vI (l4 + 1)), none] [] (KD, m90, n90, (GR d e nw th 1))) 0 (padL [vR 4, vR (b + 9), vI l2] 6) [] (KD, m81, n81, (GR d e nw th 1))) 0 (padL [vR 4] 1) [] (KD, m68, n68, (GR d e nw th 1))))))) 0 (padL [vR 4] 3) [] (KD, m59, n59, (GR d e nw th 1))) ∧ (x59 ≠ 0 → ((x59 = 0 → (-2147483648 ≤ l4 + 1 ∧ l4 + 1 < 2147483648) ∧ wp cs mX2_readGroup KD Q 14 [some (vR 4), some (vR b), some (vI l2), some (vI x59), some (vI (l4 + 1)), none] [] (KD, m59, n59, (GR d e nw th 1))) ∧ (x59 ≠ 0 → wp cs mX2_closeGroup KD (rV (GR d e nw th 1) fun m81 n81 => wp cs mX2_endPart KD (rV (GR d e nw th 1) fun m90 n90 => (-2147483648 ≤ l4 + 1 ∧ l4 + 1 < 2147483648) ∧ wp cs mX2_readGroup KD Q 14 [some (vR 4), some (vR b), some (vI l2), some (vI x59), some (vI (l4 + 1)), none] [] (KD, m90, n90, (GR d e nw th 1))) 0 (padL [vR 4, vR (b + 9), vI l2] 6) [] (KD, m81, n81, (GR d e nw th 1))) 0 (padL [vR 4] 1) [] (KD, m59, n59, (GR d e nw th 1))))))) 0 (padL [vR 2, vR 1000015] 4) [] (KD, m37, n37, (GR d e nw th 1))))) 0 (padL [vR 2] 1) [] (KD, MI, ML, (GR d e nw th 1))) ∧ ((MI 4 6) ≤ 0 → wp cs mX2_readGroup KD Q 164 [some (vR 4), some (vR b), some (vI l2), some (vI l3), some (vI l4), none] [] (KD, MI, ML, (GR d e nw th 1))))) ∧ ((MI 2 1) ≤ l4 → wp cs mX2_readGroup KD Q 164 [some (vR 4), some (vR b), some (vI l2), some (vI l3), some (vI l4), none] [] (KD, MI, ML, (GR d e nw th 1))))) :
    wp cs mX2_readGroup KD Q 14 [some (vR 4), some (vR b), some (vI l2), some (vI l3), some (vI l4), none] [] (KD, MI, ML, (GR d e nw th 1)) := by
  refine wp_iload dX2_readGroup_14 rfl ?_
  refine wp_aload_n dX2_readGroup_16 rfl rfl (by first | exact Or.inl (by decide) | exact Or.inl (by omega) | exact Or.inr (by decide) | exact Or.inr (by omega)) ?_
  refine wp_getR dX2_readGroup_17 fX2_44 rfl (by decide) ?_
  refine wp_topR (x' := 2) rfl ?_
  refine wp_getI dX2_readGroup_20 fX2_89 rfl (by decide) ?_
  refine wp_icmp_ge (tgt := 164) dX2_readGroup_23 (by decide) (fun h23 => ?_) (fun h23 => ?_)
  · replace h := h.2 h23
    exact h
  · replace h := h.1 h23
    refine wp_aload_n dX2_readGroup_26 rfl rfl (by first | exact Or.inl (by decide) | exact Or.inl (by omega) | exact Or.inr (by decide) | exact Or.inr (by omega)) ?_
    refine wp_getI dX2_readGroup_27 fX2_29 rfl (by decide) ?_
    refine wp_if_le (tgt := 164) dX2_readGroup_30 (by decide) (fun h30 => ?_) (fun h30 => ?_)
    · replace h := h.2 h30
      exact h
    · replace h := h.1 h30
      refine wp_aload_n dX2_readGroup_33 rfl rfl (by first | exact Or.inl (by decide) | exact Or.inl (by omega) | exact Or.inr (by decide) | exact Or.inr (by omega)) ?_
      refine wp_getR dX2_readGroup_34 fX2_44 rfl (by decide) ?_
      refine wp_topR (x' := 2) rfl ?_
      refine wp_cVq (n := 0) (mt' := mX1_skipSpace) (as := []) (rest := []) _ dX2_readGroup_37 lX2_78 kX1_skipSpace vX1_skipSpace (by decide) (by decide +kernel) rfl (Nat.le_of_ble_eq_true rfl) (by decide) rfl rfl rfl (Nat.le_of_ble_eq_true rfl) (fun hM hS => h) (fun r M' hq hM => ?_)
      obtain ⟨m37, n37, rfl, rfl, h⟩ := rV_out hq
      refine wp_aload_n dX2_readGroup_40 rfl rfl (by first | exact Or.inl (by decide) | exact Or.inl (by omega) | exact Or.inr (by decide) | exact Or.inr (by omega)) ?_
      refine wp_getR dX2_readGroup_41 fX2_44 rfl (by decide) ?_
      refine wp_topR (x' := 2) rfl ?_
      refine wp_getI dX2_readGroup_44 fX2_94 rfl (by decide) ?_
      refine wp_istore dX2_readGroup_47 (by decide) (wp_L (L' := [some (vR 4), some (vR b), some (vI l2), some (vI l3), some (vI l4), some (vI (m37 2 2))]) rfl ?_)
      refine wp_iload_n dX2_readGroup_49 rfl rfl ?_
      refine wp_if_eq (tgt := 96) dX2_readGroup_50 (by decide) (fun h50 => ?_) (fun h50 => ?_)
      · replace h := h.1 h50
        refine wp_aload_n dX2_readGroup_96 rfl rfl (by first | exact Or.inl (by decide) | exact Or.inl (by omega) | exact Or.inr (by decide) | exact Or.inr (by omega)) ?_
        refine wp_getR dX2_readGroup_97 fX2_44 rfl (by decide) ?_
        refine wp_topR (x' := 2) rfl ?_
        refine wp_ldcS (k := 9) dX2_readGroup_100 cX2_147 ?_
        refine wp_cVq (n := 1) (mt' := mX1_takeIf) (as := [vR 1000012]) (rest := []) _ dX2_readGroup_102 lX2_50 kX1_takeIf vX1_takeIf (by decide) (by decide +kernel) rfl (Nat.le_of_ble_eq_true rfl) (by decide) rfl rfl rfl (Nat.le_of_ble_eq_true rfl) (fun hM hS => h) (fun r M' hq hM => ?_)
        obtain ⟨x102, m102, n102, rfl, rfl, h⟩ := rI_out hq
        refine wp_if_eq (tgt := 136) dX2_readGroup_105 (by decide) (fun h105 => ?_) (fun h105 => ?_)
        · replace h := h.1 h105
          refine wp_aload_n dX2_readGroup_136 rfl rfl (by first | exact Or.inl (by decide) | exact Or.inl (by omega) | exact Or.inr (by decide) | exact Or.inr (by omega)) ?_
          refine wp_aload_n dX2_readGroup_137 rfl rfl (by first | exact Or.inl (by decide) | exact Or.inl (by omega) | exact Or.inr (by decide) | exact Or.inr (by omega)) ?_
          refine wp_iload_n dX2_readGroup_138 rfl rfl ?_
          refine wp_cVq (n := 2) (mt' := mX2_readPlace) (as := [vR b, vI l2]) (rest := []) _ dX2_readGroup_139 lX2_159 kX2_readPlace vX2_readPlace (by decide) (by decide +kernel) rfl (Nat.le_of_ble_eq_true rfl) (by decide) rfl rfl rfl (Nat.le_of_ble_eq_true rfl) (fun hM hS => h) (fun r M' hq hM => ?_)
          obtain ⟨x139, m139, n139, rfl, rfl, h⟩ := rI_out hq
          refine wp_if_ne (tgt := 147) dX2_readGroup_142 (by decide) (fun h142 => ?_) (fun h142 => ?_)
          · replace h := h.2 h142
            refine wp_aload_n dX2_readGroup_147 rfl rfl (by first | exact Or.inl (by decide) | exact Or.inl (by omega) | exact Or.inr (by decide) | exact Or.inr (by omega)) ?_
            refine wp_aload_n dX2_readGroup_148 rfl rfl (by first | exact Or.inl (by decide) | exact Or.inl (by omega) | exact Or.inr (by decide) | exact Or.inr (by omega)) ?_
            refine wp_getR dX2_readGroup_149 fX2_111 (show KD[b]? = some (7, 19) from kdb_0 hbd) (by omega) ?_
            refine wp_topR (x' := (b + 9)) (grb_0_1 hbd) ?_
            refine wp_iload_n dX2_readGroup_152 rfl rfl ?_
            refine wp_cVq (n := 2) (mt' := mX2_endPart) (as := [vR (b + 9), vI l2]) (rest := []) _ dX2_readGroup_153 lX2_178 kX2_endPart vX2_endPart (by decide) (by decide +kernel) rfl (Nat.le_of_ble_eq_true rfl) (by decide) rfl rfl rfl (Nat.le_of_ble_eq_true rfl) (fun hM hS => h) (fun r M' hq hM => ?_)
            obtain ⟨m153, n153, rfl, rfl, h⟩ := rV_out hq
            refine wp_iconst dX2_readGroup_156 (by decide) ?_
            refine wp_istore_n dX2_readGroup_157 rfl (by decide) (wp_L (L' := [some (vR 4), some (vR b), some (vI l2), some (vI 1), some (vI l4), some (vI (m37 2 2))]) rfl ?_)
            have c0 := h.1
            replace h := h.2
            refine wp_iincr dX2_readGroup_158 rfl (by decide) c0 (wp_L (L' := [some (vR 4), some (vR b), some (vI l2), some (vI 1), some (vI (l4 + 1)), some (vI (m37 2 2))]) rfl ?_)
            refine wp_goto (tgt := 14) dX2_readGroup_161 (by decide) ?_
            refine wp_forget (L' := [some (vR 4), some (vR b), some (vI l2), some (vI 1), some (vI (l4 + 1)), none]) (by repeat' (first | exact trivial | refine ⟨rfl, ?_⟩)) ?_
            exact h
          · replace h := h.1 h142
            refine wp_iconst dX2_readGroup_145 (by decide) ?_
            exact wp_zret dX2_readGroup_146 rfl (by decide) (fun _ => h)
        · replace h := h.2 h105
          refine wp_aload_n dX2_readGroup_108 rfl rfl (by first | exact Or.inl (by decide) | exact Or.inl (by omega) | exact Or.inr (by decide) | exact Or.inr (by omega)) ?_
          refine wp_getI dX2_readGroup_109 fX2_29 rfl (by decide) ?_
          refine wp_bipush dX2_readGroup_112 (by decide +kernel) (by decide) ?_
          refine wp_icmp_lt (tgt := 129) dX2_readGroup_114 (by decide) (fun h114 => ?_) (fun h114 => ?_)
          · replace h := h.1 h114
            refine wp_aload_n dX2_readGroup_129 rfl rfl (by first | exact Or.inl (by decide) | exact Or.inl (by omega) | exact Or.inr (by decide) | exact Or.inr (by omega)) ?_
            refine wp_cVq (n := 0) (mt' := mX2_openGroup) (as := []) (rest := []) _ dX2_readGroup_130 lX2_169 kX2_openGroup vX2_openGroup (by decide) (by decide +kernel) rfl (Nat.le_of_ble_eq_true rfl) (by decide) rfl rfl rfl (Nat.le_of_ble_eq_true rfl) (fun hM hS => h) (fun r M' hq hM => ?_)
            obtain ⟨m130, n130, rfl, rfl, h⟩ := rV_out hq
            refine wp_goto (tgt := 158) dX2_readGroup_133 (by decide) ?_
            have c0 := h.1
            replace h := h.2
            refine wp_iincr dX2_readGroup_158 rfl (by decide) c0 (wp_L (L' := [some (vR 4), some (vR b), some (vI l2), some (vI l3), some (vI (l4 + 1)), some (vI (m37 2 2))]) rfl ?_)
            refine wp_goto (tgt := 14) dX2_readGroup_161 (by decide) ?_
            refine wp_forget (L' := [some (vR 4), some (vR b), some (vI l2), some (vI l3), some (vI (l4 + 1)), none]) (by repeat' (first | exact trivial | refine ⟨rfl, ?_⟩)) ?_
            exact h
          · replace h := h.2 h114
            refine wp_aload_n dX2_readGroup_117 rfl rfl (by first | exact Or.inl (by decide) | exact Or.inl (by omega) | exact Or.inr (by decide) | exact Or.inr (by omega)) ?_
            refine wp_getR dX2_readGroup_118 fX2_44 rfl (by decide) ?_
            refine wp_topR (x' := 2) rfl ?_
            refine wp_bipush dX2_readGroup_121 (by decide +kernel) (by decide) ?_
            refine wp_iload dX2_readGroup_123 rfl ?_
            refine wp_cVq (n := 2) (mt' := mX1_refuse) (as := [vI (-3), vI (m37 2 2)]) (rest := []) _ dX2_readGroup_125 lX2_118 kX1_refuse vX1_refuse (by decide) (by decide +kernel) rfl (Nat.le_of_ble_eq_true rfl) (by decide) rfl rfl rfl (Nat.le_of_ble_eq_true rfl) (fun hM hS => h) (fun r M' hq hM => ?_)
            obtain ⟨x125, m125, n125, rfl, rfl, h⟩ := rI_out hq
            exact wp_zret dX2_readGroup_128 rfl h.1 (fun _ => h.2)
      · replace h := h.2 h50
        refine wp_aload_n dX2_readGroup_53 rfl rfl (by first | exact Or.inl (by decide) | exact Or.inl (by omega) | exact Or.inr (by decide) | exact Or.inr (by omega)) ?_
        refine wp_getR dX2_readGroup_54 fX2_44 rfl (by decide) ?_
        refine wp_topR (x' := 2) rfl ?_
        refine wp_ldcS (k := 12) dX2_readGroup_57 cX2_162 ?_
        refine wp_cVq (n := 1) (mt' := mX1_takeIf) (as := [vR 1000015]) (rest := []) _ dX2_readGroup_59 lX2_50 kX1_takeIf vX1_takeIf (by decide) (by decide +kernel) rfl (Nat.le_of_ble_eq_true rfl) (by decide) rfl rfl rfl (Nat.le_of_ble_eq_true rfl) (fun hM hS => h) (fun r M' hq hM => ?_)
        obtain ⟨x59, m59, n59, rfl, rfl, h⟩ := rI_out hq
        refine wp_istore_n dX2_readGroup_62 rfl (by decide) (wp_L (L' := [some (vR 4), some (vR b), some (vI l2), some (vI x59), some (vI l4), some (vI (m37 2 2))]) rfl ?_)
        refine wp_iload_n dX2_readGroup_63 rfl rfl ?_
        refine wp_if_ne (tgt := 76) dX2_readGroup_64 (by decide) (fun h64 => ?_) (fun h64 => ?_)
        · replace h := h.2 h64
          refine wp_iload_n dX2_readGroup_76 rfl rfl ?_
          refine wp_if_eq (tgt := 158) dX2_readGroup_77 (by decide) (fun h77 => ?_) (fun h77 => ?_)
          · replace h := h.1 h77
            have c0 := h.1
            replace h := h.2
            refine wp_iincr dX2_readGroup_158 rfl (by decide) c0 (wp_L (L' := [some (vR 4), some (vR b), some (vI l2), some (vI x59), some (vI (l4 + 1)), some (vI (m37 2 2))]) rfl ?_)
            refine wp_goto (tgt := 14) dX2_readGroup_161 (by decide) ?_
            refine wp_forget (L' := [some (vR 4), some (vR b), some (vI l2), some (vI x59), some (vI (l4 + 1)), none]) (by repeat' (first | exact trivial | refine ⟨rfl, ?_⟩)) ?_
            exact h
          · replace h := h.2 h77
            refine wp_aload_n dX2_readGroup_80 rfl rfl (by first | exact Or.inl (by decide) | exact Or.inl (by omega) | exact Or.inr (by decide) | exact Or.inr (by omega)) ?_
            refine wp_cVq (n := 0) (mt' := mX2_closeGroup) (as := []) (rest := []) _ dX2_readGroup_81 lX2_175 kX2_closeGroup vX2_closeGroup (by decide) (by decide +kernel) rfl (Nat.le_of_ble_eq_true rfl) (by decide) rfl rfl rfl (Nat.le_of_ble_eq_true rfl) (fun hM hS => h) (fun r M' hq hM => ?_)
            obtain ⟨m81, n81, rfl, rfl, h⟩ := rV_out hq
            refine wp_aload_n dX2_readGroup_84 rfl rfl (by first | exact Or.inl (by decide) | exact Or.inl (by omega) | exact Or.inr (by decide) | exact Or.inr (by omega)) ?_
            refine wp_aload_n dX2_readGroup_85 rfl rfl (by first | exact Or.inl (by decide) | exact Or.inl (by omega) | exact Or.inr (by decide) | exact Or.inr (by omega)) ?_
            refine wp_getR dX2_readGroup_86 fX2_111 (show KD[b]? = some (7, 19) from kdb_0 hbd) (by omega) ?_
            refine wp_topR (x' := (b + 9)) (grb_0_1 hbd) ?_
            refine wp_iload_n dX2_readGroup_89 rfl rfl ?_
            refine wp_cVq (n := 2) (mt' := mX2_endPart) (as := [vR (b + 9), vI l2]) (rest := []) _ dX2_readGroup_90 lX2_178 kX2_endPart vX2_endPart (by decide) (by decide +kernel) rfl (Nat.le_of_ble_eq_true rfl) (by decide) rfl rfl rfl (Nat.le_of_ble_eq_true rfl) (fun hM hS => h) (fun r M' hq hM => ?_)
            obtain ⟨m90, n90, rfl, rfl, h⟩ := rV_out hq
            refine wp_goto (tgt := 158) dX2_readGroup_93 (by decide) ?_
            have c0 := h.1
            replace h := h.2
            refine wp_iincr dX2_readGroup_158 rfl (by decide) c0 (wp_L (L' := [some (vR 4), some (vR b), some (vI l2), some (vI x59), some (vI (l4 + 1)), some (vI (m37 2 2))]) rfl ?_)
            refine wp_goto (tgt := 14) dX2_readGroup_161 (by decide) ?_
            refine wp_forget (L' := [some (vR 4), some (vR b), some (vI l2), some (vI x59), some (vI (l4 + 1)), none]) (by repeat' (first | exact trivial | refine ⟨rfl, ?_⟩)) ?_
            exact h
        · replace h := h.1 h64
          refine wp_aload_n dX2_readGroup_67 rfl rfl (by first | exact Or.inl (by decide) | exact Or.inl (by omega) | exact Or.inr (by decide) | exact Or.inr (by omega)) ?_
          refine wp_cVq (n := 0) (mt' := mX2_readSign) (as := []) (rest := []) _ dX2_readGroup_68 lX2_172 kX2_readSign vX2_readSign (by decide) (by decide +kernel) rfl (Nat.le_of_ble_eq_true rfl) (by decide) rfl rfl rfl (Nat.le_of_ble_eq_true rfl) (fun hM hS => h) (fun r M' hq hM => ?_)
          obtain ⟨x68, m68, n68, rfl, rfl, h⟩ := rI_out hq
          refine wp_if_ne (tgt := 76) dX2_readGroup_71 (by decide) (fun h71 => ?_) (fun h71 => ?_)
          · replace h := h.2 h71
            refine wp_iload_n dX2_readGroup_76 rfl rfl ?_
            refine wp_if_eq (tgt := 158) dX2_readGroup_77 (by decide) (fun h77 => ?_) (fun h77 => ?_)
            · replace h := h.1 h77
              have c0 := h.1
              replace h := h.2
              refine wp_iincr dX2_readGroup_158 rfl (by decide) c0 (wp_L (L' := [some (vR 4), some (vR b), some (vI l2), some (vI x59), some (vI (l4 + 1)), some (vI (m37 2 2))]) rfl ?_)
              refine wp_goto (tgt := 14) dX2_readGroup_161 (by decide) ?_
              refine wp_forget (L' := [some (vR 4), some (vR b), some (vI l2), some (vI x59), some (vI (l4 + 1)), none]) (by repeat' (first | exact trivial | refine ⟨rfl, ?_⟩)) ?_
              exact h
            · replace h := h.2 h77
              refine wp_aload_n dX2_readGroup_80 rfl rfl (by first | exact Or.inl (by decide) | exact Or.inl (by omega) | exact Or.inr (by decide) | exact Or.inr (by omega)) ?_
              refine wp_cVq (n := 0) (mt' := mX2_closeGroup) (as := []) (rest := []) _ dX2_readGroup_81 lX2_175 kX2_closeGroup vX2_closeGroup (by decide) (by decide +kernel) rfl (Nat.le_of_ble_eq_true rfl) (by decide) rfl rfl rfl (Nat.le_of_ble_eq_true rfl) (fun hM hS => h) (fun r M' hq hM => ?_)
              obtain ⟨m81, n81, rfl, rfl, h⟩ := rV_out hq
              refine wp_aload_n dX2_readGroup_84 rfl rfl (by first | exact Or.inl (by decide) | exact Or.inl (by omega) | exact Or.inr (by decide) | exact Or.inr (by omega)) ?_
              refine wp_aload_n dX2_readGroup_85 rfl rfl (by first | exact Or.inl (by decide) | exact Or.inl (by omega) | exact Or.inr (by decide) | exact Or.inr (by omega)) ?_
              refine wp_getR dX2_readGroup_86 fX2_111 (show KD[b]? = some (7, 19) from kdb_0 hbd) (by omega) ?_
              refine wp_topR (x' := (b + 9)) (grb_0_1 hbd) ?_
              refine wp_iload_n dX2_readGroup_89 rfl rfl ?_
              refine wp_cVq (n := 2) (mt' := mX2_endPart) (as := [vR (b + 9), vI l2]) (rest := []) _ dX2_readGroup_90 lX2_178 kX2_endPart vX2_endPart (by decide) (by decide +kernel) rfl (Nat.le_of_ble_eq_true rfl) (by decide) rfl rfl rfl (Nat.le_of_ble_eq_true rfl) (fun hM hS => h) (fun r M' hq hM => ?_)
              obtain ⟨m90, n90, rfl, rfl, h⟩ := rV_out hq
              refine wp_goto (tgt := 158) dX2_readGroup_93 (by decide) ?_
              have c0 := h.1
              replace h := h.2
              refine wp_iincr dX2_readGroup_158 rfl (by decide) c0 (wp_L (L' := [some (vR 4), some (vR b), some (vI l2), some (vI x59), some (vI (l4 + 1)), some (vI (m37 2 2))]) rfl ?_)
              refine wp_goto (tgt := 14) dX2_readGroup_161 (by decide) ?_
              refine wp_forget (L' := [some (vR 4), some (vR b), some (vI l2), some (vI x59), some (vI (l4 + 1)), none]) (by repeat' (first | exact trivial | refine ⟨rfl, ?_⟩)) ?_
              exact h
          · replace h := h.1 h71
            refine wp_iconst dX2_readGroup_74 (by decide) ?_
            exact wp_zret dX2_readGroup_75 rfl (by decide) (fun _ => h)
theorem v_X2_readGroup_164 {cs : Cs} {Q : Option AV → Mm → Prop} {MI ML : Nat → Nat → Int} {b d e nw th : Nat} {l2 l3 l4 : Int} (hbd : b = 38 ∨ b = 81)
    (h : (0 ≤ l2 ∧ l2 < 30) ∧ ∀ n176, n176 = up2 ML (b + 17) l2.toNat (ML 4 7) → ∀ n189, n189 = up2 n176 (b + 18) l2.toNat (n176 4 8) → (-128 ≤ (MI 4 9) ∧ (MI 4 9) < 128) ∧ ∀ m202, m202 = up2 MI (b + 19) l2.toNat (MI 4 9) → Q (some (vI 1)) (m202, n189, (GR d e nw th 1))) :
    wp cs mX2_readGroup KD Q 164 [some (vR 4), some (vR b), some (vI l2), some (vI l3), some (vI l4), none] [] (KD, MI, ML, (GR d e nw th 1)) := by
  refine wp_aload_n dX2_readGroup_164 rfl rfl (by first | exact Or.inl (by decide) | exact Or.inl (by omega) | exact Or.inr (by decide) | exact Or.inr (by omega)) ?_
  refine wp_getR dX2_readGroup_165 fX2_111 (show KD[b]? = some (7, 19) from kdb_0 hbd) (by omega) ?_
  refine wp_topR (x' := (b + 9)) (grb_0_1 hbd) ?_
  refine wp_getR dX2_readGroup_168 fX2_182 (kdb_9 hbd) (by omega) ?_
  refine wp_topR (x' := (b + 17)) (grb_9_7 hbd) ?_
  refine wp_iload_n dX2_readGroup_171 rfl rfl ?_
  refine wp_aload_n dX2_readGroup_172 rfl rfl (by first | exact Or.inl (by decide) | exact Or.inl (by omega) | exact Or.inr (by decide) | exact Or.inr (by omega)) ?_
  refine wp_getL dX2_readGroup_173 fX2_33 rfl (by decide) ?_
  have c0 := h.1
  replace h := h.2
  refine wp_last dX2_readGroup_176 (kdb_17 hbd) (by omega) c0 ?_
  refine wp_gL (fun n176 e176 => ?_)
  replace h := h n176 e176
  refine wp_pc (pc' := 177) rfl ?_
  refine wp_aload_n dX2_readGroup_177 rfl rfl (by first | exact Or.inl (by decide) | exact Or.inl (by omega) | exact Or.inr (by decide) | exact Or.inr (by omega)) ?_
  refine wp_getR dX2_readGroup_178 fX2_111 (show KD[b]? = some (7, 19) from kdb_0 hbd) (by omega) ?_
  refine wp_topR (x' := (b + 9)) (grb_0_1 hbd) ?_
  refine wp_getR dX2_readGroup_181 fX2_183 (kdb_9 hbd) (by omega) ?_
  refine wp_topR (x' := (b + 18)) (grb_9_8 hbd) ?_
  refine wp_iload_n dX2_readGroup_184 rfl rfl ?_
  refine wp_aload_n dX2_readGroup_185 rfl rfl (by first | exact Or.inl (by decide) | exact Or.inl (by omega) | exact Or.inr (by decide) | exact Or.inr (by omega)) ?_
  refine wp_getL dX2_readGroup_186 fX2_37 rfl (by decide) ?_
  refine wp_last dX2_readGroup_189 (kdb_18 hbd) (by omega) c0 ?_
  refine wp_gL (fun n189 e189 => ?_)
  replace h := h n189 e189
  refine wp_aload_n dX2_readGroup_190 rfl rfl (by first | exact Or.inl (by decide) | exact Or.inl (by omega) | exact Or.inr (by decide) | exact Or.inr (by omega)) ?_
  refine wp_pc (pc' := 191) rfl ?_
  refine wp_getR dX2_readGroup_191 fX2_111 (show KD[b]? = some (7, 19) from kdb_0 hbd) (by omega) ?_
  refine wp_topR (x' := (b + 9)) (grb_0_1 hbd) ?_
  refine wp_getR dX2_readGroup_194 fX2_184 (kdb_9 hbd) (by omega) ?_
  refine wp_topR (x' := (b + 19)) (grb_9_9 hbd) ?_
  refine wp_iload_n dX2_readGroup_197 rfl rfl ?_
  refine wp_aload_n dX2_readGroup_198 rfl rfl (by first | exact Or.inl (by decide) | exact Or.inl (by omega) | exact Or.inr (by decide) | exact Or.inr (by omega)) ?_
  refine wp_getI dX2_readGroup_199 fX2_40 rfl (by decide) ?_
  have c1 := h.1
  replace h := h.2
  refine wp_bast dX2_readGroup_202 (kdb_19 hbd) (by omega) c0 c1 ?_
  refine wp_gI (fun m202 e202 => ?_)
  replace h := h m202 e202
  refine wp_iconst dX2_readGroup_203 (by decide) ?_
  exact wp_zret dX2_readGroup_204 rfl (by decide) (fun _ => h)
theorem dX2_readElement_0 : decode cX2_readElement 0 = .ok (.aload_n 1, 1) := by decide +kernel
theorem dX2_readElement_1 : decode cX2_readElement 1 = .ok (.getfield 111, 3) := by decide +kernel
theorem dX2_readElement_4 : decode cX2_readElement 4 = .ok (.astore_n 3, 1) := by decide +kernel
theorem dX2_readElement_5 : decode cX2_readElement 5 = .ok (.aload_n 3, 1) := by decide +kernel
theorem dX2_readElement_6 : decode cX2_readElement 6 = .ok (.getfield 115, 3) := by decide +kernel
theorem dX2_readElement_9 : decode cX2_readElement 9 = .ok (.bipush 30, 2) := by decide +kernel
theorem dX2_readElement_11 : decode cX2_readElement 11 = .ok (.if_icmp .lt 14, 3) := by decide +kernel
theorem dX2_readElement_14 : decode cX2_readElement 14 = .ok (.aload_n 0, 1) := by decide +kernel
theorem dX2_readElement_15 : decode cX2_readElement 15 = .ok (.getfield 44, 3) := by decide +kernel
theorem dX2_readElement_18 : decode cX2_readElement 18 = .ok (.bipush (-3), 2) := by decide +kernel
theorem dX2_readElement_20 : decode cX2_readElement 20 = .ok (.iload_n 2, 1) := by decide +kernel
theorem dX2_readElement_21 : decode cX2_readElement 21 = .ok (.invokevirtual 118, 3) := by decide +kernel
theorem dX2_readElement_24 : decode cX2_readElement 24 = .ok (.ireturn, 1) := by decide +kernel
theorem dX2_readElement_25 : decode cX2_readElement 25 = .ok (.aload_n 0, 1) := by decide +kernel
theorem dX2_readElement_26 : decode cX2_readElement 26 = .ok (.getfield 44, 3) := by decide +kernel
theorem dX2_readElement_29 : decode cX2_readElement 29 = .ok (.invokevirtual 56, 3) := by decide +kernel
theorem dX2_readElement_32 : decode cX2_readElement 32 = .ok (.ifCond .eq 13, 3) := by decide +kernel
theorem dX2_readElement_35 : decode cX2_readElement 35 = .ok (.aload_n 0, 1) := by decide +kernel
theorem dX2_readElement_36 : decode cX2_readElement 36 = .ok (.getfield 44, 3) := by decide +kernel
theorem dX2_readElement_39 : decode cX2_readElement 39 = .ok (.invokevirtual 60, 3) := by decide +kernel
theorem dX2_readElement_42 : decode cX2_readElement 42 = .ok (.ifCond .ne 5, 3) := by decide +kernel
theorem dX2_readElement_45 : decode cX2_readElement 45 = .ok (.iconst 0, 1) := by decide +kernel
theorem dX2_readElement_46 : decode cX2_readElement 46 = .ok (.ireturn, 1) := by decide +kernel
theorem dX2_readElement_47 : decode cX2_readElement 47 = .ok (.aload_n 1, 1) := by decide +kernel
theorem dX2_readElement_48 : decode cX2_readElement 48 = .ok (.getfield 63, 3) := by decide +kernel
theorem dX2_readElement_51 : decode cX2_readElement 51 = .ok (.aload_n 0, 1) := by decide +kernel
theorem dX2_readElement_52 : decode cX2_readElement 52 = .ok (.getfield 44, 3) := by decide +kernel
theorem dX2_readElement_55 : decode cX2_readElement 55 = .ok (.invokevirtual 69, 3) := by decide +kernel
theorem dX2_readElement_58 : decode cX2_readElement 58 = .ok (.istore 4, 2) := by decide +kernel
theorem dX2_readElement_60 : decode cX2_readElement 60 = .ok (.aload_n 3, 1) := by decide +kernel
theorem dX2_readElement_61 : decode cX2_readElement 61 = .ok (.iload 4, 2) := by decide +kernel
theorem dX2_readElement_63 : decode cX2_readElement 63 = .ok (.aload_n 1, 1) := by decide +kernel
theorem dX2_readElement_64 : decode cX2_readElement 64 = .ok (.getfield 122, 3) := by decide +kernel
theorem dX2_readElement_67 : decode cX2_readElement 67 = .ok (.getfield 126, 3) := by decide +kernel
theorem dX2_readElement_70 : decode cX2_readElement 70 = .ok (.invokevirtual 129, 3) := by decide +kernel
theorem dX2_readElement_73 : decode cX2_readElement 73 = .ok (.istore 5, 2) := by decide +kernel
theorem dX2_readElement_75 : decode cX2_readElement 75 = .ok (.iload 5, 2) := by decide +kernel
theorem dX2_readElement_77 : decode cX2_readElement 77 = .ok (.iconst (-1), 1) := by decide +kernel
theorem dX2_readElement_78 : decode cX2_readElement 78 = .ok (.if_icmp .eq 13, 3) := by decide +kernel
theorem dX2_readElement_81 : decode cX2_readElement 81 = .ok (.aload_n 0, 1) := by decide +kernel
theorem dX2_readElement_82 : decode cX2_readElement 82 = .ok (.getfield 44, 3) := by decide +kernel
theorem dX2_readElement_85 : decode cX2_readElement 85 = .ok (.invokevirtual 56, 3) := by decide +kernel
theorem dX2_readElement_88 : decode cX2_readElement 88 = .ok (.ifCond .ne 5, 3) := by decide +kernel
theorem dX2_readElement_91 : decode cX2_readElement 91 = .ok (.iconst 0, 1) := by decide +kernel
theorem dX2_readElement_92 : decode cX2_readElement 92 = .ok (.ireturn, 1) := by decide +kernel
theorem dX2_readElement_93 : decode cX2_readElement 93 = .ok (.aload_n 1, 1) := by decide +kernel
theorem dX2_readElement_94 : decode cX2_readElement 94 = .ok (.getfield 63, 3) := by decide +kernel
theorem dX2_readElement_97 : decode cX2_readElement 97 = .ok (.iload 4, 2) := by decide +kernel
theorem dX2_readElement_99 : decode cX2_readElement 99 = .ok (.invokevirtual 133, 3) := by decide +kernel
theorem dX2_readElement_102 : decode cX2_readElement 102 = .ok (.ifCond .eq 29, 3) := by decide +kernel
theorem dX2_readElement_105 : decode cX2_readElement 105 = .ok (.aload_n 1, 1) := by decide +kernel
theorem dX2_readElement_106 : decode cX2_readElement 106 = .ok (.getfield 63, 3) := by decide +kernel
theorem dX2_readElement_109 : decode cX2_readElement 109 = .ok (.getfield 137, 3) := by decide +kernel
theorem dX2_readElement_112 : decode cX2_readElement 112 = .ok (.iload 4, 2) := by decide +kernel
theorem dX2_readElement_114 : decode cX2_readElement 114 = .ok (.iaload, 1) := by decide +kernel
theorem dX2_readElement_115 : decode cX2_readElement 115 = .ok (.iconst (-1), 1) := by decide +kernel
theorem dX2_readElement_116 : decode cX2_readElement 116 = .ok (.if_icmp .ne 15, 3) := by decide +kernel
theorem dX2_readElement_119 : decode cX2_readElement 119 = .ok (.aload_n 1, 1) := by decide +kernel
theorem dX2_readElement_120 : decode cX2_readElement 120 = .ok (.getfield 63, 3) := by decide +kernel
theorem dX2_readElement_123 : decode cX2_readElement 123 = .ok (.getfield 137, 3) := by decide +kernel
theorem dX2_readElement_126 : decode cX2_readElement 126 = .ok (.iload 4, 2) := by decide +kernel
theorem dX2_readElement_128 : decode cX2_readElement 128 = .ok (.iload 5, 2) := by decide +kernel
theorem dX2_readElement_130 : decode cX2_readElement 130 = .ok (.iastore, 1) := by decide +kernel
theorem dX2_readElement_131 : decode cX2_readElement 131 = .ok (.aload_n 0, 1) := by decide +kernel
theorem dX2_readElement_132 : decode cX2_readElement 132 = .ok (.getfield 44, 3) := by decide +kernel
theorem dX2_readElement_135 : decode cX2_readElement 135 = .ok (.ldc 140, 2) := by decide +kernel
theorem dX2_readElement_137 : decode cX2_readElement 137 = .ok (.invokevirtual 50, 3) := by decide +kernel
theorem dX2_readElement_140 : decode cX2_readElement 140 = .ok (.ifCond .eq 14, 3) := by decide +kernel
theorem dX2_readElement_143 : decode cX2_readElement 143 = .ok (.aload_n 3, 1) := by decide +kernel
theorem dX2_readElement_144 : decode cX2_readElement 144 = .ok (.getfield 142, 3) := by decide +kernel
theorem dX2_readElement_147 : decode cX2_readElement 147 = .ok (.iload 5, 2) := by decide +kernel
theorem dX2_readElement_149 : decode cX2_readElement 149 = .ok (.iconst 0, 1) := by decide +kernel
theorem dX2_readElement_150 : decode cX2_readElement 150 = .ok (.iastore, 1) := by decide +kernel
theorem dX2_readElement_151 : decode cX2_readElement 151 = .ok (.goto 105, 3) := by decide +kernel
theorem dX2_readElement_154 : decode cX2_readElement 154 = .ok (.aload_n 0, 1) := by decide +kernel
theorem dX2_readElement_155 : decode cX2_readElement 155 = .ok (.getfield 44, 3) := by decide +kernel
theorem dX2_readElement_158 : decode cX2_readElement 158 = .ok (.ldc 145, 2) := by decide +kernel
theorem dX2_readElement_160 : decode cX2_readElement 160 = .ok (.invokevirtual 50, 3) := by decide +kernel
theorem dX2_readElement_163 : decode cX2_readElement 163 = .ok (.ifCond .eq 14, 3) := by decide +kernel
theorem dX2_readElement_166 : decode cX2_readElement 166 = .ok (.aload_n 3, 1) := by decide +kernel
theorem dX2_readElement_167 : decode cX2_readElement 167 = .ok (.getfield 142, 3) := by decide +kernel
theorem dX2_readElement_170 : decode cX2_readElement 170 = .ok (.iload 5, 2) := by decide +kernel
theorem dX2_readElement_172 : decode cX2_readElement 172 = .ok (.iconst 1, 1) := by decide +kernel
theorem dX2_readElement_173 : decode cX2_readElement 173 = .ok (.iastore, 1) := by decide +kernel
theorem dX2_readElement_174 : decode cX2_readElement 174 = .ok (.goto 82, 3) := by decide +kernel
theorem dX2_readElement_177 : decode cX2_readElement 177 = .ok (.aload_n 0, 1) := by decide +kernel
theorem dX2_readElement_178 : decode cX2_readElement 178 = .ok (.getfield 44, 3) := by decide +kernel
theorem dX2_readElement_181 : decode cX2_readElement 181 = .ok (.ldc 147, 2) := by decide +kernel
theorem dX2_readElement_183 : decode cX2_readElement 183 = .ok (.invokevirtual 83, 3) := by decide +kernel
theorem dX2_readElement_186 : decode cX2_readElement 186 = .ok (.ifCond .ne 5, 3) := by decide +kernel
theorem dX2_readElement_189 : decode cX2_readElement 189 = .ok (.iconst 0, 1) := by decide +kernel
theorem dX2_readElement_190 : decode cX2_readElement 190 = .ok (.ireturn, 1) := by decide +kernel
theorem dX2_readElement_191 : decode cX2_readElement 191 = .ok (.aload_n 0, 1) := by decide +kernel
theorem dX2_readElement_192 : decode cX2_readElement 192 = .ok (.getfield 44, 3) := by decide +kernel
theorem dX2_readElement_195 : decode cX2_readElement 195 = .ok (.invokevirtual 78, 3) := by decide +kernel
theorem dX2_readElement_198 : decode cX2_readElement 198 = .ok (.aload_n 0, 1) := by decide +kernel
theorem dX2_readElement_199 : decode cX2_readElement 199 = .ok (.getfield 44, 3) := by decide +kernel
theorem dX2_readElement_202 : decode cX2_readElement 202 = .ok (.ldc 149, 2) := by decide +kernel
theorem dX2_readElement_204 : decode cX2_readElement 204 = .ok (.invokevirtual 50, 3) := by decide +kernel
theorem dX2_readElement_207 : decode cX2_readElement 207 = .ok (.istore 6, 2) := by decide +kernel
theorem dX2_readElement_209 : decode cX2_readElement 209 = .ok (.aload_n 3, 1) := by decide +kernel
theorem dX2_readElement_210 : decode cX2_readElement 210 = .ok (.getfield 142, 3) := by decide +kernel
theorem dX2_readElement_213 : decode cX2_readElement 213 = .ok (.iload 5, 2) := by decide +kernel
theorem dX2_readElement_215 : decode cX2_readElement 215 = .ok (.iload 6, 2) := by decide +kernel
theorem dX2_readElement_217 : decode cX2_readElement 217 = .ok (.ifCond .eq 7, 3) := by decide +kernel
theorem dX2_readElement_220 : decode cX2_readElement 220 = .ok (.iconst 2, 1) := by decide +kernel
theorem dX2_readElement_221 : decode cX2_readElement 221 = .ok (.goto 4, 3) := by decide +kernel
theorem dX2_readElement_224 : decode cX2_readElement 224 = .ok (.iconst 3, 1) := by decide +kernel
theorem dX2_readElement_225 : decode cX2_readElement 225 = .ok (.iastore, 1) := by decide +kernel
theorem dX2_readElement_226 : decode cX2_readElement 226 = .ok (.iload 6, 2) := by decide +kernel
theorem dX2_readElement_228 : decode cX2_readElement 228 = .ok (.ifCond .eq 16, 3) := by decide +kernel
theorem dX2_readElement_231 : decode cX2_readElement 231 = .ok (.aload_n 0, 1) := by decide +kernel
theorem dX2_readElement_232 : decode cX2_readElement 232 = .ok (.aload_n 1, 1) := by decide +kernel
theorem dX2_readElement_233 : decode cX2_readElement 233 = .ok (.iload 5, 2) := by decide +kernel
theorem dX2_readElement_235 : decode cX2_readElement 235 = .ok (.invokevirtual 151, 3) := by decide +kernel
theorem dX2_readElement_238 : decode cX2_readElement 238 = .ok (.ifCond .ne 18, 3) := by decide +kernel
theorem dX2_readElement_241 : decode cX2_readElement 241 = .ok (.goto 13, 3) := by decide +kernel
theorem dX2_readElement_244 : decode cX2_readElement 244 = .ok (.aload_n 0, 1) := by decide +kernel
theorem dX2_readElement_245 : decode cX2_readElement 245 = .ok (.aload_n 1, 1) := by decide +kernel
theorem dX2_readElement_246 : decode cX2_readElement 246 = .ok (.iload 5, 2) := by decide +kernel
theorem dX2_readElement_248 : decode cX2_readElement 248 = .ok (.invokevirtual 154, 3) := by decide +kernel
theorem dX2_readElement_251 : decode cX2_readElement 251 = .ok (.ifCond .ne 5, 3) := by decide +kernel
theorem dX2_readElement_254 : decode cX2_readElement 254 = .ok (.iconst 0, 1) := by decide +kernel
theorem dX2_readElement_255 : decode cX2_readElement 255 = .ok (.ireturn, 1) := by decide +kernel
theorem dX2_readElement_256 : decode cX2_readElement 256 = .ok (.aload_n 0, 1) := by decide +kernel
theorem dX2_readElement_257 : decode cX2_readElement 257 = .ok (.getfield 44, 3) := by decide +kernel
theorem dX2_readElement_260 : decode cX2_readElement 260 = .ok (.invokevirtual 78, 3) := by decide +kernel
theorem dX2_readElement_263 : decode cX2_readElement 263 = .ok (.aload_n 0, 1) := by decide +kernel
theorem dX2_readElement_264 : decode cX2_readElement 264 = .ok (.getfield 44, 3) := by decide +kernel
theorem dX2_readElement_267 : decode cX2_readElement 267 = .ok (.ldc 109, 2) := by decide +kernel
theorem dX2_readElement_269 : decode cX2_readElement 269 = .ok (.invokevirtual 83, 3) := by decide +kernel
theorem dX2_readElement_272 : decode cX2_readElement 272 = .ok (.ireturn, 1) := by decide +kernel
theorem v_X2_readElement_0 {cs : Cs} {Q : Option AV → Mm → Prop} {MI ML : Nat → Nat → Int} {b d e nw th : Nat} {l2 : Int} (hbd : b = 38 ∨ b = 81)
    (h : (((MI (b + 9) 10) < 30 → wp cs mX1_needSpace KD (rI (GR d e nw th 1) fun x29 m29 n29 => ((x29 = 0 → Q (some (vI 0)) (m29, n29, (GR d e nw th 1))) ∧ (x29 ≠ 0 → wp cs mX1_needName KD (rI (GR d e nw th 1) fun x39 m39 n39 => ((x39 = 0 → Q (some (vI 0)) (m39, n39, (GR d e nw th 1))) ∧ (x39 ≠ 0 → wp cs mX5_keep KD (rI (GR d e nw th 1) fun x55 m55 n55 => wp cs mX9_add KD (rI (GR d e nw th 1) fun x70 m70 n70 => ((x70 = (-1) → Q (some (vI 0)) (m70, n70, (GR d e nw th 1))) ∧ (x70 ≠ (-1) → wp cs mX1_needSpace KD (rI (GR d e nw th 1) fun x85 m85 n85 => ((x85 = 0 → Q (some (vI 0)) (m85, n85, (GR d e nw th 1))) ∧ (x85 ≠ 0 → wp cs mX5_has KD (rI (GR d e nw th 1) fun x99 m99 n99 => ((x99 = 0 → wp cs mX2_readElement KD Q 131 [some (vR 4), some (vR b), some (vI l2), some (vR (b + 9)), some (vI x55), some (vI x70), none] [] (KD, m99, n99, (GR d e nw th 1))) ∧ (x99 ≠ 0 → (0 ≤ x55 ∧ x55 < 2020) ∧ (((m99 (b + 3) x55.toNat) = (-1) → ∀ m130, m130 = up2 m99 (b + 3) x55.toNat x70 → wp cs mX2_readElement KD Q 131 [some (vR 4), some (vR b), some (vI l2), some (vR (b + 9)), some (vI x55), some (vI x70), none] [] (KD, m130, n99, (GR d e nw th 1))) ∧ ((m99 (b + 3) x55.toNat) ≠ (-1) → wp cs mX2_readElement KD Q 131 [some (vR 4), some (vR b), some (vI l2), some (vR (b + 9)), some (vI x55), some (vI x70), none] [] (KD, m99, n99, (GR d e nw th 1))))))) 0 (padL [vR (b + 1), vI x55] 2) [] (KD, m85, n85, (GR d e nw th 1))))) 0 (padL [vR 2] 1) [] (KD, m70, n70, (GR d e nw th 1))))) 0 (padL [vR (b + 9), vI x55, vI (m55 (b + 20) 11)] 4) [] (KD, m55, n55, (GR d e nw th 1))) 0 (padL [vR (b + 1), vR 2] 5) [] (KD, m39, n39, (GR d e nw th 1))))) 0 (padL [vR 2] 1) [] (KD, m29, n29, (GR d e nw th 1))))) 0 (padL [vR 2] 1) [] (KD, MI, ML, (GR d e nw th 1))) ∧ (30 ≤ (MI (b + 9) 10) → wp cs mX1_refuse KD (rI (GR d e nw th 1) fun x21 m21 n21 => (x21 = 0 ∨ x21 = 1) ∧ Q (some (vI x21)) (m21, n21, (GR d e nw th 1))) 0 (padL [vR 2, vI (-3), vI l2] 3) [] (KD, MI, ML, (GR d e nw th 1))))) :
    wp cs mX2_readElement KD Q 0 (padL [vR 4, vR b, vI l2] 7) [] (KD, MI, ML, (GR d e nw th 1)) := by
  refine wp_L (L' := [some (vR 4), some (vR b), some (vI l2), none, none, none, none]) rfl ?_
  refine wp_aload_n dX2_readElement_0 rfl rfl (by first | exact Or.inl (by decide) | exact Or.inl (by omega) | exact Or.inr (by decide) | exact Or.inr (by omega)) ?_
  refine wp_getR dX2_readElement_1 fX2_111 (show KD[b]? = some (7, 19) from kdb_0 hbd) (by omega) ?_
  refine wp_topR (x' := (b + 9)) (grb_0_1 hbd) ?_
  refine wp_astore_n dX2_readElement_4 rfl (by first | exact Or.inl (by decide) | exact Or.inl (by omega)) (by decide) (wp_L (L' := [some (vR 4), some (vR b), some (vI l2), some (vR (b + 9)), none, none, none]) rfl ?_)
  refine wp_aload_n dX2_readElement_5 rfl rfl (by first | exact Or.inl (by decide) | exact Or.inl (by omega) | exact Or.inr (by decide) | exact Or.inr (by omega)) ?_
  refine wp_getI dX2_readElement_6 fX2_115 (kdb_9 hbd) (by omega) ?_
  refine wp_bipush dX2_readElement_9 (by decide +kernel) (by decide) ?_
  refine wp_icmp_lt (tgt := 25) dX2_readElement_11 (by decide) (fun h11 => ?_) (fun h11 => ?_)
  · replace h := h.1 h11
    refine wp_aload_n dX2_readElement_25 rfl rfl (by first | exact Or.inl (by decide) | exact Or.inl (by omega) | exact Or.inr (by decide) | exact Or.inr (by omega)) ?_
    refine wp_getR dX2_readElement_26 fX2_44 rfl (by decide) ?_
    refine wp_topR (x' := 2) rfl ?_
    refine wp_cVq (n := 0) (mt' := mX1_needSpace) (as := []) (rest := []) _ dX2_readElement_29 lX2_56 kX1_needSpace vX1_needSpace (by decide) (by decide +kernel) rfl (Nat.le_of_ble_eq_true rfl) (by decide) rfl rfl rfl (Nat.le_of_ble_eq_true rfl) (fun hM hS => h) (fun r M' hq hM => ?_)
    obtain ⟨x29, m29, n29, rfl, rfl, h⟩ := rI_out hq
    refine wp_if_eq (tgt := 45) dX2_readElement_32 (by decide) (fun h32 => ?_) (fun h32 => ?_)
    · replace h := h.1 h32
      refine wp_iconst dX2_readElement_45 (by decide) ?_
      exact wp_zret dX2_readElement_46 rfl (by decide) (fun _ => h)
    · replace h := h.2 h32
      refine wp_aload_n dX2_readElement_35 rfl rfl (by first | exact Or.inl (by decide) | exact Or.inl (by omega) | exact Or.inr (by decide) | exact Or.inr (by omega)) ?_
      refine wp_getR dX2_readElement_36 fX2_44 rfl (by decide) ?_
      refine wp_topR (x' := 2) rfl ?_
      refine wp_cVq (n := 0) (mt' := mX1_needName) (as := []) (rest := []) _ dX2_readElement_39 lX2_60 kX1_needName vX1_needName (by decide) (by decide +kernel) rfl (Nat.le_of_ble_eq_true rfl) (by decide) rfl rfl rfl (Nat.le_of_ble_eq_true rfl) (fun hM hS => h) (fun r M' hq hM => ?_)
      obtain ⟨x39, m39, n39, rfl, rfl, h⟩ := rI_out hq
      refine wp_if_ne (tgt := 47) dX2_readElement_42 (by decide) (fun h42 => ?_) (fun h42 => ?_)
      · replace h := h.2 h42
        refine wp_aload_n dX2_readElement_47 rfl rfl (by first | exact Or.inl (by decide) | exact Or.inl (by omega) | exact Or.inr (by decide) | exact Or.inr (by omega)) ?_
        refine wp_getR dX2_readElement_48 fX2_63 (show KD[b]? = some (7, 19) from kdb_0 hbd) (by omega) ?_
        refine wp_topR (x' := (b + 1)) (grb_0_0 hbd) ?_
        refine wp_aload_n dX2_readElement_51 rfl rfl (by first | exact Or.inl (by decide) | exact Or.inl (by omega) | exact Or.inr (by decide) | exact Or.inr (by omega)) ?_
        refine wp_getR dX2_readElement_52 fX2_44 rfl (by decide) ?_
        refine wp_topR (x' := 2) rfl ?_
        refine wp_cVq (n := 1) (mt' := mX5_keep) (as := [vR 2]) (rest := []) _ dX2_readElement_55 lX2_69 kX5_keep vX5_keep (by decide) (by decide +kernel) rfl (Nat.le_of_ble_eq_true rfl) (by omega) (kdb_1 hbd) rfl rfl (Nat.le_of_ble_eq_true rfl) (fun hM hS => h) (fun r M' hq hM => ?_)
        obtain ⟨x55, m55, n55, rfl, rfl, h⟩ := rI_out hq
        refine wp_istore dX2_readElement_58 (by decide) (wp_L (L' := [some (vR 4), some (vR b), some (vI l2), some (vR (b + 9)), some (vI x55), none, none]) rfl ?_)
        refine wp_aload_n dX2_readElement_60 rfl rfl (by first | exact Or.inl (by decide) | exact Or.inl (by omega) | exact Or.inr (by decide) | exact Or.inr (by omega)) ?_
        refine wp_iload dX2_readElement_61 rfl ?_
        refine wp_aload_n dX2_readElement_63 rfl rfl (by first | exact Or.inl (by decide) | exact Or.inl (by omega) | exact Or.inr (by decide) | exact Or.inr (by omega)) ?_
        refine wp_getR dX2_readElement_64 fX2_122 (show KD[b]? = some (7, 19) from kdb_0 hbd) (by omega) ?_
        refine wp_topR (x' := (b + 20)) (grb_0_2 hbd) ?_
        refine wp_getI dX2_readElement_67 fX2_126 (kdb_20 hbd) (by omega) ?_
        refine wp_cVq (n := 2) (mt' := mX9_add) (as := [vI x55, vI (m55 (b + 20) 11)]) (rest := []) _ dX2_readElement_70 lX2_129 kX9_add vX9_add (by decide) (by decide +kernel) rfl (Nat.le_of_ble_eq_true rfl) (by omega) (kdb_9 hbd) rfl rfl (Nat.le_of_ble_eq_true rfl) (fun hM hS => h) (fun r M' hq hM => ?_)
        obtain ⟨x70, m70, n70, rfl, rfl, h⟩ := rI_out hq
        refine wp_istore dX2_readElement_73 (by decide) (wp_L (L' := [some (vR 4), some (vR b), some (vI l2), some (vR (b + 9)), some (vI x55), some (vI x70), none]) rfl ?_)
        refine wp_iload dX2_readElement_75 rfl ?_
        refine wp_iconst dX2_readElement_77 (by decide) ?_
        refine wp_icmp_eq (tgt := 91) dX2_readElement_78 (by decide) (fun h78 => ?_) (fun h78 => ?_)
        · replace h := h.1 h78
          refine wp_iconst dX2_readElement_91 (by decide) ?_
          exact wp_zret dX2_readElement_92 rfl (by decide) (fun _ => h)
        · replace h := h.2 h78
          refine wp_aload_n dX2_readElement_81 rfl rfl (by first | exact Or.inl (by decide) | exact Or.inl (by omega) | exact Or.inr (by decide) | exact Or.inr (by omega)) ?_
          refine wp_getR dX2_readElement_82 fX2_44 rfl (by decide) ?_
          refine wp_topR (x' := 2) rfl ?_
          refine wp_cVq (n := 0) (mt' := mX1_needSpace) (as := []) (rest := []) _ dX2_readElement_85 lX2_56 kX1_needSpace vX1_needSpace (by decide) (by decide +kernel) rfl (Nat.le_of_ble_eq_true rfl) (by decide) rfl rfl rfl (Nat.le_of_ble_eq_true rfl) (fun hM hS => h) (fun r M' hq hM => ?_)
          obtain ⟨x85, m85, n85, rfl, rfl, h⟩ := rI_out hq
          refine wp_if_ne (tgt := 93) dX2_readElement_88 (by decide) (fun h88 => ?_) (fun h88 => ?_)
          · replace h := h.2 h88
            refine wp_aload_n dX2_readElement_93 rfl rfl (by first | exact Or.inl (by decide) | exact Or.inl (by omega) | exact Or.inr (by decide) | exact Or.inr (by omega)) ?_
            refine wp_getR dX2_readElement_94 fX2_63 (show KD[b]? = some (7, 19) from kdb_0 hbd) (by omega) ?_
            refine wp_topR (x' := (b + 1)) (grb_0_0 hbd) ?_
            refine wp_iload dX2_readElement_97 rfl ?_
            refine wp_cVq (n := 1) (mt' := mX5_has) (as := [vI x55]) (rest := []) _ dX2_readElement_99 lX2_133 kX5_has vX5_has (by decide) (by decide +kernel) rfl (Nat.le_of_ble_eq_true rfl) (by omega) (kdb_1 hbd) rfl rfl (Nat.le_of_ble_eq_true rfl) (fun hM hS => h) (fun r M' hq hM => ?_)
            obtain ⟨x99, m99, n99, rfl, rfl, h⟩ := rI_out hq
            refine wp_if_eq (tgt := 131) dX2_readElement_102 (by decide) (fun h102 => ?_) (fun h102 => ?_)
            · replace h := h.1 h102
              exact h
            · replace h := h.2 h102
              refine wp_aload_n dX2_readElement_105 rfl rfl (by first | exact Or.inl (by decide) | exact Or.inl (by omega) | exact Or.inr (by decide) | exact Or.inr (by omega)) ?_
              refine wp_getR dX2_readElement_106 fX2_63 (show KD[b]? = some (7, 19) from kdb_0 hbd) (by omega) ?_
              refine wp_topR (x' := (b + 1)) (grb_0_0 hbd) ?_
              refine wp_getR dX2_readElement_109 fX2_137 (kdb_1 hbd) (by omega) ?_
              refine wp_topR (x' := (b + 3)) (grb_1_1 hbd) ?_
              refine wp_iload dX2_readElement_112 rfl ?_
              have c0 := h.1
              replace h := h.2
              refine wp_iald dX2_readElement_114 (kdb_3 hbd) (by omega) c0 ?_
              refine wp_iconst dX2_readElement_115 (by decide) ?_
              refine wp_icmp_ne (tgt := 131) dX2_readElement_116 (by decide) (fun h116 => ?_) (fun h116 => ?_)
              · replace h := h.2 h116
                exact h
              · replace h := h.1 h116
                refine wp_aload_n dX2_readElement_119 rfl rfl (by first | exact Or.inl (by decide) | exact Or.inl (by omega) | exact Or.inr (by decide) | exact Or.inr (by omega)) ?_
                refine wp_getR dX2_readElement_120 fX2_63 (show KD[b]? = some (7, 19) from kdb_0 hbd) (by omega) ?_
                refine wp_topR (x' := (b + 1)) (grb_0_0 hbd) ?_
                refine wp_getR dX2_readElement_123 fX2_137 (kdb_1 hbd) (by omega) ?_
                refine wp_topR (x' := (b + 3)) (grb_1_1 hbd) ?_
                refine wp_iload dX2_readElement_126 rfl ?_
                refine wp_iload dX2_readElement_128 rfl ?_
                refine wp_iast dX2_readElement_130 (kdb_3 hbd) (by omega) c0 ?_
                refine wp_gI (fun m130 e130 => ?_)
                replace h := h m130 e130
                exact h
          · replace h := h.1 h88
            refine wp_iconst dX2_readElement_91 (by decide) ?_
            exact wp_zret dX2_readElement_92 rfl (by decide) (fun _ => h)
      · replace h := h.1 h42
        refine wp_iconst dX2_readElement_45 (by decide) ?_
        exact wp_zret dX2_readElement_46 rfl (by decide) (fun _ => h)
  · replace h := h.2 h11
    refine wp_aload_n dX2_readElement_14 rfl rfl (by first | exact Or.inl (by decide) | exact Or.inl (by omega) | exact Or.inr (by decide) | exact Or.inr (by omega)) ?_
    refine wp_getR dX2_readElement_15 fX2_44 rfl (by decide) ?_
    refine wp_topR (x' := 2) rfl ?_
    refine wp_bipush dX2_readElement_18 (by decide +kernel) (by decide) ?_
    refine wp_iload_n dX2_readElement_20 rfl rfl ?_
    refine wp_cVq (n := 2) (mt' := mX1_refuse) (as := [vI (-3), vI l2]) (rest := []) _ dX2_readElement_21 lX2_118 kX1_refuse vX1_refuse (by decide) (by decide +kernel) rfl (Nat.le_of_ble_eq_true rfl) (by decide) rfl rfl rfl (Nat.le_of_ble_eq_true rfl) (fun hM hS => h) (fun r M' hq hM => ?_)
    obtain ⟨x21, m21, n21, rfl, rfl, h⟩ := rI_out hq
    exact wp_zret dX2_readElement_24 rfl h.1 (fun _ => h.2)
theorem v_X2_readElement_131 {cs : Cs} {Q : Option AV → Mm → Prop} {MI ML : Nat → Nat → Int} {b d e nw th : Nat} {l2 l4 l5 : Int} (hbd : b = 38 ∨ b = 81)
    (h : wp cs mX1_takeIf KD (rI (GR d e nw th 1) fun x137 m137 n137 => ((x137 = 0 → wp cs mX1_takeIf KD (rI (GR d e nw th 1) fun x160 m160 n160 => ((x160 = 0 → wp cs mX1_take KD (rI (GR d e nw th 1) fun x183 m183 n183 => ((x183 = 0 → Q (some (vI 0)) (m183, n183, (GR d e nw th 1))) ∧ (x183 ≠ 0 → wp cs mX1_skipSpace KD (rV (GR d e nw th 1) fun m195 n195 => wp cs mX1_takeIf KD (rI (GR d e nw th 1) fun x204 m204 n204 => ((x204 = 0 → (0 ≤ l5 ∧ l5 < 30) ∧ ∀ m225, m225 = up2 m204 (b + 10) l5.toNat 3 → ((x204 = 0 → wp cs mX2_readGroup KD (rI (GR d e nw th 1) fun x248 m248 n248 => ((x248 = 0 → Q (some (vI 0)) (m248, n248, (GR d e nw th 1))) ∧ (x248 ≠ 0 → wp cs mX2_readElement KD Q 256 [some (vR 4), some (vR b), some (vI l2), some (vR (b + 9)), some (vI l4), some (vI l5), none] [] (KD, m248, n248, (GR d e nw th 1))))) 0 (padL [vR 4, vR b, vI l5] 6) [] (KD, m225, n204, (GR d e nw th 1))) ∧ (x204 ≠ 0 → wp cs mX2_readMixed KD (rI (GR d e nw th 1) fun x235 m235 n235 => ((x235 = 0 → Q (some (vI 0)) (m235, n235, (GR d e nw th 1))) ∧ (x235 ≠ 0 → wp cs mX2_readElement KD Q 256 [some (vR 4), some (vR b), some (vI l2), some (vR (b + 9)), some (vI l4), some (vI l5), none] [] (KD, m235, n235, (GR d e nw th 1))))) 0 (padL [vR 4, vR b, vI l5] 4) [] (KD, m225, n204, (GR d e nw th 1))))) ∧ (x204 ≠ 0 → (0 ≤ l5 ∧ l5 < 30) ∧ ∀ m225, m225 = up2 m204 (b + 10) l5.toNat 2 → ((x204 = 0 → wp cs mX2_readGroup KD (rI (GR d e nw th 1) fun x248 m248 n248 => ((x248 = 0 → Q (some (vI 0)) (m248, n248, (GR d e nw th 1))) ∧ (x248 ≠ 0 → wp cs mX2_readElement KD Q 256 [some (vR 4), some (vR b), some (vI l2), some (vR (b + 9)), some (vI l4), some (vI l5), none] [] (KD, m248, n248, (GR d e nw th 1))))) 0 (padL [vR 4, vR b, vI l5] 6) [] (KD, m225, n204, (GR d e nw th 1))) ∧ (x204 ≠ 0 → wp cs mX2_readMixed KD (rI (GR d e nw th 1) fun x235 m235 n235 => ((x235 = 0 → Q (some (vI 0)) (m235, n235, (GR d e nw th 1))) ∧ (x235 ≠ 0 → wp cs mX2_readElement KD Q 256 [some (vR 4), some (vR b), some (vI l2), some (vR (b + 9)), some (vI l4), some (vI l5), none] [] (KD, m235, n235, (GR d e nw th 1))))) 0 (padL [vR 4, vR b, vI l5] 4) [] (KD, m225, n204, (GR d e nw th 1))))))) 0 (padL [vR 2, vR 1000013] 4) [] (KD, m195, n195, (GR d e nw th 1))) 0 (padL [vR 2] 1) [] (KD, m183, n183, (GR d e nw th 1))))) 0 (padL [vR 2, vR 1000012] 2) [] (KD, m160, n160, (GR d e nw th 1))) ∧ (x160 ≠ 0 → (0 ≤ l5 ∧ l5 < 30) ∧ ∀ m173, m173 = up2 m160 (b + 10) l5.toNat 1 → wp cs mX2_readElement KD Q 256 [some (vR 4), some (vR b), some (vI l2), some (vR (b + 9)), some (vI l4), some (vI l5), none] [] (KD, m173, n160, (GR d e nw th 1))))) 0 (padL [vR 2, vR 1000011] 4) [] (KD, m137, n137, (GR d e nw th 1))) ∧ (x137 ≠ 0 → (0 ≤ l5 ∧ l5 < 30) ∧ ∀ m150, m150 = up2 m137 (b + 10) l5.toNat 0 → wp cs mX2_readElement KD Q 256 [some (vR 4), some (vR b), some (vI l2), some (vR (b + 9)), some (vI l4), some (vI l5), none] [] (KD, m150, n137, (GR d e nw th 1))))) 0 (padL [vR 2, vR 1000010] 4) [] (KD, MI, ML, (GR d e nw th 1))) :
    wp cs mX2_readElement KD Q 131 [some (vR 4), some (vR b), some (vI l2), some (vR (b + 9)), some (vI l4), some (vI l5), none] [] (KD, MI, ML, (GR d e nw th 1)) := by
  refine wp_aload_n dX2_readElement_131 rfl rfl (by first | exact Or.inl (by decide) | exact Or.inl (by omega) | exact Or.inr (by decide) | exact Or.inr (by omega)) ?_
  refine wp_getR dX2_readElement_132 fX2_44 rfl (by decide) ?_
  refine wp_topR (x' := 2) rfl ?_
  refine wp_ldcS (k := 7) dX2_readElement_135 cX2_140 ?_
  refine wp_cVq (n := 1) (mt' := mX1_takeIf) (as := [vR 1000010]) (rest := []) _ dX2_readElement_137 lX2_50 kX1_takeIf vX1_takeIf (by decide) (by decide +kernel) rfl (Nat.le_of_ble_eq_true rfl) (by decide) rfl rfl rfl (Nat.le_of_ble_eq_true rfl) (fun hM hS => h) (fun r M' hq hM => ?_)
  obtain ⟨x137, m137, n137, rfl, rfl, h⟩ := rI_out hq
  refine wp_if_eq (tgt := 154) dX2_readElement_140 (by decide) (fun h140 => ?_) (fun h140 => ?_)
  · replace h := h.1 h140
    refine wp_aload_n dX2_readElement_154 rfl rfl (by first | exact Or.inl (by decide) | exact Or.inl (by omega) | exact Or.inr (by decide) | exact Or.inr (by omega)) ?_
    refine wp_getR dX2_readElement_155 fX2_44 rfl (by decide) ?_
    refine wp_topR (x' := 2) rfl ?_
    refine wp_ldcS (k := 8) dX2_readElement_158 cX2_145 ?_
    refine wp_cVq (n := 1) (mt' := mX1_takeIf) (as := [vR 1000011]) (rest := []) _ dX2_readElement_160 lX2_50 kX1_takeIf vX1_takeIf (by decide) (by decide +kernel) rfl (Nat.le_of_ble_eq_true rfl) (by decide) rfl rfl rfl (Nat.le_of_ble_eq_true rfl) (fun hM hS => h) (fun r M' hq hM => ?_)
    obtain ⟨x160, m160, n160, rfl, rfl, h⟩ := rI_out hq
    refine wp_if_eq (tgt := 177) dX2_readElement_163 (by decide) (fun h163 => ?_) (fun h163 => ?_)
    · replace h := h.1 h163
      refine wp_aload_n dX2_readElement_177 rfl rfl (by first | exact Or.inl (by decide) | exact Or.inl (by omega) | exact Or.inr (by decide) | exact Or.inr (by omega)) ?_
      refine wp_getR dX2_readElement_178 fX2_44 rfl (by decide) ?_
      refine wp_topR (x' := 2) rfl ?_
      refine wp_ldcS (k := 9) dX2_readElement_181 cX2_147 ?_
      refine wp_cVq (n := 1) (mt' := mX1_take) (as := [vR 1000012]) (rest := []) _ dX2_readElement_183 lX2_83 kX1_take vX1_take (by decide) (by decide +kernel) rfl (Nat.le_of_ble_eq_true rfl) (by decide) rfl rfl rfl (Nat.le_of_ble_eq_true rfl) (fun hM hS => h) (fun r M' hq hM => ?_)
      obtain ⟨x183, m183, n183, rfl, rfl, h⟩ := rI_out hq
      refine wp_if_ne (tgt := 191) dX2_readElement_186 (by decide) (fun h186 => ?_) (fun h186 => ?_)
      · replace h := h.2 h186
        refine wp_aload_n dX2_readElement_191 rfl rfl (by first | exact Or.inl (by decide) | exact Or.inl (by omega) | exact Or.inr (by decide) | exact Or.inr (by omega)) ?_
        refine wp_getR dX2_readElement_192 fX2_44 rfl (by decide) ?_
        refine wp_topR (x' := 2) rfl ?_
        refine wp_cVq (n := 0) (mt' := mX1_skipSpace) (as := []) (rest := []) _ dX2_readElement_195 lX2_78 kX1_skipSpace vX1_skipSpace (by decide) (by decide +kernel) rfl (Nat.le_of_ble_eq_true rfl) (by decide) rfl rfl rfl (Nat.le_of_ble_eq_true rfl) (fun hM hS => h) (fun r M' hq hM => ?_)
        obtain ⟨m195, n195, rfl, rfl, h⟩ := rV_out hq
        refine wp_aload_n dX2_readElement_198 rfl rfl (by first | exact Or.inl (by decide) | exact Or.inl (by omega) | exact Or.inr (by decide) | exact Or.inr (by omega)) ?_
        refine wp_getR dX2_readElement_199 fX2_44 rfl (by decide) ?_
        refine wp_topR (x' := 2) rfl ?_
        refine wp_ldcS (k := 10) dX2_readElement_202 cX2_149 ?_
        refine wp_cVq (n := 1) (mt' := mX1_takeIf) (as := [vR 1000013]) (rest := []) _ dX2_readElement_204 lX2_50 kX1_takeIf vX1_takeIf (by decide) (by decide +kernel) rfl (Nat.le_of_ble_eq_true rfl) (by decide) rfl rfl rfl (Nat.le_of_ble_eq_true rfl) (fun hM hS => h) (fun r M' hq hM => ?_)
        obtain ⟨x204, m204, n204, rfl, rfl, h⟩ := rI_out hq
        refine wp_istore dX2_readElement_207 (by decide) (wp_L (L' := [some (vR 4), some (vR b), some (vI l2), some (vR (b + 9)), some (vI l4), some (vI l5), some (vI x204)]) rfl ?_)
        refine wp_aload_n dX2_readElement_209 rfl rfl (by first | exact Or.inl (by decide) | exact Or.inl (by omega) | exact Or.inr (by decide) | exact Or.inr (by omega)) ?_
        refine wp_getR dX2_readElement_210 fX2_142 (kdb_9 hbd) (by omega) ?_
        refine wp_topR (x' := (b + 10)) (grb_9_0 hbd) ?_
        refine wp_iload dX2_readElement_213 rfl ?_
        refine wp_iload dX2_readElement_215 rfl ?_
        refine wp_if_eq (tgt := 224) dX2_readElement_217 (by decide) (fun h217 => ?_) (fun h217 => ?_)
        · replace h := h.1 h217
          refine wp_iconst dX2_readElement_224 (by decide) ?_
          have c0 := h.1
          replace h := h.2
          refine wp_iast dX2_readElement_225 (kdb_10 hbd) (by omega) c0 ?_
          refine wp_gI (fun m225 e225 => ?_)
          replace h := h m225 e225
          refine wp_iload dX2_readElement_226 rfl ?_
          refine wp_if_eq (tgt := 244) dX2_readElement_228 (by decide) (fun h228 => ?_) (fun h228 => ?_)
          · replace h := h.1 h228
            refine wp_aload_n dX2_readElement_244 rfl rfl (by first | exact Or.inl (by decide) | exact Or.inl (by omega) | exact Or.inr (by decide) | exact Or.inr (by omega)) ?_
            refine wp_aload_n dX2_readElement_245 rfl rfl (by first | exact Or.inl (by decide) | exact Or.inl (by omega) | exact Or.inr (by decide) | exact Or.inr (by omega)) ?_
            refine wp_iload dX2_readElement_246 rfl ?_
            refine wp_cVq (n := 2) (mt' := mX2_readGroup) (as := [vR b, vI l5]) (rest := []) _ dX2_readElement_248 lX2_154 kX2_readGroup vX2_readGroup (by decide) (by decide +kernel) rfl (Nat.le_of_ble_eq_true rfl) (by decide) rfl rfl rfl (Nat.le_of_ble_eq_true rfl) (fun hM hS => h) (fun r M' hq hM => ?_)
            obtain ⟨x248, m248, n248, rfl, rfl, h⟩ := rI_out hq
            refine wp_if_ne (tgt := 256) dX2_readElement_251 (by decide) (fun h251 => ?_) (fun h251 => ?_)
            · replace h := h.2 h251
              refine wp_forget (L' := [some (vR 4), some (vR b), some (vI l2), some (vR (b + 9)), some (vI l4), some (vI l5), none]) (by repeat' (first | exact trivial | refine ⟨rfl, ?_⟩)) ?_
              exact h
            · replace h := h.1 h251
              refine wp_iconst dX2_readElement_254 (by decide) ?_
              exact wp_zret dX2_readElement_255 rfl (by decide) (fun _ => h)
          · replace h := h.2 h228
            refine wp_aload_n dX2_readElement_231 rfl rfl (by first | exact Or.inl (by decide) | exact Or.inl (by omega) | exact Or.inr (by decide) | exact Or.inr (by omega)) ?_
            refine wp_aload_n dX2_readElement_232 rfl rfl (by first | exact Or.inl (by decide) | exact Or.inl (by omega) | exact Or.inr (by decide) | exact Or.inr (by omega)) ?_
            refine wp_iload dX2_readElement_233 rfl ?_
            refine wp_cVq (n := 2) (mt' := mX2_readMixed) (as := [vR b, vI l5]) (rest := []) _ dX2_readElement_235 lX2_151 kX2_readMixed vX2_readMixed (by decide) (by decide +kernel) rfl (Nat.le_of_ble_eq_true rfl) (by decide) rfl rfl rfl (Nat.le_of_ble_eq_true rfl) (fun hM hS => h) (fun r M' hq hM => ?_)
            obtain ⟨x235, m235, n235, rfl, rfl, h⟩ := rI_out hq
            refine wp_if_ne (tgt := 256) dX2_readElement_238 (by decide) (fun h238 => ?_) (fun h238 => ?_)
            · replace h := h.2 h238
              refine wp_forget (L' := [some (vR 4), some (vR b), some (vI l2), some (vR (b + 9)), some (vI l4), some (vI l5), none]) (by repeat' (first | exact trivial | refine ⟨rfl, ?_⟩)) ?_
              exact h
            · replace h := h.1 h238
              refine wp_goto (tgt := 254) dX2_readElement_241 (by decide) ?_
              refine wp_iconst dX2_readElement_254 (by decide) ?_
              exact wp_zret dX2_readElement_255 rfl (by decide) (fun _ => h)
        · replace h := h.2 h217
          refine wp_iconst dX2_readElement_220 (by decide) ?_
          refine wp_goto (tgt := 225) dX2_readElement_221 (by decide) ?_
          have c0 := h.1
          replace h := h.2
          refine wp_iast dX2_readElement_225 (kdb_10 hbd) (by omega) c0 ?_
          refine wp_gI (fun m225 e225 => ?_)
          replace h := h m225 e225
          refine wp_iload dX2_readElement_226 rfl ?_
          refine wp_if_eq (tgt := 244) dX2_readElement_228 (by decide) (fun h228 => ?_) (fun h228 => ?_)
          · replace h := h.1 h228
            refine wp_aload_n dX2_readElement_244 rfl rfl (by first | exact Or.inl (by decide) | exact Or.inl (by omega) | exact Or.inr (by decide) | exact Or.inr (by omega)) ?_
            refine wp_aload_n dX2_readElement_245 rfl rfl (by first | exact Or.inl (by decide) | exact Or.inl (by omega) | exact Or.inr (by decide) | exact Or.inr (by omega)) ?_
            refine wp_iload dX2_readElement_246 rfl ?_
            refine wp_cVq (n := 2) (mt' := mX2_readGroup) (as := [vR b, vI l5]) (rest := []) _ dX2_readElement_248 lX2_154 kX2_readGroup vX2_readGroup (by decide) (by decide +kernel) rfl (Nat.le_of_ble_eq_true rfl) (by decide) rfl rfl rfl (Nat.le_of_ble_eq_true rfl) (fun hM hS => h) (fun r M' hq hM => ?_)
            obtain ⟨x248, m248, n248, rfl, rfl, h⟩ := rI_out hq
            refine wp_if_ne (tgt := 256) dX2_readElement_251 (by decide) (fun h251 => ?_) (fun h251 => ?_)
            · replace h := h.2 h251
              refine wp_forget (L' := [some (vR 4), some (vR b), some (vI l2), some (vR (b + 9)), some (vI l4), some (vI l5), none]) (by repeat' (first | exact trivial | refine ⟨rfl, ?_⟩)) ?_
              exact h
            · replace h := h.1 h251
              refine wp_iconst dX2_readElement_254 (by decide) ?_
              exact wp_zret dX2_readElement_255 rfl (by decide) (fun _ => h)
          · replace h := h.2 h228
            refine wp_aload_n dX2_readElement_231 rfl rfl (by first | exact Or.inl (by decide) | exact Or.inl (by omega) | exact Or.inr (by decide) | exact Or.inr (by omega)) ?_
            refine wp_aload_n dX2_readElement_232 rfl rfl (by first | exact Or.inl (by decide) | exact Or.inl (by omega) | exact Or.inr (by decide) | exact Or.inr (by omega)) ?_
            refine wp_iload dX2_readElement_233 rfl ?_
            refine wp_cVq (n := 2) (mt' := mX2_readMixed) (as := [vR b, vI l5]) (rest := []) _ dX2_readElement_235 lX2_151 kX2_readMixed vX2_readMixed (by decide) (by decide +kernel) rfl (Nat.le_of_ble_eq_true rfl) (by decide) rfl rfl rfl (Nat.le_of_ble_eq_true rfl) (fun hM hS => h) (fun r M' hq hM => ?_)
            obtain ⟨x235, m235, n235, rfl, rfl, h⟩ := rI_out hq
            refine wp_if_ne (tgt := 256) dX2_readElement_238 (by decide) (fun h238 => ?_) (fun h238 => ?_)
            · replace h := h.2 h238
              refine wp_forget (L' := [some (vR 4), some (vR b), some (vI l2), some (vR (b + 9)), some (vI l4), some (vI l5), none]) (by repeat' (first | exact trivial | refine ⟨rfl, ?_⟩)) ?_
              exact h
            · replace h := h.1 h238
              refine wp_goto (tgt := 254) dX2_readElement_241 (by decide) ?_
              refine wp_iconst dX2_readElement_254 (by decide) ?_
              exact wp_zret dX2_readElement_255 rfl (by decide) (fun _ => h)
      · replace h := h.1 h186
        refine wp_iconst dX2_readElement_189 (by decide) ?_
        exact wp_zret dX2_readElement_190 rfl (by decide) (fun _ => h)
    · replace h := h.2 h163
      refine wp_aload_n dX2_readElement_166 rfl rfl (by first | exact Or.inl (by decide) | exact Or.inl (by omega) | exact Or.inr (by decide) | exact Or.inr (by omega)) ?_
      refine wp_getR dX2_readElement_167 fX2_142 (kdb_9 hbd) (by omega) ?_
      refine wp_topR (x' := (b + 10)) (grb_9_0 hbd) ?_
      refine wp_iload dX2_readElement_170 rfl ?_
      refine wp_iconst dX2_readElement_172 (by decide) ?_
      have c0 := h.1
      replace h := h.2
      refine wp_iast dX2_readElement_173 (kdb_10 hbd) (by omega) c0 ?_
      refine wp_gI (fun m173 e173 => ?_)
      replace h := h m173 e173
      refine wp_goto (tgt := 256) dX2_readElement_174 (by decide) ?_
      exact h
  · replace h := h.2 h140
    refine wp_aload_n dX2_readElement_143 rfl rfl (by first | exact Or.inl (by decide) | exact Or.inl (by omega) | exact Or.inr (by decide) | exact Or.inr (by omega)) ?_
    refine wp_getR dX2_readElement_144 fX2_142 (kdb_9 hbd) (by omega) ?_
    refine wp_topR (x' := (b + 10)) (grb_9_0 hbd) ?_
    refine wp_iload dX2_readElement_147 rfl ?_
    refine wp_iconst dX2_readElement_149 (by decide) ?_
    have c0 := h.1
    replace h := h.2
    refine wp_iast dX2_readElement_150 (kdb_10 hbd) (by omega) c0 ?_
    refine wp_gI (fun m150 e150 => ?_)
    replace h := h m150 e150
    refine wp_goto (tgt := 256) dX2_readElement_151 (by decide) ?_
    exact h
theorem v_X2_readElement_256 {cs : Cs} {Q : Option AV → Mm → Prop} {MI ML : Nat → Nat → Int} {b d e nw th : Nat} {l2 l4 l5 : Int} (hbd : b = 38 ∨ b = 81)
    (h : wp cs mX1_skipSpace KD (rV (GR d e nw th 1) fun m260 n260 => wp cs mX1_take KD (rI (GR d e nw th 1) fun x269 m269 n269 => (x269 = 0 ∨ x269 = 1) ∧ Q (some (vI x269)) (m269, n269, (GR d e nw th 1))) 0 (padL [vR 2, vR 1000005] 2) [] (KD, m260, n260, (GR d e nw th 1))) 0 (padL [vR 2] 1) [] (KD, MI, ML, (GR d e nw th 1))) :
    wp cs mX2_readElement KD Q 256 [some (vR 4), some (vR b), some (vI l2), some (vR (b + 9)), some (vI l4), some (vI l5), none] [] (KD, MI, ML, (GR d e nw th 1)) := by
  refine wp_aload_n dX2_readElement_256 rfl rfl (by first | exact Or.inl (by decide) | exact Or.inl (by omega) | exact Or.inr (by decide) | exact Or.inr (by omega)) ?_
  refine wp_getR dX2_readElement_257 fX2_44 rfl (by decide) ?_
  refine wp_topR (x' := 2) rfl ?_
  refine wp_cVq (n := 0) (mt' := mX1_skipSpace) (as := []) (rest := []) _ dX2_readElement_260 lX2_78 kX1_skipSpace vX1_skipSpace (by decide) (by decide +kernel) rfl (Nat.le_of_ble_eq_true rfl) (by decide) rfl rfl rfl (Nat.le_of_ble_eq_true rfl) (fun hM hS => h) (fun r M' hq hM => ?_)
  obtain ⟨m260, n260, rfl, rfl, h⟩ := rV_out hq
  refine wp_aload_n dX2_readElement_263 rfl rfl (by first | exact Or.inl (by decide) | exact Or.inl (by omega) | exact Or.inr (by decide) | exact Or.inr (by omega)) ?_
  refine wp_getR dX2_readElement_264 fX2_44 rfl (by decide) ?_
  refine wp_topR (x' := 2) rfl ?_
  refine wp_ldcS (k := 2) dX2_readElement_267 cX2_109 ?_
  refine wp_cVq (n := 1) (mt' := mX1_take) (as := [vR 1000005]) (rest := []) _ dX2_readElement_269 lX2_83 kX1_take vX1_take (by decide) (by decide +kernel) rfl (Nat.le_of_ble_eq_true rfl) (by decide) rfl rfl rfl (Nat.le_of_ble_eq_true rfl) (fun hM hS => h) (fun r M' hq hM => ?_)
  obtain ⟨x269, m269, n269, rfl, rfl, h⟩ := rI_out hq
  exact wp_zret dX2_readElement_272 rfl h.1 (fun _ => h.2)
theorem dX7_find_0 : decode cX7_find 0 = .ok (.iload_n 1, 1) := by decide +kernel
theorem dX7_find_1 : decode cX7_find 1 = .ok (.istore_n 3, 1) := by decide +kernel
theorem dX7_find_2 : decode cX7_find 2 = .ok (.iconst 0, 1) := by decide +kernel
theorem dX7_find_3 : decode cX7_find 3 = .ok (.istore 4, 2) := by decide +kernel
theorem dX7_find_5 : decode cX7_find 5 = .ok (.iload 4, 2) := by decide +kernel
theorem dX7_find_7 : decode cX7_find 7 = .ok (.aload_n 0, 1) := by decide +kernel
theorem dX7_find_8 : decode cX7_find 8 = .ok (.getfield 45, 3) := by decide +kernel
theorem dX7_find_11 : decode cX7_find 11 = .ok (.if_icmp .ge 33, 3) := by decide +kernel
theorem dX7_find_14 : decode cX7_find 14 = .ok (.iload_n 3, 1) := by decide +kernel
theorem dX7_find_15 : decode cX7_find 15 = .ok (.iconst (-1), 1) := by decide +kernel
theorem dX7_find_16 : decode cX7_find 16 = .ok (.if_icmp .eq 28, 3) := by decide +kernel
theorem dX7_find_19 : decode cX7_find 19 = .ok (.aload_n 0, 1) := by decide +kernel
theorem dX7_find_20 : decode cX7_find 20 = .ok (.getfield 11, 3) := by decide +kernel
theorem dX7_find_23 : decode cX7_find 23 = .ok (.iload_n 3, 1) := by decide +kernel
theorem dX7_find_24 : decode cX7_find 24 = .ok (.iaload, 1) := by decide +kernel
theorem dX7_find_25 : decode cX7_find 25 = .ok (.iload_n 2, 1) := by decide +kernel
theorem dX7_find_26 : decode cX7_find 26 = .ok (.if_icmp .ne 5, 3) := by decide +kernel
theorem dX7_find_29 : decode cX7_find 29 = .ok (.iload_n 3, 1) := by decide +kernel
theorem dX7_find_30 : decode cX7_find 30 = .ok (.ireturn, 1) := by decide +kernel
theorem dX7_find_31 : decode cX7_find 31 = .ok (.aload_n 0, 1) := by decide +kernel
theorem dX7_find_32 : decode cX7_find 32 = .ok (.getfield 36, 3) := by decide +kernel
theorem dX7_find_35 : decode cX7_find 35 = .ok (.iload_n 3, 1) := by decide +kernel
theorem dX7_find_36 : decode cX7_find 36 = .ok (.iaload, 1) := by decide +kernel
theorem dX7_find_37 : decode cX7_find 37 = .ok (.istore_n 3, 1) := by decide +kernel
theorem dX7_find_38 : decode cX7_find 38 = .ok (.iinc 4 1, 3) := by decide +kernel
theorem dX7_find_41 : decode cX7_find 41 = .ok (.goto (-36), 3) := by decide +kernel
theorem dX7_find_44 : decode cX7_find 44 = .ok (.iconst (-1), 1) := by decide +kernel
theorem dX7_find_45 : decode cX7_find 45 = .ok (.ireturn, 1) := by decide +kernel
theorem v_X7_find_0 {cs : Cs} {Q : Option AV → Mm → Prop} {MI ML : Nat → Nat → Int} {b d e nw th x : Nat} {l1 l2 : Int}
    (h : wp cs mX7_find KD Q 5 [some (vR (b + 20)), some (vI l1), some (vI l2), some (vI l1), some (vI 0)] [] (KD, MI, ML, (GR d e nw th x))) :
    wp cs mX7_find KD Q 0 (padL [vR (b + 20), vI l1, vI l2] 5) [] (KD, MI, ML, (GR d e nw th x)) := by
  refine wp_L (L' := [some (vR (b + 20)), some (vI l1), some (vI l2), none, none]) rfl ?_
  refine wp_iload_n dX7_find_0 rfl rfl ?_
  refine wp_istore_n dX7_find_1 rfl (by decide) (wp_L (L' := [some (vR (b + 20)), some (vI l1), some (vI l2), some (vI l1), none]) rfl ?_)
  refine wp_iconst dX7_find_2 (by decide) ?_
  refine wp_istore dX7_find_3 (by decide) (wp_L (L' := [some (vR (b + 20)), some (vI l1), some (vI l2), some (vI l1), some (vI 0)]) rfl ?_)
  exact h
theorem v_X7_find_5 {cs : Cs} {Q : Option AV → Mm → Prop} {MI ML : Nat → Nat → Int} {b d e nw th x : Nat} {l1 l2 l3 l4 : Int} (hbd : b = 38 ∨ b = 81)
    (h : ((l4 < (MI (b + 20) 11) → ((l3 = (-1) → Q (some (vI (-1))) (MI, ML, (GR d e nw th x))) ∧ (l3 ≠ (-1) → (0 ≤ l3 ∧ l3 < 750) ∧ (((MI (b + 21) l3.toNat) = l2 → Q (some (vI l3)) (MI, ML, (GR d e nw th x))) ∧ ((MI (b + 21) l3.toNat) ≠ l2 → (-2147483648 ≤ l4 + 1 ∧ l4 + 1 < 2147483648) ∧ wp cs mX7_find KD Q 5 [some (vR (b + 20)), some (vI l1), some (vI l2), some (vI (MI (b + 29) l3.toNat)), some (vI (l4 + 1))] [] (KD, MI, ML, (GR d e nw th x))))))) ∧ ((MI (b + 20) 11) ≤ l4 → Q (some (vI (-1))) (MI, ML, (GR d e nw th x))))) :
    wp cs mX7_find KD Q 5 [some (vR (b + 20)), some (vI l1), some (vI l2), some (vI l3), some (vI l4)] [] (KD, MI, ML, (GR d e nw th x)) := by
  refine wp_iload dX7_find_5 rfl ?_
  refine wp_aload_n dX7_find_7 rfl rfl (by first | exact Or.inl (by decide) | exact Or.inl (by omega) | exact Or.inr (by decide) | exact Or.inr (by omega)) ?_
  refine wp_getI dX7_find_8 fX7_45 (kdb_20 hbd) (by omega) ?_
  refine wp_icmp_ge (tgt := 44) dX7_find_11 (by decide) (fun h11 => ?_) (fun h11 => ?_)
  · replace h := h.2 h11
    refine wp_iconst dX7_find_44 (by decide) ?_
    exact wp_iret dX7_find_45 rfl (fun _ => h)
  · replace h := h.1 h11
    refine wp_iload_n dX7_find_14 rfl rfl ?_
    refine wp_iconst dX7_find_15 (by decide) ?_
    refine wp_icmp_eq (tgt := 44) dX7_find_16 (by decide) (fun h16 => ?_) (fun h16 => ?_)
    · replace h := h.1 h16
      refine wp_iconst dX7_find_44 (by decide) ?_
      exact wp_iret dX7_find_45 rfl (fun _ => h)
    · replace h := h.2 h16
      refine wp_aload_n dX7_find_19 rfl rfl (by first | exact Or.inl (by decide) | exact Or.inl (by omega) | exact Or.inr (by decide) | exact Or.inr (by omega)) ?_
      refine wp_getR dX7_find_20 fX7_11 (kdb_20 hbd) (by omega) ?_
      refine wp_topR (x' := (b + 21)) (grb_20_0 hbd) ?_
      refine wp_iload_n dX7_find_23 rfl rfl ?_
      have c0 := h.1
      replace h := h.2
      refine wp_iald dX7_find_24 (kdb_21 hbd) (by omega) c0 ?_
      refine wp_iload_n dX7_find_25 rfl rfl ?_
      refine wp_icmp_ne (tgt := 31) dX7_find_26 (by decide) (fun h26 => ?_) (fun h26 => ?_)
      · replace h := h.2 h26
        refine wp_aload_n dX7_find_31 rfl rfl (by first | exact Or.inl (by decide) | exact Or.inl (by omega) | exact Or.inr (by decide) | exact Or.inr (by omega)) ?_
        refine wp_getR dX7_find_32 fX7_36 (kdb_20 hbd) (by omega) ?_
        refine wp_topR (x' := (b + 29)) (grb_20_8 hbd) ?_
        refine wp_iload_n dX7_find_35 rfl rfl ?_
        refine wp_iald dX7_find_36 (kdb_29 hbd) (by omega) c0 ?_
        refine wp_istore_n dX7_find_37 rfl (by decide) (wp_L (L' := [some (vR (b + 20)), some (vI l1), some (vI l2), some (vI (MI (b + 29) l3.toNat)), some (vI l4)]) rfl ?_)
        have c1 := h.1
        replace h := h.2
        refine wp_iincr dX7_find_38 rfl (by decide) c1 (wp_L (L' := [some (vR (b + 20)), some (vI l1), some (vI l2), some (vI (MI (b + 29) l3.toNat)), some (vI (l4 + 1))]) rfl ?_)
        refine wp_goto (tgt := 5) dX7_find_41 (by decide) ?_
        exact h
      · replace h := h.1 h26
        refine wp_iload_n dX7_find_29 rfl rfl ?_
        exact wp_iret dX7_find_30 rfl (fun _ => h)
theorem dX7_chainLength_0 : decode cX7_chainLength 0 = .ok (.iconst 0, 1) := by decide +kernel
theorem dX7_chainLength_1 : decode cX7_chainLength 1 = .ok (.istore_n 2, 1) := by decide +kernel
theorem dX7_chainLength_2 : decode cX7_chainLength 2 = .ok (.iload_n 1, 1) := by decide +kernel
theorem dX7_chainLength_3 : decode cX7_chainLength 3 = .ok (.istore_n 3, 1) := by decide +kernel
theorem dX7_chainLength_4 : decode cX7_chainLength 4 = .ok (.iload_n 2, 1) := by decide +kernel
theorem dX7_chainLength_5 : decode cX7_chainLength 5 = .ok (.aload_n 0, 1) := by decide +kernel
theorem dX7_chainLength_6 : decode cX7_chainLength 6 = .ok (.getfield 45, 3) := by decide +kernel
theorem dX7_chainLength_9 : decode cX7_chainLength 9 = .ok (.if_icmp .ge 21, 3) := by decide +kernel
theorem dX7_chainLength_12 : decode cX7_chainLength 12 = .ok (.iload_n 3, 1) := by decide +kernel
theorem dX7_chainLength_13 : decode cX7_chainLength 13 = .ok (.iconst (-1), 1) := by decide +kernel
theorem dX7_chainLength_14 : decode cX7_chainLength 14 = .ok (.if_icmp .eq 16, 3) := by decide +kernel
theorem dX7_chainLength_17 : decode cX7_chainLength 17 = .ok (.aload_n 0, 1) := by decide +kernel
theorem dX7_chainLength_18 : decode cX7_chainLength 18 = .ok (.getfield 36, 3) := by decide +kernel
theorem dX7_chainLength_21 : decode cX7_chainLength 21 = .ok (.iload_n 3, 1) := by decide +kernel
theorem dX7_chainLength_22 : decode cX7_chainLength 22 = .ok (.iaload, 1) := by decide +kernel
theorem dX7_chainLength_23 : decode cX7_chainLength 23 = .ok (.istore_n 3, 1) := by decide +kernel
theorem dX7_chainLength_24 : decode cX7_chainLength 24 = .ok (.iinc 2 1, 3) := by decide +kernel
theorem dX7_chainLength_27 : decode cX7_chainLength 27 = .ok (.goto (-23), 3) := by decide +kernel
theorem dX7_chainLength_30 : decode cX7_chainLength 30 = .ok (.iload_n 2, 1) := by decide +kernel
theorem dX7_chainLength_31 : decode cX7_chainLength 31 = .ok (.ireturn, 1) := by decide +kernel
theorem v_X7_chainLength_0 {cs : Cs} {Q : Option AV → Mm → Prop} {MI ML : Nat → Nat → Int} {b d e nw th x : Nat} {l1 : Int}
    (h : wp cs mX7_chainLength KD Q 4 [some (vR (b + 20)), some (vI l1), some (vI 0), some (vI l1)] [] (KD, MI, ML, (GR d e nw th x))) :
    wp cs mX7_chainLength KD Q 0 (padL [vR (b + 20), vI l1] 4) [] (KD, MI, ML, (GR d e nw th x)) := by
  refine wp_L (L' := [some (vR (b + 20)), some (vI l1), none, none]) rfl ?_
  refine wp_iconst dX7_chainLength_0 (by decide) ?_
  refine wp_istore_n dX7_chainLength_1 rfl (by decide) (wp_L (L' := [some (vR (b + 20)), some (vI l1), some (vI 0), none]) rfl ?_)
  refine wp_iload_n dX7_chainLength_2 rfl rfl ?_
  refine wp_istore_n dX7_chainLength_3 rfl (by decide) (wp_L (L' := [some (vR (b + 20)), some (vI l1), some (vI 0), some (vI l1)]) rfl ?_)
  exact h
theorem v_X7_chainLength_4 {cs : Cs} {Q : Option AV → Mm → Prop} {MI ML : Nat → Nat → Int} {b d e nw th x : Nat} {l1 l2 l3 : Int} (hbd : b = 38 ∨ b = 81)
    (h : ((l2 < (MI (b + 20) 11) → ((l3 = (-1) → Q (some (vI l2)) (MI, ML, (GR d e nw th x))) ∧ (l3 ≠ (-1) → (0 ≤ l3 ∧ l3 < 750) ∧ (-2147483648 ≤ l2 + 1 ∧ l2 + 1 < 2147483648) ∧ wp cs mX7_chainLength KD Q 4 [some (vR (b + 20)), some (vI l1), some (vI (l2 + 1)), some (vI (MI (b + 29) l3.toNat))] [] (KD, MI, ML, (GR d e nw th x))))) ∧ ((MI (b + 20) 11) ≤ l2 → Q (some (vI l2)) (MI, ML, (GR d e nw th x))))) :
    wp cs mX7_chainLength KD Q 4 [some (vR (b + 20)), some (vI l1), some (vI l2), some (vI l3)] [] (KD, MI, ML, (GR d e nw th x)) := by
  refine wp_iload_n dX7_chainLength_4 rfl rfl ?_
  refine wp_aload_n dX7_chainLength_5 rfl rfl (by first | exact Or.inl (by decide) | exact Or.inl (by omega) | exact Or.inr (by decide) | exact Or.inr (by omega)) ?_
  refine wp_getI dX7_chainLength_6 fX7_45 (kdb_20 hbd) (by omega) ?_
  refine wp_icmp_ge (tgt := 30) dX7_chainLength_9 (by decide) (fun h9 => ?_) (fun h9 => ?_)
  · replace h := h.2 h9
    refine wp_iload_n dX7_chainLength_30 rfl rfl ?_
    exact wp_iret dX7_chainLength_31 rfl (fun _ => h)
  · replace h := h.1 h9
    refine wp_iload_n dX7_chainLength_12 rfl rfl ?_
    refine wp_iconst dX7_chainLength_13 (by decide) ?_
    refine wp_icmp_eq (tgt := 30) dX7_chainLength_14 (by decide) (fun h14 => ?_) (fun h14 => ?_)
    · replace h := h.1 h14
      refine wp_iload_n dX7_chainLength_30 rfl rfl ?_
      exact wp_iret dX7_chainLength_31 rfl (fun _ => h)
    · replace h := h.2 h14
      refine wp_aload_n dX7_chainLength_17 rfl rfl (by first | exact Or.inl (by decide) | exact Or.inl (by omega) | exact Or.inr (by decide) | exact Or.inr (by omega)) ?_
      refine wp_getR dX7_chainLength_18 fX7_36 (kdb_20 hbd) (by omega) ?_
      refine wp_topR (x' := (b + 29)) (grb_20_8 hbd) ?_
      refine wp_iload_n dX7_chainLength_21 rfl rfl ?_
      have c0 := h.1
      replace h := h.2
      refine wp_iald dX7_chainLength_22 (kdb_29 hbd) (by omega) c0 ?_
      refine wp_istore_n dX7_chainLength_23 rfl (by decide) (wp_L (L' := [some (vR (b + 20)), some (vI l1), some (vI l2), some (vI (MI (b + 29) l3.toNat))]) rfl ?_)
      have c1 := h.1
      replace h := h.2
      refine wp_iincr dX7_chainLength_24 rfl (by decide) c1 (wp_L (L' := [some (vR (b + 20)), some (vI l1), some (vI (l2 + 1)), some (vI (MI (b + 29) l3.toNat))]) rfl ?_)
      refine wp_goto (tgt := 4) dX7_chainLength_27 (by decide) ?_
      exact h
theorem dX7_add_0 : decode cX7_add 0 = .ok (.aload_n 0, 1) := by decide +kernel
theorem dX7_add_1 : decode cX7_add 1 = .ok (.getfield 45, 3) := by decide +kernel
theorem dX7_add_4 : decode cX7_add 4 = .ok (.sipush 750, 3) := by decide +kernel
theorem dX7_add_7 : decode cX7_add 7 = .ok (.if_icmp .ge 11, 3) := by decide +kernel
theorem dX7_add_10 : decode cX7_add 10 = .ok (.aload_n 1, 1) := by decide +kernel
theorem dX7_add_11 : decode cX7_add 11 = .ok (.iload_n 2, 1) := by decide +kernel
theorem dX7_add_12 : decode cX7_add 12 = .ok (.invokevirtual 52, 3) := by decide +kernel
theorem dX7_add_15 : decode cX7_add 15 = .ok (.ifCond .ne 5, 3) := by decide +kernel
theorem dX7_add_18 : decode cX7_add 18 = .ok (.iconst (-1), 1) := by decide +kernel
theorem dX7_add_19 : decode cX7_add 19 = .ok (.ireturn, 1) := by decide +kernel
theorem dX7_add_20 : decode cX7_add 20 = .ok (.aload_n 0, 1) := by decide +kernel
theorem dX7_add_21 : decode cX7_add 21 = .ok (.getfield 45, 3) := by decide +kernel
theorem dX7_add_24 : decode cX7_add 24 = .ok (.istore 4, 2) := by decide +kernel
theorem dX7_add_26 : decode cX7_add 26 = .ok (.aload_n 1, 1) := by decide +kernel
theorem dX7_add_27 : decode cX7_add 27 = .ok (.getfield 58, 3) := by decide +kernel
theorem dX7_add_30 : decode cX7_add 30 = .ok (.iload_n 2, 1) := by decide +kernel
theorem dX7_add_31 : decode cX7_add 31 = .ok (.iaload, 1) := by decide +kernel
theorem dX7_add_32 : decode cX7_add 32 = .ok (.istore 5, 2) := by decide +kernel
theorem dX7_add_34 : decode cX7_add 34 = .ok (.iconst 0, 1) := by decide +kernel
theorem dX7_add_35 : decode cX7_add 35 = .ok (.istore 6, 2) := by decide +kernel
theorem dX7_add_37 : decode cX7_add 37 = .ok (.iload 6, 2) := by decide +kernel
theorem dX7_add_39 : decode cX7_add 39 = .ok (.aload_n 0, 1) := by decide +kernel
theorem dX7_add_40 : decode cX7_add 40 = .ok (.getfield 45, 3) := by decide +kernel
theorem dX7_add_43 : decode cX7_add 43 = .ok (.if_icmp .ge 35, 3) := by decide +kernel
theorem dX7_add_46 : decode cX7_add 46 = .ok (.iload 5, 2) := by decide +kernel
theorem dX7_add_48 : decode cX7_add 48 = .ok (.iconst (-1), 1) := by decide +kernel
theorem dX7_add_49 : decode cX7_add 49 = .ok (.if_icmp .eq 29, 3) := by decide +kernel
theorem dX7_add_52 : decode cX7_add 52 = .ok (.aload_n 0, 1) := by decide +kernel
theorem dX7_add_53 : decode cX7_add 53 = .ok (.getfield 36, 3) := by decide +kernel
theorem dX7_add_56 : decode cX7_add 56 = .ok (.iload 5, 2) := by decide +kernel
theorem dX7_add_58 : decode cX7_add 58 = .ok (.iaload, 1) := by decide +kernel
theorem dX7_add_59 : decode cX7_add 59 = .ok (.iconst (-1), 1) := by decide +kernel
theorem dX7_add_60 : decode cX7_add 60 = .ok (.if_icmp .eq 18, 3) := by decide +kernel
theorem dX7_add_63 : decode cX7_add 63 = .ok (.aload_n 0, 1) := by decide +kernel
theorem dX7_add_64 : decode cX7_add 64 = .ok (.getfield 36, 3) := by decide +kernel
theorem dX7_add_67 : decode cX7_add 67 = .ok (.iload 5, 2) := by decide +kernel
theorem dX7_add_69 : decode cX7_add 69 = .ok (.iaload, 1) := by decide +kernel
theorem dX7_add_70 : decode cX7_add 70 = .ok (.istore 5, 2) := by decide +kernel
theorem dX7_add_72 : decode cX7_add 72 = .ok (.iinc 6 1, 3) := by decide +kernel
theorem dX7_add_75 : decode cX7_add 75 = .ok (.goto (-38), 3) := by decide +kernel
theorem dX7_add_78 : decode cX7_add 78 = .ok (.iload 5, 2) := by decide +kernel
theorem dX7_add_80 : decode cX7_add 80 = .ok (.iconst (-1), 1) := by decide +kernel
theorem dX7_add_81 : decode cX7_add 81 = .ok (.if_icmp .ne 14, 3) := by decide +kernel
theorem dX7_add_84 : decode cX7_add 84 = .ok (.aload_n 1, 1) := by decide +kernel
theorem dX7_add_85 : decode cX7_add 85 = .ok (.getfield 58, 3) := by decide +kernel
theorem dX7_add_88 : decode cX7_add 88 = .ok (.iload_n 2, 1) := by decide +kernel
theorem dX7_add_89 : decode cX7_add 89 = .ok (.iload 4, 2) := by decide +kernel
theorem dX7_add_91 : decode cX7_add 91 = .ok (.iastore, 1) := by decide +kernel
theorem dX7_add_92 : decode cX7_add 92 = .ok (.goto 12, 3) := by decide +kernel
theorem dX7_add_95 : decode cX7_add 95 = .ok (.aload_n 0, 1) := by decide +kernel
theorem dX7_add_96 : decode cX7_add 96 = .ok (.getfield 36, 3) := by decide +kernel
theorem dX7_add_99 : decode cX7_add 99 = .ok (.iload 5, 2) := by decide +kernel
theorem dX7_add_101 : decode cX7_add 101 = .ok (.iload 4, 2) := by decide +kernel
theorem dX7_add_103 : decode cX7_add 103 = .ok (.iastore, 1) := by decide +kernel
theorem dX7_add_104 : decode cX7_add 104 = .ok (.aload_n 0, 1) := by decide +kernel
theorem dX7_add_105 : decode cX7_add 105 = .ok (.getfield 15, 3) := by decide +kernel
theorem dX7_add_108 : decode cX7_add 108 = .ok (.iload 4, 2) := by decide +kernel
theorem dX7_add_110 : decode cX7_add 110 = .ok (.iload_n 2, 1) := by decide +kernel
theorem dX7_add_111 : decode cX7_add 111 = .ok (.iastore, 1) := by decide +kernel
theorem dX7_add_112 : decode cX7_add 112 = .ok (.aload_n 0, 1) := by decide +kernel
theorem dX7_add_113 : decode cX7_add 113 = .ok (.getfield 11, 3) := by decide +kernel
theorem dX7_add_116 : decode cX7_add 116 = .ok (.iload 4, 2) := by decide +kernel
theorem dX7_add_118 : decode cX7_add 118 = .ok (.iload_n 3, 1) := by decide +kernel
theorem dX7_add_119 : decode cX7_add 119 = .ok (.iastore, 1) := by decide +kernel
theorem dX7_add_120 : decode cX7_add 120 = .ok (.aload_n 0, 1) := by decide +kernel
theorem dX7_add_121 : decode cX7_add 121 = .ok (.getfield 36, 3) := by decide +kernel
theorem dX7_add_124 : decode cX7_add 124 = .ok (.iload 4, 2) := by decide +kernel
theorem dX7_add_126 : decode cX7_add 126 = .ok (.iconst (-1), 1) := by decide +kernel
theorem dX7_add_127 : decode cX7_add 127 = .ok (.iastore, 1) := by decide +kernel
theorem dX7_add_128 : decode cX7_add 128 = .ok (.aload_n 0, 1) := by decide +kernel
theorem dX7_add_129 : decode cX7_add 129 = .ok (.getfield 18, 3) := by decide +kernel
theorem dX7_add_132 : decode cX7_add 132 = .ok (.iload 4, 2) := by decide +kernel
theorem dX7_add_134 : decode cX7_add 134 = .ok (.iconst 0, 1) := by decide +kernel
theorem dX7_add_135 : decode cX7_add 135 = .ok (.iastore, 1) := by decide +kernel
theorem dX7_add_136 : decode cX7_add 136 = .ok (.aload_n 0, 1) := by decide +kernel
theorem dX7_add_137 : decode cX7_add 137 = .ok (.getfield 21, 3) := by decide +kernel
theorem dX7_add_140 : decode cX7_add 140 = .ok (.iload 4, 2) := by decide +kernel
theorem dX7_add_142 : decode cX7_add 142 = .ok (.aload_n 0, 1) := by decide +kernel
theorem dX7_add_143 : decode cX7_add 143 = .ok (.getfield 49, 3) := by decide +kernel
theorem dX7_add_146 : decode cX7_add 146 = .ok (.iastore, 1) := by decide +kernel
theorem dX7_add_147 : decode cX7_add 147 = .ok (.aload_n 0, 1) := by decide +kernel
theorem dX7_add_148 : decode cX7_add 148 = .ok (.getfield 24, 3) := by decide +kernel
theorem dX7_add_151 : decode cX7_add 151 = .ok (.iload 4, 2) := by decide +kernel
theorem dX7_add_153 : decode cX7_add 153 = .ok (.iconst 0, 1) := by decide +kernel
theorem dX7_add_154 : decode cX7_add 154 = .ok (.iastore, 1) := by decide +kernel
theorem dX7_add_155 : decode cX7_add 155 = .ok (.aload_n 0, 1) := by decide +kernel
theorem dX7_add_156 : decode cX7_add 156 = .ok (.getfield 27, 3) := by decide +kernel
theorem dX7_add_159 : decode cX7_add 159 = .ok (.iload 4, 2) := by decide +kernel
theorem dX7_add_161 : decode cX7_add 161 = .ok (.iconst 0, 1) := by decide +kernel
theorem dX7_add_162 : decode cX7_add 162 = .ok (.iastore, 1) := by decide +kernel
theorem dX7_add_163 : decode cX7_add 163 = .ok (.aload_n 0, 1) := by decide +kernel
theorem dX7_add_164 : decode cX7_add 164 = .ok (.getfield 30, 3) := by decide +kernel
theorem dX7_add_167 : decode cX7_add 167 = .ok (.iload 4, 2) := by decide +kernel
theorem dX7_add_169 : decode cX7_add 169 = .ok (.iconst 0, 1) := by decide +kernel
theorem dX7_add_170 : decode cX7_add 170 = .ok (.iastore, 1) := by decide +kernel
theorem dX7_add_171 : decode cX7_add 171 = .ok (.aload_n 0, 1) := by decide +kernel
theorem dX7_add_172 : decode cX7_add 172 = .ok (.getfield 33, 3) := by decide +kernel
theorem dX7_add_175 : decode cX7_add 175 = .ok (.iload 4, 2) := by decide +kernel
theorem dX7_add_177 : decode cX7_add 177 = .ok (.iconst 0, 1) := by decide +kernel
theorem dX7_add_178 : decode cX7_add 178 = .ok (.iastore, 1) := by decide +kernel
theorem dX7_add_179 : decode cX7_add 179 = .ok (.aload_n 0, 1) := by decide +kernel
theorem dX7_add_180 : decode cX7_add 180 = .ok (.dup, 1) := by decide +kernel
theorem dX7_add_181 : decode cX7_add 181 = .ok (.getfield 45, 3) := by decide +kernel
theorem dX7_add_184 : decode cX7_add 184 = .ok (.iconst 1, 1) := by decide +kernel
theorem dX7_add_185 : decode cX7_add 185 = .ok (.iadd, 1) := by decide +kernel
theorem dX7_add_186 : decode cX7_add 186 = .ok (.putfield 45, 3) := by decide +kernel
theorem dX7_add_189 : decode cX7_add 189 = .ok (.iload 4, 2) := by decide +kernel
theorem dX7_add_191 : decode cX7_add 191 = .ok (.ireturn, 1) := by decide +kernel
theorem v_X7_add_0 {cs : Cs} {Q : Option AV → Mm → Prop} {MI ML : Nat → Nat → Int} {b d e nw th x : Nat} {l2 l3 : Int} (hbd : b = 38 ∨ b = 81)
    (h : (((MI (b + 20) 11) < 750 → wp cs mX5_has KD (rI (GR d e nw th x) fun x12 m12 n12 => ((x12 = 0 → Q (some (vI (-1))) (m12, n12, (GR d e nw th x))) ∧ (x12 ≠ 0 → (0 ≤ l2 ∧ l2 < 2020) ∧ wp cs mX7_add KD Q 37 [some (vR (b + 20)), some (vR (b + 1)), some (vI l2), some (vI l3), some (vI (m12 (b + 20) 11)), some (vI (m12 (b + 4) l2.toNat)), some (vI 0)] [] (KD, m12, n12, (GR d e nw th x))))) 0 (padL [vR (b + 1), vI l2] 2) [] (KD, MI, ML, (GR d e nw th x))) ∧ (750 ≤ (MI (b + 20) 11) → Q (some (vI (-1))) (MI, ML, (GR d e nw th x))))) :
    wp cs mX7_add KD Q 0 (padL [vR (b + 20), vR (b + 1), vI l2, vI l3] 7) [] (KD, MI, ML, (GR d e nw th x)) := by
  refine wp_L (L' := [some (vR (b + 20)), some (vR (b + 1)), some (vI l2), some (vI l3), none, none, none]) rfl ?_
  refine wp_aload_n dX7_add_0 rfl rfl (by first | exact Or.inl (by decide) | exact Or.inl (by omega) | exact Or.inr (by decide) | exact Or.inr (by omega)) ?_
  refine wp_getI dX7_add_1 fX7_45 (kdb_20 hbd) (by omega) ?_
  refine wp_sipush dX7_add_4 (by decide +kernel) (by decide) ?_
  refine wp_icmp_ge (tgt := 18) dX7_add_7 (by decide) (fun h7 => ?_) (fun h7 => ?_)
  · replace h := h.2 h7
    refine wp_iconst dX7_add_18 (by decide) ?_
    exact wp_iret dX7_add_19 rfl (fun _ => h)
  · replace h := h.1 h7
    refine wp_aload_n dX7_add_10 rfl rfl (by first | exact Or.inl (by decide) | exact Or.inl (by omega) | exact Or.inr (by decide) | exact Or.inr (by omega)) ?_
    refine wp_iload_n dX7_add_11 rfl rfl ?_
    refine wp_cVq (n := 1) (mt' := mX5_has) (as := [vI l2]) (rest := []) _ dX7_add_12 lX7_52 kX5_has vX5_has (by decide) (by decide +kernel) rfl (Nat.le_of_ble_eq_true rfl) (by omega) (kdb_1 hbd) rfl rfl (Nat.le_of_ble_eq_true rfl) (fun hM hS => h) (fun r M' hq hM => ?_)
    obtain ⟨x12, m12, n12, rfl, rfl, h⟩ := rI_out hq
    refine wp_if_ne (tgt := 20) dX7_add_15 (by decide) (fun h15 => ?_) (fun h15 => ?_)
    · replace h := h.2 h15
      refine wp_aload_n dX7_add_20 rfl rfl (by first | exact Or.inl (by decide) | exact Or.inl (by omega) | exact Or.inr (by decide) | exact Or.inr (by omega)) ?_
      refine wp_getI dX7_add_21 fX7_45 (kdb_20 hbd) (by omega) ?_
      refine wp_istore dX7_add_24 (by decide) (wp_L (L' := [some (vR (b + 20)), some (vR (b + 1)), some (vI l2), some (vI l3), some (vI (m12 (b + 20) 11)), none, none]) rfl ?_)
      refine wp_aload_n dX7_add_26 rfl rfl (by first | exact Or.inl (by decide) | exact Or.inl (by omega) | exact Or.inr (by decide) | exact Or.inr (by omega)) ?_
      refine wp_getR dX7_add_27 fX7_58 (kdb_1 hbd) (by omega) ?_
      refine wp_topR (x' := (b + 4)) (grb_1_2 hbd) ?_
      refine wp_iload_n dX7_add_30 rfl rfl ?_
      have c0 := h.1
      replace h := h.2
      refine wp_iald dX7_add_31 (kdb_4 hbd) (by omega) c0 ?_
      refine wp_pc (pc' := 32) rfl ?_
      refine wp_istore dX7_add_32 (by decide) (wp_L (L' := [some (vR (b + 20)), some (vR (b + 1)), some (vI l2), some (vI l3), some (vI (m12 (b + 20) 11)), some (vI (m12 (b + 4) l2.toNat)), none]) rfl ?_)
      refine wp_iconst dX7_add_34 (by decide) ?_
      refine wp_istore dX7_add_35 (by decide) (wp_L (L' := [some (vR (b + 20)), some (vR (b + 1)), some (vI l2), some (vI l3), some (vI (m12 (b + 20) 11)), some (vI (m12 (b + 4) l2.toNat)), some (vI 0)]) rfl ?_)
      exact h
    · replace h := h.1 h15
      refine wp_iconst dX7_add_18 (by decide) ?_
      exact wp_iret dX7_add_19 rfl (fun _ => h)
theorem v_X7_add_37 {cs : Cs} {Q : Option AV → Mm → Prop} {MI ML : Nat → Nat → Int} {b d e nw th x : Nat} {l2 l3 l4 l5 l6 : Int} (hbd : b = 38 ∨ b = 81)
    (h : ((l6 < (MI (b + 20) 11) → ((l5 = (-1) → wp cs mX7_add KD Q 78 [some (vR (b + 20)), some (vR (b + 1)), some (vI l2), some (vI l3), some (vI l4), some (vI l5), some (vI l6)] [] (KD, MI, ML, (GR d e nw th x))) ∧ (l5 ≠ (-1) → (0 ≤ l5 ∧ l5 < 750) ∧ (((MI (b + 29) l5.toNat) = (-1) → wp cs mX7_add KD Q 78 [some (vR (b + 20)), some (vR (b + 1)), some (vI l2), some (vI l3), some (vI l4), some (vI l5), some (vI l6)] [] (KD, MI, ML, (GR d e nw th x))) ∧ ((MI (b + 29) l5.toNat) ≠ (-1) → (-2147483648 ≤ l6 + 1 ∧ l6 + 1 < 2147483648) ∧ wp cs mX7_add KD Q 37 [some (vR (b + 20)), some (vR (b + 1)), some (vI l2), some (vI l3), some (vI l4), some (vI (MI (b + 29) l5.toNat)), some (vI (l6 + 1))] [] (KD, MI, ML, (GR d e nw th x))))))) ∧ ((MI (b + 20) 11) ≤ l6 → wp cs mX7_add KD Q 78 [some (vR (b + 20)), some (vR (b + 1)), some (vI l2), some (vI l3), some (vI l4), some (vI l5), some (vI l6)] [] (KD, MI, ML, (GR d e nw th x))))) :
    wp cs mX7_add KD Q 37 [some (vR (b + 20)), some (vR (b + 1)), some (vI l2), some (vI l3), some (vI l4), some (vI l5), some (vI l6)] [] (KD, MI, ML, (GR d e nw th x)) := by
  refine wp_iload dX7_add_37 rfl ?_
  refine wp_aload_n dX7_add_39 rfl rfl (by first | exact Or.inl (by decide) | exact Or.inl (by omega) | exact Or.inr (by decide) | exact Or.inr (by omega)) ?_
  refine wp_getI dX7_add_40 fX7_45 (kdb_20 hbd) (by omega) ?_
  refine wp_icmp_ge (tgt := 78) dX7_add_43 (by decide) (fun h43 => ?_) (fun h43 => ?_)
  · replace h := h.2 h43
    exact h
  · replace h := h.1 h43
    refine wp_iload dX7_add_46 rfl ?_
    refine wp_iconst dX7_add_48 (by decide) ?_
    refine wp_icmp_eq (tgt := 78) dX7_add_49 (by decide) (fun h49 => ?_) (fun h49 => ?_)
    · replace h := h.1 h49
      exact h
    · replace h := h.2 h49
      refine wp_aload_n dX7_add_52 rfl rfl (by first | exact Or.inl (by decide) | exact Or.inl (by omega) | exact Or.inr (by decide) | exact Or.inr (by omega)) ?_
      refine wp_getR dX7_add_53 fX7_36 (kdb_20 hbd) (by omega) ?_
      refine wp_topR (x' := (b + 29)) (grb_20_8 hbd) ?_
      refine wp_iload dX7_add_56 rfl ?_
      have c0 := h.1
      replace h := h.2
      refine wp_iald dX7_add_58 (kdb_29 hbd) (by omega) c0 ?_
      refine wp_iconst dX7_add_59 (by decide) ?_
      refine wp_icmp_eq (tgt := 78) dX7_add_60 (by decide) (fun h60 => ?_) (fun h60 => ?_)
      · replace h := h.1 h60
        exact h
      · replace h := h.2 h60
        refine wp_aload_n dX7_add_63 rfl rfl (by first | exact Or.inl (by decide) | exact Or.inl (by omega) | exact Or.inr (by decide) | exact Or.inr (by omega)) ?_
        refine wp_getR dX7_add_64 fX7_36 (kdb_20 hbd) (by omega) ?_
        refine wp_topR (x' := (b + 29)) (grb_20_8 hbd) ?_
        refine wp_iload dX7_add_67 rfl ?_
        refine wp_iald dX7_add_69 (kdb_29 hbd) (by omega) c0 ?_
        refine wp_istore dX7_add_70 (by decide) (wp_L (L' := [some (vR (b + 20)), some (vR (b + 1)), some (vI l2), some (vI l3), some (vI l4), some (vI (MI (b + 29) l5.toNat)), some (vI l6)]) rfl ?_)
        have c1 := h.1
        replace h := h.2
        refine wp_iincr dX7_add_72 rfl (by decide) c1 (wp_L (L' := [some (vR (b + 20)), some (vR (b + 1)), some (vI l2), some (vI l3), some (vI l4), some (vI (MI (b + 29) l5.toNat)), some (vI (l6 + 1))]) rfl ?_)
        refine wp_goto (tgt := 37) dX7_add_75 (by decide) ?_
        exact h
theorem v_X7_add_78 {cs : Cs} {Q : Option AV → Mm → Prop} {MI ML : Nat → Nat → Int} {b d e nw th x : Nat} {l2 l3 l4 l5 l6 : Int} (hbd : b = 38 ∨ b = 81)
    (h : ((l5 = (-1) → (0 ≤ l2 ∧ l2 < 2020) ∧ ∀ m91, m91 = up2 MI (b + 4) l2.toNat l4 → wp cs mX7_add KD Q 104 [some (vR (b + 20)), some (vR (b + 1)), some (vI l2), some (vI l3), some (vI l4), some (vI l5), some (vI l6)] [] (KD, m91, ML, (GR d e nw th x))) ∧ (l5 ≠ (-1) → (0 ≤ l5 ∧ l5 < 750) ∧ ∀ m103, m103 = up2 MI (b + 29) l5.toNat l4 → wp cs mX7_add KD Q 104 [some (vR (b + 20)), some (vR (b + 1)), some (vI l2), some (vI l3), some (vI l4), some (vI l5), some (vI l6)] [] (KD, m103, ML, (GR d e nw th x))))) :
    wp cs mX7_add KD Q 78 [some (vR (b + 20)), some (vR (b + 1)), some (vI l2), some (vI l3), some (vI l4), some (vI l5), some (vI l6)] [] (KD, MI, ML, (GR d e nw th x)) := by
  refine wp_iload dX7_add_78 rfl ?_
  refine wp_iconst dX7_add_80 (by decide) ?_
  refine wp_icmp_ne (tgt := 95) dX7_add_81 (by decide) (fun h81 => ?_) (fun h81 => ?_)
  · replace h := h.2 h81
    refine wp_aload_n dX7_add_95 rfl rfl (by first | exact Or.inl (by decide) | exact Or.inl (by omega) | exact Or.inr (by decide) | exact Or.inr (by omega)) ?_
    refine wp_getR dX7_add_96 fX7_36 (kdb_20 hbd) (by omega) ?_
    refine wp_topR (x' := (b + 29)) (grb_20_8 hbd) ?_
    refine wp_iload dX7_add_99 rfl ?_
    refine wp_iload dX7_add_101 rfl ?_
    have c0 := h.1
    replace h := h.2
    refine wp_iast dX7_add_103 (kdb_29 hbd) (by omega) c0 ?_
    refine wp_gI (fun m103 e103 => ?_)
    replace h := h m103 e103
    exact h
  · replace h := h.1 h81
    refine wp_aload_n dX7_add_84 rfl rfl (by first | exact Or.inl (by decide) | exact Or.inl (by omega) | exact Or.inr (by decide) | exact Or.inr (by omega)) ?_
    refine wp_getR dX7_add_85 fX7_58 (kdb_1 hbd) (by omega) ?_
    refine wp_topR (x' := (b + 4)) (grb_1_2 hbd) ?_
    refine wp_iload_n dX7_add_88 rfl rfl ?_
    refine wp_iload dX7_add_89 rfl ?_
    have c0 := h.1
    replace h := h.2
    refine wp_iast dX7_add_91 (kdb_4 hbd) (by omega) c0 ?_
    refine wp_gI (fun m91 e91 => ?_)
    replace h := h m91 e91
    refine wp_goto (tgt := 104) dX7_add_92 (by decide) ?_
    exact h
theorem v_X7_add_104 {cs : Cs} {Q : Option AV → Mm → Prop} {MI ML : Nat → Nat → Int} {b d e nw th x : Nat} {l2 l3 l4 l5 l6 : Int} (hbd : b = 38 ∨ b = 81)
    (h : (0 ≤ l4 ∧ l4 < 750) ∧ ∀ m111, m111 = up2 MI (b + 22) l4.toNat l2 → ∀ m119, m119 = up2 m111 (b + 21) l4.toNat l3 → ∀ m127, m127 = up2 m119 (b + 29) l4.toNat (-1) → ∀ m135, m135 = up2 m127 (b + 23) l4.toNat 0 → ∀ m146, m146 = up2 m135 (b + 24) l4.toNat (m135 (b + 20) 12) → ∀ m154, m154 = up2 m146 (b + 25) l4.toNat 0 → ∀ m162, m162 = up2 m154 (b + 26) l4.toNat 0 → ∀ m170, m170 = up2 m162 (b + 27) l4.toNat 0 → ∀ m178, m178 = up2 m170 (b + 28) l4.toNat 0 → (-2147483648 ≤ (m178 (b + 20) 11) + 1 ∧ (m178 (b + 20) 11) + 1 < 2147483648) ∧ ∀ m186, m186 = up2 m178 (b + 20) 11 ((m178 (b + 20) 11) + 1) → Q (some (vI l4)) (m186, ML, (GR d e nw th x))) :
    wp cs mX7_add KD Q 104 [some (vR (b + 20)), some (vR (b + 1)), some (vI l2), some (vI l3), some (vI l4), some (vI l5), some (vI l6)] [] (KD, MI, ML, (GR d e nw th x)) := by
  refine wp_aload_n dX7_add_104 rfl rfl (by first | exact Or.inl (by decide) | exact Or.inl (by omega) | exact Or.inr (by decide) | exact Or.inr (by omega)) ?_
  refine wp_getR dX7_add_105 fX7_15 (kdb_20 hbd) (by omega) ?_
  refine wp_topR (x' := (b + 22)) (grb_20_1 hbd) ?_
  refine wp_iload dX7_add_108 rfl ?_
  refine wp_iload_n dX7_add_110 rfl rfl ?_
  have c0 := h.1
  replace h := h.2
  refine wp_iast dX7_add_111 (kdb_22 hbd) (by omega) c0 ?_
  refine wp_gI (fun m111 e111 => ?_)
  replace h := h m111 e111
  refine wp_aload_n dX7_add_112 rfl rfl (by first | exact Or.inl (by decide) | exact Or.inl (by omega) | exact Or.inr (by decide) | exact Or.inr (by omega)) ?_
  refine wp_getR dX7_add_113 fX7_11 (kdb_20 hbd) (by omega) ?_
  refine wp_topR (x' := (b + 21)) (grb_20_0 hbd) ?_
  refine wp_pc (pc' := 116) rfl ?_
  refine wp_iload dX7_add_116 rfl ?_
  refine wp_iload_n dX7_add_118 rfl rfl ?_
  refine wp_iast dX7_add_119 (kdb_21 hbd) (by omega) c0 ?_
  refine wp_gI (fun m119 e119 => ?_)
  replace h := h m119 e119
  refine wp_aload_n dX7_add_120 rfl rfl (by first | exact Or.inl (by decide) | exact Or.inl (by omega) | exact Or.inr (by decide) | exact Or.inr (by omega)) ?_
  refine wp_getR dX7_add_121 fX7_36 (kdb_20 hbd) (by omega) ?_
  refine wp_topR (x' := (b + 29)) (grb_20_8 hbd) ?_
  refine wp_iload dX7_add_124 rfl ?_
  refine wp_iconst dX7_add_126 (by decide) ?_
  refine wp_iast dX7_add_127 (kdb_29 hbd) (by omega) c0 ?_
  refine wp_gI (fun m127 e127 => ?_)
  replace h := h m127 e127
  refine wp_pc (pc' := 128) rfl ?_
  refine wp_aload_n dX7_add_128 rfl rfl (by first | exact Or.inl (by decide) | exact Or.inl (by omega) | exact Or.inr (by decide) | exact Or.inr (by omega)) ?_
  refine wp_getR dX7_add_129 fX7_18 (kdb_20 hbd) (by omega) ?_
  refine wp_topR (x' := (b + 23)) (grb_20_2 hbd) ?_
  refine wp_iload dX7_add_132 rfl ?_
  refine wp_iconst dX7_add_134 (by decide) ?_
  refine wp_iast dX7_add_135 (kdb_23 hbd) (by omega) c0 ?_
  refine wp_gI (fun m135 e135 => ?_)
  replace h := h m135 e135
  refine wp_aload_n dX7_add_136 rfl rfl (by first | exact Or.inl (by decide) | exact Or.inl (by omega) | exact Or.inr (by decide) | exact Or.inr (by omega)) ?_
  refine wp_getR dX7_add_137 fX7_21 (kdb_20 hbd) (by omega) ?_
  refine wp_topR (x' := (b + 24)) (grb_20_3 hbd) ?_
  refine wp_iload dX7_add_140 rfl ?_
  refine wp_pc (pc' := 142) rfl ?_
  refine wp_aload_n dX7_add_142 rfl rfl (by first | exact Or.inl (by decide) | exact Or.inl (by omega) | exact Or.inr (by decide) | exact Or.inr (by omega)) ?_
  refine wp_getI dX7_add_143 fX7_49 (kdb_20 hbd) (by omega) ?_
  refine wp_iast dX7_add_146 (kdb_24 hbd) (by omega) c0 ?_
  refine wp_gI (fun m146 e146 => ?_)
  replace h := h m146 e146
  refine wp_aload_n dX7_add_147 rfl rfl (by first | exact Or.inl (by decide) | exact Or.inl (by omega) | exact Or.inr (by decide) | exact Or.inr (by omega)) ?_
  refine wp_getR dX7_add_148 fX7_24 (kdb_20 hbd) (by omega) ?_
  refine wp_topR (x' := (b + 25)) (grb_20_4 hbd) ?_
  refine wp_iload dX7_add_151 rfl ?_
  refine wp_iconst dX7_add_153 (by decide) ?_
  refine wp_iast dX7_add_154 (kdb_25 hbd) (by omega) c0 ?_
  refine wp_gI (fun m154 e154 => ?_)
  replace h := h m154 e154
  refine wp_pc (pc' := 155) rfl ?_
  refine wp_aload_n dX7_add_155 rfl rfl (by first | exact Or.inl (by decide) | exact Or.inl (by omega) | exact Or.inr (by decide) | exact Or.inr (by omega)) ?_
  refine wp_getR dX7_add_156 fX7_27 (kdb_20 hbd) (by omega) ?_
  refine wp_topR (x' := (b + 26)) (grb_20_5 hbd) ?_
  refine wp_iload dX7_add_159 rfl ?_
  refine wp_iconst dX7_add_161 (by decide) ?_
  refine wp_iast dX7_add_162 (kdb_26 hbd) (by omega) c0 ?_
  refine wp_gI (fun m162 e162 => ?_)
  replace h := h m162 e162
  refine wp_aload_n dX7_add_163 rfl rfl (by first | exact Or.inl (by decide) | exact Or.inl (by omega) | exact Or.inr (by decide) | exact Or.inr (by omega)) ?_
  refine wp_getR dX7_add_164 fX7_30 (kdb_20 hbd) (by omega) ?_
  refine wp_topR (x' := (b + 27)) (grb_20_6 hbd) ?_
  refine wp_iload dX7_add_167 rfl ?_
  refine wp_pc (pc' := 169) rfl ?_
  refine wp_iconst dX7_add_169 (by decide) ?_
  refine wp_iast dX7_add_170 (kdb_27 hbd) (by omega) c0 ?_
  refine wp_gI (fun m170 e170 => ?_)
  replace h := h m170 e170
  refine wp_aload_n dX7_add_171 rfl rfl (by first | exact Or.inl (by decide) | exact Or.inl (by omega) | exact Or.inr (by decide) | exact Or.inr (by omega)) ?_
  refine wp_getR dX7_add_172 fX7_33 (kdb_20 hbd) (by omega) ?_
  refine wp_topR (x' := (b + 28)) (grb_20_7 hbd) ?_
  refine wp_iload dX7_add_175 rfl ?_
  refine wp_iconst dX7_add_177 (by decide) ?_
  refine wp_iast dX7_add_178 (kdb_28 hbd) (by omega) c0 ?_
  refine wp_gI (fun m178 e178 => ?_)
  replace h := h m178 e178
  refine wp_aload_n dX7_add_179 rfl rfl (by first | exact Or.inl (by decide) | exact Or.inl (by omega) | exact Or.inr (by decide) | exact Or.inr (by omega)) ?_
  refine wp_pc (pc' := 180) rfl ?_
  refine wp_dup dX7_add_180 (fun x e => by cases e) ?_
  refine wp_getI dX7_add_181 fX7_45 (kdb_20 hbd) (by omega) ?_
  refine wp_iconst dX7_add_184 (by decide) ?_
  have c1 := h.1
  replace h := h.2
  refine wp_iaddr dX7_add_185 c1 ?_
  refine wp_putI dX7_add_186 pX7_45 (kdb_20 hbd) (by omega) ?_
  refine wp_gI (fun m186 e186 => ?_)
  replace h := h m186 e186
  refine wp_iload dX7_add_189 rfl ?_
  exact wp_iret dX7_add_191 rfl (fun _ => h)
theorem dX7_addToken_0 : decode cX7_addToken 0 = .ok (.aload_n 0, 1) := by decide +kernel
theorem dX7_addToken_1 : decode cX7_addToken 1 = .ok (.getfield 49, 3) := by decide +kernel
theorem dX7_addToken_4 : decode cX7_addToken 4 = .ok (.sipush 3000, 3) := by decide +kernel
theorem dX7_addToken_7 : decode cX7_addToken 7 = .ok (.if_icmp .ge 43, 3) := by decide +kernel
theorem dX7_addToken_10 : decode cX7_addToken 10 = .ok (.aload_n 0, 1) := by decide +kernel
theorem dX7_addToken_11 : decode cX7_addToken 11 = .ok (.getfield 39, 3) := by decide +kernel
theorem dX7_addToken_14 : decode cX7_addToken 14 = .ok (.aload_n 0, 1) := by decide +kernel
theorem dX7_addToken_15 : decode cX7_addToken 15 = .ok (.getfield 49, 3) := by decide +kernel
theorem dX7_addToken_18 : decode cX7_addToken 18 = .ok (.iload_n 2, 1) := by decide +kernel
theorem dX7_addToken_19 : decode cX7_addToken 19 = .ok (.iastore, 1) := by decide +kernel
theorem dX7_addToken_20 : decode cX7_addToken 20 = .ok (.aload_n 0, 1) := by decide +kernel
theorem dX7_addToken_21 : decode cX7_addToken 21 = .ok (.getfield 42, 3) := by decide +kernel
theorem dX7_addToken_24 : decode cX7_addToken 24 = .ok (.aload_n 0, 1) := by decide +kernel
theorem dX7_addToken_25 : decode cX7_addToken 25 = .ok (.getfield 49, 3) := by decide +kernel
theorem dX7_addToken_28 : decode cX7_addToken 28 = .ok (.iload_n 3, 1) := by decide +kernel
theorem dX7_addToken_29 : decode cX7_addToken 29 = .ok (.iastore, 1) := by decide +kernel
theorem dX7_addToken_30 : decode cX7_addToken 30 = .ok (.aload_n 0, 1) := by decide +kernel
theorem dX7_addToken_31 : decode cX7_addToken 31 = .ok (.dup, 1) := by decide +kernel
theorem dX7_addToken_32 : decode cX7_addToken 32 = .ok (.getfield 49, 3) := by decide +kernel
theorem dX7_addToken_35 : decode cX7_addToken 35 = .ok (.iconst 1, 1) := by decide +kernel
theorem dX7_addToken_36 : decode cX7_addToken 36 = .ok (.iadd, 1) := by decide +kernel
theorem dX7_addToken_37 : decode cX7_addToken 37 = .ok (.putfield 49, 3) := by decide +kernel
theorem dX7_addToken_40 : decode cX7_addToken 40 = .ok (.aload_n 0, 1) := by decide +kernel
theorem dX7_addToken_41 : decode cX7_addToken 41 = .ok (.getfield 24, 3) := by decide +kernel
theorem dX7_addToken_44 : decode cX7_addToken 44 = .ok (.iload_n 1, 1) := by decide +kernel
theorem dX7_addToken_45 : decode cX7_addToken 45 = .ok (.dup2, 1) := by decide +kernel
theorem dX7_addToken_46 : decode cX7_addToken 46 = .ok (.iaload, 1) := by decide +kernel
theorem dX7_addToken_47 : decode cX7_addToken 47 = .ok (.iconst 1, 1) := by decide +kernel
theorem dX7_addToken_48 : decode cX7_addToken 48 = .ok (.iadd, 1) := by decide +kernel
theorem dX7_addToken_49 : decode cX7_addToken 49 = .ok (.iastore, 1) := by decide +kernel
theorem dX7_addToken_50 : decode cX7_addToken 50 = .ok (.return_, 1) := by decide +kernel
theorem v_X7_addToken_0 {cs : Cs} {Q : Option AV → Mm → Prop} {MI ML : Nat → Nat → Int} {b d e nw th x : Nat} {l1 l2 l3 : Int} (hbd : b = 38 ∨ b = 81)
    (h : (((MI (b + 20) 12) < 3000 → (0 ≤ (MI (b + 20) 12) ∧ (MI (b + 20) 12) < 3000) ∧ ∀ m19, m19 = up2 MI (b + 30) (MI (b + 20) 12).toNat l2 → (0 ≤ (m19 (b + 20) 12) ∧ (m19 (b + 20) 12) < 3000) ∧ ∀ m29, m29 = up2 m19 (b + 31) (m19 (b + 20) 12).toNat l3 → (-2147483648 ≤ (m29 (b + 20) 12) + 1 ∧ (m29 (b + 20) 12) + 1 < 2147483648) ∧ ∀ m37, m37 = up2 m29 (b + 20) 12 ((m29 (b + 20) 12) + 1) → (0 ≤ l1 ∧ l1 < 750) ∧ (-2147483648 ≤ (m37 (b + 25) l1.toNat) + 1 ∧ (m37 (b + 25) l1.toNat) + 1 < 2147483648) ∧ ∀ m49, m49 = up2 m37 (b + 25) l1.toNat ((m37 (b + 25) l1.toNat) + 1) → Q none (m49, ML, (GR d e nw th x))) ∧ (3000 ≤ (MI (b + 20) 12) → Q none (MI, ML, (GR d e nw th x))))) :
    wp cs mX7_addToken KD Q 0 (padL [vR (b + 20), vI l1, vI l2, vI l3] 4) [] (KD, MI, ML, (GR d e nw th x)) := by
  refine wp_L (L' := [some (vR (b + 20)), some (vI l1), some (vI l2), some (vI l3)]) rfl ?_
  refine wp_aload_n dX7_addToken_0 rfl rfl (by first | exact Or.inl (by decide) | exact Or.inl (by omega) | exact Or.inr (by decide) | exact Or.inr (by omega)) ?_
  refine wp_getI dX7_addToken_1 fX7_49 (kdb_20 hbd) (by omega) ?_
  refine wp_sipush dX7_addToken_4 (by decide +kernel) (by decide) ?_
  refine wp_icmp_ge (tgt := 50) dX7_addToken_7 (by decide) (fun h7 => ?_) (fun h7 => ?_)
  · replace h := h.2 h7
    exact wp_vret dX7_addToken_50 rfl (fun _ => h)
  · replace h := h.1 h7
    refine wp_aload_n dX7_addToken_10 rfl rfl (by first | exact Or.inl (by decide) | exact Or.inl (by omega) | exact Or.inr (by decide) | exact Or.inr (by omega)) ?_
    refine wp_getR dX7_addToken_11 fX7_39 (kdb_20 hbd) (by omega) ?_
    refine wp_topR (x' := (b + 30)) (grb_20_9 hbd) ?_
    refine wp_aload_n dX7_addToken_14 rfl rfl (by first | exact Or.inl (by decide) | exact Or.inl (by omega) | exact Or.inr (by decide) | exact Or.inr (by omega)) ?_
    refine wp_getI dX7_addToken_15 fX7_49 (kdb_20 hbd) (by omega) ?_
    refine wp_iload_n dX7_addToken_18 rfl rfl ?_
    have c0 := h.1
    replace h := h.2
    refine wp_iast dX7_addToken_19 (kdb_30 hbd) (by omega) c0 ?_
    refine wp_gI (fun m19 e19 => ?_)
    replace h := h m19 e19
    refine wp_aload_n dX7_addToken_20 rfl rfl (by first | exact Or.inl (by decide) | exact Or.inl (by omega) | exact Or.inr (by decide) | exact Or.inr (by omega)) ?_
    refine wp_pc (pc' := 21) rfl ?_
    refine wp_getR dX7_addToken_21 fX7_42 (kdb_20 hbd) (by omega) ?_
    refine wp_topR (x' := (b + 31)) (grb_20_10 hbd) ?_
    refine wp_aload_n dX7_addToken_24 rfl rfl (by first | exact Or.inl (by decide) | exact Or.inl (by omega) | exact Or.inr (by decide) | exact Or.inr (by omega)) ?_
    refine wp_getI dX7_addToken_25 fX7_49 (kdb_20 hbd) (by omega) ?_
    refine wp_iload_n dX7_addToken_28 rfl rfl ?_
    have c1 := h.1
    replace h := h.2
    refine wp_iast dX7_addToken_29 (kdb_31 hbd) (by omega) c1 ?_
    refine wp_gI (fun m29 e29 => ?_)
    replace h := h m29 e29
    refine wp_aload_n dX7_addToken_30 rfl rfl (by first | exact Or.inl (by decide) | exact Or.inl (by omega) | exact Or.inr (by decide) | exact Or.inr (by omega)) ?_
    refine wp_dup dX7_addToken_31 (fun x e => by cases e) ?_
    refine wp_getI dX7_addToken_32 fX7_49 (kdb_20 hbd) (by omega) ?_
    refine wp_pc (pc' := 35) rfl ?_
    refine wp_iconst dX7_addToken_35 (by decide) ?_
    have c2 := h.1
    replace h := h.2
    refine wp_iaddr dX7_addToken_36 c2 ?_
    refine wp_putI dX7_addToken_37 pX7_49 (kdb_20 hbd) (by omega) ?_
    refine wp_gI (fun m37 e37 => ?_)
    replace h := h m37 e37
    refine wp_aload_n dX7_addToken_40 rfl rfl (by first | exact Or.inl (by decide) | exact Or.inl (by omega) | exact Or.inr (by decide) | exact Or.inr (by omega)) ?_
    refine wp_getR dX7_addToken_41 fX7_24 (kdb_20 hbd) (by omega) ?_
    refine wp_topR (x' := (b + 25)) (grb_20_4 hbd) ?_
    refine wp_iload_n dX7_addToken_44 rfl rfl ?_
    refine wp_dup2 dX7_addToken_45 (fun x e => by cases e) (fun x e => by cases e) ?_
    have c3 := h.1
    replace h := h.2
    refine wp_iald dX7_addToken_46 (kdb_25 hbd) (by omega) c3 ?_
    refine wp_pc (pc' := 47) rfl ?_
    refine wp_iconst dX7_addToken_47 (by decide) ?_
    have c4 := h.1
    replace h := h.2
    refine wp_iaddr dX7_addToken_48 c4 ?_
    refine wp_iast dX7_addToken_49 (kdb_25 hbd) (by omega) c3 ?_
    refine wp_gI (fun m49 e49 => ?_)
    replace h := h m49 e49
    exact wp_vret dX7_addToken_50 rfl (fun _ => h)
theorem dX2_readTokens_0 : decode cX2_readTokens 0 = .ok (.iconst 0, 1) := by decide +kernel
theorem dX2_readTokens_1 : decode cX2_readTokens 1 = .ok (.istore_n 3, 1) := by decide +kernel
theorem dX2_readTokens_2 : decode cX2_readTokens 2 = .ok (.iload_n 3, 1) := by decide +kernel
theorem dX2_readTokens_3 : decode cX2_readTokens 3 = .ok (.bipush 8, 2) := by decide +kernel
theorem dX2_readTokens_5 : decode cX2_readTokens 5 = .ok (.if_icmp .gt 104, 3) := by decide +kernel
theorem dX2_readTokens_8 : decode cX2_readTokens 8 = .ok (.aload_n 0, 1) := by decide +kernel
theorem dX2_readTokens_9 : decode cX2_readTokens 9 = .ok (.getfield 44, 3) := by decide +kernel
theorem dX2_readTokens_12 : decode cX2_readTokens 12 = .ok (.invokevirtual 78, 3) := by decide +kernel
theorem dX2_readTokens_15 : decode cX2_readTokens 15 = .ok (.aload_n 0, 1) := by decide +kernel
theorem dX2_readTokens_16 : decode cX2_readTokens 16 = .ok (.getfield 44, 3) := by decide +kernel
theorem dX2_readTokens_19 : decode cX2_readTokens 19 = .ok (.invokevirtual 240, 3) := by decide +kernel
theorem dX2_readTokens_22 : decode cX2_readTokens 22 = .ok (.ifCond .ne 5, 3) := by decide +kernel
theorem dX2_readTokens_25 : decode cX2_readTokens 25 = .ok (.iconst 0, 1) := by decide +kernel
theorem dX2_readTokens_26 : decode cX2_readTokens 26 = .ok (.ireturn, 1) := by decide +kernel
theorem dX2_readTokens_27 : decode cX2_readTokens 27 = .ok (.iload_n 3, 1) := by decide +kernel
theorem dX2_readTokens_28 : decode cX2_readTokens 28 = .ok (.bipush 8, 2) := by decide +kernel
theorem dX2_readTokens_30 : decode cX2_readTokens 30 = .ok (.if_icmp .lt 20, 3) := by decide +kernel
theorem dX2_readTokens_33 : decode cX2_readTokens 33 = .ok (.aload_n 0, 1) := by decide +kernel
theorem dX2_readTokens_34 : decode cX2_readTokens 34 = .ok (.getfield 44, 3) := by decide +kernel
theorem dX2_readTokens_37 : decode cX2_readTokens 37 = .ok (.bipush (-3), 2) := by decide +kernel
theorem dX2_readTokens_39 : decode cX2_readTokens 39 = .ok (.aload_n 0, 1) := by decide +kernel
theorem dX2_readTokens_40 : decode cX2_readTokens 40 = .ok (.getfield 44, 3) := by decide +kernel
theorem dX2_readTokens_43 : decode cX2_readTokens 43 = .ok (.getfield 192, 3) := by decide +kernel
theorem dX2_readTokens_46 : decode cX2_readTokens 46 = .ok (.invokevirtual 118, 3) := by decide +kernel
theorem dX2_readTokens_49 : decode cX2_readTokens 49 = .ok (.ireturn, 1) := by decide +kernel
theorem dX2_readTokens_50 : decode cX2_readTokens 50 = .ok (.iload_n 2, 1) := by decide +kernel
theorem dX2_readTokens_51 : decode cX2_readTokens 51 = .ok (.iconst (-1), 1) := by decide +kernel
theorem dX2_readTokens_52 : decode cX2_readTokens 52 = .ok (.if_icmp .eq 22, 3) := by decide +kernel
theorem dX2_readTokens_55 : decode cX2_readTokens 55 = .ok (.aload_n 1, 1) := by decide +kernel
theorem dX2_readTokens_56 : decode cX2_readTokens 56 = .ok (.iload_n 2, 1) := by decide +kernel
theorem dX2_readTokens_57 : decode cX2_readTokens 57 = .ok (.aload_n 0, 1) := by decide +kernel
theorem dX2_readTokens_58 : decode cX2_readTokens 58 = .ok (.getfield 44, 3) := by decide +kernel
theorem dX2_readTokens_61 : decode cX2_readTokens 61 = .ok (.getfield 192, 3) := by decide +kernel
theorem dX2_readTokens_64 : decode cX2_readTokens 64 = .ok (.aload_n 0, 1) := by decide +kernel
theorem dX2_readTokens_65 : decode cX2_readTokens 65 = .ok (.getfield 44, 3) := by decide +kernel
theorem dX2_readTokens_68 : decode cX2_readTokens 68 = .ok (.getfield 243, 3) := by decide +kernel
theorem dX2_readTokens_71 : decode cX2_readTokens 71 = .ok (.invokevirtual 246, 3) := by decide +kernel
theorem dX2_readTokens_74 : decode cX2_readTokens 74 = .ok (.aload_n 0, 1) := by decide +kernel
theorem dX2_readTokens_75 : decode cX2_readTokens 75 = .ok (.getfield 44, 3) := by decide +kernel
theorem dX2_readTokens_78 : decode cX2_readTokens 78 = .ok (.invokevirtual 78, 3) := by decide +kernel
theorem dX2_readTokens_81 : decode cX2_readTokens 81 = .ok (.aload_n 0, 1) := by decide +kernel
theorem dX2_readTokens_82 : decode cX2_readTokens 82 = .ok (.getfield 44, 3) := by decide +kernel
theorem dX2_readTokens_85 : decode cX2_readTokens 85 = .ok (.ldc 157, 2) := by decide +kernel
theorem dX2_readTokens_87 : decode cX2_readTokens 87 = .ok (.invokevirtual 50, 3) := by decide +kernel
theorem dX2_readTokens_90 : decode cX2_readTokens 90 = .ok (.ifCond .ne 13, 3) := by decide +kernel
theorem dX2_readTokens_93 : decode cX2_readTokens 93 = .ok (.aload_n 0, 1) := by decide +kernel
theorem dX2_readTokens_94 : decode cX2_readTokens 94 = .ok (.getfield 44, 3) := by decide +kernel
theorem dX2_readTokens_97 : decode cX2_readTokens 97 = .ok (.ldc 162, 2) := by decide +kernel
theorem dX2_readTokens_99 : decode cX2_readTokens 99 = .ok (.invokevirtual 83, 3) := by decide +kernel
theorem dX2_readTokens_102 : decode cX2_readTokens 102 = .ok (.ireturn, 1) := by decide +kernel
theorem dX2_readTokens_103 : decode cX2_readTokens 103 = .ok (.iinc 3 1, 3) := by decide +kernel
theorem dX2_readTokens_106 : decode cX2_readTokens 106 = .ok (.goto (-104), 3) := by decide +kernel
theorem dX2_readTokens_109 : decode cX2_readTokens 109 = .ok (.iconst 0, 1) := by decide +kernel
theorem dX2_readTokens_110 : decode cX2_readTokens 110 = .ok (.ireturn, 1) := by decide +kernel
theorem v_X2_readTokens_0 {cs : Cs} {Q : Option AV → Mm → Prop} {MI ML : Nat → Nat → Int} {b d e nw th : Nat} {l2 : Int}
    (h : wp cs mX2_readTokens KD Q 2 [some (vR 4), some (vR (b + 20)), some (vI l2), some (vI 0)] [] (KD, MI, ML, (GR d e nw th 1))) :
    wp cs mX2_readTokens KD Q 0 (padL [vR 4, vR (b + 20), vI l2] 4) [] (KD, MI, ML, (GR d e nw th 1)) := by
  refine wp_L (L' := [some (vR 4), some (vR (b + 20)), some (vI l2), none]) rfl ?_
  refine wp_iconst dX2_readTokens_0 (by decide) ?_
  refine wp_istore_n dX2_readTokens_1 rfl (by decide) (wp_L (L' := [some (vR 4), some (vR (b + 20)), some (vI l2), some (vI 0)]) rfl ?_)
  exact h
theorem v_X2_readTokens_2 {cs : Cs} {Q : Option AV → Mm → Prop} {MI ML : Nat → Nat → Int} {b d e nw th : Nat} {l2 l3 : Int} (hbd : b = 38 ∨ b = 81)
    (h : ((8 < l3 → Q (some (vI 0)) (MI, ML, (GR d e nw th 1))) ∧ (l3 ≤ 8 → wp cs mX1_skipSpace KD (rV (GR d e nw th 1) fun m12 n12 => wp cs mX1_needToken KD (rI (GR d e nw th 1) fun x19 m19 n19 => ((x19 = 0 → Q (some (vI 0)) (m19, n19, (GR d e nw th 1))) ∧ (x19 ≠ 0 → ((l3 < 8 → ((l2 = (-1) → wp cs mX1_skipSpace KD (rV (GR d e nw th 1) fun m78 n78 => wp cs mX1_takeIf KD (rI (GR d e nw th 1) fun x87 m87 n87 => ((x87 = 0 → wp cs mX1_take KD (rI (GR d e nw th 1) fun x99 m99 n99 => (x99 = 0 ∨ x99 = 1) ∧ Q (some (vI x99)) (m99, n99, (GR d e nw th 1))) 0 (padL [vR 2, vR 1000015] 2) [] (KD, m87, n87, (GR d e nw th 1))) ∧ (x87 ≠ 0 → (-2147483648 ≤ l3 + 1 ∧ l3 + 1 < 2147483648) ∧ wp cs mX2_readTokens KD Q 2 [some (vR 4), some (vR (b + 20)), some (vI l2), some (vI (l3 + 1))] [] (KD, m87, n87, (GR d e nw th 1))))) 0 (padL [vR 2, vR 1000014] 4) [] (KD, m78, n78, (GR d e nw th 1))) 0 (padL [vR 2] 1) [] (KD, m19, n19, (GR d e nw th 1))) ∧ (l2 ≠ (-1) → wp cs mX7_addToken KD (rV (GR d e nw th 1) fun m71 n71 => wp cs mX1_skipSpace KD (rV (GR d e nw th 1) fun m78 n78 => wp cs mX1_takeIf KD (rI (GR d e nw th 1) fun x87 m87 n87 => ((x87 = 0 → wp cs mX1_take KD (rI (GR d e nw th 1) fun x99 m99 n99 => (x99 = 0 ∨ x99 = 1) ∧ Q (some (vI x99)) (m99, n99, (GR d e nw th 1))) 0 (padL [vR 2, vR 1000015] 2) [] (KD, m87, n87, (GR d e nw th 1))) ∧ (x87 ≠ 0 → (-2147483648 ≤ l3 + 1 ∧ l3 + 1 < 2147483648) ∧ wp cs mX2_readTokens KD Q 2 [some (vR 4), some (vR (b + 20)), some (vI l2), some (vI (l3 + 1))] [] (KD, m87, n87, (GR d e nw th 1))))) 0 (padL [vR 2, vR 1000014] 4) [] (KD, m78, n78, (GR d e nw th 1))) 0 (padL [vR 2] 1) [] (KD, m71, n71, (GR d e nw th 1))) 0 (padL [vR (b + 20), vI l2, vI (m19 2 3), vI (m19 2 4)] 4) [] (KD, m19, n19, (GR d e nw th 1))))) ∧ (8 ≤ l3 → wp cs mX1_refuse KD (rI (GR d e nw th 1) fun x46 m46 n46 => (x46 = 0 ∨ x46 = 1) ∧ Q (some (vI x46)) (m46, n46, (GR d e nw th 1))) 0 (padL [vR 2, vI (-3), vI (m19 2 3)] 3) [] (KD, m19, n19, (GR d e nw th 1))))))) 0 (padL [vR 2] 1) [] (KD, m12, n12, (GR d e nw th 1))) 0 (padL [vR 2] 1) [] (KD, MI, ML, (GR d e nw th 1))))) :
    wp cs mX2_readTokens KD Q 2 [some (vR 4), some (vR (b + 20)), some (vI l2), some (vI l3)] [] (KD, MI, ML, (GR d e nw th 1)) := by
  refine wp_iload_n dX2_readTokens_2 rfl rfl ?_
  refine wp_bipush dX2_readTokens_3 (by decide +kernel) (by decide) ?_
  refine wp_icmp_gt (tgt := 109) dX2_readTokens_5 (by decide) (fun h5 => ?_) (fun h5 => ?_)
  · replace h := h.1 h5
    refine wp_iconst dX2_readTokens_109 (by decide) ?_
    exact wp_zret dX2_readTokens_110 rfl (by decide) (fun _ => h)
  · replace h := h.2 h5
    refine wp_aload_n dX2_readTokens_8 rfl rfl (by first | exact Or.inl (by decide) | exact Or.inl (by omega) | exact Or.inr (by decide) | exact Or.inr (by omega)) ?_
    refine wp_getR dX2_readTokens_9 fX2_44 rfl (by decide) ?_
    refine wp_topR (x' := 2) rfl ?_
    refine wp_cVq (n := 0) (mt' := mX1_skipSpace) (as := []) (rest := []) _ dX2_readTokens_12 lX2_78 kX1_skipSpace vX1_skipSpace (by decide) (by decide +kernel) rfl (Nat.le_of_ble_eq_true rfl) (by decide) rfl rfl rfl (Nat.le_of_ble_eq_true rfl) (fun hM hS => h) (fun r M' hq hM => ?_)
    obtain ⟨m12, n12, rfl, rfl, h⟩ := rV_out hq
    refine wp_aload_n dX2_readTokens_15 rfl rfl (by first | exact Or.inl (by decide) | exact Or.inl (by omega) | exact Or.inr (by decide) | exact Or.inr (by omega)) ?_
    refine wp_getR dX2_readTokens_16 fX2_44 rfl (by decide) ?_
    refine wp_topR (x' := 2) rfl ?_
    refine wp_cVq (n := 0) (mt' := mX1_needToken) (as := []) (rest := []) _ dX2_readTokens_19 lX2_240 kX1_needToken vX1_needToken (by decide) (by decide +kernel) rfl (Nat.le_of_ble_eq_true rfl) (by decide) rfl rfl rfl (Nat.le_of_ble_eq_true rfl) (fun hM hS => h) (fun r M' hq hM => ?_)
    obtain ⟨x19, m19, n19, rfl, rfl, h⟩ := rI_out hq
    refine wp_if_ne (tgt := 27) dX2_readTokens_22 (by decide) (fun h22 => ?_) (fun h22 => ?_)
    · replace h := h.2 h22
      refine wp_iload_n dX2_readTokens_27 rfl rfl ?_
      refine wp_bipush dX2_readTokens_28 (by decide +kernel) (by decide) ?_
      refine wp_icmp_lt (tgt := 50) dX2_readTokens_30 (by decide) (fun h30 => ?_) (fun h30 => ?_)
      · replace h := h.1 h30
        refine wp_iload_n dX2_readTokens_50 rfl rfl ?_
        refine wp_iconst dX2_readTokens_51 (by decide) ?_
        refine wp_icmp_eq (tgt := 74) dX2_readTokens_52 (by decide) (fun h52 => ?_) (fun h52 => ?_)
        · replace h := h.1 h52
          refine wp_aload_n dX2_readTokens_74 rfl rfl (by first | exact Or.inl (by decide) | exact Or.inl (by omega) | exact Or.inr (by decide) | exact Or.inr (by omega)) ?_
          refine wp_getR dX2_readTokens_75 fX2_44 rfl (by decide) ?_
          refine wp_topR (x' := 2) rfl ?_
          refine wp_cVq (n := 0) (mt' := mX1_skipSpace) (as := []) (rest := []) _ dX2_readTokens_78 lX2_78 kX1_skipSpace vX1_skipSpace (by decide) (by decide +kernel) rfl (Nat.le_of_ble_eq_true rfl) (by decide) rfl rfl rfl (Nat.le_of_ble_eq_true rfl) (fun hM hS => h) (fun r M' hq hM => ?_)
          obtain ⟨m78, n78, rfl, rfl, h⟩ := rV_out hq
          refine wp_aload_n dX2_readTokens_81 rfl rfl (by first | exact Or.inl (by decide) | exact Or.inl (by omega) | exact Or.inr (by decide) | exact Or.inr (by omega)) ?_
          refine wp_getR dX2_readTokens_82 fX2_44 rfl (by decide) ?_
          refine wp_topR (x' := 2) rfl ?_
          refine wp_ldcS (k := 11) dX2_readTokens_85 cX2_157 ?_
          refine wp_cVq (n := 1) (mt' := mX1_takeIf) (as := [vR 1000014]) (rest := []) _ dX2_readTokens_87 lX2_50 kX1_takeIf vX1_takeIf (by decide) (by decide +kernel) rfl (Nat.le_of_ble_eq_true rfl) (by decide) rfl rfl rfl (Nat.le_of_ble_eq_true rfl) (fun hM hS => h) (fun r M' hq hM => ?_)
          obtain ⟨x87, m87, n87, rfl, rfl, h⟩ := rI_out hq
          refine wp_if_ne (tgt := 103) dX2_readTokens_90 (by decide) (fun h90 => ?_) (fun h90 => ?_)
          · replace h := h.2 h90
            have c0 := h.1
            replace h := h.2
            refine wp_iincr dX2_readTokens_103 rfl (by decide) c0 (wp_L (L' := [some (vR 4), some (vR (b + 20)), some (vI l2), some (vI (l3 + 1))]) rfl ?_)
            refine wp_goto (tgt := 2) dX2_readTokens_106 (by decide) ?_
            exact h
          · replace h := h.1 h90
            refine wp_aload_n dX2_readTokens_93 rfl rfl (by first | exact Or.inl (by decide) | exact Or.inl (by omega) | exact Or.inr (by decide) | exact Or.inr (by omega)) ?_
            refine wp_getR dX2_readTokens_94 fX2_44 rfl (by decide) ?_
            refine wp_topR (x' := 2) rfl ?_
            refine wp_ldcS (k := 12) dX2_readTokens_97 cX2_162 ?_
            refine wp_cVq (n := 1) (mt' := mX1_take) (as := [vR 1000015]) (rest := []) _ dX2_readTokens_99 lX2_83 kX1_take vX1_take (by decide) (by decide +kernel) rfl (Nat.le_of_ble_eq_true rfl) (by decide) rfl rfl rfl (Nat.le_of_ble_eq_true rfl) (fun hM hS => h) (fun r M' hq hM => ?_)
            obtain ⟨x99, m99, n99, rfl, rfl, h⟩ := rI_out hq
            exact wp_zret dX2_readTokens_102 rfl h.1 (fun _ => h.2)
        · replace h := h.2 h52
          refine wp_aload_n dX2_readTokens_55 rfl rfl (by first | exact Or.inl (by decide) | exact Or.inl (by omega) | exact Or.inr (by decide) | exact Or.inr (by omega)) ?_
          refine wp_iload_n dX2_readTokens_56 rfl rfl ?_
          refine wp_aload_n dX2_readTokens_57 rfl rfl (by first | exact Or.inl (by decide) | exact Or.inl (by omega) | exact Or.inr (by decide) | exact Or.inr (by omega)) ?_
          refine wp_getR dX2_readTokens_58 fX2_44 rfl (by decide) ?_
          refine wp_topR (x' := 2) rfl ?_
          refine wp_getI dX2_readTokens_61 fX2_192 rfl (by decide) ?_
          refine wp_aload_n dX2_readTokens_64 rfl rfl (by first | exact Or.inl (by decide) | exact Or.inl (by omega) | exact Or.inr (by decide) | exact Or.inr (by omega)) ?_
          refine wp_getR dX2_readTokens_65 fX2_44 rfl (by decide) ?_
          refine wp_topR (x' := 2) rfl ?_
          refine wp_pc (pc' := 68) rfl ?_
          refine wp_getI dX2_readTokens_68 fX2_243 rfl (by decide) ?_
          refine wp_cVq (n := 3) (mt' := mX7_addToken) (as := [vI l2, vI (m19 2 3), vI (m19 2 4)]) (rest := []) _ dX2_readTokens_71 lX2_246 kX7_addToken vX7_addToken (by decide) (by decide +kernel) rfl (Nat.le_of_ble_eq_true rfl) (by omega) (kdb_20 hbd) rfl rfl (Nat.le_of_ble_eq_true rfl) (fun hM hS => h) (fun r M' hq hM => ?_)
          obtain ⟨m71, n71, rfl, rfl, h⟩ := rV_out hq
          refine wp_aload_n dX2_readTokens_74 rfl rfl (by first | exact Or.inl (by decide) | exact Or.inl (by omega) | exact Or.inr (by decide) | exact Or.inr (by omega)) ?_
          refine wp_getR dX2_readTokens_75 fX2_44 rfl (by decide) ?_
          refine wp_topR (x' := 2) rfl ?_
          refine wp_cVq (n := 0) (mt' := mX1_skipSpace) (as := []) (rest := []) _ dX2_readTokens_78 lX2_78 kX1_skipSpace vX1_skipSpace (by decide) (by decide +kernel) rfl (Nat.le_of_ble_eq_true rfl) (by decide) rfl rfl rfl (Nat.le_of_ble_eq_true rfl) (fun hM hS => h) (fun r M' hq hM => ?_)
          obtain ⟨m78, n78, rfl, rfl, h⟩ := rV_out hq
          refine wp_aload_n dX2_readTokens_81 rfl rfl (by first | exact Or.inl (by decide) | exact Or.inl (by omega) | exact Or.inr (by decide) | exact Or.inr (by omega)) ?_
          refine wp_getR dX2_readTokens_82 fX2_44 rfl (by decide) ?_
          refine wp_topR (x' := 2) rfl ?_
          refine wp_ldcS (k := 11) dX2_readTokens_85 cX2_157 ?_
          refine wp_cVq (n := 1) (mt' := mX1_takeIf) (as := [vR 1000014]) (rest := []) _ dX2_readTokens_87 lX2_50 kX1_takeIf vX1_takeIf (by decide) (by decide +kernel) rfl (Nat.le_of_ble_eq_true rfl) (by decide) rfl rfl rfl (Nat.le_of_ble_eq_true rfl) (fun hM hS => h) (fun r M' hq hM => ?_)
          obtain ⟨x87, m87, n87, rfl, rfl, h⟩ := rI_out hq
          refine wp_if_ne (tgt := 103) dX2_readTokens_90 (by decide) (fun h90 => ?_) (fun h90 => ?_)
          · replace h := h.2 h90
            have c0 := h.1
            replace h := h.2
            refine wp_iincr dX2_readTokens_103 rfl (by decide) c0 (wp_L (L' := [some (vR 4), some (vR (b + 20)), some (vI l2), some (vI (l3 + 1))]) rfl ?_)
            refine wp_goto (tgt := 2) dX2_readTokens_106 (by decide) ?_
            exact h
          · replace h := h.1 h90
            refine wp_aload_n dX2_readTokens_93 rfl rfl (by first | exact Or.inl (by decide) | exact Or.inl (by omega) | exact Or.inr (by decide) | exact Or.inr (by omega)) ?_
            refine wp_getR dX2_readTokens_94 fX2_44 rfl (by decide) ?_
            refine wp_topR (x' := 2) rfl ?_
            refine wp_ldcS (k := 12) dX2_readTokens_97 cX2_162 ?_
            refine wp_cVq (n := 1) (mt' := mX1_take) (as := [vR 1000015]) (rest := []) _ dX2_readTokens_99 lX2_83 kX1_take vX1_take (by decide) (by decide +kernel) rfl (Nat.le_of_ble_eq_true rfl) (by decide) rfl rfl rfl (Nat.le_of_ble_eq_true rfl) (fun hM hS => h) (fun r M' hq hM => ?_)
            obtain ⟨x99, m99, n99, rfl, rfl, h⟩ := rI_out hq
            exact wp_zret dX2_readTokens_102 rfl h.1 (fun _ => h.2)
      · replace h := h.2 h30
        refine wp_aload_n dX2_readTokens_33 rfl rfl (by first | exact Or.inl (by decide) | exact Or.inl (by omega) | exact Or.inr (by decide) | exact Or.inr (by omega)) ?_
        refine wp_getR dX2_readTokens_34 fX2_44 rfl (by decide) ?_
        refine wp_topR (x' := 2) rfl ?_
        refine wp_bipush dX2_readTokens_37 (by decide +kernel) (by decide) ?_
        refine wp_aload_n dX2_readTokens_39 rfl rfl (by first | exact Or.inl (by decide) | exact Or.inl (by omega) | exact Or.inr (by decide) | exact Or.inr (by omega)) ?_
        refine wp_getR dX2_readTokens_40 fX2_44 rfl (by decide) ?_
        refine wp_topR (x' := 2) rfl ?_
        refine wp_getI dX2_readTokens_43 fX2_192 rfl (by decide) ?_
        refine wp_cVq (n := 2) (mt' := mX1_refuse) (as := [vI (-3), vI (m19 2 3)]) (rest := []) _ dX2_readTokens_46 lX2_118 kX1_refuse vX1_refuse (by decide) (by decide +kernel) rfl (Nat.le_of_ble_eq_true rfl) (by decide) rfl rfl rfl (Nat.le_of_ble_eq_true rfl) (fun hM hS => h) (fun r M' hq hM => ?_)
        obtain ⟨x46, m46, n46, rfl, rfl, h⟩ := rI_out hq
        exact wp_zret dX2_readTokens_49 rfl h.1 (fun _ => h.2)
    · replace h := h.1 h22
      refine wp_iconst dX2_readTokens_25 (by decide) ?_
      exact wp_zret dX2_readTokens_26 rfl (by decide) (fun _ => h)
theorem dX2_readType_0 : decode cX2_readType 0 = .ok (.aload_n 0, 1) := by decide +kernel
theorem dX2_readType_1 : decode cX2_readType 1 = .ok (.getfield 44, 3) := by decide +kernel
theorem dX2_readType_4 : decode cX2_readType 4 = .ok (.invokevirtual 56, 3) := by decide +kernel
theorem dX2_readType_7 : decode cX2_readType 7 = .ok (.ifCond .ne 5, 3) := by decide +kernel
theorem dX2_readType_10 : decode cX2_readType 10 = .ok (.iconst 0, 1) := by decide +kernel
theorem dX2_readType_11 : decode cX2_readType 11 = .ok (.ireturn, 1) := by decide +kernel
theorem dX2_readType_12 : decode cX2_readType 12 = .ok (.iconst 0, 1) := by decide +kernel
theorem dX2_readType_13 : decode cX2_readType 13 = .ok (.istore_n 3, 1) := by decide +kernel
theorem dX2_readType_14 : decode cX2_readType 14 = .ok (.aload_n 0, 1) := by decide +kernel
theorem dX2_readType_15 : decode cX2_readType 15 = .ok (.getfield 44, 3) := by decide +kernel
theorem dX2_readType_18 : decode cX2_readType 18 = .ok (.ldc 230, 2) := by decide +kernel
theorem dX2_readType_20 : decode cX2_readType 20 = .ok (.invokevirtual 50, 3) := by decide +kernel
theorem dX2_readType_23 : decode cX2_readType 23 = .ok (.ifCond .ne 21, 3) := by decide +kernel
theorem dX2_readType_26 : decode cX2_readType 26 = .ok (.aload_n 0, 1) := by decide +kernel
theorem dX2_readType_27 : decode cX2_readType 27 = .ok (.getfield 44, 3) := by decide +kernel
theorem dX2_readType_30 : decode cX2_readType 30 = .ok (.ldc 232, 2) := by decide +kernel
theorem dX2_readType_32 : decode cX2_readType 32 = .ok (.invokevirtual 50, 3) := by decide +kernel
theorem dX2_readType_35 : decode cX2_readType 35 = .ok (.ifCond .eq 7, 3) := by decide +kernel
theorem dX2_readType_38 : decode cX2_readType 38 = .ok (.iconst 1, 1) := by decide +kernel
theorem dX2_readType_39 : decode cX2_readType 39 = .ok (.goto 4, 3) := by decide +kernel
theorem dX2_readType_42 : decode cX2_readType 42 = .ok (.iconst 2, 1) := by decide +kernel
theorem dX2_readType_43 : decode cX2_readType 43 = .ok (.istore_n 3, 1) := by decide +kernel
theorem dX2_readType_44 : decode cX2_readType 44 = .ok (.iload_n 2, 1) := by decide +kernel
theorem dX2_readType_45 : decode cX2_readType 45 = .ok (.iconst (-1), 1) := by decide +kernel
theorem dX2_readType_46 : decode cX2_readType 46 = .ok (.if_icmp .eq 10, 3) := by decide +kernel
theorem dX2_readType_49 : decode cX2_readType 49 = .ok (.aload_n 1, 1) := by decide +kernel
theorem dX2_readType_50 : decode cX2_readType 50 = .ok (.getfield 234, 3) := by decide +kernel
theorem dX2_readType_53 : decode cX2_readType 53 = .ok (.iload_n 2, 1) := by decide +kernel
theorem dX2_readType_54 : decode cX2_readType 54 = .ok (.iload_n 3, 1) := by decide +kernel
theorem dX2_readType_55 : decode cX2_readType 55 = .ok (.iastore, 1) := by decide +kernel
theorem dX2_readType_56 : decode cX2_readType 56 = .ok (.iload_n 3, 1) := by decide +kernel
theorem dX2_readType_57 : decode cX2_readType 57 = .ok (.iconst 2, 1) := by decide +kernel
theorem dX2_readType_58 : decode cX2_readType 58 = .ok (.if_icmp .ne 24, 3) := by decide +kernel
theorem dX2_readType_61 : decode cX2_readType 61 = .ok (.aload_n 0, 1) := by decide +kernel
theorem dX2_readType_62 : decode cX2_readType 62 = .ok (.getfield 44, 3) := by decide +kernel
theorem dX2_readType_65 : decode cX2_readType 65 = .ok (.ldc 147, 2) := by decide +kernel
theorem dX2_readType_67 : decode cX2_readType 67 = .ok (.invokevirtual 83, 3) := by decide +kernel
theorem dX2_readType_70 : decode cX2_readType 70 = .ok (.ifCond .eq 16, 3) := by decide +kernel
theorem dX2_readType_73 : decode cX2_readType 73 = .ok (.aload_n 0, 1) := by decide +kernel
theorem dX2_readType_74 : decode cX2_readType 74 = .ok (.aload_n 1, 1) := by decide +kernel
theorem dX2_readType_75 : decode cX2_readType 75 = .ok (.iload_n 2, 1) := by decide +kernel
theorem dX2_readType_76 : decode cX2_readType 76 = .ok (.invokevirtual 237, 3) := by decide +kernel
theorem dX2_readType_79 : decode cX2_readType 79 = .ok (.ifCond .eq 7, 3) := by decide +kernel
theorem dX2_readType_82 : decode cX2_readType 82 = .ok (.iconst 1, 1) := by decide +kernel
theorem dX2_readType_83 : decode cX2_readType 83 = .ok (.goto 4, 3) := by decide +kernel
theorem dX2_readType_86 : decode cX2_readType 86 = .ok (.iconst 0, 1) := by decide +kernel
theorem dX2_readType_87 : decode cX2_readType 87 = .ok (.ireturn, 1) := by decide +kernel
theorem v_X2_readType_0 {cs : Cs} {Q : Option AV → Mm → Prop} {MI ML : Nat → Nat → Int} {b d e nw th : Nat} {l2 : Int} (hbd : b = 38 ∨ b = 81)
    (h : wp cs mX1_needSpace KD (rI (GR d e nw th 1) fun x4 m4 n4 => ((x4 = 0 → Q (some (vI 0)) (m4, n4, (GR d e nw th 1))) ∧ (x4 ≠ 0 → wp cs mX1_takeIf KD (rI (GR d e nw th 1) fun x20 m20 n20 => ((x20 = 0 → wp cs mX1_takeIf KD (rI (GR d e nw th 1) fun x32 m32 n32 => ((x32 = 0 → wp cs mX2_readType KD Q 44 [some (vR 4), some (vR (b + 20)), some (vI l2), some (vI 2)] [] (KD, m32, n32, (GR d e nw th 1))) ∧ (x32 ≠ 0 → wp cs mX2_readType KD Q 44 [some (vR 4), some (vR (b + 20)), some (vI l2), some (vI 1)] [] (KD, m32, n32, (GR d e nw th 1))))) 0 (padL [vR 2, vR 1000021] 4) [] (KD, m20, n20, (GR d e nw th 1))) ∧ (x20 ≠ 0 → wp cs mX2_readType KD Q 44 [some (vR 4), some (vR (b + 20)), some (vI l2), some (vI 0)] [] (KD, m20, n20, (GR d e nw th 1))))) 0 (padL [vR 2, vR 1000020] 4) [] (KD, m4, n4, (GR d e nw th 1))))) 0 (padL [vR 2] 1) [] (KD, MI, ML, (GR d e nw th 1))) :
    wp cs mX2_readType KD Q 0 (padL [vR 4, vR (b + 20), vI l2] 4) [] (KD, MI, ML, (GR d e nw th 1)) := by
  refine wp_L (L' := [some (vR 4), some (vR (b + 20)), some (vI l2), none]) rfl ?_
  refine wp_aload_n dX2_readType_0 rfl rfl (by first | exact Or.inl (by decide) | exact Or.inl (by omega) | exact Or.inr (by decide) | exact Or.inr (by omega)) ?_
  refine wp_getR dX2_readType_1 fX2_44 rfl (by decide) ?_
  refine wp_topR (x' := 2) rfl ?_
  refine wp_cVq (n := 0) (mt' := mX1_needSpace) (as := []) (rest := []) _ dX2_readType_4 lX2_56 kX1_needSpace vX1_needSpace (by decide) (by decide +kernel) rfl (Nat.le_of_ble_eq_true rfl) (by decide) rfl rfl rfl (Nat.le_of_ble_eq_true rfl) (fun hM hS => h) (fun r M' hq hM => ?_)
  obtain ⟨x4, m4, n4, rfl, rfl, h⟩ := rI_out hq
  refine wp_if_ne (tgt := 12) dX2_readType_7 (by decide) (fun h7 => ?_) (fun h7 => ?_)
  · replace h := h.2 h7
    refine wp_iconst dX2_readType_12 (by decide) ?_
    refine wp_istore_n dX2_readType_13 rfl (by decide) (wp_L (L' := [some (vR 4), some (vR (b + 20)), some (vI l2), some (vI 0)]) rfl ?_)
    refine wp_aload_n dX2_readType_14 rfl rfl (by first | exact Or.inl (by decide) | exact Or.inl (by omega) | exact Or.inr (by decide) | exact Or.inr (by omega)) ?_
    refine wp_getR dX2_readType_15 fX2_44 rfl (by decide) ?_
    refine wp_topR (x' := 2) rfl ?_
    refine wp_ldcS (k := 17) dX2_readType_18 cX2_230 ?_
    refine wp_cVq (n := 1) (mt' := mX1_takeIf) (as := [vR 1000020]) (rest := []) _ dX2_readType_20 lX2_50 kX1_takeIf vX1_takeIf (by decide) (by decide +kernel) rfl (Nat.le_of_ble_eq_true rfl) (by decide) rfl rfl rfl (Nat.le_of_ble_eq_true rfl) (fun hM hS => h) (fun r M' hq hM => ?_)
    obtain ⟨x20, m20, n20, rfl, rfl, h⟩ := rI_out hq
    refine wp_if_ne (tgt := 44) dX2_readType_23 (by decide) (fun h23 => ?_) (fun h23 => ?_)
    · replace h := h.2 h23
      exact h
    · replace h := h.1 h23
      refine wp_aload_n dX2_readType_26 rfl rfl (by first | exact Or.inl (by decide) | exact Or.inl (by omega) | exact Or.inr (by decide) | exact Or.inr (by omega)) ?_
      refine wp_getR dX2_readType_27 fX2_44 rfl (by decide) ?_
      refine wp_topR (x' := 2) rfl ?_
      refine wp_ldcS (k := 18) dX2_readType_30 cX2_232 ?_
      refine wp_cVq (n := 1) (mt' := mX1_takeIf) (as := [vR 1000021]) (rest := []) _ dX2_readType_32 lX2_50 kX1_takeIf vX1_takeIf (by decide) (by decide +kernel) rfl (Nat.le_of_ble_eq_true rfl) (by decide) rfl rfl rfl (Nat.le_of_ble_eq_true rfl) (fun hM hS => h) (fun r M' hq hM => ?_)
      obtain ⟨x32, m32, n32, rfl, rfl, h⟩ := rI_out hq
      refine wp_if_eq (tgt := 42) dX2_readType_35 (by decide) (fun h35 => ?_) (fun h35 => ?_)
      · replace h := h.1 h35
        refine wp_iconst dX2_readType_42 (by decide) ?_
        refine wp_istore_n dX2_readType_43 rfl (by decide) (wp_L (L' := [some (vR 4), some (vR (b + 20)), some (vI l2), some (vI 2)]) rfl ?_)
        exact h
      · replace h := h.2 h35
        refine wp_iconst dX2_readType_38 (by decide) ?_
        refine wp_goto (tgt := 43) dX2_readType_39 (by decide) ?_
        refine wp_istore_n dX2_readType_43 rfl (by decide) (wp_L (L' := [some (vR 4), some (vR (b + 20)), some (vI l2), some (vI 1)]) rfl ?_)
        exact h
  · replace h := h.1 h7
    refine wp_iconst dX2_readType_10 (by decide) ?_
    exact wp_zret dX2_readType_11 rfl (by decide) (fun _ => h)
theorem v_X2_readType_44 {cs : Cs} {Q : Option AV → Mm → Prop} {MI ML : Nat → Nat → Int} {b d e nw th : Nat} {l2 l3 : Int} (hbd : b = 38 ∨ b = 81)
    (h : ((l2 = (-1) → wp cs mX2_readType KD Q 56 [some (vR 4), some (vR (b + 20)), some (vI l2), some (vI l3)] [] (KD, MI, ML, (GR d e nw th 1))) ∧ (l2 ≠ (-1) → (0 ≤ l2 ∧ l2 < 750) ∧ ∀ m55, m55 = up2 MI (b + 23) l2.toNat l3 → wp cs mX2_readType KD Q 56 [some (vR 4), some (vR (b + 20)), some (vI l2), some (vI l3)] [] (KD, m55, ML, (GR d e nw th 1))))) :
    wp cs mX2_readType KD Q 44 [some (vR 4), some (vR (b + 20)), some (vI l2), some (vI l3)] [] (KD, MI, ML, (GR d e nw th 1)) := by
  refine wp_iload_n dX2_readType_44 rfl rfl ?_
  refine wp_iconst dX2_readType_45 (by decide) ?_
  refine wp_icmp_eq (tgt := 56) dX2_readType_46 (by decide) (fun h46 => ?_) (fun h46 => ?_)
  · replace h := h.1 h46
    exact h
  · replace h := h.2 h46
    refine wp_aload_n dX2_readType_49 rfl rfl (by first | exact Or.inl (by decide) | exact Or.inl (by omega) | exact Or.inr (by decide) | exact Or.inr (by omega)) ?_
    refine wp_getR dX2_readType_50 fX2_234 (kdb_20 hbd) (by omega) ?_
    refine wp_topR (x' := (b + 23)) (grb_20_2 hbd) ?_
    refine wp_iload_n dX2_readType_53 rfl rfl ?_
    refine wp_iload_n dX2_readType_54 rfl rfl ?_
    have c0 := h.1
    replace h := h.2
    refine wp_iast dX2_readType_55 (kdb_23 hbd) (by omega) c0 ?_
    refine wp_gI (fun m55 e55 => ?_)
    replace h := h m55 e55
    exact h
theorem v_X2_readType_56 {cs : Cs} {Q : Option AV → Mm → Prop} {MI ML : Nat → Nat → Int} {b d e nw th : Nat} {l2 l3 : Int} (hbd : b = 38 ∨ b = 81)
    (h : ((l3 = 2 → wp cs mX1_take KD (rI (GR d e nw th 1) fun x67 m67 n67 => ((x67 = 0 → Q (some (vI 0)) (m67, n67, (GR d e nw th 1))) ∧ (x67 ≠ 0 → wp cs mX2_readTokens KD (rI (GR d e nw th 1) fun x76 m76 n76 => ((x76 = 0 → Q (some (vI 0)) (m76, n76, (GR d e nw th 1))) ∧ (x76 ≠ 0 → Q (some (vI 1)) (m76, n76, (GR d e nw th 1))))) 0 (padL [vR 4, vR (b + 20), vI l2] 4) [] (KD, m67, n67, (GR d e nw th 1))))) 0 (padL [vR 2, vR 1000012] 2) [] (KD, MI, ML, (GR d e nw th 1))) ∧ (l3 ≠ 2 → Q (some (vI 1)) (MI, ML, (GR d e nw th 1))))) :
    wp cs mX2_readType KD Q 56 [some (vR 4), some (vR (b + 20)), some (vI l2), some (vI l3)] [] (KD, MI, ML, (GR d e nw th 1)) := by
  refine wp_iload_n dX2_readType_56 rfl rfl ?_
  refine wp_iconst dX2_readType_57 (by decide) ?_
  refine wp_icmp_ne (tgt := 82) dX2_readType_58 (by decide) (fun h58 => ?_) (fun h58 => ?_)
  · replace h := h.2 h58
    refine wp_iconst dX2_readType_82 (by decide) ?_
    refine wp_goto (tgt := 87) dX2_readType_83 (by decide) ?_
    exact wp_zret dX2_readType_87 rfl (by decide) (fun _ => h)
  · replace h := h.1 h58
    refine wp_aload_n dX2_readType_61 rfl rfl (by first | exact Or.inl (by decide) | exact Or.inl (by omega) | exact Or.inr (by decide) | exact Or.inr (by omega)) ?_
    refine wp_getR dX2_readType_62 fX2_44 rfl (by decide) ?_
    refine wp_topR (x' := 2) rfl ?_
    refine wp_ldcS (k := 9) dX2_readType_65 cX2_147 ?_
    refine wp_cVq (n := 1) (mt' := mX1_take) (as := [vR 1000012]) (rest := []) _ dX2_readType_67 lX2_83 kX1_take vX1_take (by decide) (by decide +kernel) rfl (Nat.le_of_ble_eq_true rfl) (by decide) rfl rfl rfl (Nat.le_of_ble_eq_true rfl) (fun hM hS => h) (fun r M' hq hM => ?_)
    obtain ⟨x67, m67, n67, rfl, rfl, h⟩ := rI_out hq
    refine wp_if_eq (tgt := 86) dX2_readType_70 (by decide) (fun h70 => ?_) (fun h70 => ?_)
    · replace h := h.1 h70
      refine wp_iconst dX2_readType_86 (by decide) ?_
      exact wp_zret dX2_readType_87 rfl (by decide) (fun _ => h)
    · replace h := h.2 h70
      refine wp_aload_n dX2_readType_73 rfl rfl (by first | exact Or.inl (by decide) | exact Or.inl (by omega) | exact Or.inr (by decide) | exact Or.inr (by omega)) ?_
      refine wp_aload_n dX2_readType_74 rfl rfl (by first | exact Or.inl (by decide) | exact Or.inl (by omega) | exact Or.inr (by decide) | exact Or.inr (by omega)) ?_
      refine wp_iload_n dX2_readType_75 rfl rfl ?_
      refine wp_cVq (n := 2) (mt' := mX2_readTokens) (as := [vR (b + 20), vI l2]) (rest := []) _ dX2_readType_76 lX2_237 kX2_readTokens vX2_readTokens (by decide) (by decide +kernel) rfl (Nat.le_of_ble_eq_true rfl) (by decide) rfl rfl rfl (Nat.le_of_ble_eq_true rfl) (fun hM hS => h) (fun r M' hq hM => ?_)
      obtain ⟨x76, m76, n76, rfl, rfl, h⟩ := rI_out hq
      refine wp_if_eq (tgt := 86) dX2_readType_79 (by decide) (fun h79 => ?_) (fun h79 => ?_)
      · replace h := h.1 h79
        refine wp_iconst dX2_readType_86 (by decide) ?_
        exact wp_zret dX2_readType_87 rfl (by decide) (fun _ => h)
      · replace h := h.2 h79
        refine wp_iconst dX2_readType_82 (by decide) ?_
        refine wp_goto (tgt := 87) dX2_readType_83 (by decide) ?_
        exact wp_zret dX2_readType_87 rfl (by decide) (fun _ => h)
theorem dX2_readDefault_0 : decode cX2_readDefault 0 = .ok (.aload_n 0, 1) := by decide +kernel
theorem dX2_readDefault_1 : decode cX2_readDefault 1 = .ok (.getfield 44, 3) := by decide +kernel
theorem dX2_readDefault_4 : decode cX2_readDefault 4 = .ok (.invokevirtual 56, 3) := by decide +kernel
theorem dX2_readDefault_7 : decode cX2_readDefault 7 = .ok (.ifCond .ne 5, 3) := by decide +kernel
theorem dX2_readDefault_10 : decode cX2_readDefault 10 = .ok (.iconst 0, 1) := by decide +kernel
theorem dX2_readDefault_11 : decode cX2_readDefault 11 = .ok (.ireturn, 1) := by decide +kernel
theorem dX2_readDefault_12 : decode cX2_readDefault 12 = .ok (.iconst 1, 1) := by decide +kernel
theorem dX2_readDefault_13 : decode cX2_readDefault 13 = .ok (.istore_n 3, 1) := by decide +kernel
theorem dX2_readDefault_14 : decode cX2_readDefault 14 = .ok (.aload_n 1, 1) := by decide +kernel
theorem dX2_readDefault_15 : decode cX2_readDefault 15 = .ok (.getfield 250, 3) := by decide +kernel
theorem dX2_readDefault_18 : decode cX2_readDefault 18 = .ok (.istore 4, 2) := by decide +kernel
theorem dX2_readDefault_20 : decode cX2_readDefault 20 = .ok (.aload_n 0, 1) := by decide +kernel
theorem dX2_readDefault_21 : decode cX2_readDefault 21 = .ok (.getfield 44, 3) := by decide +kernel
theorem dX2_readDefault_24 : decode cX2_readDefault 24 = .ok (.ldc 253, 2) := by decide +kernel
theorem dX2_readDefault_26 : decode cX2_readDefault 26 = .ok (.invokevirtual 50, 3) := by decide +kernel
theorem dX2_readDefault_29 : decode cX2_readDefault 29 = .ok (.ifCond .ne 21, 3) := by decide +kernel
theorem dX2_readDefault_32 : decode cX2_readDefault 32 = .ok (.aload_n 0, 1) := by decide +kernel
theorem dX2_readDefault_33 : decode cX2_readDefault 33 = .ok (.getfield 44, 3) := by decide +kernel
theorem dX2_readDefault_36 : decode cX2_readDefault 36 = .ok (.ldc 255, 2) := by decide +kernel
theorem dX2_readDefault_38 : decode cX2_readDefault 38 = .ok (.invokevirtual 50, 3) := by decide +kernel
theorem dX2_readDefault_41 : decode cX2_readDefault 41 = .ok (.ifCond .eq 7, 3) := by decide +kernel
theorem dX2_readDefault_44 : decode cX2_readDefault 44 = .ok (.iconst 0, 1) := by decide +kernel
theorem dX2_readDefault_45 : decode cX2_readDefault 45 = .ok (.goto 4, 3) := by decide +kernel
theorem dX2_readDefault_48 : decode cX2_readDefault 48 = .ok (.iconst 3, 1) := by decide +kernel
theorem dX2_readDefault_49 : decode cX2_readDefault 49 = .ok (.istore_n 3, 1) := by decide +kernel
theorem dX2_readDefault_50 : decode cX2_readDefault 50 = .ok (.iload_n 3, 1) := by decide +kernel
theorem dX2_readDefault_51 : decode cX2_readDefault 51 = .ok (.iconst 3, 1) := by decide +kernel
theorem dX2_readDefault_52 : decode cX2_readDefault 52 = .ok (.if_icmp .ne 43, 3) := by decide +kernel
theorem dX2_readDefault_55 : decode cX2_readDefault 55 = .ok (.aload_n 0, 1) := by decide +kernel
theorem dX2_readDefault_56 : decode cX2_readDefault 56 = .ok (.getfield 44, 3) := by decide +kernel
theorem dX2_readDefault_59 : decode cX2_readDefault 59 = .ok (.ldc_w 257, 3) := by decide +kernel
theorem dX2_readDefault_62 : decode cX2_readDefault 62 = .ok (.invokevirtual 50, 3) := by decide +kernel
theorem dX2_readDefault_65 : decode cX2_readDefault 65 = .ok (.ifCond .eq 17, 3) := by decide +kernel
theorem dX2_readDefault_68 : decode cX2_readDefault 68 = .ok (.iconst 2, 1) := by decide +kernel
theorem dX2_readDefault_69 : decode cX2_readDefault 69 = .ok (.istore_n 3, 1) := by decide +kernel
theorem dX2_readDefault_70 : decode cX2_readDefault 70 = .ok (.aload_n 0, 1) := by decide +kernel
theorem dX2_readDefault_71 : decode cX2_readDefault 71 = .ok (.getfield 44, 3) := by decide +kernel
theorem dX2_readDefault_74 : decode cX2_readDefault 74 = .ok (.invokevirtual 56, 3) := by decide +kernel
theorem dX2_readDefault_77 : decode cX2_readDefault 77 = .ok (.ifCond .ne 5, 3) := by decide +kernel
theorem dX2_readDefault_80 : decode cX2_readDefault 80 = .ok (.iconst 0, 1) := by decide +kernel
theorem dX2_readDefault_81 : decode cX2_readDefault 81 = .ok (.ireturn, 1) := by decide +kernel
theorem dX2_readDefault_82 : decode cX2_readDefault 82 = .ok (.aload_n 0, 1) := by decide +kernel
theorem dX2_readDefault_83 : decode cX2_readDefault 83 = .ok (.getfield 44, 3) := by decide +kernel
theorem dX2_readDefault_86 : decode cX2_readDefault 86 = .ok (.aload_n 1, 1) := by decide +kernel
theorem dX2_readDefault_87 : decode cX2_readDefault 87 = .ok (.invokevirtual 259, 3) := by decide +kernel
theorem dX2_readDefault_90 : decode cX2_readDefault 90 = .ok (.ifCond .ne 5, 3) := by decide +kernel
theorem dX2_readDefault_93 : decode cX2_readDefault 93 = .ok (.iconst 0, 1) := by decide +kernel
theorem dX2_readDefault_94 : decode cX2_readDefault 94 = .ok (.ireturn, 1) := by decide +kernel
theorem dX2_readDefault_95 : decode cX2_readDefault 95 = .ok (.iload_n 2, 1) := by decide +kernel
theorem dX2_readDefault_96 : decode cX2_readDefault 96 = .ok (.iconst (-1), 1) := by decide +kernel
theorem dX2_readDefault_97 : decode cX2_readDefault 97 = .ok (.if_icmp .eq 37, 3) := by decide +kernel
theorem dX2_readDefault_100 : decode cX2_readDefault 100 = .ok (.aload_n 1, 1) := by decide +kernel
theorem dX2_readDefault_101 : decode cX2_readDefault 101 = .ok (.getfield 122, 3) := by decide +kernel
theorem dX2_readDefault_104 : decode cX2_readDefault 104 = .ok (.getfield 262, 3) := by decide +kernel
theorem dX2_readDefault_107 : decode cX2_readDefault 107 = .ok (.iload_n 2, 1) := by decide +kernel
theorem dX2_readDefault_108 : decode cX2_readDefault 108 = .ok (.iload_n 3, 1) := by decide +kernel
theorem dX2_readDefault_109 : decode cX2_readDefault 109 = .ok (.iastore, 1) := by decide +kernel
theorem dX2_readDefault_110 : decode cX2_readDefault 110 = .ok (.aload_n 1, 1) := by decide +kernel
theorem dX2_readDefault_111 : decode cX2_readDefault 111 = .ok (.getfield 122, 3) := by decide +kernel
theorem dX2_readDefault_114 : decode cX2_readDefault 114 = .ok (.getfield 265, 3) := by decide +kernel
theorem dX2_readDefault_117 : decode cX2_readDefault 117 = .ok (.iload_n 2, 1) := by decide +kernel
theorem dX2_readDefault_118 : decode cX2_readDefault 118 = .ok (.iload 4, 2) := by decide +kernel
theorem dX2_readDefault_120 : decode cX2_readDefault 120 = .ok (.iastore, 1) := by decide +kernel
theorem dX2_readDefault_121 : decode cX2_readDefault 121 = .ok (.aload_n 1, 1) := by decide +kernel
theorem dX2_readDefault_122 : decode cX2_readDefault 122 = .ok (.getfield 122, 3) := by decide +kernel
theorem dX2_readDefault_125 : decode cX2_readDefault 125 = .ok (.getfield 268, 3) := by decide +kernel
theorem dX2_readDefault_128 : decode cX2_readDefault 128 = .ok (.iload_n 2, 1) := by decide +kernel
theorem dX2_readDefault_129 : decode cX2_readDefault 129 = .ok (.aload_n 1, 1) := by decide +kernel
theorem dX2_readDefault_130 : decode cX2_readDefault 130 = .ok (.getfield 250, 3) := by decide +kernel
theorem dX2_readDefault_133 : decode cX2_readDefault 133 = .ok (.iastore, 1) := by decide +kernel
theorem dX2_readDefault_134 : decode cX2_readDefault 134 = .ok (.iconst 1, 1) := by decide +kernel
theorem dX2_readDefault_135 : decode cX2_readDefault 135 = .ok (.ireturn, 1) := by decide +kernel
theorem v_X2_readDefault_0 {cs : Cs} {Q : Option AV → Mm → Prop} {MI ML : Nat → Nat → Int} {b d e nw th : Nat} {l2 : Int} (hbd : b = 38 ∨ b = 81)
    (h : wp cs mX1_needSpace KD (rI (GR d e nw th 1) fun x4 m4 n4 => ((x4 = 0 → Q (some (vI 0)) (m4, n4, (GR d e nw th 1))) ∧ (x4 ≠ 0 → wp cs mX1_takeIf KD (rI (GR d e nw th 1) fun x26 m26 n26 => ((x26 = 0 → wp cs mX1_takeIf KD (rI (GR d e nw th 1) fun x38 m38 n38 => ((x38 = 0 → wp cs mX2_readDefault KD Q 50 [some (vR 4), some (vR b), some (vI l2), some (vI 3), some (vI (m4 b 14))] [] (KD, m38, n38, (GR d e nw th 1))) ∧ (x38 ≠ 0 → wp cs mX2_readDefault KD Q 50 [some (vR 4), some (vR b), some (vI l2), some (vI 0), some (vI (m4 b 14))] [] (KD, m38, n38, (GR d e nw th 1))))) 0 (padL [vR 2, vR 1000023] 4) [] (KD, m26, n26, (GR d e nw th 1))) ∧ (x26 ≠ 0 → wp cs mX2_readDefault KD Q 50 [some (vR 4), some (vR b), some (vI l2), some (vI 1), some (vI (m4 b 14))] [] (KD, m26, n26, (GR d e nw th 1))))) 0 (padL [vR 2, vR 1000022] 4) [] (KD, m4, n4, (GR d e nw th 1))))) 0 (padL [vR 2] 1) [] (KD, MI, ML, (GR d e nw th 1))) :
    wp cs mX2_readDefault KD Q 0 (padL [vR 4, vR b, vI l2] 5) [] (KD, MI, ML, (GR d e nw th 1)) := by
  refine wp_L (L' := [some (vR 4), some (vR b), some (vI l2), none, none]) rfl ?_
  refine wp_aload_n dX2_readDefault_0 rfl rfl (by first | exact Or.inl (by decide) | exact Or.inl (by omega) | exact Or.inr (by decide) | exact Or.inr (by omega)) ?_
  refine wp_getR dX2_readDefault_1 fX2_44 rfl (by decide) ?_
  refine wp_topR (x' := 2) rfl ?_
  refine wp_cVq (n := 0) (mt' := mX1_needSpace) (as := []) (rest := []) _ dX2_readDefault_4 lX2_56 kX1_needSpace vX1_needSpace (by decide) (by decide +kernel) rfl (Nat.le_of_ble_eq_true rfl) (by decide) rfl rfl rfl (Nat.le_of_ble_eq_true rfl) (fun hM hS => h) (fun r M' hq hM => ?_)
  obtain ⟨x4, m4, n4, rfl, rfl, h⟩ := rI_out hq
  refine wp_if_ne (tgt := 12) dX2_readDefault_7 (by decide) (fun h7 => ?_) (fun h7 => ?_)
  · replace h := h.2 h7
    refine wp_iconst dX2_readDefault_12 (by decide) ?_
    refine wp_istore_n dX2_readDefault_13 rfl (by decide) (wp_L (L' := [some (vR 4), some (vR b), some (vI l2), some (vI 1), none]) rfl ?_)
    refine wp_aload_n dX2_readDefault_14 rfl rfl (by first | exact Or.inl (by decide) | exact Or.inl (by omega) | exact Or.inr (by decide) | exact Or.inr (by omega)) ?_
    refine wp_getI dX2_readDefault_15 fX2_250 (show KD[b]? = some (7, 19) from kdb_0 hbd) (by omega) ?_
    refine wp_istore dX2_readDefault_18 (by decide) (wp_L (L' := [some (vR 4), some (vR b), some (vI l2), some (vI 1), some (vI (m4 b 14))]) rfl ?_)
    refine wp_aload_n dX2_readDefault_20 rfl rfl (by first | exact Or.inl (by decide) | exact Or.inl (by omega) | exact Or.inr (by decide) | exact Or.inr (by omega)) ?_
    refine wp_getR dX2_readDefault_21 fX2_44 rfl (by decide) ?_
    refine wp_topR (x' := 2) rfl ?_
    refine wp_pc (pc' := 24) rfl ?_
    refine wp_ldcS (k := 19) dX2_readDefault_24 cX2_253 ?_
    refine wp_cVq (n := 1) (mt' := mX1_takeIf) (as := [vR 1000022]) (rest := []) _ dX2_readDefault_26 lX2_50 kX1_takeIf vX1_takeIf (by decide) (by decide +kernel) rfl (Nat.le_of_ble_eq_true rfl) (by decide) rfl rfl rfl (Nat.le_of_ble_eq_true rfl) (fun hM hS => h) (fun r M' hq hM => ?_)
    obtain ⟨x26, m26, n26, rfl, rfl, h⟩ := rI_out hq
    refine wp_if_ne (tgt := 50) dX2_readDefault_29 (by decide) (fun h29 => ?_) (fun h29 => ?_)
    · replace h := h.2 h29
      exact h
    · replace h := h.1 h29
      refine wp_aload_n dX2_readDefault_32 rfl rfl (by first | exact Or.inl (by decide) | exact Or.inl (by omega) | exact Or.inr (by decide) | exact Or.inr (by omega)) ?_
      refine wp_getR dX2_readDefault_33 fX2_44 rfl (by decide) ?_
      refine wp_topR (x' := 2) rfl ?_
      refine wp_ldcS (k := 20) dX2_readDefault_36 cX2_255 ?_
      refine wp_cVq (n := 1) (mt' := mX1_takeIf) (as := [vR 1000023]) (rest := []) _ dX2_readDefault_38 lX2_50 kX1_takeIf vX1_takeIf (by decide) (by decide +kernel) rfl (Nat.le_of_ble_eq_true rfl) (by decide) rfl rfl rfl (Nat.le_of_ble_eq_true rfl) (fun hM hS => h) (fun r M' hq hM => ?_)
      obtain ⟨x38, m38, n38, rfl, rfl, h⟩ := rI_out hq
      refine wp_if_eq (tgt := 48) dX2_readDefault_41 (by decide) (fun h41 => ?_) (fun h41 => ?_)
      · replace h := h.1 h41
        refine wp_iconst dX2_readDefault_48 (by decide) ?_
        refine wp_istore_n dX2_readDefault_49 rfl (by decide) (wp_L (L' := [some (vR 4), some (vR b), some (vI l2), some (vI 3), some (vI (m4 b 14))]) rfl ?_)
        exact h
      · replace h := h.2 h41
        refine wp_iconst dX2_readDefault_44 (by decide) ?_
        refine wp_goto (tgt := 49) dX2_readDefault_45 (by decide) ?_
        refine wp_istore_n dX2_readDefault_49 rfl (by decide) (wp_L (L' := [some (vR 4), some (vR b), some (vI l2), some (vI 0), some (vI (m4 b 14))]) rfl ?_)
        exact h
  · replace h := h.1 h7
    refine wp_iconst dX2_readDefault_10 (by decide) ?_
    exact wp_zret dX2_readDefault_11 rfl (by decide) (fun _ => h)
theorem v_X2_readDefault_50 {cs : Cs} {Q : Option AV → Mm → Prop} {MI ML : Nat → Nat → Int} {b d e nw th : Nat} {l2 l3 l4 : Int} (hbd : b = 38 ∨ b = 81)
    (h : ((l3 = 3 → wp cs mX1_takeIf KD (rI (GR d e nw th 1) fun x62 m62 n62 => ((x62 = 0 → wp cs mX1_takeValue KD (rI (GR d e nw th 1) fun x87 m87 n87 => ((x87 = 0 → Q (some (vI 0)) (m87, n87, (GR d e nw th 1))) ∧ (x87 ≠ 0 → wp cs mX2_readDefault KD Q 95 [some (vR 4), some (vR b), some (vI l2), some (vI l3), some (vI l4)] [] (KD, m87, n87, (GR d e nw th 1))))) 0 (padL [vR 2, vR b] 7) [] (KD, m62, n62, (GR d e nw th 1))) ∧ (x62 ≠ 0 → wp cs mX1_needSpace KD (rI (GR d e nw th 1) fun x74 m74 n74 => ((x74 = 0 → Q (some (vI 0)) (m74, n74, (GR d e nw th 1))) ∧ (x74 ≠ 0 → wp cs mX1_takeValue KD (rI (GR d e nw th 1) fun x87 m87 n87 => ((x87 = 0 → Q (some (vI 0)) (m87, n87, (GR d e nw th 1))) ∧ (x87 ≠ 0 → wp cs mX2_readDefault KD Q 95 [some (vR 4), some (vR b), some (vI l2), some (vI 2), some (vI l4)] [] (KD, m87, n87, (GR d e nw th 1))))) 0 (padL [vR 2, vR b] 7) [] (KD, m74, n74, (GR d e nw th 1))))) 0 (padL [vR 2] 1) [] (KD, m62, n62, (GR d e nw th 1))))) 0 (padL [vR 2, vR 1000024] 4) [] (KD, MI, ML, (GR d e nw th 1))) ∧ (l3 ≠ 3 → wp cs mX2_readDefault KD Q 95 [some (vR 4), some (vR b), some (vI l2), some (vI l3), some (vI l4)] [] (KD, MI, ML, (GR d e nw th 1))))) :
    wp cs mX2_readDefault KD Q 50 [some (vR 4), some (vR b), some (vI l2), some (vI l3), some (vI l4)] [] (KD, MI, ML, (GR d e nw th 1)) := by
  refine wp_iload_n dX2_readDefault_50 rfl rfl ?_
  refine wp_iconst dX2_readDefault_51 (by decide) ?_
  refine wp_icmp_ne (tgt := 95) dX2_readDefault_52 (by decide) (fun h52 => ?_) (fun h52 => ?_)
  · replace h := h.2 h52
    exact h
  · replace h := h.1 h52
    refine wp_aload_n dX2_readDefault_55 rfl rfl (by first | exact Or.inl (by decide) | exact Or.inl (by omega) | exact Or.inr (by decide) | exact Or.inr (by omega)) ?_
    refine wp_getR dX2_readDefault_56 fX2_44 rfl (by decide) ?_
    refine wp_topR (x' := 2) rfl ?_
    refine wp_ldcSw (k := 21) dX2_readDefault_59 cX2_257 ?_
    refine wp_cVq (n := 1) (mt' := mX1_takeIf) (as := [vR 1000024]) (rest := []) _ dX2_readDefault_62 lX2_50 kX1_takeIf vX1_takeIf (by decide) (by decide +kernel) rfl (Nat.le_of_ble_eq_true rfl) (by decide) rfl rfl rfl (Nat.le_of_ble_eq_true rfl) (fun hM hS => h) (fun r M' hq hM => ?_)
    obtain ⟨x62, m62, n62, rfl, rfl, h⟩ := rI_out hq
    refine wp_if_eq (tgt := 82) dX2_readDefault_65 (by decide) (fun h65 => ?_) (fun h65 => ?_)
    · replace h := h.1 h65
      refine wp_aload_n dX2_readDefault_82 rfl rfl (by first | exact Or.inl (by decide) | exact Or.inl (by omega) | exact Or.inr (by decide) | exact Or.inr (by omega)) ?_
      refine wp_getR dX2_readDefault_83 fX2_44 rfl (by decide) ?_
      refine wp_topR (x' := 2) rfl ?_
      refine wp_aload_n dX2_readDefault_86 rfl rfl (by first | exact Or.inl (by decide) | exact Or.inl (by omega) | exact Or.inr (by decide) | exact Or.inr (by omega)) ?_
      refine wp_cVq (n := 1) (mt' := mX1_takeValue) (as := [vR b]) (rest := []) _ dX2_readDefault_87 lX2_259 kX1_takeValue vX1_takeValue (by decide) (by decide +kernel) rfl (Nat.le_of_ble_eq_true rfl) (by decide) rfl rfl rfl (Nat.le_of_ble_eq_true rfl) (fun hM hS => h) (fun r M' hq hM => ?_)
      obtain ⟨x87, m87, n87, rfl, rfl, h⟩ := rI_out hq
      refine wp_if_ne (tgt := 95) dX2_readDefault_90 (by decide) (fun h90 => ?_) (fun h90 => ?_)
      · replace h := h.2 h90
        exact h
      · replace h := h.1 h90
        refine wp_iconst dX2_readDefault_93 (by decide) ?_
        exact wp_zret dX2_readDefault_94 rfl (by decide) (fun _ => h)
    · replace h := h.2 h65
      refine wp_iconst dX2_readDefault_68 (by decide) ?_
      refine wp_istore_n dX2_readDefault_69 rfl (by decide) (wp_L (L' := [some (vR 4), some (vR b), some (vI l2), some (vI 2), some (vI l4)]) rfl ?_)
      refine wp_aload_n dX2_readDefault_70 rfl rfl (by first | exact Or.inl (by decide) | exact Or.inl (by omega) | exact Or.inr (by decide) | exact Or.inr (by omega)) ?_
      refine wp_getR dX2_readDefault_71 fX2_44 rfl (by decide) ?_
      refine wp_topR (x' := 2) rfl ?_
      refine wp_cVq (n := 0) (mt' := mX1_needSpace) (as := []) (rest := []) _ dX2_readDefault_74 lX2_56 kX1_needSpace vX1_needSpace (by decide) (by decide +kernel) rfl (Nat.le_of_ble_eq_true rfl) (by decide) rfl rfl rfl (Nat.le_of_ble_eq_true rfl) (fun hM hS => h) (fun r M' hq hM => ?_)
      obtain ⟨x74, m74, n74, rfl, rfl, h⟩ := rI_out hq
      refine wp_if_ne (tgt := 82) dX2_readDefault_77 (by decide) (fun h77 => ?_) (fun h77 => ?_)
      · replace h := h.2 h77
        refine wp_aload_n dX2_readDefault_82 rfl rfl (by first | exact Or.inl (by decide) | exact Or.inl (by omega) | exact Or.inr (by decide) | exact Or.inr (by omega)) ?_
        refine wp_getR dX2_readDefault_83 fX2_44 rfl (by decide) ?_
        refine wp_topR (x' := 2) rfl ?_
        refine wp_aload_n dX2_readDefault_86 rfl rfl (by first | exact Or.inl (by decide) | exact Or.inl (by omega) | exact Or.inr (by decide) | exact Or.inr (by omega)) ?_
        refine wp_cVq (n := 1) (mt' := mX1_takeValue) (as := [vR b]) (rest := []) _ dX2_readDefault_87 lX2_259 kX1_takeValue vX1_takeValue (by decide) (by decide +kernel) rfl (Nat.le_of_ble_eq_true rfl) (by decide) rfl rfl rfl (Nat.le_of_ble_eq_true rfl) (fun hM hS => h) (fun r M' hq hM => ?_)
        obtain ⟨x87, m87, n87, rfl, rfl, h⟩ := rI_out hq
        refine wp_if_ne (tgt := 95) dX2_readDefault_90 (by decide) (fun h90 => ?_) (fun h90 => ?_)
        · replace h := h.2 h90
          exact h
        · replace h := h.1 h90
          refine wp_iconst dX2_readDefault_93 (by decide) ?_
          exact wp_zret dX2_readDefault_94 rfl (by decide) (fun _ => h)
      · replace h := h.1 h77
        refine wp_iconst dX2_readDefault_80 (by decide) ?_
        exact wp_zret dX2_readDefault_81 rfl (by decide) (fun _ => h)
theorem v_X2_readDefault_95 {cs : Cs} {Q : Option AV → Mm → Prop} {MI ML : Nat → Nat → Int} {b d e nw th : Nat} {l2 l3 l4 : Int} (hbd : b = 38 ∨ b = 81)
    (h : ((l2 = (-1) → Q (some (vI 1)) (MI, ML, (GR d e nw th 1))) ∧ (l2 ≠ (-1) → (0 ≤ l2 ∧ l2 < 750) ∧ ∀ m109, m109 = up2 MI (b + 26) l2.toNat l3 → ∀ m120, m120 = up2 m109 (b + 27) l2.toNat l4 → ∀ m133, m133 = up2 m120 (b + 28) l2.toNat (m120 b 14) → Q (some (vI 1)) (m133, ML, (GR d e nw th 1))))) :
    wp cs mX2_readDefault KD Q 95 [some (vR 4), some (vR b), some (vI l2), some (vI l3), some (vI l4)] [] (KD, MI, ML, (GR d e nw th 1)) := by
  refine wp_iload_n dX2_readDefault_95 rfl rfl ?_
  refine wp_iconst dX2_readDefault_96 (by decide) ?_
  refine wp_icmp_eq (tgt := 134) dX2_readDefault_97 (by decide) (fun h97 => ?_) (fun h97 => ?_)
  · replace h := h.1 h97
    refine wp_iconst dX2_readDefault_134 (by decide) ?_
    exact wp_zret dX2_readDefault_135 rfl (by decide) (fun _ => h)
  · replace h := h.2 h97
    refine wp_aload_n dX2_readDefault_100 rfl rfl (by first | exact Or.inl (by decide) | exact Or.inl (by omega) | exact Or.inr (by decide) | exact Or.inr (by omega)) ?_
    refine wp_getR dX2_readDefault_101 fX2_122 (show KD[b]? = some (7, 19) from kdb_0 hbd) (by omega) ?_
    refine wp_topR (x' := (b + 20)) (grb_0_2 hbd) ?_
    refine wp_getR dX2_readDefault_104 fX2_262 (kdb_20 hbd) (by omega) ?_
    refine wp_topR (x' := (b + 26)) (grb_20_5 hbd) ?_
    refine wp_iload_n dX2_readDefault_107 rfl rfl ?_
    refine wp_iload_n dX2_readDefault_108 rfl rfl ?_
    have c0 := h.1
    replace h := h.2
    refine wp_iast dX2_readDefault_109 (kdb_26 hbd) (by omega) c0 ?_
    refine wp_gI (fun m109 e109 => ?_)
    replace h := h m109 e109
    refine wp_aload_n dX2_readDefault_110 rfl rfl (by first | exact Or.inl (by decide) | exact Or.inl (by omega) | exact Or.inr (by decide) | exact Or.inr (by omega)) ?_
    refine wp_pc (pc' := 111) rfl ?_
    refine wp_getR dX2_readDefault_111 fX2_122 (show KD[b]? = some (7, 19) from kdb_0 hbd) (by omega) ?_
    refine wp_topR (x' := (b + 20)) (grb_0_2 hbd) ?_
    refine wp_getR dX2_readDefault_114 fX2_265 (kdb_20 hbd) (by omega) ?_
    refine wp_topR (x' := (b + 27)) (grb_20_6 hbd) ?_
    refine wp_iload_n dX2_readDefault_117 rfl rfl ?_
    refine wp_iload dX2_readDefault_118 rfl ?_
    refine wp_iast dX2_readDefault_120 (kdb_27 hbd) (by omega) c0 ?_
    refine wp_gI (fun m120 e120 => ?_)
    replace h := h m120 e120
    refine wp_aload_n dX2_readDefault_121 rfl rfl (by first | exact Or.inl (by decide) | exact Or.inl (by omega) | exact Or.inr (by decide) | exact Or.inr (by omega)) ?_
    refine wp_getR dX2_readDefault_122 fX2_122 (show KD[b]? = some (7, 19) from kdb_0 hbd) (by omega) ?_
    refine wp_topR (x' := (b + 20)) (grb_0_2 hbd) ?_
    refine wp_getR dX2_readDefault_125 fX2_268 (kdb_20 hbd) (by omega) ?_
    refine wp_topR (x' := (b + 28)) (grb_20_7 hbd) ?_
    refine wp_pc (pc' := 128) rfl ?_
    refine wp_iload_n dX2_readDefault_128 rfl rfl ?_
    refine wp_aload_n dX2_readDefault_129 rfl rfl (by first | exact Or.inl (by decide) | exact Or.inl (by omega) | exact Or.inr (by decide) | exact Or.inr (by omega)) ?_
    refine wp_getI dX2_readDefault_130 fX2_250 (show KD[b]? = some (7, 19) from kdb_0 hbd) (by omega) ?_
    refine wp_iast dX2_readDefault_133 (kdb_28 hbd) (by omega) c0 ?_
    refine wp_gI (fun m133 e133 => ?_)
    replace h := h m133 e133
    refine wp_iconst dX2_readDefault_134 (by decide) ?_
    exact wp_zret dX2_readDefault_135 rfl (by decide) (fun _ => h)
theorem dX2_readAttlist_0 : decode cX2_readAttlist 0 = .ok (.aload_n 0, 1) := by decide +kernel
theorem dX2_readAttlist_1 : decode cX2_readAttlist 1 = .ok (.getfield 44, 3) := by decide +kernel
theorem dX2_readAttlist_4 : decode cX2_readAttlist 4 = .ok (.invokevirtual 56, 3) := by decide +kernel
theorem dX2_readAttlist_7 : decode cX2_readAttlist 7 = .ok (.ifCond .eq 13, 3) := by decide +kernel
theorem dX2_readAttlist_10 : decode cX2_readAttlist 10 = .ok (.aload_n 0, 1) := by decide +kernel
theorem dX2_readAttlist_11 : decode cX2_readAttlist 11 = .ok (.getfield 44, 3) := by decide +kernel
theorem dX2_readAttlist_14 : decode cX2_readAttlist 14 = .ok (.invokevirtual 60, 3) := by decide +kernel
theorem dX2_readAttlist_17 : decode cX2_readAttlist 17 = .ok (.ifCond .ne 5, 3) := by decide +kernel
theorem dX2_readAttlist_20 : decode cX2_readAttlist 20 = .ok (.iconst 0, 1) := by decide +kernel
theorem dX2_readAttlist_21 : decode cX2_readAttlist 21 = .ok (.ireturn, 1) := by decide +kernel
theorem dX2_readAttlist_22 : decode cX2_readAttlist 22 = .ok (.aload_n 1, 1) := by decide +kernel
theorem dX2_readAttlist_23 : decode cX2_readAttlist 23 = .ok (.getfield 63, 3) := by decide +kernel
theorem dX2_readAttlist_26 : decode cX2_readAttlist 26 = .ok (.aload_n 0, 1) := by decide +kernel
theorem dX2_readAttlist_27 : decode cX2_readAttlist 27 = .ok (.getfield 44, 3) := by decide +kernel
theorem dX2_readAttlist_30 : decode cX2_readAttlist 30 = .ok (.invokevirtual 69, 3) := by decide +kernel
theorem dX2_readAttlist_33 : decode cX2_readAttlist 33 = .ok (.istore_n 2, 1) := by decide +kernel
theorem dX2_readAttlist_34 : decode cX2_readAttlist 34 = .ok (.iconst 0, 1) := by decide +kernel
theorem dX2_readAttlist_35 : decode cX2_readAttlist 35 = .ok (.istore_n 3, 1) := by decide +kernel
theorem dX2_readAttlist_36 : decode cX2_readAttlist 36 = .ok (.iload_n 3, 1) := by decide +kernel
theorem dX2_readAttlist_37 : decode cX2_readAttlist 37 = .ok (.aload_n 0, 1) := by decide +kernel
theorem dX2_readAttlist_38 : decode cX2_readAttlist 38 = .ok (.getfield 44, 3) := by decide +kernel
theorem dX2_readAttlist_41 : decode cX2_readAttlist 41 = .ok (.getfield 89, 3) := by decide +kernel
theorem dX2_readAttlist_44 : decode cX2_readAttlist 44 = .ok (.if_icmp .ge 162, 3) := by decide +kernel
theorem dX2_readAttlist_47 : decode cX2_readAttlist 47 = .ok (.aload_n 0, 1) := by decide +kernel
theorem dX2_readAttlist_48 : decode cX2_readAttlist 48 = .ok (.getfield 44, 3) := by decide +kernel
theorem dX2_readAttlist_51 : decode cX2_readAttlist 51 = .ok (.invokevirtual 207, 3) := by decide +kernel
theorem dX2_readAttlist_54 : decode cX2_readAttlist 54 = .ok (.ifCond .eq 152, 3) := by decide +kernel
theorem dX2_readAttlist_57 : decode cX2_readAttlist 57 = .ok (.aload_n 0, 1) := by decide +kernel
theorem dX2_readAttlist_58 : decode cX2_readAttlist 58 = .ok (.getfield 44, 3) := by decide +kernel
theorem dX2_readAttlist_61 : decode cX2_readAttlist 61 = .ok (.invokevirtual 60, 3) := by decide +kernel
theorem dX2_readAttlist_64 : decode cX2_readAttlist 64 = .ok (.ifCond .ne 5, 3) := by decide +kernel
theorem dX2_readAttlist_67 : decode cX2_readAttlist 67 = .ok (.iconst 0, 1) := by decide +kernel
theorem dX2_readAttlist_68 : decode cX2_readAttlist 68 = .ok (.ireturn, 1) := by decide +kernel
theorem dX2_readAttlist_69 : decode cX2_readAttlist 69 = .ok (.aload_n 1, 1) := by decide +kernel
theorem dX2_readAttlist_70 : decode cX2_readAttlist 70 = .ok (.getfield 63, 3) := by decide +kernel
theorem dX2_readAttlist_73 : decode cX2_readAttlist 73 = .ok (.aload_n 0, 1) := by decide +kernel
theorem dX2_readAttlist_74 : decode cX2_readAttlist 74 = .ok (.getfield 44, 3) := by decide +kernel
theorem dX2_readAttlist_77 : decode cX2_readAttlist 77 = .ok (.invokevirtual 69, 3) := by decide +kernel
theorem dX2_readAttlist_80 : decode cX2_readAttlist 80 = .ok (.istore 4, 2) := by decide +kernel
theorem dX2_readAttlist_82 : decode cX2_readAttlist 82 = .ok (.aload_n 1, 1) := by decide +kernel
theorem dX2_readAttlist_83 : decode cX2_readAttlist 83 = .ok (.getfield 63, 3) := by decide +kernel
theorem dX2_readAttlist_86 : decode cX2_readAttlist 86 = .ok (.iload_n 2, 1) := by decide +kernel
theorem dX2_readAttlist_87 : decode cX2_readAttlist 87 = .ok (.invokevirtual 210, 3) := by decide +kernel
theorem dX2_readAttlist_90 : decode cX2_readAttlist 90 = .ok (.istore 5, 2) := by decide +kernel
theorem dX2_readAttlist_92 : decode cX2_readAttlist 92 = .ok (.aload_n 1, 1) := by decide +kernel
theorem dX2_readAttlist_93 : decode cX2_readAttlist 93 = .ok (.getfield 122, 3) := by decide +kernel
theorem dX2_readAttlist_96 : decode cX2_readAttlist 96 = .ok (.iload 5, 2) := by decide +kernel
theorem dX2_readAttlist_98 : decode cX2_readAttlist 98 = .ok (.iload 4, 2) := by decide +kernel
theorem dX2_readAttlist_100 : decode cX2_readAttlist 100 = .ok (.invokevirtual 214, 3) := by decide +kernel
theorem dX2_readAttlist_103 : decode cX2_readAttlist 103 = .ok (.iconst (-1), 1) := by decide +kernel
theorem dX2_readAttlist_104 : decode cX2_readAttlist 104 = .ok (.if_icmp .ne 7, 3) := by decide +kernel
theorem dX2_readAttlist_107 : decode cX2_readAttlist 107 = .ok (.iconst 1, 1) := by decide +kernel
theorem dX2_readAttlist_108 : decode cX2_readAttlist 108 = .ok (.goto 4, 3) := by decide +kernel
theorem dX2_readAttlist_111 : decode cX2_readAttlist 111 = .ok (.iconst 0, 1) := by decide +kernel
theorem dX2_readAttlist_112 : decode cX2_readAttlist 112 = .ok (.istore 6, 2) := by decide +kernel
theorem dX2_readAttlist_114 : decode cX2_readAttlist 114 = .ok (.iload 6, 2) := by decide +kernel
theorem dX2_readAttlist_116 : decode cX2_readAttlist 116 = .ok (.ifCond .eq 34, 3) := by decide +kernel
theorem dX2_readAttlist_119 : decode cX2_readAttlist 119 = .ok (.aload_n 1, 1) := by decide +kernel
theorem dX2_readAttlist_120 : decode cX2_readAttlist 120 = .ok (.getfield 122, 3) := by decide +kernel
theorem dX2_readAttlist_123 : decode cX2_readAttlist 123 = .ok (.iload 5, 2) := by decide +kernel
theorem dX2_readAttlist_125 : decode cX2_readAttlist 125 = .ok (.invokevirtual 217, 3) := by decide +kernel
theorem dX2_readAttlist_128 : decode cX2_readAttlist 128 = .ok (.bipush 10, 2) := by decide +kernel
theorem dX2_readAttlist_130 : decode cX2_readAttlist 130 = .ok (.if_icmp .lt 20, 3) := by decide +kernel
theorem dX2_readAttlist_133 : decode cX2_readAttlist 133 = .ok (.aload_n 0, 1) := by decide +kernel
theorem dX2_readAttlist_134 : decode cX2_readAttlist 134 = .ok (.getfield 44, 3) := by decide +kernel
theorem dX2_readAttlist_137 : decode cX2_readAttlist 137 = .ok (.bipush (-3), 2) := by decide +kernel
theorem dX2_readAttlist_139 : decode cX2_readAttlist 139 = .ok (.aload_n 0, 1) := by decide +kernel
theorem dX2_readAttlist_140 : decode cX2_readAttlist 140 = .ok (.getfield 44, 3) := by decide +kernel
theorem dX2_readAttlist_143 : decode cX2_readAttlist 143 = .ok (.getfield 192, 3) := by decide +kernel
theorem dX2_readAttlist_146 : decode cX2_readAttlist 146 = .ok (.invokevirtual 118, 3) := by decide +kernel
theorem dX2_readAttlist_149 : decode cX2_readAttlist 149 = .ok (.ireturn, 1) := by decide +kernel
theorem dX2_readAttlist_150 : decode cX2_readAttlist 150 = .ok (.iload 6, 2) := by decide +kernel
theorem dX2_readAttlist_152 : decode cX2_readAttlist 152 = .ok (.ifCond .eq 20, 3) := by decide +kernel
theorem dX2_readAttlist_155 : decode cX2_readAttlist 155 = .ok (.aload_n 1, 1) := by decide +kernel
theorem dX2_readAttlist_156 : decode cX2_readAttlist 156 = .ok (.getfield 122, 3) := by decide +kernel
theorem dX2_readAttlist_159 : decode cX2_readAttlist 159 = .ok (.aload_n 1, 1) := by decide +kernel
theorem dX2_readAttlist_160 : decode cX2_readAttlist 160 = .ok (.getfield 63, 3) := by decide +kernel
theorem dX2_readAttlist_163 : decode cX2_readAttlist 163 = .ok (.iload_n 2, 1) := by decide +kernel
theorem dX2_readAttlist_164 : decode cX2_readAttlist 164 = .ok (.iload 4, 2) := by decide +kernel
theorem dX2_readAttlist_166 : decode cX2_readAttlist 166 = .ok (.invokevirtual 220, 3) := by decide +kernel
theorem dX2_readAttlist_169 : decode cX2_readAttlist 169 = .ok (.goto 4, 3) := by decide +kernel
theorem dX2_readAttlist_172 : decode cX2_readAttlist 172 = .ok (.iconst (-1), 1) := by decide +kernel
theorem dX2_readAttlist_173 : decode cX2_readAttlist 173 = .ok (.istore 7, 2) := by decide +kernel
theorem dX2_readAttlist_175 : decode cX2_readAttlist 175 = .ok (.aload_n 0, 1) := by decide +kernel
theorem dX2_readAttlist_176 : decode cX2_readAttlist 176 = .ok (.aload_n 1, 1) := by decide +kernel
theorem dX2_readAttlist_177 : decode cX2_readAttlist 177 = .ok (.getfield 122, 3) := by decide +kernel
theorem dX2_readAttlist_180 : decode cX2_readAttlist 180 = .ok (.iload 7, 2) := by decide +kernel
theorem dX2_readAttlist_182 : decode cX2_readAttlist 182 = .ok (.invokevirtual 223, 3) := by decide +kernel
theorem dX2_readAttlist_185 : decode cX2_readAttlist 185 = .ok (.ifCond .eq 13, 3) := by decide +kernel
theorem dX2_readAttlist_188 : decode cX2_readAttlist 188 = .ok (.aload_n 0, 1) := by decide +kernel
theorem dX2_readAttlist_189 : decode cX2_readAttlist 189 = .ok (.aload_n 1, 1) := by decide +kernel
theorem dX2_readAttlist_190 : decode cX2_readAttlist 190 = .ok (.iload 7, 2) := by decide +kernel
theorem dX2_readAttlist_192 : decode cX2_readAttlist 192 = .ok (.invokevirtual 227, 3) := by decide +kernel
theorem dX2_readAttlist_195 : decode cX2_readAttlist 195 = .ok (.ifCond .ne 5, 3) := by decide +kernel
theorem dX2_readAttlist_198 : decode cX2_readAttlist 198 = .ok (.iconst 0, 1) := by decide +kernel
theorem dX2_readAttlist_199 : decode cX2_readAttlist 199 = .ok (.ireturn, 1) := by decide +kernel
theorem dX2_readAttlist_200 : decode cX2_readAttlist 200 = .ok (.iinc 3 1, 3) := by decide +kernel
theorem dX2_readAttlist_203 : decode cX2_readAttlist 203 = .ok (.goto (-167), 3) := by decide +kernel
theorem dX2_readAttlist_206 : decode cX2_readAttlist 206 = .ok (.aload_n 0, 1) := by decide +kernel
theorem dX2_readAttlist_207 : decode cX2_readAttlist 207 = .ok (.getfield 44, 3) := by decide +kernel
theorem dX2_readAttlist_210 : decode cX2_readAttlist 210 = .ok (.ldc 109, 2) := by decide +kernel
theorem dX2_readAttlist_212 : decode cX2_readAttlist 212 = .ok (.invokevirtual 83, 3) := by decide +kernel
theorem dX2_readAttlist_215 : decode cX2_readAttlist 215 = .ok (.ireturn, 1) := by decide +kernel
theorem v_X2_readAttlist_0 {cs : Cs} {Q : Option AV → Mm → Prop} {MI ML : Nat → Nat → Int} {b d e nw th : Nat} (hbd : b = 38 ∨ b = 81)
    (h : wp cs mX1_needSpace KD (rI (GR d e nw th 1) fun x4 m4 n4 => ((x4 = 0 → Q (some (vI 0)) (m4, n4, (GR d e nw th 1))) ∧ (x4 ≠ 0 → wp cs mX1_needName KD (rI (GR d e nw th 1) fun x14 m14 n14 => ((x14 = 0 → Q (some (vI 0)) (m14, n14, (GR d e nw th 1))) ∧ (x14 ≠ 0 → wp cs mX5_keep KD (rI (GR d e nw th 1) fun x30 m30 n30 => wp cs mX2_readAttlist KD Q 36 [some (vR 4), some (vR b), some (vI x30), some (vI 0), none, none, none, none] [] (KD, m30, n30, (GR d e nw th 1))) 0 (padL [vR (b + 1), vR 2] 5) [] (KD, m14, n14, (GR d e nw th 1))))) 0 (padL [vR 2] 1) [] (KD, m4, n4, (GR d e nw th 1))))) 0 (padL [vR 2] 1) [] (KD, MI, ML, (GR d e nw th 1))) :
    wp cs mX2_readAttlist KD Q 0 (padL [vR 4, vR b] 8) [] (KD, MI, ML, (GR d e nw th 1)) := by
  refine wp_L (L' := [some (vR 4), some (vR b), none, none, none, none, none, none]) rfl ?_
  refine wp_aload_n dX2_readAttlist_0 rfl rfl (by first | exact Or.inl (by decide) | exact Or.inl (by omega) | exact Or.inr (by decide) | exact Or.inr (by omega)) ?_
  refine wp_getR dX2_readAttlist_1 fX2_44 rfl (by decide) ?_
  refine wp_topR (x' := 2) rfl ?_
  refine wp_cVq (n := 0) (mt' := mX1_needSpace) (as := []) (rest := []) _ dX2_readAttlist_4 lX2_56 kX1_needSpace vX1_needSpace (by decide) (by decide +kernel) rfl (Nat.le_of_ble_eq_true rfl) (by decide) rfl rfl rfl (Nat.le_of_ble_eq_true rfl) (fun hM hS => h) (fun r M' hq hM => ?_)
  obtain ⟨x4, m4, n4, rfl, rfl, h⟩ := rI_out hq
  refine wp_if_eq (tgt := 20) dX2_readAttlist_7 (by decide) (fun h7 => ?_) (fun h7 => ?_)
  · replace h := h.1 h7
    refine wp_iconst dX2_readAttlist_20 (by decide) ?_
    exact wp_zret dX2_readAttlist_21 rfl (by decide) (fun _ => h)
  · replace h := h.2 h7
    refine wp_aload_n dX2_readAttlist_10 rfl rfl (by first | exact Or.inl (by decide) | exact Or.inl (by omega) | exact Or.inr (by decide) | exact Or.inr (by omega)) ?_
    refine wp_getR dX2_readAttlist_11 fX2_44 rfl (by decide) ?_
    refine wp_topR (x' := 2) rfl ?_
    refine wp_cVq (n := 0) (mt' := mX1_needName) (as := []) (rest := []) _ dX2_readAttlist_14 lX2_60 kX1_needName vX1_needName (by decide) (by decide +kernel) rfl (Nat.le_of_ble_eq_true rfl) (by decide) rfl rfl rfl (Nat.le_of_ble_eq_true rfl) (fun hM hS => h) (fun r M' hq hM => ?_)
    obtain ⟨x14, m14, n14, rfl, rfl, h⟩ := rI_out hq
    refine wp_if_ne (tgt := 22) dX2_readAttlist_17 (by decide) (fun h17 => ?_) (fun h17 => ?_)
    · replace h := h.2 h17
      refine wp_aload_n dX2_readAttlist_22 rfl rfl (by first | exact Or.inl (by decide) | exact Or.inl (by omega) | exact Or.inr (by decide) | exact Or.inr (by omega)) ?_
      refine wp_getR dX2_readAttlist_23 fX2_63 (show KD[b]? = some (7, 19) from kdb_0 hbd) (by omega) ?_
      refine wp_topR (x' := (b + 1)) (grb_0_0 hbd) ?_
      refine wp_aload_n dX2_readAttlist_26 rfl rfl (by first | exact Or.inl (by decide) | exact Or.inl (by omega) | exact Or.inr (by decide) | exact Or.inr (by omega)) ?_
      refine wp_getR dX2_readAttlist_27 fX2_44 rfl (by decide) ?_
      refine wp_topR (x' := 2) rfl ?_
      refine wp_cVq (n := 1) (mt' := mX5_keep) (as := [vR 2]) (rest := []) _ dX2_readAttlist_30 lX2_69 kX5_keep vX5_keep (by decide) (by decide +kernel) rfl (Nat.le_of_ble_eq_true rfl) (by omega) (kdb_1 hbd) rfl rfl (Nat.le_of_ble_eq_true rfl) (fun hM hS => h) (fun r M' hq hM => ?_)
      obtain ⟨x30, m30, n30, rfl, rfl, h⟩ := rI_out hq
      refine wp_istore_n dX2_readAttlist_33 rfl (by decide) (wp_L (L' := [some (vR 4), some (vR b), some (vI x30), none, none, none, none, none]) rfl ?_)
      refine wp_iconst dX2_readAttlist_34 (by decide) ?_
      refine wp_istore_n dX2_readAttlist_35 rfl (by decide) (wp_L (L' := [some (vR 4), some (vR b), some (vI x30), some (vI 0), none, none, none, none]) rfl ?_)
      exact h
    · replace h := h.1 h17
      refine wp_iconst dX2_readAttlist_20 (by decide) ?_
      exact wp_zret dX2_readAttlist_21 rfl (by decide) (fun _ => h)
theorem v_X2_readAttlist_36 {cs : Cs} {Q : Option AV → Mm → Prop} {MI ML : Nat → Nat → Int} {b d e nw th : Nat} {l2 l3 : Int} (hbd : b = 38 ∨ b = 81)
    (h : ((l3 < (MI 2 1) → wp cs mX1_reachesName KD (rI (GR d e nw th 1) fun x51 m51 n51 => ((x51 = 0 → wp cs mX1_take KD (rI (GR d e nw th 1) fun x212 m212 n212 => (x212 = 0 ∨ x212 = 1) ∧ Q (some (vI x212)) (m212, n212, (GR d e nw th 1))) 0 (padL [vR 2, vR 1000005] 2) [] (KD, m51, n51, (GR d e nw th 1))) ∧ (x51 ≠ 0 → wp cs mX1_needName KD (rI (GR d e nw th 1) fun x61 m61 n61 => ((x61 = 0 → Q (some (vI 0)) (m61, n61, (GR d e nw th 1))) ∧ (x61 ≠ 0 → wp cs mX5_keep KD (rI (GR d e nw th 1) fun x77 m77 n77 => wp cs mX5_ruleOf KD (rI (GR d e nw th 1) fun x87 m87 n87 => wp cs mX7_find KD (rI (GR d e nw th 1) fun x100 m100 n100 => ((x100 = (-1) → wp cs mX2_readAttlist KD Q 112 [some (vR 4), some (vR b), some (vI l2), some (vI l3), some (vI x77), some (vI x87), none, none] [vI 1] (KD, m100, n100, (GR d e nw th 1))) ∧ (x100 ≠ (-1) → wp cs mX2_readAttlist KD Q 112 [some (vR 4), some (vR b), some (vI l2), some (vI l3), some (vI x77), some (vI x87), none, none] [vI 0] (KD, m100, n100, (GR d e nw th 1))))) 0 (padL [vR (b + 20), vI x87, vI x77] 5) [] (KD, m87, n87, (GR d e nw th 1))) 0 (padL [vR (b + 1), vI l2] 2) [] (KD, m77, n77, (GR d e nw th 1))) 0 (padL [vR (b + 1), vR 2] 5) [] (KD, m61, n61, (GR d e nw th 1))))) 0 (padL [vR 2] 1) [] (KD, m51, n51, (GR d e nw th 1))))) 0 (padL [vR 2] 2) [] (KD, MI, ML, (GR d e nw th 1))) ∧ ((MI 2 1) ≤ l3 → wp cs mX1_take KD (rI (GR d e nw th 1) fun x212 m212 n212 => (x212 = 0 ∨ x212 = 1) ∧ Q (some (vI x212)) (m212, n212, (GR d e nw th 1))) 0 (padL [vR 2, vR 1000005] 2) [] (KD, MI, ML, (GR d e nw th 1))))) :
    wp cs mX2_readAttlist KD Q 36 [some (vR 4), some (vR b), some (vI l2), some (vI l3), none, none, none, none] [] (KD, MI, ML, (GR d e nw th 1)) := by
  refine wp_iload_n dX2_readAttlist_36 rfl rfl ?_
  refine wp_aload_n dX2_readAttlist_37 rfl rfl (by first | exact Or.inl (by decide) | exact Or.inl (by omega) | exact Or.inr (by decide) | exact Or.inr (by omega)) ?_
  refine wp_getR dX2_readAttlist_38 fX2_44 rfl (by decide) ?_
  refine wp_topR (x' := 2) rfl ?_
  refine wp_getI dX2_readAttlist_41 fX2_89 rfl (by decide) ?_
  refine wp_icmp_ge (tgt := 206) dX2_readAttlist_44 (by decide) (fun h44 => ?_) (fun h44 => ?_)
  · replace h := h.2 h44
    refine wp_aload_n dX2_readAttlist_206 rfl rfl (by first | exact Or.inl (by decide) | exact Or.inl (by omega) | exact Or.inr (by decide) | exact Or.inr (by omega)) ?_
    refine wp_getR dX2_readAttlist_207 fX2_44 rfl (by decide) ?_
    refine wp_topR (x' := 2) rfl ?_
    refine wp_ldcS (k := 2) dX2_readAttlist_210 cX2_109 ?_
    refine wp_cVq (n := 1) (mt' := mX1_take) (as := [vR 1000005]) (rest := []) _ dX2_readAttlist_212 lX2_83 kX1_take vX1_take (by decide) (by decide +kernel) rfl (Nat.le_of_ble_eq_true rfl) (by decide) rfl rfl rfl (Nat.le_of_ble_eq_true rfl) (fun hM hS => h) (fun r M' hq hM => ?_)
    obtain ⟨x212, m212, n212, rfl, rfl, h⟩ := rI_out hq
    exact wp_zret dX2_readAttlist_215 rfl h.1 (fun _ => h.2)
  · replace h := h.1 h44
    refine wp_aload_n dX2_readAttlist_47 rfl rfl (by first | exact Or.inl (by decide) | exact Or.inl (by omega) | exact Or.inr (by decide) | exact Or.inr (by omega)) ?_
    refine wp_getR dX2_readAttlist_48 fX2_44 rfl (by decide) ?_
    refine wp_topR (x' := 2) rfl ?_
    refine wp_cVq (n := 0) (mt' := mX1_reachesName) (as := []) (rest := []) _ dX2_readAttlist_51 lX2_207 kX1_reachesName vX1_reachesName (by decide) (by decide +kernel) rfl (Nat.le_of_ble_eq_true rfl) (by decide) rfl rfl rfl (Nat.le_of_ble_eq_true rfl) (fun hM hS => h) (fun r M' hq hM => ?_)
    obtain ⟨x51, m51, n51, rfl, rfl, h⟩ := rI_out hq
    refine wp_if_eq (tgt := 206) dX2_readAttlist_54 (by decide) (fun h54 => ?_) (fun h54 => ?_)
    · replace h := h.1 h54
      refine wp_aload_n dX2_readAttlist_206 rfl rfl (by first | exact Or.inl (by decide) | exact Or.inl (by omega) | exact Or.inr (by decide) | exact Or.inr (by omega)) ?_
      refine wp_getR dX2_readAttlist_207 fX2_44 rfl (by decide) ?_
      refine wp_topR (x' := 2) rfl ?_
      refine wp_ldcS (k := 2) dX2_readAttlist_210 cX2_109 ?_
      refine wp_cVq (n := 1) (mt' := mX1_take) (as := [vR 1000005]) (rest := []) _ dX2_readAttlist_212 lX2_83 kX1_take vX1_take (by decide) (by decide +kernel) rfl (Nat.le_of_ble_eq_true rfl) (by decide) rfl rfl rfl (Nat.le_of_ble_eq_true rfl) (fun hM hS => h) (fun r M' hq hM => ?_)
      obtain ⟨x212, m212, n212, rfl, rfl, h⟩ := rI_out hq
      exact wp_zret dX2_readAttlist_215 rfl h.1 (fun _ => h.2)
    · replace h := h.2 h54
      refine wp_aload_n dX2_readAttlist_57 rfl rfl (by first | exact Or.inl (by decide) | exact Or.inl (by omega) | exact Or.inr (by decide) | exact Or.inr (by omega)) ?_
      refine wp_getR dX2_readAttlist_58 fX2_44 rfl (by decide) ?_
      refine wp_topR (x' := 2) rfl ?_
      refine wp_cVq (n := 0) (mt' := mX1_needName) (as := []) (rest := []) _ dX2_readAttlist_61 lX2_60 kX1_needName vX1_needName (by decide) (by decide +kernel) rfl (Nat.le_of_ble_eq_true rfl) (by decide) rfl rfl rfl (Nat.le_of_ble_eq_true rfl) (fun hM hS => h) (fun r M' hq hM => ?_)
      obtain ⟨x61, m61, n61, rfl, rfl, h⟩ := rI_out hq
      refine wp_if_ne (tgt := 69) dX2_readAttlist_64 (by decide) (fun h64 => ?_) (fun h64 => ?_)
      · replace h := h.2 h64
        refine wp_aload_n dX2_readAttlist_69 rfl rfl (by first | exact Or.inl (by decide) | exact Or.inl (by omega) | exact Or.inr (by decide) | exact Or.inr (by omega)) ?_
        refine wp_getR dX2_readAttlist_70 fX2_63 (show KD[b]? = some (7, 19) from kdb_0 hbd) (by omega) ?_
        refine wp_topR (x' := (b + 1)) (grb_0_0 hbd) ?_
        refine wp_aload_n dX2_readAttlist_73 rfl rfl (by first | exact Or.inl (by decide) | exact Or.inl (by omega) | exact Or.inr (by decide) | exact Or.inr (by omega)) ?_
        refine wp_getR dX2_readAttlist_74 fX2_44 rfl (by decide) ?_
        refine wp_topR (x' := 2) rfl ?_
        refine wp_cVq (n := 1) (mt' := mX5_keep) (as := [vR 2]) (rest := []) _ dX2_readAttlist_77 lX2_69 kX5_keep vX5_keep (by decide) (by decide +kernel) rfl (Nat.le_of_ble_eq_true rfl) (by omega) (kdb_1 hbd) rfl rfl (Nat.le_of_ble_eq_true rfl) (fun hM hS => h) (fun r M' hq hM => ?_)
        obtain ⟨x77, m77, n77, rfl, rfl, h⟩ := rI_out hq
        refine wp_istore dX2_readAttlist_80 (by decide) (wp_L (L' := [some (vR 4), some (vR b), some (vI l2), some (vI l3), some (vI x77), none, none, none]) rfl ?_)
        refine wp_aload_n dX2_readAttlist_82 rfl rfl (by first | exact Or.inl (by decide) | exact Or.inl (by omega) | exact Or.inr (by decide) | exact Or.inr (by omega)) ?_
        refine wp_getR dX2_readAttlist_83 fX2_63 (show KD[b]? = some (7, 19) from kdb_0 hbd) (by omega) ?_
        refine wp_topR (x' := (b + 1)) (grb_0_0 hbd) ?_
        refine wp_iload_n dX2_readAttlist_86 rfl rfl ?_
        refine wp_cVq (n := 1) (mt' := mX5_ruleOf) (as := [vI l2]) (rest := []) _ dX2_readAttlist_87 lX2_210 kX5_ruleOf vX5_ruleOf (by decide) (by decide +kernel) rfl (Nat.le_of_ble_eq_true rfl) (by omega) (kdb_1 hbd) rfl rfl (Nat.le_of_ble_eq_true rfl) (fun hM hS => h) (fun r M' hq hM => ?_)
        obtain ⟨x87, m87, n87, rfl, rfl, h⟩ := rI_out hq
        refine wp_istore dX2_readAttlist_90 (by decide) (wp_L (L' := [some (vR 4), some (vR b), some (vI l2), some (vI l3), some (vI x77), some (vI x87), none, none]) rfl ?_)
        refine wp_aload_n dX2_readAttlist_92 rfl rfl (by first | exact Or.inl (by decide) | exact Or.inl (by omega) | exact Or.inr (by decide) | exact Or.inr (by omega)) ?_
        refine wp_getR dX2_readAttlist_93 fX2_122 (show KD[b]? = some (7, 19) from kdb_0 hbd) (by omega) ?_
        refine wp_topR (x' := (b + 20)) (grb_0_2 hbd) ?_
        refine wp_iload dX2_readAttlist_96 rfl ?_
        refine wp_iload dX2_readAttlist_98 rfl ?_
        refine wp_cVq (n := 2) (mt' := mX7_find) (as := [vI x87, vI x77]) (rest := []) _ dX2_readAttlist_100 lX2_214 kX7_find vX7_find (by decide) (by decide +kernel) rfl (Nat.le_of_ble_eq_true rfl) (by omega) (kdb_20 hbd) rfl rfl (Nat.le_of_ble_eq_true rfl) (fun hM hS => h) (fun r M' hq hM => ?_)
        obtain ⟨x100, m100, n100, rfl, rfl, h⟩ := rI_out hq
        refine wp_iconst dX2_readAttlist_103 (by decide) ?_
        refine wp_icmp_ne (tgt := 111) dX2_readAttlist_104 (by decide) (fun h104 => ?_) (fun h104 => ?_)
        · replace h := h.2 h104
          refine wp_iconst dX2_readAttlist_111 (by decide) ?_
          exact h
        · replace h := h.1 h104
          refine wp_iconst dX2_readAttlist_107 (by decide) ?_
          refine wp_goto (tgt := 112) dX2_readAttlist_108 (by decide) ?_
          exact h
      · replace h := h.1 h64
        refine wp_iconst dX2_readAttlist_67 (by decide) ?_
        exact wp_zret dX2_readAttlist_68 rfl (by decide) (fun _ => h)
theorem v_X2_readAttlist_112 {cs : Cs} {Q : Option AV → Mm → Prop} {MI ML : Nat → Nat → Int} {b d e nw th : Nat} {l2 l3 l4 l5 s0 : Int} (hbd : b = 38 ∨ b = 81)
    (h : ((s0 = 0 → wp cs mX2_readAttlist KD Q 150 [some (vR 4), some (vR b), some (vI l2), some (vI l3), some (vI l4), some (vI l5), some (vI s0), none] [] (KD, MI, ML, (GR d e nw th 1))) ∧ (s0 ≠ 0 → wp cs mX7_chainLength KD (rI (GR d e nw th 1) fun x125 m125 n125 => ((x125 < 10 → wp cs mX2_readAttlist KD Q 150 [some (vR 4), some (vR b), some (vI l2), some (vI l3), some (vI l4), some (vI l5), some (vI s0), none] [] (KD, m125, n125, (GR d e nw th 1))) ∧ (10 ≤ x125 → wp cs mX1_refuse KD (rI (GR d e nw th 1) fun x146 m146 n146 => (x146 = 0 ∨ x146 = 1) ∧ Q (some (vI x146)) (m146, n146, (GR d e nw th 1))) 0 (padL [vR 2, vI (-3), vI (m125 2 3)] 3) [] (KD, m125, n125, (GR d e nw th 1))))) 0 (padL [vR (b + 20), vI l5] 4) [] (KD, MI, ML, (GR d e nw th 1))))) :
    wp cs mX2_readAttlist KD Q 112 [some (vR 4), some (vR b), some (vI l2), some (vI l3), some (vI l4), some (vI l5), none, none] [vI s0] (KD, MI, ML, (GR d e nw th 1)) := by
  refine wp_istore dX2_readAttlist_112 (by decide) (wp_L (L' := [some (vR 4), some (vR b), some (vI l2), some (vI l3), some (vI l4), some (vI l5), some (vI s0), none]) rfl ?_)
  refine wp_iload dX2_readAttlist_114 rfl ?_
  refine wp_if_eq (tgt := 150) dX2_readAttlist_116 (by decide) (fun h116 => ?_) (fun h116 => ?_)
  · replace h := h.1 h116
    exact h
  · replace h := h.2 h116
    refine wp_aload_n dX2_readAttlist_119 rfl rfl (by first | exact Or.inl (by decide) | exact Or.inl (by omega) | exact Or.inr (by decide) | exact Or.inr (by omega)) ?_
    refine wp_getR dX2_readAttlist_120 fX2_122 (show KD[b]? = some (7, 19) from kdb_0 hbd) (by omega) ?_
    refine wp_topR (x' := (b + 20)) (grb_0_2 hbd) ?_
    refine wp_iload dX2_readAttlist_123 rfl ?_
    refine wp_cVq (n := 1) (mt' := mX7_chainLength) (as := [vI l5]) (rest := []) _ dX2_readAttlist_125 lX2_217 kX7_chainLength vX7_chainLength (by decide) (by decide +kernel) rfl (Nat.le_of_ble_eq_true rfl) (by omega) (kdb_20 hbd) rfl rfl (Nat.le_of_ble_eq_true rfl) (fun hM hS => h) (fun r M' hq hM => ?_)
    obtain ⟨x125, m125, n125, rfl, rfl, h⟩ := rI_out hq
    refine wp_bipush dX2_readAttlist_128 (by decide +kernel) (by decide) ?_
    refine wp_icmp_lt (tgt := 150) dX2_readAttlist_130 (by decide) (fun h130 => ?_) (fun h130 => ?_)
    · replace h := h.1 h130
      exact h
    · replace h := h.2 h130
      refine wp_aload_n dX2_readAttlist_133 rfl rfl (by first | exact Or.inl (by decide) | exact Or.inl (by omega) | exact Or.inr (by decide) | exact Or.inr (by omega)) ?_
      refine wp_getR dX2_readAttlist_134 fX2_44 rfl (by decide) ?_
      refine wp_topR (x' := 2) rfl ?_
      refine wp_bipush dX2_readAttlist_137 (by decide +kernel) (by decide) ?_
      refine wp_aload_n dX2_readAttlist_139 rfl rfl (by first | exact Or.inl (by decide) | exact Or.inl (by omega) | exact Or.inr (by decide) | exact Or.inr (by omega)) ?_
      refine wp_getR dX2_readAttlist_140 fX2_44 rfl (by decide) ?_
      refine wp_topR (x' := 2) rfl ?_
      refine wp_getI dX2_readAttlist_143 fX2_192 rfl (by decide) ?_
      refine wp_cVq (n := 2) (mt' := mX1_refuse) (as := [vI (-3), vI (m125 2 3)]) (rest := []) _ dX2_readAttlist_146 lX2_118 kX1_refuse vX1_refuse (by decide) (by decide +kernel) rfl (Nat.le_of_ble_eq_true rfl) (by decide) rfl rfl rfl (Nat.le_of_ble_eq_true rfl) (fun hM hS => h) (fun r M' hq hM => ?_)
      obtain ⟨x146, m146, n146, rfl, rfl, h⟩ := rI_out hq
      exact wp_zret dX2_readAttlist_149 rfl h.1 (fun _ => h.2)
theorem v_X2_readAttlist_150 {cs : Cs} {Q : Option AV → Mm → Prop} {MI ML : Nat → Nat → Int} {b d e nw th : Nat} {l2 l3 l4 l5 l6 : Int} (hbd : b = 38 ∨ b = 81)
    (h : ((l6 = 0 → wp cs mX2_readType KD (rI (GR d e nw th 1) fun x182 m182 n182 => ((x182 = 0 → Q (some (vI 0)) (m182, n182, (GR d e nw th 1))) ∧ (x182 ≠ 0 → wp cs mX2_readDefault KD (rI (GR d e nw th 1) fun x192 m192 n192 => ((x192 = 0 → Q (some (vI 0)) (m192, n192, (GR d e nw th 1))) ∧ (x192 ≠ 0 → (-2147483648 ≤ l3 + 1 ∧ l3 + 1 < 2147483648) ∧ wp cs mX2_readAttlist KD Q 36 [some (vR 4), some (vR b), some (vI l2), some (vI (l3 + 1)), none, none, none, none] [] (KD, m192, n192, (GR d e nw th 1))))) 0 (padL [vR 4, vR b, vI (-1)] 5) [] (KD, m182, n182, (GR d e nw th 1))))) 0 (padL [vR 4, vR (b + 20), vI (-1)] 4) [] (KD, MI, ML, (GR d e nw th 1))) ∧ (l6 ≠ 0 → wp cs mX7_add KD (rI (GR d e nw th 1) fun x166 m166 n166 => wp cs mX2_readType KD (rI (GR d e nw th 1) fun x182 m182 n182 => ((x182 = 0 → Q (some (vI 0)) (m182, n182, (GR d e nw th 1))) ∧ (x182 ≠ 0 → wp cs mX2_readDefault KD (rI (GR d e nw th 1) fun x192 m192 n192 => ((x192 = 0 → Q (some (vI 0)) (m192, n192, (GR d e nw th 1))) ∧ (x192 ≠ 0 → (-2147483648 ≤ l3 + 1 ∧ l3 + 1 < 2147483648) ∧ wp cs mX2_readAttlist KD Q 36 [some (vR 4), some (vR b), some (vI l2), some (vI (l3 + 1)), none, none, none, none] [] (KD, m192, n192, (GR d e nw th 1))))) 0 (padL [vR 4, vR b, vI x166] 5) [] (KD, m182, n182, (GR d e nw th 1))))) 0 (padL [vR 4, vR (b + 20), vI x166] 4) [] (KD, m166, n166, (GR d e nw th 1))) 0 (padL [vR (b + 20), vR (b + 1), vI l2, vI l4] 7) [] (KD, MI, ML, (GR d e nw th 1))))) :
    wp cs mX2_readAttlist KD Q 150 [some (vR 4), some (vR b), some (vI l2), some (vI l3), some (vI l4), some (vI l5), some (vI l6), none] [] (KD, MI, ML, (GR d e nw th 1)) := by
  refine wp_iload dX2_readAttlist_150 rfl ?_
  refine wp_if_eq (tgt := 172) dX2_readAttlist_152 (by decide) (fun h152 => ?_) (fun h152 => ?_)
  · replace h := h.1 h152
    refine wp_iconst dX2_readAttlist_172 (by decide) ?_
    refine wp_istore dX2_readAttlist_173 (by decide) (wp_L (L' := [some (vR 4), some (vR b), some (vI l2), some (vI l3), some (vI l4), some (vI l5), some (vI l6), some (vI (-1))]) rfl ?_)
    refine wp_aload_n dX2_readAttlist_175 rfl rfl (by first | exact Or.inl (by decide) | exact Or.inl (by omega) | exact Or.inr (by decide) | exact Or.inr (by omega)) ?_
    refine wp_aload_n dX2_readAttlist_176 rfl rfl (by first | exact Or.inl (by decide) | exact Or.inl (by omega) | exact Or.inr (by decide) | exact Or.inr (by omega)) ?_
    refine wp_getR dX2_readAttlist_177 fX2_122 (show KD[b]? = some (7, 19) from kdb_0 hbd) (by omega) ?_
    refine wp_topR (x' := (b + 20)) (grb_0_2 hbd) ?_
    refine wp_iload dX2_readAttlist_180 rfl ?_
    refine wp_cVq (n := 2) (mt' := mX2_readType) (as := [vR (b + 20), vI (-1)]) (rest := []) _ dX2_readAttlist_182 lX2_223 kX2_readType vX2_readType (by decide) (by decide +kernel) rfl (Nat.le_of_ble_eq_true rfl) (by decide) rfl rfl rfl (Nat.le_of_ble_eq_true rfl) (fun hM hS => h) (fun r M' hq hM => ?_)
    obtain ⟨x182, m182, n182, rfl, rfl, h⟩ := rI_out hq
    refine wp_if_eq (tgt := 198) dX2_readAttlist_185 (by decide) (fun h185 => ?_) (fun h185 => ?_)
    · replace h := h.1 h185
      refine wp_iconst dX2_readAttlist_198 (by decide) ?_
      exact wp_zret dX2_readAttlist_199 rfl (by decide) (fun _ => h)
    · replace h := h.2 h185
      refine wp_aload_n dX2_readAttlist_188 rfl rfl (by first | exact Or.inl (by decide) | exact Or.inl (by omega) | exact Or.inr (by decide) | exact Or.inr (by omega)) ?_
      refine wp_aload_n dX2_readAttlist_189 rfl rfl (by first | exact Or.inl (by decide) | exact Or.inl (by omega) | exact Or.inr (by decide) | exact Or.inr (by omega)) ?_
      refine wp_iload dX2_readAttlist_190 rfl ?_
      refine wp_cVq (n := 2) (mt' := mX2_readDefault) (as := [vR b, vI (-1)]) (rest := []) _ dX2_readAttlist_192 lX2_227 kX2_readDefault vX2_readDefault (by decide) (by decide +kernel) rfl (Nat.le_of_ble_eq_true rfl) (by decide) rfl rfl rfl (Nat.le_of_ble_eq_true rfl) (fun hM hS => h) (fun r M' hq hM => ?_)
      obtain ⟨x192, m192, n192, rfl, rfl, h⟩ := rI_out hq
      refine wp_if_ne (tgt := 200) dX2_readAttlist_195 (by decide) (fun h195 => ?_) (fun h195 => ?_)
      · replace h := h.2 h195
        have c0 := h.1
        replace h := h.2
        refine wp_iincr dX2_readAttlist_200 rfl (by decide) c0 (wp_L (L' := [some (vR 4), some (vR b), some (vI l2), some (vI (l3 + 1)), some (vI l4), some (vI l5), some (vI l6), some (vI (-1))]) rfl ?_)
        refine wp_goto (tgt := 36) dX2_readAttlist_203 (by decide) ?_
        refine wp_forget (L' := [some (vR 4), some (vR b), some (vI l2), some (vI (l3 + 1)), none, none, none, none]) (by repeat' (first | exact trivial | refine ⟨rfl, ?_⟩)) ?_
        exact h
      · replace h := h.1 h195
        refine wp_iconst dX2_readAttlist_198 (by decide) ?_
        exact wp_zret dX2_readAttlist_199 rfl (by decide) (fun _ => h)
  · replace h := h.2 h152
    refine wp_aload_n dX2_readAttlist_155 rfl rfl (by first | exact Or.inl (by decide) | exact Or.inl (by omega) | exact Or.inr (by decide) | exact Or.inr (by omega)) ?_
    refine wp_getR dX2_readAttlist_156 fX2_122 (show KD[b]? = some (7, 19) from kdb_0 hbd) (by omega) ?_
    refine wp_topR (x' := (b + 20)) (grb_0_2 hbd) ?_
    refine wp_aload_n dX2_readAttlist_159 rfl rfl (by first | exact Or.inl (by decide) | exact Or.inl (by omega) | exact Or.inr (by decide) | exact Or.inr (by omega)) ?_
    refine wp_getR dX2_readAttlist_160 fX2_63 (show KD[b]? = some (7, 19) from kdb_0 hbd) (by omega) ?_
    refine wp_topR (x' := (b + 1)) (grb_0_0 hbd) ?_
    refine wp_iload_n dX2_readAttlist_163 rfl rfl ?_
    refine wp_iload dX2_readAttlist_164 rfl ?_
    refine wp_cVq (n := 3) (mt' := mX7_add) (as := [vR (b + 1), vI l2, vI l4]) (rest := []) _ dX2_readAttlist_166 lX2_220 kX7_add vX7_add (by decide) (by decide +kernel) rfl (Nat.le_of_ble_eq_true rfl) (by omega) (kdb_20 hbd) rfl rfl (Nat.le_of_ble_eq_true rfl) (fun hM hS => h) (fun r M' hq hM => ?_)
    obtain ⟨x166, m166, n166, rfl, rfl, h⟩ := rI_out hq
    refine wp_goto (tgt := 173) dX2_readAttlist_169 (by decide) ?_
    refine wp_istore dX2_readAttlist_173 (by decide) (wp_L (L' := [some (vR 4), some (vR b), some (vI l2), some (vI l3), some (vI l4), some (vI l5), some (vI l6), some (vI x166)]) rfl ?_)
    refine wp_aload_n dX2_readAttlist_175 rfl rfl (by first | exact Or.inl (by decide) | exact Or.inl (by omega) | exact Or.inr (by decide) | exact Or.inr (by omega)) ?_
    refine wp_aload_n dX2_readAttlist_176 rfl rfl (by first | exact Or.inl (by decide) | exact Or.inl (by omega) | exact Or.inr (by decide) | exact Or.inr (by omega)) ?_
    refine wp_getR dX2_readAttlist_177 fX2_122 (show KD[b]? = some (7, 19) from kdb_0 hbd) (by omega) ?_
    refine wp_topR (x' := (b + 20)) (grb_0_2 hbd) ?_
    refine wp_iload dX2_readAttlist_180 rfl ?_
    refine wp_cVq (n := 2) (mt' := mX2_readType) (as := [vR (b + 20), vI x166]) (rest := []) _ dX2_readAttlist_182 lX2_223 kX2_readType vX2_readType (by decide) (by decide +kernel) rfl (Nat.le_of_ble_eq_true rfl) (by decide) rfl rfl rfl (Nat.le_of_ble_eq_true rfl) (fun hM hS => h) (fun r M' hq hM => ?_)
    obtain ⟨x182, m182, n182, rfl, rfl, h⟩ := rI_out hq
    refine wp_if_eq (tgt := 198) dX2_readAttlist_185 (by decide) (fun h185 => ?_) (fun h185 => ?_)
    · replace h := h.1 h185
      refine wp_iconst dX2_readAttlist_198 (by decide) ?_
      exact wp_zret dX2_readAttlist_199 rfl (by decide) (fun _ => h)
    · replace h := h.2 h185
      refine wp_aload_n dX2_readAttlist_188 rfl rfl (by first | exact Or.inl (by decide) | exact Or.inl (by omega) | exact Or.inr (by decide) | exact Or.inr (by omega)) ?_
      refine wp_aload_n dX2_readAttlist_189 rfl rfl (by first | exact Or.inl (by decide) | exact Or.inl (by omega) | exact Or.inr (by decide) | exact Or.inr (by omega)) ?_
      refine wp_iload dX2_readAttlist_190 rfl ?_
      refine wp_cVq (n := 2) (mt' := mX2_readDefault) (as := [vR b, vI x166]) (rest := []) _ dX2_readAttlist_192 lX2_227 kX2_readDefault vX2_readDefault (by decide) (by decide +kernel) rfl (Nat.le_of_ble_eq_true rfl) (by decide) rfl rfl rfl (Nat.le_of_ble_eq_true rfl) (fun hM hS => h) (fun r M' hq hM => ?_)
      obtain ⟨x192, m192, n192, rfl, rfl, h⟩ := rI_out hq
      refine wp_if_ne (tgt := 200) dX2_readAttlist_195 (by decide) (fun h195 => ?_) (fun h195 => ?_)
      · replace h := h.2 h195
        have c0 := h.1
        replace h := h.2
        refine wp_iincr dX2_readAttlist_200 rfl (by decide) c0 (wp_L (L' := [some (vR 4), some (vR b), some (vI l2), some (vI (l3 + 1)), some (vI l4), some (vI l5), some (vI l6), some (vI x166)]) rfl ?_)
        refine wp_goto (tgt := 36) dX2_readAttlist_203 (by decide) ?_
        refine wp_forget (L' := [some (vR 4), some (vR b), some (vI l2), some (vI (l3 + 1)), none, none, none, none]) (by repeat' (first | exact trivial | refine ⟨rfl, ?_⟩)) ?_
        exact h
      · replace h := h.1 h195
        refine wp_iconst dX2_readAttlist_198 (by decide) ?_
        exact wp_zret dX2_readAttlist_199 rfl (by decide) (fun _ => h)
