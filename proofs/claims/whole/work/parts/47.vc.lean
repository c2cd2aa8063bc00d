theorem dX12_attribute_0 : decode cX12_attribute 0 = .ok (.aload_n 0, 1) := by decide +kernel
theorem dX12_attribute_1 : decode cX12_attribute 1 = .ok (.invokevirtual 351, 3) := by decide +kernel
theorem dX12_attribute_4 : decode cX12_attribute 4 = .ok (.istore_n 2, 1) := by decide +kernel
theorem dX12_attribute_5 : decode cX12_attribute 5 = .ok (.aload_n 0, 1) := by decide +kernel
theorem dX12_attribute_6 : decode cX12_attribute 6 = .ok (.getfield 306, 3) := by decide +kernel
theorem dX12_attribute_9 : decode cX12_attribute 9 = .ok (.istore_n 3, 1) := by decide +kernel
theorem dX12_attribute_10 : decode cX12_attribute 10 = .ok (.aload_n 0, 1) := by decide +kernel
theorem dX12_attribute_11 : decode cX12_attribute 11 = .ok (.invokevirtual 289, 3) := by decide +kernel
theorem dX12_attribute_14 : decode cX12_attribute 14 = .ok (.ifCond .eq 29, 3) := by decide +kernel
theorem dX12_attribute_17 : decode cX12_attribute 17 = .ok (.aload_n 0, 1) := by decide +kernel
theorem dX12_attribute_18 : decode cX12_attribute 18 = .ok (.iload_n 1, 1) := by decide +kernel
theorem dX12_attribute_19 : decode cX12_attribute 19 = .ok (.sipush 6000, 3) := by decide +kernel
theorem dX12_attribute_22 : decode cX12_attribute 22 = .ok (.aload_n 0, 1) := by decide +kernel
theorem dX12_attribute_23 : decode cX12_attribute 23 = .ok (.getfield 328, 3) := by decide +kernel
theorem dX12_attribute_26 : decode cX12_attribute 26 = .ok (.imul, 1) := by decide +kernel
theorem dX12_attribute_27 : decode cX12_attribute 27 = .ok (.iload_n 2, 1) := by decide +kernel
theorem dX12_attribute_28 : decode cX12_attribute 28 = .ok (.iadd, 1) := by decide +kernel
theorem dX12_attribute_29 : decode cX12_attribute 29 = .ok (.iload_n 3, 1) := by decide +kernel
theorem dX12_attribute_30 : decode cX12_attribute 30 = .ok (.invokevirtual 458, 3) := by decide +kernel
theorem dX12_attribute_33 : decode cX12_attribute 33 = .ok (.ifCond .eq 10, 3) := by decide +kernel
theorem dX12_attribute_36 : decode cX12_attribute 36 = .ok (.aload_n 0, 1) := by decide +kernel
theorem dX12_attribute_37 : decode cX12_attribute 37 = .ok (.bipush (-2), 2) := by decide +kernel
theorem dX12_attribute_39 : decode cX12_attribute 39 = .ok (.iload_n 2, 1) := by decide +kernel
theorem dX12_attribute_40 : decode cX12_attribute 40 = .ok (.invokevirtual 293, 3) := by decide +kernel
theorem dX12_attribute_43 : decode cX12_attribute 43 = .ok (.aload_n 0, 1) := by decide +kernel
theorem dX12_attribute_44 : decode cX12_attribute 44 = .ok (.invokevirtual 289, 3) := by decide +kernel
theorem dX12_attribute_47 : decode cX12_attribute 47 = .ok (.ifCond .eq 20, 3) := by decide +kernel
theorem dX12_attribute_50 : decode cX12_attribute 50 = .ok (.aload_n 0, 1) := by decide +kernel
theorem dX12_attribute_51 : decode cX12_attribute 51 = .ok (.iload_n 1, 1) := by decide +kernel
theorem dX12_attribute_52 : decode cX12_attribute 52 = .ok (.invokevirtual 462, 3) := by decide +kernel
theorem dX12_attribute_55 : decode cX12_attribute 55 = .ok (.bipush 8, 2) := by decide +kernel
theorem dX12_attribute_57 : decode cX12_attribute 57 = .ok (.if_icmp .ne 10, 3) := by decide +kernel
theorem dX12_attribute_60 : decode cX12_attribute 60 = .ok (.aload_n 0, 1) := by decide +kernel
theorem dX12_attribute_61 : decode cX12_attribute 61 = .ok (.bipush (-3), 2) := by decide +kernel
theorem dX12_attribute_63 : decode cX12_attribute 63 = .ok (.iload_n 2, 1) := by decide +kernel
theorem dX12_attribute_64 : decode cX12_attribute 64 = .ok (.invokevirtual 293, 3) := by decide +kernel
theorem dX12_attribute_67 : decode cX12_attribute 67 = .ok (.aload_n 0, 1) := by decide +kernel
theorem dX12_attribute_68 : decode cX12_attribute 68 = .ok (.iconst 2, 1) := by decide +kernel
theorem dX12_attribute_69 : decode cX12_attribute 69 = .ok (.iload_n 2, 1) := by decide +kernel
theorem dX12_attribute_70 : decode cX12_attribute 70 = .ok (.invokevirtual 446, 3) := by decide +kernel
theorem dX12_attribute_73 : decode cX12_attribute 73 = .ok (.istore 4, 2) := by decide +kernel
theorem dX12_attribute_75 : decode cX12_attribute 75 = .ok (.aload_n 0, 1) := by decide +kernel
theorem dX12_attribute_76 : decode cX12_attribute 76 = .ok (.invokevirtual 289, 3) := by decide +kernel
theorem dX12_attribute_79 : decode cX12_attribute 79 = .ok (.ifCond .ne 4, 3) := by decide +kernel
theorem dX12_attribute_82 : decode cX12_attribute 82 = .ok (.return_, 1) := by decide +kernel
theorem dX12_attribute_83 : decode cX12_attribute 83 = .ok (.aload_n 0, 1) := by decide +kernel
theorem dX12_attribute_84 : decode cX12_attribute 84 = .ok (.invokevirtual 300, 3) := by decide +kernel
theorem dX12_attribute_87 : decode cX12_attribute 87 = .ok (.aload_n 0, 1) := by decide +kernel
theorem dX12_attribute_88 : decode cX12_attribute 88 = .ok (.bipush 61, 2) := by decide +kernel
theorem dX12_attribute_90 : decode cX12_attribute 90 = .ok (.invokevirtual 340, 3) := by decide +kernel
theorem dX12_attribute_93 : decode cX12_attribute 93 = .ok (.istore 5, 2) := by decide +kernel
theorem dX12_attribute_95 : decode cX12_attribute 95 = .ok (.aload_n 0, 1) := by decide +kernel
theorem dX12_attribute_96 : decode cX12_attribute 96 = .ok (.invokevirtual 300, 3) := by decide +kernel
theorem dX12_attribute_99 : decode cX12_attribute 99 = .ok (.aload_n 0, 1) := by decide +kernel
theorem dX12_attribute_100 : decode cX12_attribute 100 = .ok (.invokevirtual 440, 3) := by decide +kernel
theorem dX12_attribute_103 : decode cX12_attribute 103 = .ok (.istore 6, 2) := by decide +kernel
theorem dX12_attribute_105 : decode cX12_attribute 105 = .ok (.aload_n 0, 1) := by decide +kernel
theorem dX12_attribute_106 : decode cX12_attribute 106 = .ok (.getfield 37, 3) := by decide +kernel
theorem dX12_attribute_109 : decode cX12_attribute 109 = .ok (.sipush 600, 3) := by decide +kernel
theorem dX12_attribute_112 : decode cX12_attribute 112 = .ok (.aload_n 0, 1) := by decide +kernel
theorem dX12_attribute_113 : decode cX12_attribute 113 = .ok (.getfield 328, 3) := by decide +kernel
theorem dX12_attribute_116 : decode cX12_attribute 116 = .ok (.imul, 1) := by decide +kernel
theorem dX12_attribute_117 : decode cX12_attribute 117 = .ok (.iload 4, 2) := by decide +kernel
theorem dX12_attribute_119 : decode cX12_attribute 119 = .ok (.iadd, 1) := by decide +kernel
theorem dX12_attribute_120 : decode cX12_attribute 120 = .ok (.sipush 6000, 3) := by decide +kernel
theorem dX12_attribute_123 : decode cX12_attribute 123 = .ok (.aload_n 0, 1) := by decide +kernel
theorem dX12_attribute_124 : decode cX12_attribute 124 = .ok (.getfield 328, 3) := by decide +kernel
theorem dX12_attribute_127 : decode cX12_attribute 127 = .ok (.imul, 1) := by decide +kernel
theorem dX12_attribute_128 : decode cX12_attribute 128 = .ok (.iload_n 2, 1) := by decide +kernel
theorem dX12_attribute_129 : decode cX12_attribute 129 = .ok (.iadd, 1) := by decide +kernel
theorem dX12_attribute_130 : decode cX12_attribute 130 = .ok (.iastore, 1) := by decide +kernel
theorem dX12_attribute_131 : decode cX12_attribute 131 = .ok (.aload_n 0, 1) := by decide +kernel
theorem dX12_attribute_132 : decode cX12_attribute 132 = .ok (.getfield 40, 3) := by decide +kernel
theorem dX12_attribute_135 : decode cX12_attribute 135 = .ok (.sipush 600, 3) := by decide +kernel
theorem dX12_attribute_138 : decode cX12_attribute 138 = .ok (.aload_n 0, 1) := by decide +kernel
theorem dX12_attribute_139 : decode cX12_attribute 139 = .ok (.getfield 328, 3) := by decide +kernel
theorem dX12_attribute_142 : decode cX12_attribute 142 = .ok (.imul, 1) := by decide +kernel
theorem dX12_attribute_143 : decode cX12_attribute 143 = .ok (.iload 4, 2) := by decide +kernel
theorem dX12_attribute_145 : decode cX12_attribute 145 = .ok (.iadd, 1) := by decide +kernel
theorem dX12_attribute_146 : decode cX12_attribute 146 = .ok (.iload_n 3, 1) := by decide +kernel
theorem dX12_attribute_147 : decode cX12_attribute 147 = .ok (.iastore, 1) := by decide +kernel
theorem dX12_attribute_148 : decode cX12_attribute 148 = .ok (.aload_n 0, 1) := by decide +kernel
theorem dX12_attribute_149 : decode cX12_attribute 149 = .ok (.getfield 43, 3) := by decide +kernel
theorem dX12_attribute_152 : decode cX12_attribute 152 = .ok (.sipush 600, 3) := by decide +kernel
theorem dX12_attribute_155 : decode cX12_attribute 155 = .ok (.aload_n 0, 1) := by decide +kernel
theorem dX12_attribute_156 : decode cX12_attribute 156 = .ok (.getfield 328, 3) := by decide +kernel
theorem dX12_attribute_159 : decode cX12_attribute 159 = .ok (.imul, 1) := by decide +kernel
theorem dX12_attribute_160 : decode cX12_attribute 160 = .ok (.iload 4, 2) := by decide +kernel
theorem dX12_attribute_162 : decode cX12_attribute 162 = .ok (.iadd, 1) := by decide +kernel
theorem dX12_attribute_163 : decode cX12_attribute 163 = .ok (.iload 6, 2) := by decide +kernel
theorem dX12_attribute_165 : decode cX12_attribute 165 = .ok (.iastore, 1) := by decide +kernel
theorem dX12_attribute_166 : decode cX12_attribute 166 = .ok (.aload_n 0, 1) := by decide +kernel
theorem dX12_attribute_167 : decode cX12_attribute 167 = .ok (.getfield 46, 3) := by decide +kernel
theorem dX12_attribute_170 : decode cX12_attribute 170 = .ok (.sipush 600, 3) := by decide +kernel
theorem dX12_attribute_173 : decode cX12_attribute 173 = .ok (.aload_n 0, 1) := by decide +kernel
theorem dX12_attribute_174 : decode cX12_attribute 174 = .ok (.getfield 328, 3) := by decide +kernel
theorem dX12_attribute_177 : decode cX12_attribute 177 = .ok (.imul, 1) := by decide +kernel
theorem dX12_attribute_178 : decode cX12_attribute 178 = .ok (.iload 4, 2) := by decide +kernel
theorem dX12_attribute_180 : decode cX12_attribute 180 = .ok (.iadd, 1) := by decide +kernel
theorem dX12_attribute_181 : decode cX12_attribute 181 = .ok (.aload_n 0, 1) := by decide +kernel
theorem dX12_attribute_182 : decode cX12_attribute 182 = .ok (.getfield 306, 3) := by decide +kernel
theorem dX12_attribute_185 : decode cX12_attribute 185 = .ok (.iastore, 1) := by decide +kernel
theorem dX12_attribute_186 : decode cX12_attribute 186 = .ok (.return_, 1) := by decide +kernel
theorem v_X12_attribute_0 {cs : Cs} {Q : Option AV → Mm → Prop} {MI ML : Nat → Nat → Int} {d e nw th x : Nat} {l1 : Int}
    (h : wp cs mX12_takeName KD (rI (GR d e nw th x) fun x1 m1 n1 => wp cs mX12_isGood KD (rI (GR d e nw th x) fun x11 m11 n11 => ((x11 = 0 → wp cs mX12_isGood KD (rI (GR d e nw th x) fun x44 m44 n44 => ((x44 = 0 → wp cs mX12_attribute KD Q 67 [some (vR 124), some (vI l1), some (vI x1), some (vI (m1 124 51)), none, none, none] [] (KD, m44, n44, (GR d e nw th x))) ∧ (x44 ≠ 0 → wp cs mX12_attributesOf KD (rI (GR d e nw th x) fun x52 m52 n52 => ((x52 = 8 → wp cs mX12_fail KD (rV (GR d e nw th x) fun m64 n64 => wp cs mX12_attribute KD Q 67 [some (vR 124), some (vI l1), some (vI x1), some (vI (m1 124 51)), none, none, none] [] (KD, m64, n64, (GR d e nw th x))) 0 (padL [vR 124, vI (-3), vI x1] 3) [] (KD, m52, n52, (GR d e nw th x))) ∧ (x52 ≠ 8 → wp cs mX12_attribute KD Q 67 [some (vR 124), some (vI l1), some (vI x1), some (vI (m1 124 51)), none, none, none] [] (KD, m52, n52, (GR d e nw th x))))) 0 (padL [vR 124, vI l1] 4) [] (KD, m44, n44, (GR d e nw th x))))) 0 (padL [vR 124] 1) [] (KD, m11, n11, (GR d e nw th x))) ∧ (x11 ≠ 0 → (-2147483648 ≤ 6000 * (m11 124 8) ∧ 6000 * (m11 124 8) < 2147483648) ∧ (-2147483648 ≤ (6000 * (m11 124 8)) + x1 ∧ (6000 * (m11 124 8)) + x1 < 2147483648) ∧ wp cs mX12_hasAttribute KD (rI (GR d e nw th x) fun x30 m30 n30 => ((x30 = 0 → wp cs mX12_isGood KD (rI (GR d e nw th x) fun x44 m44 n44 => ((x44 = 0 → wp cs mX12_attribute KD Q 67 [some (vR 124), some (vI l1), some (vI x1), some (vI (m1 124 51)), none, none, none] [] (KD, m44, n44, (GR d e nw th x))) ∧ (x44 ≠ 0 → wp cs mX12_attributesOf KD (rI (GR d e nw th x) fun x52 m52 n52 => ((x52 = 8 → wp cs mX12_fail KD (rV (GR d e nw th x) fun m64 n64 => wp cs mX12_attribute KD Q 67 [some (vR 124), some (vI l1), some (vI x1), some (vI (m1 124 51)), none, none, none] [] (KD, m64, n64, (GR d e nw th x))) 0 (padL [vR 124, vI (-3), vI x1] 3) [] (KD, m52, n52, (GR d e nw th x))) ∧ (x52 ≠ 8 → wp cs mX12_attribute KD Q 67 [some (vR 124), some (vI l1), some (vI x1), some (vI (m1 124 51)), none, none, none] [] (KD, m52, n52, (GR d e nw th x))))) 0 (padL [vR 124, vI l1] 4) [] (KD, m44, n44, (GR d e nw th x))))) 0 (padL [vR 124] 1) [] (KD, m30, n30, (GR d e nw th x))) ∧ (x30 ≠ 0 → wp cs mX12_fail KD (rV (GR d e nw th x) fun m40 n40 => wp cs mX12_isGood KD (rI (GR d e nw th x) fun x44 m44 n44 => ((x44 = 0 → wp cs mX12_attribute KD Q 67 [some (vR 124), some (vI l1), some (vI x1), some (vI (m1 124 51)), none, none, none] [] (KD, m44, n44, (GR d e nw th x))) ∧ (x44 ≠ 0 → wp cs mX12_attributesOf KD (rI (GR d e nw th x) fun x52 m52 n52 => ((x52 = 8 → wp cs mX12_fail KD (rV (GR d e nw th x) fun m64 n64 => wp cs mX12_attribute KD Q 67 [some (vR 124), some (vI l1), some (vI x1), some (vI (m1 124 51)), none, none, none] [] (KD, m64, n64, (GR d e nw th x))) 0 (padL [vR 124, vI (-3), vI x1] 3) [] (KD, m52, n52, (GR d e nw th x))) ∧ (x52 ≠ 8 → wp cs mX12_attribute KD Q 67 [some (vR 124), some (vI l1), some (vI x1), some (vI (m1 124 51)), none, none, none] [] (KD, m52, n52, (GR d e nw th x))))) 0 (padL [vR 124, vI l1] 4) [] (KD, m44, n44, (GR d e nw th x))))) 0 (padL [vR 124] 1) [] (KD, m40, n40, (GR d e nw th x))) 0 (padL [vR 124, vI (-2), vI x1] 3) [] (KD, m30, n30, (GR d e nw th x))))) 0 (padL [vR 124, vI l1, vI ((6000 * (m11 124 8)) + x1), vI (m1 124 51)] 6) [] (KD, m11, n11, (GR d e nw th x))))) 0 (padL [vR 124] 1) [] (KD, m1, n1, (GR d e nw th x))) 0 (padL [vR 124] 2) [] (KD, MI, ML, (GR d e nw th x))) :
    wp cs mX12_attribute KD Q 0 (padL [vR 124, vI l1] 7) [] (KD, MI, ML, (GR d e nw th x)) := by
  refine wp_L (L' := [some (vR 124), some (vI l1), none, none, none, none, none]) rfl ?_
  refine wp_aload_n dX12_attribute_0 rfl rfl (by first | exact Or.inl (by decide) | exact Or.inl (by omega) | exact Or.inr (by decide) | exact Or.inr (by omega)) ?_
  refine wp_cVq (n := 0) (mt' := mX12_takeName) (as := []) (rest := []) _ dX12_attribute_1 lX12_351 kX12_takeName vX12_takeName (by decide) (by decide +kernel) rfl (Nat.le_of_ble_eq_true rfl) (by decide) rfl rfl rfl (Nat.le_of_ble_eq_true rfl) (fun hM hS => h) (fun r M' hq hM => ?_)
  obtain ⟨x1, m1, n1, rfl, rfl, h⟩ := rI_out hq
  refine wp_istore_n dX12_attribute_4 rfl (by decide) (wp_L (L' := [some (vR 124), some (vI l1), some (vI x1), none, none, none, none]) rfl ?_)
  refine wp_aload_n dX12_attribute_5 rfl rfl (by first | exact Or.inl (by decide) | exact Or.inl (by omega) | exact Or.inr (by decide) | exact Or.inr (by omega)) ?_
  refine wp_getI dX12_attribute_6 fX12_306 rfl (by decide) ?_
  refine wp_istore_n dX12_attribute_9 rfl (by decide) (wp_L (L' := [some (vR 124), some (vI l1), some (vI x1), some (vI (m1 124 51)), none, none, none]) rfl ?_)
  refine wp_aload_n dX12_attribute_10 rfl rfl (by first | exact Or.inl (by decide) | exact Or.inl (by omega) | exact Or.inr (by decide) | exact Or.inr (by omega)) ?_
  refine wp_cVq (n := 0) (mt' := mX12_isGood) (as := []) (rest := []) _ dX12_attribute_11 lX12_289 kX12_isGood vX12_isGood (by decide) (by decide +kernel) rfl (Nat.le_of_ble_eq_true rfl) (by decide) rfl rfl rfl (Nat.le_of_ble_eq_true rfl) (fun hM hS => h) (fun r M' hq hM => ?_)
  obtain ⟨x11, m11, n11, rfl, rfl, h⟩ := rI_out hq
  refine wp_if_eq (tgt := 43) dX12_attribute_14 (by decide) (fun h14 => ?_) (fun h14 => ?_)
  · replace h := h.1 h14
    refine wp_aload_n dX12_attribute_43 rfl rfl (by first | exact Or.inl (by decide) | exact Or.inl (by omega) | exact Or.inr (by decide) | exact Or.inr (by omega)) ?_
    refine wp_cVq (n := 0) (mt' := mX12_isGood) (as := []) (rest := []) _ dX12_attribute_44 lX12_289 kX12_isGood vX12_isGood (by decide) (by decide +kernel) rfl (Nat.le_of_ble_eq_true rfl) (by decide) rfl rfl rfl (Nat.le_of_ble_eq_true rfl) (fun hM hS => h) (fun r M' hq hM => ?_)
    obtain ⟨x44, m44, n44, rfl, rfl, h⟩ := rI_out hq
    refine wp_if_eq (tgt := 67) dX12_attribute_47 (by decide) (fun h47 => ?_) (fun h47 => ?_)
    · replace h := h.1 h47
      exact h
    · replace h := h.2 h47
      refine wp_aload_n dX12_attribute_50 rfl rfl (by first | exact Or.inl (by decide) | exact Or.inl (by omega) | exact Or.inr (by decide) | exact Or.inr (by omega)) ?_
      refine wp_iload_n dX12_attribute_51 rfl rfl ?_
      refine wp_cVq (n := 1) (mt' := mX12_attributesOf) (as := [vI l1]) (rest := []) _ dX12_attribute_52 lX12_462 kX12_attributesOf vX12_attributesOf (by decide) (by decide +kernel) rfl (Nat.le_of_ble_eq_true rfl) (by decide) rfl rfl rfl (Nat.le_of_ble_eq_true rfl) (fun hM hS => h) (fun r M' hq hM => ?_)
      obtain ⟨x52, m52, n52, rfl, rfl, h⟩ := rI_out hq
      refine wp_bipush dX12_attribute_55 (by decide +kernel) (by decide) ?_
      refine wp_icmp_ne (tgt := 67) dX12_attribute_57 (by decide) (fun h57 => ?_) (fun h57 => ?_)
      · replace h := h.2 h57
        exact h
      · replace h := h.1 h57
        refine wp_aload_n dX12_attribute_60 rfl rfl (by first | exact Or.inl (by decide) | exact Or.inl (by omega) | exact Or.inr (by decide) | exact Or.inr (by omega)) ?_
        refine wp_bipush dX12_attribute_61 (by decide +kernel) (by decide) ?_
        refine wp_iload_n dX12_attribute_63 rfl rfl ?_
        refine wp_cVq (n := 2) (mt' := mX12_fail) (as := [vI (-3), vI x1]) (rest := []) _ dX12_attribute_64 lX12_293 kX12_fail vX12_fail (by decide) (by decide +kernel) rfl (Nat.le_of_ble_eq_true rfl) (by decide) rfl rfl rfl (Nat.le_of_ble_eq_true rfl) (fun hM hS => h) (fun r M' hq hM => ?_)
        obtain ⟨m64, n64, rfl, rfl, h⟩ := rV_out hq
        exact h
  · replace h := h.2 h14
    refine wp_aload_n dX12_attribute_17 rfl rfl (by first | exact Or.inl (by decide) | exact Or.inl (by omega) | exact Or.inr (by decide) | exact Or.inr (by omega)) ?_
    refine wp_iload_n dX12_attribute_18 rfl rfl ?_
    refine wp_sipush dX12_attribute_19 (by decide +kernel) (by decide) ?_
    refine wp_aload_n dX12_attribute_22 rfl rfl (by first | exact Or.inl (by decide) | exact Or.inl (by omega) | exact Or.inr (by decide) | exact Or.inr (by omega)) ?_
    refine wp_getI dX12_attribute_23 fX12_328 rfl (by decide) ?_
    have c0 := h.1
    replace h := h.2
    refine wp_imulr dX12_attribute_26 c0 ?_
    refine wp_iload_n dX12_attribute_27 rfl rfl ?_
    refine wp_pc (pc' := 28) rfl ?_
    have c1 := h.1
    replace h := h.2
    refine wp_iaddr dX12_attribute_28 c1 ?_
    refine wp_iload_n dX12_attribute_29 rfl rfl ?_
    refine wp_cVq (n := 3) (mt' := mX12_hasAttribute) (as := [vI l1, vI ((6000 * (m11 124 8)) + x1), vI (m1 124 51)]) (rest := []) _ dX12_attribute_30 lX12_458 kX12_hasAttribute vX12_hasAttribute (by decide) (by decide +kernel) rfl (Nat.le_of_ble_eq_true rfl) (by decide) rfl rfl rfl (Nat.le_of_ble_eq_true rfl) (fun hM hS => h) (fun r M' hq hM => ?_)
    obtain ⟨x30, m30, n30, rfl, rfl, h⟩ := rI_out hq
    refine wp_if_eq (tgt := 43) dX12_attribute_33 (by decide) (fun h33 => ?_) (fun h33 => ?_)
    · replace h := h.1 h33
      refine wp_aload_n dX12_attribute_43 rfl rfl (by first | exact Or.inl (by decide) | exact Or.inl (by omega) | exact Or.inr (by decide) | exact Or.inr (by omega)) ?_
      refine wp_cVq (n := 0) (mt' := mX12_isGood) (as := []) (rest := []) _ dX12_attribute_44 lX12_289 kX12_isGood vX12_isGood (by decide) (by decide +kernel) rfl (Nat.le_of_ble_eq_true rfl) (by decide) rfl rfl rfl (Nat.le_of_ble_eq_true rfl) (fun hM hS => h) (fun r M' hq hM => ?_)
      obtain ⟨x44, m44, n44, rfl, rfl, h⟩ := rI_out hq
      refine wp_if_eq (tgt := 67) dX12_attribute_47 (by decide) (fun h47 => ?_) (fun h47 => ?_)
      · replace h := h.1 h47
        exact h
      · replace h := h.2 h47
        refine wp_aload_n dX12_attribute_50 rfl rfl (by first | exact Or.inl (by decide) | exact Or.inl (by omega) | exact Or.inr (by decide) | exact Or.inr (by omega)) ?_
        refine wp_iload_n dX12_attribute_51 rfl rfl ?_
        refine wp_cVq (n := 1) (mt' := mX12_attributesOf) (as := [vI l1]) (rest := []) _ dX12_attribute_52 lX12_462 kX12_attributesOf vX12_attributesOf (by decide) (by decide +kernel) rfl (Nat.le_of_ble_eq_true rfl) (by decide) rfl rfl rfl (Nat.le_of_ble_eq_true rfl) (fun hM hS => h) (fun r M' hq hM => ?_)
        obtain ⟨x52, m52, n52, rfl, rfl, h⟩ := rI_out hq
        refine wp_bipush dX12_attribute_55 (by decide +kernel) (by decide) ?_
        refine wp_icmp_ne (tgt := 67) dX12_attribute_57 (by decide) (fun h57 => ?_) (fun h57 => ?_)
        · replace h := h.2 h57
          exact h
        · replace h := h.1 h57
          refine wp_aload_n dX12_attribute_60 rfl rfl (by first | exact Or.inl (by decide) | exact Or.inl (by omega) | exact Or.inr (by decide) | exact Or.inr (by omega)) ?_
          refine wp_bipush dX12_attribute_61 (by decide +kernel) (by decide) ?_
          refine wp_iload_n dX12_attribute_63 rfl rfl ?_
          refine wp_cVq (n := 2) (mt' := mX12_fail) (as := [vI (-3), vI x1]) (rest := []) _ dX12_attribute_64 lX12_293 kX12_fail vX12_fail (by decide) (by decide +kernel) rfl (Nat.le_of_ble_eq_true rfl) (by decide) rfl rfl rfl (Nat.le_of_ble_eq_true rfl) (fun hM hS => h) (fun r M' hq hM => ?_)
          obtain ⟨m64, n64, rfl, rfl, h⟩ := rV_out hq
          exact h
    · replace h := h.2 h33
      refine wp_aload_n dX12_attribute_36 rfl rfl (by first | exact Or.inl (by decide) | exact Or.inl (by omega) | exact Or.inr (by decide) | exact Or.inr (by omega)) ?_
      refine wp_bipush dX12_attribute_37 (by decide +kernel) (by decide) ?_
      refine wp_iload_n dX12_attribute_39 rfl rfl ?_
      refine wp_cVq (n := 2) (mt' := mX12_fail) (as := [vI (-2), vI x1]) (rest := []) _ dX12_attribute_40 lX12_293 kX12_fail vX12_fail (by decide) (by decide +kernel) rfl (Nat.le_of_ble_eq_true rfl) (by decide) rfl rfl rfl (Nat.le_of_ble_eq_true rfl) (fun hM hS => h) (fun r M' hq hM => ?_)
      obtain ⟨m40, n40, rfl, rfl, h⟩ := rV_out hq
      refine wp_aload_n dX12_attribute_43 rfl rfl (by first | exact Or.inl (by decide) | exact Or.inl (by omega) | exact Or.inr (by decide) | exact Or.inr (by omega)) ?_
      refine wp_cVq (n := 0) (mt' := mX12_isGood) (as := []) (rest := []) _ dX12_attribute_44 lX12_289 kX12_isGood vX12_isGood (by decide) (by decide +kernel) rfl (Nat.le_of_ble_eq_true rfl) (by decide) rfl rfl rfl (Nat.le_of_ble_eq_true rfl) (fun hM hS => h) (fun r M' hq hM => ?_)
      obtain ⟨x44, m44, n44, rfl, rfl, h⟩ := rI_out hq
      refine wp_if_eq (tgt := 67) dX12_attribute_47 (by decide) (fun h47 => ?_) (fun h47 => ?_)
      · replace h := h.1 h47
        exact h
      · replace h := h.2 h47
        refine wp_aload_n dX12_attribute_50 rfl rfl (by first | exact Or.inl (by decide) | exact Or.inl (by omega) | exact Or.inr (by decide) | exact Or.inr (by omega)) ?_
        refine wp_iload_n dX12_attribute_51 rfl rfl ?_
        refine wp_cVq (n := 1) (mt' := mX12_attributesOf) (as := [vI l1]) (rest := []) _ dX12_attribute_52 lX12_462 kX12_attributesOf vX12_attributesOf (by decide) (by decide +kernel) rfl (Nat.le_of_ble_eq_true rfl) (by decide) rfl rfl rfl (Nat.le_of_ble_eq_true rfl) (fun hM hS => h) (fun r M' hq hM => ?_)
        obtain ⟨x52, m52, n52, rfl, rfl, h⟩ := rI_out hq
        refine wp_bipush dX12_attribute_55 (by decide +kernel) (by decide) ?_
        refine wp_icmp_ne (tgt := 67) dX12_attribute_57 (by decide) (fun h57 => ?_) (fun h57 => ?_)
        · replace h := h.2 h57
          exact h
        · replace h := h.1 h57
          refine wp_aload_n dX12_attribute_60 rfl rfl (by first | exact Or.inl (by decide) | exact Or.inl (by omega) | exact Or.inr (by decide) | exact Or.inr (by omega)) ?_
          refine wp_bipush dX12_attribute_61 (by decide +kernel) (by decide) ?_
          refine wp_iload_n dX12_attribute_63 rfl rfl ?_
          refine wp_cVq (n := 2) (mt' := mX12_fail) (as := [vI (-3), vI x1]) (rest := []) _ dX12_attribute_64 lX12_293 kX12_fail vX12_fail (by decide) (by decide +kernel) rfl (Nat.le_of_ble_eq_true rfl) (by decide) rfl rfl rfl (Nat.le_of_ble_eq_true rfl) (fun hM hS => h) (fun r M' hq hM => ?_)
          obtain ⟨m64, n64, rfl, rfl, h⟩ := rV_out hq
          exact h
theorem v_X12_attribute_67 {cs : Cs} {Q : Option AV → Mm → Prop} {MI ML : Nat → Nat → Int} {d e nw th x : Nat} {l1 l2 l3 : Int}
    (h : wp cs mX12_newNode KD (rI (GR d e nw th x) fun x70 m70 n70 => wp cs mX12_isGood KD (rI (GR d e nw th x) fun x76 m76 n76 => ((x76 = 0 → Q none (m76, n76, (GR d e nw th x))) ∧ (x76 ≠ 0 → wp cs mX12_maybeS KD (rV (GR d e nw th x) fun m84 n84 => wp cs mX12_passes KD (rI (GR d e nw th x) fun x90 m90 n90 => wp cs mX12_maybeS KD (rV (GR d e nw th x) fun m96 n96 => wp cs mX12_value KD (rI (GR d e nw th x) fun x100 m100 n100 => (-2147483648 ≤ 600 * (m100 124 8) ∧ 600 * (m100 124 8) < 2147483648) ∧ (-2147483648 ≤ (600 * (m100 124 8)) + x70 ∧ (600 * (m100 124 8)) + x70 < 2147483648) ∧ (-2147483648 ≤ 6000 * (m100 124 8) ∧ 6000 * (m100 124 8) < 2147483648) ∧ (-2147483648 ≤ (6000 * (m100 124 8)) + l2 ∧ (6000 * (m100 124 8)) + l2 < 2147483648) ∧ (0 ≤ ((600 * (m100 124 8)) + x70) ∧ ((600 * (m100 124 8)) + x70) < 1200) ∧ ∀ m130, m130 = up2 m100 132 ((600 * (m100 124 8)) + x70).toNat ((6000 * (m100 124 8)) + l2) → (-2147483648 ≤ 600 * (m130 124 8) ∧ 600 * (m130 124 8) < 2147483648) ∧ (-2147483648 ≤ (600 * (m130 124 8)) + x70 ∧ (600 * (m130 124 8)) + x70 < 2147483648) ∧ (0 ≤ ((600 * (m130 124 8)) + x70) ∧ ((600 * (m130 124 8)) + x70) < 1200) ∧ ∀ m147, m147 = up2 m130 133 ((600 * (m130 124 8)) + x70).toNat l3 → (-2147483648 ≤ 600 * (m147 124 8) ∧ 600 * (m147 124 8) < 2147483648) ∧ (-2147483648 ≤ (600 * (m147 124 8)) + x70 ∧ (600 * (m147 124 8)) + x70 < 2147483648) ∧ (0 ≤ ((600 * (m147 124 8)) + x70) ∧ ((600 * (m147 124 8)) + x70) < 1200) ∧ ∀ m165, m165 = up2 m147 134 ((600 * (m147 124 8)) + x70).toNat x100 → (-2147483648 ≤ 600 * (m165 124 8) ∧ 600 * (m165 124 8) < 2147483648) ∧ (-2147483648 ≤ (600 * (m165 124 8)) + x70 ∧ (600 * (m165 124 8)) + x70 < 2147483648) ∧ (0 ≤ ((600 * (m165 124 8)) + x70) ∧ ((600 * (m165 124 8)) + x70) < 1200) ∧ ∀ m185, m185 = up2 m165 135 ((600 * (m165 124 8)) + x70).toNat (m165 124 51) → Q none (m185, n100, (GR d e nw th x))) 0 (padL [vR 124] 5) [] (KD, m96, n96, (GR d e nw th x))) 0 (padL [vR 124] 1) [] (KD, m90, n90, (GR d e nw th x))) 0 (padL [vR 124, vI 61] 2) [] (KD, m84, n84, (GR d e nw th x))) 0 (padL [vR 124] 1) [] (KD, m76, n76, (GR d e nw th x))))) 0 (padL [vR 124] 1) [] (KD, m70, n70, (GR d e nw th x))) 0 (padL [vR 124, vI 2, vI l2] 4) [] (KD, MI, ML, (GR d e nw th x))) :
    wp cs mX12_attribute KD Q 67 [some (vR 124), some (vI l1), some (vI l2), some (vI l3), none, none, none] [] (KD, MI, ML, (GR d e nw th x)) := by
  refine wp_aload_n dX12_attribute_67 rfl rfl (by first | exact Or.inl (by decide) | exact Or.inl (by omega) | exact Or.inr (by decide) | exact Or.inr (by omega)) ?_
  refine wp_iconst dX12_attribute_68 (by decide) ?_
  refine wp_iload_n dX12_attribute_69 rfl rfl ?_
  refine wp_cVq (n := 2) (mt' := mX12_newNode) (as := [vI 2, vI l2]) (rest := []) _ dX12_attribute_70 lX12_446 kX12_newNode vX12_newNode (by decide) (by decide +kernel) rfl (Nat.le_of_ble_eq_true rfl) (by decide) rfl rfl rfl (Nat.le_of_ble_eq_true rfl) (fun hM hS => h) (fun r M' hq hM => ?_)
  obtain ⟨x70, m70, n70, rfl, rfl, h⟩ := rI_out hq
  refine wp_istore dX12_attribute_73 (by decide) (wp_L (L' := [some (vR 124), some (vI l1), some (vI l2), some (vI l3), some (vI x70), none, none]) rfl ?_)
  refine wp_aload_n dX12_attribute_75 rfl rfl (by first | exact Or.inl (by decide) | exact Or.inl (by omega) | exact Or.inr (by decide) | exact Or.inr (by omega)) ?_
  refine wp_cVq (n := 0) (mt' := mX12_isGood) (as := []) (rest := []) _ dX12_attribute_76 lX12_289 kX12_isGood vX12_isGood (by decide) (by decide +kernel) rfl (Nat.le_of_ble_eq_true rfl) (by decide) rfl rfl rfl (Nat.le_of_ble_eq_true rfl) (fun hM hS => h) (fun r M' hq hM => ?_)
  obtain ⟨x76, m76, n76, rfl, rfl, h⟩ := rI_out hq
  refine wp_if_ne (tgt := 83) dX12_attribute_79 (by decide) (fun h79 => ?_) (fun h79 => ?_)
  · replace h := h.2 h79
    refine wp_aload_n dX12_attribute_83 rfl rfl (by first | exact Or.inl (by decide) | exact Or.inl (by omega) | exact Or.inr (by decide) | exact Or.inr (by omega)) ?_
    refine wp_cVq (n := 0) (mt' := mX12_maybeS) (as := []) (rest := []) _ dX12_attribute_84 lX12_300 kX12_maybeS vX12_maybeS (by decide) (by decide +kernel) rfl (Nat.le_of_ble_eq_true rfl) (by decide) rfl rfl rfl (Nat.le_of_ble_eq_true rfl) (fun hM hS => h) (fun r M' hq hM => ?_)
    obtain ⟨m84, n84, rfl, rfl, h⟩ := rV_out hq
    refine wp_aload_n dX12_attribute_87 rfl rfl (by first | exact Or.inl (by decide) | exact Or.inl (by omega) | exact Or.inr (by decide) | exact Or.inr (by omega)) ?_
    refine wp_bipush dX12_attribute_88 (by decide +kernel) (by decide) ?_
    refine wp_cVq (n := 1) (mt' := mX12_passes) (as := [vI 61]) (rest := []) _ dX12_attribute_90 lX12_340 kX12_passes vX12_passes (by decide) (by decide +kernel) rfl (Nat.le_of_ble_eq_true rfl) (by decide) rfl rfl rfl (Nat.le_of_ble_eq_true rfl) (fun hM hS => h) (fun r M' hq hM => ?_)
    obtain ⟨x90, m90, n90, rfl, rfl, h⟩ := rI_out hq
    refine wp_istore dX12_attribute_93 (by decide) (wp_L (L' := [some (vR 124), some (vI l1), some (vI l2), some (vI l3), some (vI x70), some (vI x90), none]) rfl ?_)
    refine wp_aload_n dX12_attribute_95 rfl rfl (by first | exact Or.inl (by decide) | exact Or.inl (by omega) | exact Or.inr (by decide) | exact Or.inr (by omega)) ?_
    refine wp_cVq (n := 0) (mt' := mX12_maybeS) (as := []) (rest := []) _ dX12_attribute_96 lX12_300 kX12_maybeS vX12_maybeS (by decide) (by decide +kernel) rfl (Nat.le_of_ble_eq_true rfl) (by decide) rfl rfl rfl (Nat.le_of_ble_eq_true rfl) (fun hM hS => h) (fun r M' hq hM => ?_)
    obtain ⟨m96, n96, rfl, rfl, h⟩ := rV_out hq
    refine wp_aload_n dX12_attribute_99 rfl rfl (by first | exact Or.inl (by decide) | exact Or.inl (by omega) | exact Or.inr (by decide) | exact Or.inr (by omega)) ?_
    refine wp_cVq (n := 0) (mt' := mX12_value) (as := []) (rest := []) _ dX12_attribute_100 lX12_440 kX12_value vX12_value (by decide) (by decide +kernel) rfl (Nat.le_of_ble_eq_true rfl) (by decide) rfl rfl rfl (Nat.le_of_ble_eq_true rfl) (fun hM hS => h) (fun r M' hq hM => ?_)
    obtain ⟨x100, m100, n100, rfl, rfl, h⟩ := rI_out hq
    refine wp_istore dX12_attribute_103 (by decide) (wp_L (L' := [some (vR 124), some (vI l1), some (vI l2), some (vI l3), some (vI x70), some (vI x90), some (vI x100)]) rfl ?_)
    refine wp_aload_n dX12_attribute_105 rfl rfl (by first | exact Or.inl (by decide) | exact Or.inl (by omega) | exact Or.inr (by decide) | exact Or.inr (by omega)) ?_
    refine wp_getR dX12_attribute_106 fX12_37 rfl (by decide) ?_
    refine wp_topR (x' := 132) rfl ?_
    refine wp_sipush dX12_attribute_109 (by decide +kernel) (by decide) ?_
    refine wp_aload_n dX12_attribute_112 rfl rfl (by first | exact Or.inl (by decide) | exact Or.inl (by omega) | exact Or.inr (by decide) | exact Or.inr (by omega)) ?_
    refine wp_getI dX12_attribute_113 fX12_328 rfl (by decide) ?_
    have c0 := h.1
    replace h := h.2
    refine wp_imulr dX12_attribute_116 c0 ?_
    refine wp_pc (pc' := 117) rfl ?_
    refine wp_iload dX12_attribute_117 rfl ?_
    have c1 := h.1
    replace h := h.2
    refine wp_iaddr dX12_attribute_119 c1 ?_
    refine wp_sipush dX12_attribute_120 (by decide +kernel) (by decide) ?_
    refine wp_aload_n dX12_attribute_123 rfl rfl (by first | exact Or.inl (by decide) | exact Or.inl (by omega) | exact Or.inr (by decide) | exact Or.inr (by omega)) ?_
    refine wp_getI dX12_attribute_124 fX12_328 rfl (by decide) ?_
    have c2 := h.1
    replace h := h.2
    refine wp_imulr dX12_attribute_127 c2 ?_
    refine wp_iload_n dX12_attribute_128 rfl rfl ?_
    have c3 := h.1
    replace h := h.2
    refine wp_iaddr dX12_attribute_129 c3 ?_
    refine wp_pc (pc' := 130) rfl ?_
    have c4 := h.1
    replace h := h.2
    refine wp_iast dX12_attribute_130 rfl (by decide) c4 ?_
    refine wp_gI (fun m130 e130 => ?_)
    replace h := h m130 e130
    refine wp_aload_n dX12_attribute_131 rfl rfl (by first | exact Or.inl (by decide) | exact Or.inl (by omega) | exact Or.inr (by decide) | exact Or.inr (by omega)) ?_
    refine wp_getR dX12_attribute_132 fX12_40 rfl (by decide) ?_
    refine wp_topR (x' := 133) rfl ?_
    refine wp_sipush dX12_attribute_135 (by decide +kernel) (by decide) ?_
    refine wp_aload_n dX12_attribute_138 rfl rfl (by first | exact Or.inl (by decide) | exact Or.inl (by omega) | exact Or.inr (by decide) | exact Or.inr (by omega)) ?_
    refine wp_getI dX12_attribute_139 fX12_328 rfl (by decide) ?_
    have c5 := h.1
    replace h := h.2
    refine wp_imulr dX12_attribute_142 c5 ?_
    refine wp_iload dX12_attribute_143 rfl ?_
    refine wp_pc (pc' := 145) rfl ?_
    have c6 := h.1
    replace h := h.2
    refine wp_iaddr dX12_attribute_145 c6 ?_
    refine wp_iload_n dX12_attribute_146 rfl rfl ?_
    have c7 := h.1
    replace h := h.2
    refine wp_iast dX12_attribute_147 rfl (by decide) c7 ?_
    refine wp_gI (fun m147 e147 => ?_)
    replace h := h m147 e147
    refine wp_aload_n dX12_attribute_148 rfl rfl (by first | exact Or.inl (by decide) | exact Or.inl (by omega) | exact Or.inr (by decide) | exact Or.inr (by omega)) ?_
    refine wp_getR dX12_attribute_149 fX12_43 rfl (by decide) ?_
    refine wp_topR (x' := 134) rfl ?_
    refine wp_sipush dX12_attribute_152 (by decide +kernel) (by decide) ?_
    refine wp_aload_n dX12_attribute_155 rfl rfl (by first | exact Or.inl (by decide) | exact Or.inl (by omega) | exact Or.inr (by decide) | exact Or.inr (by omega)) ?_
    refine wp_getI dX12_attribute_156 fX12_328 rfl (by decide) ?_
    refine wp_pc (pc' := 159) rfl ?_
    have c8 := h.1
    replace h := h.2
    refine wp_imulr dX12_attribute_159 c8 ?_
    refine wp_iload dX12_attribute_160 rfl ?_
    have c9 := h.1
    replace h := h.2
    refine wp_iaddr dX12_attribute_162 c9 ?_
    refine wp_iload dX12_attribute_163 rfl ?_
    have c10 := h.1
    replace h := h.2
    refine wp_iast dX12_attribute_165 rfl (by decide) c10 ?_
    refine wp_gI (fun m165 e165 => ?_)
    replace h := h m165 e165
    refine wp_aload_n dX12_attribute_166 rfl rfl (by first | exact Or.inl (by decide) | exact Or.inl (by omega) | exact Or.inr (by decide) | exact Or.inr (by omega)) ?_
    refine wp_getR dX12_attribute_167 fX12_46 rfl (by decide) ?_
    refine wp_topR (x' := 135) rfl ?_
    refine wp_sipush dX12_attribute_170 (by decide +kernel) (by decide) ?_
    refine wp_pc (pc' := 173) rfl ?_
    refine wp_aload_n dX12_attribute_173 rfl rfl (by first | exact Or.inl (by decide) | exact Or.inl (by omega) | exact Or.inr (by decide) | exact Or.inr (by omega)) ?_
    refine wp_getI dX12_attribute_174 fX12_328 rfl (by decide) ?_
    have c11 := h.1
    replace h := h.2
    refine wp_imulr dX12_attribute_177 c11 ?_
    refine wp_iload dX12_attribute_178 rfl ?_
    have c12 := h.1
    replace h := h.2
    refine wp_iaddr dX12_attribute_180 c12 ?_
    refine wp_aload_n dX12_attribute_181 rfl rfl (by first | exact Or.inl (by decide) | exact Or.inl (by omega) | exact Or.inr (by decide) | exact Or.inr (by omega)) ?_
    refine wp_getI dX12_attribute_182 fX12_306 rfl (by decide) ?_
    have c13 := h.1
    replace h := h.2
    refine wp_iast dX12_attribute_185 rfl (by decide) c13 ?_
    refine wp_gI (fun m185 e185 => ?_)
    replace h := h m185 e185
    refine wp_pc (pc' := 186) rfl ?_
    exact wp_vret dX12_attribute_186 rfl (fun _ => h)
  · replace h := h.1 h79
    exact wp_vret dX12_attribute_82 rfl (fun _ => h)
theorem dX12_defaultsOf_0 : decode cX12_defaultsOf 0 = .ok (.sipush 800, 3) := by decide +kernel
theorem dX12_defaultsOf_3 : decode cX12_defaultsOf 3 = .ok (.aload_n 0, 1) := by decide +kernel
theorem dX12_defaultsOf_4 : decode cX12_defaultsOf 4 = .ok (.getfield 328, 3) := by decide +kernel
theorem dX12_defaultsOf_7 : decode cX12_defaultsOf 7 = .ok (.imul, 1) := by decide +kernel
theorem dX12_defaultsOf_8 : decode cX12_defaultsOf 8 = .ok (.istore_n 3, 1) := by decide +kernel
theorem dX12_defaultsOf_9 : decode cX12_defaultsOf 9 = .ok (.iload_n 3, 1) := by decide +kernel
theorem dX12_defaultsOf_10 : decode cX12_defaultsOf 10 = .ok (.sipush 800, 3) := by decide +kernel
theorem dX12_defaultsOf_13 : decode cX12_defaultsOf 13 = .ok (.aload_n 0, 1) := by decide +kernel
theorem dX12_defaultsOf_14 : decode cX12_defaultsOf 14 = .ok (.getfield 328, 3) := by decide +kernel
theorem dX12_defaultsOf_17 : decode cX12_defaultsOf 17 = .ok (.imul, 1) := by decide +kernel
theorem dX12_defaultsOf_18 : decode cX12_defaultsOf 18 = .ok (.aload_n 0, 1) := by decide +kernel
theorem dX12_defaultsOf_19 : decode cX12_defaultsOf 19 = .ok (.getfield 104, 3) := by decide +kernel
theorem dX12_defaultsOf_22 : decode cX12_defaultsOf 22 = .ok (.aload_n 0, 1) := by decide +kernel
theorem dX12_defaultsOf_23 : decode cX12_defaultsOf 23 = .ok (.getfield 328, 3) := by decide +kernel
theorem dX12_defaultsOf_26 : decode cX12_defaultsOf 26 = .ok (.iaload, 1) := by decide +kernel
theorem dX12_defaultsOf_27 : decode cX12_defaultsOf 27 = .ok (.iadd, 1) := by decide +kernel
theorem dX12_defaultsOf_28 : decode cX12_defaultsOf 28 = .ok (.if_icmp .ge 204, 3) := by decide +kernel
theorem dX12_defaultsOf_31 : decode cX12_defaultsOf 31 = .ok (.aload_n 0, 1) := by decide +kernel
theorem dX12_defaultsOf_32 : decode cX12_defaultsOf 32 = .ok (.invokevirtual 289, 3) := by decide +kernel
theorem dX12_defaultsOf_35 : decode cX12_defaultsOf 35 = .ok (.ifCond .eq 197, 3) := by decide +kernel
theorem dX12_defaultsOf_38 : decode cX12_defaultsOf 38 = .ok (.aload_n 0, 1) := by decide +kernel
theorem dX12_defaultsOf_39 : decode cX12_defaultsOf 39 = .ok (.aload_n 0, 1) := by decide +kernel
theorem dX12_defaultsOf_40 : decode cX12_defaultsOf 40 = .ok (.getfield 107, 3) := by decide +kernel
theorem dX12_defaultsOf_43 : decode cX12_defaultsOf 43 = .ok (.iload_n 3, 1) := by decide +kernel
theorem dX12_defaultsOf_44 : decode cX12_defaultsOf 44 = .ok (.iaload, 1) := by decide +kernel
theorem dX12_defaultsOf_45 : decode cX12_defaultsOf 45 = .ok (.aload_n 0, 1) := by decide +kernel
theorem dX12_defaultsOf_46 : decode cX12_defaultsOf 46 = .ok (.getfield 110, 3) := by decide +kernel
theorem dX12_defaultsOf_49 : decode cX12_defaultsOf 49 = .ok (.iload_n 3, 1) := by decide +kernel
theorem dX12_defaultsOf_50 : decode cX12_defaultsOf 50 = .ok (.iaload, 1) := by decide +kernel
theorem dX12_defaultsOf_51 : decode cX12_defaultsOf 51 = .ok (.aload_n 0, 1) := by decide +kernel
theorem dX12_defaultsOf_52 : decode cX12_defaultsOf 52 = .ok (.getfield 37, 3) := by decide +kernel
theorem dX12_defaultsOf_55 : decode cX12_defaultsOf 55 = .ok (.sipush 600, 3) := by decide +kernel
theorem dX12_defaultsOf_58 : decode cX12_defaultsOf 58 = .ok (.aload_n 0, 1) := by decide +kernel
theorem dX12_defaultsOf_59 : decode cX12_defaultsOf 59 = .ok (.getfield 328, 3) := by decide +kernel
theorem dX12_defaultsOf_62 : decode cX12_defaultsOf 62 = .ok (.imul, 1) := by decide +kernel
theorem dX12_defaultsOf_63 : decode cX12_defaultsOf 63 = .ok (.iload_n 1, 1) := by decide +kernel
theorem dX12_defaultsOf_64 : decode cX12_defaultsOf 64 = .ok (.iadd, 1) := by decide +kernel
theorem dX12_defaultsOf_65 : decode cX12_defaultsOf 65 = .ok (.iaload, 1) := by decide +kernel
theorem dX12_defaultsOf_66 : decode cX12_defaultsOf 66 = .ok (.aload_n 0, 1) := by decide +kernel
theorem dX12_defaultsOf_67 : decode cX12_defaultsOf 67 = .ok (.getfield 40, 3) := by decide +kernel
theorem dX12_defaultsOf_70 : decode cX12_defaultsOf 70 = .ok (.sipush 600, 3) := by decide +kernel
theorem dX12_defaultsOf_73 : decode cX12_defaultsOf 73 = .ok (.aload_n 0, 1) := by decide +kernel
theorem dX12_defaultsOf_74 : decode cX12_defaultsOf 74 = .ok (.getfield 328, 3) := by decide +kernel
theorem dX12_defaultsOf_77 : decode cX12_defaultsOf 77 = .ok (.imul, 1) := by decide +kernel
theorem dX12_defaultsOf_78 : decode cX12_defaultsOf 78 = .ok (.iload_n 1, 1) := by decide +kernel
theorem dX12_defaultsOf_79 : decode cX12_defaultsOf 79 = .ok (.iadd, 1) := by decide +kernel
theorem dX12_defaultsOf_80 : decode cX12_defaultsOf 80 = .ok (.iaload, 1) := by decide +kernel
theorem dX12_defaultsOf_81 : decode cX12_defaultsOf 81 = .ok (.invokevirtual 412, 3) := by decide +kernel
theorem dX12_defaultsOf_84 : decode cX12_defaultsOf 84 = .ok (.istore 4, 2) := by decide +kernel
theorem dX12_defaultsOf_86 : decode cX12_defaultsOf 86 = .ok (.iload 4, 2) := by decide +kernel
theorem dX12_defaultsOf_88 : decode cX12_defaultsOf 88 = .ok (.ifCond .eq 138, 3) := by decide +kernel
theorem dX12_defaultsOf_91 : decode cX12_defaultsOf 91 = .ok (.aload_n 0, 1) := by decide +kernel
theorem dX12_defaultsOf_92 : decode cX12_defaultsOf 92 = .ok (.getfield 122, 3) := by decide +kernel
theorem dX12_defaultsOf_95 : decode cX12_defaultsOf 95 = .ok (.iload_n 3, 1) := by decide +kernel
theorem dX12_defaultsOf_96 : decode cX12_defaultsOf 96 = .ok (.iaload, 1) := by decide +kernel
theorem dX12_defaultsOf_97 : decode cX12_defaultsOf 97 = .ok (.iconst 2, 1) := by decide +kernel
theorem dX12_defaultsOf_98 : decode cX12_defaultsOf 98 = .ok (.if_icmp .lt 128, 3) := by decide +kernel
theorem dX12_defaultsOf_101 : decode cX12_defaultsOf 101 = .ok (.aload_n 0, 1) := by decide +kernel
theorem dX12_defaultsOf_102 : decode cX12_defaultsOf 102 = .ok (.iload_n 1, 1) := by decide +kernel
theorem dX12_defaultsOf_103 : decode cX12_defaultsOf 103 = .ok (.aload_n 0, 1) := by decide +kernel
theorem dX12_defaultsOf_104 : decode cX12_defaultsOf 104 = .ok (.getfield 113, 3) := by decide +kernel
theorem dX12_defaultsOf_107 : decode cX12_defaultsOf 107 = .ok (.iload_n 3, 1) := by decide +kernel
theorem dX12_defaultsOf_108 : decode cX12_defaultsOf 108 = .ok (.iaload, 1) := by decide +kernel
theorem dX12_defaultsOf_109 : decode cX12_defaultsOf 109 = .ok (.aload_n 0, 1) := by decide +kernel
theorem dX12_defaultsOf_110 : decode cX12_defaultsOf 110 = .ok (.getfield 116, 3) := by decide +kernel
theorem dX12_defaultsOf_113 : decode cX12_defaultsOf 113 = .ok (.iload_n 3, 1) := by decide +kernel
theorem dX12_defaultsOf_114 : decode cX12_defaultsOf 114 = .ok (.iaload, 1) := by decide +kernel
theorem dX12_defaultsOf_115 : decode cX12_defaultsOf 115 = .ok (.invokevirtual 458, 3) := by decide +kernel
theorem dX12_defaultsOf_118 : decode cX12_defaultsOf 118 = .ok (.ifCond .ne 108, 3) := by decide +kernel
theorem dX12_defaultsOf_121 : decode cX12_defaultsOf 121 = .ok (.aload_n 0, 1) := by decide +kernel
theorem dX12_defaultsOf_122 : decode cX12_defaultsOf 122 = .ok (.iload_n 1, 1) := by decide +kernel
theorem dX12_defaultsOf_123 : decode cX12_defaultsOf 123 = .ok (.invokevirtual 462, 3) := by decide +kernel
theorem dX12_defaultsOf_126 : decode cX12_defaultsOf 126 = .ok (.bipush 8, 2) := by decide +kernel
theorem dX12_defaultsOf_128 : decode cX12_defaultsOf 128 = .ok (.if_icmp .ne 10, 3) := by decide +kernel
theorem dX12_defaultsOf_131 : decode cX12_defaultsOf 131 = .ok (.aload_n 0, 1) := by decide +kernel
theorem dX12_defaultsOf_132 : decode cX12_defaultsOf 132 = .ok (.bipush (-3), 2) := by decide +kernel
theorem dX12_defaultsOf_134 : decode cX12_defaultsOf 134 = .ok (.iload_n 2, 1) := by decide +kernel
theorem dX12_defaultsOf_135 : decode cX12_defaultsOf 135 = .ok (.invokevirtual 293, 3) := by decide +kernel
theorem dX12_defaultsOf_138 : decode cX12_defaultsOf 138 = .ok (.aload_n 0, 1) := by decide +kernel
theorem dX12_defaultsOf_139 : decode cX12_defaultsOf 139 = .ok (.iconst 2, 1) := by decide +kernel
theorem dX12_defaultsOf_140 : decode cX12_defaultsOf 140 = .ok (.iload_n 2, 1) := by decide +kernel
theorem dX12_defaultsOf_141 : decode cX12_defaultsOf 141 = .ok (.invokevirtual 446, 3) := by decide +kernel
theorem dX12_defaultsOf_144 : decode cX12_defaultsOf 144 = .ok (.istore 5, 2) := by decide +kernel
theorem dX12_defaultsOf_146 : decode cX12_defaultsOf 146 = .ok (.aload_n 0, 1) := by decide +kernel
theorem dX12_defaultsOf_147 : decode cX12_defaultsOf 147 = .ok (.invokevirtual 289, 3) := by decide +kernel
theorem dX12_defaultsOf_150 : decode cX12_defaultsOf 150 = .ok (.ifCond .eq 76, 3) := by decide +kernel
theorem dX12_defaultsOf_153 : decode cX12_defaultsOf 153 = .ok (.sipush 600, 3) := by decide +kernel
theorem dX12_defaultsOf_156 : decode cX12_defaultsOf 156 = .ok (.aload_n 0, 1) := by decide +kernel
theorem dX12_defaultsOf_157 : decode cX12_defaultsOf 157 = .ok (.getfield 328, 3) := by decide +kernel
theorem dX12_defaultsOf_160 : decode cX12_defaultsOf 160 = .ok (.imul, 1) := by decide +kernel
theorem dX12_defaultsOf_161 : decode cX12_defaultsOf 161 = .ok (.iload 5, 2) := by decide +kernel
theorem dX12_defaultsOf_163 : decode cX12_defaultsOf 163 = .ok (.iadd, 1) := by decide +kernel
theorem dX12_defaultsOf_164 : decode cX12_defaultsOf 164 = .ok (.istore 6, 2) := by decide +kernel
theorem dX12_defaultsOf_166 : decode cX12_defaultsOf 166 = .ok (.aload_n 0, 1) := by decide +kernel
theorem dX12_defaultsOf_167 : decode cX12_defaultsOf 167 = .ok (.getfield 37, 3) := by decide +kernel
theorem dX12_defaultsOf_170 : decode cX12_defaultsOf 170 = .ok (.iload 6, 2) := by decide +kernel
theorem dX12_defaultsOf_172 : decode cX12_defaultsOf 172 = .ok (.aload_n 0, 1) := by decide +kernel
theorem dX12_defaultsOf_173 : decode cX12_defaultsOf 173 = .ok (.getfield 113, 3) := by decide +kernel
theorem dX12_defaultsOf_176 : decode cX12_defaultsOf 176 = .ok (.iload_n 3, 1) := by decide +kernel
theorem dX12_defaultsOf_177 : decode cX12_defaultsOf 177 = .ok (.iaload, 1) := by decide +kernel
theorem dX12_defaultsOf_178 : decode cX12_defaultsOf 178 = .ok (.iastore, 1) := by decide +kernel
theorem dX12_defaultsOf_179 : decode cX12_defaultsOf 179 = .ok (.aload_n 0, 1) := by decide +kernel
theorem dX12_defaultsOf_180 : decode cX12_defaultsOf 180 = .ok (.getfield 40, 3) := by decide +kernel
theorem dX12_defaultsOf_183 : decode cX12_defaultsOf 183 = .ok (.iload 6, 2) := by decide +kernel
theorem dX12_defaultsOf_185 : decode cX12_defaultsOf 185 = .ok (.aload_n 0, 1) := by decide +kernel
theorem dX12_defaultsOf_186 : decode cX12_defaultsOf 186 = .ok (.getfield 116, 3) := by decide +kernel
theorem dX12_defaultsOf_189 : decode cX12_defaultsOf 189 = .ok (.iload_n 3, 1) := by decide +kernel
theorem dX12_defaultsOf_190 : decode cX12_defaultsOf 190 = .ok (.iaload, 1) := by decide +kernel
theorem dX12_defaultsOf_191 : decode cX12_defaultsOf 191 = .ok (.iastore, 1) := by decide +kernel
theorem dX12_defaultsOf_192 : decode cX12_defaultsOf 192 = .ok (.aload_n 0, 1) := by decide +kernel
theorem dX12_defaultsOf_193 : decode cX12_defaultsOf 193 = .ok (.getfield 43, 3) := by decide +kernel
theorem dX12_defaultsOf_196 : decode cX12_defaultsOf 196 = .ok (.iload 6, 2) := by decide +kernel
theorem dX12_defaultsOf_198 : decode cX12_defaultsOf 198 = .ok (.aload_n 0, 1) := by decide +kernel
theorem dX12_defaultsOf_199 : decode cX12_defaultsOf 199 = .ok (.getfield 125, 3) := by decide +kernel
theorem dX12_defaultsOf_202 : decode cX12_defaultsOf 202 = .ok (.iload_n 3, 1) := by decide +kernel
theorem dX12_defaultsOf_203 : decode cX12_defaultsOf 203 = .ok (.iaload, 1) := by decide +kernel
theorem dX12_defaultsOf_204 : decode cX12_defaultsOf 204 = .ok (.iastore, 1) := by decide +kernel
theorem dX12_defaultsOf_205 : decode cX12_defaultsOf 205 = .ok (.aload_n 0, 1) := by decide +kernel
theorem dX12_defaultsOf_206 : decode cX12_defaultsOf 206 = .ok (.getfield 46, 3) := by decide +kernel
theorem dX12_defaultsOf_209 : decode cX12_defaultsOf 209 = .ok (.iload 6, 2) := by decide +kernel
theorem dX12_defaultsOf_211 : decode cX12_defaultsOf 211 = .ok (.aload_n 0, 1) := by decide +kernel
theorem dX12_defaultsOf_212 : decode cX12_defaultsOf 212 = .ok (.getfield 128, 3) := by decide +kernel
theorem dX12_defaultsOf_215 : decode cX12_defaultsOf 215 = .ok (.iload_n 3, 1) := by decide +kernel
theorem dX12_defaultsOf_216 : decode cX12_defaultsOf 216 = .ok (.iaload, 1) := by decide +kernel
theorem dX12_defaultsOf_217 : decode cX12_defaultsOf 217 = .ok (.iastore, 1) := by decide +kernel
theorem dX12_defaultsOf_218 : decode cX12_defaultsOf 218 = .ok (.aload_n 0, 1) := by decide +kernel
theorem dX12_defaultsOf_219 : decode cX12_defaultsOf 219 = .ok (.getfield 49, 3) := by decide +kernel
theorem dX12_defaultsOf_222 : decode cX12_defaultsOf 222 = .ok (.iload 6, 2) := by decide +kernel
theorem dX12_defaultsOf_224 : decode cX12_defaultsOf 224 = .ok (.iconst 1, 1) := by decide +kernel
theorem dX12_defaultsOf_225 : decode cX12_defaultsOf 225 = .ok (.bastore, 1) := by decide +kernel
theorem dX12_defaultsOf_226 : decode cX12_defaultsOf 226 = .ok (.iinc 3 1, 3) := by decide +kernel
theorem dX12_defaultsOf_229 : decode cX12_defaultsOf 229 = .ok (.goto (-220), 3) := by decide +kernel
theorem dX12_defaultsOf_232 : decode cX12_defaultsOf 232 = .ok (.return_, 1) := by decide +kernel
theorem v_X12_defaultsOf_0 {cs : Cs} {Q : Option AV → Mm → Prop} {MI ML : Nat → Nat → Int} {d e nw th x : Nat} {l1 l2 : Int}
    (h : (-2147483648 ≤ 800 * (MI 124 8) ∧ 800 * (MI 124 8) < 2147483648) ∧ wp cs mX12_defaultsOf KD Q 9 [some (vR 124), some (vI l1), some (vI l2), some (vI (800 * (MI 124 8))), none, none, none] [] (KD, MI, ML, (GR d e nw th x))) :
    wp cs mX12_defaultsOf KD Q 0 (padL [vR 124, vI l1, vI l2] 7) [] (KD, MI, ML, (GR d e nw th x)) := by
  refine wp_L (L' := [some (vR 124), some (vI l1), some (vI l2), none, none, none, none]) rfl ?_
  refine wp_sipush dX12_defaultsOf_0 (by decide +kernel) (by decide) ?_
  refine wp_aload_n dX12_defaultsOf_3 rfl rfl (by first | exact Or.inl (by decide) | exact Or.inl (by omega) | exact Or.inr (by decide) | exact Or.inr (by omega)) ?_
  refine wp_getI dX12_defaultsOf_4 fX12_328 rfl (by decide) ?_
  have c0 := h.1
  replace h := h.2
  refine wp_imulr dX12_defaultsOf_7 c0 ?_
  refine wp_istore_n dX12_defaultsOf_8 rfl (by decide) (wp_L (L' := [some (vR 124), some (vI l1), some (vI l2), some (vI (800 * (MI 124 8))), none, none, none]) rfl ?_)
  exact h
theorem v_X12_defaultsOf_9 {cs : Cs} {Q : Option AV → Mm → Prop} {MI ML : Nat → Nat → Int} {d e nw th x : Nat} {l1 l2 l3 : Int}
    (h : (-2147483648 ≤ 800 * (MI 124 8) ∧ 800 * (MI 124 8) < 2147483648) ∧ (0 ≤ (MI 124 8) ∧ (MI 124 8) < 2) ∧ (-2147483648 ≤ (800 * (MI 124 8)) + (MI 154 (MI 124 8).toNat) ∧ (800 * (MI 124 8)) + (MI 154 (MI 124 8).toNat) < 2147483648) ∧ ((l3 < ((800 * (MI 124 8)) + (MI 154 (MI 124 8).toNat)) → wp cs mX12_isGood KD (rI (GR d e nw th x) fun x32 m32 n32 => ((x32 = 0 → Q none (m32, n32, (GR d e nw th x))) ∧ (x32 ≠ 0 → (0 ≤ l3 ∧ l3 < 1600) ∧ (-2147483648 ≤ 600 * (m32 124 8) ∧ 600 * (m32 124 8) < 2147483648) ∧ (-2147483648 ≤ (600 * (m32 124 8)) + l1 ∧ (600 * (m32 124 8)) + l1 < 2147483648) ∧ (0 ≤ ((600 * (m32 124 8)) + l1) ∧ ((600 * (m32 124 8)) + l1) < 1200) ∧ wp cs mX12_isSame KD (rI (GR d e nw th x) fun x81 m81 n81 => ((x81 = 0 → (-2147483648 ≤ l3 + 1 ∧ l3 + 1 < 2147483648) ∧ wp cs mX12_defaultsOf KD Q 9 [some (vR 124), some (vI l1), some (vI l2), some (vI (l3 + 1)), none, none, none] [] (KD, m81, n81, (GR d e nw th x))) ∧ (x81 ≠ 0 → (((m81 160 l3.toNat) < 2 → (-2147483648 ≤ l3 + 1 ∧ l3 + 1 < 2147483648) ∧ wp cs mX12_defaultsOf KD Q 9 [some (vR 124), some (vI l1), some (vI l2), some (vI (l3 + 1)), none, none, none] [] (KD, m81, n81, (GR d e nw th x))) ∧ (2 ≤ (m81 160 l3.toNat) → wp cs mX12_hasAttribute KD (rI (GR d e nw th x) fun x115 m115 n115 => ((x115 = 0 → wp cs mX12_attributesOf KD (rI (GR d e nw th x) fun x123 m123 n123 => ((x123 = 8 → wp cs mX12_fail KD (rV (GR d e nw th x) fun m135 n135 => wp cs mX12_defaultsOf KD Q 138 [some (vR 124), some (vI l1), some (vI l2), some (vI l3), some (vI x81), none, none] [] (KD, m135, n135, (GR d e nw th x))) 0 (padL [vR 124, vI (-3), vI l2] 3) [] (KD, m123, n123, (GR d e nw th x))) ∧ (x123 ≠ 8 → wp cs mX12_defaultsOf KD Q 138 [some (vR 124), some (vI l1), some (vI l2), some (vI l3), some (vI x81), none, none] [] (KD, m123, n123, (GR d e nw th x))))) 0 (padL [vR 124, vI l1] 4) [] (KD, m115, n115, (GR d e nw th x))) ∧ (x115 ≠ 0 → (-2147483648 ≤ l3 + 1 ∧ l3 + 1 < 2147483648) ∧ wp cs mX12_defaultsOf KD Q 9 [some (vR 124), some (vI l1), some (vI l2), some (vI (l3 + 1)), none, none, none] [] (KD, m115, n115, (GR d e nw th x))))) 0 (padL [vR 124, vI l1, vI (m81 157 l3.toNat), vI (m81 158 l3.toNat)] 6) [] (KD, m81, n81, (GR d e nw th x))))))) 0 (padL [vR 124, vI (m32 155 l3.toNat), vI (m32 156 l3.toNat), vI (m32 132 ((600 * (m32 124 8)) + l1).toNat), vI (m32 133 ((600 * (m32 124 8)) + l1).toNat)] 7) [] (KD, m32, n32, (GR d e nw th x))))) 0 (padL [vR 124] 1) [] (KD, MI, ML, (GR d e nw th x))) ∧ (((800 * (MI 124 8)) + (MI 154 (MI 124 8).toNat)) ≤ l3 → Q none (MI, ML, (GR d e nw th x))))) :
    wp cs mX12_defaultsOf KD Q 9 [some (vR 124), some (vI l1), some (vI l2), some (vI l3), none, none, none] [] (KD, MI, ML, (GR d e nw th x)) := by
  refine wp_iload_n dX12_defaultsOf_9 rfl rfl ?_
  refine wp_sipush dX12_defaultsOf_10 (by decide +kernel) (by decide) ?_
  refine wp_aload_n dX12_defaultsOf_13 rfl rfl (by first | exact Or.inl (by decide) | exact Or.inl (by omega) | exact Or.inr (by decide) | exact Or.inr (by omega)) ?_
  refine wp_getI dX12_defaultsOf_14 fX12_328 rfl (by decide) ?_
  have c0 := h.1
  replace h := h.2
  refine wp_imulr dX12_defaultsOf_17 c0 ?_
  refine wp_aload_n dX12_defaultsOf_18 rfl rfl (by first | exact Or.inl (by decide) | exact Or.inl (by omega) | exact Or.inr (by decide) | exact Or.inr (by omega)) ?_
  refine wp_getR dX12_defaultsOf_19 fX12_104 rfl (by decide) ?_
  refine wp_topR (x' := 154) rfl ?_
  refine wp_pc (pc' := 22) rfl ?_
  refine wp_aload_n dX12_defaultsOf_22 rfl rfl (by first | exact Or.inl (by decide) | exact Or.inl (by omega) | exact Or.inr (by decide) | exact Or.inr (by omega)) ?_
  refine wp_getI dX12_defaultsOf_23 fX12_328 rfl (by decide) ?_
  have c1 := h.1
  replace h := h.2
  refine wp_iald dX12_defaultsOf_26 rfl (by decide) c1 ?_
  have c2 := h.1
  replace h := h.2
  refine wp_iaddr dX12_defaultsOf_27 c2 ?_
  refine wp_icmp_ge (tgt := 232) dX12_defaultsOf_28 (by decide) (fun h28 => ?_) (fun h28 => ?_)
  · replace h := h.2 h28
    exact wp_vret dX12_defaultsOf_232 rfl (fun _ => h)
  · replace h := h.1 h28
    refine wp_aload_n dX12_defaultsOf_31 rfl rfl (by first | exact Or.inl (by decide) | exact Or.inl (by omega) | exact Or.inr (by decide) | exact Or.inr (by omega)) ?_
    refine wp_cVq (n := 0) (mt' := mX12_isGood) (as := []) (rest := []) _ dX12_defaultsOf_32 lX12_289 kX12_isGood vX12_isGood (by decide) (by decide +kernel) rfl (Nat.le_of_ble_eq_true rfl) (by decide) rfl rfl rfl (Nat.le_of_ble_eq_true rfl) (fun hM hS => h) (fun r M' hq hM => ?_)
    obtain ⟨x32, m32, n32, rfl, rfl, h⟩ := rI_out hq
    refine wp_if_eq (tgt := 232) dX12_defaultsOf_35 (by decide) (fun h35 => ?_) (fun h35 => ?_)
    · replace h := h.1 h35
      exact wp_vret dX12_defaultsOf_232 rfl (fun _ => h)
    · replace h := h.2 h35
      refine wp_aload_n dX12_defaultsOf_38 rfl rfl (by first | exact Or.inl (by decide) | exact Or.inl (by omega) | exact Or.inr (by decide) | exact Or.inr (by omega)) ?_
      refine wp_aload_n dX12_defaultsOf_39 rfl rfl (by first | exact Or.inl (by decide) | exact Or.inl (by omega) | exact Or.inr (by decide) | exact Or.inr (by omega)) ?_
      refine wp_getR dX12_defaultsOf_40 fX12_107 rfl (by decide) ?_
      refine wp_topR (x' := 155) rfl ?_
      refine wp_iload_n dX12_defaultsOf_43 rfl rfl ?_
      have c3 := h.1
      replace h := h.2
      refine wp_iald dX12_defaultsOf_44 rfl (by decide) c3 ?_
      refine wp_aload_n dX12_defaultsOf_45 rfl rfl (by first | exact Or.inl (by decide) | exact Or.inl (by omega) | exact Or.inr (by decide) | exact Or.inr (by omega)) ?_
      refine wp_getR dX12_defaultsOf_46 fX12_110 rfl (by decide) ?_
      refine wp_topR (x' := 156) rfl ?_
      refine wp_pc (pc' := 49) rfl ?_
      refine wp_iload_n dX12_defaultsOf_49 rfl rfl ?_
      refine wp_iald dX12_defaultsOf_50 rfl (by decide) c3 ?_
      refine wp_aload_n dX12_defaultsOf_51 rfl rfl (by first | exact Or.inl (by decide) | exact Or.inl (by omega) | exact Or.inr (by decide) | exact Or.inr (by omega)) ?_
      refine wp_getR dX12_defaultsOf_52 fX12_37 rfl (by decide) ?_
      refine wp_topR (x' := 132) rfl ?_
      refine wp_sipush dX12_defaultsOf_55 (by decide +kernel) (by decide) ?_
      refine wp_aload_n dX12_defaultsOf_58 rfl rfl (by first | exact Or.inl (by decide) | exact Or.inl (by omega) | exact Or.inr (by decide) | exact Or.inr (by omega)) ?_
      refine wp_getI dX12_defaultsOf_59 fX12_328 rfl (by decide) ?_
      have c4 := h.1
      replace h := h.2
      refine wp_imulr dX12_defaultsOf_62 c4 ?_
      refine wp_pc (pc' := 63) rfl ?_
      refine wp_iload_n dX12_defaultsOf_63 rfl rfl ?_
      have c5 := h.1
      replace h := h.2
      refine wp_iaddr dX12_defaultsOf_64 c5 ?_
      have c6 := h.1
      replace h := h.2
      refine wp_iald dX12_defaultsOf_65 rfl (by decide) c6 ?_
      refine wp_aload_n dX12_defaultsOf_66 rfl rfl (by first | exact Or.inl (by decide) | exact Or.inl (by omega) | exact Or.inr (by decide) | exact Or.inr (by omega)) ?_
      refine wp_getR dX12_defaultsOf_67 fX12_40 rfl (by decide) ?_
      refine wp_topR (x' := 133) rfl ?_
      refine wp_sipush dX12_defaultsOf_70 (by decide +kernel) (by decide) ?_
      refine wp_aload_n dX12_defaultsOf_73 rfl rfl (by first | exact Or.inl (by decide) | exact Or.inl (by omega) | exact Or.inr (by decide) | exact Or.inr (by omega)) ?_
      refine wp_getI dX12_defaultsOf_74 fX12_328 rfl (by decide) ?_
      refine wp_pc (pc' := 77) rfl ?_
      refine wp_imulr dX12_defaultsOf_77 c4 ?_
      refine wp_iload_n dX12_defaultsOf_78 rfl rfl ?_
      refine wp_iaddr dX12_defaultsOf_79 c5 ?_
      refine wp_iald dX12_defaultsOf_80 rfl (by decide) c6 ?_
      refine wp_cVq (n := 4) (mt' := mX12_isSame) (as := [vI (m32 155 l3.toNat), vI (m32 156 l3.toNat), vI (m32 132 ((600 * (m32 124 8)) + l1).toNat), vI (m32 133 ((600 * (m32 124 8)) + l1).toNat)]) (rest := []) _ dX12_defaultsOf_81 lX12_412 kX12_isSame vX12_isSame (by decide) (by decide +kernel) rfl (Nat.le_of_ble_eq_true rfl) (by decide) rfl rfl rfl (Nat.le_of_ble_eq_true rfl) (fun hM hS => h) (fun r M' hq hM => ?_)
      obtain ⟨x81, m81, n81, rfl, rfl, h⟩ := rI_out hq
      refine wp_istore dX12_defaultsOf_84 (by decide) (wp_L (L' := [some (vR 124), some (vI l1), some (vI l2), some (vI l3), some (vI x81), none, none]) rfl ?_)
      refine wp_iload dX12_defaultsOf_86 rfl ?_
      refine wp_if_eq (tgt := 226) dX12_defaultsOf_88 (by decide) (fun h88 => ?_) (fun h88 => ?_)
      · replace h := h.1 h88
        have c7 := h.1
        replace h := h.2
        refine wp_iincr dX12_defaultsOf_226 rfl (by decide) c7 (wp_L (L' := [some (vR 124), some (vI l1), some (vI l2), some (vI (l3 + 1)), some (vI x81), none, none]) rfl ?_)
        refine wp_goto (tgt := 9) dX12_defaultsOf_229 (by decide) ?_
        refine wp_forget (L' := [some (vR 124), some (vI l1), some (vI l2), some (vI (l3 + 1)), none, none, none]) (by repeat' (first | exact trivial | refine ⟨rfl, ?_⟩)) ?_
        exact h
      · replace h := h.2 h88
        refine wp_aload_n dX12_defaultsOf_91 rfl rfl (by first | exact Or.inl (by decide) | exact Or.inl (by omega) | exact Or.inr (by decide) | exact Or.inr (by omega)) ?_
        refine wp_getR dX12_defaultsOf_92 fX12_122 rfl (by decide) ?_
        refine wp_topR (x' := 160) rfl ?_
        refine wp_iload_n dX12_defaultsOf_95 rfl rfl ?_
        refine wp_iald dX12_defaultsOf_96 rfl (by decide) c3 ?_
        refine wp_iconst dX12_defaultsOf_97 (by decide) ?_
        refine wp_icmp_lt (tgt := 226) dX12_defaultsOf_98 (by decide) (fun h98 => ?_) (fun h98 => ?_)
        · replace h := h.1 h98
          have c7 := h.1
          replace h := h.2
          refine wp_iincr dX12_defaultsOf_226 rfl (by decide) c7 (wp_L (L' := [some (vR 124), some (vI l1), some (vI l2), some (vI (l3 + 1)), some (vI x81), none, none]) rfl ?_)
          refine wp_goto (tgt := 9) dX12_defaultsOf_229 (by decide) ?_
          refine wp_forget (L' := [some (vR 124), some (vI l1), some (vI l2), some (vI (l3 + 1)), none, none, none]) (by repeat' (first | exact trivial | refine ⟨rfl, ?_⟩)) ?_
          exact h
        · replace h := h.2 h98
          refine wp_aload_n dX12_defaultsOf_101 rfl rfl (by first | exact Or.inl (by decide) | exact Or.inl (by omega) | exact Or.inr (by decide) | exact Or.inr (by omega)) ?_
          refine wp_iload_n dX12_defaultsOf_102 rfl rfl ?_
          refine wp_aload_n dX12_defaultsOf_103 rfl rfl (by first | exact Or.inl (by decide) | exact Or.inl (by omega) | exact Or.inr (by decide) | exact Or.inr (by omega)) ?_
          refine wp_getR dX12_defaultsOf_104 fX12_113 rfl (by decide) ?_
          refine wp_topR (x' := 157) rfl ?_
          refine wp_iload_n dX12_defaultsOf_107 rfl rfl ?_
          refine wp_iald dX12_defaultsOf_108 rfl (by decide) c3 ?_
          refine wp_aload_n dX12_defaultsOf_109 rfl rfl (by first | exact Or.inl (by decide) | exact Or.inl (by omega) | exact Or.inr (by decide) | exact Or.inr (by omega)) ?_
          refine wp_pc (pc' := 110) rfl ?_
          refine wp_getR dX12_defaultsOf_110 fX12_116 rfl (by decide) ?_
          refine wp_topR (x' := 158) rfl ?_
          refine wp_iload_n dX12_defaultsOf_113 rfl rfl ?_
          refine wp_iald dX12_defaultsOf_114 rfl (by decide) c3 ?_
          refine wp_cVq (n := 3) (mt' := mX12_hasAttribute) (as := [vI l1, vI (m81 157 l3.toNat), vI (m81 158 l3.toNat)]) (rest := []) _ dX12_defaultsOf_115 lX12_458 kX12_hasAttribute vX12_hasAttribute (by decide) (by decide +kernel) rfl (Nat.le_of_ble_eq_true rfl) (by decide) rfl rfl rfl (Nat.le_of_ble_eq_true rfl) (fun hM hS => h) (fun r M' hq hM => ?_)
          obtain ⟨x115, m115, n115, rfl, rfl, h⟩ := rI_out hq
          refine wp_if_ne (tgt := 226) dX12_defaultsOf_118 (by decide) (fun h118 => ?_) (fun h118 => ?_)
          · replace h := h.2 h118
            have c7 := h.1
            replace h := h.2
            refine wp_iincr dX12_defaultsOf_226 rfl (by decide) c7 (wp_L (L' := [some (vR 124), some (vI l1), some (vI l2), some (vI (l3 + 1)), some (vI x81), none, none]) rfl ?_)
            refine wp_goto (tgt := 9) dX12_defaultsOf_229 (by decide) ?_
            refine wp_forget (L' := [some (vR 124), some (vI l1), some (vI l2), some (vI (l3 + 1)), none, none, none]) (by repeat' (first | exact trivial | refine ⟨rfl, ?_⟩)) ?_
            exact h
          · replace h := h.1 h118
            refine wp_aload_n dX12_defaultsOf_121 rfl rfl (by first | exact Or.inl (by decide) | exact Or.inl (by omega) | exact Or.inr (by decide) | exact Or.inr (by omega)) ?_
            refine wp_iload_n dX12_defaultsOf_122 rfl rfl ?_
            refine wp_cVq (n := 1) (mt' := mX12_attributesOf) (as := [vI l1]) (rest := []) _ dX12_defaultsOf_123 lX12_462 kX12_attributesOf vX12_attributesOf (by decide) (by decide +kernel) rfl (Nat.le_of_ble_eq_true rfl) (by decide) rfl rfl rfl (Nat.le_of_ble_eq_true rfl) (fun hM hS => h) (fun r M' hq hM => ?_)
            obtain ⟨x123, m123, n123, rfl, rfl, h⟩ := rI_out hq
            refine wp_bipush dX12_defaultsOf_126 (by decide +kernel) (by decide) ?_
            refine wp_icmp_ne (tgt := 138) dX12_defaultsOf_128 (by decide) (fun h128 => ?_) (fun h128 => ?_)
            · replace h := h.2 h128
              exact h
            · replace h := h.1 h128
              refine wp_aload_n dX12_defaultsOf_131 rfl rfl (by first | exact Or.inl (by decide) | exact Or.inl (by omega) | exact Or.inr (by decide) | exact Or.inr (by omega)) ?_
              refine wp_bipush dX12_defaultsOf_132 (by decide +kernel) (by decide) ?_
              refine wp_iload_n dX12_defaultsOf_134 rfl rfl ?_
              refine wp_cVq (n := 2) (mt' := mX12_fail) (as := [vI (-3), vI l2]) (rest := []) _ dX12_defaultsOf_135 lX12_293 kX12_fail vX12_fail (by decide) (by decide +kernel) rfl (Nat.le_of_ble_eq_true rfl) (by decide) rfl rfl rfl (Nat.le_of_ble_eq_true rfl) (fun hM hS => h) (fun r M' hq hM => ?_)
              obtain ⟨m135, n135, rfl, rfl, h⟩ := rV_out hq
              exact h
theorem v_X12_defaultsOf_138 {cs : Cs} {Q : Option AV → Mm → Prop} {MI ML : Nat → Nat → Int} {d e nw th x : Nat} {l1 l2 l3 l4 : Int}
    (h : wp cs mX12_newNode KD (rI (GR d e nw th x) fun x141 m141 n141 => wp cs mX12_isGood KD (rI (GR d e nw th x) fun x147 m147 n147 => ((x147 = 0 → (-2147483648 ≤ l3 + 1 ∧ l3 + 1 < 2147483648) ∧ wp cs mX12_defaultsOf KD Q 9 [some (vR 124), some (vI l1), some (vI l2), some (vI (l3 + 1)), none, none, none] [] (KD, m147, n147, (GR d e nw th x))) ∧ (x147 ≠ 0 → (-2147483648 ≤ 600 * (m147 124 8) ∧ 600 * (m147 124 8) < 2147483648) ∧ (-2147483648 ≤ (600 * (m147 124 8)) + x141 ∧ (600 * (m147 124 8)) + x141 < 2147483648) ∧ (0 ≤ l3 ∧ l3 < 1600) ∧ (0 ≤ ((600 * (m147 124 8)) + x141) ∧ ((600 * (m147 124 8)) + x141) < 1200) ∧ ∀ m178, m178 = up2 m147 132 ((600 * (m147 124 8)) + x141).toNat (m147 157 l3.toNat) → ∀ m191, m191 = up2 m178 133 ((600 * (m147 124 8)) + x141).toNat (m178 158 l3.toNat) → ∀ m204, m204 = up2 m191 134 ((600 * (m147 124 8)) + x141).toNat (m191 161 l3.toNat) → ∀ m217, m217 = up2 m204 135 ((600 * (m147 124 8)) + x141).toNat (m204 162 l3.toNat) → ∀ m225, m225 = up2 m217 136 ((600 * (m147 124 8)) + x141).toNat 1 → (-2147483648 ≤ l3 + 1 ∧ l3 + 1 < 2147483648) ∧ wp cs mX12_defaultsOf KD Q 9 [some (vR 124), some (vI l1), some (vI l2), some (vI (l3 + 1)), none, none, none] [] (KD, m225, n147, (GR d e nw th x))))) 0 (padL [vR 124] 1) [] (KD, m141, n141, (GR d e nw th x))) 0 (padL [vR 124, vI 2, vI l2] 4) [] (KD, MI, ML, (GR d e nw th x))) :
    wp cs mX12_defaultsOf KD Q 138 [some (vR 124), some (vI l1), some (vI l2), some (vI l3), some (vI l4), none, none] [] (KD, MI, ML, (GR d e nw th x)) := by
  refine wp_aload_n dX12_defaultsOf_138 rfl rfl (by first | exact Or.inl (by decide) | exact Or.inl (by omega) | exact Or.inr (by decide) | exact Or.inr (by omega)) ?_
  refine wp_iconst dX12_defaultsOf_139 (by decide) ?_
  refine wp_iload_n dX12_defaultsOf_140 rfl rfl ?_
  refine wp_cVq (n := 2) (mt' := mX12_newNode) (as := [vI 2, vI l2]) (rest := []) _ dX12_defaultsOf_141 lX12_446 kX12_newNode vX12_newNode (by decide) (by decide +kernel) rfl (Nat.le_of_ble_eq_true rfl) (by decide) rfl rfl rfl (Nat.le_of_ble_eq_true rfl) (fun hM hS => h) (fun r M' hq hM => ?_)
  obtain ⟨x141, m141, n141, rfl, rfl, h⟩ := rI_out hq
  refine wp_istore dX12_defaultsOf_144 (by decide) (wp_L (L' := [some (vR 124), some (vI l1), some (vI l2), some (vI l3), some (vI l4), some (vI x141), none]) rfl ?_)
  refine wp_aload_n dX12_defaultsOf_146 rfl rfl (by first | exact Or.inl (by decide) | exact Or.inl (by omega) | exact Or.inr (by decide) | exact Or.inr (by omega)) ?_
  refine wp_cVq (n := 0) (mt' := mX12_isGood) (as := []) (rest := []) _ dX12_defaultsOf_147 lX12_289 kX12_isGood vX12_isGood (by decide) (by decide +kernel) rfl (Nat.le_of_ble_eq_true rfl) (by decide) rfl rfl rfl (Nat.le_of_ble_eq_true rfl) (fun hM hS => h) (fun r M' hq hM => ?_)
  obtain ⟨x147, m147, n147, rfl, rfl, h⟩ := rI_out hq
  refine wp_if_eq (tgt := 226) dX12_defaultsOf_150 (by decide) (fun h150 => ?_) (fun h150 => ?_)
  · replace h := h.1 h150
    have c0 := h.1
    replace h := h.2
    refine wp_iincr dX12_defaultsOf_226 rfl (by decide) c0 (wp_L (L' := [some (vR 124), some (vI l1), some (vI l2), some (vI (l3 + 1)), some (vI l4), some (vI x141), none]) rfl ?_)
    refine wp_goto (tgt := 9) dX12_defaultsOf_229 (by decide) ?_
    refine wp_forget (L' := [some (vR 124), some (vI l1), some (vI l2), some (vI (l3 + 1)), none, none, none]) (by repeat' (first | exact trivial | refine ⟨rfl, ?_⟩)) ?_
    exact h
  · replace h := h.2 h150
    refine wp_sipush dX12_defaultsOf_153 (by decide +kernel) (by decide) ?_
    refine wp_aload_n dX12_defaultsOf_156 rfl rfl (by first | exact Or.inl (by decide) | exact Or.inl (by omega) | exact Or.inr (by decide) | exact Or.inr (by omega)) ?_
    refine wp_getI dX12_defaultsOf_157 fX12_328 rfl (by decide) ?_
    have c0 := h.1
    replace h := h.2
    refine wp_imulr dX12_defaultsOf_160 c0 ?_
    refine wp_iload dX12_defaultsOf_161 rfl ?_
    have c1 := h.1
    replace h := h.2
    refine wp_iaddr dX12_defaultsOf_163 c1 ?_
    refine wp_istore dX12_defaultsOf_164 (by decide) (wp_L (L' := [some (vR 124), some (vI l1), some (vI l2), some (vI l3), some (vI l4), some (vI x141), some (vI ((600 * (m147 124 8)) + x141))]) rfl ?_)
    refine wp_pc (pc' := 166) rfl ?_
    refine wp_aload_n dX12_defaultsOf_166 rfl rfl (by first | exact Or.inl (by decide) | exact Or.inl (by omega) | exact Or.inr (by decide) | exact Or.inr (by omega)) ?_
    refine wp_getR dX12_defaultsOf_167 fX12_37 rfl (by decide) ?_
    refine wp_topR (x' := 132) rfl ?_
    refine wp_iload dX12_defaultsOf_170 rfl ?_
    refine wp_aload_n dX12_defaultsOf_172 rfl rfl (by first | exact Or.inl (by decide) | exact Or.inl (by omega) | exact Or.inr (by decide) | exact Or.inr (by omega)) ?_
    refine wp_getR dX12_defaultsOf_173 fX12_113 rfl (by decide) ?_
    refine wp_topR (x' := 157) rfl ?_
    refine wp_iload_n dX12_defaultsOf_176 rfl rfl ?_
    have c2 := h.1
    replace h := h.2
    refine wp_iald dX12_defaultsOf_177 rfl (by decide) c2 ?_
    have c3 := h.1
    replace h := h.2
    refine wp_iast dX12_defaultsOf_178 rfl (by decide) c3 ?_
    refine wp_gI (fun m178 e178 => ?_)
    replace h := h m178 e178
    refine wp_pc (pc' := 179) rfl ?_
    refine wp_aload_n dX12_defaultsOf_179 rfl rfl (by first | exact Or.inl (by decide) | exact Or.inl (by omega) | exact Or.inr (by decide) | exact Or.inr (by omega)) ?_
    refine wp_getR dX12_defaultsOf_180 fX12_40 rfl (by decide) ?_
    refine wp_topR (x' := 133) rfl ?_
    refine wp_iload dX12_defaultsOf_183 rfl ?_
    refine wp_aload_n dX12_defaultsOf_185 rfl rfl (by first | exact Or.inl (by decide) | exact Or.inl (by omega) | exact Or.inr (by decide) | exact Or.inr (by omega)) ?_
    refine wp_getR dX12_defaultsOf_186 fX12_116 rfl (by decide) ?_
    refine wp_topR (x' := 158) rfl ?_
    refine wp_iload_n dX12_defaultsOf_189 rfl rfl ?_
    refine wp_iald dX12_defaultsOf_190 rfl (by decide) c2 ?_
    refine wp_iast dX12_defaultsOf_191 rfl (by decide) c3 ?_
    refine wp_gI (fun m191 e191 => ?_)
    replace h := h m191 e191
    refine wp_pc (pc' := 192) rfl ?_
    refine wp_aload_n dX12_defaultsOf_192 rfl rfl (by first | exact Or.inl (by decide) | exact Or.inl (by omega) | exact Or.inr (by decide) | exact Or.inr (by omega)) ?_
    refine wp_getR dX12_defaultsOf_193 fX12_43 rfl (by decide) ?_
    refine wp_topR (x' := 134) rfl ?_
    refine wp_iload dX12_defaultsOf_196 rfl ?_
    refine wp_aload_n dX12_defaultsOf_198 rfl rfl (by first | exact Or.inl (by decide) | exact Or.inl (by omega) | exact Or.inr (by decide) | exact Or.inr (by omega)) ?_
    refine wp_getR dX12_defaultsOf_199 fX12_125 rfl (by decide) ?_
    refine wp_topR (x' := 161) rfl ?_
    refine wp_iload_n dX12_defaultsOf_202 rfl rfl ?_
    refine wp_iald dX12_defaultsOf_203 rfl (by decide) c2 ?_
    refine wp_iast dX12_defaultsOf_204 rfl (by decide) c3 ?_
    refine wp_gI (fun m204 e204 => ?_)
    replace h := h m204 e204
    refine wp_pc (pc' := 205) rfl ?_
    refine wp_aload_n dX12_defaultsOf_205 rfl rfl (by first | exact Or.inl (by decide) | exact Or.inl (by omega) | exact Or.inr (by decide) | exact Or.inr (by omega)) ?_
    refine wp_getR dX12_defaultsOf_206 fX12_46 rfl (by decide) ?_
    refine wp_topR (x' := 135) rfl ?_
    refine wp_iload dX12_defaultsOf_209 rfl ?_
    refine wp_aload_n dX12_defaultsOf_211 rfl rfl (by first | exact Or.inl (by decide) | exact Or.inl (by omega) | exact Or.inr (by decide) | exact Or.inr (by omega)) ?_
    refine wp_getR dX12_defaultsOf_212 fX12_128 rfl (by decide) ?_
    refine wp_topR (x' := 162) rfl ?_
    refine wp_iload_n dX12_defaultsOf_215 rfl rfl ?_
    refine wp_iald dX12_defaultsOf_216 rfl (by decide) c2 ?_
    refine wp_iast dX12_defaultsOf_217 rfl (by decide) c3 ?_
    refine wp_gI (fun m217 e217 => ?_)
    replace h := h m217 e217
    refine wp_pc (pc' := 218) rfl ?_
    refine wp_aload_n dX12_defaultsOf_218 rfl rfl (by first | exact Or.inl (by decide) | exact Or.inl (by omega) | exact Or.inr (by decide) | exact Or.inr (by omega)) ?_
    refine wp_getR dX12_defaultsOf_219 fX12_49 rfl (by decide) ?_
    refine wp_topR (x' := 136) rfl ?_
    refine wp_iload dX12_defaultsOf_222 rfl ?_
    refine wp_iconst dX12_defaultsOf_224 (by decide) ?_
    refine wp_zast dX12_defaultsOf_225 rfl (by decide) c3 (by decide) ?_
    refine wp_gI (fun m225 e225 => ?_)
    replace h := h m225 e225
    have c4 := h.1
    replace h := h.2
    refine wp_iincr dX12_defaultsOf_226 rfl (by decide) c4 (wp_L (L' := [some (vR 124), some (vI l1), some (vI l2), some (vI (l3 + 1)), some (vI l4), some (vI x141), some (vI ((600 * (m147 124 8)) + x141))]) rfl ?_)
    refine wp_goto (tgt := 9) dX12_defaultsOf_229 (by decide) ?_
    refine wp_forget (L' := [some (vR 124), some (vI l1), some (vI l2), some (vI (l3 + 1)), none, none, none]) (by repeat' (first | exact trivial | refine ⟨rfl, ?_⟩)) ?_
    exact h
theorem dX12_element_0 : decode cX12_element 0 = .ok (.aload_n 0, 1) := by decide +kernel
theorem dX12_element_1 : decode cX12_element 1 = .ok (.bipush 60, 2) := by decide +kernel
theorem dX12_element_3 : decode cX12_element 3 = .ok (.invokevirtual 340, 3) := by decide +kernel
theorem dX12_element_6 : decode cX12_element 6 = .ok (.istore_n 1, 1) := by decide +kernel
theorem dX12_element_7 : decode cX12_element 7 = .ok (.aload_n 0, 1) := by decide +kernel
theorem dX12_element_8 : decode cX12_element 8 = .ok (.invokevirtual 351, 3) := by decide +kernel
theorem dX12_element_11 : decode cX12_element 11 = .ok (.istore_n 2, 1) := by decide +kernel
theorem dX12_element_12 : decode cX12_element 12 = .ok (.aload_n 0, 1) := by decide +kernel
theorem dX12_element_13 : decode cX12_element 13 = .ok (.getfield 306, 3) := by decide +kernel
theorem dX12_element_16 : decode cX12_element 16 = .ok (.istore_n 3, 1) := by decide +kernel
theorem dX12_element_17 : decode cX12_element 17 = .ok (.aload_n 0, 1) := by decide +kernel
theorem dX12_element_18 : decode cX12_element 18 = .ok (.invokevirtual 289, 3) := by decide +kernel
theorem dX12_element_21 : decode cX12_element 21 = .ok (.ifCond .eq 19, 3) := by decide +kernel
theorem dX12_element_24 : decode cX12_element 24 = .ok (.aload_n 0, 1) := by decide +kernel
theorem dX12_element_25 : decode cX12_element 25 = .ok (.getfield 443, 3) := by decide +kernel
theorem dX12_element_28 : decode cX12_element 28 = .ok (.bipush 30, 2) := by decide +kernel
theorem dX12_element_30 : decode cX12_element 30 = .ok (.if_icmp .ne 10, 3) := by decide +kernel
theorem dX12_element_33 : decode cX12_element 33 = .ok (.aload_n 0, 1) := by decide +kernel
theorem dX12_element_34 : decode cX12_element 34 = .ok (.bipush (-3), 2) := by decide +kernel
theorem dX12_element_36 : decode cX12_element 36 = .ok (.iload_n 2, 1) := by decide +kernel
theorem dX12_element_37 : decode cX12_element 37 = .ok (.invokevirtual 293, 3) := by decide +kernel
theorem dX12_element_40 : decode cX12_element 40 = .ok (.aload_n 0, 1) := by decide +kernel
theorem dX12_element_41 : decode cX12_element 41 = .ok (.iconst 1, 1) := by decide +kernel
theorem dX12_element_42 : decode cX12_element 42 = .ok (.iload_n 2, 1) := by decide +kernel
theorem dX12_element_43 : decode cX12_element 43 = .ok (.invokevirtual 446, 3) := by decide +kernel
theorem dX12_element_46 : decode cX12_element 46 = .ok (.istore 4, 2) := by decide +kernel
theorem dX12_element_48 : decode cX12_element 48 = .ok (.aload_n 0, 1) := by decide +kernel
theorem dX12_element_49 : decode cX12_element 49 = .ok (.invokevirtual 289, 3) := by decide +kernel
theorem dX12_element_52 : decode cX12_element 52 = .ok (.ifCond .ne 4, 3) := by decide +kernel
theorem dX12_element_55 : decode cX12_element 55 = .ok (.return_, 1) := by decide +kernel
theorem dX12_element_56 : decode cX12_element 56 = .ok (.aload_n 0, 1) := by decide +kernel
theorem dX12_element_57 : decode cX12_element 57 = .ok (.getfield 37, 3) := by decide +kernel
theorem dX12_element_60 : decode cX12_element 60 = .ok (.sipush 600, 3) := by decide +kernel
theorem dX12_element_63 : decode cX12_element 63 = .ok (.aload_n 0, 1) := by decide +kernel
theorem dX12_element_64 : decode cX12_element 64 = .ok (.getfield 328, 3) := by decide +kernel
theorem dX12_element_67 : decode cX12_element 67 = .ok (.imul, 1) := by decide +kernel
theorem dX12_element_68 : decode cX12_element 68 = .ok (.iload 4, 2) := by decide +kernel
theorem dX12_element_70 : decode cX12_element 70 = .ok (.iadd, 1) := by decide +kernel
theorem dX12_element_71 : decode cX12_element 71 = .ok (.sipush 6000, 3) := by decide +kernel
theorem dX12_element_74 : decode cX12_element 74 = .ok (.aload_n 0, 1) := by decide +kernel
theorem dX12_element_75 : decode cX12_element 75 = .ok (.getfield 328, 3) := by decide +kernel
theorem dX12_element_78 : decode cX12_element 78 = .ok (.imul, 1) := by decide +kernel
theorem dX12_element_79 : decode cX12_element 79 = .ok (.iload_n 2, 1) := by decide +kernel
theorem dX12_element_80 : decode cX12_element 80 = .ok (.iadd, 1) := by decide +kernel
theorem dX12_element_81 : decode cX12_element 81 = .ok (.iastore, 1) := by decide +kernel
theorem dX12_element_82 : decode cX12_element 82 = .ok (.aload_n 0, 1) := by decide +kernel
theorem dX12_element_83 : decode cX12_element 83 = .ok (.getfield 40, 3) := by decide +kernel
theorem dX12_element_86 : decode cX12_element 86 = .ok (.sipush 600, 3) := by decide +kernel
theorem dX12_element_89 : decode cX12_element 89 = .ok (.aload_n 0, 1) := by decide +kernel
theorem dX12_element_90 : decode cX12_element 90 = .ok (.getfield 328, 3) := by decide +kernel
theorem dX12_element_93 : decode cX12_element 93 = .ok (.imul, 1) := by decide +kernel
theorem dX12_element_94 : decode cX12_element 94 = .ok (.iload 4, 2) := by decide +kernel
theorem dX12_element_96 : decode cX12_element 96 = .ok (.iadd, 1) := by decide +kernel
theorem dX12_element_97 : decode cX12_element 97 = .ok (.iload_n 3, 1) := by decide +kernel
theorem dX12_element_98 : decode cX12_element 98 = .ok (.iastore, 1) := by decide +kernel
theorem dX12_element_99 : decode cX12_element 99 = .ok (.aload_n 0, 1) := by decide +kernel
theorem dX12_element_100 : decode cX12_element 100 = .ok (.getfield 161, 3) := by decide +kernel
theorem dX12_element_103 : decode cX12_element 103 = .ok (.aload_n 0, 1) := by decide +kernel
theorem dX12_element_104 : decode cX12_element 104 = .ok (.getfield 443, 3) := by decide +kernel
theorem dX12_element_107 : decode cX12_element 107 = .ok (.iload 4, 2) := by decide +kernel
theorem dX12_element_109 : decode cX12_element 109 = .ok (.iastore, 1) := by decide +kernel
theorem dX12_element_110 : decode cX12_element 110 = .ok (.aload_n 0, 1) := by decide +kernel
theorem dX12_element_111 : decode cX12_element 111 = .ok (.dup, 1) := by decide +kernel
theorem dX12_element_112 : decode cX12_element 112 = .ok (.getfield 443, 3) := by decide +kernel
theorem dX12_element_115 : decode cX12_element 115 = .ok (.iconst 1, 1) := by decide +kernel
theorem dX12_element_116 : decode cX12_element 116 = .ok (.iadd, 1) := by decide +kernel
theorem dX12_element_117 : decode cX12_element 117 = .ok (.putfield 443, 3) := by decide +kernel
theorem dX12_element_120 : decode cX12_element 120 = .ok (.aload_n 0, 1) := by decide +kernel
theorem dX12_element_121 : decode cX12_element 121 = .ok (.getfield 61, 3) := by decide +kernel
theorem dX12_element_124 : decode cX12_element 124 = .ok (.aload_n 0, 1) := by decide +kernel
theorem dX12_element_125 : decode cX12_element 125 = .ok (.getfield 328, 3) := by decide +kernel
theorem dX12_element_128 : decode cX12_element 128 = .ok (.aload_n 0, 1) := by decide +kernel
theorem dX12_element_129 : decode cX12_element 129 = .ok (.getfield 443, 3) := by decide +kernel
theorem dX12_element_132 : decode cX12_element 132 = .ok (.aload_n 0, 1) := by decide +kernel
theorem dX12_element_133 : decode cX12_element 133 = .ok (.getfield 61, 3) := by decide +kernel
theorem dX12_element_136 : decode cX12_element 136 = .ok (.aload_n 0, 1) := by decide +kernel
theorem dX12_element_137 : decode cX12_element 137 = .ok (.getfield 328, 3) := by decide +kernel
theorem dX12_element_140 : decode cX12_element 140 = .ok (.iaload, 1) := by decide +kernel
theorem dX12_element_141 : decode cX12_element 141 = .ok (.if_icmp .le 10, 3) := by decide +kernel
theorem dX12_element_144 : decode cX12_element 144 = .ok (.aload_n 0, 1) := by decide +kernel
theorem dX12_element_145 : decode cX12_element 145 = .ok (.getfield 443, 3) := by decide +kernel
theorem dX12_element_148 : decode cX12_element 148 = .ok (.goto 12, 3) := by decide +kernel
theorem dX12_element_151 : decode cX12_element 151 = .ok (.aload_n 0, 1) := by decide +kernel
theorem dX12_element_152 : decode cX12_element 152 = .ok (.getfield 61, 3) := by decide +kernel
theorem dX12_element_155 : decode cX12_element 155 = .ok (.aload_n 0, 1) := by decide +kernel
theorem dX12_element_156 : decode cX12_element 156 = .ok (.getfield 328, 3) := by decide +kernel
theorem dX12_element_159 : decode cX12_element 159 = .ok (.iaload, 1) := by decide +kernel
theorem dX12_element_160 : decode cX12_element 160 = .ok (.iastore, 1) := by decide +kernel
theorem dX12_element_161 : decode cX12_element 161 = .ok (.iconst 1, 1) := by decide +kernel
theorem dX12_element_162 : decode cX12_element 162 = .ok (.istore 5, 2) := by decide +kernel
theorem dX12_element_164 : decode cX12_element 164 = .ok (.aload_n 0, 1) := by decide +kernel
theorem dX12_element_165 : decode cX12_element 165 = .ok (.invokevirtual 289, 3) := by decide +kernel
theorem dX12_element_168 : decode cX12_element 168 = .ok (.ifCond .eq 62, 3) := by decide +kernel
theorem dX12_element_171 : decode cX12_element 171 = .ok (.iload 5, 2) := by decide +kernel
theorem dX12_element_173 : decode cX12_element 173 = .ok (.ifCond .eq 57, 3) := by decide +kernel
theorem dX12_element_176 : decode cX12_element 176 = .ok (.aload_n 0, 1) := by decide +kernel
theorem dX12_element_177 : decode cX12_element 177 = .ok (.getfield 276, 3) := by decide +kernel
theorem dX12_element_180 : decode cX12_element 180 = .ok (.istore 6, 2) := by decide +kernel
theorem dX12_element_182 : decode cX12_element 182 = .ok (.aload_n 0, 1) := by decide +kernel
theorem dX12_element_183 : decode cX12_element 183 = .ok (.invokevirtual 300, 3) := by decide +kernel
theorem dX12_element_186 : decode cX12_element 186 = .ok (.aload_n 0, 1) := by decide +kernel
theorem dX12_element_187 : decode cX12_element 187 = .ok (.getfield 276, 3) := by decide +kernel
theorem dX12_element_190 : decode cX12_element 190 = .ok (.iload 6, 2) := by decide +kernel
theorem dX12_element_192 : decode cX12_element 192 = .ok (.if_icmp .le 21, 3) := by decide +kernel
theorem dX12_element_195 : decode cX12_element 195 = .ok (.aload_n 0, 1) := by decide +kernel
theorem dX12_element_196 : decode cX12_element 196 = .ok (.aload_n 0, 1) := by decide +kernel
theorem dX12_element_197 : decode cX12_element 197 = .ok (.getfield 276, 3) := by decide +kernel
theorem dX12_element_200 : decode cX12_element 200 = .ok (.invokevirtual 279, 3) := by decide +kernel
theorem dX12_element_203 : decode cX12_element 203 = .ok (.invokestatic 268, 3) := by decide +kernel
theorem dX12_element_206 : decode cX12_element 206 = .ok (.ifCond .eq 7, 3) := by decide +kernel
theorem dX12_element_209 : decode cX12_element 209 = .ok (.iconst 1, 1) := by decide +kernel
theorem dX12_element_210 : decode cX12_element 210 = .ok (.goto 4, 3) := by decide +kernel
theorem dX12_element_213 : decode cX12_element 213 = .ok (.iconst 0, 1) := by decide +kernel
theorem dX12_element_214 : decode cX12_element 214 = .ok (.istore 5, 2) := by decide +kernel
theorem dX12_element_216 : decode cX12_element 216 = .ok (.iload 5, 2) := by decide +kernel
theorem dX12_element_218 : decode cX12_element 218 = .ok (.ifCond .eq 9, 3) := by decide +kernel
theorem dX12_element_221 : decode cX12_element 221 = .ok (.aload_n 0, 1) := by decide +kernel
theorem dX12_element_222 : decode cX12_element 222 = .ok (.iload 4, 2) := by decide +kernel
theorem dX12_element_224 : decode cX12_element 224 = .ok (.invokevirtual 450, 3) := by decide +kernel
theorem dX12_element_227 : decode cX12_element 227 = .ok (.goto (-63), 3) := by decide +kernel
theorem dX12_element_230 : decode cX12_element 230 = .ok (.aload_n 0, 1) := by decide +kernel
theorem dX12_element_231 : decode cX12_element 231 = .ok (.invokevirtual 289, 3) := by decide +kernel
theorem dX12_element_234 : decode cX12_element 234 = .ok (.ifCond .ne 4, 3) := by decide +kernel
theorem dX12_element_237 : decode cX12_element 237 = .ok (.return_, 1) := by decide +kernel
theorem dX12_element_238 : decode cX12_element 238 = .ok (.aload_n 0, 1) := by decide +kernel
theorem dX12_element_239 : decode cX12_element 239 = .ok (.getfield 276, 3) := by decide +kernel
theorem dX12_element_242 : decode cX12_element 242 = .ok (.istore 6, 2) := by decide +kernel
theorem dX12_element_244 : decode cX12_element 244 = .ok (.aload_n 0, 1) := by decide +kernel
theorem dX12_element_245 : decode cX12_element 245 = .ok (.ldc2_w 453, 3) := by decide +kernel
theorem dX12_element_248 : decode cX12_element 248 = .ok (.iconst 2, 1) := by decide +kernel
theorem dX12_element_249 : decode cX12_element 249 = .ok (.invokevirtual 285, 3) := by decide +kernel
theorem dX12_element_252 : decode cX12_element 252 = .ok (.istore 7, 2) := by decide +kernel
theorem dX12_element_254 : decode cX12_element 254 = .ok (.iload 7, 2) := by decide +kernel
theorem dX12_element_256 : decode cX12_element 256 = .ok (.ifCond .eq 16, 3) := by decide +kernel
theorem dX12_element_259 : decode cX12_element 259 = .ok (.aload_n 0, 1) := by decide +kernel
theorem dX12_element_260 : decode cX12_element 260 = .ok (.dup, 1) := by decide +kernel
theorem dX12_element_261 : decode cX12_element 261 = .ok (.getfield 276, 3) := by decide +kernel
theorem dX12_element_264 : decode cX12_element 264 = .ok (.iconst 2, 1) := by decide +kernel
theorem dX12_element_265 : decode cX12_element 265 = .ok (.iadd, 1) := by decide +kernel
theorem dX12_element_266 : decode cX12_element 266 = .ok (.putfield 276, 3) := by decide +kernel
theorem dX12_element_269 : decode cX12_element 269 = .ok (.goto 10, 3) := by decide +kernel
theorem dX12_element_272 : decode cX12_element 272 = .ok (.aload_n 0, 1) := by decide +kernel
theorem dX12_element_273 : decode cX12_element 273 = .ok (.bipush 62, 2) := by decide +kernel
theorem dX12_element_275 : decode cX12_element 275 = .ok (.invokevirtual 340, 3) := by decide +kernel
theorem dX12_element_278 : decode cX12_element 278 = .ok (.istore_n 1, 1) := by decide +kernel
theorem dX12_element_279 : decode cX12_element 279 = .ok (.aload_n 0, 1) := by decide +kernel
theorem dX12_element_280 : decode cX12_element 280 = .ok (.iload 4, 2) := by decide +kernel
theorem dX12_element_282 : decode cX12_element 282 = .ok (.iload 6, 2) := by decide +kernel
theorem dX12_element_284 : decode cX12_element 284 = .ok (.invokevirtual 455, 3) := by decide +kernel
theorem dX12_element_287 : decode cX12_element 287 = .ok (.aload_n 0, 1) := by decide +kernel
theorem dX12_element_288 : decode cX12_element 288 = .ok (.dup, 1) := by decide +kernel
theorem dX12_element_289 : decode cX12_element 289 = .ok (.getfield 443, 3) := by decide +kernel
theorem dX12_element_292 : decode cX12_element 292 = .ok (.iload 7, 2) := by decide +kernel
theorem dX12_element_294 : decode cX12_element 294 = .ok (.ifCond .eq 7, 3) := by decide +kernel
theorem dX12_element_297 : decode cX12_element 297 = .ok (.iconst 1, 1) := by decide +kernel
theorem dX12_element_298 : decode cX12_element 298 = .ok (.goto 4, 3) := by decide +kernel
theorem dX12_element_301 : decode cX12_element 301 = .ok (.iconst 0, 1) := by decide +kernel
theorem dX12_element_302 : decode cX12_element 302 = .ok (.isub, 1) := by decide +kernel
theorem dX12_element_303 : decode cX12_element 303 = .ok (.putfield 443, 3) := by decide +kernel
theorem dX12_element_306 : decode cX12_element 306 = .ok (.return_, 1) := by decide +kernel
theorem v_X12_element_0 {cs : Cs} {Q : Option AV → Mm → Prop} {MI ML : Nat → Nat → Int} {d e nw th x : Nat}
    (h : wp cs mX12_passes KD (rI (GR d e nw th x) fun x3 m3 n3 => wp cs mX12_takeName KD (rI (GR d e nw th x) fun x8 m8 n8 => wp cs mX12_isGood KD (rI (GR d e nw th x) fun x18 m18 n18 => ((x18 = 0 → wp cs mX12_element KD Q 40 [some (vR 124), some (vI x3), some (vI x8), some (vI (m8 124 51)), none, none, none, none] [] (KD, m18, n18, (GR d e nw th x))) ∧ (x18 ≠ 0 → (((m18 124 64) = 30 → wp cs mX12_fail KD (rV (GR d e nw th x) fun m37 n37 => wp cs mX12_element KD Q 40 [some (vR 124), some (vI x3), some (vI x8), some (vI (m8 124 51)), none, none, none, none] [] (KD, m37, n37, (GR d e nw th x))) 0 (padL [vR 124, vI (-3), vI x8] 3) [] (KD, m18, n18, (GR d e nw th x))) ∧ ((m18 124 64) ≠ 30 → wp cs mX12_element KD Q 40 [some (vR 124), some (vI x3), some (vI x8), some (vI (m8 124 51)), none, none, none, none] [] (KD, m18, n18, (GR d e nw th x))))))) 0 (padL [vR 124] 1) [] (KD, m8, n8, (GR d e nw th x))) 0 (padL [vR 124] 2) [] (KD, m3, n3, (GR d e nw th x))) 0 (padL [vR 124, vI 60] 2) [] (KD, MI, ML, (GR d e nw th x))) :
    wp cs mX12_element KD Q 0 (padL [vR 124] 8) [] (KD, MI, ML, (GR d e nw th x)) := by
  refine wp_L (L' := [some (vR 124), none, none, none, none, none, none, none]) rfl ?_
  refine wp_aload_n dX12_element_0 rfl rfl (by first | exact Or.inl (by decide) | exact Or.inl (by omega) | exact Or.inr (by decide) | exact Or.inr (by omega)) ?_
  refine wp_bipush dX12_element_1 (by decide +kernel) (by decide) ?_
  refine wp_cVq (n := 1) (mt' := mX12_passes) (as := [vI 60]) (rest := []) _ dX12_element_3 lX12_340 kX12_passes vX12_passes (by decide) (by decide +kernel) rfl (Nat.le_of_ble_eq_true rfl) (by decide) rfl rfl rfl (Nat.le_of_ble_eq_true rfl) (fun hM hS => h) (fun r M' hq hM => ?_)
  obtain ⟨x3, m3, n3, rfl, rfl, h⟩ := rI_out hq
  refine wp_istore_n dX12_element_6 rfl (by decide) (wp_L (L' := [some (vR 124), some (vI x3), none, none, none, none, none, none]) rfl ?_)
  refine wp_aload_n dX12_element_7 rfl rfl (by first | exact Or.inl (by decide) | exact Or.inl (by omega) | exact Or.inr (by decide) | exact Or.inr (by omega)) ?_
  refine wp_cVq (n := 0) (mt' := mX12_takeName) (as := []) (rest := []) _ dX12_element_8 lX12_351 kX12_takeName vX12_takeName (by decide) (by decide +kernel) rfl (Nat.le_of_ble_eq_true rfl) (by decide) rfl rfl rfl (Nat.le_of_ble_eq_true rfl) (fun hM hS => h) (fun r M' hq hM => ?_)
  obtain ⟨x8, m8, n8, rfl, rfl, h⟩ := rI_out hq
  refine wp_istore_n dX12_element_11 rfl (by decide) (wp_L (L' := [some (vR 124), some (vI x3), some (vI x8), none, none, none, none, none]) rfl ?_)
  refine wp_aload_n dX12_element_12 rfl rfl (by first | exact Or.inl (by decide) | exact Or.inl (by omega) | exact Or.inr (by decide) | exact Or.inr (by omega)) ?_
  refine wp_getI dX12_element_13 fX12_306 rfl (by decide) ?_
  refine wp_istore_n dX12_element_16 rfl (by decide) (wp_L (L' := [some (vR 124), some (vI x3), some (vI x8), some (vI (m8 124 51)), none, none, none, none]) rfl ?_)
  refine wp_aload_n dX12_element_17 rfl rfl (by first | exact Or.inl (by decide) | exact Or.inl (by omega) | exact Or.inr (by decide) | exact Or.inr (by omega)) ?_
  refine wp_cVq (n := 0) (mt' := mX12_isGood) (as := []) (rest := []) _ dX12_element_18 lX12_289 kX12_isGood vX12_isGood (by decide) (by decide +kernel) rfl (Nat.le_of_ble_eq_true rfl) (by decide) rfl rfl rfl (Nat.le_of_ble_eq_true rfl) (fun hM hS => h) (fun r M' hq hM => ?_)
  obtain ⟨x18, m18, n18, rfl, rfl, h⟩ := rI_out hq
  refine wp_if_eq (tgt := 40) dX12_element_21 (by decide) (fun h21 => ?_) (fun h21 => ?_)
  · replace h := h.1 h21
    exact h
  · replace h := h.2 h21
    refine wp_aload_n dX12_element_24 rfl rfl (by first | exact Or.inl (by decide) | exact Or.inl (by omega) | exact Or.inr (by decide) | exact Or.inr (by omega)) ?_
    refine wp_getI dX12_element_25 fX12_443 rfl (by decide) ?_
    refine wp_bipush dX12_element_28 (by decide +kernel) (by decide) ?_
    refine wp_icmp_ne (tgt := 40) dX12_element_30 (by decide) (fun h30 => ?_) (fun h30 => ?_)
    · replace h := h.2 h30
      exact h
    · replace h := h.1 h30
      refine wp_aload_n dX12_element_33 rfl rfl (by first | exact Or.inl (by decide) | exact Or.inl (by omega) | exact Or.inr (by decide) | exact Or.inr (by omega)) ?_
      refine wp_bipush dX12_element_34 (by decide +kernel) (by decide) ?_
      refine wp_iload_n dX12_element_36 rfl rfl ?_
      refine wp_cVq (n := 2) (mt' := mX12_fail) (as := [vI (-3), vI x8]) (rest := []) _ dX12_element_37 lX12_293 kX12_fail vX12_fail (by decide) (by decide +kernel) rfl (Nat.le_of_ble_eq_true rfl) (by decide) rfl rfl rfl (Nat.le_of_ble_eq_true rfl) (fun hM hS => h) (fun r M' hq hM => ?_)
      obtain ⟨m37, n37, rfl, rfl, h⟩ := rV_out hq
      exact h
theorem v_X12_element_40 {cs : Cs} {Q : Option AV → Mm → Prop} {MI ML : Nat → Nat → Int} {d e nw th x : Nat} {l1 l2 l3 : Int}
    (h : wp cs mX12_newNode KD (rI (GR d e nw th x) fun x43 m43 n43 => wp cs mX12_isGood KD (rI (GR d e nw th x) fun x49 m49 n49 => ((x49 = 0 → Q none (m49, n49, (GR d e nw th x))) ∧ (x49 ≠ 0 → (-2147483648 ≤ 600 * (m49 124 8) ∧ 600 * (m49 124 8) < 2147483648) ∧ (-2147483648 ≤ (600 * (m49 124 8)) + x43 ∧ (600 * (m49 124 8)) + x43 < 2147483648) ∧ (-2147483648 ≤ 6000 * (m49 124 8) ∧ 6000 * (m49 124 8) < 2147483648) ∧ (-2147483648 ≤ (6000 * (m49 124 8)) + l2 ∧ (6000 * (m49 124 8)) + l2 < 2147483648) ∧ (0 ≤ ((600 * (m49 124 8)) + x43) ∧ ((600 * (m49 124 8)) + x43) < 1200) ∧ ∀ m81, m81 = up2 m49 132 ((600 * (m49 124 8)) + x43).toNat ((6000 * (m49 124 8)) + l2) → (-2147483648 ≤ 600 * (m81 124 8) ∧ 600 * (m81 124 8) < 2147483648) ∧ (-2147483648 ≤ (600 * (m81 124 8)) + x43 ∧ (600 * (m81 124 8)) + x43 < 2147483648) ∧ (0 ≤ ((600 * (m81 124 8)) + x43) ∧ ((600 * (m81 124 8)) + x43) < 1200) ∧ ∀ m98, m98 = up2 m81 133 ((600 * (m81 124 8)) + x43).toNat l3 → (0 ≤ (m98 124 64) ∧ (m98 124 64) < 31) ∧ ∀ m109, m109 = up2 m98 173 (m98 124 64).toNat x43 → (-2147483648 ≤ (m109 124 64) + 1 ∧ (m109 124 64) + 1 < 2147483648) ∧ ∀ m117, m117 = up2 m109 124 64 ((m109 124 64) + 1) → (0 ≤ (m117 124 8) ∧ (m117 124 8) < 2) ∧ (((m117 140 (m117 124 8).toNat) < (m117 124 64) → ∀ m160, m160 = up2 m117 140 (m117 124 8).toNat (m117 124 64) → wp cs mX12_element KD Q 164 [some (vR 124), some (vI l1), some (vI l2), some (vI l3), some (vI x43), some (vI 1), none, none] [] (KD, m160, n49, (GR d e nw th x))) ∧ ((m117 124 64) ≤ (m117 140 (m117 124 8).toNat) → ∀ m160, m160 = up2 m117 140 (m117 124 8).toNat (m117 140 (m117 124 8).toNat) → wp cs mX12_element KD Q 164 [some (vR 124), some (vI l1), some (vI l2), some (vI l3), some (vI x43), some (vI 1), none, none] [] (KD, m160, n49, (GR d e nw th x))))))) 0 (padL [vR 124] 1) [] (KD, m43, n43, (GR d e nw th x))) 0 (padL [vR 124, vI 1, vI l2] 4) [] (KD, MI, ML, (GR d e nw th x))) :
    wp cs mX12_element KD Q 40 [some (vR 124), some (vI l1), some (vI l2), some (vI l3), none, none, none, none] [] (KD, MI, ML, (GR d e nw th x)) := by
  refine wp_aload_n dX12_element_40 rfl rfl (by first | exact Or.inl (by decide) | exact Or.inl (by omega) | exact Or.inr (by decide) | exact Or.inr (by omega)) ?_
  refine wp_iconst dX12_element_41 (by decide) ?_
  refine wp_iload_n dX12_element_42 rfl rfl ?_
  refine wp_cVq (n := 2) (mt' := mX12_newNode) (as := [vI 1, vI l2]) (rest := []) _ dX12_element_43 lX12_446 kX12_newNode vX12_newNode (by decide) (by decide +kernel) rfl (Nat.le_of_ble_eq_true rfl) (by decide) rfl rfl rfl (Nat.le_of_ble_eq_true rfl) (fun hM hS => h) (fun r M' hq hM => ?_)
  obtain ⟨x43, m43, n43, rfl, rfl, h⟩ := rI_out hq
  refine wp_istore dX12_element_46 (by decide) (wp_L (L' := [some (vR 124), some (vI l1), some (vI l2), some (vI l3), some (vI x43), none, none, none]) rfl ?_)
  refine wp_aload_n dX12_element_48 rfl rfl (by first | exact Or.inl (by decide) | exact Or.inl (by omega) | exact Or.inr (by decide) | exact Or.inr (by omega)) ?_
  refine wp_cVq (n := 0) (mt' := mX12_isGood) (as := []) (rest := []) _ dX12_element_49 lX12_289 kX12_isGood vX12_isGood (by decide) (by decide +kernel) rfl (Nat.le_of_ble_eq_true rfl) (by decide) rfl rfl rfl (Nat.le_of_ble_eq_true rfl) (fun hM hS => h) (fun r M' hq hM => ?_)
  obtain ⟨x49, m49, n49, rfl, rfl, h⟩ := rI_out hq
  refine wp_if_ne (tgt := 56) dX12_element_52 (by decide) (fun h52 => ?_) (fun h52 => ?_)
  · replace h := h.2 h52
    refine wp_aload_n dX12_element_56 rfl rfl (by first | exact Or.inl (by decide) | exact Or.inl (by omega) | exact Or.inr (by decide) | exact Or.inr (by omega)) ?_
    refine wp_getR dX12_element_57 fX12_37 rfl (by decide) ?_
    refine wp_topR (x' := 132) rfl ?_
    refine wp_sipush dX12_element_60 (by decide +kernel) (by decide) ?_
    refine wp_aload_n dX12_element_63 rfl rfl (by first | exact Or.inl (by decide) | exact Or.inl (by omega) | exact Or.inr (by decide) | exact Or.inr (by omega)) ?_
    refine wp_getI dX12_element_64 fX12_328 rfl (by decide) ?_
    have c0 := h.1
    replace h := h.2
    refine wp_imulr dX12_element_67 c0 ?_
    refine wp_iload dX12_element_68 rfl ?_
    refine wp_pc (pc' := 70) rfl ?_
    have c1 := h.1
    replace h := h.2
    refine wp_iaddr dX12_element_70 c1 ?_
    refine wp_sipush dX12_element_71 (by decide +kernel) (by decide) ?_
    refine wp_aload_n dX12_element_74 rfl rfl (by first | exact Or.inl (by decide) | exact Or.inl (by omega) | exact Or.inr (by decide) | exact Or.inr (by omega)) ?_
    refine wp_getI dX12_element_75 fX12_328 rfl (by decide) ?_
    have c2 := h.1
    replace h := h.2
    refine wp_imulr dX12_element_78 c2 ?_
    refine wp_iload_n dX12_element_79 rfl rfl ?_
    have c3 := h.1
    replace h := h.2
    refine wp_iaddr dX12_element_80 c3 ?_
    have c4 := h.1
    replace h := h.2
    refine wp_iast dX12_element_81 rfl (by decide) c4 ?_
    refine wp_gI (fun m81 e81 => ?_)
    replace h := h m81 e81
    refine wp_pc (pc' := 82) rfl ?_
    refine wp_aload_n dX12_element_82 rfl rfl (by first | exact Or.inl (by decide) | exact Or.inl (by omega) | exact Or.inr (by decide) | exact Or.inr (by omega)) ?_
    refine wp_getR dX12_element_83 fX12_40 rfl (by decide) ?_
    refine wp_topR (x' := 133) rfl ?_
    refine wp_sipush dX12_element_86 (by decide +kernel) (by decide) ?_
    refine wp_aload_n dX12_element_89 rfl rfl (by first | exact Or.inl (by decide) | exact Or.inl (by omega) | exact Or.inr (by decide) | exact Or.inr (by omega)) ?_
    refine wp_getI dX12_element_90 fX12_328 rfl (by decide) ?_
    have c5 := h.1
    replace h := h.2
    refine wp_imulr dX12_element_93 c5 ?_
    refine wp_iload dX12_element_94 rfl ?_
    have c6 := h.1
    replace h := h.2
    refine wp_iaddr dX12_element_96 c6 ?_
    refine wp_pc (pc' := 97) rfl ?_
    refine wp_iload_n dX12_element_97 rfl rfl ?_
    have c7 := h.1
    replace h := h.2
    refine wp_iast dX12_element_98 rfl (by decide) c7 ?_
    refine wp_gI (fun m98 e98 => ?_)
    replace h := h m98 e98
    refine wp_aload_n dX12_element_99 rfl rfl (by first | exact Or.inl (by decide) | exact Or.inl (by omega) | exact Or.inr (by decide) | exact Or.inr (by omega)) ?_
    refine wp_getR dX12_element_100 fX12_161 rfl (by decide) ?_
    refine wp_topR (x' := 173) rfl ?_
    refine wp_aload_n dX12_element_103 rfl rfl (by first | exact Or.inl (by decide) | exact Or.inl (by omega) | exact Or.inr (by decide) | exact Or.inr (by omega)) ?_
    refine wp_getI dX12_element_104 fX12_443 rfl (by decide) ?_
    refine wp_iload dX12_element_107 rfl ?_
    have c8 := h.1
    replace h := h.2
    refine wp_iast dX12_element_109 rfl (by decide) c8 ?_
    refine wp_gI (fun m109 e109 => ?_)
    replace h := h m109 e109
    refine wp_pc (pc' := 110) rfl ?_
    refine wp_aload_n dX12_element_110 rfl rfl (by first | exact Or.inl (by decide) | exact Or.inl (by omega) | exact Or.inr (by decide) | exact Or.inr (by omega)) ?_
    refine wp_dup dX12_element_111 (fun x e => by cases e) ?_
    refine wp_getI dX12_element_112 fX12_443 rfl (by decide) ?_
    refine wp_iconst dX12_element_115 (by decide) ?_
    have c9 := h.1
    replace h := h.2
    refine wp_iaddr dX12_element_116 c9 ?_
    refine wp_putI dX12_element_117 pX12_443 rfl (by decide) ?_
    refine wp_gI (fun m117 e117 => ?_)
    replace h := h m117 e117
    refine wp_aload_n dX12_element_120 rfl rfl (by first | exact Or.inl (by decide) | exact Or.inl (by omega) | exact Or.inr (by decide) | exact Or.inr (by omega)) ?_
    refine wp_getR dX12_element_121 fX12_61 rfl (by decide) ?_
    refine wp_topR (x' := 140) rfl ?_
    refine wp_pc (pc' := 124) rfl ?_
    refine wp_aload_n dX12_element_124 rfl rfl (by first | exact Or.inl (by decide) | exact Or.inl (by omega) | exact Or.inr (by decide) | exact Or.inr (by omega)) ?_
    refine wp_getI dX12_element_125 fX12_328 rfl (by decide) ?_
    refine wp_aload_n dX12_element_128 rfl rfl (by first | exact Or.inl (by decide) | exact Or.inl (by omega) | exact Or.inr (by decide) | exact Or.inr (by omega)) ?_
    refine wp_getI dX12_element_129 fX12_443 rfl (by decide) ?_
    refine wp_aload_n dX12_element_132 rfl rfl (by first | exact Or.inl (by decide) | exact Or.inl (by omega) | exact Or.inr (by decide) | exact Or.inr (by omega)) ?_
    refine wp_getR dX12_element_133 fX12_61 rfl (by decide) ?_
    refine wp_topR (x' := 140) rfl ?_
    refine wp_aload_n dX12_element_136 rfl rfl (by first | exact Or.inl (by decide) | exact Or.inl (by omega) | exact Or.inr (by decide) | exact Or.inr (by omega)) ?_
    refine wp_getI dX12_element_137 fX12_328 rfl (by decide) ?_
    refine wp_pc (pc' := 140) rfl ?_
    have c10 := h.1
    replace h := h.2
    refine wp_iald dX12_element_140 rfl (by decide) c10 ?_
    refine wp_icmp_le (tgt := 151) dX12_element_141 (by decide) (fun h141 => ?_) (fun h141 => ?_)
    · replace h := h.2 h141
      refine wp_aload_n dX12_element_151 rfl rfl (by first | exact Or.inl (by decide) | exact Or.inl (by omega) | exact Or.inr (by decide) | exact Or.inr (by omega)) ?_
      refine wp_getR dX12_element_152 fX12_61 rfl (by decide) ?_
      refine wp_topR (x' := 140) rfl ?_
      refine wp_aload_n dX12_element_155 rfl rfl (by first | exact Or.inl (by decide) | exact Or.inl (by omega) | exact Or.inr (by decide) | exact Or.inr (by omega)) ?_
      refine wp_getI dX12_element_156 fX12_328 rfl (by decide) ?_
      refine wp_iald dX12_element_159 rfl (by decide) c10 ?_
      refine wp_iast dX12_element_160 rfl (by decide) c10 ?_
      refine wp_gI (fun m160 e160 => ?_)
      replace h := h m160 e160
      refine wp_iconst dX12_element_161 (by decide) ?_
      refine wp_pc (pc' := 162) rfl ?_
      refine wp_istore dX12_element_162 (by decide) (wp_L (L' := [some (vR 124), some (vI l1), some (vI l2), some (vI l3), some (vI x43), some (vI 1), none, none]) rfl ?_)
      exact h
    · replace h := h.1 h141
      refine wp_aload_n dX12_element_144 rfl rfl (by first | exact Or.inl (by decide) | exact Or.inl (by omega) | exact Or.inr (by decide) | exact Or.inr (by omega)) ?_
      refine wp_getI dX12_element_145 fX12_443 rfl (by decide) ?_
      refine wp_goto (tgt := 160) dX12_element_148 (by decide) ?_
      refine wp_iast dX12_element_160 rfl (by decide) c10 ?_
      refine wp_gI (fun m160 e160 => ?_)
      replace h := h m160 e160
      refine wp_iconst dX12_element_161 (by decide) ?_
      refine wp_istore dX12_element_162 (by decide) (wp_L (L' := [some (vR 124), some (vI l1), some (vI l2), some (vI l3), some (vI x43), some (vI 1), none, none]) rfl ?_)
      exact h
  · replace h := h.1 h52
    exact wp_vret dX12_element_55 rfl (fun _ => h)
theorem v_X12_element_164 {cs : Cs} {Q : Option AV → Mm → Prop} {MI ML : Nat → Nat → Int} {d e nw th x : Nat} {l1 l2 l3 l4 l5 : Int}
    (h : wp cs mX12_isGood KD (rI (GR d e nw th x) fun x165 m165 n165 => ((x165 = 0 → wp cs mX12_element KD Q 230 [some (vR 124), some (vI l1), some (vI l2), some (vI l3), some (vI l4), some (vI l5), none, none] [] (KD, m165, n165, (GR d e nw th x))) ∧ (x165 ≠ 0 → ((l5 = 0 → wp cs mX12_element KD Q 230 [some (vR 124), some (vI l1), some (vI l2), some (vI l3), some (vI l4), some (vI l5), none, none] [] (KD, m165, n165, (GR d e nw th x))) ∧ (l5 ≠ 0 → wp cs mX12_maybeS KD (rV (GR d e nw th x) fun m183 n183 => (((m165 124 4) < (m183 124 4) → wp cs mX12_octet KD (rI (GR d e nw th x) fun x200 m200 n200 => wp cs mX12_isFirst KD (rI (GR d e nw th x) fun x203 m203 n203 => ((x203 = 0 → wp cs mX12_element KD Q 214 [some (vR 124), some (vI l1), some (vI l2), some (vI l3), some (vI l4), some (vI l5), some (vI (m165 124 4)), none] [vI 0] (KD, m203, n203, (GR d e nw th x))) ∧ (x203 ≠ 0 → wp cs mX12_element KD Q 214 [some (vR 124), some (vI l1), some (vI l2), some (vI l3), some (vI l4), some (vI l5), some (vI (m165 124 4)), none] [vI 1] (KD, m203, n203, (GR d e nw th x))))) 0 (padL [vI x200] 1) [] (KD, m200, n200, (GR d e nw th x))) 0 (padL [vR 124, vI (m183 124 4)] 2) [] (KD, m183, n183, (GR d e nw th x))) ∧ ((m183 124 4) ≤ (m165 124 4) → wp cs mX12_element KD Q 214 [some (vR 124), some (vI l1), some (vI l2), some (vI l3), some (vI l4), some (vI l5), some (vI (m165 124 4)), none] [vI 0] (KD, m183, n183, (GR d e nw th x))))) 0 (padL [vR 124] 1) [] (KD, m165, n165, (GR d e nw th x))))))) 0 (padL [vR 124] 1) [] (KD, MI, ML, (GR d e nw th x))) :
    wp cs mX12_element KD Q 164 [some (vR 124), some (vI l1), some (vI l2), some (vI l3), some (vI l4), some (vI l5), none, none] [] (KD, MI, ML, (GR d e nw th x)) := by
  refine wp_aload_n dX12_element_164 rfl rfl (by first | exact Or.inl (by decide) | exact Or.inl (by omega) | exact Or.inr (by decide) | exact Or.inr (by omega)) ?_
  refine wp_cVq (n := 0) (mt' := mX12_isGood) (as := []) (rest := []) _ dX12_element_165 lX12_289 kX12_isGood vX12_isGood (by decide) (by decide +kernel) rfl (Nat.le_of_ble_eq_true rfl) (by decide) rfl rfl rfl (Nat.le_of_ble_eq_true rfl) (fun hM hS => h) (fun r M' hq hM => ?_)
  obtain ⟨x165, m165, n165, rfl, rfl, h⟩ := rI_out hq
  refine wp_if_eq (tgt := 230) dX12_element_168 (by decide) (fun h168 => ?_) (fun h168 => ?_)
  · replace h := h.1 h168
    exact h
  · replace h := h.2 h168
    refine wp_iload dX12_element_171 rfl ?_
    refine wp_if_eq (tgt := 230) dX12_element_173 (by decide) (fun h173 => ?_) (fun h173 => ?_)
    · replace h := h.1 h173
      exact h
    · replace h := h.2 h173
      refine wp_aload_n dX12_element_176 rfl rfl (by first | exact Or.inl (by decide) | exact Or.inl (by omega) | exact Or.inr (by decide) | exact Or.inr (by omega)) ?_
      refine wp_getI dX12_element_177 fX12_276 rfl (by decide) ?_
      refine wp_istore dX12_element_180 (by decide) (wp_L (L' := [some (vR 124), some (vI l1), some (vI l2), some (vI l3), some (vI l4), some (vI l5), some (vI (m165 124 4)), none]) rfl ?_)
      refine wp_aload_n dX12_element_182 rfl rfl (by first | exact Or.inl (by decide) | exact Or.inl (by omega) | exact Or.inr (by decide) | exact Or.inr (by omega)) ?_
      refine wp_cVq (n := 0) (mt' := mX12_maybeS) (as := []) (rest := []) _ dX12_element_183 lX12_300 kX12_maybeS vX12_maybeS (by decide) (by decide +kernel) rfl (Nat.le_of_ble_eq_true rfl) (by decide) rfl rfl rfl (Nat.le_of_ble_eq_true rfl) (fun hM hS => h) (fun r M' hq hM => ?_)
      obtain ⟨m183, n183, rfl, rfl, h⟩ := rV_out hq
      refine wp_aload_n dX12_element_186 rfl rfl (by first | exact Or.inl (by decide) | exact Or.inl (by omega) | exact Or.inr (by decide) | exact Or.inr (by omega)) ?_
      refine wp_getI dX12_element_187 fX12_276 rfl (by decide) ?_
      refine wp_iload dX12_element_190 rfl ?_
      refine wp_icmp_le (tgt := 213) dX12_element_192 (by decide) (fun h192 => ?_) (fun h192 => ?_)
      · replace h := h.2 h192
        refine wp_iconst dX12_element_213 (by decide) ?_
        exact h
      · replace h := h.1 h192
        refine wp_aload_n dX12_element_195 rfl rfl (by first | exact Or.inl (by decide) | exact Or.inl (by omega) | exact Or.inr (by decide) | exact Or.inr (by omega)) ?_
        refine wp_aload_n dX12_element_196 rfl rfl (by first | exact Or.inl (by decide) | exact Or.inl (by omega) | exact Or.inr (by decide) | exact Or.inr (by omega)) ?_
        refine wp_getI dX12_element_197 fX12_276 rfl (by decide) ?_
        refine wp_cVq (n := 1) (mt' := mX12_octet) (as := [vI (m183 124 4)]) (rest := []) _ dX12_element_200 lX12_279 kX12_octet vX12_octet (by decide) (by decide +kernel) rfl (Nat.le_of_ble_eq_true rfl) (by decide) rfl rfl rfl (Nat.le_of_ble_eq_true rfl) (fun hM hS => h) (fun r M' hq hM => ?_)
        obtain ⟨x200, m200, n200, rfl, rfl, h⟩ := rI_out hq
        refine wp_cSq (n := 1) (mt' := mX12_isFirst) (as := [vI x200]) (rest := []) _ dX12_element_203 lX12_268 kX12_isFirst vX12_isFirst (by decide) (by decide +kernel) rfl (Nat.le_of_ble_eq_true rfl) rfl (Nat.le_of_ble_eq_true rfl) (fun hM hS => h) (fun r M' hq hM => ?_)
        obtain ⟨x203, m203, n203, rfl, rfl, h⟩ := rI_out hq
        refine wp_if_eq (tgt := 213) dX12_element_206 (by decide) (fun h206 => ?_) (fun h206 => ?_)
        · replace h := h.1 h206
          refine wp_iconst dX12_element_213 (by decide) ?_
          exact h
        · replace h := h.2 h206
          refine wp_iconst dX12_element_209 (by decide) ?_
          refine wp_goto (tgt := 214) dX12_element_210 (by decide) ?_
          exact h
theorem v_X12_element_214 {cs : Cs} {Q : Option AV → Mm → Prop} {MI ML : Nat → Nat → Int} {d e nw th x : Nat} {l1 l2 l3 l4 l5 l6 s0 : Int}
    (h : ((s0 = 0 → wp cs mX12_element KD Q 164 [some (vR 124), some (vI l1), some (vI l2), some (vI l3), some (vI l4), some (vI s0), none, none] [] (KD, MI, ML, (GR d e nw th x))) ∧ (s0 ≠ 0 → wp cs mX12_attribute KD (rV (GR d e nw th x) fun m224 n224 => wp cs mX12_element KD Q 164 [some (vR 124), some (vI l1), some (vI l2), some (vI l3), some (vI l4), some (vI s0), none, none] [] (KD, m224, n224, (GR d e nw th x))) 0 (padL [vR 124, vI l4] 7) [] (KD, MI, ML, (GR d e nw th x))))) :
    wp cs mX12_element KD Q 214 [some (vR 124), some (vI l1), some (vI l2), some (vI l3), some (vI l4), some (vI l5), some (vI l6), none] [vI s0] (KD, MI, ML, (GR d e nw th x)) := by
  refine wp_istore dX12_element_214 (by decide) (wp_L (L' := [some (vR 124), some (vI l1), some (vI l2), some (vI l3), some (vI l4), some (vI s0), some (vI l6), none]) rfl ?_)
  refine wp_iload dX12_element_216 rfl ?_
  refine wp_if_eq (tgt := 227) dX12_element_218 (by decide) (fun h218 => ?_) (fun h218 => ?_)
  · replace h := h.1 h218
    refine wp_goto (tgt := 164) dX12_element_227 (by decide) ?_
    refine wp_forget (L' := [some (vR 124), some (vI l1), some (vI l2), some (vI l3), some (vI l4), some (vI s0), none, none]) (by repeat' (first | exact trivial | refine ⟨rfl, ?_⟩)) ?_
    exact h
  · replace h := h.2 h218
    refine wp_aload_n dX12_element_221 rfl rfl (by first | exact Or.inl (by decide) | exact Or.inl (by omega) | exact Or.inr (by decide) | exact Or.inr (by omega)) ?_
    refine wp_iload dX12_element_222 rfl ?_
    refine wp_cVq (n := 1) (mt' := mX12_attribute) (as := [vI l4]) (rest := []) _ dX12_element_224 lX12_450 kX12_attribute vX12_attribute (by decide) (by decide +kernel) rfl (Nat.le_of_ble_eq_true rfl) (by decide) rfl rfl rfl (Nat.le_of_ble_eq_true rfl) (fun hM hS => h) (fun r M' hq hM => ?_)
    obtain ⟨m224, n224, rfl, rfl, h⟩ := rV_out hq
    refine wp_goto (tgt := 164) dX12_element_227 (by decide) ?_
    refine wp_forget (L' := [some (vR 124), some (vI l1), some (vI l2), some (vI l3), some (vI l4), some (vI s0), none, none]) (by repeat' (first | exact trivial | refine ⟨rfl, ?_⟩)) ?_
    exact h
theorem v_X12_element_230 {cs : Cs} {Q : Option AV → Mm → Prop} {MI ML : Nat → Nat → Int} {d e nw th x : Nat} {l1 l2 l3 l4 l5 : Int}
    (h : wp cs mX12_isGood KD (rI (GR d e nw th x) fun x231 m231 n231 => ((x231 = 0 → Q none (m231, n231, (GR d e nw th x))) ∧ (x231 ≠ 0 → wp cs mX12_stands KD (rI (GR d e nw th x) fun x249 m249 n249 => ((x249 = 0 → wp cs mX12_passes KD (rI (GR d e nw th x) fun x275 m275 n275 => wp cs mX12_defaultsOf KD (rV (GR d e nw th x) fun m284 n284 => ((x249 = 0 → ∀ m303, m303 = up2 m284 124 64 (m284 124 64) → Q none (m303, n284, (GR d e nw th x))) ∧ (x249 ≠ 0 → (-2147483648 ≤ (m284 124 64) - 1 ∧ (m284 124 64) - 1 < 2147483648) ∧ ∀ m303, m303 = up2 m284 124 64 ((m284 124 64) - 1) → Q none (m303, n284, (GR d e nw th x))))) 0 (padL [vR 124, vI l4, vI (m231 124 4)] 7) [] (KD, m275, n275, (GR d e nw th x))) 0 (padL [vR 124, vI 62] 2) [] (KD, m249, n249, (GR d e nw th x))) ∧ (x249 ≠ 0 → (-2147483648 ≤ (m249 124 4) + 2 ∧ (m249 124 4) + 2 < 2147483648) ∧ ∀ m266, m266 = up2 m249 124 4 ((m249 124 4) + 2) → wp cs mX12_defaultsOf KD (rV (GR d e nw th x) fun m284 n284 => ((x249 = 0 → ∀ m303, m303 = up2 m284 124 64 (m284 124 64) → Q none (m303, n284, (GR d e nw th x))) ∧ (x249 ≠ 0 → (-2147483648 ≤ (m284 124 64) - 1 ∧ (m284 124 64) - 1 < 2147483648) ∧ ∀ m303, m303 = up2 m284 124 64 ((m284 124 64) - 1) → Q none (m303, n284, (GR d e nw th x))))) 0 (padL [vR 124, vI l4, vI (m231 124 4)] 7) [] (KD, m266, n249, (GR d e nw th x))))) 0 (padL [vR 124, vL 12094, vI 2] 6) [] (KD, m231, n231, (GR d e nw th x))))) 0 (padL [vR 124] 1) [] (KD, MI, ML, (GR d e nw th x))) :
    wp cs mX12_element KD Q 230 [some (vR 124), some (vI l1), some (vI l2), some (vI l3), some (vI l4), some (vI l5), none, none] [] (KD, MI, ML, (GR d e nw th x)) := by
  refine wp_aload_n dX12_element_230 rfl rfl (by first | exact Or.inl (by decide) | exact Or.inl (by omega) | exact Or.inr (by decide) | exact Or.inr (by omega)) ?_
  refine wp_cVq (n := 0) (mt' := mX12_isGood) (as := []) (rest := []) _ dX12_element_231 lX12_289 kX12_isGood vX12_isGood (by decide) (by decide +kernel) rfl (Nat.le_of_ble_eq_true rfl) (by decide) rfl rfl rfl (Nat.le_of_ble_eq_true rfl) (fun hM hS => h) (fun r M' hq hM => ?_)
  obtain ⟨x231, m231, n231, rfl, rfl, h⟩ := rI_out hq
  refine wp_if_ne (tgt := 238) dX12_element_234 (by decide) (fun h234 => ?_) (fun h234 => ?_)
  · replace h := h.2 h234
    refine wp_aload_n dX12_element_238 rfl rfl (by first | exact Or.inl (by decide) | exact Or.inl (by omega) | exact Or.inr (by decide) | exact Or.inr (by omega)) ?_
    refine wp_getI dX12_element_239 fX12_276 rfl (by decide) ?_
    refine wp_istore dX12_element_242 (by decide) (wp_L (L' := [some (vR 124), some (vI l1), some (vI l2), some (vI l3), some (vI l4), some (vI l5), some (vI (m231 124 4)), none]) rfl ?_)
    refine wp_aload_n dX12_element_244 rfl rfl (by first | exact Or.inl (by decide) | exact Or.inl (by omega) | exact Or.inr (by decide) | exact Or.inr (by omega)) ?_
    refine wp_ldc2 (x := 12094) dX12_element_245 cX12_453 (by decide) ?_
    refine wp_iconst dX12_element_248 (by decide) ?_
    refine wp_cVq (n := 2) (mt' := mX12_stands) (as := [vL 12094, vI 2]) (rest := []) _ dX12_element_249 lX12_285 kX12_stands vX12_stands (by decide) (by decide +kernel) rfl (Nat.le_of_ble_eq_true rfl) (by decide) rfl rfl rfl (Nat.le_of_ble_eq_true rfl) (fun hM hS => h) (fun r M' hq hM => ?_)
    obtain ⟨x249, m249, n249, rfl, rfl, h⟩ := rI_out hq
    refine wp_istore dX12_element_252 (by decide) (wp_L (L' := [some (vR 124), some (vI l1), some (vI l2), some (vI l3), some (vI l4), some (vI l5), some (vI (m231 124 4)), some (vI x249)]) rfl ?_)
    refine wp_iload dX12_element_254 rfl ?_
    refine wp_if_eq (tgt := 272) dX12_element_256 (by decide) (fun h256 => ?_) (fun h256 => ?_)
    · replace h := h.1 h256
      refine wp_aload_n dX12_element_272 rfl rfl (by first | exact Or.inl (by decide) | exact Or.inl (by omega) | exact Or.inr (by decide) | exact Or.inr (by omega)) ?_
      refine wp_bipush dX12_element_273 (by decide +kernel) (by decide) ?_
      refine wp_cVq (n := 1) (mt' := mX12_passes) (as := [vI 62]) (rest := []) _ dX12_element_275 lX12_340 kX12_passes vX12_passes (by decide) (by decide +kernel) rfl (Nat.le_of_ble_eq_true rfl) (by decide) rfl rfl rfl (Nat.le_of_ble_eq_true rfl) (fun hM hS => h) (fun r M' hq hM => ?_)
      obtain ⟨x275, m275, n275, rfl, rfl, h⟩ := rI_out hq
      refine wp_istore_n dX12_element_278 rfl (by decide) (wp_L (L' := [some (vR 124), some (vI x275), some (vI l2), some (vI l3), some (vI l4), some (vI l5), some (vI (m231 124 4)), some (vI x249)]) rfl ?_)
      refine wp_aload_n dX12_element_279 rfl rfl (by first | exact Or.inl (by decide) | exact Or.inl (by omega) | exact Or.inr (by decide) | exact Or.inr (by omega)) ?_
      refine wp_iload dX12_element_280 rfl ?_
      refine wp_iload dX12_element_282 rfl ?_
      refine wp_cVq (n := 2) (mt' := mX12_defaultsOf) (as := [vI l4, vI (m231 124 4)]) (rest := []) _ dX12_element_284 lX12_455 kX12_defaultsOf vX12_defaultsOf (by decide) (by decide +kernel) rfl (Nat.le_of_ble_eq_true rfl) (by decide) rfl rfl rfl (Nat.le_of_ble_eq_true rfl) (fun hM hS => h) (fun r M' hq hM => ?_)
      obtain ⟨m284, n284, rfl, rfl, h⟩ := rV_out hq
      refine wp_aload_n dX12_element_287 rfl rfl (by first | exact Or.inl (by decide) | exact Or.inl (by omega) | exact Or.inr (by decide) | exact Or.inr (by omega)) ?_
      refine wp_dup dX12_element_288 (fun x e => by cases e) ?_
      refine wp_getI dX12_element_289 fX12_443 rfl (by decide) ?_
      refine wp_iload dX12_element_292 rfl ?_
      refine wp_if_eq (tgt := 301) dX12_element_294 (by decide) (fun h294 => ?_) (fun h294 => ?_)
      · replace h := h.1 h294
        refine wp_iconst dX12_element_301 (by decide) ?_
        refine wp_ok (fun hM hL hS => ?_)
        have hr := hS _ (List.mem_cons_of_mem _ List.mem_cons_self)
        refine wp_isubr dX12_element_302 (by have := hr; simp only [okV] at this; omega) ?_
        refine wp_topI (x' := (m284 124 64)) (by omega) ?_
        refine wp_putI dX12_element_303 pX12_443 rfl (by decide) ?_
        refine wp_gI (fun m303 e303 => ?_)
        replace h := h m303 e303
        exact wp_vret dX12_element_306 rfl (fun _ => h)
      · replace h := h.2 h294
        refine wp_iconst dX12_element_297 (by decide) ?_
        refine wp_goto (tgt := 302) dX12_element_298 (by decide) ?_
        have c0 := h.1
        replace h := h.2
        refine wp_isubr dX12_element_302 c0 ?_
        refine wp_putI dX12_element_303 pX12_443 rfl (by decide) ?_
        refine wp_gI (fun m303 e303 => ?_)
        replace h := h m303 e303
        exact wp_vret dX12_element_306 rfl (fun _ => h)
    · replace h := h.2 h256
      refine wp_aload_n dX12_element_259 rfl rfl (by first | exact Or.inl (by decide) | exact Or.inl (by omega) | exact Or.inr (by decide) | exact Or.inr (by omega)) ?_
      refine wp_dup dX12_element_260 (fun x e => by cases e) ?_
      refine wp_getI dX12_element_261 fX12_276 rfl (by decide) ?_
      refine wp_iconst dX12_element_264 (by decide) ?_
      have c0 := h.1
      replace h := h.2
      refine wp_iaddr dX12_element_265 c0 ?_
      refine wp_putI dX12_element_266 pX12_276 rfl (by decide) ?_
      refine wp_gI (fun m266 e266 => ?_)
      replace h := h m266 e266
      refine wp_goto (tgt := 279) dX12_element_269 (by decide) ?_
      refine wp_pc (pc' := 279) rfl ?_
      refine wp_aload_n dX12_element_279 rfl rfl (by first | exact Or.inl (by decide) | exact Or.inl (by omega) | exact Or.inr (by decide) | exact Or.inr (by omega)) ?_
      refine wp_iload dX12_element_280 rfl ?_
      refine wp_iload dX12_element_282 rfl ?_
      refine wp_cVq (n := 2) (mt' := mX12_defaultsOf) (as := [vI l4, vI (m231 124 4)]) (rest := []) _ dX12_element_284 lX12_455 kX12_defaultsOf vX12_defaultsOf (by decide) (by decide +kernel) rfl (Nat.le_of_ble_eq_true rfl) (by decide) rfl rfl rfl (Nat.le_of_ble_eq_true rfl) (fun hM hS => h) (fun r M' hq hM => ?_)
      obtain ⟨m284, n284, rfl, rfl, h⟩ := rV_out hq
      refine wp_aload_n dX12_element_287 rfl rfl (by first | exact Or.inl (by decide) | exact Or.inl (by omega) | exact Or.inr (by decide) | exact Or.inr (by omega)) ?_
      refine wp_dup dX12_element_288 (fun x e => by cases e) ?_
      refine wp_getI dX12_element_289 fX12_443 rfl (by decide) ?_
      refine wp_iload dX12_element_292 rfl ?_
      refine wp_if_eq (tgt := 301) dX12_element_294 (by decide) (fun h294 => ?_) (fun h294 => ?_)
      · replace h := h.1 h294
        refine wp_iconst dX12_element_301 (by decide) ?_
        refine wp_ok (fun hM hL hS => ?_)
        have hr := hS _ (List.mem_cons_of_mem _ List.mem_cons_self)
        refine wp_isubr dX12_element_302 (by have := hr; simp only [okV] at this; omega) ?_
        refine wp_topI (x' := (m284 124 64)) (by omega) ?_
        refine wp_putI dX12_element_303 pX12_443 rfl (by decide) ?_
        refine wp_gI (fun m303 e303 => ?_)
        replace h := h m303 e303
        exact wp_vret dX12_element_306 rfl (fun _ => h)
      · replace h := h.2 h294
        refine wp_iconst dX12_element_297 (by decide) ?_
        refine wp_goto (tgt := 302) dX12_element_298 (by decide) ?_
        have c1 := h.1
        replace h := h.2
        refine wp_isubr dX12_element_302 c1 ?_
        refine wp_putI dX12_element_303 pX12_443 rfl (by decide) ?_
        refine wp_gI (fun m303 e303 => ?_)
        replace h := h m303 e303
        exact wp_vret dX12_element_306 rfl (fun _ => h)
  · replace h := h.1 h234
    exact wp_vret dX12_element_237 rfl (fun _ => h)
theorem dX12_close_0 : decode cX12_close 0 = .ok (.aload_n 0, 1) := by decide +kernel
theorem dX12_close_1 : decode cX12_close 1 = .ok (.dup, 1) := by decide +kernel
theorem dX12_close_2 : decode cX12_close 2 = .ok (.getfield 276, 3) := by decide +kernel
theorem dX12_close_5 : decode cX12_close 5 = .ok (.iconst 2, 1) := by decide +kernel
theorem dX12_close_6 : decode cX12_close 6 = .ok (.iadd, 1) := by decide +kernel
theorem dX12_close_7 : decode cX12_close 7 = .ok (.putfield 276, 3) := by decide +kernel
theorem dX12_close_10 : decode cX12_close 10 = .ok (.aload_n 0, 1) := by decide +kernel
theorem dX12_close_11 : decode cX12_close 11 = .ok (.invokevirtual 351, 3) := by decide +kernel
theorem dX12_close_14 : decode cX12_close 14 = .ok (.istore_n 1, 1) := by decide +kernel
theorem dX12_close_15 : decode cX12_close 15 = .ok (.sipush 600, 3) := by decide +kernel
theorem dX12_close_18 : decode cX12_close 18 = .ok (.aload_n 0, 1) := by decide +kernel
theorem dX12_close_19 : decode cX12_close 19 = .ok (.getfield 328, 3) := by decide +kernel
theorem dX12_close_22 : decode cX12_close 22 = .ok (.imul, 1) := by decide +kernel
theorem dX12_close_23 : decode cX12_close 23 = .ok (.aload_n 0, 1) := by decide +kernel
theorem dX12_close_24 : decode cX12_close 24 = .ok (.getfield 161, 3) := by decide +kernel
theorem dX12_close_27 : decode cX12_close 27 = .ok (.aload_n 0, 1) := by decide +kernel
theorem dX12_close_28 : decode cX12_close 28 = .ok (.getfield 443, 3) := by decide +kernel
theorem dX12_close_31 : decode cX12_close 31 = .ok (.iconst 1, 1) := by decide +kernel
theorem dX12_close_32 : decode cX12_close 32 = .ok (.isub, 1) := by decide +kernel
theorem dX12_close_33 : decode cX12_close 33 = .ok (.iaload, 1) := by decide +kernel
theorem dX12_close_34 : decode cX12_close 34 = .ok (.iadd, 1) := by decide +kernel
theorem dX12_close_35 : decode cX12_close 35 = .ok (.istore_n 2, 1) := by decide +kernel
theorem dX12_close_36 : decode cX12_close 36 = .ok (.aload_n 0, 1) := by decide +kernel
theorem dX12_close_37 : decode cX12_close 37 = .ok (.invokevirtual 289, 3) := by decide +kernel
theorem dX12_close_40 : decode cX12_close 40 = .ok (.ifCond .eq 43, 3) := by decide +kernel
theorem dX12_close_43 : decode cX12_close 43 = .ok (.aload_n 0, 1) := by decide +kernel
theorem dX12_close_44 : decode cX12_close 44 = .ok (.sipush 6000, 3) := by decide +kernel
theorem dX12_close_47 : decode cX12_close 47 = .ok (.aload_n 0, 1) := by decide +kernel
theorem dX12_close_48 : decode cX12_close 48 = .ok (.getfield 328, 3) := by decide +kernel
theorem dX12_close_51 : decode cX12_close 51 = .ok (.imul, 1) := by decide +kernel
theorem dX12_close_52 : decode cX12_close 52 = .ok (.iload_n 1, 1) := by decide +kernel
theorem dX12_close_53 : decode cX12_close 53 = .ok (.iadd, 1) := by decide +kernel
theorem dX12_close_54 : decode cX12_close 54 = .ok (.aload_n 0, 1) := by decide +kernel
theorem dX12_close_55 : decode cX12_close 55 = .ok (.getfield 306, 3) := by decide +kernel
theorem dX12_close_58 : decode cX12_close 58 = .ok (.aload_n 0, 1) := by decide +kernel
theorem dX12_close_59 : decode cX12_close 59 = .ok (.getfield 37, 3) := by decide +kernel
theorem dX12_close_62 : decode cX12_close 62 = .ok (.iload_n 2, 1) := by decide +kernel
theorem dX12_close_63 : decode cX12_close 63 = .ok (.iaload, 1) := by decide +kernel
theorem dX12_close_64 : decode cX12_close 64 = .ok (.aload_n 0, 1) := by decide +kernel
theorem dX12_close_65 : decode cX12_close 65 = .ok (.getfield 40, 3) := by decide +kernel
theorem dX12_close_68 : decode cX12_close 68 = .ok (.iload_n 2, 1) := by decide +kernel
theorem dX12_close_69 : decode cX12_close 69 = .ok (.iaload, 1) := by decide +kernel
theorem dX12_close_70 : decode cX12_close 70 = .ok (.invokevirtual 412, 3) := by decide +kernel
theorem dX12_close_73 : decode cX12_close 73 = .ok (.ifCond .ne 10, 3) := by decide +kernel
theorem dX12_close_76 : decode cX12_close 76 = .ok (.aload_n 0, 1) := by decide +kernel
theorem dX12_close_77 : decode cX12_close 77 = .ok (.bipush (-2), 2) := by decide +kernel
theorem dX12_close_79 : decode cX12_close 79 = .ok (.iload_n 1, 1) := by decide +kernel
theorem dX12_close_80 : decode cX12_close 80 = .ok (.invokevirtual 293, 3) := by decide +kernel
theorem dX12_close_83 : decode cX12_close 83 = .ok (.aload_n 0, 1) := by decide +kernel
theorem dX12_close_84 : decode cX12_close 84 = .ok (.invokevirtual 300, 3) := by decide +kernel
theorem dX12_close_87 : decode cX12_close 87 = .ok (.aload_n 0, 1) := by decide +kernel
theorem dX12_close_88 : decode cX12_close 88 = .ok (.bipush 62, 2) := by decide +kernel
theorem dX12_close_90 : decode cX12_close 90 = .ok (.invokevirtual 340, 3) := by decide +kernel
theorem dX12_close_93 : decode cX12_close 93 = .ok (.istore_n 3, 1) := by decide +kernel
theorem dX12_close_94 : decode cX12_close 94 = .ok (.aload_n 0, 1) := by decide +kernel
theorem dX12_close_95 : decode cX12_close 95 = .ok (.dup, 1) := by decide +kernel
theorem dX12_close_96 : decode cX12_close 96 = .ok (.getfield 443, 3) := by decide +kernel
theorem dX12_close_99 : decode cX12_close 99 = .ok (.iconst 1, 1) := by decide +kernel
theorem dX12_close_100 : decode cX12_close 100 = .ok (.isub, 1) := by decide +kernel
theorem dX12_close_101 : decode cX12_close 101 = .ok (.putfield 443, 3) := by decide +kernel
theorem dX12_close_104 : decode cX12_close 104 = .ok (.return_, 1) := by decide +kernel
theorem v_X12_close_0 {cs : Cs} {Q : Option AV → Mm → Prop} {MI ML : Nat → Nat → Int} {d e nw th x : Nat}
    (h : (-2147483648 ≤ (MI 124 4) + 2 ∧ (MI 124 4) + 2 < 2147483648) ∧ ∀ m7, m7 = up2 MI 124 4 ((MI 124 4) + 2) → wp cs mX12_takeName KD (rI (GR d e nw th x) fun x11 m11 n11 => (-2147483648 ≤ 600 * (m11 124 8) ∧ 600 * (m11 124 8) < 2147483648) ∧ (-2147483648 ≤ (m11 124 64) - 1 ∧ (m11 124 64) - 1 < 2147483648) ∧ (0 ≤ ((m11 124 64) - 1) ∧ ((m11 124 64) - 1) < 31) ∧ (-2147483648 ≤ (600 * (m11 124 8)) + (m11 173 ((m11 124 64) - 1).toNat) ∧ (600 * (m11 124 8)) + (m11 173 ((m11 124 64) - 1).toNat) < 2147483648) ∧ wp cs mX12_isGood KD (rI (GR d e nw th x) fun x37 m37 n37 => ((x37 = 0 → wp cs mX12_maybeS KD (rV (GR d e nw th x) fun m84 n84 => wp cs mX12_passes KD (rI (GR d e nw th x) fun x90 m90 n90 => (-2147483648 ≤ (m90 124 64) - 1 ∧ (m90 124 64) - 1 < 2147483648) ∧ ∀ m101, m101 = up2 m90 124 64 ((m90 124 64) - 1) → Q none (m101, n90, (GR d e nw th x))) 0 (padL [vR 124, vI 62] 2) [] (KD, m84, n84, (GR d e nw th x))) 0 (padL [vR 124] 1) [] (KD, m37, n37, (GR d e nw th x))) ∧ (x37 ≠ 0 → (-2147483648 ≤ 6000 * (m37 124 8) ∧ 6000 * (m37 124 8) < 2147483648) ∧ (-2147483648 ≤ (6000 * (m37 124 8)) + x11 ∧ (6000 * (m37 124 8)) + x11 < 2147483648) ∧ (0 ≤ ((600 * (m11 124 8)) + (m11 173 ((m11 124 64) - 1).toNat)) ∧ ((600 * (m11 124 8)) + (m11 173 ((m11 124 64) - 1).toNat)) < 1200) ∧ wp cs mX12_isSame KD (rI (GR d e nw th x) fun x70 m70 n70 => ((x70 = 0 → wp cs mX12_fail KD (rV (GR d e nw th x) fun m80 n80 => wp cs mX12_maybeS KD (rV (GR d e nw th x) fun m84 n84 => wp cs mX12_passes KD (rI (GR d e nw th x) fun x90 m90 n90 => (-2147483648 ≤ (m90 124 64) - 1 ∧ (m90 124 64) - 1 < 2147483648) ∧ ∀ m101, m101 = up2 m90 124 64 ((m90 124 64) - 1) → Q none (m101, n90, (GR d e nw th x))) 0 (padL [vR 124, vI 62] 2) [] (KD, m84, n84, (GR d e nw th x))) 0 (padL [vR 124] 1) [] (KD, m80, n80, (GR d e nw th x))) 0 (padL [vR 124, vI (-2), vI x11] 3) [] (KD, m70, n70, (GR d e nw th x))) ∧ (x70 ≠ 0 → wp cs mX12_maybeS KD (rV (GR d e nw th x) fun m84 n84 => wp cs mX12_passes KD (rI (GR d e nw th x) fun x90 m90 n90 => (-2147483648 ≤ (m90 124 64) - 1 ∧ (m90 124 64) - 1 < 2147483648) ∧ ∀ m101, m101 = up2 m90 124 64 ((m90 124 64) - 1) → Q none (m101, n90, (GR d e nw th x))) 0 (padL [vR 124, vI 62] 2) [] (KD, m84, n84, (GR d e nw th x))) 0 (padL [vR 124] 1) [] (KD, m70, n70, (GR d e nw th x))))) 0 (padL [vR 124, vI ((6000 * (m37 124 8)) + x11), vI (m37 124 51), vI (m37 132 ((600 * (m11 124 8)) + (m11 173 ((m11 124 64) - 1).toNat)).toNat), vI (m37 133 ((600 * (m11 124 8)) + (m11 173 ((m11 124 64) - 1).toNat)).toNat)] 7) [] (KD, m37, n37, (GR d e nw th x))))) 0 (padL [vR 124] 1) [] (KD, m11, n11, (GR d e nw th x))) 0 (padL [vR 124] 2) [] (KD, m7, ML, (GR d e nw th x))) :
    wp cs mX12_close KD Q 0 (padL [vR 124] 4) [] (KD, MI, ML, (GR d e nw th x)) := by
  refine wp_L (L' := [some (vR 124), none, none, none]) rfl ?_
  refine wp_aload_n dX12_close_0 rfl rfl (by first | exact Or.inl (by decide) | exact Or.inl (by omega) | exact Or.inr (by decide) | exact Or.inr (by omega)) ?_
  refine wp_dup dX12_close_1 (fun x e => by cases e) ?_
  refine wp_getI dX12_close_2 fX12_276 rfl (by decide) ?_
  refine wp_iconst dX12_close_5 (by decide) ?_
  have c0 := h.1
  replace h := h.2
  refine wp_iaddr dX12_close_6 c0 ?_
  refine wp_putI dX12_close_7 pX12_276 rfl (by decide) ?_
  refine wp_gI (fun m7 e7 => ?_)
  replace h := h m7 e7
  refine wp_aload_n dX12_close_10 rfl rfl (by first | exact Or.inl (by decide) | exact Or.inl (by omega) | exact Or.inr (by decide) | exact Or.inr (by omega)) ?_
  refine wp_pc (pc' := 11) rfl ?_
  refine wp_cVq (n := 0) (mt' := mX12_takeName) (as := []) (rest := []) _ dX12_close_11 lX12_351 kX12_takeName vX12_takeName (by decide) (by decide +kernel) rfl (Nat.le_of_ble_eq_true rfl) (by decide) rfl rfl rfl (Nat.le_of_ble_eq_true rfl) (fun hM hS => h) (fun r M' hq hM => ?_)
  obtain ⟨x11, m11, n11, rfl, rfl, h⟩ := rI_out hq
  refine wp_istore_n dX12_close_14 rfl (by decide) (wp_L (L' := [some (vR 124), some (vI x11), none, none]) rfl ?_)
  refine wp_sipush dX12_close_15 (by decide +kernel) (by decide) ?_
  refine wp_aload_n dX12_close_18 rfl rfl (by first | exact Or.inl (by decide) | exact Or.inl (by omega) | exact Or.inr (by decide) | exact Or.inr (by omega)) ?_
  refine wp_getI dX12_close_19 fX12_328 rfl (by decide) ?_
  have c1 := h.1
  replace h := h.2
  refine wp_imulr dX12_close_22 c1 ?_
  refine wp_aload_n dX12_close_23 rfl rfl (by first | exact Or.inl (by decide) | exact Or.inl (by omega) | exact Or.inr (by decide) | exact Or.inr (by omega)) ?_
  refine wp_getR dX12_close_24 fX12_161 rfl (by decide) ?_
  refine wp_topR (x' := 173) rfl ?_
  refine wp_pc (pc' := 27) rfl ?_
  refine wp_aload_n dX12_close_27 rfl rfl (by first | exact Or.inl (by decide) | exact Or.inl (by omega) | exact Or.inr (by decide) | exact Or.inr (by omega)) ?_
  refine wp_getI dX12_close_28 fX12_443 rfl (by decide) ?_
  refine wp_iconst dX12_close_31 (by decide) ?_
  have c2 := h.1
  replace h := h.2
  refine wp_isubr dX12_close_32 c2 ?_
  have c3 := h.1
  replace h := h.2
  refine wp_iald dX12_close_33 rfl (by decide) c3 ?_
  have c4 := h.1
  replace h := h.2
  refine wp_iaddr dX12_close_34 c4 ?_
  refine wp_istore_n dX12_close_35 rfl (by decide) (wp_L (L' := [some (vR 124), some (vI x11), some (vI ((600 * (m11 124 8)) + (m11 173 ((m11 124 64) - 1).toNat))), none]) rfl ?_)
  refine wp_aload_n dX12_close_36 rfl rfl (by first | exact Or.inl (by decide) | exact Or.inl (by omega) | exact Or.inr (by decide) | exact Or.inr (by omega)) ?_
  refine wp_pc (pc' := 37) rfl ?_
  refine wp_cVq (n := 0) (mt' := mX12_isGood) (as := []) (rest := []) _ dX12_close_37 lX12_289 kX12_isGood vX12_isGood (by decide) (by decide +kernel) rfl (Nat.le_of_ble_eq_true rfl) (by decide) rfl rfl rfl (Nat.le_of_ble_eq_true rfl) (fun hM hS => h) (fun r M' hq hM => ?_)
  obtain ⟨x37, m37, n37, rfl, rfl, h⟩ := rI_out hq
  refine wp_if_eq (tgt := 83) dX12_close_40 (by decide) (fun h40 => ?_) (fun h40 => ?_)
  · replace h := h.1 h40
    refine wp_aload_n dX12_close_83 rfl rfl (by first | exact Or.inl (by decide) | exact Or.inl (by omega) | exact Or.inr (by decide) | exact Or.inr (by omega)) ?_
    refine wp_cVq (n := 0) (mt' := mX12_maybeS) (as := []) (rest := []) _ dX12_close_84 lX12_300 kX12_maybeS vX12_maybeS (by decide) (by decide +kernel) rfl (Nat.le_of_ble_eq_true rfl) (by decide) rfl rfl rfl (Nat.le_of_ble_eq_true rfl) (fun hM hS => h) (fun r M' hq hM => ?_)
    obtain ⟨m84, n84, rfl, rfl, h⟩ := rV_out hq
    refine wp_aload_n dX12_close_87 rfl rfl (by first | exact Or.inl (by decide) | exact Or.inl (by omega) | exact Or.inr (by decide) | exact Or.inr (by omega)) ?_
    refine wp_bipush dX12_close_88 (by decide +kernel) (by decide) ?_
    refine wp_cVq (n := 1) (mt' := mX12_passes) (as := [vI 62]) (rest := []) _ dX12_close_90 lX12_340 kX12_passes vX12_passes (by decide) (by decide +kernel) rfl (Nat.le_of_ble_eq_true rfl) (by decide) rfl rfl rfl (Nat.le_of_ble_eq_true rfl) (fun hM hS => h) (fun r M' hq hM => ?_)
    obtain ⟨x90, m90, n90, rfl, rfl, h⟩ := rI_out hq
    refine wp_istore_n dX12_close_93 rfl (by decide) (wp_L (L' := [some (vR 124), some (vI x11), some (vI ((600 * (m11 124 8)) + (m11 173 ((m11 124 64) - 1).toNat))), some (vI x90)]) rfl ?_)
    refine wp_aload_n dX12_close_94 rfl rfl (by first | exact Or.inl (by decide) | exact Or.inl (by omega) | exact Or.inr (by decide) | exact Or.inr (by omega)) ?_
    refine wp_dup dX12_close_95 (fun x e => by cases e) ?_
    refine wp_getI dX12_close_96 fX12_443 rfl (by decide) ?_
    refine wp_iconst dX12_close_99 (by decide) ?_
    have c5 := h.1
    replace h := h.2
    refine wp_isubr dX12_close_100 c5 ?_
    refine wp_putI dX12_close_101 pX12_443 rfl (by decide) ?_
    refine wp_gI (fun m101 e101 => ?_)
    replace h := h m101 e101
    refine wp_pc (pc' := 104) rfl ?_
    exact wp_vret dX12_close_104 rfl (fun _ => h)
  · replace h := h.2 h40
    refine wp_aload_n dX12_close_43 rfl rfl (by first | exact Or.inl (by decide) | exact Or.inl (by omega) | exact Or.inr (by decide) | exact Or.inr (by omega)) ?_
    refine wp_sipush dX12_close_44 (by decide +kernel) (by decide) ?_
    refine wp_aload_n dX12_close_47 rfl rfl (by first | exact Or.inl (by decide) | exact Or.inl (by omega) | exact Or.inr (by decide) | exact Or.inr (by omega)) ?_
    refine wp_getI dX12_close_48 fX12_328 rfl (by decide) ?_
    have c5 := h.1
    replace h := h.2
    refine wp_imulr dX12_close_51 c5 ?_
    refine wp_iload_n dX12_close_52 rfl rfl ?_
    have c6 := h.1
    replace h := h.2
    refine wp_iaddr dX12_close_53 c6 ?_
    refine wp_pc (pc' := 54) rfl ?_
    refine wp_aload_n dX12_close_54 rfl rfl (by first | exact Or.inl (by decide) | exact Or.inl (by omega) | exact Or.inr (by decide) | exact Or.inr (by omega)) ?_
    refine wp_getI dX12_close_55 fX12_306 rfl (by decide) ?_
    refine wp_aload_n dX12_close_58 rfl rfl (by first | exact Or.inl (by decide) | exact Or.inl (by omega) | exact Or.inr (by decide) | exact Or.inr (by omega)) ?_
    refine wp_getR dX12_close_59 fX12_37 rfl (by decide) ?_
    refine wp_topR (x' := 132) rfl ?_
    refine wp_iload_n dX12_close_62 rfl rfl ?_
    have c7 := h.1
    replace h := h.2
    refine wp_iald dX12_close_63 rfl (by decide) c7 ?_
    refine wp_aload_n dX12_close_64 rfl rfl (by first | exact Or.inl (by decide) | exact Or.inl (by omega) | exact Or.inr (by decide) | exact Or.inr (by omega)) ?_
    refine wp_getR dX12_close_65 fX12_40 rfl (by decide) ?_
    refine wp_topR (x' := 133) rfl ?_
    refine wp_pc (pc' := 68) rfl ?_
    refine wp_iload_n dX12_close_68 rfl rfl ?_
    refine wp_iald dX12_close_69 rfl (by decide) c7 ?_
    refine wp_cVq (n := 4) (mt' := mX12_isSame) (as := [vI ((6000 * (m37 124 8)) + x11), vI (m37 124 51), vI (m37 132 ((600 * (m11 124 8)) + (m11 173 ((m11 124 64) - 1).toNat)).toNat), vI (m37 133 ((600 * (m11 124 8)) + (m11 173 ((m11 124 64) - 1).toNat)).toNat)]) (rest := []) _ dX12_close_70 lX12_412 kX12_isSame vX12_isSame (by decide) (by decide +kernel) rfl (Nat.le_of_ble_eq_true rfl) (by decide) rfl rfl rfl (Nat.le_of_ble_eq_true rfl) (fun hM hS => h) (fun r M' hq hM => ?_)
    obtain ⟨x70, m70, n70, rfl, rfl, h⟩ := rI_out hq
    refine wp_if_ne (tgt := 83) dX12_close_73 (by decide) (fun h73 => ?_) (fun h73 => ?_)
    · replace h := h.2 h73
      refine wp_aload_n dX12_close_83 rfl rfl (by first | exact Or.inl (by decide) | exact Or.inl (by omega) | exact Or.inr (by decide) | exact Or.inr (by omega)) ?_
      refine wp_cVq (n := 0) (mt' := mX12_maybeS) (as := []) (rest := []) _ dX12_close_84 lX12_300 kX12_maybeS vX12_maybeS (by decide) (by decide +kernel) rfl (Nat.le_of_ble_eq_true rfl) (by decide) rfl rfl rfl (Nat.le_of_ble_eq_true rfl) (fun hM hS => h) (fun r M' hq hM => ?_)
      obtain ⟨m84, n84, rfl, rfl, h⟩ := rV_out hq
      refine wp_aload_n dX12_close_87 rfl rfl (by first | exact Or.inl (by decide) | exact Or.inl (by omega) | exact Or.inr (by decide) | exact Or.inr (by omega)) ?_
      refine wp_bipush dX12_close_88 (by decide +kernel) (by decide) ?_
      refine wp_cVq (n := 1) (mt' := mX12_passes) (as := [vI 62]) (rest := []) _ dX12_close_90 lX12_340 kX12_passes vX12_passes (by decide) (by decide +kernel) rfl (Nat.le_of_ble_eq_true rfl) (by decide) rfl rfl rfl (Nat.le_of_ble_eq_true rfl) (fun hM hS => h) (fun r M' hq hM => ?_)
      obtain ⟨x90, m90, n90, rfl, rfl, h⟩ := rI_out hq
      refine wp_istore_n dX12_close_93 rfl (by decide) (wp_L (L' := [some (vR 124), some (vI x11), some (vI ((600 * (m11 124 8)) + (m11 173 ((m11 124 64) - 1).toNat))), some (vI x90)]) rfl ?_)
      refine wp_aload_n dX12_close_94 rfl rfl (by first | exact Or.inl (by decide) | exact Or.inl (by omega) | exact Or.inr (by decide) | exact Or.inr (by omega)) ?_
      refine wp_dup dX12_close_95 (fun x e => by cases e) ?_
      refine wp_getI dX12_close_96 fX12_443 rfl (by decide) ?_
      refine wp_iconst dX12_close_99 (by decide) ?_
      have c8 := h.1
      replace h := h.2
      refine wp_isubr dX12_close_100 c8 ?_
      refine wp_putI dX12_close_101 pX12_443 rfl (by decide) ?_
      refine wp_gI (fun m101 e101 => ?_)
      replace h := h m101 e101
      refine wp_pc (pc' := 104) rfl ?_
      exact wp_vret dX12_close_104 rfl (fun _ => h)
    · replace h := h.1 h73
      refine wp_aload_n dX12_close_76 rfl rfl (by first | exact Or.inl (by decide) | exact Or.inl (by omega) | exact Or.inr (by decide) | exact Or.inr (by omega)) ?_
      refine wp_bipush dX12_close_77 (by decide +kernel) (by decide) ?_
      refine wp_iload_n dX12_close_79 rfl rfl ?_
      refine wp_cVq (n := 2) (mt' := mX12_fail) (as := [vI (-2), vI x11]) (rest := []) _ dX12_close_80 lX12_293 kX12_fail vX12_fail (by decide) (by decide +kernel) rfl (Nat.le_of_ble_eq_true rfl) (by decide) rfl rfl rfl (Nat.le_of_ble_eq_true rfl) (fun hM hS => h) (fun r M' hq hM => ?_)
      obtain ⟨m80, n80, rfl, rfl, h⟩ := rV_out hq
      refine wp_aload_n dX12_close_83 rfl rfl (by first | exact Or.inl (by decide) | exact Or.inl (by omega) | exact Or.inr (by decide) | exact Or.inr (by omega)) ?_
      refine wp_cVq (n := 0) (mt' := mX12_maybeS) (as := []) (rest := []) _ dX12_close_84 lX12_300 kX12_maybeS vX12_maybeS (by decide) (by decide +kernel) rfl (Nat.le_of_ble_eq_true rfl) (by decide) rfl rfl rfl (Nat.le_of_ble_eq_true rfl) (fun hM hS => h) (fun r M' hq hM => ?_)
      obtain ⟨m84, n84, rfl, rfl, h⟩ := rV_out hq
      refine wp_aload_n dX12_close_87 rfl rfl (by first | exact Or.inl (by decide) | exact Or.inl (by omega) | exact Or.inr (by decide) | exact Or.inr (by omega)) ?_
      refine wp_bipush dX12_close_88 (by decide +kernel) (by decide) ?_
      refine wp_cVq (n := 1) (mt' := mX12_passes) (as := [vI 62]) (rest := []) _ dX12_close_90 lX12_340 kX12_passes vX12_passes (by decide) (by decide +kernel) rfl (Nat.le_of_ble_eq_true rfl) (by decide) rfl rfl rfl (Nat.le_of_ble_eq_true rfl) (fun hM hS => h) (fun r M' hq hM => ?_)
      obtain ⟨x90, m90, n90, rfl, rfl, h⟩ := rI_out hq
      refine wp_istore_n dX12_close_93 rfl (by decide) (wp_L (L' := [some (vR 124), some (vI x11), some (vI ((600 * (m11 124 8)) + (m11 173 ((m11 124 64) - 1).toNat))), some (vI x90)]) rfl ?_)
      refine wp_aload_n dX12_close_94 rfl rfl (by first | exact Or.inl (by decide) | exact Or.inl (by omega) | exact Or.inr (by decide) | exact Or.inr (by omega)) ?_
      refine wp_dup dX12_close_95 (fun x e => by cases e) ?_
      refine wp_getI dX12_close_96 fX12_443 rfl (by decide) ?_
      refine wp_iconst dX12_close_99 (by decide) ?_
      have c8 := h.1
      replace h := h.2
      refine wp_isubr dX12_close_100 c8 ?_
      refine wp_putI dX12_close_101 pX12_443 rfl (by decide) ?_
      refine wp_gI (fun m101 e101 => ?_)
      replace h := h m101 e101
      refine wp_pc (pc' := 104) rfl ?_
      exact wp_vret dX12_close_104 rfl (fun _ => h)
theorem dX12_text_0 : decode cX12_text 0 = .ok (.sipush 2000, 3) := by decide +kernel
theorem dX12_text_3 : decode cX12_text 3 = .ok (.aload_n 0, 1) := by decide +kernel
theorem dX12_text_4 : decode cX12_text 4 = .ok (.getfield 328, 3) := by decide +kernel
theorem dX12_text_7 : decode cX12_text 7 = .ok (.imul, 1) := by decide +kernel
theorem dX12_text_8 : decode cX12_text 8 = .ok (.aload_n 0, 1) := by decide +kernel
theorem dX12_text_9 : decode cX12_text 9 = .ok (.getfield 58, 3) := by decide +kernel
theorem dX12_text_12 : decode cX12_text 12 = .ok (.aload_n 0, 1) := by decide +kernel
theorem dX12_text_13 : decode cX12_text 13 = .ok (.getfield 328, 3) := by decide +kernel
theorem dX12_text_16 : decode cX12_text 16 = .ok (.iaload, 1) := by decide +kernel
theorem dX12_text_17 : decode cX12_text 17 = .ok (.iadd, 1) := by decide +kernel
theorem dX12_text_18 : decode cX12_text 18 = .ok (.istore_n 1, 1) := by decide +kernel
theorem dX12_text_19 : decode cX12_text 19 = .ok (.iconst (-1), 1) := by decide +kernel
theorem dX12_text_20 : decode cX12_text 20 = .ok (.istore_n 2, 1) := by decide +kernel
theorem dX12_text_21 : decode cX12_text 21 = .ok (.aload_n 0, 1) := by decide +kernel
theorem dX12_text_22 : decode cX12_text 22 = .ok (.invokevirtual 289, 3) := by decide +kernel
theorem dX12_text_25 : decode cX12_text 25 = .ok (.ifCond .eq 123, 3) := by decide +kernel
theorem dX12_text_28 : decode cX12_text 28 = .ok (.iload_n 2, 1) := by decide +kernel
theorem dX12_text_29 : decode cX12_text 29 = .ok (.ifCond .lt 16, 3) := by decide +kernel
theorem dX12_text_32 : decode cX12_text 32 = .ok (.aload_n 0, 1) := by decide +kernel
theorem dX12_text_33 : decode cX12_text 33 = .ok (.aload_n 0, 1) := by decide +kernel
theorem dX12_text_34 : decode cX12_text 34 = .ok (.getfield 276, 3) := by decide +kernel
theorem dX12_text_37 : decode cX12_text 37 = .ok (.invokevirtual 279, 3) := by decide +kernel
theorem dX12_text_40 : decode cX12_text 40 = .ok (.bipush 60, 2) := by decide +kernel
theorem dX12_text_42 : decode cX12_text 42 = .ok (.if_icmp .eq 106, 3) := by decide +kernel
theorem dX12_text_45 : decode cX12_text 45 = .ok (.aload_n 0, 1) := by decide +kernel
theorem dX12_text_46 : decode cX12_text 46 = .ok (.getfield 276, 3) := by decide +kernel
theorem dX12_text_49 : decode cX12_text 49 = .ok (.istore_n 3, 1) := by decide +kernel
theorem dX12_text_50 : decode cX12_text 50 = .ok (.aload_n 0, 1) := by decide +kernel
theorem dX12_text_51 : decode cX12_text 51 = .ok (.invokevirtual 331, 3) := by decide +kernel
theorem dX12_text_54 : decode cX12_text 54 = .ok (.istore 4, 2) := by decide +kernel
theorem dX12_text_56 : decode cX12_text 56 = .ok (.iload_n 2, 1) := by decide +kernel
theorem dX12_text_57 : decode cX12_text 57 = .ok (.ifCond .ge 19, 3) := by decide +kernel
theorem dX12_text_60 : decode cX12_text 60 = .ok (.aload_n 0, 1) := by decide +kernel
theorem dX12_text_61 : decode cX12_text 61 = .ok (.invokevirtual 289, 3) := by decide +kernel
theorem dX12_text_64 : decode cX12_text 64 = .ok (.ifCond .eq 12, 3) := by decide +kernel
theorem dX12_text_67 : decode cX12_text 67 = .ok (.aload_n 0, 1) := by decide +kernel
theorem dX12_text_68 : decode cX12_text 68 = .ok (.iconst 3, 1) := by decide +kernel
theorem dX12_text_69 : decode cX12_text 69 = .ok (.iload_n 3, 1) := by decide +kernel
theorem dX12_text_70 : decode cX12_text 70 = .ok (.invokevirtual 446, 3) := by decide +kernel
theorem dX12_text_73 : decode cX12_text 73 = .ok (.goto 4, 3) := by decide +kernel
theorem dX12_text_76 : decode cX12_text 76 = .ok (.iload_n 2, 1) := by decide +kernel
theorem dX12_text_77 : decode cX12_text 77 = .ok (.istore_n 2, 1) := by decide +kernel
theorem dX12_text_78 : decode cX12_text 78 = .ok (.aload_n 0, 1) := by decide +kernel
theorem dX12_text_79 : decode cX12_text 79 = .ok (.invokevirtual 289, 3) := by decide +kernel
theorem dX12_text_82 : decode cX12_text 82 = .ok (.ifCond .eq 63, 3) := by decide +kernel
theorem dX12_text_85 : decode cX12_text 85 = .ok (.aload_n 0, 1) := by decide +kernel
theorem dX12_text_86 : decode cX12_text 86 = .ok (.iload 4, 2) := by decide +kernel
theorem dX12_text_88 : decode cX12_text 88 = .ok (.iload_n 3, 1) := by decide +kernel
theorem dX12_text_89 : decode cX12_text 89 = .ok (.invokevirtual 335, 3) := by decide +kernel
theorem dX12_text_92 : decode cX12_text 92 = .ok (.aload_n 0, 1) := by decide +kernel
theorem dX12_text_93 : decode cX12_text 93 = .ok (.getfield 52, 3) := by decide +kernel
theorem dX12_text_96 : decode cX12_text 96 = .ok (.sipush 600, 3) := by decide +kernel
theorem dX12_text_99 : decode cX12_text 99 = .ok (.aload_n 0, 1) := by decide +kernel
theorem dX12_text_100 : decode cX12_text 100 = .ok (.getfield 328, 3) := by decide +kernel
theorem dX12_text_103 : decode cX12_text 103 = .ok (.imul, 1) := by decide +kernel
theorem dX12_text_104 : decode cX12_text 104 = .ok (.iload_n 2, 1) := by decide +kernel
theorem dX12_text_105 : decode cX12_text 105 = .ok (.iadd, 1) := by decide +kernel
theorem dX12_text_106 : decode cX12_text 106 = .ok (.aload_n 0, 1) := by decide +kernel
theorem dX12_text_107 : decode cX12_text 107 = .ok (.getfield 52, 3) := by decide +kernel
theorem dX12_text_110 : decode cX12_text 110 = .ok (.sipush 600, 3) := by decide +kernel
theorem dX12_text_113 : decode cX12_text 113 = .ok (.aload_n 0, 1) := by decide +kernel
theorem dX12_text_114 : decode cX12_text 114 = .ok (.getfield 328, 3) := by decide +kernel
theorem dX12_text_117 : decode cX12_text 117 = .ok (.imul, 1) := by decide +kernel
theorem dX12_text_118 : decode cX12_text 118 = .ok (.iload_n 2, 1) := by decide +kernel
theorem dX12_text_119 : decode cX12_text 119 = .ok (.iadd, 1) := by decide +kernel
theorem dX12_text_120 : decode cX12_text 120 = .ok (.baload, 1) := by decide +kernel
theorem dX12_text_121 : decode cX12_text 121 = .ok (.ifCond .eq 22, 3) := by decide +kernel
theorem dX12_text_124 : decode cX12_text 124 = .ok (.iload 4, 2) := by decide +kernel
theorem dX12_text_126 : decode cX12_text 126 = .ok (.invokestatic 297, 3) := by decide +kernel
theorem dX12_text_129 : decode cX12_text 129 = .ok (.ifCond .eq 14, 3) := by decide +kernel
theorem dX12_text_132 : decode cX12_text 132 = .ok (.aload_n 0, 1) := by decide +kernel
theorem dX12_text_133 : decode cX12_text 133 = .ok (.getfield 309, 3) := by decide +kernel
theorem dX12_text_136 : decode cX12_text 136 = .ok (.ifCond .ne 7, 3) := by decide +kernel
theorem dX12_text_139 : decode cX12_text 139 = .ok (.iconst 1, 1) := by decide +kernel
theorem dX12_text_140 : decode cX12_text 140 = .ok (.goto 4, 3) := by decide +kernel
theorem dX12_text_143 : decode cX12_text 143 = .ok (.iconst 0, 1) := by decide +kernel
theorem dX12_text_144 : decode cX12_text 144 = .ok (.bastore, 1) := by decide +kernel
theorem dX12_text_145 : decode cX12_text 145 = .ok (.goto (-124), 3) := by decide +kernel
theorem dX12_text_148 : decode cX12_text 148 = .ok (.iload_n 2, 1) := by decide +kernel
theorem dX12_text_149 : decode cX12_text 149 = .ok (.ifCond .lt 54, 3) := by decide +kernel
theorem dX12_text_152 : decode cX12_text 152 = .ok (.aload_n 0, 1) := by decide +kernel
theorem dX12_text_153 : decode cX12_text 153 = .ok (.getfield 43, 3) := by decide +kernel
theorem dX12_text_156 : decode cX12_text 156 = .ok (.sipush 600, 3) := by decide +kernel
theorem dX12_text_159 : decode cX12_text 159 = .ok (.aload_n 0, 1) := by decide +kernel
theorem dX12_text_160 : decode cX12_text 160 = .ok (.getfield 328, 3) := by decide +kernel
theorem dX12_text_163 : decode cX12_text 163 = .ok (.imul, 1) := by decide +kernel
theorem dX12_text_164 : decode cX12_text 164 = .ok (.iload_n 2, 1) := by decide +kernel
theorem dX12_text_165 : decode cX12_text 165 = .ok (.iadd, 1) := by decide +kernel
theorem dX12_text_166 : decode cX12_text 166 = .ok (.iload_n 1, 1) := by decide +kernel
theorem dX12_text_167 : decode cX12_text 167 = .ok (.iastore, 1) := by decide +kernel
theorem dX12_text_168 : decode cX12_text 168 = .ok (.aload_n 0, 1) := by decide +kernel
theorem dX12_text_169 : decode cX12_text 169 = .ok (.getfield 46, 3) := by decide +kernel
theorem dX12_text_172 : decode cX12_text 172 = .ok (.sipush 600, 3) := by decide +kernel
theorem dX12_text_175 : decode cX12_text 175 = .ok (.aload_n 0, 1) := by decide +kernel
theorem dX12_text_176 : decode cX12_text 176 = .ok (.getfield 328, 3) := by decide +kernel
theorem dX12_text_179 : decode cX12_text 179 = .ok (.imul, 1) := by decide +kernel
theorem dX12_text_180 : decode cX12_text 180 = .ok (.iload_n 2, 1) := by decide +kernel
theorem dX12_text_181 : decode cX12_text 181 = .ok (.iadd, 1) := by decide +kernel
theorem dX12_text_182 : decode cX12_text 182 = .ok (.sipush 2000, 3) := by decide +kernel
theorem dX12_text_185 : decode cX12_text 185 = .ok (.aload_n 0, 1) := by decide +kernel
theorem dX12_text_186 : decode cX12_text 186 = .ok (.getfield 328, 3) := by decide +kernel
theorem dX12_text_189 : decode cX12_text 189 = .ok (.imul, 1) := by decide +kernel
theorem dX12_text_190 : decode cX12_text 190 = .ok (.aload_n 0, 1) := by decide +kernel
theorem dX12_text_191 : decode cX12_text 191 = .ok (.getfield 58, 3) := by decide +kernel
theorem dX12_text_194 : decode cX12_text 194 = .ok (.aload_n 0, 1) := by decide +kernel
theorem dX12_text_195 : decode cX12_text 195 = .ok (.getfield 328, 3) := by decide +kernel
theorem dX12_text_198 : decode cX12_text 198 = .ok (.iaload, 1) := by decide +kernel
theorem dX12_text_199 : decode cX12_text 199 = .ok (.iadd, 1) := by decide +kernel
theorem dX12_text_200 : decode cX12_text 200 = .ok (.iload_n 1, 1) := by decide +kernel
theorem dX12_text_201 : decode cX12_text 201 = .ok (.isub, 1) := by decide +kernel
theorem dX12_text_202 : decode cX12_text 202 = .ok (.iastore, 1) := by decide +kernel
theorem dX12_text_203 : decode cX12_text 203 = .ok (.return_, 1) := by decide +kernel
theorem v_X12_text_0 {cs : Cs} {Q : Option AV → Mm → Prop} {MI ML : Nat → Nat → Int} {d e nw th x : Nat}
    (h : (-2147483648 ≤ 2000 * (MI 124 8) ∧ 2000 * (MI 124 8) < 2147483648) ∧ (0 ≤ (MI 124 8) ∧ (MI 124 8) < 2) ∧ (-2147483648 ≤ (2000 * (MI 124 8)) + (MI 139 (MI 124 8).toNat) ∧ (2000 * (MI 124 8)) + (MI 139 (MI 124 8).toNat) < 2147483648) ∧ wp cs mX12_text KD Q 21 [some (vR 124), some (vI ((2000 * (MI 124 8)) + (MI 139 (MI 124 8).toNat))), some (vI (-1)), none, none] [] (KD, MI, ML, (GR d e nw th x))) :
    wp cs mX12_text KD Q 0 (padL [vR 124] 5) [] (KD, MI, ML, (GR d e nw th x)) := by
  refine wp_L (L' := [some (vR 124), none, none, none, none]) rfl ?_
  refine wp_sipush dX12_text_0 (by decide +kernel) (by decide) ?_
  refine wp_aload_n dX12_text_3 rfl rfl (by first | exact Or.inl (by decide) | exact Or.inl (by omega) | exact Or.inr (by decide) | exact Or.inr (by omega)) ?_
  refine wp_getI dX12_text_4 fX12_328 rfl (by decide) ?_
  have c0 := h.1
  replace h := h.2
  refine wp_imulr dX12_text_7 c0 ?_
  refine wp_aload_n dX12_text_8 rfl rfl (by first | exact Or.inl (by decide) | exact Or.inl (by omega) | exact Or.inr (by decide) | exact Or.inr (by omega)) ?_
  refine wp_getR dX12_text_9 fX12_58 rfl (by decide) ?_
  refine wp_topR (x' := 139) rfl ?_
  refine wp_aload_n dX12_text_12 rfl rfl (by first | exact Or.inl (by decide) | exact Or.inl (by omega) | exact Or.inr (by decide) | exact Or.inr (by omega)) ?_
  refine wp_pc (pc' := 13) rfl ?_
  refine wp_getI dX12_text_13 fX12_328 rfl (by decide) ?_
  have c1 := h.1
  replace h := h.2
  refine wp_iald dX12_text_16 rfl (by decide) c1 ?_
  have c2 := h.1
  replace h := h.2
  refine wp_iaddr dX12_text_17 c2 ?_
  refine wp_istore_n dX12_text_18 rfl (by decide) (wp_L (L' := [some (vR 124), some (vI ((2000 * (MI 124 8)) + (MI 139 (MI 124 8).toNat))), none, none, none]) rfl ?_)
  refine wp_iconst dX12_text_19 (by decide) ?_
  refine wp_istore_n dX12_text_20 rfl (by decide) (wp_L (L' := [some (vR 124), some (vI ((2000 * (MI 124 8)) + (MI 139 (MI 124 8).toNat))), some (vI (-1)), none, none]) rfl ?_)
  exact h
theorem v_X12_text_21 {cs : Cs} {Q : Option AV → Mm → Prop} {MI ML : Nat → Nat → Int} {d e nw th x : Nat} {l1 l2 : Int}
    (h : wp cs mX12_isGood KD (rI (GR d e nw th x) fun x22 m22 n22 => ((x22 = 0 → wp cs mX12_text KD Q 148 [some (vR 124), some (vI l1), some (vI l2), none, none] [] (KD, m22, n22, (GR d e nw th x))) ∧ (x22 ≠ 0 → ((l2 < 0 → wp cs mX12_text KD Q 45 [some (vR 124), some (vI l1), some (vI l2), none, none] [] (KD, m22, n22, (GR d e nw th x))) ∧ (0 ≤ l2 → wp cs mX12_octet KD (rI (GR d e nw th x) fun x37 m37 n37 => ((x37 = 60 → wp cs mX12_text KD Q 148 [some (vR 124), some (vI l1), some (vI l2), none, none] [] (KD, m37, n37, (GR d e nw th x))) ∧ (x37 ≠ 60 → wp cs mX12_text KD Q 45 [some (vR 124), some (vI l1), some (vI l2), none, none] [] (KD, m37, n37, (GR d e nw th x))))) 0 (padL [vR 124, vI (m22 124 4)] 2) [] (KD, m22, n22, (GR d e nw th x))))))) 0 (padL [vR 124] 1) [] (KD, MI, ML, (GR d e nw th x))) :
    wp cs mX12_text KD Q 21 [some (vR 124), some (vI l1), some (vI l2), none, none] [] (KD, MI, ML, (GR d e nw th x)) := by
  refine wp_aload_n dX12_text_21 rfl rfl (by first | exact Or.inl (by decide) | exact Or.inl (by omega) | exact Or.inr (by decide) | exact Or.inr (by omega)) ?_
  refine wp_cVq (n := 0) (mt' := mX12_isGood) (as := []) (rest := []) _ dX12_text_22 lX12_289 kX12_isGood vX12_isGood (by decide) (by decide +kernel) rfl (Nat.le_of_ble_eq_true rfl) (by decide) rfl rfl rfl (Nat.le_of_ble_eq_true rfl) (fun hM hS => h) (fun r M' hq hM => ?_)
  obtain ⟨x22, m22, n22, rfl, rfl, h⟩ := rI_out hq
  refine wp_if_eq (tgt := 148) dX12_text_25 (by decide) (fun h25 => ?_) (fun h25 => ?_)
  · replace h := h.1 h25
    exact h
  · replace h := h.2 h25
    refine wp_iload_n dX12_text_28 rfl rfl ?_
    refine wp_if_lt (tgt := 45) dX12_text_29 (by decide) (fun h29 => ?_) (fun h29 => ?_)
    · replace h := h.1 h29
      exact h
    · replace h := h.2 h29
      refine wp_aload_n dX12_text_32 rfl rfl (by first | exact Or.inl (by decide) | exact Or.inl (by omega) | exact Or.inr (by decide) | exact Or.inr (by omega)) ?_
      refine wp_aload_n dX12_text_33 rfl rfl (by first | exact Or.inl (by decide) | exact Or.inl (by omega) | exact Or.inr (by decide) | exact Or.inr (by omega)) ?_
      refine wp_getI dX12_text_34 fX12_276 rfl (by decide) ?_
      refine wp_cVq (n := 1) (mt' := mX12_octet) (as := [vI (m22 124 4)]) (rest := []) _ dX12_text_37 lX12_279 kX12_octet vX12_octet (by decide) (by decide +kernel) rfl (Nat.le_of_ble_eq_true rfl) (by decide) rfl rfl rfl (Nat.le_of_ble_eq_true rfl) (fun hM hS => h) (fun r M' hq hM => ?_)
      obtain ⟨x37, m37, n37, rfl, rfl, h⟩ := rI_out hq
      refine wp_bipush dX12_text_40 (by decide +kernel) (by decide) ?_
      refine wp_icmp_eq (tgt := 148) dX12_text_42 (by decide) (fun h42 => ?_) (fun h42 => ?_)
      · replace h := h.1 h42
        exact h
      · replace h := h.2 h42
        exact h
theorem v_X12_text_45 {cs : Cs} {Q : Option AV → Mm → Prop} {MI ML : Nat → Nat → Int} {d e nw th x : Nat} {l1 l2 : Int}
    (h : wp cs mX12_takePiece KD (rI (GR d e nw th x) fun x51 m51 n51 => ((l2 < 0 → wp cs mX12_isGood KD (rI (GR d e nw th x) fun x61 m61 n61 => ((x61 = 0 → wp cs mX12_text KD Q 77 [some (vR 124), some (vI l1), some (vI l2), some (vI (MI 124 4)), some (vI x51)] [vI l2] (KD, m61, n61, (GR d e nw th x))) ∧ (x61 ≠ 0 → wp cs mX12_newNode KD (rI (GR d e nw th x) fun x70 m70 n70 => wp cs mX12_text KD Q 77 [some (vR 124), some (vI l1), some (vI l2), some (vI (MI 124 4)), some (vI x51)] [vI x70] (KD, m70, n70, (GR d e nw th x))) 0 (padL [vR 124, vI 3, vI (MI 124 4)] 4) [] (KD, m61, n61, (GR d e nw th x))))) 0 (padL [vR 124] 1) [] (KD, m51, n51, (GR d e nw th x))) ∧ (0 ≤ l2 → wp cs mX12_text KD Q 77 [some (vR 124), some (vI l1), some (vI l2), some (vI (MI 124 4)), some (vI x51)] [vI l2] (KD, m51, n51, (GR d e nw th x))))) 0 (padL [vR 124] 5) [] (KD, MI, ML, (GR d e nw th x))) :
    wp cs mX12_text KD Q 45 [some (vR 124), some (vI l1), some (vI l2), none, none] [] (KD, MI, ML, (GR d e nw th x)) := by
  refine wp_aload_n dX12_text_45 rfl rfl (by first | exact Or.inl (by decide) | exact Or.inl (by omega) | exact Or.inr (by decide) | exact Or.inr (by omega)) ?_
  refine wp_getI dX12_text_46 fX12_276 rfl (by decide) ?_
  refine wp_istore_n dX12_text_49 rfl (by decide) (wp_L (L' := [some (vR 124), some (vI l1), some (vI l2), some (vI (MI 124 4)), none]) rfl ?_)
  refine wp_aload_n dX12_text_50 rfl rfl (by first | exact Or.inl (by decide) | exact Or.inl (by omega) | exact Or.inr (by decide) | exact Or.inr (by omega)) ?_
  refine wp_cVq (n := 0) (mt' := mX12_takePiece) (as := []) (rest := []) _ dX12_text_51 lX12_331 kX12_takePiece vX12_takePiece (by decide) (by decide +kernel) rfl (Nat.le_of_ble_eq_true rfl) (by decide) rfl rfl rfl (Nat.le_of_ble_eq_true rfl) (fun hM hS => h) (fun r M' hq hM => ?_)
  obtain ⟨x51, m51, n51, rfl, rfl, h⟩ := rI_out hq
  refine wp_istore dX12_text_54 (by decide) (wp_L (L' := [some (vR 124), some (vI l1), some (vI l2), some (vI (MI 124 4)), some (vI x51)]) rfl ?_)
  refine wp_iload_n dX12_text_56 rfl rfl ?_
  refine wp_if_ge (tgt := 76) dX12_text_57 (by decide) (fun h57 => ?_) (fun h57 => ?_)
  · replace h := h.2 h57
    refine wp_iload_n dX12_text_76 rfl rfl ?_
    exact h
  · replace h := h.1 h57
    refine wp_aload_n dX12_text_60 rfl rfl (by first | exact Or.inl (by decide) | exact Or.inl (by omega) | exact Or.inr (by decide) | exact Or.inr (by omega)) ?_
    refine wp_cVq (n := 0) (mt' := mX12_isGood) (as := []) (rest := []) _ dX12_text_61 lX12_289 kX12_isGood vX12_isGood (by decide) (by decide +kernel) rfl (Nat.le_of_ble_eq_true rfl) (by decide) rfl rfl rfl (Nat.le_of_ble_eq_true rfl) (fun hM hS => h) (fun r M' hq hM => ?_)
    obtain ⟨x61, m61, n61, rfl, rfl, h⟩ := rI_out hq
    refine wp_if_eq (tgt := 76) dX12_text_64 (by decide) (fun h64 => ?_) (fun h64 => ?_)
    · replace h := h.1 h64
      refine wp_iload_n dX12_text_76 rfl rfl ?_
      exact h
    · replace h := h.2 h64
      refine wp_aload_n dX12_text_67 rfl rfl (by first | exact Or.inl (by decide) | exact Or.inl (by omega) | exact Or.inr (by decide) | exact Or.inr (by omega)) ?_
      refine wp_iconst dX12_text_68 (by decide) ?_
      refine wp_iload_n dX12_text_69 rfl rfl ?_
      refine wp_cVq (n := 2) (mt' := mX12_newNode) (as := [vI 3, vI (MI 124 4)]) (rest := []) _ dX12_text_70 lX12_446 kX12_newNode vX12_newNode (by decide) (by decide +kernel) rfl (Nat.le_of_ble_eq_true rfl) (by decide) rfl rfl rfl (Nat.le_of_ble_eq_true rfl) (fun hM hS => h) (fun r M' hq hM => ?_)
      obtain ⟨x70, m70, n70, rfl, rfl, h⟩ := rI_out hq
      refine wp_goto (tgt := 77) dX12_text_73 (by decide) ?_
      exact h
theorem v_X12_text_77 {cs : Cs} {Q : Option AV → Mm → Prop} {MI ML : Nat → Nat → Int} {d e nw th x : Nat} {l1 l2 l3 l4 s0 : Int}
    (h : wp cs mX12_isGood KD (rI (GR d e nw th x) fun x79 m79 n79 => ((x79 = 0 → wp cs mX12_text KD Q 21 [some (vR 124), some (vI l1), some (vI s0), none, none] [] (KD, m79, n79, (GR d e nw th x))) ∧ (x79 ≠ 0 → wp cs mX12_keep KD (rV (GR d e nw th x) fun m89 n89 => (-2147483648 ≤ 600 * (m89 124 8) ∧ 600 * (m89 124 8) < 2147483648) ∧ (-2147483648 ≤ (600 * (m89 124 8)) + s0 ∧ (600 * (m89 124 8)) + s0 < 2147483648) ∧ (0 ≤ ((600 * (m89 124 8)) + s0) ∧ ((600 * (m89 124 8)) + s0) < 1200) ∧ (((m89 137 ((600 * (m89 124 8)) + s0).toNat) = 0 → ∀ m144, m144 = up2 m89 137 ((600 * (m89 124 8)) + s0).toNat 0 → wp cs mX12_text KD Q 21 [some (vR 124), some (vI l1), some (vI s0), none, none] [] (KD, m144, n89, (GR d e nw th x))) ∧ ((m89 137 ((600 * (m89 124 8)) + s0).toNat) ≠ 0 → wp cs mX12_isS KD (rI (GR d e nw th x) fun x126 m126 n126 => ((x126 = 0 → ∀ m144, m144 = up2 m126 137 ((600 * (m89 124 8)) + s0).toNat 0 → wp cs mX12_text KD Q 21 [some (vR 124), some (vI l1), some (vI s0), none, none] [] (KD, m144, n126, (GR d e nw th x))) ∧ (x126 ≠ 0 → (((m126 124 52) = 0 → ∀ m144, m144 = up2 m126 137 ((600 * (m89 124 8)) + s0).toNat 1 → wp cs mX12_text KD Q 21 [some (vR 124), some (vI l1), some (vI s0), none, none] [] (KD, m144, n126, (GR d e nw th x))) ∧ ((m126 124 52) ≠ 0 → ∀ m144, m144 = up2 m126 137 ((600 * (m89 124 8)) + s0).toNat 0 → wp cs mX12_text KD Q 21 [some (vR 124), some (vI l1), some (vI s0), none, none] [] (KD, m144, n126, (GR d e nw th x))))))) 0 (padL [vI l4] 1) [] (KD, m89, n89, (GR d e nw th x))))) 0 (padL [vR 124, vI l4, vI l3] 3) [] (KD, m79, n79, (GR d e nw th x))))) 0 (padL [vR 124] 1) [] (KD, MI, ML, (GR d e nw th x))) :
    wp cs mX12_text KD Q 77 [some (vR 124), some (vI l1), some (vI l2), some (vI l3), some (vI l4)] [vI s0] (KD, MI, ML, (GR d e nw th x)) := by
  refine wp_istore_n dX12_text_77 rfl (by decide) (wp_L (L' := [some (vR 124), some (vI l1), some (vI s0), some (vI l3), some (vI l4)]) rfl ?_)
  refine wp_aload_n dX12_text_78 rfl rfl (by first | exact Or.inl (by decide) | exact Or.inl (by omega) | exact Or.inr (by decide) | exact Or.inr (by omega)) ?_
  refine wp_cVq (n := 0) (mt' := mX12_isGood) (as := []) (rest := []) _ dX12_text_79 lX12_289 kX12_isGood vX12_isGood (by decide) (by decide +kernel) rfl (Nat.le_of_ble_eq_true rfl) (by decide) rfl rfl rfl (Nat.le_of_ble_eq_true rfl) (fun hM hS => h) (fun r M' hq hM => ?_)
  obtain ⟨x79, m79, n79, rfl, rfl, h⟩ := rI_out hq
  refine wp_if_eq (tgt := 145) dX12_text_82 (by decide) (fun h82 => ?_) (fun h82 => ?_)
  · replace h := h.1 h82
    refine wp_goto (tgt := 21) dX12_text_145 (by decide) ?_
    refine wp_forget (L' := [some (vR 124), some (vI l1), some (vI s0), none, none]) (by repeat' (first | exact trivial | refine ⟨rfl, ?_⟩)) ?_
    exact h
  · replace h := h.2 h82
    refine wp_aload_n dX12_text_85 rfl rfl (by first | exact Or.inl (by decide) | exact Or.inl (by omega) | exact Or.inr (by decide) | exact Or.inr (by omega)) ?_
    refine wp_iload dX12_text_86 rfl ?_
    refine wp_iload_n dX12_text_88 rfl rfl ?_
    refine wp_cVq (n := 2) (mt' := mX12_keep) (as := [vI l4, vI l3]) (rest := []) _ dX12_text_89 lX12_335 kX12_keep vX12_keep (by decide) (by decide +kernel) rfl (Nat.le_of_ble_eq_true rfl) (by decide) rfl rfl rfl (Nat.le_of_ble_eq_true rfl) (fun hM hS => h) (fun r M' hq hM => ?_)
    obtain ⟨m89, n89, rfl, rfl, h⟩ := rV_out hq
    refine wp_aload_n dX12_text_92 rfl rfl (by first | exact Or.inl (by decide) | exact Or.inl (by omega) | exact Or.inr (by decide) | exact Or.inr (by omega)) ?_
    refine wp_getR dX12_text_93 fX12_52 rfl (by decide) ?_
    refine wp_topR (x' := 137) rfl ?_
    refine wp_sipush dX12_text_96 (by decide +kernel) (by decide) ?_
    refine wp_aload_n dX12_text_99 rfl rfl (by first | exact Or.inl (by decide) | exact Or.inl (by omega) | exact Or.inr (by decide) | exact Or.inr (by omega)) ?_
    refine wp_getI dX12_text_100 fX12_328 rfl (by decide) ?_
    have c0 := h.1
    replace h := h.2
    refine wp_imulr dX12_text_103 c0 ?_
    refine wp_iload_n dX12_text_104 rfl rfl ?_
    refine wp_pc (pc' := 105) rfl ?_
    have c1 := h.1
    replace h := h.2
    refine wp_iaddr dX12_text_105 c1 ?_
    refine wp_aload_n dX12_text_106 rfl rfl (by first | exact Or.inl (by decide) | exact Or.inl (by omega) | exact Or.inr (by decide) | exact Or.inr (by omega)) ?_
    refine wp_getR dX12_text_107 fX12_52 rfl (by decide) ?_
    refine wp_topR (x' := 137) rfl ?_
    refine wp_sipush dX12_text_110 (by decide +kernel) (by decide) ?_
    refine wp_aload_n dX12_text_113 rfl rfl (by first | exact Or.inl (by decide) | exact Or.inl (by omega) | exact Or.inr (by decide) | exact Or.inr (by omega)) ?_
    refine wp_getI dX12_text_114 fX12_328 rfl (by decide) ?_
    refine wp_imulr dX12_text_117 c0 ?_
    refine wp_iload_n dX12_text_118 rfl rfl ?_
    refine wp_pc (pc' := 119) rfl ?_
    refine wp_iaddr dX12_text_119 c1 ?_
    have c2 := h.1
    replace h := h.2
    refine wp_zald dX12_text_120 rfl (by decide) c2 ?_
    refine wp_if_eq (tgt := 143) dX12_text_121 (by decide) (fun h121 => ?_) (fun h121 => ?_)
    · replace h := h.1 h121
      refine wp_iconst dX12_text_143 (by decide) ?_
      refine wp_zast dX12_text_144 rfl (by decide) c2 (by decide) ?_
      refine wp_gI (fun m144 e144 => ?_)
      replace h := h m144 e144
      refine wp_goto (tgt := 21) dX12_text_145 (by decide) ?_
      refine wp_forget (L' := [some (vR 124), some (vI l1), some (vI s0), none, none]) (by repeat' (first | exact trivial | refine ⟨rfl, ?_⟩)) ?_
      exact h
    · replace h := h.2 h121
      refine wp_iload dX12_text_124 rfl ?_
      refine wp_cSq (n := 1) (mt' := mX12_isS) (as := [vI l4]) (rest := [vI ((600 * (m89 124 8)) + s0), vR 137]) _ dX12_text_126 lX12_297 kX12_isS vX12_isS (by decide) (by decide +kernel) rfl (Nat.le_of_ble_eq_true rfl) rfl (Nat.le_of_ble_eq_true rfl) (fun hM hS => h) (fun r M' hq hM => ?_)
      obtain ⟨x126, m126, n126, rfl, rfl, h⟩ := rI_out hq
      refine wp_if_eq (tgt := 143) dX12_text_129 (by decide) (fun h129 => ?_) (fun h129 => ?_)
      · replace h := h.1 h129
        refine wp_iconst dX12_text_143 (by decide) ?_
        refine wp_zast dX12_text_144 rfl (by decide) c2 (by decide) ?_
        refine wp_gI (fun m144 e144 => ?_)
        replace h := h m144 e144
        refine wp_goto (tgt := 21) dX12_text_145 (by decide) ?_
        refine wp_forget (L' := [some (vR 124), some (vI l1), some (vI s0), none, none]) (by repeat' (first | exact trivial | refine ⟨rfl, ?_⟩)) ?_
        exact h
      · replace h := h.2 h129
        refine wp_aload_n dX12_text_132 rfl rfl (by first | exact Or.inl (by decide) | exact Or.inl (by omega) | exact Or.inr (by decide) | exact Or.inr (by omega)) ?_
        refine wp_getI dX12_text_133 fX12_309 rfl (by decide) ?_
        refine wp_if_ne (tgt := 143) dX12_text_136 (by decide) (fun h136 => ?_) (fun h136 => ?_)
        · replace h := h.2 h136
          refine wp_iconst dX12_text_143 (by decide) ?_
          refine wp_zast dX12_text_144 rfl (by decide) c2 (by decide) ?_
          refine wp_gI (fun m144 e144 => ?_)
          replace h := h m144 e144
          refine wp_goto (tgt := 21) dX12_text_145 (by decide) ?_
          refine wp_forget (L' := [some (vR 124), some (vI l1), some (vI s0), none, none]) (by repeat' (first | exact trivial | refine ⟨rfl, ?_⟩)) ?_
          exact h
        · replace h := h.1 h136
          refine wp_iconst dX12_text_139 (by decide) ?_
          refine wp_goto (tgt := 144) dX12_text_140 (by decide) ?_
          refine wp_zast dX12_text_144 rfl (by decide) c2 (by decide) ?_
          refine wp_gI (fun m144 e144 => ?_)
          replace h := h m144 e144
          refine wp_goto (tgt := 21) dX12_text_145 (by decide) ?_
          refine wp_forget (L' := [some (vR 124), some (vI l1), some (vI s0), none, none]) (by repeat' (first | exact trivial | refine ⟨rfl, ?_⟩)) ?_
          exact h
theorem v_X12_text_148 {cs : Cs} {Q : Option AV → Mm → Prop} {MI ML : Nat → Nat → Int} {d e nw th x : Nat} {l1 l2 : Int}
    (h : ((l2 < 0 → Q none (MI, ML, (GR d e nw th x))) ∧ (0 ≤ l2 → (-2147483648 ≤ 600 * (MI 124 8) ∧ 600 * (MI 124 8) < 2147483648) ∧ (-2147483648 ≤ (600 * (MI 124 8)) + l2 ∧ (600 * (MI 124 8)) + l2 < 2147483648) ∧ (0 ≤ ((600 * (MI 124 8)) + l2) ∧ ((600 * (MI 124 8)) + l2) < 1200) ∧ ∀ m167, m167 = up2 MI 134 ((600 * (MI 124 8)) + l2).toNat l1 → (-2147483648 ≤ 600 * (m167 124 8) ∧ 600 * (m167 124 8) < 2147483648) ∧ (-2147483648 ≤ (600 * (m167 124 8)) + l2 ∧ (600 * (m167 124 8)) + l2 < 2147483648) ∧ (-2147483648 ≤ 2000 * (m167 124 8) ∧ 2000 * (m167 124 8) < 2147483648) ∧ (0 ≤ (m167 124 8) ∧ (m167 124 8) < 2) ∧ (-2147483648 ≤ (2000 * (m167 124 8)) + (m167 139 (m167 124 8).toNat) ∧ (2000 * (m167 124 8)) + (m167 139 (m167 124 8).toNat) < 2147483648) ∧ (-2147483648 ≤ ((2000 * (m167 124 8)) + (m167 139 (m167 124 8).toNat)) - l1 ∧ ((2000 * (m167 124 8)) + (m167 139 (m167 124 8).toNat)) - l1 < 2147483648) ∧ (0 ≤ ((600 * (m167 124 8)) + l2) ∧ ((600 * (m167 124 8)) + l2) < 1200) ∧ ∀ m202, m202 = up2 m167 135 ((600 * (m167 124 8)) + l2).toNat (((2000 * (m167 124 8)) + (m167 139 (m167 124 8).toNat)) - l1) → Q none (m202, ML, (GR d e nw th x))))) :
    wp cs mX12_text KD Q 148 [some (vR 124), some (vI l1), some (vI l2), none, none] [] (KD, MI, ML, (GR d e nw th x)) := by
  refine wp_iload_n dX12_text_148 rfl rfl ?_
  refine wp_if_lt (tgt := 203) dX12_text_149 (by decide) (fun h149 => ?_) (fun h149 => ?_)
  · replace h := h.1 h149
    exact wp_vret dX12_text_203 rfl (fun _ => h)
  · replace h := h.2 h149
    refine wp_aload_n dX12_text_152 rfl rfl (by first | exact Or.inl (by decide) | exact Or.inl (by omega) | exact Or.inr (by decide) | exact Or.inr (by omega)) ?_
    refine wp_getR dX12_text_153 fX12_43 rfl (by decide) ?_
    refine wp_topR (x' := 134) rfl ?_
    refine wp_sipush dX12_text_156 (by decide +kernel) (by decide) ?_
    refine wp_aload_n dX12_text_159 rfl rfl (by first | exact Or.inl (by decide) | exact Or.inl (by omega) | exact Or.inr (by decide) | exact Or.inr (by omega)) ?_
    refine wp_getI dX12_text_160 fX12_328 rfl (by decide) ?_
    have c0 := h.1
    replace h := h.2
    refine wp_imulr dX12_text_163 c0 ?_
    refine wp_iload_n dX12_text_164 rfl rfl ?_
    refine wp_pc (pc' := 165) rfl ?_
    have c1 := h.1
    replace h := h.2
    refine wp_iaddr dX12_text_165 c1 ?_
    refine wp_iload_n dX12_text_166 rfl rfl ?_
    have c2 := h.1
    replace h := h.2
    refine wp_iast dX12_text_167 rfl (by decide) c2 ?_
    refine wp_gI (fun m167 e167 => ?_)
    replace h := h m167 e167
    refine wp_aload_n dX12_text_168 rfl rfl (by first | exact Or.inl (by decide) | exact Or.inl (by omega) | exact Or.inr (by decide) | exact Or.inr (by omega)) ?_
    refine wp_getR dX12_text_169 fX12_46 rfl (by decide) ?_
    refine wp_topR (x' := 135) rfl ?_
    refine wp_sipush dX12_text_172 (by decide +kernel) (by decide) ?_
    refine wp_aload_n dX12_text_175 rfl rfl (by first | exact Or.inl (by decide) | exact Or.inl (by omega) | exact Or.inr (by decide) | exact Or.inr (by omega)) ?_
    refine wp_getI dX12_text_176 fX12_328 rfl (by decide) ?_
    refine wp_pc (pc' := 179) rfl ?_
    have c3 := h.1
    replace h := h.2
    refine wp_imulr dX12_text_179 c3 ?_
    refine wp_iload_n dX12_text_180 rfl rfl ?_
    have c4 := h.1
    replace h := h.2
    refine wp_iaddr dX12_text_181 c4 ?_
    refine wp_sipush dX12_text_182 (by decide +kernel) (by decide) ?_
    refine wp_aload_n dX12_text_185 rfl rfl (by first | exact Or.inl (by decide) | exact Or.inl (by omega) | exact Or.inr (by decide) | exact Or.inr (by omega)) ?_
    refine wp_getI dX12_text_186 fX12_328 rfl (by decide) ?_
    have c5 := h.1
    replace h := h.2
    refine wp_imulr dX12_text_189 c5 ?_
    refine wp_aload_n dX12_text_190 rfl rfl (by first | exact Or.inl (by decide) | exact Or.inl (by omega) | exact Or.inr (by decide) | exact Or.inr (by omega)) ?_
    refine wp_pc (pc' := 191) rfl ?_
    refine wp_getR dX12_text_191 fX12_58 rfl (by decide) ?_
    refine wp_topR (x' := 139) rfl ?_
    refine wp_aload_n dX12_text_194 rfl rfl (by first | exact Or.inl (by decide) | exact Or.inl (by omega) | exact Or.inr (by decide) | exact Or.inr (by omega)) ?_
    refine wp_getI dX12_text_195 fX12_328 rfl (by decide) ?_
    have c6 := h.1
    replace h := h.2
    refine wp_iald dX12_text_198 rfl (by decide) c6 ?_
    have c7 := h.1
    replace h := h.2
    refine wp_iaddr dX12_text_199 c7 ?_
    refine wp_iload_n dX12_text_200 rfl rfl ?_
    have c8 := h.1
    replace h := h.2
    refine wp_isubr dX12_text_201 c8 ?_
    have c9 := h.1
    replace h := h.2
    refine wp_iast dX12_text_202 rfl (by decide) c9 ?_
    refine wp_gI (fun m202 e202 => ?_)
    replace h := h m202 e202
    refine wp_pc (pc' := 203) rfl ?_
    exact wp_vret dX12_text_203 rfl (fun _ => h)
theorem dX12_content_0 : decode cX12_content 0 = .ok (.aload_n 0, 1) := by decide +kernel
theorem dX12_content_1 : decode cX12_content 1 = .ok (.invokevirtual 289, 3) := by decide +kernel
theorem dX12_content_4 : decode cX12_content 4 = .ok (.ifCond .eq 73, 3) := by decide +kernel
theorem dX12_content_7 : decode cX12_content 7 = .ok (.aload_n 0, 1) := by decide +kernel
theorem dX12_content_8 : decode cX12_content 8 = .ok (.getfield 443, 3) := by decide +kernel
theorem dX12_content_11 : decode cX12_content 11 = .ok (.ifCond .le 66, 3) := by decide +kernel
theorem dX12_content_14 : decode cX12_content 14 = .ok (.aload_n 0, 1) := by decide +kernel
theorem dX12_content_15 : decode cX12_content 15 = .ok (.ldc2_w 465, 3) := by decide +kernel
theorem dX12_content_18 : decode cX12_content 18 = .ok (.iconst 2, 1) := by decide +kernel
theorem dX12_content_19 : decode cX12_content 19 = .ok (.invokevirtual 285, 3) := by decide +kernel
theorem dX12_content_22 : decode cX12_content 22 = .ok (.ifCond .eq 10, 3) := by decide +kernel
theorem dX12_content_25 : decode cX12_content 25 = .ok (.aload_n 0, 1) := by decide +kernel
theorem dX12_content_26 : decode cX12_content 26 = .ok (.invokevirtual 467, 3) := by decide +kernel
theorem dX12_content_29 : decode cX12_content 29 = .ok (.goto (-29), 3) := by decide +kernel
theorem dX12_content_32 : decode cX12_content 32 = .ok (.aload_n 0, 1) := by decide +kernel
theorem dX12_content_33 : decode cX12_content 33 = .ok (.ldc2_w 343, 3) := by decide +kernel
theorem dX12_content_36 : decode cX12_content 36 = .ok (.iconst 4, 1) := by decide +kernel
theorem dX12_content_37 : decode cX12_content 37 = .ok (.invokevirtual 285, 3) := by decide +kernel
theorem dX12_content_40 : decode cX12_content 40 = .ok (.ifCond .eq 10, 3) := by decide +kernel
theorem dX12_content_43 : decode cX12_content 43 = .ok (.aload_n 0, 1) := by decide +kernel
theorem dX12_content_44 : decode cX12_content 44 = .ok (.invokevirtual 345, 3) := by decide +kernel
theorem dX12_content_47 : decode cX12_content 47 = .ok (.goto (-47), 3) := by decide +kernel
theorem dX12_content_50 : decode cX12_content 50 = .ok (.aload_n 0, 1) := by decide +kernel
theorem dX12_content_51 : decode cX12_content 51 = .ok (.aload_n 0, 1) := by decide +kernel
theorem dX12_content_52 : decode cX12_content 52 = .ok (.getfield 276, 3) := by decide +kernel
theorem dX12_content_55 : decode cX12_content 55 = .ok (.invokevirtual 279, 3) := by decide +kernel
theorem dX12_content_58 : decode cX12_content 58 = .ok (.bipush 60, 2) := by decide +kernel
theorem dX12_content_60 : decode cX12_content 60 = .ok (.if_icmp .ne 10, 3) := by decide +kernel
theorem dX12_content_63 : decode cX12_content 63 = .ok (.aload_n 0, 1) := by decide +kernel
theorem dX12_content_64 : decode cX12_content 64 = .ok (.invokevirtual 470, 3) := by decide +kernel
theorem dX12_content_67 : decode cX12_content 67 = .ok (.goto (-67), 3) := by decide +kernel
theorem dX12_content_70 : decode cX12_content 70 = .ok (.aload_n 0, 1) := by decide +kernel
theorem dX12_content_71 : decode cX12_content 71 = .ok (.invokevirtual 473, 3) := by decide +kernel
theorem dX12_content_74 : decode cX12_content 74 = .ok (.goto (-74), 3) := by decide +kernel
theorem dX12_content_77 : decode cX12_content 77 = .ok (.return_, 1) := by decide +kernel
theorem v_X12_content_0 {cs : Cs} {Q : Option AV → Mm → Prop} {MI ML : Nat → Nat → Int} {d e nw th x : Nat}
    (h : wp cs mX12_isGood KD (rI (GR d e nw th x) fun x1 m1 n1 => ((x1 = 0 → Q none (m1, n1, (GR d e nw th x))) ∧ (x1 ≠ 0 → ((0 < (m1 124 64) → wp cs mX12_stands KD (rI (GR d e nw th x) fun x19 m19 n19 => ((x19 = 0 → wp cs mX12_stands KD (rI (GR d e nw th x) fun x37 m37 n37 => ((x37 = 0 → wp cs mX12_octet KD (rI (GR d e nw th x) fun x55 m55 n55 => ((x55 = 60 → wp cs mX12_element KD (rV (GR d e nw th x) fun m64 n64 => wp cs mX12_content KD Q 0 [some (vR 124)] [] (KD, m64, n64, (GR d e nw th x))) 0 (padL [vR 124] 8) [] (KD, m55, n55, (GR d e nw th x))) ∧ (x55 ≠ 60 → wp cs mX12_text KD (rV (GR d e nw th x) fun m71 n71 => wp cs mX12_content KD Q 0 [some (vR 124)] [] (KD, m71, n71, (GR d e nw th x))) 0 (padL [vR 124] 5) [] (KD, m55, n55, (GR d e nw th x))))) 0 (padL [vR 124, vI (m37 124 4)] 2) [] (KD, m37, n37, (GR d e nw th x))) ∧ (x37 ≠ 0 → wp cs mX12_comment KD (rV (GR d e nw th x) fun m44 n44 => wp cs mX12_content KD Q 0 [some (vR 124)] [] (KD, m44, n44, (GR d e nw th x))) 0 (padL [vR 124] 2) [] (KD, m37, n37, (GR d e nw th x))))) 0 (padL [vR 124, vL 1008807213, vI 4] 6) [] (KD, m19, n19, (GR d e nw th x))) ∧ (x19 ≠ 0 → wp cs mX12_close KD (rV (GR d e nw th x) fun m26 n26 => wp cs mX12_content KD Q 0 [some (vR 124)] [] (KD, m26, n26, (GR d e nw th x))) 0 (padL [vR 124] 4) [] (KD, m19, n19, (GR d e nw th x))))) 0 (padL [vR 124, vL 15407, vI 2] 6) [] (KD, m1, n1, (GR d e nw th x))) ∧ ((m1 124 64) ≤ 0 → Q none (m1, n1, (GR d e nw th x))))))) 0 (padL [vR 124] 1) [] (KD, MI, ML, (GR d e nw th x))) :
    wp cs mX12_content KD Q 0 (padL [vR 124] 1) [] (KD, MI, ML, (GR d e nw th x)) := by
  refine wp_L (L' := [some (vR 124)]) rfl ?_
  refine wp_aload_n dX12_content_0 rfl rfl (by first | exact Or.inl (by decide) | exact Or.inl (by omega) | exact Or.inr (by decide) | exact Or.inr (by omega)) ?_
  refine wp_cVq (n := 0) (mt' := mX12_isGood) (as := []) (rest := []) _ dX12_content_1 lX12_289 kX12_isGood vX12_isGood (by decide) (by decide +kernel) rfl (Nat.le_of_ble_eq_true rfl) (by decide) rfl rfl rfl (Nat.le_of_ble_eq_true rfl) (fun hM hS => h) (fun r M' hq hM => ?_)
  obtain ⟨x1, m1, n1, rfl, rfl, h⟩ := rI_out hq
  refine wp_if_eq (tgt := 77) dX12_content_4 (by decide) (fun h4 => ?_) (fun h4 => ?_)
  · replace h := h.1 h4
    exact wp_vret dX12_content_77 rfl (fun _ => h)
  · replace h := h.2 h4
    refine wp_aload_n dX12_content_7 rfl rfl (by first | exact Or.inl (by decide) | exact Or.inl (by omega) | exact Or.inr (by decide) | exact Or.inr (by omega)) ?_
    refine wp_getI dX12_content_8 fX12_443 rfl (by decide) ?_
    refine wp_if_le (tgt := 77) dX12_content_11 (by decide) (fun h11 => ?_) (fun h11 => ?_)
    · replace h := h.2 h11
      exact wp_vret dX12_content_77 rfl (fun _ => h)
    · replace h := h.1 h11
      refine wp_aload_n dX12_content_14 rfl rfl (by first | exact Or.inl (by decide) | exact Or.inl (by omega) | exact Or.inr (by decide) | exact Or.inr (by omega)) ?_
      refine wp_ldc2 (x := 15407) dX12_content_15 cX12_465 (by decide) ?_
      refine wp_iconst dX12_content_18 (by decide) ?_
      refine wp_cVq (n := 2) (mt' := mX12_stands) (as := [vL 15407, vI 2]) (rest := []) _ dX12_content_19 lX12_285 kX12_stands vX12_stands (by decide) (by decide +kernel) rfl (Nat.le_of_ble_eq_true rfl) (by decide) rfl rfl rfl (Nat.le_of_ble_eq_true rfl) (fun hM hS => h) (fun r M' hq hM => ?_)
      obtain ⟨x19, m19, n19, rfl, rfl, h⟩ := rI_out hq
      refine wp_if_eq (tgt := 32) dX12_content_22 (by decide) (fun h22 => ?_) (fun h22 => ?_)
      · replace h := h.1 h22
        refine wp_aload_n dX12_content_32 rfl rfl (by first | exact Or.inl (by decide) | exact Or.inl (by omega) | exact Or.inr (by decide) | exact Or.inr (by omega)) ?_
        refine wp_ldc2 (x := 1008807213) dX12_content_33 cX12_343 (by decide) ?_
        refine wp_iconst dX12_content_36 (by decide) ?_
        refine wp_cVq (n := 2) (mt' := mX12_stands) (as := [vL 1008807213, vI 4]) (rest := []) _ dX12_content_37 lX12_285 kX12_stands vX12_stands (by decide) (by decide +kernel) rfl (Nat.le_of_ble_eq_true rfl) (by decide) rfl rfl rfl (Nat.le_of_ble_eq_true rfl) (fun hM hS => h) (fun r M' hq hM => ?_)
        obtain ⟨x37, m37, n37, rfl, rfl, h⟩ := rI_out hq
        refine wp_if_eq (tgt := 50) dX12_content_40 (by decide) (fun h40 => ?_) (fun h40 => ?_)
        · replace h := h.1 h40
          refine wp_aload_n dX12_content_50 rfl rfl (by first | exact Or.inl (by decide) | exact Or.inl (by omega) | exact Or.inr (by decide) | exact Or.inr (by omega)) ?_
          refine wp_aload_n dX12_content_51 rfl rfl (by first | exact Or.inl (by decide) | exact Or.inl (by omega) | exact Or.inr (by decide) | exact Or.inr (by omega)) ?_
          refine wp_getI dX12_content_52 fX12_276 rfl (by decide) ?_
          refine wp_cVq (n := 1) (mt' := mX12_octet) (as := [vI (m37 124 4)]) (rest := []) _ dX12_content_55 lX12_279 kX12_octet vX12_octet (by decide) (by decide +kernel) rfl (Nat.le_of_ble_eq_true rfl) (by decide) rfl rfl rfl (Nat.le_of_ble_eq_true rfl) (fun hM hS => h) (fun r M' hq hM => ?_)
          obtain ⟨x55, m55, n55, rfl, rfl, h⟩ := rI_out hq
          refine wp_bipush dX12_content_58 (by decide +kernel) (by decide) ?_
          refine wp_icmp_ne (tgt := 70) dX12_content_60 (by decide) (fun h60 => ?_) (fun h60 => ?_)
          · replace h := h.2 h60
            refine wp_aload_n dX12_content_70 rfl rfl (by first | exact Or.inl (by decide) | exact Or.inl (by omega) | exact Or.inr (by decide) | exact Or.inr (by omega)) ?_
            refine wp_cVq (n := 0) (mt' := mX12_text) (as := []) (rest := []) _ dX12_content_71 lX12_473 kX12_text vX12_text (by decide) (by decide +kernel) rfl (Nat.le_of_ble_eq_true rfl) (by decide) rfl rfl rfl (Nat.le_of_ble_eq_true rfl) (fun hM hS => h) (fun r M' hq hM => ?_)
            obtain ⟨m71, n71, rfl, rfl, h⟩ := rV_out hq
            refine wp_goto (tgt := 0) dX12_content_74 (by decide) ?_
            exact h
          · replace h := h.1 h60
            refine wp_aload_n dX12_content_63 rfl rfl (by first | exact Or.inl (by decide) | exact Or.inl (by omega) | exact Or.inr (by decide) | exact Or.inr (by omega)) ?_
            refine wp_cVq (n := 0) (mt' := mX12_element) (as := []) (rest := []) _ dX12_content_64 lX12_470 kX12_element vX12_element (by decide) (by decide +kernel) rfl (Nat.le_of_ble_eq_true rfl) (by decide) rfl rfl rfl (Nat.le_of_ble_eq_true rfl) (fun hM hS => h) (fun r M' hq hM => ?_)
            obtain ⟨m64, n64, rfl, rfl, h⟩ := rV_out hq
            refine wp_goto (tgt := 0) dX12_content_67 (by decide) ?_
            exact h
        · replace h := h.2 h40
          refine wp_aload_n dX12_content_43 rfl rfl (by first | exact Or.inl (by decide) | exact Or.inl (by omega) | exact Or.inr (by decide) | exact Or.inr (by omega)) ?_
          refine wp_cVq (n := 0) (mt' := mX12_comment) (as := []) (rest := []) _ dX12_content_44 lX12_345 kX12_comment vX12_comment (by decide) (by decide +kernel) rfl (Nat.le_of_ble_eq_true rfl) (by decide) rfl rfl rfl (Nat.le_of_ble_eq_true rfl) (fun hM hS => h) (fun r M' hq hM => ?_)
          obtain ⟨m44, n44, rfl, rfl, h⟩ := rV_out hq
          refine wp_goto (tgt := 0) dX12_content_47 (by decide) ?_
          exact h
      · replace h := h.2 h22
        refine wp_aload_n dX12_content_25 rfl rfl (by first | exact Or.inl (by decide) | exact Or.inl (by omega) | exact Or.inr (by decide) | exact Or.inr (by omega)) ?_
        refine wp_cVq (n := 0) (mt' := mX12_close) (as := []) (rest := []) _ dX12_content_26 lX12_467 kX12_close vX12_close (by decide) (by decide +kernel) rfl (Nat.le_of_ble_eq_true rfl) (by decide) rfl rfl rfl (Nat.le_of_ble_eq_true rfl) (fun hM hS => h) (fun r M' hq hM => ?_)
        obtain ⟨m26, n26, rfl, rfl, h⟩ := rV_out hq
        refine wp_goto (tgt := 0) dX12_content_29 (by decide) ?_
        exact h
theorem dX12_declOf_0 : decode cX12_declOf 0 = .ok (.bipush 30, 2) := by decide +kernel
theorem dX12_declOf_2 : decode cX12_declOf 2 = .ok (.aload_n 0, 1) := by decide +kernel
theorem dX12_declOf_3 : decode cX12_declOf 3 = .ok (.getfield 482, 3) := by decide +kernel
theorem dX12_declOf_6 : decode cX12_declOf 6 = .ok (.imul, 1) := by decide +kernel
theorem dX12_declOf_7 : decode cX12_declOf 7 = .ok (.istore_n 3, 1) := by decide +kernel
theorem dX12_declOf_8 : decode cX12_declOf 8 = .ok (.iload_n 3, 1) := by decide +kernel
theorem dX12_declOf_9 : decode cX12_declOf 9 = .ok (.bipush 30, 2) := by decide +kernel
theorem dX12_declOf_11 : decode cX12_declOf 11 = .ok (.aload_n 0, 1) := by decide +kernel
theorem dX12_declOf_12 : decode cX12_declOf 12 = .ok (.getfield 482, 3) := by decide +kernel
theorem dX12_declOf_15 : decode cX12_declOf 15 = .ok (.imul, 1) := by decide +kernel
theorem dX12_declOf_16 : decode cX12_declOf 16 = .ok (.aload_n 0, 1) := by decide +kernel
theorem dX12_declOf_17 : decode cX12_declOf 17 = .ok (.getfield 70, 3) := by decide +kernel
theorem dX12_declOf_20 : decode cX12_declOf 20 = .ok (.aload_n 0, 1) := by decide +kernel
theorem dX12_declOf_21 : decode cX12_declOf 21 = .ok (.getfield 482, 3) := by decide +kernel
theorem dX12_declOf_24 : decode cX12_declOf 24 = .ok (.iaload, 1) := by decide +kernel
theorem dX12_declOf_25 : decode cX12_declOf 25 = .ok (.iadd, 1) := by decide +kernel
theorem dX12_declOf_26 : decode cX12_declOf 26 = .ok (.if_icmp .ge 32, 3) := by decide +kernel
theorem dX12_declOf_29 : decode cX12_declOf 29 = .ok (.aload_n 0, 1) := by decide +kernel
theorem dX12_declOf_30 : decode cX12_declOf 30 = .ok (.aload_n 0, 1) := by decide +kernel
theorem dX12_declOf_31 : decode cX12_declOf 31 = .ok (.getfield 73, 3) := by decide +kernel
theorem dX12_declOf_34 : decode cX12_declOf 34 = .ok (.iload_n 3, 1) := by decide +kernel
theorem dX12_declOf_35 : decode cX12_declOf 35 = .ok (.iaload, 1) := by decide +kernel
theorem dX12_declOf_36 : decode cX12_declOf 36 = .ok (.aload_n 0, 1) := by decide +kernel
theorem dX12_declOf_37 : decode cX12_declOf 37 = .ok (.getfield 76, 3) := by decide +kernel
theorem dX12_declOf_40 : decode cX12_declOf 40 = .ok (.iload_n 3, 1) := by decide +kernel
theorem dX12_declOf_41 : decode cX12_declOf 41 = .ok (.iaload, 1) := by decide +kernel
theorem dX12_declOf_42 : decode cX12_declOf 42 = .ok (.iload_n 1, 1) := by decide +kernel
theorem dX12_declOf_43 : decode cX12_declOf 43 = .ok (.iload_n 2, 1) := by decide +kernel
theorem dX12_declOf_44 : decode cX12_declOf 44 = .ok (.invokevirtual 412, 3) := by decide +kernel
theorem dX12_declOf_47 : decode cX12_declOf 47 = .ok (.ifCond .eq 5, 3) := by decide +kernel
theorem dX12_declOf_50 : decode cX12_declOf 50 = .ok (.iload_n 3, 1) := by decide +kernel
theorem dX12_declOf_51 : decode cX12_declOf 51 = .ok (.ireturn, 1) := by decide +kernel
theorem dX12_declOf_52 : decode cX12_declOf 52 = .ok (.iinc 3 1, 3) := by decide +kernel
theorem dX12_declOf_55 : decode cX12_declOf 55 = .ok (.goto (-47), 3) := by decide +kernel
theorem dX12_declOf_58 : decode cX12_declOf 58 = .ok (.iconst (-1), 1) := by decide +kernel
theorem dX12_declOf_59 : decode cX12_declOf 59 = .ok (.ireturn, 1) := by decide +kernel
theorem v_X12_declOf_0 {cs : Cs} {Q : Option AV → Mm → Prop} {MI ML : Nat → Nat → Int} {d e nw th x : Nat} {l1 l2 : Int}
    (h : (-2147483648 ≤ 30 * (MI 124 7) ∧ 30 * (MI 124 7) < 2147483648) ∧ wp cs mX12_declOf KD Q 8 [some (vR 124), some (vI l1), some (vI l2), some (vI (30 * (MI 124 7)))] [] (KD, MI, ML, (GR d e nw th x))) :
    wp cs mX12_declOf KD Q 0 (padL [vR 124, vI l1, vI l2] 4) [] (KD, MI, ML, (GR d e nw th x)) := by
  refine wp_L (L' := [some (vR 124), some (vI l1), some (vI l2), none]) rfl ?_
  refine wp_bipush dX12_declOf_0 (by decide +kernel) (by decide) ?_
  refine wp_aload_n dX12_declOf_2 rfl rfl (by first | exact Or.inl (by decide) | exact Or.inl (by omega) | exact Or.inr (by decide) | exact Or.inr (by omega)) ?_
  refine wp_getI dX12_declOf_3 fX12_482 rfl (by decide) ?_
  have c0 := h.1
  replace h := h.2
  refine wp_imulr dX12_declOf_6 c0 ?_
  refine wp_istore_n dX12_declOf_7 rfl (by decide) (wp_L (L' := [some (vR 124), some (vI l1), some (vI l2), some (vI (30 * (MI 124 7)))]) rfl ?_)
  exact h
theorem v_X12_declOf_8 {cs : Cs} {Q : Option AV → Mm → Prop} {MI ML : Nat → Nat → Int} {d e nw th x : Nat} {l1 l2 l3 : Int}
    (h : (-2147483648 ≤ 30 * (MI 124 7) ∧ 30 * (MI 124 7) < 2147483648) ∧ (0 ≤ (MI 124 7) ∧ (MI 124 7) < 2) ∧ (-2147483648 ≤ (30 * (MI 124 7)) + (MI 143 (MI 124 7).toNat) ∧ (30 * (MI 124 7)) + (MI 143 (MI 124 7).toNat) < 2147483648) ∧ ((l3 < ((30 * (MI 124 7)) + (MI 143 (MI 124 7).toNat)) → (0 ≤ l3 ∧ l3 < 60) ∧ wp cs mX12_isSame KD (rI (GR d e nw th x) fun x44 m44 n44 => ((x44 = 0 → (-2147483648 ≤ l3 + 1 ∧ l3 + 1 < 2147483648) ∧ wp cs mX12_declOf KD Q 8 [some (vR 124), some (vI l1), some (vI l2), some (vI (l3 + 1))] [] (KD, m44, n44, (GR d e nw th x))) ∧ (x44 ≠ 0 → Q (some (vI l3)) (m44, n44, (GR d e nw th x))))) 0 (padL [vR 124, vI (MI 144 l3.toNat), vI (MI 145 l3.toNat), vI l1, vI l2] 7) [] (KD, MI, ML, (GR d e nw th x))) ∧ (((30 * (MI 124 7)) + (MI 143 (MI 124 7).toNat)) ≤ l3 → Q (some (vI (-1))) (MI, ML, (GR d e nw th x))))) :
    wp cs mX12_declOf KD Q 8 [some (vR 124), some (vI l1), some (vI l2), some (vI l3)] [] (KD, MI, ML, (GR d e nw th x)) := by
  refine wp_iload_n dX12_declOf_8 rfl rfl ?_
  refine wp_bipush dX12_declOf_9 (by decide +kernel) (by decide) ?_
  refine wp_aload_n dX12_declOf_11 rfl rfl (by first | exact Or.inl (by decide) | exact Or.inl (by omega) | exact Or.inr (by decide) | exact Or.inr (by omega)) ?_
  refine wp_getI dX12_declOf_12 fX12_482 rfl (by decide) ?_
  have c0 := h.1
  replace h := h.2
  refine wp_imulr dX12_declOf_15 c0 ?_
  refine wp_aload_n dX12_declOf_16 rfl rfl (by first | exact Or.inl (by decide) | exact Or.inl (by omega) | exact Or.inr (by decide) | exact Or.inr (by omega)) ?_
  refine wp_getR dX12_declOf_17 fX12_70 rfl (by decide) ?_
  refine wp_topR (x' := 143) rfl ?_
  refine wp_pc (pc' := 20) rfl ?_
  refine wp_aload_n dX12_declOf_20 rfl rfl (by first | exact Or.inl (by decide) | exact Or.inl (by omega) | exact Or.inr (by decide) | exact Or.inr (by omega)) ?_
  refine wp_getI dX12_declOf_21 fX12_482 rfl (by decide) ?_
  have c1 := h.1
  replace h := h.2
  refine wp_iald dX12_declOf_24 rfl (by decide) c1 ?_
  have c2 := h.1
  replace h := h.2
  refine wp_iaddr dX12_declOf_25 c2 ?_
  refine wp_icmp_ge (tgt := 58) dX12_declOf_26 (by decide) (fun h26 => ?_) (fun h26 => ?_)
  · replace h := h.2 h26
    refine wp_iconst dX12_declOf_58 (by decide) ?_
    exact wp_iret dX12_declOf_59 rfl (fun _ => h)
  · replace h := h.1 h26
    refine wp_aload_n dX12_declOf_29 rfl rfl (by first | exact Or.inl (by decide) | exact Or.inl (by omega) | exact Or.inr (by decide) | exact Or.inr (by omega)) ?_
    refine wp_aload_n dX12_declOf_30 rfl rfl (by first | exact Or.inl (by decide) | exact Or.inl (by omega) | exact Or.inr (by decide) | exact Or.inr (by omega)) ?_
    refine wp_getR dX12_declOf_31 fX12_73 rfl (by decide) ?_
    refine wp_topR (x' := 144) rfl ?_
    refine wp_iload_n dX12_declOf_34 rfl rfl ?_
    have c3 := h.1
    replace h := h.2
    refine wp_iald dX12_declOf_35 rfl (by decide) c3 ?_
    refine wp_aload_n dX12_declOf_36 rfl rfl (by first | exact Or.inl (by decide) | exact Or.inl (by omega) | exact Or.inr (by decide) | exact Or.inr (by omega)) ?_
    refine wp_getR dX12_declOf_37 fX12_76 rfl (by decide) ?_
    refine wp_topR (x' := 145) rfl ?_
    refine wp_pc (pc' := 40) rfl ?_
    refine wp_iload_n dX12_declOf_40 rfl rfl ?_
    refine wp_iald dX12_declOf_41 rfl (by decide) c3 ?_
    refine wp_iload_n dX12_declOf_42 rfl rfl ?_
    refine wp_iload_n dX12_declOf_43 rfl rfl ?_
    refine wp_cVq (n := 4) (mt' := mX12_isSame) (as := [vI (MI 144 l3.toNat), vI (MI 145 l3.toNat), vI l1, vI l2]) (rest := []) _ dX12_declOf_44 lX12_412 kX12_isSame vX12_isSame (by decide) (by decide +kernel) rfl (Nat.le_of_ble_eq_true rfl) (by decide) rfl rfl rfl (Nat.le_of_ble_eq_true rfl) (fun hM hS => h) (fun r M' hq hM => ?_)
    obtain ⟨x44, m44, n44, rfl, rfl, h⟩ := rI_out hq
    refine wp_if_eq (tgt := 52) dX12_declOf_47 (by decide) (fun h47 => ?_) (fun h47 => ?_)
    · replace h := h.1 h47
      have c4 := h.1
      replace h := h.2
      refine wp_iincr dX12_declOf_52 rfl (by decide) c4 (wp_L (L' := [some (vR 124), some (vI l1), some (vI l2), some (vI (l3 + 1))]) rfl ?_)
      refine wp_goto (tgt := 8) dX12_declOf_55 (by decide) ?_
      exact h
    · replace h := h.2 h47
      refine wp_iload_n dX12_declOf_50 rfl rfl ?_
      exact wp_iret dX12_declOf_51 rfl (fun _ => h)
theorem dX12_tellFinding_0 : decode cX12_tellFinding 0 = .ok (.aload_n 0, 1) := by decide +kernel
theorem dX12_tellFinding_1 : decode cX12_tellFinding 1 = .ok (.getfield 164, 3) := by decide +kernel
theorem dX12_tellFinding_4 : decode cX12_tellFinding 4 = .ok (.aload_n 0, 1) := by decide +kernel
theorem dX12_tellFinding_5 : decode cX12_tellFinding 5 = .ok (.getfield 510, 3) := by decide +kernel
theorem dX12_tellFinding_8 : decode cX12_tellFinding 8 = .ok (.iload_n 1, 1) := by decide +kernel
theorem dX12_tellFinding_9 : decode cX12_tellFinding 9 = .ok (.iastore, 1) := by decide +kernel
theorem dX12_tellFinding_10 : decode cX12_tellFinding 10 = .ok (.aload_n 0, 1) := by decide +kernel
theorem dX12_tellFinding_11 : decode cX12_tellFinding 11 = .ok (.getfield 167, 3) := by decide +kernel
theorem dX12_tellFinding_14 : decode cX12_tellFinding 14 = .ok (.aload_n 0, 1) := by decide +kernel
theorem dX12_tellFinding_15 : decode cX12_tellFinding 15 = .ok (.getfield 510, 3) := by decide +kernel
theorem dX12_tellFinding_18 : decode cX12_tellFinding 18 = .ok (.iload_n 2, 1) := by decide +kernel
theorem dX12_tellFinding_19 : decode cX12_tellFinding 19 = .ok (.iastore, 1) := by decide +kernel
theorem dX12_tellFinding_20 : decode cX12_tellFinding 20 = .ok (.aload_n 0, 1) := by decide +kernel
theorem dX12_tellFinding_21 : decode cX12_tellFinding 21 = .ok (.dup, 1) := by decide +kernel
theorem dX12_tellFinding_22 : decode cX12_tellFinding 22 = .ok (.getfield 510, 3) := by decide +kernel
theorem dX12_tellFinding_25 : decode cX12_tellFinding 25 = .ok (.iconst 1, 1) := by decide +kernel
theorem dX12_tellFinding_26 : decode cX12_tellFinding 26 = .ok (.iadd, 1) := by decide +kernel
theorem dX12_tellFinding_27 : decode cX12_tellFinding 27 = .ok (.putfield 510, 3) := by decide +kernel
theorem dX12_tellFinding_30 : decode cX12_tellFinding 30 = .ok (.return_, 1) := by decide +kernel
theorem v_X12_tellFinding_0 {cs : Cs} {Q : Option AV → Mm → Prop} {MI ML : Nat → Nat → Int} {d e nw th x : Nat} {l1 l2 : Int}
    (h : (0 ≤ (MI 124 65) ∧ (MI 124 65) < 8000) ∧ ∀ m9, m9 = up2 MI 174 (MI 124 65).toNat l1 → (0 ≤ (m9 124 65) ∧ (m9 124 65) < 8000) ∧ ∀ m19, m19 = up2 m9 175 (m9 124 65).toNat l2 → (-2147483648 ≤ (m19 124 65) + 1 ∧ (m19 124 65) + 1 < 2147483648) ∧ ∀ m27, m27 = up2 m19 124 65 ((m19 124 65) + 1) → Q none (m27, ML, (GR d e nw th x))) :
    wp cs mX12_tellFinding KD Q 0 (padL [vR 124, vI l1, vI l2] 3) [] (KD, MI, ML, (GR d e nw th x)) := by
  refine wp_L (L' := [some (vR 124), some (vI l1), some (vI l2)]) rfl ?_
  refine wp_aload_n dX12_tellFinding_0 rfl rfl (by first | exact Or.inl (by decide) | exact Or.inl (by omega) | exact Or.inr (by decide) | exact Or.inr (by omega)) ?_
  refine wp_getR dX12_tellFinding_1 fX12_164 rfl (by decide) ?_
  refine wp_topR (x' := 174) rfl ?_
  refine wp_aload_n dX12_tellFinding_4 rfl rfl (by first | exact Or.inl (by decide) | exact Or.inl (by omega) | exact Or.inr (by decide) | exact Or.inr (by omega)) ?_
  refine wp_getI dX12_tellFinding_5 fX12_510 rfl (by decide) ?_
  refine wp_iload_n dX12_tellFinding_8 rfl rfl ?_
  have c0 := h.1
  replace h := h.2
  refine wp_iast dX12_tellFinding_9 rfl (by decide) c0 ?_
  refine wp_gI (fun m9 e9 => ?_)
  replace h := h m9 e9
  refine wp_aload_n dX12_tellFinding_10 rfl rfl (by first | exact Or.inl (by decide) | exact Or.inl (by omega) | exact Or.inr (by decide) | exact Or.inr (by omega)) ?_
  refine wp_pc (pc' := 11) rfl ?_
  refine wp_getR dX12_tellFinding_11 fX12_167 rfl (by decide) ?_
  refine wp_topR (x' := 175) rfl ?_
  refine wp_aload_n dX12_tellFinding_14 rfl rfl (by first | exact Or.inl (by decide) | exact Or.inl (by omega) | exact Or.inr (by decide) | exact Or.inr (by omega)) ?_
  refine wp_getI dX12_tellFinding_15 fX12_510 rfl (by decide) ?_
  refine wp_iload_n dX12_tellFinding_18 rfl rfl ?_
  have c1 := h.1
  replace h := h.2
  refine wp_iast dX12_tellFinding_19 rfl (by decide) c1 ?_
  refine wp_gI (fun m19 e19 => ?_)
  replace h := h m19 e19
  refine wp_aload_n dX12_tellFinding_20 rfl rfl (by first | exact Or.inl (by decide) | exact Or.inl (by omega) | exact Or.inr (by decide) | exact Or.inr (by omega)) ?_
  refine wp_dup dX12_tellFinding_21 (fun x e => by cases e) ?_
  refine wp_getI dX12_tellFinding_22 fX12_510 rfl (by decide) ?_
  refine wp_pc (pc' := 25) rfl ?_
  refine wp_iconst dX12_tellFinding_25 (by decide) ?_
  have c2 := h.1
  replace h := h.2
  refine wp_iaddr dX12_tellFinding_26 c2 ?_
  refine wp_putI dX12_tellFinding_27 pX12_510 rfl (by decide) ?_
  refine wp_gI (fun m27 e27 => ?_)
  replace h := h m27 e27
  exact wp_vret dX12_tellFinding_30 rfl (fun _ => h)
theorem dX12_areAlike_0 : decode cX12_areAlike 0 = .ok (.aload_n 0, 1) := by decide +kernel
theorem dX12_areAlike_1 : decode cX12_areAlike 1 = .ok (.aload_n 0, 1) := by decide +kernel
theorem dX12_areAlike_2 : decode cX12_areAlike 2 = .ok (.getfield 85, 3) := by decide +kernel
theorem dX12_areAlike_5 : decode cX12_areAlike 5 = .ok (.bipush 40, 2) := by decide +kernel
theorem dX12_areAlike_7 : decode cX12_areAlike 7 = .ok (.iload_n 1, 1) := by decide +kernel
theorem dX12_areAlike_8 : decode cX12_areAlike 8 = .ok (.imul, 1) := by decide +kernel
theorem dX12_areAlike_9 : decode cX12_areAlike 9 = .ok (.iload_n 2, 1) := by decide +kernel
theorem dX12_areAlike_10 : decode cX12_areAlike 10 = .ok (.iadd, 1) := by decide +kernel
theorem dX12_areAlike_11 : decode cX12_areAlike 11 = .ok (.iaload, 1) := by decide +kernel
theorem dX12_areAlike_12 : decode cX12_areAlike 12 = .ok (.aload_n 0, 1) := by decide +kernel
theorem dX12_areAlike_13 : decode cX12_areAlike 13 = .ok (.getfield 88, 3) := by decide +kernel
theorem dX12_areAlike_16 : decode cX12_areAlike 16 = .ok (.bipush 40, 2) := by decide +kernel
theorem dX12_areAlike_18 : decode cX12_areAlike 18 = .ok (.iload_n 1, 1) := by decide +kernel
theorem dX12_areAlike_19 : decode cX12_areAlike 19 = .ok (.imul, 1) := by decide +kernel
theorem dX12_areAlike_20 : decode cX12_areAlike 20 = .ok (.iload_n 2, 1) := by decide +kernel
theorem dX12_areAlike_21 : decode cX12_areAlike 21 = .ok (.iadd, 1) := by decide +kernel
theorem dX12_areAlike_22 : decode cX12_areAlike 22 = .ok (.iaload, 1) := by decide +kernel
theorem dX12_areAlike_23 : decode cX12_areAlike 23 = .ok (.aload_n 0, 1) := by decide +kernel
theorem dX12_areAlike_24 : decode cX12_areAlike 24 = .ok (.getfield 85, 3) := by decide +kernel
theorem dX12_areAlike_27 : decode cX12_areAlike 27 = .ok (.bipush 40, 2) := by decide +kernel
theorem dX12_areAlike_29 : decode cX12_areAlike 29 = .ok (.iload_n 1, 1) := by decide +kernel
theorem dX12_areAlike_30 : decode cX12_areAlike 30 = .ok (.imul, 1) := by decide +kernel
theorem dX12_areAlike_31 : decode cX12_areAlike 31 = .ok (.iload_n 3, 1) := by decide +kernel
theorem dX12_areAlike_32 : decode cX12_areAlike 32 = .ok (.iadd, 1) := by decide +kernel
theorem dX12_areAlike_33 : decode cX12_areAlike 33 = .ok (.iaload, 1) := by decide +kernel
theorem dX12_areAlike_34 : decode cX12_areAlike 34 = .ok (.aload_n 0, 1) := by decide +kernel
theorem dX12_areAlike_35 : decode cX12_areAlike 35 = .ok (.getfield 88, 3) := by decide +kernel
theorem dX12_areAlike_38 : decode cX12_areAlike 38 = .ok (.bipush 40, 2) := by decide +kernel
theorem dX12_areAlike_40 : decode cX12_areAlike 40 = .ok (.iload_n 1, 1) := by decide +kernel
theorem dX12_areAlike_41 : decode cX12_areAlike 41 = .ok (.imul, 1) := by decide +kernel
theorem dX12_areAlike_42 : decode cX12_areAlike 42 = .ok (.iload_n 3, 1) := by decide +kernel
theorem dX12_areAlike_43 : decode cX12_areAlike 43 = .ok (.iadd, 1) := by decide +kernel
theorem dX12_areAlike_44 : decode cX12_areAlike 44 = .ok (.iaload, 1) := by decide +kernel
theorem dX12_areAlike_45 : decode cX12_areAlike 45 = .ok (.invokevirtual 412, 3) := by decide +kernel
theorem dX12_areAlike_48 : decode cX12_areAlike 48 = .ok (.ireturn, 1) := by decide +kernel
theorem v_X12_areAlike_0 {cs : Cs} {Q : Option AV → Mm → Prop} {MI ML : Nat → Nat → Int} {d e nw th x : Nat} {l1 l2 l3 : Int}
    (h : (-2147483648 ≤ 40 * l1 ∧ 40 * l1 < 2147483648) ∧ (-2147483648 ≤ (40 * l1) + l2 ∧ (40 * l1) + l2 < 2147483648) ∧ (0 ≤ ((40 * l1) + l2) ∧ ((40 * l1) + l2) < 2400) ∧ (-2147483648 ≤ (40 * l1) + l3 ∧ (40 * l1) + l3 < 2147483648) ∧ (0 ≤ ((40 * l1) + l3) ∧ ((40 * l1) + l3) < 2400) ∧ wp cs mX12_isSame KD (rI (GR d e nw th x) fun x45 m45 n45 => (x45 = 0 ∨ x45 = 1) ∧ Q (some (vI x45)) (m45, n45, (GR d e nw th x))) 0 (padL [vR 124, vI (MI 148 ((40 * l1) + l2).toNat), vI (MI 149 ((40 * l1) + l2).toNat), vI (MI 148 ((40 * l1) + l3).toNat), vI (MI 149 ((40 * l1) + l3).toNat)] 7) [] (KD, MI, ML, (GR d e nw th x))) :
    wp cs mX12_areAlike KD Q 0 (padL [vR 124, vI l1, vI l2, vI l3] 4) [] (KD, MI, ML, (GR d e nw th x)) := by
  refine wp_L (L' := [some (vR 124), some (vI l1), some (vI l2), some (vI l3)]) rfl ?_
  refine wp_aload_n dX12_areAlike_0 rfl rfl (by first | exact Or.inl (by decide) | exact Or.inl (by omega) | exact Or.inr (by decide) | exact Or.inr (by omega)) ?_
  refine wp_aload_n dX12_areAlike_1 rfl rfl (by first | exact Or.inl (by decide) | exact Or.inl (by omega) | exact Or.inr (by decide) | exact Or.inr (by omega)) ?_
  refine wp_getR dX12_areAlike_2 fX12_85 rfl (by decide) ?_
  refine wp_topR (x' := 148) rfl ?_
  refine wp_bipush dX12_areAlike_5 (by decide +kernel) (by decide) ?_
  refine wp_iload_n dX12_areAlike_7 rfl rfl ?_
  have c0 := h.1
  replace h := h.2
  refine wp_imulr dX12_areAlike_8 c0 ?_
  refine wp_iload_n dX12_areAlike_9 rfl rfl ?_
  refine wp_pc (pc' := 10) rfl ?_
  have c1 := h.1
  replace h := h.2
  refine wp_iaddr dX12_areAlike_10 c1 ?_
  have c2 := h.1
  replace h := h.2
  refine wp_iald dX12_areAlike_11 rfl (by decide) c2 ?_
  refine wp_aload_n dX12_areAlike_12 rfl rfl (by first | exact Or.inl (by decide) | exact Or.inl (by omega) | exact Or.inr (by decide) | exact Or.inr (by omega)) ?_
  refine wp_getR dX12_areAlike_13 fX12_88 rfl (by decide) ?_
  refine wp_topR (x' := 149) rfl ?_
  refine wp_bipush dX12_areAlike_16 (by decide +kernel) (by decide) ?_
  refine wp_iload_n dX12_areAlike_18 rfl rfl ?_
  refine wp_imulr dX12_areAlike_19 c0 ?_
  refine wp_iload_n dX12_areAlike_20 rfl rfl ?_
  refine wp_pc (pc' := 21) rfl ?_
  refine wp_iaddr dX12_areAlike_21 c1 ?_
  refine wp_iald dX12_areAlike_22 rfl (by decide) c2 ?_
  refine wp_aload_n dX12_areAlike_23 rfl rfl (by first | exact Or.inl (by decide) | exact Or.inl (by omega) | exact Or.inr (by decide) | exact Or.inr (by omega)) ?_
  refine wp_getR dX12_areAlike_24 fX12_85 rfl (by decide) ?_
  refine wp_topR (x' := 148) rfl ?_
  refine wp_bipush dX12_areAlike_27 (by decide +kernel) (by decide) ?_
  refine wp_iload_n dX12_areAlike_29 rfl rfl ?_
  refine wp_imulr dX12_areAlike_30 c0 ?_
  refine wp_iload_n dX12_areAlike_31 rfl rfl ?_
  refine wp_pc (pc' := 32) rfl ?_
  have c3 := h.1
  replace h := h.2
  refine wp_iaddr dX12_areAlike_32 c3 ?_
  have c4 := h.1
  replace h := h.2
  refine wp_iald dX12_areAlike_33 rfl (by decide) c4 ?_
  refine wp_aload_n dX12_areAlike_34 rfl rfl (by first | exact Or.inl (by decide) | exact Or.inl (by omega) | exact Or.inr (by decide) | exact Or.inr (by omega)) ?_
  refine wp_getR dX12_areAlike_35 fX12_88 rfl (by decide) ?_
  refine wp_topR (x' := 149) rfl ?_
  refine wp_bipush dX12_areAlike_38 (by decide +kernel) (by decide) ?_
  refine wp_iload_n dX12_areAlike_40 rfl rfl ?_
  refine wp_imulr dX12_areAlike_41 c0 ?_
  refine wp_iload_n dX12_areAlike_42 rfl rfl ?_
  refine wp_pc (pc' := 43) rfl ?_
  refine wp_iaddr dX12_areAlike_43 c3 ?_
  refine wp_iald dX12_areAlike_44 rfl (by decide) c4 ?_
  refine wp_cVq (n := 4) (mt' := mX12_isSame) (as := [vI (MI 148 ((40 * l1) + l2).toNat), vI (MI 149 ((40 * l1) + l2).toNat), vI (MI 148 ((40 * l1) + l3).toNat), vI (MI 149 ((40 * l1) + l3).toNat)]) (rest := []) _ dX12_areAlike_45 lX12_412 kX12_isSame vX12_isSame (by decide) (by decide +kernel) rfl (Nat.le_of_ble_eq_true rfl) (by decide) rfl rfl rfl (Nat.le_of_ble_eq_true rfl) (fun hM hS => h) (fun r M' hq hM => ?_)
  obtain ⟨x45, m45, n45, rfl, rfl, h⟩ := rI_out hq
  exact wp_zret dX12_areAlike_48 rfl h.1 (fun _ => h.2)
