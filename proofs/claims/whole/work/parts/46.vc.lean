theorem dX12_value_0 : decode cX12_value 0 = .ok (.aload_n 0, 1) := by decide +kernel
theorem dX12_value_1 : decode cX12_value 1 = .ok (.aload_n 0, 1) := by decide +kernel
theorem dX12_value_2 : decode cX12_value 2 = .ok (.getfield 276, 3) := by decide +kernel
theorem dX12_value_5 : decode cX12_value 5 = .ok (.invokevirtual 279, 3) := by decide +kernel
theorem dX12_value_8 : decode cX12_value 8 = .ok (.istore_n 1, 1) := by decide +kernel
theorem dX12_value_9 : decode cX12_value 9 = .ok (.aload_n 0, 1) := by decide +kernel
theorem dX12_value_10 : decode cX12_value 10 = .ok (.invokevirtual 289, 3) := by decide +kernel
theorem dX12_value_13 : decode cX12_value 13 = .ok (.ifCond .eq 24, 3) := by decide +kernel
theorem dX12_value_16 : decode cX12_value 16 = .ok (.iload_n 1, 1) := by decide +kernel
theorem dX12_value_17 : decode cX12_value 17 = .ok (.bipush 34, 2) := by decide +kernel
theorem dX12_value_19 : decode cX12_value 19 = .ok (.if_icmp .eq 18, 3) := by decide +kernel
theorem dX12_value_22 : decode cX12_value 22 = .ok (.iload_n 1, 1) := by decide +kernel
theorem dX12_value_23 : decode cX12_value 23 = .ok (.bipush 39, 2) := by decide +kernel
theorem dX12_value_25 : decode cX12_value 25 = .ok (.if_icmp .eq 12, 3) := by decide +kernel
theorem dX12_value_28 : decode cX12_value 28 = .ok (.aload_n 0, 1) := by decide +kernel
theorem dX12_value_29 : decode cX12_value 29 = .ok (.iconst (-1), 1) := by decide +kernel
theorem dX12_value_30 : decode cX12_value 30 = .ok (.aload_n 0, 1) := by decide +kernel
theorem dX12_value_31 : decode cX12_value 31 = .ok (.getfield 276, 3) := by decide +kernel
theorem dX12_value_34 : decode cX12_value 34 = .ok (.invokevirtual 293, 3) := by decide +kernel
theorem dX12_value_37 : decode cX12_value 37 = .ok (.aload_n 0, 1) := by decide +kernel
theorem dX12_value_38 : decode cX12_value 38 = .ok (.dup, 1) := by decide +kernel
theorem dX12_value_39 : decode cX12_value 39 = .ok (.getfield 276, 3) := by decide +kernel
theorem dX12_value_42 : decode cX12_value 42 = .ok (.iconst 1, 1) := by decide +kernel
theorem dX12_value_43 : decode cX12_value 43 = .ok (.iadd, 1) := by decide +kernel
theorem dX12_value_44 : decode cX12_value 44 = .ok (.putfield 276, 3) := by decide +kernel
theorem dX12_value_47 : decode cX12_value 47 = .ok (.sipush 2000, 3) := by decide +kernel
theorem dX12_value_50 : decode cX12_value 50 = .ok (.aload_n 0, 1) := by decide +kernel
theorem dX12_value_51 : decode cX12_value 51 = .ok (.getfield 328, 3) := by decide +kernel
theorem dX12_value_54 : decode cX12_value 54 = .ok (.imul, 1) := by decide +kernel
theorem dX12_value_55 : decode cX12_value 55 = .ok (.aload_n 0, 1) := by decide +kernel
theorem dX12_value_56 : decode cX12_value 56 = .ok (.getfield 58, 3) := by decide +kernel
theorem dX12_value_59 : decode cX12_value 59 = .ok (.aload_n 0, 1) := by decide +kernel
theorem dX12_value_60 : decode cX12_value 60 = .ok (.getfield 328, 3) := by decide +kernel
theorem dX12_value_63 : decode cX12_value 63 = .ok (.iaload, 1) := by decide +kernel
theorem dX12_value_64 : decode cX12_value 64 = .ok (.iadd, 1) := by decide +kernel
theorem dX12_value_65 : decode cX12_value 65 = .ok (.istore_n 2, 1) := by decide +kernel
theorem dX12_value_66 : decode cX12_value 66 = .ok (.aload_n 0, 1) := by decide +kernel
theorem dX12_value_67 : decode cX12_value 67 = .ok (.invokevirtual 289, 3) := by decide +kernel
theorem dX12_value_70 : decode cX12_value 70 = .ok (.ifCond .eq 96, 3) := by decide +kernel
theorem dX12_value_73 : decode cX12_value 73 = .ok (.aload_n 0, 1) := by decide +kernel
theorem dX12_value_74 : decode cX12_value 74 = .ok (.aload_n 0, 1) := by decide +kernel
theorem dX12_value_75 : decode cX12_value 75 = .ok (.getfield 276, 3) := by decide +kernel
theorem dX12_value_78 : decode cX12_value 78 = .ok (.invokevirtual 279, 3) := by decide +kernel
theorem dX12_value_81 : decode cX12_value 81 = .ok (.iload_n 1, 1) := by decide +kernel
theorem dX12_value_82 : decode cX12_value 82 = .ok (.if_icmp .eq 84, 3) := by decide +kernel
theorem dX12_value_85 : decode cX12_value 85 = .ok (.aload_n 0, 1) := by decide +kernel
theorem dX12_value_86 : decode cX12_value 86 = .ok (.getfield 276, 3) := by decide +kernel
theorem dX12_value_89 : decode cX12_value 89 = .ok (.istore_n 3, 1) := by decide +kernel
theorem dX12_value_90 : decode cX12_value 90 = .ok (.aload_n 0, 1) := by decide +kernel
theorem dX12_value_91 : decode cX12_value 91 = .ok (.aload_n 0, 1) := by decide +kernel
theorem dX12_value_92 : decode cX12_value 92 = .ok (.getfield 276, 3) := by decide +kernel
theorem dX12_value_95 : decode cX12_value 95 = .ok (.invokevirtual 279, 3) := by decide +kernel
theorem dX12_value_98 : decode cX12_value 98 = .ok (.bipush 60, 2) := by decide +kernel
theorem dX12_value_100 : decode cX12_value 100 = .ok (.if_icmp .ne 12, 3) := by decide +kernel
theorem dX12_value_103 : decode cX12_value 103 = .ok (.aload_n 0, 1) := by decide +kernel
theorem dX12_value_104 : decode cX12_value 104 = .ok (.iconst (-1), 1) := by decide +kernel
theorem dX12_value_105 : decode cX12_value 105 = .ok (.aload_n 0, 1) := by decide +kernel
theorem dX12_value_106 : decode cX12_value 106 = .ok (.getfield 276, 3) := by decide +kernel
theorem dX12_value_109 : decode cX12_value 109 = .ok (.invokevirtual 293, 3) := by decide +kernel
theorem dX12_value_112 : decode cX12_value 112 = .ok (.aload_n 0, 1) := by decide +kernel
theorem dX12_value_113 : decode cX12_value 113 = .ok (.invokevirtual 289, 3) := by decide +kernel
theorem dX12_value_116 : decode cX12_value 116 = .ok (.ifCond .eq 10, 3) := by decide +kernel
theorem dX12_value_119 : decode cX12_value 119 = .ok (.aload_n 0, 1) := by decide +kernel
theorem dX12_value_120 : decode cX12_value 120 = .ok (.invokevirtual 331, 3) := by decide +kernel
theorem dX12_value_123 : decode cX12_value 123 = .ok (.goto 4, 3) := by decide +kernel
theorem dX12_value_126 : decode cX12_value 126 = .ok (.iconst (-1), 1) := by decide +kernel
theorem dX12_value_127 : decode cX12_value 127 = .ok (.istore 4, 2) := by decide +kernel
theorem dX12_value_129 : decode cX12_value 129 = .ok (.aload_n 0, 1) := by decide +kernel
theorem dX12_value_130 : decode cX12_value 130 = .ok (.invokevirtual 289, 3) := by decide +kernel
theorem dX12_value_133 : decode cX12_value 133 = .ok (.ifCond .eq 30, 3) := by decide +kernel
theorem dX12_value_136 : decode cX12_value 136 = .ok (.aload_n 0, 1) := by decide +kernel
theorem dX12_value_137 : decode cX12_value 137 = .ok (.aload_n 0, 1) := by decide +kernel
theorem dX12_value_138 : decode cX12_value 138 = .ok (.getfield 309, 3) := by decide +kernel
theorem dX12_value_141 : decode cX12_value 141 = .ok (.ifCond .ne 16, 3) := by decide +kernel
theorem dX12_value_144 : decode cX12_value 144 = .ok (.iload 4, 2) := by decide +kernel
theorem dX12_value_146 : decode cX12_value 146 = .ok (.invokestatic 297, 3) := by decide +kernel
theorem dX12_value_149 : decode cX12_value 149 = .ok (.ifCond .eq 8, 3) := by decide +kernel
theorem dX12_value_152 : decode cX12_value 152 = .ok (.bipush 32, 2) := by decide +kernel
theorem dX12_value_154 : decode cX12_value 154 = .ok (.goto 5, 3) := by decide +kernel
theorem dX12_value_157 : decode cX12_value 157 = .ok (.iload 4, 2) := by decide +kernel
theorem dX12_value_159 : decode cX12_value 159 = .ok (.iload_n 3, 1) := by decide +kernel
theorem dX12_value_160 : decode cX12_value 160 = .ok (.invokevirtual 335, 3) := by decide +kernel
theorem dX12_value_163 : decode cX12_value 163 = .ok (.goto (-97), 3) := by decide +kernel
theorem dX12_value_166 : decode cX12_value 166 = .ok (.aload_n 0, 1) := by decide +kernel
theorem dX12_value_167 : decode cX12_value 167 = .ok (.dup, 1) := by decide +kernel
theorem dX12_value_168 : decode cX12_value 168 = .ok (.getfield 276, 3) := by decide +kernel
theorem dX12_value_171 : decode cX12_value 171 = .ok (.iconst 1, 1) := by decide +kernel
theorem dX12_value_172 : decode cX12_value 172 = .ok (.iadd, 1) := by decide +kernel
theorem dX12_value_173 : decode cX12_value 173 = .ok (.putfield 276, 3) := by decide +kernel
theorem dX12_value_176 : decode cX12_value 176 = .ok (.aload_n 0, 1) := by decide +kernel
theorem dX12_value_177 : decode cX12_value 177 = .ok (.sipush 2000, 3) := by decide +kernel
theorem dX12_value_180 : decode cX12_value 180 = .ok (.aload_n 0, 1) := by decide +kernel
theorem dX12_value_181 : decode cX12_value 181 = .ok (.getfield 328, 3) := by decide +kernel
theorem dX12_value_184 : decode cX12_value 184 = .ok (.imul, 1) := by decide +kernel
theorem dX12_value_185 : decode cX12_value 185 = .ok (.aload_n 0, 1) := by decide +kernel
theorem dX12_value_186 : decode cX12_value 186 = .ok (.getfield 58, 3) := by decide +kernel
theorem dX12_value_189 : decode cX12_value 189 = .ok (.aload_n 0, 1) := by decide +kernel
theorem dX12_value_190 : decode cX12_value 190 = .ok (.getfield 328, 3) := by decide +kernel
theorem dX12_value_193 : decode cX12_value 193 = .ok (.iaload, 1) := by decide +kernel
theorem dX12_value_194 : decode cX12_value 194 = .ok (.iadd, 1) := by decide +kernel
theorem dX12_value_195 : decode cX12_value 195 = .ok (.iload_n 2, 1) := by decide +kernel
theorem dX12_value_196 : decode cX12_value 196 = .ok (.isub, 1) := by decide +kernel
theorem dX12_value_197 : decode cX12_value 197 = .ok (.putfield 306, 3) := by decide +kernel
theorem dX12_value_200 : decode cX12_value 200 = .ok (.iload_n 2, 1) := by decide +kernel
theorem dX12_value_201 : decode cX12_value 201 = .ok (.ireturn, 1) := by decide +kernel
theorem v_X12_value_0 {cs : Cs} {Q : Option AV → Mm → Prop} {MI ML : Nat → Nat → Int} {d e nw th x : Nat}
    (h : wp cs mX12_octet KD (rI (GR d e nw th x) fun x5 m5 n5 => wp cs mX12_isGood KD (rI (GR d e nw th x) fun x10 m10 n10 => ((x10 = 0 → wp cs mX12_value KD Q 37 [some (vR 124), some (vI x5), none, none, none] [] (KD, m10, n10, (GR d e nw th x))) ∧ (x10 ≠ 0 → ((x5 = 34 → wp cs mX12_value KD Q 37 [some (vR 124), some (vI x5), none, none, none] [] (KD, m10, n10, (GR d e nw th x))) ∧ (x5 ≠ 34 → ((x5 = 39 → wp cs mX12_value KD Q 37 [some (vR 124), some (vI x5), none, none, none] [] (KD, m10, n10, (GR d e nw th x))) ∧ (x5 ≠ 39 → wp cs mX12_fail KD (rV (GR d e nw th x) fun m34 n34 => wp cs mX12_value KD Q 37 [some (vR 124), some (vI x5), none, none, none] [] (KD, m34, n34, (GR d e nw th x))) 0 (padL [vR 124, vI (-1), vI (m10 124 4)] 3) [] (KD, m10, n10, (GR d e nw th x))))))))) 0 (padL [vR 124] 1) [] (KD, m5, n5, (GR d e nw th x))) 0 (padL [vR 124, vI (MI 124 4)] 2) [] (KD, MI, ML, (GR d e nw th x))) :
    wp cs mX12_value KD Q 0 (padL [vR 124] 5) [] (KD, MI, ML, (GR d e nw th x)) := by
  refine wp_L (L' := [some (vR 124), none, none, none, none]) rfl ?_
  refine wp_aload_n dX12_value_0 rfl rfl (by first | exact Or.inl (by decide) | exact Or.inl (by omega) | exact Or.inr (by decide) | exact Or.inr (by omega)) ?_
  refine wp_aload_n dX12_value_1 rfl rfl (by first | exact Or.inl (by decide) | exact Or.inl (by omega) | exact Or.inr (by decide) | exact Or.inr (by omega)) ?_
  refine wp_getI dX12_value_2 fX12_276 rfl (by decide) ?_
  refine wp_cVq (n := 1) (mt' := mX12_octet) (as := [vI (MI 124 4)]) (rest := []) _ dX12_value_5 lX12_279 kX12_octet vX12_octet (by decide) (by decide +kernel) rfl (Nat.le_of_ble_eq_true rfl) (by decide) rfl rfl rfl (Nat.le_of_ble_eq_true rfl) (fun hM hS => h) (fun r M' hq hM => ?_)
  obtain ⟨x5, m5, n5, rfl, rfl, h⟩ := rI_out hq
  refine wp_istore_n dX12_value_8 rfl (by decide) (wp_L (L' := [some (vR 124), some (vI x5), none, none, none]) rfl ?_)
  refine wp_aload_n dX12_value_9 rfl rfl (by first | exact Or.inl (by decide) | exact Or.inl (by omega) | exact Or.inr (by decide) | exact Or.inr (by omega)) ?_
  refine wp_cVq (n := 0) (mt' := mX12_isGood) (as := []) (rest := []) _ dX12_value_10 lX12_289 kX12_isGood vX12_isGood (by decide) (by decide +kernel) rfl (Nat.le_of_ble_eq_true rfl) (by decide) rfl rfl rfl (Nat.le_of_ble_eq_true rfl) (fun hM hS => h) (fun r M' hq hM => ?_)
  obtain ⟨x10, m10, n10, rfl, rfl, h⟩ := rI_out hq
  refine wp_if_eq (tgt := 37) dX12_value_13 (by decide) (fun h13 => ?_) (fun h13 => ?_)
  · replace h := h.1 h13
    exact h
  · replace h := h.2 h13
    refine wp_iload_n dX12_value_16 rfl rfl ?_
    refine wp_bipush dX12_value_17 (by decide +kernel) (by decide) ?_
    refine wp_icmp_eq (tgt := 37) dX12_value_19 (by decide) (fun h19 => ?_) (fun h19 => ?_)
    · replace h := h.1 h19
      exact h
    · replace h := h.2 h19
      refine wp_iload_n dX12_value_22 rfl rfl ?_
      refine wp_bipush dX12_value_23 (by decide +kernel) (by decide) ?_
      refine wp_icmp_eq (tgt := 37) dX12_value_25 (by decide) (fun h25 => ?_) (fun h25 => ?_)
      · replace h := h.1 h25
        exact h
      · replace h := h.2 h25
        refine wp_aload_n dX12_value_28 rfl rfl (by first | exact Or.inl (by decide) | exact Or.inl (by omega) | exact Or.inr (by decide) | exact Or.inr (by omega)) ?_
        refine wp_iconst dX12_value_29 (by decide) ?_
        refine wp_aload_n dX12_value_30 rfl rfl (by first | exact Or.inl (by decide) | exact Or.inl (by omega) | exact Or.inr (by decide) | exact Or.inr (by omega)) ?_
        refine wp_getI dX12_value_31 fX12_276 rfl (by decide) ?_
        refine wp_cVq (n := 2) (mt' := mX12_fail) (as := [vI (-1), vI (m10 124 4)]) (rest := []) _ dX12_value_34 lX12_293 kX12_fail vX12_fail (by decide) (by decide +kernel) rfl (Nat.le_of_ble_eq_true rfl) (by decide) rfl rfl rfl (Nat.le_of_ble_eq_true rfl) (fun hM hS => h) (fun r M' hq hM => ?_)
        obtain ⟨m34, n34, rfl, rfl, h⟩ := rV_out hq
        exact h
theorem v_X12_value_37 {cs : Cs} {Q : Option AV → Mm → Prop} {MI ML : Nat → Nat → Int} {d e nw th x : Nat} {l1 : Int}
    (h : (-2147483648 ≤ (MI 124 4) + 1 ∧ (MI 124 4) + 1 < 2147483648) ∧ ∀ m44, m44 = up2 MI 124 4 ((MI 124 4) + 1) → (-2147483648 ≤ 2000 * (m44 124 8) ∧ 2000 * (m44 124 8) < 2147483648) ∧ (0 ≤ (m44 124 8) ∧ (m44 124 8) < 2) ∧ (-2147483648 ≤ (2000 * (m44 124 8)) + (m44 139 (m44 124 8).toNat) ∧ (2000 * (m44 124 8)) + (m44 139 (m44 124 8).toNat) < 2147483648) ∧ wp cs mX12_value KD Q 66 [some (vR 124), some (vI l1), some (vI ((2000 * (m44 124 8)) + (m44 139 (m44 124 8).toNat))), none, none] [] (KD, m44, ML, (GR d e nw th x))) :
    wp cs mX12_value KD Q 37 [some (vR 124), some (vI l1), none, none, none] [] (KD, MI, ML, (GR d e nw th x)) := by
  refine wp_aload_n dX12_value_37 rfl rfl (by first | exact Or.inl (by decide) | exact Or.inl (by omega) | exact Or.inr (by decide) | exact Or.inr (by omega)) ?_
  refine wp_dup dX12_value_38 (fun x e => by cases e) ?_
  refine wp_getI dX12_value_39 fX12_276 rfl (by decide) ?_
  refine wp_iconst dX12_value_42 (by decide) ?_
  have c0 := h.1
  replace h := h.2
  refine wp_iaddr dX12_value_43 c0 ?_
  refine wp_putI dX12_value_44 pX12_276 rfl (by decide) ?_
  refine wp_gI (fun m44 e44 => ?_)
  replace h := h m44 e44
  refine wp_sipush dX12_value_47 (by decide +kernel) (by decide) ?_
  refine wp_pc (pc' := 50) rfl ?_
  refine wp_aload_n dX12_value_50 rfl rfl (by first | exact Or.inl (by decide) | exact Or.inl (by omega) | exact Or.inr (by decide) | exact Or.inr (by omega)) ?_
  refine wp_getI dX12_value_51 fX12_328 rfl (by decide) ?_
  have c1 := h.1
  replace h := h.2
  refine wp_imulr dX12_value_54 c1 ?_
  refine wp_aload_n dX12_value_55 rfl rfl (by first | exact Or.inl (by decide) | exact Or.inl (by omega) | exact Or.inr (by decide) | exact Or.inr (by omega)) ?_
  refine wp_getR dX12_value_56 fX12_58 rfl (by decide) ?_
  refine wp_topR (x' := 139) rfl ?_
  refine wp_aload_n dX12_value_59 rfl rfl (by first | exact Or.inl (by decide) | exact Or.inl (by omega) | exact Or.inr (by decide) | exact Or.inr (by omega)) ?_
  refine wp_getI dX12_value_60 fX12_328 rfl (by decide) ?_
  have c2 := h.1
  replace h := h.2
  refine wp_iald dX12_value_63 rfl (by decide) c2 ?_
  refine wp_pc (pc' := 64) rfl ?_
  have c3 := h.1
  replace h := h.2
  refine wp_iaddr dX12_value_64 c3 ?_
  refine wp_istore_n dX12_value_65 rfl (by decide) (wp_L (L' := [some (vR 124), some (vI l1), some (vI ((2000 * (m44 124 8)) + (m44 139 (m44 124 8).toNat))), none, none]) rfl ?_)
  exact h
theorem v_X12_value_66 {cs : Cs} {Q : Option AV → Mm → Prop} {MI ML : Nat → Nat → Int} {d e nw th x : Nat} {l1 l2 : Int}
    (h : wp cs mX12_isGood KD (rI (GR d e nw th x) fun x67 m67 n67 => ((x67 = 0 → wp cs mX12_value KD Q 166 [some (vR 124), some (vI l1), some (vI l2), none, none] [] (KD, m67, n67, (GR d e nw th x))) ∧ (x67 ≠ 0 → wp cs mX12_octet KD (rI (GR d e nw th x) fun x78 m78 n78 => ((x78 = l1 → wp cs mX12_value KD Q 166 [some (vR 124), some (vI l1), some (vI l2), none, none] [] (KD, m78, n78, (GR d e nw th x))) ∧ (x78 ≠ l1 → wp cs mX12_octet KD (rI (GR d e nw th x) fun x95 m95 n95 => ((x95 = 60 → wp cs mX12_fail KD (rV (GR d e nw th x) fun m109 n109 => wp cs mX12_isGood KD (rI (GR d e nw th x) fun x113 m113 n113 => ((x113 = 0 → wp cs mX12_value KD Q 127 [some (vR 124), some (vI l1), some (vI l2), some (vI (m78 124 4)), none] [vI (-1)] (KD, m113, n113, (GR d e nw th x))) ∧ (x113 ≠ 0 → wp cs mX12_takePiece KD (rI (GR d e nw th x) fun x120 m120 n120 => wp cs mX12_value KD Q 127 [some (vR 124), some (vI l1), some (vI l2), some (vI (m78 124 4)), none] [vI x120] (KD, m120, n120, (GR d e nw th x))) 0 (padL [vR 124] 5) [] (KD, m113, n113, (GR d e nw th x))))) 0 (padL [vR 124] 1) [] (KD, m109, n109, (GR d e nw th x))) 0 (padL [vR 124, vI (-1), vI (m95 124 4)] 3) [] (KD, m95, n95, (GR d e nw th x))) ∧ (x95 ≠ 60 → wp cs mX12_isGood KD (rI (GR d e nw th x) fun x113 m113 n113 => ((x113 = 0 → wp cs mX12_value KD Q 127 [some (vR 124), some (vI l1), some (vI l2), some (vI (m78 124 4)), none] [vI (-1)] (KD, m113, n113, (GR d e nw th x))) ∧ (x113 ≠ 0 → wp cs mX12_takePiece KD (rI (GR d e nw th x) fun x120 m120 n120 => wp cs mX12_value KD Q 127 [some (vR 124), some (vI l1), some (vI l2), some (vI (m78 124 4)), none] [vI x120] (KD, m120, n120, (GR d e nw th x))) 0 (padL [vR 124] 5) [] (KD, m113, n113, (GR d e nw th x))))) 0 (padL [vR 124] 1) [] (KD, m95, n95, (GR d e nw th x))))) 0 (padL [vR 124, vI (m78 124 4)] 2) [] (KD, m78, n78, (GR d e nw th x))))) 0 (padL [vR 124, vI (m67 124 4)] 2) [] (KD, m67, n67, (GR d e nw th x))))) 0 (padL [vR 124] 1) [] (KD, MI, ML, (GR d e nw th x))) :
    wp cs mX12_value KD Q 66 [some (vR 124), some (vI l1), some (vI l2), none, none] [] (KD, MI, ML, (GR d e nw th x)) := by
  refine wp_aload_n dX12_value_66 rfl rfl (by first | exact Or.inl (by decide) | exact Or.inl (by omega) | exact Or.inr (by decide) | exact Or.inr (by omega)) ?_
  refine wp_cVq (n := 0) (mt' := mX12_isGood) (as := []) (rest := []) _ dX12_value_67 lX12_289 kX12_isGood vX12_isGood (by decide) (by decide +kernel) rfl (Nat.le_of_ble_eq_true rfl) (by decide) rfl rfl rfl (Nat.le_of_ble_eq_true rfl) (fun hM hS => h) (fun r M' hq hM => ?_)
  obtain ⟨x67, m67, n67, rfl, rfl, h⟩ := rI_out hq
  refine wp_if_eq (tgt := 166) dX12_value_70 (by decide) (fun h70 => ?_) (fun h70 => ?_)
  · replace h := h.1 h70
    exact h
  · replace h := h.2 h70
    refine wp_aload_n dX12_value_73 rfl rfl (by first | exact Or.inl (by decide) | exact Or.inl (by omega) | exact Or.inr (by decide) | exact Or.inr (by omega)) ?_
    refine wp_aload_n dX12_value_74 rfl rfl (by first | exact Or.inl (by decide) | exact Or.inl (by omega) | exact Or.inr (by decide) | exact Or.inr (by omega)) ?_
    refine wp_getI dX12_value_75 fX12_276 rfl (by decide) ?_
    refine wp_cVq (n := 1) (mt' := mX12_octet) (as := [vI (m67 124 4)]) (rest := []) _ dX12_value_78 lX12_279 kX12_octet vX12_octet (by decide) (by decide +kernel) rfl (Nat.le_of_ble_eq_true rfl) (by decide) rfl rfl rfl (Nat.le_of_ble_eq_true rfl) (fun hM hS => h) (fun r M' hq hM => ?_)
    obtain ⟨x78, m78, n78, rfl, rfl, h⟩ := rI_out hq
    refine wp_iload_n dX12_value_81 rfl rfl ?_
    refine wp_icmp_eq (tgt := 166) dX12_value_82 (by decide) (fun h82 => ?_) (fun h82 => ?_)
    · replace h := h.1 h82
      exact h
    · replace h := h.2 h82
      refine wp_aload_n dX12_value_85 rfl rfl (by first | exact Or.inl (by decide) | exact Or.inl (by omega) | exact Or.inr (by decide) | exact Or.inr (by omega)) ?_
      refine wp_getI dX12_value_86 fX12_276 rfl (by decide) ?_
      refine wp_istore_n dX12_value_89 rfl (by decide) (wp_L (L' := [some (vR 124), some (vI l1), some (vI l2), some (vI (m78 124 4)), none]) rfl ?_)
      refine wp_aload_n dX12_value_90 rfl rfl (by first | exact Or.inl (by decide) | exact Or.inl (by omega) | exact Or.inr (by decide) | exact Or.inr (by omega)) ?_
      refine wp_aload_n dX12_value_91 rfl rfl (by first | exact Or.inl (by decide) | exact Or.inl (by omega) | exact Or.inr (by decide) | exact Or.inr (by omega)) ?_
      refine wp_getI dX12_value_92 fX12_276 rfl (by decide) ?_
      refine wp_cVq (n := 1) (mt' := mX12_octet) (as := [vI (m78 124 4)]) (rest := []) _ dX12_value_95 lX12_279 kX12_octet vX12_octet (by decide) (by decide +kernel) rfl (Nat.le_of_ble_eq_true rfl) (by decide) rfl rfl rfl (Nat.le_of_ble_eq_true rfl) (fun hM hS => h) (fun r M' hq hM => ?_)
      obtain ⟨x95, m95, n95, rfl, rfl, h⟩ := rI_out hq
      refine wp_bipush dX12_value_98 (by decide +kernel) (by decide) ?_
      refine wp_icmp_ne (tgt := 112) dX12_value_100 (by decide) (fun h100 => ?_) (fun h100 => ?_)
      · replace h := h.2 h100
        refine wp_aload_n dX12_value_112 rfl rfl (by first | exact Or.inl (by decide) | exact Or.inl (by omega) | exact Or.inr (by decide) | exact Or.inr (by omega)) ?_
        refine wp_cVq (n := 0) (mt' := mX12_isGood) (as := []) (rest := []) _ dX12_value_113 lX12_289 kX12_isGood vX12_isGood (by decide) (by decide +kernel) rfl (Nat.le_of_ble_eq_true rfl) (by decide) rfl rfl rfl (Nat.le_of_ble_eq_true rfl) (fun hM hS => h) (fun r M' hq hM => ?_)
        obtain ⟨x113, m113, n113, rfl, rfl, h⟩ := rI_out hq
        refine wp_if_eq (tgt := 126) dX12_value_116 (by decide) (fun h116 => ?_) (fun h116 => ?_)
        · replace h := h.1 h116
          refine wp_iconst dX12_value_126 (by decide) ?_
          exact h
        · replace h := h.2 h116
          refine wp_aload_n dX12_value_119 rfl rfl (by first | exact Or.inl (by decide) | exact Or.inl (by omega) | exact Or.inr (by decide) | exact Or.inr (by omega)) ?_
          refine wp_cVq (n := 0) (mt' := mX12_takePiece) (as := []) (rest := []) _ dX12_value_120 lX12_331 kX12_takePiece vX12_takePiece (by decide) (by decide +kernel) rfl (Nat.le_of_ble_eq_true rfl) (by decide) rfl rfl rfl (Nat.le_of_ble_eq_true rfl) (fun hM hS => h) (fun r M' hq hM => ?_)
          obtain ⟨x120, m120, n120, rfl, rfl, h⟩ := rI_out hq
          refine wp_goto (tgt := 127) dX12_value_123 (by decide) ?_
          exact h
      · replace h := h.1 h100
        refine wp_aload_n dX12_value_103 rfl rfl (by first | exact Or.inl (by decide) | exact Or.inl (by omega) | exact Or.inr (by decide) | exact Or.inr (by omega)) ?_
        refine wp_iconst dX12_value_104 (by decide) ?_
        refine wp_aload_n dX12_value_105 rfl rfl (by first | exact Or.inl (by decide) | exact Or.inl (by omega) | exact Or.inr (by decide) | exact Or.inr (by omega)) ?_
        refine wp_getI dX12_value_106 fX12_276 rfl (by decide) ?_
        refine wp_cVq (n := 2) (mt' := mX12_fail) (as := [vI (-1), vI (m95 124 4)]) (rest := []) _ dX12_value_109 lX12_293 kX12_fail vX12_fail (by decide) (by decide +kernel) rfl (Nat.le_of_ble_eq_true rfl) (by decide) rfl rfl rfl (Nat.le_of_ble_eq_true rfl) (fun hM hS => h) (fun r M' hq hM => ?_)
        obtain ⟨m109, n109, rfl, rfl, h⟩ := rV_out hq
        refine wp_aload_n dX12_value_112 rfl rfl (by first | exact Or.inl (by decide) | exact Or.inl (by omega) | exact Or.inr (by decide) | exact Or.inr (by omega)) ?_
        refine wp_cVq (n := 0) (mt' := mX12_isGood) (as := []) (rest := []) _ dX12_value_113 lX12_289 kX12_isGood vX12_isGood (by decide) (by decide +kernel) rfl (Nat.le_of_ble_eq_true rfl) (by decide) rfl rfl rfl (Nat.le_of_ble_eq_true rfl) (fun hM hS => h) (fun r M' hq hM => ?_)
        obtain ⟨x113, m113, n113, rfl, rfl, h⟩ := rI_out hq
        refine wp_if_eq (tgt := 126) dX12_value_116 (by decide) (fun h116 => ?_) (fun h116 => ?_)
        · replace h := h.1 h116
          refine wp_iconst dX12_value_126 (by decide) ?_
          exact h
        · replace h := h.2 h116
          refine wp_aload_n dX12_value_119 rfl rfl (by first | exact Or.inl (by decide) | exact Or.inl (by omega) | exact Or.inr (by decide) | exact Or.inr (by omega)) ?_
          refine wp_cVq (n := 0) (mt' := mX12_takePiece) (as := []) (rest := []) _ dX12_value_120 lX12_331 kX12_takePiece vX12_takePiece (by decide) (by decide +kernel) rfl (Nat.le_of_ble_eq_true rfl) (by decide) rfl rfl rfl (Nat.le_of_ble_eq_true rfl) (fun hM hS => h) (fun r M' hq hM => ?_)
          obtain ⟨x120, m120, n120, rfl, rfl, h⟩ := rI_out hq
          refine wp_goto (tgt := 127) dX12_value_123 (by decide) ?_
          exact h
theorem v_X12_value_127 {cs : Cs} {Q : Option AV → Mm → Prop} {MI ML : Nat → Nat → Int} {d e nw th x : Nat} {l1 l2 l3 s0 : Int}
    (h : wp cs mX12_isGood KD (rI (GR d e nw th x) fun x130 m130 n130 => ((x130 = 0 → wp cs mX12_value KD Q 66 [some (vR 124), some (vI l1), some (vI l2), none, none] [] (KD, m130, n130, (GR d e nw th x))) ∧ (x130 ≠ 0 → (((m130 124 52) = 0 → wp cs mX12_isS KD (rI (GR d e nw th x) fun x146 m146 n146 => ((x146 = 0 → wp cs mX12_keep KD (rV (GR d e nw th x) fun m160 n160 => wp cs mX12_value KD Q 66 [some (vR 124), some (vI l1), some (vI l2), none, none] [] (KD, m160, n160, (GR d e nw th x))) 0 (padL [vR 124, vI s0, vI l3] 3) [] (KD, m146, n146, (GR d e nw th x))) ∧ (x146 ≠ 0 → wp cs mX12_keep KD (rV (GR d e nw th x) fun m160 n160 => wp cs mX12_value KD Q 66 [some (vR 124), some (vI l1), some (vI l2), none, none] [] (KD, m160, n160, (GR d e nw th x))) 0 (padL [vR 124, vI 32, vI l3] 3) [] (KD, m146, n146, (GR d e nw th x))))) 0 (padL [vI s0] 1) [] (KD, m130, n130, (GR d e nw th x))) ∧ ((m130 124 52) ≠ 0 → wp cs mX12_keep KD (rV (GR d e nw th x) fun m160 n160 => wp cs mX12_value KD Q 66 [some (vR 124), some (vI l1), some (vI l2), none, none] [] (KD, m160, n160, (GR d e nw th x))) 0 (padL [vR 124, vI s0, vI l3] 3) [] (KD, m130, n130, (GR d e nw th x))))))) 0 (padL [vR 124] 1) [] (KD, MI, ML, (GR d e nw th x))) :
    wp cs mX12_value KD Q 127 [some (vR 124), some (vI l1), some (vI l2), some (vI l3), none] [vI s0] (KD, MI, ML, (GR d e nw th x)) := by
  refine wp_istore dX12_value_127 (by decide) (wp_L (L' := [some (vR 124), some (vI l1), some (vI l2), some (vI l3), some (vI s0)]) rfl ?_)
  refine wp_aload_n dX12_value_129 rfl rfl (by first | exact Or.inl (by decide) | exact Or.inl (by omega) | exact Or.inr (by decide) | exact Or.inr (by omega)) ?_
  refine wp_cVq (n := 0) (mt' := mX12_isGood) (as := []) (rest := []) _ dX12_value_130 lX12_289 kX12_isGood vX12_isGood (by decide) (by decide +kernel) rfl (Nat.le_of_ble_eq_true rfl) (by decide) rfl rfl rfl (Nat.le_of_ble_eq_true rfl) (fun hM hS => h) (fun r M' hq hM => ?_)
  obtain ⟨x130, m130, n130, rfl, rfl, h⟩ := rI_out hq
  refine wp_if_eq (tgt := 163) dX12_value_133 (by decide) (fun h133 => ?_) (fun h133 => ?_)
  · replace h := h.1 h133
    refine wp_goto (tgt := 66) dX12_value_163 (by decide) ?_
    refine wp_forget (L' := [some (vR 124), some (vI l1), some (vI l2), none, none]) (by repeat' (first | exact trivial | refine ⟨rfl, ?_⟩)) ?_
    exact h
  · replace h := h.2 h133
    refine wp_aload_n dX12_value_136 rfl rfl (by first | exact Or.inl (by decide) | exact Or.inl (by omega) | exact Or.inr (by decide) | exact Or.inr (by omega)) ?_
    refine wp_aload_n dX12_value_137 rfl rfl (by first | exact Or.inl (by decide) | exact Or.inl (by omega) | exact Or.inr (by decide) | exact Or.inr (by omega)) ?_
    refine wp_getI dX12_value_138 fX12_309 rfl (by decide) ?_
    refine wp_if_ne (tgt := 157) dX12_value_141 (by decide) (fun h141 => ?_) (fun h141 => ?_)
    · replace h := h.2 h141
      refine wp_iload dX12_value_157 rfl ?_
      refine wp_iload_n dX12_value_159 rfl rfl ?_
      refine wp_cVq (n := 2) (mt' := mX12_keep) (as := [vI s0, vI l3]) (rest := []) _ dX12_value_160 lX12_335 kX12_keep vX12_keep (by decide) (by decide +kernel) rfl (Nat.le_of_ble_eq_true rfl) (by decide) rfl rfl rfl (Nat.le_of_ble_eq_true rfl) (fun hM hS => h) (fun r M' hq hM => ?_)
      obtain ⟨m160, n160, rfl, rfl, h⟩ := rV_out hq
      refine wp_goto (tgt := 66) dX12_value_163 (by decide) ?_
      refine wp_forget (L' := [some (vR 124), some (vI l1), some (vI l2), none, none]) (by repeat' (first | exact trivial | refine ⟨rfl, ?_⟩)) ?_
      exact h
    · replace h := h.1 h141
      refine wp_iload dX12_value_144 rfl ?_
      refine wp_cSq (n := 1) (mt' := mX12_isS) (as := [vI s0]) (rest := [vR 124]) _ dX12_value_146 lX12_297 kX12_isS vX12_isS (by decide) (by decide +kernel) rfl (Nat.le_of_ble_eq_true rfl) rfl (Nat.le_of_ble_eq_true rfl) (fun hM hS => h) (fun r M' hq hM => ?_)
      obtain ⟨x146, m146, n146, rfl, rfl, h⟩ := rI_out hq
      refine wp_if_eq (tgt := 157) dX12_value_149 (by decide) (fun h149 => ?_) (fun h149 => ?_)
      · replace h := h.1 h149
        refine wp_iload dX12_value_157 rfl ?_
        refine wp_iload_n dX12_value_159 rfl rfl ?_
        refine wp_cVq (n := 2) (mt' := mX12_keep) (as := [vI s0, vI l3]) (rest := []) _ dX12_value_160 lX12_335 kX12_keep vX12_keep (by decide) (by decide +kernel) rfl (Nat.le_of_ble_eq_true rfl) (by decide) rfl rfl rfl (Nat.le_of_ble_eq_true rfl) (fun hM hS => h) (fun r M' hq hM => ?_)
        obtain ⟨m160, n160, rfl, rfl, h⟩ := rV_out hq
        refine wp_goto (tgt := 66) dX12_value_163 (by decide) ?_
        refine wp_forget (L' := [some (vR 124), some (vI l1), some (vI l2), none, none]) (by repeat' (first | exact trivial | refine ⟨rfl, ?_⟩)) ?_
        exact h
      · replace h := h.2 h149
        refine wp_bipush dX12_value_152 (by decide +kernel) (by decide) ?_
        refine wp_goto (tgt := 159) dX12_value_154 (by decide) ?_
        refine wp_iload_n dX12_value_159 rfl rfl ?_
        refine wp_cVq (n := 2) (mt' := mX12_keep) (as := [vI 32, vI l3]) (rest := []) _ dX12_value_160 lX12_335 kX12_keep vX12_keep (by decide) (by decide +kernel) rfl (Nat.le_of_ble_eq_true rfl) (by decide) rfl rfl rfl (Nat.le_of_ble_eq_true rfl) (fun hM hS => h) (fun r M' hq hM => ?_)
        obtain ⟨m160, n160, rfl, rfl, h⟩ := rV_out hq
        refine wp_goto (tgt := 66) dX12_value_163 (by decide) ?_
        refine wp_forget (L' := [some (vR 124), some (vI l1), some (vI l2), none, none]) (by repeat' (first | exact trivial | refine ⟨rfl, ?_⟩)) ?_
        exact h
theorem v_X12_value_166 {cs : Cs} {Q : Option AV → Mm → Prop} {MI ML : Nat → Nat → Int} {d e nw th x : Nat} {l1 l2 : Int}
    (h : (-2147483648 ≤ (MI 124 4) + 1 ∧ (MI 124 4) + 1 < 2147483648) ∧ ∀ m173, m173 = up2 MI 124 4 ((MI 124 4) + 1) → (-2147483648 ≤ 2000 * (m173 124 8) ∧ 2000 * (m173 124 8) < 2147483648) ∧ (0 ≤ (m173 124 8) ∧ (m173 124 8) < 2) ∧ (-2147483648 ≤ (2000 * (m173 124 8)) + (m173 139 (m173 124 8).toNat) ∧ (2000 * (m173 124 8)) + (m173 139 (m173 124 8).toNat) < 2147483648) ∧ (-2147483648 ≤ ((2000 * (m173 124 8)) + (m173 139 (m173 124 8).toNat)) - l2 ∧ ((2000 * (m173 124 8)) + (m173 139 (m173 124 8).toNat)) - l2 < 2147483648) ∧ ∀ m197, m197 = up2 m173 124 51 (((2000 * (m173 124 8)) + (m173 139 (m173 124 8).toNat)) - l2) → Q (some (vI l2)) (m197, ML, (GR d e nw th x))) :
    wp cs mX12_value KD Q 166 [some (vR 124), some (vI l1), some (vI l2), none, none] [] (KD, MI, ML, (GR d e nw th x)) := by
  refine wp_aload_n dX12_value_166 rfl rfl (by first | exact Or.inl (by decide) | exact Or.inl (by omega) | exact Or.inr (by decide) | exact Or.inr (by omega)) ?_
  refine wp_dup dX12_value_167 (fun x e => by cases e) ?_
  refine wp_getI dX12_value_168 fX12_276 rfl (by decide) ?_
  refine wp_iconst dX12_value_171 (by decide) ?_
  have c0 := h.1
  replace h := h.2
  refine wp_iaddr dX12_value_172 c0 ?_
  refine wp_putI dX12_value_173 pX12_276 rfl (by decide) ?_
  refine wp_gI (fun m173 e173 => ?_)
  replace h := h m173 e173
  refine wp_aload_n dX12_value_176 rfl rfl (by first | exact Or.inl (by decide) | exact Or.inl (by omega) | exact Or.inr (by decide) | exact Or.inr (by omega)) ?_
  refine wp_pc (pc' := 177) rfl ?_
  refine wp_sipush dX12_value_177 (by decide +kernel) (by decide) ?_
  refine wp_aload_n dX12_value_180 rfl rfl (by first | exact Or.inl (by decide) | exact Or.inl (by omega) | exact Or.inr (by decide) | exact Or.inr (by omega)) ?_
  refine wp_getI dX12_value_181 fX12_328 rfl (by decide) ?_
  have c1 := h.1
  replace h := h.2
  refine wp_imulr dX12_value_184 c1 ?_
  refine wp_aload_n dX12_value_185 rfl rfl (by first | exact Or.inl (by decide) | exact Or.inl (by omega) | exact Or.inr (by decide) | exact Or.inr (by omega)) ?_
  refine wp_getR dX12_value_186 fX12_58 rfl (by decide) ?_
  refine wp_topR (x' := 139) rfl ?_
  refine wp_aload_n dX12_value_189 rfl rfl (by first | exact Or.inl (by decide) | exact Or.inl (by omega) | exact Or.inr (by decide) | exact Or.inr (by omega)) ?_
  refine wp_getI dX12_value_190 fX12_328 rfl (by decide) ?_
  refine wp_pc (pc' := 193) rfl ?_
  have c2 := h.1
  replace h := h.2
  refine wp_iald dX12_value_193 rfl (by decide) c2 ?_
  have c3 := h.1
  replace h := h.2
  refine wp_iaddr dX12_value_194 c3 ?_
  refine wp_iload_n dX12_value_195 rfl rfl ?_
  have c4 := h.1
  replace h := h.2
  refine wp_isubr dX12_value_196 c4 ?_
  refine wp_putI dX12_value_197 pX12_306 rfl (by decide) ?_
  refine wp_gI (fun m197 e197 => ?_)
  replace h := h m197 e197
  refine wp_iload_n dX12_value_200 rfl rfl ?_
  exact wp_iret dX12_value_201 rfl (fun _ => h)
theorem dX12_defaults_0 : decode cX12_defaults 0 = .ok (.aload_n 0, 1) := by decide +kernel
theorem dX12_defaults_1 : decode cX12_defaults 1 = .ok (.invokevirtual 289, 3) := by decide +kernel
theorem dX12_defaults_4 : decode cX12_defaults 4 = .ok (.ifCond .ne 4, 3) := by decide +kernel
theorem dX12_defaults_7 : decode cX12_defaults 7 = .ok (.return_, 1) := by decide +kernel
theorem dX12_defaults_8 : decode cX12_defaults 8 = .ok (.aload_n 0, 1) := by decide +kernel
theorem dX12_defaults_9 : decode cX12_defaults 9 = .ok (.getfield 122, 3) := by decide +kernel
theorem dX12_defaults_12 : decode cX12_defaults 12 = .ok (.iload_n 1, 1) := by decide +kernel
theorem dX12_defaults_13 : decode cX12_defaults 13 = .ok (.iconst 3, 1) := by decide +kernel
theorem dX12_defaults_14 : decode cX12_defaults 14 = .ok (.iastore, 1) := by decide +kernel
theorem dX12_defaults_15 : decode cX12_defaults 15 = .ok (.aload_n 0, 1) := by decide +kernel
theorem dX12_defaults_16 : decode cX12_defaults 16 = .ok (.ldc2_w 432, 3) := by decide +kernel
theorem dX12_defaults_19 : decode cX12_defaults 19 = .ok (.ldc2_w 434, 3) := by decide +kernel
theorem dX12_defaults_22 : decode cX12_defaults 22 = .ok (.iconst 1, 1) := by decide +kernel
theorem dX12_defaults_23 : decode cX12_defaults 23 = .ok (.invokevirtual 358, 3) := by decide +kernel
theorem dX12_defaults_26 : decode cX12_defaults 26 = .ok (.ifCond .eq 22, 3) := by decide +kernel
theorem dX12_defaults_29 : decode cX12_defaults 29 = .ok (.aload_n 0, 1) := by decide +kernel
theorem dX12_defaults_30 : decode cX12_defaults 30 = .ok (.dup, 1) := by decide +kernel
theorem dX12_defaults_31 : decode cX12_defaults 31 = .ok (.getfield 276, 3) := by decide +kernel
theorem dX12_defaults_34 : decode cX12_defaults 34 = .ok (.bipush 9, 2) := by decide +kernel
theorem dX12_defaults_36 : decode cX12_defaults 36 = .ok (.iadd, 1) := by decide +kernel
theorem dX12_defaults_37 : decode cX12_defaults 37 = .ok (.putfield 276, 3) := by decide +kernel
theorem dX12_defaults_40 : decode cX12_defaults 40 = .ok (.aload_n 0, 1) := by decide +kernel
theorem dX12_defaults_41 : decode cX12_defaults 41 = .ok (.getfield 122, 3) := by decide +kernel
theorem dX12_defaults_44 : decode cX12_defaults 44 = .ok (.iload_n 1, 1) := by decide +kernel
theorem dX12_defaults_45 : decode cX12_defaults 45 = .ok (.iconst 0, 1) := by decide +kernel
theorem dX12_defaults_46 : decode cX12_defaults 46 = .ok (.iastore, 1) := by decide +kernel
theorem dX12_defaults_47 : decode cX12_defaults 47 = .ok (.return_, 1) := by decide +kernel
theorem dX12_defaults_48 : decode cX12_defaults 48 = .ok (.aload_n 0, 1) := by decide +kernel
theorem dX12_defaults_49 : decode cX12_defaults 49 = .ok (.ldc2_w 436, 3) := by decide +kernel
theorem dX12_defaults_52 : decode cX12_defaults 52 = .ok (.bipush 8, 2) := by decide +kernel
theorem dX12_defaults_54 : decode cX12_defaults 54 = .ok (.invokevirtual 285, 3) := by decide +kernel
theorem dX12_defaults_57 : decode cX12_defaults 57 = .ok (.ifCond .eq 22, 3) := by decide +kernel
theorem dX12_defaults_60 : decode cX12_defaults 60 = .ok (.aload_n 0, 1) := by decide +kernel
theorem dX12_defaults_61 : decode cX12_defaults 61 = .ok (.dup, 1) := by decide +kernel
theorem dX12_defaults_62 : decode cX12_defaults 62 = .ok (.getfield 276, 3) := by decide +kernel
theorem dX12_defaults_65 : decode cX12_defaults 65 = .ok (.bipush 8, 2) := by decide +kernel
theorem dX12_defaults_67 : decode cX12_defaults 67 = .ok (.iadd, 1) := by decide +kernel
theorem dX12_defaults_68 : decode cX12_defaults 68 = .ok (.putfield 276, 3) := by decide +kernel
theorem dX12_defaults_71 : decode cX12_defaults 71 = .ok (.aload_n 0, 1) := by decide +kernel
theorem dX12_defaults_72 : decode cX12_defaults 72 = .ok (.getfield 122, 3) := by decide +kernel
theorem dX12_defaults_75 : decode cX12_defaults 75 = .ok (.iload_n 1, 1) := by decide +kernel
theorem dX12_defaults_76 : decode cX12_defaults 76 = .ok (.iconst 1, 1) := by decide +kernel
theorem dX12_defaults_77 : decode cX12_defaults 77 = .ok (.iastore, 1) := by decide +kernel
theorem dX12_defaults_78 : decode cX12_defaults 78 = .ok (.return_, 1) := by decide +kernel
theorem dX12_defaults_79 : decode cX12_defaults 79 = .ok (.aload_n 0, 1) := by decide +kernel
theorem dX12_defaults_80 : decode cX12_defaults 80 = .ok (.ldc2_w 438, 3) := by decide +kernel
theorem dX12_defaults_83 : decode cX12_defaults 83 = .ok (.bipush 6, 2) := by decide +kernel
theorem dX12_defaults_85 : decode cX12_defaults 85 = .ok (.invokevirtual 285, 3) := by decide +kernel
theorem dX12_defaults_88 : decode cX12_defaults 88 = .ok (.ifCond .eq 25, 3) := by decide +kernel
theorem dX12_defaults_91 : decode cX12_defaults 91 = .ok (.aload_n 0, 1) := by decide +kernel
theorem dX12_defaults_92 : decode cX12_defaults 92 = .ok (.dup, 1) := by decide +kernel
theorem dX12_defaults_93 : decode cX12_defaults 93 = .ok (.getfield 276, 3) := by decide +kernel
theorem dX12_defaults_96 : decode cX12_defaults 96 = .ok (.bipush 6, 2) := by decide +kernel
theorem dX12_defaults_98 : decode cX12_defaults 98 = .ok (.iadd, 1) := by decide +kernel
theorem dX12_defaults_99 : decode cX12_defaults 99 = .ok (.putfield 276, 3) := by decide +kernel
theorem dX12_defaults_102 : decode cX12_defaults 102 = .ok (.aload_n 0, 1) := by decide +kernel
theorem dX12_defaults_103 : decode cX12_defaults 103 = .ok (.getfield 122, 3) := by decide +kernel
theorem dX12_defaults_106 : decode cX12_defaults 106 = .ok (.iload_n 1, 1) := by decide +kernel
theorem dX12_defaults_107 : decode cX12_defaults 107 = .ok (.iconst 2, 1) := by decide +kernel
theorem dX12_defaults_108 : decode cX12_defaults 108 = .ok (.iastore, 1) := by decide +kernel
theorem dX12_defaults_109 : decode cX12_defaults 109 = .ok (.aload_n 0, 1) := by decide +kernel
theorem dX12_defaults_110 : decode cX12_defaults 110 = .ok (.invokevirtual 348, 3) := by decide +kernel
theorem dX12_defaults_113 : decode cX12_defaults 113 = .ok (.aload_n 0, 1) := by decide +kernel
theorem dX12_defaults_114 : decode cX12_defaults 114 = .ok (.getfield 125, 3) := by decide +kernel
theorem dX12_defaults_117 : decode cX12_defaults 117 = .ok (.iload_n 1, 1) := by decide +kernel
theorem dX12_defaults_118 : decode cX12_defaults 118 = .ok (.aload_n 0, 1) := by decide +kernel
theorem dX12_defaults_119 : decode cX12_defaults 119 = .ok (.invokevirtual 440, 3) := by decide +kernel
theorem dX12_defaults_122 : decode cX12_defaults 122 = .ok (.iastore, 1) := by decide +kernel
theorem dX12_defaults_123 : decode cX12_defaults 123 = .ok (.aload_n 0, 1) := by decide +kernel
theorem dX12_defaults_124 : decode cX12_defaults 124 = .ok (.getfield 128, 3) := by decide +kernel
theorem dX12_defaults_127 : decode cX12_defaults 127 = .ok (.iload_n 1, 1) := by decide +kernel
theorem dX12_defaults_128 : decode cX12_defaults 128 = .ok (.aload_n 0, 1) := by decide +kernel
theorem dX12_defaults_129 : decode cX12_defaults 129 = .ok (.getfield 306, 3) := by decide +kernel
theorem dX12_defaults_132 : decode cX12_defaults 132 = .ok (.iastore, 1) := by decide +kernel
theorem dX12_defaults_133 : decode cX12_defaults 133 = .ok (.return_, 1) := by decide +kernel
theorem v_X12_defaults_0 {cs : Cs} {Q : Option AV → Mm → Prop} {MI ML : Nat → Nat → Int} {d e nw th x : Nat} {l1 : Int}
    (h : wp cs mX12_isGood KD (rI (GR d e nw th x) fun x1 m1 n1 => ((x1 = 0 → Q none (m1, n1, (GR d e nw th x))) ∧ (x1 ≠ 0 → (0 ≤ l1 ∧ l1 < 1600) ∧ ∀ m14, m14 = up2 m1 160 l1.toNat 3 → wp cs mX12_stands2 KD (rI (GR d e nw th x) fun x23 m23 n23 => ((x23 = 0 → wp cs mX12_stands KD (rI (GR d e nw th x) fun x54 m54 n54 => ((x54 = 0 → wp cs mX12_stands KD (rI (GR d e nw th x) fun x85 m85 n85 => ((x85 = 0 → wp cs mX12_value KD (rI (GR d e nw th x) fun x119 m119 n119 => ∀ m122, m122 = up2 m119 161 l1.toNat x119 → ∀ m132, m132 = up2 m122 162 l1.toNat (m122 124 51) → Q none (m132, n119, (GR d e nw th x))) 0 (padL [vR 124] 5) [] (KD, m85, n85, (GR d e nw th x))) ∧ (x85 ≠ 0 → (-2147483648 ≤ (m85 124 4) + 6 ∧ (m85 124 4) + 6 < 2147483648) ∧ ∀ m99, m99 = up2 m85 124 4 ((m85 124 4) + 6) → ∀ m108, m108 = up2 m99 160 l1.toNat 2 → wp cs mX12_mustS KD (rV (GR d e nw th x) fun m110 n110 => wp cs mX12_value KD (rI (GR d e nw th x) fun x119 m119 n119 => ∀ m122, m122 = up2 m119 161 l1.toNat x119 → ∀ m132, m132 = up2 m122 162 l1.toNat (m122 124 51) → Q none (m132, n119, (GR d e nw th x))) 0 (padL [vR 124] 5) [] (KD, m110, n110, (GR d e nw th x))) 0 (padL [vR 124] 1) [] (KD, m108, n85, (GR d e nw th x))))) 0 (padL [vR 124, vL 38784785204548, vI 6] 6) [] (KD, m54, n54, (GR d e nw th x))) ∧ (x54 ≠ 0 → (-2147483648 ≤ (m54 124 4) + 8 ∧ (m54 124 4) + 8 < 2147483648) ∧ ∀ m68, m68 = up2 m54 124 4 ((m54 124 4) + 8) → ∀ m77, m77 = up2 m68 160 l1.toNat 1 → Q none (m77, n54, (GR d e nw th x))))) 0 (padL [vR 124, vL 2542648471899948356, vI 8] 6) [] (KD, m23, n23, (GR d e nw th x))) ∧ (x23 ≠ 0 → (-2147483648 ≤ (m23 124 4) + 9 ∧ (m23 124 4) + 9 < 2147483648) ∧ ∀ m37, m37 = up2 m23 124 4 ((m23 124 4) + 9) → ∀ m46, m46 = up2 m37 160 l1.toNat 0 → Q none (m46, n23, (GR d e nw th x))))) 0 (padL [vR 124, vL 2545172955043287621, vL 68, vI 1] 7) [] (KD, m14, n1, (GR d e nw th x))))) 0 (padL [vR 124] 1) [] (KD, MI, ML, (GR d e nw th x))) :
    wp cs mX12_defaults KD Q 0 (padL [vR 124, vI l1] 2) [] (KD, MI, ML, (GR d e nw th x)) := by
  refine wp_L (L' := [some (vR 124), some (vI l1)]) rfl ?_
  refine wp_aload_n dX12_defaults_0 rfl rfl (by first | exact Or.inl (by decide) | exact Or.inl (by omega) | exact Or.inr (by decide) | exact Or.inr (by omega)) ?_
  refine wp_cVq (n := 0) (mt' := mX12_isGood) (as := []) (rest := []) _ dX12_defaults_1 lX12_289 kX12_isGood vX12_isGood (by decide) (by decide +kernel) rfl (Nat.le_of_ble_eq_true rfl) (by decide) rfl rfl rfl (Nat.le_of_ble_eq_true rfl) (fun hM hS => h) (fun r M' hq hM => ?_)
  obtain ⟨x1, m1, n1, rfl, rfl, h⟩ := rI_out hq
  refine wp_if_ne (tgt := 8) dX12_defaults_4 (by decide) (fun h4 => ?_) (fun h4 => ?_)
  · replace h := h.2 h4
    refine wp_aload_n dX12_defaults_8 rfl rfl (by first | exact Or.inl (by decide) | exact Or.inl (by omega) | exact Or.inr (by decide) | exact Or.inr (by omega)) ?_
    refine wp_getR dX12_defaults_9 fX12_122 rfl (by decide) ?_
    refine wp_topR (x' := 160) rfl ?_
    refine wp_iload_n dX12_defaults_12 rfl rfl ?_
    refine wp_iconst dX12_defaults_13 (by decide) ?_
    have c0 := h.1
    replace h := h.2
    refine wp_iast dX12_defaults_14 rfl (by decide) c0 ?_
    refine wp_gI (fun m14 e14 => ?_)
    replace h := h m14 e14
    refine wp_aload_n dX12_defaults_15 rfl rfl (by first | exact Or.inl (by decide) | exact Or.inl (by omega) | exact Or.inr (by decide) | exact Or.inr (by omega)) ?_
    refine wp_ldc2 (x := 2545172955043287621) dX12_defaults_16 cX12_432 (by decide) ?_
    refine wp_pc (pc' := 19) rfl ?_
    refine wp_ldc2 (x := 68) dX12_defaults_19 cX12_434 (by decide) ?_
    refine wp_iconst dX12_defaults_22 (by decide) ?_
    refine wp_cVq (n := 3) (mt' := mX12_stands2) (as := [vL 2545172955043287621, vL 68, vI 1]) (rest := []) _ dX12_defaults_23 lX12_358 kX12_stands2 vX12_stands2 (by decide) (by decide +kernel) rfl (Nat.le_of_ble_eq_true rfl) (by decide) rfl rfl rfl (Nat.le_of_ble_eq_true rfl) (fun hM hS => h) (fun r M' hq hM => ?_)
    obtain ⟨x23, m23, n23, rfl, rfl, h⟩ := rI_out hq
    refine wp_if_eq (tgt := 48) dX12_defaults_26 (by decide) (fun h26 => ?_) (fun h26 => ?_)
    · replace h := h.1 h26
      refine wp_aload_n dX12_defaults_48 rfl rfl (by first | exact Or.inl (by decide) | exact Or.inl (by omega) | exact Or.inr (by decide) | exact Or.inr (by omega)) ?_
      refine wp_ldc2 (x := 2542648471899948356) dX12_defaults_49 cX12_436 (by decide) ?_
      refine wp_bipush dX12_defaults_52 (by decide +kernel) (by decide) ?_
      refine wp_cVq (n := 2) (mt' := mX12_stands) (as := [vL 2542648471899948356, vI 8]) (rest := []) _ dX12_defaults_54 lX12_285 kX12_stands vX12_stands (by decide) (by decide +kernel) rfl (Nat.le_of_ble_eq_true rfl) (by decide) rfl rfl rfl (Nat.le_of_ble_eq_true rfl) (fun hM hS => h) (fun r M' hq hM => ?_)
      obtain ⟨x54, m54, n54, rfl, rfl, h⟩ := rI_out hq
      refine wp_if_eq (tgt := 79) dX12_defaults_57 (by decide) (fun h57 => ?_) (fun h57 => ?_)
      · replace h := h.1 h57
        refine wp_aload_n dX12_defaults_79 rfl rfl (by first | exact Or.inl (by decide) | exact Or.inl (by omega) | exact Or.inr (by decide) | exact Or.inr (by omega)) ?_
        refine wp_ldc2 (x := 38784785204548) dX12_defaults_80 cX12_438 (by decide) ?_
        refine wp_bipush dX12_defaults_83 (by decide +kernel) (by decide) ?_
        refine wp_cVq (n := 2) (mt' := mX12_stands) (as := [vL 38784785204548, vI 6]) (rest := []) _ dX12_defaults_85 lX12_285 kX12_stands vX12_stands (by decide) (by decide +kernel) rfl (Nat.le_of_ble_eq_true rfl) (by decide) rfl rfl rfl (Nat.le_of_ble_eq_true rfl) (fun hM hS => h) (fun r M' hq hM => ?_)
        obtain ⟨x85, m85, n85, rfl, rfl, h⟩ := rI_out hq
        refine wp_if_eq (tgt := 113) dX12_defaults_88 (by decide) (fun h88 => ?_) (fun h88 => ?_)
        · replace h := h.1 h88
          refine wp_aload_n dX12_defaults_113 rfl rfl (by first | exact Or.inl (by decide) | exact Or.inl (by omega) | exact Or.inr (by decide) | exact Or.inr (by omega)) ?_
          refine wp_getR dX12_defaults_114 fX12_125 rfl (by decide) ?_
          refine wp_topR (x' := 161) rfl ?_
          refine wp_iload_n dX12_defaults_117 rfl rfl ?_
          refine wp_aload_n dX12_defaults_118 rfl rfl (by first | exact Or.inl (by decide) | exact Or.inl (by omega) | exact Or.inr (by decide) | exact Or.inr (by omega)) ?_
          refine wp_cVq (n := 0) (mt' := mX12_value) (as := []) (rest := [vI l1, vR 161]) _ dX12_defaults_119 lX12_440 kX12_value vX12_value (by decide) (by decide +kernel) rfl (Nat.le_of_ble_eq_true rfl) (by decide) rfl rfl rfl (Nat.le_of_ble_eq_true rfl) (fun hM hS => h) (fun r M' hq hM => ?_)
          obtain ⟨x119, m119, n119, rfl, rfl, h⟩ := rI_out hq
          refine wp_iast dX12_defaults_122 rfl (by decide) c0 ?_
          refine wp_gI (fun m122 e122 => ?_)
          replace h := h m122 e122
          refine wp_aload_n dX12_defaults_123 rfl rfl (by first | exact Or.inl (by decide) | exact Or.inl (by omega) | exact Or.inr (by decide) | exact Or.inr (by omega)) ?_
          refine wp_getR dX12_defaults_124 fX12_128 rfl (by decide) ?_
          refine wp_topR (x' := 162) rfl ?_
          refine wp_iload_n dX12_defaults_127 rfl rfl ?_
          refine wp_aload_n dX12_defaults_128 rfl rfl (by first | exact Or.inl (by decide) | exact Or.inl (by omega) | exact Or.inr (by decide) | exact Or.inr (by omega)) ?_
          refine wp_getI dX12_defaults_129 fX12_306 rfl (by decide) ?_
          refine wp_iast dX12_defaults_132 rfl (by decide) c0 ?_
          refine wp_gI (fun m132 e132 => ?_)
          replace h := h m132 e132
          refine wp_pc (pc' := 133) rfl ?_
          exact wp_vret dX12_defaults_133 rfl (fun _ => h)
        · replace h := h.2 h88
          refine wp_aload_n dX12_defaults_91 rfl rfl (by first | exact Or.inl (by decide) | exact Or.inl (by omega) | exact Or.inr (by decide) | exact Or.inr (by omega)) ?_
          refine wp_dup dX12_defaults_92 (fun x e => by cases e) ?_
          refine wp_getI dX12_defaults_93 fX12_276 rfl (by decide) ?_
          refine wp_bipush dX12_defaults_96 (by decide +kernel) (by decide) ?_
          have c1 := h.1
          replace h := h.2
          refine wp_iaddr dX12_defaults_98 c1 ?_
          refine wp_putI dX12_defaults_99 pX12_276 rfl (by decide) ?_
          refine wp_gI (fun m99 e99 => ?_)
          replace h := h m99 e99
          refine wp_aload_n dX12_defaults_102 rfl rfl (by first | exact Or.inl (by decide) | exact Or.inl (by omega) | exact Or.inr (by decide) | exact Or.inr (by omega)) ?_
          refine wp_pc (pc' := 103) rfl ?_
          refine wp_getR dX12_defaults_103 fX12_122 rfl (by decide) ?_
          refine wp_topR (x' := 160) rfl ?_
          refine wp_iload_n dX12_defaults_106 rfl rfl ?_
          refine wp_iconst dX12_defaults_107 (by decide) ?_
          refine wp_iast dX12_defaults_108 rfl (by decide) c0 ?_
          refine wp_gI (fun m108 e108 => ?_)
          replace h := h m108 e108
          refine wp_aload_n dX12_defaults_109 rfl rfl (by first | exact Or.inl (by decide) | exact Or.inl (by omega) | exact Or.inr (by decide) | exact Or.inr (by omega)) ?_
          refine wp_cVq (n := 0) (mt' := mX12_mustS) (as := []) (rest := []) _ dX12_defaults_110 lX12_348 kX12_mustS vX12_mustS (by decide) (by decide +kernel) rfl (Nat.le_of_ble_eq_true rfl) (by decide) rfl rfl rfl (Nat.le_of_ble_eq_true rfl) (fun hM hS => h) (fun r M' hq hM => ?_)
          obtain ⟨m110, n110, rfl, rfl, h⟩ := rV_out hq
          refine wp_aload_n dX12_defaults_113 rfl rfl (by first | exact Or.inl (by decide) | exact Or.inl (by omega) | exact Or.inr (by decide) | exact Or.inr (by omega)) ?_
          refine wp_getR dX12_defaults_114 fX12_125 rfl (by decide) ?_
          refine wp_topR (x' := 161) rfl ?_
          refine wp_iload_n dX12_defaults_117 rfl rfl ?_
          refine wp_aload_n dX12_defaults_118 rfl rfl (by first | exact Or.inl (by decide) | exact Or.inl (by omega) | exact Or.inr (by decide) | exact Or.inr (by omega)) ?_
          refine wp_cVq (n := 0) (mt' := mX12_value) (as := []) (rest := [vI l1, vR 161]) _ dX12_defaults_119 lX12_440 kX12_value vX12_value (by decide) (by decide +kernel) rfl (Nat.le_of_ble_eq_true rfl) (by decide) rfl rfl rfl (Nat.le_of_ble_eq_true rfl) (fun hM hS => h) (fun r M' hq hM => ?_)
          obtain ⟨x119, m119, n119, rfl, rfl, h⟩ := rI_out hq
          refine wp_iast dX12_defaults_122 rfl (by decide) c0 ?_
          refine wp_gI (fun m122 e122 => ?_)
          replace h := h m122 e122
          refine wp_aload_n dX12_defaults_123 rfl rfl (by first | exact Or.inl (by decide) | exact Or.inl (by omega) | exact Or.inr (by decide) | exact Or.inr (by omega)) ?_
          refine wp_getR dX12_defaults_124 fX12_128 rfl (by decide) ?_
          refine wp_topR (x' := 162) rfl ?_
          refine wp_iload_n dX12_defaults_127 rfl rfl ?_
          refine wp_aload_n dX12_defaults_128 rfl rfl (by first | exact Or.inl (by decide) | exact Or.inl (by omega) | exact Or.inr (by decide) | exact Or.inr (by omega)) ?_
          refine wp_getI dX12_defaults_129 fX12_306 rfl (by decide) ?_
          refine wp_iast dX12_defaults_132 rfl (by decide) c0 ?_
          refine wp_gI (fun m132 e132 => ?_)
          replace h := h m132 e132
          refine wp_pc (pc' := 133) rfl ?_
          exact wp_vret dX12_defaults_133 rfl (fun _ => h)
      · replace h := h.2 h57
        refine wp_aload_n dX12_defaults_60 rfl rfl (by first | exact Or.inl (by decide) | exact Or.inl (by omega) | exact Or.inr (by decide) | exact Or.inr (by omega)) ?_
        refine wp_dup dX12_defaults_61 (fun x e => by cases e) ?_
        refine wp_getI dX12_defaults_62 fX12_276 rfl (by decide) ?_
        refine wp_bipush dX12_defaults_65 (by decide +kernel) (by decide) ?_
        have c1 := h.1
        replace h := h.2
        refine wp_iaddr dX12_defaults_67 c1 ?_
        refine wp_putI dX12_defaults_68 pX12_276 rfl (by decide) ?_
        refine wp_gI (fun m68 e68 => ?_)
        replace h := h m68 e68
        refine wp_aload_n dX12_defaults_71 rfl rfl (by first | exact Or.inl (by decide) | exact Or.inl (by omega) | exact Or.inr (by decide) | exact Or.inr (by omega)) ?_
        refine wp_pc (pc' := 72) rfl ?_
        refine wp_getR dX12_defaults_72 fX12_122 rfl (by decide) ?_
        refine wp_topR (x' := 160) rfl ?_
        refine wp_iload_n dX12_defaults_75 rfl rfl ?_
        refine wp_iconst dX12_defaults_76 (by decide) ?_
        refine wp_iast dX12_defaults_77 rfl (by decide) c0 ?_
        refine wp_gI (fun m77 e77 => ?_)
        replace h := h m77 e77
        exact wp_vret dX12_defaults_78 rfl (fun _ => h)
    · replace h := h.2 h26
      refine wp_aload_n dX12_defaults_29 rfl rfl (by first | exact Or.inl (by decide) | exact Or.inl (by omega) | exact Or.inr (by decide) | exact Or.inr (by omega)) ?_
      refine wp_dup dX12_defaults_30 (fun x e => by cases e) ?_
      refine wp_getI dX12_defaults_31 fX12_276 rfl (by decide) ?_
      refine wp_bipush dX12_defaults_34 (by decide +kernel) (by decide) ?_
      have c1 := h.1
      replace h := h.2
      refine wp_iaddr dX12_defaults_36 c1 ?_
      refine wp_putI dX12_defaults_37 pX12_276 rfl (by decide) ?_
      refine wp_gI (fun m37 e37 => ?_)
      replace h := h m37 e37
      refine wp_aload_n dX12_defaults_40 rfl rfl (by first | exact Or.inl (by decide) | exact Or.inl (by omega) | exact Or.inr (by decide) | exact Or.inr (by omega)) ?_
      refine wp_pc (pc' := 41) rfl ?_
      refine wp_getR dX12_defaults_41 fX12_122 rfl (by decide) ?_
      refine wp_topR (x' := 160) rfl ?_
      refine wp_iload_n dX12_defaults_44 rfl rfl ?_
      refine wp_iconst dX12_defaults_45 (by decide) ?_
      refine wp_iast dX12_defaults_46 rfl (by decide) c0 ?_
      refine wp_gI (fun m46 e46 => ?_)
      replace h := h m46 e46
      exact wp_vret dX12_defaults_47 rfl (fun _ => h)
  · replace h := h.1 h4
    exact wp_vret dX12_defaults_7 rfl (fun _ => h)
theorem dX12_rule_0 : decode cX12_rule 0 = .ok (.aload_n 0, 1) := by decide +kernel
theorem dX12_rule_1 : decode cX12_rule 1 = .ok (.invokevirtual 351, 3) := by decide +kernel
theorem dX12_rule_4 : decode cX12_rule 4 = .ok (.istore_n 3, 1) := by decide +kernel
theorem dX12_rule_5 : decode cX12_rule 5 = .ok (.aload_n 0, 1) := by decide +kernel
theorem dX12_rule_6 : decode cX12_rule 6 = .ok (.getfield 306, 3) := by decide +kernel
theorem dX12_rule_9 : decode cX12_rule 9 = .ok (.istore 4, 2) := by decide +kernel
theorem dX12_rule_11 : decode cX12_rule 11 = .ok (.aload_n 0, 1) := by decide +kernel
theorem dX12_rule_12 : decode cX12_rule 12 = .ok (.invokevirtual 289, 3) := by decide +kernel
theorem dX12_rule_15 : decode cX12_rule 15 = .ok (.ifCond .ne 4, 3) := by decide +kernel
theorem dX12_rule_18 : decode cX12_rule 18 = .ok (.return_, 1) := by decide +kernel
theorem dX12_rule_19 : decode cX12_rule 19 = .ok (.aload_n 0, 1) := by decide +kernel
theorem dX12_rule_20 : decode cX12_rule 20 = .ok (.iload_n 1, 1) := by decide +kernel
theorem dX12_rule_21 : decode cX12_rule 21 = .ok (.iload_n 2, 1) := by decide +kernel
theorem dX12_rule_22 : decode cX12_rule 22 = .ok (.sipush 6000, 3) := by decide +kernel
theorem dX12_rule_25 : decode cX12_rule 25 = .ok (.aload_n 0, 1) := by decide +kernel
theorem dX12_rule_26 : decode cX12_rule 26 = .ok (.getfield 328, 3) := by decide +kernel
theorem dX12_rule_29 : decode cX12_rule 29 = .ok (.imul, 1) := by decide +kernel
theorem dX12_rule_30 : decode cX12_rule 30 = .ok (.iload_n 3, 1) := by decide +kernel
theorem dX12_rule_31 : decode cX12_rule 31 = .ok (.iadd, 1) := by decide +kernel
theorem dX12_rule_32 : decode cX12_rule 32 = .ok (.iload 4, 2) := by decide +kernel
theorem dX12_rule_34 : decode cX12_rule 34 = .ok (.invokevirtual 419, 3) := by decide +kernel
theorem dX12_rule_37 : decode cX12_rule 37 = .ok (.istore 5, 2) := by decide +kernel
theorem dX12_rule_39 : decode cX12_rule 39 = .ok (.iload 5, 2) := by decide +kernel
theorem dX12_rule_41 : decode cX12_rule 41 = .ok (.ifCond .ne 20, 3) := by decide +kernel
theorem dX12_rule_44 : decode cX12_rule 44 = .ok (.aload_n 0, 1) := by decide +kernel
theorem dX12_rule_45 : decode cX12_rule 45 = .ok (.getfield 409, 3) := by decide +kernel
theorem dX12_rule_48 : decode cX12_rule 48 = .ok (.bipush 10, 2) := by decide +kernel
theorem dX12_rule_50 : decode cX12_rule 50 = .ok (.if_icmp .ne 11, 3) := by decide +kernel
theorem dX12_rule_53 : decode cX12_rule 53 = .ok (.aload_n 0, 1) := by decide +kernel
theorem dX12_rule_54 : decode cX12_rule 54 = .ok (.bipush (-3), 2) := by decide +kernel
theorem dX12_rule_56 : decode cX12_rule 56 = .ok (.iload_n 3, 1) := by decide +kernel
theorem dX12_rule_57 : decode cX12_rule 57 = .ok (.invokevirtual 293, 3) := by decide +kernel
theorem dX12_rule_60 : decode cX12_rule 60 = .ok (.return_, 1) := by decide +kernel
theorem dX12_rule_61 : decode cX12_rule 61 = .ok (.sipush 800, 3) := by decide +kernel
theorem dX12_rule_64 : decode cX12_rule 64 = .ok (.aload_n 0, 1) := by decide +kernel
theorem dX12_rule_65 : decode cX12_rule 65 = .ok (.getfield 328, 3) := by decide +kernel
theorem dX12_rule_68 : decode cX12_rule 68 = .ok (.imul, 1) := by decide +kernel
theorem dX12_rule_69 : decode cX12_rule 69 = .ok (.iload 5, 2) := by decide +kernel
theorem dX12_rule_71 : decode cX12_rule 71 = .ok (.ifCond .eq 9, 3) := by decide +kernel
theorem dX12_rule_74 : decode cX12_rule 74 = .ok (.sipush 799, 3) := by decide +kernel
theorem dX12_rule_77 : decode cX12_rule 77 = .ok (.goto 12, 3) := by decide +kernel
theorem dX12_rule_80 : decode cX12_rule 80 = .ok (.aload_n 0, 1) := by decide +kernel
theorem dX12_rule_81 : decode cX12_rule 81 = .ok (.getfield 104, 3) := by decide +kernel
theorem dX12_rule_84 : decode cX12_rule 84 = .ok (.aload_n 0, 1) := by decide +kernel
theorem dX12_rule_85 : decode cX12_rule 85 = .ok (.getfield 328, 3) := by decide +kernel
theorem dX12_rule_88 : decode cX12_rule 88 = .ok (.iaload, 1) := by decide +kernel
theorem dX12_rule_89 : decode cX12_rule 89 = .ok (.iadd, 1) := by decide +kernel
theorem dX12_rule_90 : decode cX12_rule 90 = .ok (.istore 6, 2) := by decide +kernel
theorem dX12_rule_92 : decode cX12_rule 92 = .ok (.aload_n 0, 1) := by decide +kernel
theorem dX12_rule_93 : decode cX12_rule 93 = .ok (.getfield 107, 3) := by decide +kernel
theorem dX12_rule_96 : decode cX12_rule 96 = .ok (.iload 6, 2) := by decide +kernel
theorem dX12_rule_98 : decode cX12_rule 98 = .ok (.iload_n 1, 1) := by decide +kernel
theorem dX12_rule_99 : decode cX12_rule 99 = .ok (.iastore, 1) := by decide +kernel
theorem dX12_rule_100 : decode cX12_rule 100 = .ok (.aload_n 0, 1) := by decide +kernel
theorem dX12_rule_101 : decode cX12_rule 101 = .ok (.getfield 110, 3) := by decide +kernel
theorem dX12_rule_104 : decode cX12_rule 104 = .ok (.iload 6, 2) := by decide +kernel
theorem dX12_rule_106 : decode cX12_rule 106 = .ok (.iload_n 2, 1) := by decide +kernel
theorem dX12_rule_107 : decode cX12_rule 107 = .ok (.iastore, 1) := by decide +kernel
theorem dX12_rule_108 : decode cX12_rule 108 = .ok (.aload_n 0, 1) := by decide +kernel
theorem dX12_rule_109 : decode cX12_rule 109 = .ok (.getfield 113, 3) := by decide +kernel
theorem dX12_rule_112 : decode cX12_rule 112 = .ok (.iload 6, 2) := by decide +kernel
theorem dX12_rule_114 : decode cX12_rule 114 = .ok (.sipush 6000, 3) := by decide +kernel
theorem dX12_rule_117 : decode cX12_rule 117 = .ok (.aload_n 0, 1) := by decide +kernel
theorem dX12_rule_118 : decode cX12_rule 118 = .ok (.getfield 328, 3) := by decide +kernel
theorem dX12_rule_121 : decode cX12_rule 121 = .ok (.imul, 1) := by decide +kernel
theorem dX12_rule_122 : decode cX12_rule 122 = .ok (.iload_n 3, 1) := by decide +kernel
theorem dX12_rule_123 : decode cX12_rule 123 = .ok (.iadd, 1) := by decide +kernel
theorem dX12_rule_124 : decode cX12_rule 124 = .ok (.iastore, 1) := by decide +kernel
theorem dX12_rule_125 : decode cX12_rule 125 = .ok (.aload_n 0, 1) := by decide +kernel
theorem dX12_rule_126 : decode cX12_rule 126 = .ok (.getfield 116, 3) := by decide +kernel
theorem dX12_rule_129 : decode cX12_rule 129 = .ok (.iload 6, 2) := by decide +kernel
theorem dX12_rule_131 : decode cX12_rule 131 = .ok (.iload 4, 2) := by decide +kernel
theorem dX12_rule_133 : decode cX12_rule 133 = .ok (.iastore, 1) := by decide +kernel
theorem dX12_rule_134 : decode cX12_rule 134 = .ok (.aload_n 0, 1) := by decide +kernel
theorem dX12_rule_135 : decode cX12_rule 135 = .ok (.getfield 131, 3) := by decide +kernel
theorem dX12_rule_138 : decode cX12_rule 138 = .ok (.iload 6, 2) := by decide +kernel
theorem dX12_rule_140 : decode cX12_rule 140 = .ok (.iconst 0, 1) := by decide +kernel
theorem dX12_rule_141 : decode cX12_rule 141 = .ok (.iastore, 1) := by decide +kernel
theorem dX12_rule_142 : decode cX12_rule 142 = .ok (.aload_n 0, 1) := by decide +kernel
theorem dX12_rule_143 : decode cX12_rule 143 = .ok (.invokevirtual 348, 3) := by decide +kernel
theorem dX12_rule_146 : decode cX12_rule 146 = .ok (.aload_n 0, 1) := by decide +kernel
theorem dX12_rule_147 : decode cX12_rule 147 = .ok (.invokevirtual 289, 3) := by decide +kernel
theorem dX12_rule_150 : decode cX12_rule 150 = .ok (.ifCond .eq 35, 3) := by decide +kernel
theorem dX12_rule_153 : decode cX12_rule 153 = .ok (.aload_n 0, 1) := by decide +kernel
theorem dX12_rule_154 : decode cX12_rule 154 = .ok (.ldc2_w 422, 3) := by decide +kernel
theorem dX12_rule_157 : decode cX12_rule 157 = .ok (.iconst 5, 1) := by decide +kernel
theorem dX12_rule_158 : decode cX12_rule 158 = .ok (.invokevirtual 285, 3) := by decide +kernel
theorem dX12_rule_161 : decode cX12_rule 161 = .ok (.ifCond .eq 24, 3) := by decide +kernel
theorem dX12_rule_164 : decode cX12_rule 164 = .ok (.aload_n 0, 1) := by decide +kernel
theorem dX12_rule_165 : decode cX12_rule 165 = .ok (.dup, 1) := by decide +kernel
theorem dX12_rule_166 : decode cX12_rule 166 = .ok (.getfield 276, 3) := by decide +kernel
theorem dX12_rule_169 : decode cX12_rule 169 = .ok (.iconst 5, 1) := by decide +kernel
theorem dX12_rule_170 : decode cX12_rule 170 = .ok (.iadd, 1) := by decide +kernel
theorem dX12_rule_171 : decode cX12_rule 171 = .ok (.putfield 276, 3) := by decide +kernel
theorem dX12_rule_174 : decode cX12_rule 174 = .ok (.aload_n 0, 1) := by decide +kernel
theorem dX12_rule_175 : decode cX12_rule 175 = .ok (.getfield 119, 3) := by decide +kernel
theorem dX12_rule_178 : decode cX12_rule 178 = .ok (.iload 6, 2) := by decide +kernel
theorem dX12_rule_180 : decode cX12_rule 180 = .ok (.iconst 0, 1) := by decide +kernel
theorem dX12_rule_181 : decode cX12_rule 181 = .ok (.iastore, 1) := by decide +kernel
theorem dX12_rule_182 : decode cX12_rule 182 = .ok (.goto 65, 3) := by decide +kernel
theorem dX12_rule_185 : decode cX12_rule 185 = .ok (.aload_n 0, 1) := by decide +kernel
theorem dX12_rule_186 : decode cX12_rule 186 = .ok (.invokevirtual 289, 3) := by decide +kernel
theorem dX12_rule_189 : decode cX12_rule 189 = .ok (.ifCond .eq 35, 3) := by decide +kernel
theorem dX12_rule_192 : decode cX12_rule 192 = .ok (.aload_n 0, 1) := by decide +kernel
theorem dX12_rule_193 : decode cX12_rule 193 = .ok (.ldc2_w 424, 3) := by decide +kernel
theorem dX12_rule_196 : decode cX12_rule 196 = .ok (.iconst 2, 1) := by decide +kernel
theorem dX12_rule_197 : decode cX12_rule 197 = .ok (.invokevirtual 285, 3) := by decide +kernel
theorem dX12_rule_200 : decode cX12_rule 200 = .ok (.ifCond .eq 24, 3) := by decide +kernel
theorem dX12_rule_203 : decode cX12_rule 203 = .ok (.aload_n 0, 1) := by decide +kernel
theorem dX12_rule_204 : decode cX12_rule 204 = .ok (.dup, 1) := by decide +kernel
theorem dX12_rule_205 : decode cX12_rule 205 = .ok (.getfield 276, 3) := by decide +kernel
theorem dX12_rule_208 : decode cX12_rule 208 = .ok (.iconst 2, 1) := by decide +kernel
theorem dX12_rule_209 : decode cX12_rule 209 = .ok (.iadd, 1) := by decide +kernel
theorem dX12_rule_210 : decode cX12_rule 210 = .ok (.putfield 276, 3) := by decide +kernel
theorem dX12_rule_213 : decode cX12_rule 213 = .ok (.aload_n 0, 1) := by decide +kernel
theorem dX12_rule_214 : decode cX12_rule 214 = .ok (.getfield 119, 3) := by decide +kernel
theorem dX12_rule_217 : decode cX12_rule 217 = .ok (.iload 6, 2) := by decide +kernel
theorem dX12_rule_219 : decode cX12_rule 219 = .ok (.iconst 1, 1) := by decide +kernel
theorem dX12_rule_220 : decode cX12_rule 220 = .ok (.iastore, 1) := by decide +kernel
theorem dX12_rule_221 : decode cX12_rule 221 = .ok (.goto 26, 3) := by decide +kernel
theorem dX12_rule_224 : decode cX12_rule 224 = .ok (.aload_n 0, 1) := by decide +kernel
theorem dX12_rule_225 : decode cX12_rule 225 = .ok (.bipush 40, 2) := by decide +kernel
theorem dX12_rule_227 : decode cX12_rule 227 = .ok (.invokevirtual 340, 3) := by decide +kernel
theorem dX12_rule_230 : decode cX12_rule 230 = .ok (.ifCond .eq 17, 3) := by decide +kernel
theorem dX12_rule_233 : decode cX12_rule 233 = .ok (.aload_n 0, 1) := by decide +kernel
theorem dX12_rule_234 : decode cX12_rule 234 = .ok (.getfield 119, 3) := by decide +kernel
theorem dX12_rule_237 : decode cX12_rule 237 = .ok (.iload 6, 2) := by decide +kernel
theorem dX12_rule_239 : decode cX12_rule 239 = .ok (.iconst 2, 1) := by decide +kernel
theorem dX12_rule_240 : decode cX12_rule 240 = .ok (.iastore, 1) := by decide +kernel
theorem dX12_rule_241 : decode cX12_rule 241 = .ok (.aload_n 0, 1) := by decide +kernel
theorem dX12_rule_242 : decode cX12_rule 242 = .ok (.iload 6, 2) := by decide +kernel
theorem dX12_rule_244 : decode cX12_rule 244 = .ok (.invokevirtual 426, 3) := by decide +kernel
theorem dX12_rule_247 : decode cX12_rule 247 = .ok (.aload_n 0, 1) := by decide +kernel
theorem dX12_rule_248 : decode cX12_rule 248 = .ok (.invokevirtual 348, 3) := by decide +kernel
theorem dX12_rule_251 : decode cX12_rule 251 = .ok (.aload_n 0, 1) := by decide +kernel
theorem dX12_rule_252 : decode cX12_rule 252 = .ok (.iload 6, 2) := by decide +kernel
theorem dX12_rule_254 : decode cX12_rule 254 = .ok (.invokevirtual 429, 3) := by decide +kernel
theorem dX12_rule_257 : decode cX12_rule 257 = .ok (.aload_n 0, 1) := by decide +kernel
theorem dX12_rule_258 : decode cX12_rule 258 = .ok (.invokevirtual 289, 3) := by decide +kernel
theorem dX12_rule_261 : decode cX12_rule 261 = .ok (.ifCond .eq 70, 3) := by decide +kernel
theorem dX12_rule_264 : decode cX12_rule 264 = .ok (.iload 5, 2) := by decide +kernel
theorem dX12_rule_266 : decode cX12_rule 266 = .ok (.ifCond .ne 65, 3) := by decide +kernel
theorem dX12_rule_269 : decode cX12_rule 269 = .ok (.aload_n 0, 1) := by decide +kernel
theorem dX12_rule_270 : decode cX12_rule 270 = .ok (.getfield 140, 3) := by decide +kernel
theorem dX12_rule_273 : decode cX12_rule 273 = .ok (.sipush 850, 3) := by decide +kernel
theorem dX12_rule_276 : decode cX12_rule 276 = .ok (.aload_n 0, 1) := by decide +kernel
theorem dX12_rule_277 : decode cX12_rule 277 = .ok (.getfield 328, 3) := by decide +kernel
theorem dX12_rule_280 : decode cX12_rule 280 = .ok (.imul, 1) := by decide +kernel
theorem dX12_rule_281 : decode cX12_rule 281 = .ok (.aload_n 0, 1) := by decide +kernel
theorem dX12_rule_282 : decode cX12_rule 282 = .ok (.getfield 143, 3) := by decide +kernel
theorem dX12_rule_285 : decode cX12_rule 285 = .ok (.aload_n 0, 1) := by decide +kernel
theorem dX12_rule_286 : decode cX12_rule 286 = .ok (.getfield 328, 3) := by decide +kernel
theorem dX12_rule_289 : decode cX12_rule 289 = .ok (.iaload, 1) := by decide +kernel
theorem dX12_rule_290 : decode cX12_rule 290 = .ok (.iadd, 1) := by decide +kernel
theorem dX12_rule_291 : decode cX12_rule 291 = .ok (.iconst 2, 1) := by decide +kernel
theorem dX12_rule_292 : decode cX12_rule 292 = .ok (.aload_n 0, 1) := by decide +kernel
theorem dX12_rule_293 : decode cX12_rule 293 = .ok (.getfield 104, 3) := by decide +kernel
theorem dX12_rule_296 : decode cX12_rule 296 = .ok (.aload_n 0, 1) := by decide +kernel
theorem dX12_rule_297 : decode cX12_rule 297 = .ok (.getfield 328, 3) := by decide +kernel
theorem dX12_rule_300 : decode cX12_rule 300 = .ok (.iaload, 1) := by decide +kernel
theorem dX12_rule_301 : decode cX12_rule 301 = .ok (.imul, 1) := by decide +kernel
theorem dX12_rule_302 : decode cX12_rule 302 = .ok (.iconst 1, 1) := by decide +kernel
theorem dX12_rule_303 : decode cX12_rule 303 = .ok (.iadd, 1) := by decide +kernel
theorem dX12_rule_304 : decode cX12_rule 304 = .ok (.iastore, 1) := by decide +kernel
theorem dX12_rule_305 : decode cX12_rule 305 = .ok (.aload_n 0, 1) := by decide +kernel
theorem dX12_rule_306 : decode cX12_rule 306 = .ok (.getfield 143, 3) := by decide +kernel
theorem dX12_rule_309 : decode cX12_rule 309 = .ok (.aload_n 0, 1) := by decide +kernel
theorem dX12_rule_310 : decode cX12_rule 310 = .ok (.getfield 328, 3) := by decide +kernel
theorem dX12_rule_313 : decode cX12_rule 313 = .ok (.dup2, 1) := by decide +kernel
theorem dX12_rule_314 : decode cX12_rule 314 = .ok (.iaload, 1) := by decide +kernel
theorem dX12_rule_315 : decode cX12_rule 315 = .ok (.iconst 1, 1) := by decide +kernel
theorem dX12_rule_316 : decode cX12_rule 316 = .ok (.iadd, 1) := by decide +kernel
theorem dX12_rule_317 : decode cX12_rule 317 = .ok (.iastore, 1) := by decide +kernel
theorem dX12_rule_318 : decode cX12_rule 318 = .ok (.aload_n 0, 1) := by decide +kernel
theorem dX12_rule_319 : decode cX12_rule 319 = .ok (.getfield 104, 3) := by decide +kernel
theorem dX12_rule_322 : decode cX12_rule 322 = .ok (.aload_n 0, 1) := by decide +kernel
theorem dX12_rule_323 : decode cX12_rule 323 = .ok (.getfield 328, 3) := by decide +kernel
theorem dX12_rule_326 : decode cX12_rule 326 = .ok (.dup2, 1) := by decide +kernel
theorem dX12_rule_327 : decode cX12_rule 327 = .ok (.iaload, 1) := by decide +kernel
theorem dX12_rule_328 : decode cX12_rule 328 = .ok (.iconst 1, 1) := by decide +kernel
theorem dX12_rule_329 : decode cX12_rule 329 = .ok (.iadd, 1) := by decide +kernel
theorem dX12_rule_330 : decode cX12_rule 330 = .ok (.iastore, 1) := by decide +kernel
theorem dX12_rule_331 : decode cX12_rule 331 = .ok (.return_, 1) := by decide +kernel
theorem v_X12_rule_0 {cs : Cs} {Q : Option AV → Mm → Prop} {MI ML : Nat → Nat → Int} {d e nw th x : Nat} {l1 l2 : Int}
    (h : wp cs mX12_takeName KD (rI (GR d e nw th x) fun x1 m1 n1 => wp cs mX12_isGood KD (rI (GR d e nw th x) fun x12 m12 n12 => ((x12 = 0 → Q none (m12, n12, (GR d e nw th x))) ∧ (x12 ≠ 0 → (-2147483648 ≤ 6000 * (m12 124 8) ∧ 6000 * (m12 124 8) < 2147483648) ∧ (-2147483648 ≤ (6000 * (m12 124 8)) + x1 ∧ (6000 * (m12 124 8)) + x1 < 2147483648) ∧ wp cs mX12_hasRule KD (rI (GR d e nw th x) fun x34 m34 n34 => ((x34 = 0 → (((m34 124 62) = 10 → wp cs mX12_fail KD (rV (GR d e nw th x) fun m57 n57 => Q none (m57, n57, (GR d e nw th x))) 0 (padL [vR 124, vI (-3), vI x1] 3) [] (KD, m34, n34, (GR d e nw th x))) ∧ ((m34 124 62) ≠ 10 → (-2147483648 ≤ 800 * (m34 124 8) ∧ 800 * (m34 124 8) < 2147483648) ∧ ((x34 = 0 → (0 ≤ (m34 124 8) ∧ (m34 124 8) < 2) ∧ wp cs mX12_rule KD Q 89 [some (vR 124), some (vI l1), some (vI l2), some (vI x1), some (vI (m1 124 51)), some (vI x34), none] [vI (m34 154 (m34 124 8).toNat), vI (800 * (m34 124 8))] (KD, m34, n34, (GR d e nw th x))) ∧ (x34 ≠ 0 → wp cs mX12_rule KD Q 89 [some (vR 124), some (vI l1), some (vI l2), some (vI x1), some (vI (m1 124 51)), some (vI x34), none] [vI 799, vI (800 * (m34 124 8))] (KD, m34, n34, (GR d e nw th x))))))) ∧ (x34 ≠ 0 → (-2147483648 ≤ 800 * (m34 124 8) ∧ 800 * (m34 124 8) < 2147483648) ∧ ((x34 = 0 → (0 ≤ (m34 124 8) ∧ (m34 124 8) < 2) ∧ wp cs mX12_rule KD Q 89 [some (vR 124), some (vI l1), some (vI l2), some (vI x1), some (vI (m1 124 51)), some (vI x34), none] [vI (m34 154 (m34 124 8).toNat), vI (800 * (m34 124 8))] (KD, m34, n34, (GR d e nw th x))) ∧ (x34 ≠ 0 → wp cs mX12_rule KD Q 89 [some (vR 124), some (vI l1), some (vI l2), some (vI x1), some (vI (m1 124 51)), some (vI x34), none] [vI 799, vI (800 * (m34 124 8))] (KD, m34, n34, (GR d e nw th x))))))) 0 (padL [vR 124, vI l1, vI l2, vI ((6000 * (m12 124 8)) + x1), vI (m1 124 51)] 7) [] (KD, m12, n12, (GR d e nw th x))))) 0 (padL [vR 124] 1) [] (KD, m1, n1, (GR d e nw th x))) 0 (padL [vR 124] 2) [] (KD, MI, ML, (GR d e nw th x))) :
    wp cs mX12_rule KD Q 0 (padL [vR 124, vI l1, vI l2] 7) [] (KD, MI, ML, (GR d e nw th x)) := by
  refine wp_L (L' := [some (vR 124), some (vI l1), some (vI l2), none, none, none, none]) rfl ?_
  refine wp_aload_n dX12_rule_0 rfl rfl (by first | exact Or.inl (by decide) | exact Or.inl (by omega) | exact Or.inr (by decide) | exact Or.inr (by omega)) ?_
  refine wp_cVq (n := 0) (mt' := mX12_takeName) (as := []) (rest := []) _ dX12_rule_1 lX12_351 kX12_takeName vX12_takeName (by decide) (by decide +kernel) rfl (Nat.le_of_ble_eq_true rfl) (by decide) rfl rfl rfl (Nat.le_of_ble_eq_true rfl) (fun hM hS => h) (fun r M' hq hM => ?_)
  obtain ⟨x1, m1, n1, rfl, rfl, h⟩ := rI_out hq
  refine wp_istore_n dX12_rule_4 rfl (by decide) (wp_L (L' := [some (vR 124), some (vI l1), some (vI l2), some (vI x1), none, none, none]) rfl ?_)
  refine wp_aload_n dX12_rule_5 rfl rfl (by first | exact Or.inl (by decide) | exact Or.inl (by omega) | exact Or.inr (by decide) | exact Or.inr (by omega)) ?_
  refine wp_getI dX12_rule_6 fX12_306 rfl (by decide) ?_
  refine wp_istore dX12_rule_9 (by decide) (wp_L (L' := [some (vR 124), some (vI l1), some (vI l2), some (vI x1), some (vI (m1 124 51)), none, none]) rfl ?_)
  refine wp_aload_n dX12_rule_11 rfl rfl (by first | exact Or.inl (by decide) | exact Or.inl (by omega) | exact Or.inr (by decide) | exact Or.inr (by omega)) ?_
  refine wp_cVq (n := 0) (mt' := mX12_isGood) (as := []) (rest := []) _ dX12_rule_12 lX12_289 kX12_isGood vX12_isGood (by decide) (by decide +kernel) rfl (Nat.le_of_ble_eq_true rfl) (by decide) rfl rfl rfl (Nat.le_of_ble_eq_true rfl) (fun hM hS => h) (fun r M' hq hM => ?_)
  obtain ⟨x12, m12, n12, rfl, rfl, h⟩ := rI_out hq
  refine wp_if_ne (tgt := 19) dX12_rule_15 (by decide) (fun h15 => ?_) (fun h15 => ?_)
  · replace h := h.2 h15
    refine wp_aload_n dX12_rule_19 rfl rfl (by first | exact Or.inl (by decide) | exact Or.inl (by omega) | exact Or.inr (by decide) | exact Or.inr (by omega)) ?_
    refine wp_iload_n dX12_rule_20 rfl rfl ?_
    refine wp_iload_n dX12_rule_21 rfl rfl ?_
    refine wp_sipush dX12_rule_22 (by decide +kernel) (by decide) ?_
    refine wp_aload_n dX12_rule_25 rfl rfl (by first | exact Or.inl (by decide) | exact Or.inl (by omega) | exact Or.inr (by decide) | exact Or.inr (by omega)) ?_
    refine wp_getI dX12_rule_26 fX12_328 rfl (by decide) ?_
    have c0 := h.1
    replace h := h.2
    refine wp_imulr dX12_rule_29 c0 ?_
    refine wp_pc (pc' := 30) rfl ?_
    refine wp_iload_n dX12_rule_30 rfl rfl ?_
    have c1 := h.1
    replace h := h.2
    refine wp_iaddr dX12_rule_31 c1 ?_
    refine wp_iload dX12_rule_32 rfl ?_
    refine wp_cVq (n := 4) (mt' := mX12_hasRule) (as := [vI l1, vI l2, vI ((6000 * (m12 124 8)) + x1), vI (m1 124 51)]) (rest := []) _ dX12_rule_34 lX12_419 kX12_hasRule vX12_hasRule (by decide) (by decide +kernel) rfl (Nat.le_of_ble_eq_true rfl) (by decide) rfl rfl rfl (Nat.le_of_ble_eq_true rfl) (fun hM hS => h) (fun r M' hq hM => ?_)
    obtain ⟨x34, m34, n34, rfl, rfl, h⟩ := rI_out hq
    refine wp_istore dX12_rule_37 (by decide) (wp_L (L' := [some (vR 124), some (vI l1), some (vI l2), some (vI x1), some (vI (m1 124 51)), some (vI x34), none]) rfl ?_)
    refine wp_iload dX12_rule_39 rfl ?_
    refine wp_if_ne (tgt := 61) dX12_rule_41 (by decide) (fun h41 => ?_) (fun h41 => ?_)
    · replace h := h.2 h41
      refine wp_sipush dX12_rule_61 (by decide +kernel) (by decide) ?_
      refine wp_aload_n dX12_rule_64 rfl rfl (by first | exact Or.inl (by decide) | exact Or.inl (by omega) | exact Or.inr (by decide) | exact Or.inr (by omega)) ?_
      refine wp_getI dX12_rule_65 fX12_328 rfl (by decide) ?_
      have c2 := h.1
      replace h := h.2
      refine wp_imulr dX12_rule_68 c2 ?_
      refine wp_iload dX12_rule_69 rfl ?_
      refine wp_if_eq (tgt := 80) dX12_rule_71 (by decide) (fun h71 => ?_) (fun h71 => ?_)
      · replace h := h.1 h71
        refine wp_aload_n dX12_rule_80 rfl rfl (by first | exact Or.inl (by decide) | exact Or.inl (by omega) | exact Or.inr (by decide) | exact Or.inr (by omega)) ?_
        refine wp_getR dX12_rule_81 fX12_104 rfl (by decide) ?_
        refine wp_topR (x' := 154) rfl ?_
        refine wp_aload_n dX12_rule_84 rfl rfl (by first | exact Or.inl (by decide) | exact Or.inl (by omega) | exact Or.inr (by decide) | exact Or.inr (by omega)) ?_
        refine wp_getI dX12_rule_85 fX12_328 rfl (by decide) ?_
        have c3 := h.1
        replace h := h.2
        refine wp_iald dX12_rule_88 rfl (by decide) c3 ?_
        exact h
      · replace h := h.2 h71
        refine wp_sipush dX12_rule_74 (by decide +kernel) (by decide) ?_
        refine wp_goto (tgt := 89) dX12_rule_77 (by decide) ?_
        exact h
    · replace h := h.1 h41
      refine wp_aload_n dX12_rule_44 rfl rfl (by first | exact Or.inl (by decide) | exact Or.inl (by omega) | exact Or.inr (by decide) | exact Or.inr (by omega)) ?_
      refine wp_getI dX12_rule_45 fX12_409 rfl (by decide) ?_
      refine wp_bipush dX12_rule_48 (by decide +kernel) (by decide) ?_
      refine wp_icmp_ne (tgt := 61) dX12_rule_50 (by decide) (fun h50 => ?_) (fun h50 => ?_)
      · replace h := h.2 h50
        refine wp_sipush dX12_rule_61 (by decide +kernel) (by decide) ?_
        refine wp_aload_n dX12_rule_64 rfl rfl (by first | exact Or.inl (by decide) | exact Or.inl (by omega) | exact Or.inr (by decide) | exact Or.inr (by omega)) ?_
        refine wp_getI dX12_rule_65 fX12_328 rfl (by decide) ?_
        have c2 := h.1
        replace h := h.2
        refine wp_imulr dX12_rule_68 c2 ?_
        refine wp_iload dX12_rule_69 rfl ?_
        refine wp_if_eq (tgt := 80) dX12_rule_71 (by decide) (fun h71 => ?_) (fun h71 => ?_)
        · replace h := h.1 h71
          refine wp_aload_n dX12_rule_80 rfl rfl (by first | exact Or.inl (by decide) | exact Or.inl (by omega) | exact Or.inr (by decide) | exact Or.inr (by omega)) ?_
          refine wp_getR dX12_rule_81 fX12_104 rfl (by decide) ?_
          refine wp_topR (x' := 154) rfl ?_
          refine wp_aload_n dX12_rule_84 rfl rfl (by first | exact Or.inl (by decide) | exact Or.inl (by omega) | exact Or.inr (by decide) | exact Or.inr (by omega)) ?_
          refine wp_getI dX12_rule_85 fX12_328 rfl (by decide) ?_
          have c3 := h.1
          replace h := h.2
          refine wp_iald dX12_rule_88 rfl (by decide) c3 ?_
          exact h
        · replace h := h.2 h71
          refine wp_sipush dX12_rule_74 (by decide +kernel) (by decide) ?_
          refine wp_goto (tgt := 89) dX12_rule_77 (by decide) ?_
          exact h
      · replace h := h.1 h50
        refine wp_aload_n dX12_rule_53 rfl rfl (by first | exact Or.inl (by decide) | exact Or.inl (by omega) | exact Or.inr (by decide) | exact Or.inr (by omega)) ?_
        refine wp_bipush dX12_rule_54 (by decide +kernel) (by decide) ?_
        refine wp_iload_n dX12_rule_56 rfl rfl ?_
        refine wp_cVq (n := 2) (mt' := mX12_fail) (as := [vI (-3), vI x1]) (rest := []) _ dX12_rule_57 lX12_293 kX12_fail vX12_fail (by decide) (by decide +kernel) rfl (Nat.le_of_ble_eq_true rfl) (by decide) rfl rfl rfl (Nat.le_of_ble_eq_true rfl) (fun hM hS => h) (fun r M' hq hM => ?_)
        obtain ⟨m57, n57, rfl, rfl, h⟩ := rV_out hq
        exact wp_vret dX12_rule_60 rfl (fun _ => h)
  · replace h := h.1 h15
    exact wp_vret dX12_rule_18 rfl (fun _ => h)
theorem v_X12_rule_89 {cs : Cs} {Q : Option AV → Mm → Prop} {MI ML : Nat → Nat → Int} {d e nw th x : Nat} {l1 l2 l3 l4 l5 s0 s1 : Int}
    (h : (-2147483648 ≤ s1 + s0 ∧ s1 + s0 < 2147483648) ∧ (0 ≤ (s1 + s0) ∧ (s1 + s0) < 1600) ∧ ∀ m99, m99 = up2 MI 155 (s1 + s0).toNat l1 → ∀ m107, m107 = up2 m99 156 (s1 + s0).toNat l2 → (-2147483648 ≤ 6000 * (m107 124 8) ∧ 6000 * (m107 124 8) < 2147483648) ∧ (-2147483648 ≤ (6000 * (m107 124 8)) + l3 ∧ (6000 * (m107 124 8)) + l3 < 2147483648) ∧ ∀ m124, m124 = up2 m107 157 (s1 + s0).toNat ((6000 * (m107 124 8)) + l3) → ∀ m133, m133 = up2 m124 158 (s1 + s0).toNat l4 → ∀ m141, m141 = up2 m133 163 (s1 + s0).toNat 0 → wp cs mX12_mustS KD (rV (GR d e nw th x) fun m143 n143 => wp cs mX12_isGood KD (rI (GR d e nw th x) fun x147 m147 n147 => ((x147 = 0 → wp cs mX12_rule KD Q 185 [some (vR 124), some (vI l1), some (vI l2), some (vI l3), some (vI l4), some (vI l5), some (vI (s1 + s0))] [] (KD, m147, n147, (GR d e nw th x))) ∧ (x147 ≠ 0 → wp cs mX12_stands KD (rI (GR d e nw th x) fun x158 m158 n158 => ((x158 = 0 → wp cs mX12_rule KD Q 185 [some (vR 124), some (vI l1), some (vI l2), some (vI l3), some (vI l4), some (vI l5), some (vI (s1 + s0))] [] (KD, m158, n158, (GR d e nw th x))) ∧ (x158 ≠ 0 → (-2147483648 ≤ (m158 124 4) + 5 ∧ (m158 124 4) + 5 < 2147483648) ∧ ∀ m171, m171 = up2 m158 124 4 ((m158 124 4) + 5) → ∀ m181, m181 = up2 m171 159 (s1 + s0).toNat 0 → wp cs mX12_rule KD Q 247 [some (vR 124), some (vI l1), some (vI l2), some (vI l3), some (vI l4), some (vI l5), some (vI (s1 + s0))] [] (KD, m181, n158, (GR d e nw th x))))) 0 (padL [vR 124, vL 288907940929, vI 5] 6) [] (KD, m147, n147, (GR d e nw th x))))) 0 (padL [vR 124] 1) [] (KD, m143, n143, (GR d e nw th x))) 0 (padL [vR 124] 1) [] (KD, m141, ML, (GR d e nw th x))) :
    wp cs mX12_rule KD Q 89 [some (vR 124), some (vI l1), some (vI l2), some (vI l3), some (vI l4), some (vI l5), none] [vI s0, vI s1] (KD, MI, ML, (GR d e nw th x)) := by
  have c0 := h.1
  replace h := h.2
  refine wp_iaddr dX12_rule_89 c0 ?_
  refine wp_istore dX12_rule_90 (by decide) (wp_L (L' := [some (vR 124), some (vI l1), some (vI l2), some (vI l3), some (vI l4), some (vI l5), some (vI (s1 + s0))]) rfl ?_)
  refine wp_aload_n dX12_rule_92 rfl rfl (by first | exact Or.inl (by decide) | exact Or.inl (by omega) | exact Or.inr (by decide) | exact Or.inr (by omega)) ?_
  refine wp_getR dX12_rule_93 fX12_107 rfl (by decide) ?_
  refine wp_topR (x' := 155) rfl ?_
  refine wp_iload dX12_rule_96 rfl ?_
  refine wp_iload_n dX12_rule_98 rfl rfl ?_
  have c1 := h.1
  replace h := h.2
  refine wp_iast dX12_rule_99 rfl (by decide) c1 ?_
  refine wp_gI (fun m99 e99 => ?_)
  replace h := h m99 e99
  refine wp_pc (pc' := 100) rfl ?_
  refine wp_aload_n dX12_rule_100 rfl rfl (by first | exact Or.inl (by decide) | exact Or.inl (by omega) | exact Or.inr (by decide) | exact Or.inr (by omega)) ?_
  refine wp_getR dX12_rule_101 fX12_110 rfl (by decide) ?_
  refine wp_topR (x' := 156) rfl ?_
  refine wp_iload dX12_rule_104 rfl ?_
  refine wp_iload_n dX12_rule_106 rfl rfl ?_
  refine wp_iast dX12_rule_107 rfl (by decide) c1 ?_
  refine wp_gI (fun m107 e107 => ?_)
  replace h := h m107 e107
  refine wp_aload_n dX12_rule_108 rfl rfl (by first | exact Or.inl (by decide) | exact Or.inl (by omega) | exact Or.inr (by decide) | exact Or.inr (by omega)) ?_
  refine wp_getR dX12_rule_109 fX12_113 rfl (by decide) ?_
  refine wp_topR (x' := 157) rfl ?_
  refine wp_iload dX12_rule_112 rfl ?_
  refine wp_pc (pc' := 114) rfl ?_
  refine wp_sipush dX12_rule_114 (by decide +kernel) (by decide) ?_
  refine wp_aload_n dX12_rule_117 rfl rfl (by first | exact Or.inl (by decide) | exact Or.inl (by omega) | exact Or.inr (by decide) | exact Or.inr (by omega)) ?_
  refine wp_getI dX12_rule_118 fX12_328 rfl (by decide) ?_
  have c2 := h.1
  replace h := h.2
  refine wp_imulr dX12_rule_121 c2 ?_
  refine wp_iload_n dX12_rule_122 rfl rfl ?_
  have c3 := h.1
  replace h := h.2
  refine wp_iaddr dX12_rule_123 c3 ?_
  refine wp_iast dX12_rule_124 rfl (by decide) c1 ?_
  refine wp_gI (fun m124 e124 => ?_)
  replace h := h m124 e124
  refine wp_aload_n dX12_rule_125 rfl rfl (by first | exact Or.inl (by decide) | exact Or.inl (by omega) | exact Or.inr (by decide) | exact Or.inr (by omega)) ?_
  refine wp_pc (pc' := 126) rfl ?_
  refine wp_getR dX12_rule_126 fX12_116 rfl (by decide) ?_
  refine wp_topR (x' := 158) rfl ?_
  refine wp_iload dX12_rule_129 rfl ?_
  refine wp_iload dX12_rule_131 rfl ?_
  refine wp_iast dX12_rule_133 rfl (by decide) c1 ?_
  refine wp_gI (fun m133 e133 => ?_)
  replace h := h m133 e133
  refine wp_aload_n dX12_rule_134 rfl rfl (by first | exact Or.inl (by decide) | exact Or.inl (by omega) | exact Or.inr (by decide) | exact Or.inr (by omega)) ?_
  refine wp_getR dX12_rule_135 fX12_131 rfl (by decide) ?_
  refine wp_topR (x' := 163) rfl ?_
  refine wp_iload dX12_rule_138 rfl ?_
  refine wp_iconst dX12_rule_140 (by decide) ?_
  refine wp_pc (pc' := 141) rfl ?_
  refine wp_iast dX12_rule_141 rfl (by decide) c1 ?_
  refine wp_gI (fun m141 e141 => ?_)
  replace h := h m141 e141
  refine wp_aload_n dX12_rule_142 rfl rfl (by first | exact Or.inl (by decide) | exact Or.inl (by omega) | exact Or.inr (by decide) | exact Or.inr (by omega)) ?_
  refine wp_cVq (n := 0) (mt' := mX12_mustS) (as := []) (rest := []) _ dX12_rule_143 lX12_348 kX12_mustS vX12_mustS (by decide) (by decide +kernel) rfl (Nat.le_of_ble_eq_true rfl) (by decide) rfl rfl rfl (Nat.le_of_ble_eq_true rfl) (fun hM hS => h) (fun r M' hq hM => ?_)
  obtain ⟨m143, n143, rfl, rfl, h⟩ := rV_out hq
  refine wp_aload_n dX12_rule_146 rfl rfl (by first | exact Or.inl (by decide) | exact Or.inl (by omega) | exact Or.inr (by decide) | exact Or.inr (by omega)) ?_
  refine wp_cVq (n := 0) (mt' := mX12_isGood) (as := []) (rest := []) _ dX12_rule_147 lX12_289 kX12_isGood vX12_isGood (by decide) (by decide +kernel) rfl (Nat.le_of_ble_eq_true rfl) (by decide) rfl rfl rfl (Nat.le_of_ble_eq_true rfl) (fun hM hS => h) (fun r M' hq hM => ?_)
  obtain ⟨x147, m147, n147, rfl, rfl, h⟩ := rI_out hq
  refine wp_if_eq (tgt := 185) dX12_rule_150 (by decide) (fun h150 => ?_) (fun h150 => ?_)
  · replace h := h.1 h150
    exact h
  · replace h := h.2 h150
    refine wp_aload_n dX12_rule_153 rfl rfl (by first | exact Or.inl (by decide) | exact Or.inl (by omega) | exact Or.inr (by decide) | exact Or.inr (by omega)) ?_
    refine wp_ldc2 (x := 288907940929) dX12_rule_154 cX12_422 (by decide) ?_
    refine wp_iconst dX12_rule_157 (by decide) ?_
    refine wp_cVq (n := 2) (mt' := mX12_stands) (as := [vL 288907940929, vI 5]) (rest := []) _ dX12_rule_158 lX12_285 kX12_stands vX12_stands (by decide) (by decide +kernel) rfl (Nat.le_of_ble_eq_true rfl) (by decide) rfl rfl rfl (Nat.le_of_ble_eq_true rfl) (fun hM hS => h) (fun r M' hq hM => ?_)
    obtain ⟨x158, m158, n158, rfl, rfl, h⟩ := rI_out hq
    refine wp_if_eq (tgt := 185) dX12_rule_161 (by decide) (fun h161 => ?_) (fun h161 => ?_)
    · replace h := h.1 h161
      exact h
    · replace h := h.2 h161
      refine wp_aload_n dX12_rule_164 rfl rfl (by first | exact Or.inl (by decide) | exact Or.inl (by omega) | exact Or.inr (by decide) | exact Or.inr (by omega)) ?_
      refine wp_dup dX12_rule_165 (fun x e => by cases e) ?_
      refine wp_getI dX12_rule_166 fX12_276 rfl (by decide) ?_
      refine wp_iconst dX12_rule_169 (by decide) ?_
      have c4 := h.1
      replace h := h.2
      refine wp_iaddr dX12_rule_170 c4 ?_
      refine wp_putI dX12_rule_171 pX12_276 rfl (by decide) ?_
      refine wp_gI (fun m171 e171 => ?_)
      replace h := h m171 e171
      refine wp_aload_n dX12_rule_174 rfl rfl (by first | exact Or.inl (by decide) | exact Or.inl (by omega) | exact Or.inr (by decide) | exact Or.inr (by omega)) ?_
      refine wp_pc (pc' := 175) rfl ?_
      refine wp_getR dX12_rule_175 fX12_119 rfl (by decide) ?_
      refine wp_topR (x' := 159) rfl ?_
      refine wp_iload dX12_rule_178 rfl ?_
      refine wp_iconst dX12_rule_180 (by decide) ?_
      refine wp_iast dX12_rule_181 rfl (by decide) c1 ?_
      refine wp_gI (fun m181 e181 => ?_)
      replace h := h m181 e181
      refine wp_goto (tgt := 247) dX12_rule_182 (by decide) ?_
      exact h
theorem v_X12_rule_185 {cs : Cs} {Q : Option AV → Mm → Prop} {MI ML : Nat → Nat → Int} {d e nw th x : Nat} {l1 l2 l3 l4 l5 l6 : Int}
    (h : wp cs mX12_isGood KD (rI (GR d e nw th x) fun x186 m186 n186 => ((x186 = 0 → wp cs mX12_passes KD (rI (GR d e nw th x) fun x227 m227 n227 => ((x227 = 0 → wp cs mX12_rule KD Q 247 [some (vR 124), some (vI l1), some (vI l2), some (vI l3), some (vI l4), some (vI l5), some (vI l6)] [] (KD, m227, n227, (GR d e nw th x))) ∧ (x227 ≠ 0 → (0 ≤ l6 ∧ l6 < 1600) ∧ ∀ m240, m240 = up2 m227 159 l6.toNat 2 → wp cs mX12_tokens KD (rV (GR d e nw th x) fun m244 n244 => wp cs mX12_rule KD Q 247 [some (vR 124), some (vI l1), some (vI l2), some (vI l3), some (vI l4), some (vI l5), some (vI l6)] [] (KD, m244, n244, (GR d e nw th x))) 0 (padL [vR 124, vI l6] 5) [] (KD, m240, n227, (GR d e nw th x))))) 0 (padL [vR 124, vI 40] 2) [] (KD, m186, n186, (GR d e nw th x))) ∧ (x186 ≠ 0 → wp cs mX12_stands KD (rI (GR d e nw th x) fun x197 m197 n197 => ((x197 = 0 → wp cs mX12_passes KD (rI (GR d e nw th x) fun x227 m227 n227 => ((x227 = 0 → wp cs mX12_rule KD Q 247 [some (vR 124), some (vI l1), some (vI l2), some (vI l3), some (vI l4), some (vI l5), some (vI l6)] [] (KD, m227, n227, (GR d e nw th x))) ∧ (x227 ≠ 0 → (0 ≤ l6 ∧ l6 < 1600) ∧ ∀ m240, m240 = up2 m227 159 l6.toNat 2 → wp cs mX12_tokens KD (rV (GR d e nw th x) fun m244 n244 => wp cs mX12_rule KD Q 247 [some (vR 124), some (vI l1), some (vI l2), some (vI l3), some (vI l4), some (vI l5), some (vI l6)] [] (KD, m244, n244, (GR d e nw th x))) 0 (padL [vR 124, vI l6] 5) [] (KD, m240, n227, (GR d e nw th x))))) 0 (padL [vR 124, vI 40] 2) [] (KD, m197, n197, (GR d e nw th x))) ∧ (x197 ≠ 0 → (-2147483648 ≤ (m197 124 4) + 2 ∧ (m197 124 4) + 2 < 2147483648) ∧ ∀ m210, m210 = up2 m197 124 4 ((m197 124 4) + 2) → (0 ≤ l6 ∧ l6 < 1600) ∧ ∀ m220, m220 = up2 m210 159 l6.toNat 1 → wp cs mX12_rule KD Q 247 [some (vR 124), some (vI l1), some (vI l2), some (vI l3), some (vI l4), some (vI l5), some (vI l6)] [] (KD, m220, n197, (GR d e nw th x))))) 0 (padL [vR 124, vL 18756, vI 2] 6) [] (KD, m186, n186, (GR d e nw th x))))) 0 (padL [vR 124] 1) [] (KD, MI, ML, (GR d e nw th x))) :
    wp cs mX12_rule KD Q 185 [some (vR 124), some (vI l1), some (vI l2), some (vI l3), some (vI l4), some (vI l5), some (vI l6)] [] (KD, MI, ML, (GR d e nw th x)) := by
  refine wp_aload_n dX12_rule_185 rfl rfl (by first | exact Or.inl (by decide) | exact Or.inl (by omega) | exact Or.inr (by decide) | exact Or.inr (by omega)) ?_
  refine wp_cVq (n := 0) (mt' := mX12_isGood) (as := []) (rest := []) _ dX12_rule_186 lX12_289 kX12_isGood vX12_isGood (by decide) (by decide +kernel) rfl (Nat.le_of_ble_eq_true rfl) (by decide) rfl rfl rfl (Nat.le_of_ble_eq_true rfl) (fun hM hS => h) (fun r M' hq hM => ?_)
  obtain ⟨x186, m186, n186, rfl, rfl, h⟩ := rI_out hq
  refine wp_if_eq (tgt := 224) dX12_rule_189 (by decide) (fun h189 => ?_) (fun h189 => ?_)
  · replace h := h.1 h189
    refine wp_aload_n dX12_rule_224 rfl rfl (by first | exact Or.inl (by decide) | exact Or.inl (by omega) | exact Or.inr (by decide) | exact Or.inr (by omega)) ?_
    refine wp_bipush dX12_rule_225 (by decide +kernel) (by decide) ?_
    refine wp_cVq (n := 1) (mt' := mX12_passes) (as := [vI 40]) (rest := []) _ dX12_rule_227 lX12_340 kX12_passes vX12_passes (by decide) (by decide +kernel) rfl (Nat.le_of_ble_eq_true rfl) (by decide) rfl rfl rfl (Nat.le_of_ble_eq_true rfl) (fun hM hS => h) (fun r M' hq hM => ?_)
    obtain ⟨x227, m227, n227, rfl, rfl, h⟩ := rI_out hq
    refine wp_if_eq (tgt := 247) dX12_rule_230 (by decide) (fun h230 => ?_) (fun h230 => ?_)
    · replace h := h.1 h230
      exact h
    · replace h := h.2 h230
      refine wp_aload_n dX12_rule_233 rfl rfl (by first | exact Or.inl (by decide) | exact Or.inl (by omega) | exact Or.inr (by decide) | exact Or.inr (by omega)) ?_
      refine wp_getR dX12_rule_234 fX12_119 rfl (by decide) ?_
      refine wp_topR (x' := 159) rfl ?_
      refine wp_iload dX12_rule_237 rfl ?_
      refine wp_iconst dX12_rule_239 (by decide) ?_
      have c0 := h.1
      replace h := h.2
      refine wp_iast dX12_rule_240 rfl (by decide) c0 ?_
      refine wp_gI (fun m240 e240 => ?_)
      replace h := h m240 e240
      refine wp_aload_n dX12_rule_241 rfl rfl (by first | exact Or.inl (by decide) | exact Or.inl (by omega) | exact Or.inr (by decide) | exact Or.inr (by omega)) ?_
      refine wp_iload dX12_rule_242 rfl ?_
      refine wp_pc (pc' := 244) rfl ?_
      refine wp_cVq (n := 1) (mt' := mX12_tokens) (as := [vI l6]) (rest := []) _ dX12_rule_244 lX12_426 kX12_tokens vX12_tokens (by decide) (by decide +kernel) rfl (Nat.le_of_ble_eq_true rfl) (by decide) rfl rfl rfl (Nat.le_of_ble_eq_true rfl) (fun hM hS => h) (fun r M' hq hM => ?_)
      obtain ⟨m244, n244, rfl, rfl, h⟩ := rV_out hq
      exact h
  · replace h := h.2 h189
    refine wp_aload_n dX12_rule_192 rfl rfl (by first | exact Or.inl (by decide) | exact Or.inl (by omega) | exact Or.inr (by decide) | exact Or.inr (by omega)) ?_
    refine wp_ldc2 (x := 18756) dX12_rule_193 cX12_424 (by decide) ?_
    refine wp_iconst dX12_rule_196 (by decide) ?_
    refine wp_cVq (n := 2) (mt' := mX12_stands) (as := [vL 18756, vI 2]) (rest := []) _ dX12_rule_197 lX12_285 kX12_stands vX12_stands (by decide) (by decide +kernel) rfl (Nat.le_of_ble_eq_true rfl) (by decide) rfl rfl rfl (Nat.le_of_ble_eq_true rfl) (fun hM hS => h) (fun r M' hq hM => ?_)
    obtain ⟨x197, m197, n197, rfl, rfl, h⟩ := rI_out hq
    refine wp_if_eq (tgt := 224) dX12_rule_200 (by decide) (fun h200 => ?_) (fun h200 => ?_)
    · replace h := h.1 h200
      refine wp_aload_n dX12_rule_224 rfl rfl (by first | exact Or.inl (by decide) | exact Or.inl (by omega) | exact Or.inr (by decide) | exact Or.inr (by omega)) ?_
      refine wp_bipush dX12_rule_225 (by decide +kernel) (by decide) ?_
      refine wp_cVq (n := 1) (mt' := mX12_passes) (as := [vI 40]) (rest := []) _ dX12_rule_227 lX12_340 kX12_passes vX12_passes (by decide) (by decide +kernel) rfl (Nat.le_of_ble_eq_true rfl) (by decide) rfl rfl rfl (Nat.le_of_ble_eq_true rfl) (fun hM hS => h) (fun r M' hq hM => ?_)
      obtain ⟨x227, m227, n227, rfl, rfl, h⟩ := rI_out hq
      refine wp_if_eq (tgt := 247) dX12_rule_230 (by decide) (fun h230 => ?_) (fun h230 => ?_)
      · replace h := h.1 h230
        exact h
      · replace h := h.2 h230
        refine wp_aload_n dX12_rule_233 rfl rfl (by first | exact Or.inl (by decide) | exact Or.inl (by omega) | exact Or.inr (by decide) | exact Or.inr (by omega)) ?_
        refine wp_getR dX12_rule_234 fX12_119 rfl (by decide) ?_
        refine wp_topR (x' := 159) rfl ?_
        refine wp_iload dX12_rule_237 rfl ?_
        refine wp_iconst dX12_rule_239 (by decide) ?_
        have c0 := h.1
        replace h := h.2
        refine wp_iast dX12_rule_240 rfl (by decide) c0 ?_
        refine wp_gI (fun m240 e240 => ?_)
        replace h := h m240 e240
        refine wp_aload_n dX12_rule_241 rfl rfl (by first | exact Or.inl (by decide) | exact Or.inl (by omega) | exact Or.inr (by decide) | exact Or.inr (by omega)) ?_
        refine wp_iload dX12_rule_242 rfl ?_
        refine wp_pc (pc' := 244) rfl ?_
        refine wp_cVq (n := 1) (mt' := mX12_tokens) (as := [vI l6]) (rest := []) _ dX12_rule_244 lX12_426 kX12_tokens vX12_tokens (by decide) (by decide +kernel) rfl (Nat.le_of_ble_eq_true rfl) (by decide) rfl rfl rfl (Nat.le_of_ble_eq_true rfl) (fun hM hS => h) (fun r M' hq hM => ?_)
        obtain ⟨m244, n244, rfl, rfl, h⟩ := rV_out hq
        exact h
    · replace h := h.2 h200
      refine wp_aload_n dX12_rule_203 rfl rfl (by first | exact Or.inl (by decide) | exact Or.inl (by omega) | exact Or.inr (by decide) | exact Or.inr (by omega)) ?_
      refine wp_dup dX12_rule_204 (fun x e => by cases e) ?_
      refine wp_getI dX12_rule_205 fX12_276 rfl (by decide) ?_
      refine wp_iconst dX12_rule_208 (by decide) ?_
      have c0 := h.1
      replace h := h.2
      refine wp_iaddr dX12_rule_209 c0 ?_
      refine wp_putI dX12_rule_210 pX12_276 rfl (by decide) ?_
      refine wp_gI (fun m210 e210 => ?_)
      replace h := h m210 e210
      refine wp_aload_n dX12_rule_213 rfl rfl (by first | exact Or.inl (by decide) | exact Or.inl (by omega) | exact Or.inr (by decide) | exact Or.inr (by omega)) ?_
      refine wp_pc (pc' := 214) rfl ?_
      refine wp_getR dX12_rule_214 fX12_119 rfl (by decide) ?_
      refine wp_topR (x' := 159) rfl ?_
      refine wp_iload dX12_rule_217 rfl ?_
      refine wp_iconst dX12_rule_219 (by decide) ?_
      have c1 := h.1
      replace h := h.2
      refine wp_iast dX12_rule_220 rfl (by decide) c1 ?_
      refine wp_gI (fun m220 e220 => ?_)
      replace h := h m220 e220
      refine wp_goto (tgt := 247) dX12_rule_221 (by decide) ?_
      exact h
theorem v_X12_rule_247 {cs : Cs} {Q : Option AV → Mm → Prop} {MI ML : Nat → Nat → Int} {d e nw th x : Nat} {l1 l2 l3 l4 l5 l6 : Int}
    (h : wp cs mX12_mustS KD (rV (GR d e nw th x) fun m248 n248 => wp cs mX12_defaults KD (rV (GR d e nw th x) fun m254 n254 => wp cs mX12_isGood KD (rI (GR d e nw th x) fun x258 m258 n258 => ((x258 = 0 → Q none (m258, n258, (GR d e nw th x))) ∧ (x258 ≠ 0 → ((l5 = 0 → (-2147483648 ≤ 850 * (m258 124 8) ∧ 850 * (m258 124 8) < 2147483648) ∧ (0 ≤ (m258 124 8) ∧ (m258 124 8) < 2) ∧ (-2147483648 ≤ (850 * (m258 124 8)) + (m258 167 (m258 124 8).toNat) ∧ (850 * (m258 124 8)) + (m258 167 (m258 124 8).toNat) < 2147483648) ∧ (-2147483648 ≤ 2 * (m258 154 (m258 124 8).toNat) ∧ 2 * (m258 154 (m258 124 8).toNat) < 2147483648) ∧ (-2147483648 ≤ (2 * (m258 154 (m258 124 8).toNat)) + 1 ∧ (2 * (m258 154 (m258 124 8).toNat)) + 1 < 2147483648) ∧ (0 ≤ ((850 * (m258 124 8)) + (m258 167 (m258 124 8).toNat)) ∧ ((850 * (m258 124 8)) + (m258 167 (m258 124 8).toNat)) < 1700) ∧ ∀ m304, m304 = up2 m258 166 ((850 * (m258 124 8)) + (m258 167 (m258 124 8).toNat)).toNat ((2 * (m258 154 (m258 124 8).toNat)) + 1) → (0 ≤ (m304 124 8) ∧ (m304 124 8) < 2) ∧ (-2147483648 ≤ (m304 167 (m304 124 8).toNat) + 1 ∧ (m304 167 (m304 124 8).toNat) + 1 < 2147483648) ∧ ∀ m317, m317 = up2 m304 167 (m304 124 8).toNat ((m304 167 (m304 124 8).toNat) + 1) → (0 ≤ (m317 124 8) ∧ (m317 124 8) < 2) ∧ (-2147483648 ≤ (m317 154 (m317 124 8).toNat) + 1 ∧ (m317 154 (m317 124 8).toNat) + 1 < 2147483648) ∧ ∀ m330, m330 = up2 m317 154 (m317 124 8).toNat ((m317 154 (m317 124 8).toNat) + 1) → Q none (m330, n258, (GR d e nw th x))) ∧ (l5 ≠ 0 → Q none (m258, n258, (GR d e nw th x))))))) 0 (padL [vR 124] 1) [] (KD, m254, n254, (GR d e nw th x))) 0 (padL [vR 124, vI l6] 2) [] (KD, m248, n248, (GR d e nw th x))) 0 (padL [vR 124] 1) [] (KD, MI, ML, (GR d e nw th x))) :
    wp cs mX12_rule KD Q 247 [some (vR 124), some (vI l1), some (vI l2), some (vI l3), some (vI l4), some (vI l5), some (vI l6)] [] (KD, MI, ML, (GR d e nw th x)) := by
  refine wp_aload_n dX12_rule_247 rfl rfl (by first | exact Or.inl (by decide) | exact Or.inl (by omega) | exact Or.inr (by decide) | exact Or.inr (by omega)) ?_
  refine wp_cVq (n := 0) (mt' := mX12_mustS) (as := []) (rest := []) _ dX12_rule_248 lX12_348 kX12_mustS vX12_mustS (by decide) (by decide +kernel) rfl (Nat.le_of_ble_eq_true rfl) (by decide) rfl rfl rfl (Nat.le_of_ble_eq_true rfl) (fun hM hS => h) (fun r M' hq hM => ?_)
  obtain ⟨m248, n248, rfl, rfl, h⟩ := rV_out hq
  refine wp_aload_n dX12_rule_251 rfl rfl (by first | exact Or.inl (by decide) | exact Or.inl (by omega) | exact Or.inr (by decide) | exact Or.inr (by omega)) ?_
  refine wp_iload dX12_rule_252 rfl ?_
  refine wp_cVq (n := 1) (mt' := mX12_defaults) (as := [vI l6]) (rest := []) _ dX12_rule_254 lX12_429 kX12_defaults vX12_defaults (by decide) (by decide +kernel) rfl (Nat.le_of_ble_eq_true rfl) (by decide) rfl rfl rfl (Nat.le_of_ble_eq_true rfl) (fun hM hS => h) (fun r M' hq hM => ?_)
  obtain ⟨m254, n254, rfl, rfl, h⟩ := rV_out hq
  refine wp_aload_n dX12_rule_257 rfl rfl (by first | exact Or.inl (by decide) | exact Or.inl (by omega) | exact Or.inr (by decide) | exact Or.inr (by omega)) ?_
  refine wp_cVq (n := 0) (mt' := mX12_isGood) (as := []) (rest := []) _ dX12_rule_258 lX12_289 kX12_isGood vX12_isGood (by decide) (by decide +kernel) rfl (Nat.le_of_ble_eq_true rfl) (by decide) rfl rfl rfl (Nat.le_of_ble_eq_true rfl) (fun hM hS => h) (fun r M' hq hM => ?_)
  obtain ⟨x258, m258, n258, rfl, rfl, h⟩ := rI_out hq
  refine wp_if_eq (tgt := 331) dX12_rule_261 (by decide) (fun h261 => ?_) (fun h261 => ?_)
  · replace h := h.1 h261
    exact wp_vret dX12_rule_331 rfl (fun _ => h)
  · replace h := h.2 h261
    refine wp_iload dX12_rule_264 rfl ?_
    refine wp_if_ne (tgt := 331) dX12_rule_266 (by decide) (fun h266 => ?_) (fun h266 => ?_)
    · replace h := h.2 h266
      exact wp_vret dX12_rule_331 rfl (fun _ => h)
    · replace h := h.1 h266
      refine wp_aload_n dX12_rule_269 rfl rfl (by first | exact Or.inl (by decide) | exact Or.inl (by omega) | exact Or.inr (by decide) | exact Or.inr (by omega)) ?_
      refine wp_getR dX12_rule_270 fX12_140 rfl (by decide) ?_
      refine wp_topR (x' := 166) rfl ?_
      refine wp_sipush dX12_rule_273 (by decide +kernel) (by decide) ?_
      refine wp_aload_n dX12_rule_276 rfl rfl (by first | exact Or.inl (by decide) | exact Or.inl (by omega) | exact Or.inr (by decide) | exact Or.inr (by omega)) ?_
      refine wp_getI dX12_rule_277 fX12_328 rfl (by decide) ?_
      have c0 := h.1
      replace h := h.2
      refine wp_imulr dX12_rule_280 c0 ?_
      refine wp_aload_n dX12_rule_281 rfl rfl (by first | exact Or.inl (by decide) | exact Or.inl (by omega) | exact Or.inr (by decide) | exact Or.inr (by omega)) ?_
      refine wp_pc (pc' := 282) rfl ?_
      refine wp_getR dX12_rule_282 fX12_143 rfl (by decide) ?_
      refine wp_topR (x' := 167) rfl ?_
      refine wp_aload_n dX12_rule_285 rfl rfl (by first | exact Or.inl (by decide) | exact Or.inl (by omega) | exact Or.inr (by decide) | exact Or.inr (by omega)) ?_
      refine wp_getI dX12_rule_286 fX12_328 rfl (by decide) ?_
      have c1 := h.1
      replace h := h.2
      refine wp_iald dX12_rule_289 rfl (by decide) c1 ?_
      have c2 := h.1
      replace h := h.2
      refine wp_iaddr dX12_rule_290 c2 ?_
      refine wp_iconst dX12_rule_291 (by decide) ?_
      refine wp_aload_n dX12_rule_292 rfl rfl (by first | exact Or.inl (by decide) | exact Or.inl (by omega) | exact Or.inr (by decide) | exact Or.inr (by omega)) ?_
      refine wp_getR dX12_rule_293 fX12_104 rfl (by decide) ?_
      refine wp_topR (x' := 154) rfl ?_
      refine wp_pc (pc' := 296) rfl ?_
      refine wp_aload_n dX12_rule_296 rfl rfl (by first | exact Or.inl (by decide) | exact Or.inl (by omega) | exact Or.inr (by decide) | exact Or.inr (by omega)) ?_
      refine wp_getI dX12_rule_297 fX12_328 rfl (by decide) ?_
      refine wp_iald dX12_rule_300 rfl (by decide) c1 ?_
      have c3 := h.1
      replace h := h.2
      refine wp_imulr dX12_rule_301 c3 ?_
      refine wp_iconst dX12_rule_302 (by decide) ?_
      have c4 := h.1
      replace h := h.2
      refine wp_iaddr dX12_rule_303 c4 ?_
      have c5 := h.1
      replace h := h.2
      refine wp_iast dX12_rule_304 rfl (by decide) c5 ?_
      refine wp_gI (fun m304 e304 => ?_)
      replace h := h m304 e304
      refine wp_aload_n dX12_rule_305 rfl rfl (by first | exact Or.inl (by decide) | exact Or.inl (by omega) | exact Or.inr (by decide) | exact Or.inr (by omega)) ?_
      refine wp_pc (pc' := 306) rfl ?_
      refine wp_getR dX12_rule_306 fX12_143 rfl (by decide) ?_
      refine wp_topR (x' := 167) rfl ?_
      refine wp_aload_n dX12_rule_309 rfl rfl (by first | exact Or.inl (by decide) | exact Or.inl (by omega) | exact Or.inr (by decide) | exact Or.inr (by omega)) ?_
      refine wp_getI dX12_rule_310 fX12_328 rfl (by decide) ?_
      refine wp_dup2 dX12_rule_313 (fun x e => by cases e) (fun x e => by cases e) ?_
      have c6 := h.1
      replace h := h.2
      refine wp_iald dX12_rule_314 rfl (by decide) c6 ?_
      refine wp_iconst dX12_rule_315 (by decide) ?_
      have c7 := h.1
      replace h := h.2
      refine wp_iaddr dX12_rule_316 c7 ?_
      refine wp_iast dX12_rule_317 rfl (by decide) c6 ?_
      refine wp_gI (fun m317 e317 => ?_)
      replace h := h m317 e317
      refine wp_pc (pc' := 318) rfl ?_
      refine wp_aload_n dX12_rule_318 rfl rfl (by first | exact Or.inl (by decide) | exact Or.inl (by omega) | exact Or.inr (by decide) | exact Or.inr (by omega)) ?_
      refine wp_getR dX12_rule_319 fX12_104 rfl (by decide) ?_
      refine wp_topR (x' := 154) rfl ?_
      refine wp_aload_n dX12_rule_322 rfl rfl (by first | exact Or.inl (by decide) | exact Or.inl (by omega) | exact Or.inr (by decide) | exact Or.inr (by omega)) ?_
      refine wp_getI dX12_rule_323 fX12_328 rfl (by decide) ?_
      refine wp_dup2 dX12_rule_326 (fun x e => by cases e) (fun x e => by cases e) ?_
      have c8 := h.1
      replace h := h.2
      refine wp_iald dX12_rule_327 rfl (by decide) c8 ?_
      refine wp_iconst dX12_rule_328 (by decide) ?_
      have c9 := h.1
      replace h := h.2
      refine wp_iaddr dX12_rule_329 c9 ?_
      refine wp_pc (pc' := 330) rfl ?_
      refine wp_iast dX12_rule_330 rfl (by decide) c8 ?_
      refine wp_gI (fun m330 e330 => ?_)
      replace h := h m330 e330
      exact wp_vret dX12_rule_331 rfl (fun _ => h)
theorem dX12_attributeList_0 : decode cX12_attributeList 0 = .ok (.aload_n 0, 1) := by decide +kernel
theorem dX12_attributeList_1 : decode cX12_attributeList 1 = .ok (.dup, 1) := by decide +kernel
theorem dX12_attributeList_2 : decode cX12_attributeList 2 = .ok (.getfield 276, 3) := by decide +kernel
theorem dX12_attributeList_5 : decode cX12_attributeList 5 = .ok (.bipush 9, 2) := by decide +kernel
theorem dX12_attributeList_7 : decode cX12_attributeList 7 = .ok (.iadd, 1) := by decide +kernel
theorem dX12_attributeList_8 : decode cX12_attributeList 8 = .ok (.putfield 276, 3) := by decide +kernel
theorem dX12_attributeList_11 : decode cX12_attributeList 11 = .ok (.aload_n 0, 1) := by decide +kernel
theorem dX12_attributeList_12 : decode cX12_attributeList 12 = .ok (.invokevirtual 348, 3) := by decide +kernel
theorem dX12_attributeList_15 : decode cX12_attributeList 15 = .ok (.sipush 6000, 3) := by decide +kernel
theorem dX12_attributeList_18 : decode cX12_attributeList 18 = .ok (.aload_n 0, 1) := by decide +kernel
theorem dX12_attributeList_19 : decode cX12_attributeList 19 = .ok (.getfield 328, 3) := by decide +kernel
theorem dX12_attributeList_22 : decode cX12_attributeList 22 = .ok (.imul, 1) := by decide +kernel
theorem dX12_attributeList_23 : decode cX12_attributeList 23 = .ok (.aload_n 0, 1) := by decide +kernel
theorem dX12_attributeList_24 : decode cX12_attributeList 24 = .ok (.invokevirtual 351, 3) := by decide +kernel
theorem dX12_attributeList_27 : decode cX12_attributeList 27 = .ok (.iadd, 1) := by decide +kernel
theorem dX12_attributeList_28 : decode cX12_attributeList 28 = .ok (.istore_n 1, 1) := by decide +kernel
theorem dX12_attributeList_29 : decode cX12_attributeList 29 = .ok (.aload_n 0, 1) := by decide +kernel
theorem dX12_attributeList_30 : decode cX12_attributeList 30 = .ok (.getfield 306, 3) := by decide +kernel
theorem dX12_attributeList_33 : decode cX12_attributeList 33 = .ok (.istore_n 2, 1) := by decide +kernel
theorem dX12_attributeList_34 : decode cX12_attributeList 34 = .ok (.iconst 1, 1) := by decide +kernel
theorem dX12_attributeList_35 : decode cX12_attributeList 35 = .ok (.istore_n 3, 1) := by decide +kernel
theorem dX12_attributeList_36 : decode cX12_attributeList 36 = .ok (.aload_n 0, 1) := by decide +kernel
theorem dX12_attributeList_37 : decode cX12_attributeList 37 = .ok (.invokevirtual 289, 3) := by decide +kernel
theorem dX12_attributeList_40 : decode cX12_attributeList 40 = .ok (.ifCond .eq 59, 3) := by decide +kernel
theorem dX12_attributeList_43 : decode cX12_attributeList 43 = .ok (.iload_n 3, 1) := by decide +kernel
theorem dX12_attributeList_44 : decode cX12_attributeList 44 = .ok (.ifCond .eq 55, 3) := by decide +kernel
theorem dX12_attributeList_47 : decode cX12_attributeList 47 = .ok (.aload_n 0, 1) := by decide +kernel
theorem dX12_attributeList_48 : decode cX12_attributeList 48 = .ok (.getfield 276, 3) := by decide +kernel
theorem dX12_attributeList_51 : decode cX12_attributeList 51 = .ok (.istore 4, 2) := by decide +kernel
theorem dX12_attributeList_53 : decode cX12_attributeList 53 = .ok (.aload_n 0, 1) := by decide +kernel
theorem dX12_attributeList_54 : decode cX12_attributeList 54 = .ok (.invokevirtual 300, 3) := by decide +kernel
theorem dX12_attributeList_57 : decode cX12_attributeList 57 = .ok (.aload_n 0, 1) := by decide +kernel
theorem dX12_attributeList_58 : decode cX12_attributeList 58 = .ok (.getfield 276, 3) := by decide +kernel
theorem dX12_attributeList_61 : decode cX12_attributeList 61 = .ok (.iload 4, 2) := by decide +kernel
theorem dX12_attributeList_63 : decode cX12_attributeList 63 = .ok (.if_icmp .le 21, 3) := by decide +kernel
theorem dX12_attributeList_66 : decode cX12_attributeList 66 = .ok (.aload_n 0, 1) := by decide +kernel
theorem dX12_attributeList_67 : decode cX12_attributeList 67 = .ok (.aload_n 0, 1) := by decide +kernel
theorem dX12_attributeList_68 : decode cX12_attributeList 68 = .ok (.getfield 276, 3) := by decide +kernel
theorem dX12_attributeList_71 : decode cX12_attributeList 71 = .ok (.invokevirtual 279, 3) := by decide +kernel
theorem dX12_attributeList_74 : decode cX12_attributeList 74 = .ok (.invokestatic 268, 3) := by decide +kernel
theorem dX12_attributeList_77 : decode cX12_attributeList 77 = .ok (.ifCond .eq 7, 3) := by decide +kernel
theorem dX12_attributeList_80 : decode cX12_attributeList 80 = .ok (.iconst 1, 1) := by decide +kernel
theorem dX12_attributeList_81 : decode cX12_attributeList 81 = .ok (.goto 4, 3) := by decide +kernel
theorem dX12_attributeList_84 : decode cX12_attributeList 84 = .ok (.iconst 0, 1) := by decide +kernel
theorem dX12_attributeList_85 : decode cX12_attributeList 85 = .ok (.istore_n 3, 1) := by decide +kernel
theorem dX12_attributeList_86 : decode cX12_attributeList 86 = .ok (.iload_n 3, 1) := by decide +kernel
theorem dX12_attributeList_87 : decode cX12_attributeList 87 = .ok (.ifCond .eq 9, 3) := by decide +kernel
theorem dX12_attributeList_90 : decode cX12_attributeList 90 = .ok (.aload_n 0, 1) := by decide +kernel
theorem dX12_attributeList_91 : decode cX12_attributeList 91 = .ok (.iload_n 1, 1) := by decide +kernel
theorem dX12_attributeList_92 : decode cX12_attributeList 92 = .ok (.iload_n 2, 1) := by decide +kernel
theorem dX12_attributeList_93 : decode cX12_attributeList 93 = .ok (.invokevirtual 416, 3) := by decide +kernel
theorem dX12_attributeList_96 : decode cX12_attributeList 96 = .ok (.goto (-60), 3) := by decide +kernel
theorem dX12_attributeList_99 : decode cX12_attributeList 99 = .ok (.aload_n 0, 1) := by decide +kernel
theorem dX12_attributeList_100 : decode cX12_attributeList 100 = .ok (.invokevirtual 300, 3) := by decide +kernel
theorem dX12_attributeList_103 : decode cX12_attributeList 103 = .ok (.aload_n 0, 1) := by decide +kernel
theorem dX12_attributeList_104 : decode cX12_attributeList 104 = .ok (.bipush 62, 2) := by decide +kernel
theorem dX12_attributeList_106 : decode cX12_attributeList 106 = .ok (.invokevirtual 340, 3) := by decide +kernel
theorem dX12_attributeList_109 : decode cX12_attributeList 109 = .ok (.istore 4, 2) := by decide +kernel
theorem dX12_attributeList_111 : decode cX12_attributeList 111 = .ok (.return_, 1) := by decide +kernel
theorem v_X12_attributeList_0 {cs : Cs} {Q : Option AV → Mm → Prop} {MI ML : Nat → Nat → Int} {d e nw th x : Nat}
    (h : (-2147483648 ≤ (MI 124 4) + 9 ∧ (MI 124 4) + 9 < 2147483648) ∧ ∀ m8, m8 = up2 MI 124 4 ((MI 124 4) + 9) → wp cs mX12_mustS KD (rV (GR d e nw th x) fun m12 n12 => (-2147483648 ≤ 6000 * (m12 124 8) ∧ 6000 * (m12 124 8) < 2147483648) ∧ wp cs mX12_takeName KD (rI (GR d e nw th x) fun x24 m24 n24 => (-2147483648 ≤ (6000 * (m12 124 8)) + x24 ∧ (6000 * (m12 124 8)) + x24 < 2147483648) ∧ wp cs mX12_attributeList KD Q 36 [some (vR 124), some (vI ((6000 * (m12 124 8)) + x24)), some (vI (m24 124 51)), some (vI 1), none] [] (KD, m24, n24, (GR d e nw th x))) 0 (padL [vR 124] 2) [] (KD, m12, n12, (GR d e nw th x))) 0 (padL [vR 124] 1) [] (KD, m8, ML, (GR d e nw th x))) :
    wp cs mX12_attributeList KD Q 0 (padL [vR 124] 5) [] (KD, MI, ML, (GR d e nw th x)) := by
  refine wp_L (L' := [some (vR 124), none, none, none, none]) rfl ?_
  refine wp_aload_n dX12_attributeList_0 rfl rfl (by first | exact Or.inl (by decide) | exact Or.inl (by omega) | exact Or.inr (by decide) | exact Or.inr (by omega)) ?_
  refine wp_dup dX12_attributeList_1 (fun x e => by cases e) ?_
  refine wp_getI dX12_attributeList_2 fX12_276 rfl (by decide) ?_
  refine wp_bipush dX12_attributeList_5 (by decide +kernel) (by decide) ?_
  have c0 := h.1
  replace h := h.2
  refine wp_iaddr dX12_attributeList_7 c0 ?_
  refine wp_putI dX12_attributeList_8 pX12_276 rfl (by decide) ?_
  refine wp_gI (fun m8 e8 => ?_)
  replace h := h m8 e8
  refine wp_aload_n dX12_attributeList_11 rfl rfl (by first | exact Or.inl (by decide) | exact Or.inl (by omega) | exact Or.inr (by decide) | exact Or.inr (by omega)) ?_
  refine wp_pc (pc' := 12) rfl ?_
  refine wp_cVq (n := 0) (mt' := mX12_mustS) (as := []) (rest := []) _ dX12_attributeList_12 lX12_348 kX12_mustS vX12_mustS (by decide) (by decide +kernel) rfl (Nat.le_of_ble_eq_true rfl) (by decide) rfl rfl rfl (Nat.le_of_ble_eq_true rfl) (fun hM hS => h) (fun r M' hq hM => ?_)
  obtain ⟨m12, n12, rfl, rfl, h⟩ := rV_out hq
  refine wp_sipush dX12_attributeList_15 (by decide +kernel) (by decide) ?_
  refine wp_aload_n dX12_attributeList_18 rfl rfl (by first | exact Or.inl (by decide) | exact Or.inl (by omega) | exact Or.inr (by decide) | exact Or.inr (by omega)) ?_
  refine wp_getI dX12_attributeList_19 fX12_328 rfl (by decide) ?_
  have c1 := h.1
  replace h := h.2
  refine wp_imulr dX12_attributeList_22 c1 ?_
  refine wp_aload_n dX12_attributeList_23 rfl rfl (by first | exact Or.inl (by decide) | exact Or.inl (by omega) | exact Or.inr (by decide) | exact Or.inr (by omega)) ?_
  refine wp_cVq (n := 0) (mt' := mX12_takeName) (as := []) (rest := [vI (6000 * (m12 124 8))]) _ dX12_attributeList_24 lX12_351 kX12_takeName vX12_takeName (by decide) (by decide +kernel) rfl (Nat.le_of_ble_eq_true rfl) (by decide) rfl rfl rfl (Nat.le_of_ble_eq_true rfl) (fun hM hS => h) (fun r M' hq hM => ?_)
  obtain ⟨x24, m24, n24, rfl, rfl, h⟩ := rI_out hq
  have c2 := h.1
  replace h := h.2
  refine wp_iaddr dX12_attributeList_27 c2 ?_
  refine wp_istore_n dX12_attributeList_28 rfl (by decide) (wp_L (L' := [some (vR 124), some (vI ((6000 * (m12 124 8)) + x24)), none, none, none]) rfl ?_)
  refine wp_aload_n dX12_attributeList_29 rfl rfl (by first | exact Or.inl (by decide) | exact Or.inl (by omega) | exact Or.inr (by decide) | exact Or.inr (by omega)) ?_
  refine wp_getI dX12_attributeList_30 fX12_306 rfl (by decide) ?_
  refine wp_istore_n dX12_attributeList_33 rfl (by decide) (wp_L (L' := [some (vR 124), some (vI ((6000 * (m12 124 8)) + x24)), some (vI (m24 124 51)), none, none]) rfl ?_)
  refine wp_iconst dX12_attributeList_34 (by decide) ?_
  refine wp_istore_n dX12_attributeList_35 rfl (by decide) (wp_L (L' := [some (vR 124), some (vI ((6000 * (m12 124 8)) + x24)), some (vI (m24 124 51)), some (vI 1), none]) rfl ?_)
  exact h
theorem v_X12_attributeList_36 {cs : Cs} {Q : Option AV → Mm → Prop} {MI ML : Nat → Nat → Int} {d e nw th x : Nat} {l1 l2 l3 : Int}
    (h : wp cs mX12_isGood KD (rI (GR d e nw th x) fun x37 m37 n37 => ((x37 = 0 → wp cs mX12_maybeS KD (rV (GR d e nw th x) fun m100 n100 => wp cs mX12_passes KD (rI (GR d e nw th x) fun x106 m106 n106 => Q none (m106, n106, (GR d e nw th x))) 0 (padL [vR 124, vI 62] 2) [] (KD, m100, n100, (GR d e nw th x))) 0 (padL [vR 124] 1) [] (KD, m37, n37, (GR d e nw th x))) ∧ (x37 ≠ 0 → ((l3 = 0 → wp cs mX12_maybeS KD (rV (GR d e nw th x) fun m100 n100 => wp cs mX12_passes KD (rI (GR d e nw th x) fun x106 m106 n106 => Q none (m106, n106, (GR d e nw th x))) 0 (padL [vR 124, vI 62] 2) [] (KD, m100, n100, (GR d e nw th x))) 0 (padL [vR 124] 1) [] (KD, m37, n37, (GR d e nw th x))) ∧ (l3 ≠ 0 → wp cs mX12_maybeS KD (rV (GR d e nw th x) fun m54 n54 => (((m37 124 4) < (m54 124 4) → wp cs mX12_octet KD (rI (GR d e nw th x) fun x71 m71 n71 => wp cs mX12_isFirst KD (rI (GR d e nw th x) fun x74 m74 n74 => ((x74 = 0 → wp cs mX12_attributeList KD Q 85 [some (vR 124), some (vI l1), some (vI l2), some (vI l3), some (vI (m37 124 4))] [vI 0] (KD, m74, n74, (GR d e nw th x))) ∧ (x74 ≠ 0 → wp cs mX12_attributeList KD Q 85 [some (vR 124), some (vI l1), some (vI l2), some (vI l3), some (vI (m37 124 4))] [vI 1] (KD, m74, n74, (GR d e nw th x))))) 0 (padL [vI x71] 1) [] (KD, m71, n71, (GR d e nw th x))) 0 (padL [vR 124, vI (m54 124 4)] 2) [] (KD, m54, n54, (GR d e nw th x))) ∧ ((m54 124 4) ≤ (m37 124 4) → wp cs mX12_attributeList KD Q 85 [some (vR 124), some (vI l1), some (vI l2), some (vI l3), some (vI (m37 124 4))] [vI 0] (KD, m54, n54, (GR d e nw th x))))) 0 (padL [vR 124] 1) [] (KD, m37, n37, (GR d e nw th x))))))) 0 (padL [vR 124] 1) [] (KD, MI, ML, (GR d e nw th x))) :
    wp cs mX12_attributeList KD Q 36 [some (vR 124), some (vI l1), some (vI l2), some (vI l3), none] [] (KD, MI, ML, (GR d e nw th x)) := by
  refine wp_aload_n dX12_attributeList_36 rfl rfl (by first | exact Or.inl (by decide) | exact Or.inl (by omega) | exact Or.inr (by decide) | exact Or.inr (by omega)) ?_
  refine wp_cVq (n := 0) (mt' := mX12_isGood) (as := []) (rest := []) _ dX12_attributeList_37 lX12_289 kX12_isGood vX12_isGood (by decide) (by decide +kernel) rfl (Nat.le_of_ble_eq_true rfl) (by decide) rfl rfl rfl (Nat.le_of_ble_eq_true rfl) (fun hM hS => h) (fun r M' hq hM => ?_)
  obtain ⟨x37, m37, n37, rfl, rfl, h⟩ := rI_out hq
  refine wp_if_eq (tgt := 99) dX12_attributeList_40 (by decide) (fun h40 => ?_) (fun h40 => ?_)
  · replace h := h.1 h40
    refine wp_aload_n dX12_attributeList_99 rfl rfl (by first | exact Or.inl (by decide) | exact Or.inl (by omega) | exact Or.inr (by decide) | exact Or.inr (by omega)) ?_
    refine wp_cVq (n := 0) (mt' := mX12_maybeS) (as := []) (rest := []) _ dX12_attributeList_100 lX12_300 kX12_maybeS vX12_maybeS (by decide) (by decide +kernel) rfl (Nat.le_of_ble_eq_true rfl) (by decide) rfl rfl rfl (Nat.le_of_ble_eq_true rfl) (fun hM hS => h) (fun r M' hq hM => ?_)
    obtain ⟨m100, n100, rfl, rfl, h⟩ := rV_out hq
    refine wp_aload_n dX12_attributeList_103 rfl rfl (by first | exact Or.inl (by decide) | exact Or.inl (by omega) | exact Or.inr (by decide) | exact Or.inr (by omega)) ?_
    refine wp_bipush dX12_attributeList_104 (by decide +kernel) (by decide) ?_
    refine wp_cVq (n := 1) (mt' := mX12_passes) (as := [vI 62]) (rest := []) _ dX12_attributeList_106 lX12_340 kX12_passes vX12_passes (by decide) (by decide +kernel) rfl (Nat.le_of_ble_eq_true rfl) (by decide) rfl rfl rfl (Nat.le_of_ble_eq_true rfl) (fun hM hS => h) (fun r M' hq hM => ?_)
    obtain ⟨x106, m106, n106, rfl, rfl, h⟩ := rI_out hq
    refine wp_istore dX12_attributeList_109 (by decide) (wp_L (L' := [some (vR 124), some (vI l1), some (vI l2), some (vI l3), some (vI x106)]) rfl ?_)
    exact wp_vret dX12_attributeList_111 rfl (fun _ => h)
  · replace h := h.2 h40
    refine wp_iload_n dX12_attributeList_43 rfl rfl ?_
    refine wp_if_eq (tgt := 99) dX12_attributeList_44 (by decide) (fun h44 => ?_) (fun h44 => ?_)
    · replace h := h.1 h44
      refine wp_aload_n dX12_attributeList_99 rfl rfl (by first | exact Or.inl (by decide) | exact Or.inl (by omega) | exact Or.inr (by decide) | exact Or.inr (by omega)) ?_
      refine wp_cVq (n := 0) (mt' := mX12_maybeS) (as := []) (rest := []) _ dX12_attributeList_100 lX12_300 kX12_maybeS vX12_maybeS (by decide) (by decide +kernel) rfl (Nat.le_of_ble_eq_true rfl) (by decide) rfl rfl rfl (Nat.le_of_ble_eq_true rfl) (fun hM hS => h) (fun r M' hq hM => ?_)
      obtain ⟨m100, n100, rfl, rfl, h⟩ := rV_out hq
      refine wp_aload_n dX12_attributeList_103 rfl rfl (by first | exact Or.inl (by decide) | exact Or.inl (by omega) | exact Or.inr (by decide) | exact Or.inr (by omega)) ?_
      refine wp_bipush dX12_attributeList_104 (by decide +kernel) (by decide) ?_
      refine wp_cVq (n := 1) (mt' := mX12_passes) (as := [vI 62]) (rest := []) _ dX12_attributeList_106 lX12_340 kX12_passes vX12_passes (by decide) (by decide +kernel) rfl (Nat.le_of_ble_eq_true rfl) (by decide) rfl rfl rfl (Nat.le_of_ble_eq_true rfl) (fun hM hS => h) (fun r M' hq hM => ?_)
      obtain ⟨x106, m106, n106, rfl, rfl, h⟩ := rI_out hq
      refine wp_istore dX12_attributeList_109 (by decide) (wp_L (L' := [some (vR 124), some (vI l1), some (vI l2), some (vI l3), some (vI x106)]) rfl ?_)
      exact wp_vret dX12_attributeList_111 rfl (fun _ => h)
    · replace h := h.2 h44
      refine wp_aload_n dX12_attributeList_47 rfl rfl (by first | exact Or.inl (by decide) | exact Or.inl (by omega) | exact Or.inr (by decide) | exact Or.inr (by omega)) ?_
      refine wp_getI dX12_attributeList_48 fX12_276 rfl (by decide) ?_
      refine wp_istore dX12_attributeList_51 (by decide) (wp_L (L' := [some (vR 124), some (vI l1), some (vI l2), some (vI l3), some (vI (m37 124 4))]) rfl ?_)
      refine wp_aload_n dX12_attributeList_53 rfl rfl (by first | exact Or.inl (by decide) | exact Or.inl (by omega) | exact Or.inr (by decide) | exact Or.inr (by omega)) ?_
      refine wp_cVq (n := 0) (mt' := mX12_maybeS) (as := []) (rest := []) _ dX12_attributeList_54 lX12_300 kX12_maybeS vX12_maybeS (by decide) (by decide +kernel) rfl (Nat.le_of_ble_eq_true rfl) (by decide) rfl rfl rfl (Nat.le_of_ble_eq_true rfl) (fun hM hS => h) (fun r M' hq hM => ?_)
      obtain ⟨m54, n54, rfl, rfl, h⟩ := rV_out hq
      refine wp_aload_n dX12_attributeList_57 rfl rfl (by first | exact Or.inl (by decide) | exact Or.inl (by omega) | exact Or.inr (by decide) | exact Or.inr (by omega)) ?_
      refine wp_getI dX12_attributeList_58 fX12_276 rfl (by decide) ?_
      refine wp_iload dX12_attributeList_61 rfl ?_
      refine wp_icmp_le (tgt := 84) dX12_attributeList_63 (by decide) (fun h63 => ?_) (fun h63 => ?_)
      · replace h := h.2 h63
        refine wp_iconst dX12_attributeList_84 (by decide) ?_
        exact h
      · replace h := h.1 h63
        refine wp_aload_n dX12_attributeList_66 rfl rfl (by first | exact Or.inl (by decide) | exact Or.inl (by omega) | exact Or.inr (by decide) | exact Or.inr (by omega)) ?_
        refine wp_aload_n dX12_attributeList_67 rfl rfl (by first | exact Or.inl (by decide) | exact Or.inl (by omega) | exact Or.inr (by decide) | exact Or.inr (by omega)) ?_
        refine wp_getI dX12_attributeList_68 fX12_276 rfl (by decide) ?_
        refine wp_cVq (n := 1) (mt' := mX12_octet) (as := [vI (m54 124 4)]) (rest := []) _ dX12_attributeList_71 lX12_279 kX12_octet vX12_octet (by decide) (by decide +kernel) rfl (Nat.le_of_ble_eq_true rfl) (by decide) rfl rfl rfl (Nat.le_of_ble_eq_true rfl) (fun hM hS => h) (fun r M' hq hM => ?_)
        obtain ⟨x71, m71, n71, rfl, rfl, h⟩ := rI_out hq
        refine wp_cSq (n := 1) (mt' := mX12_isFirst) (as := [vI x71]) (rest := []) _ dX12_attributeList_74 lX12_268 kX12_isFirst vX12_isFirst (by decide) (by decide +kernel) rfl (Nat.le_of_ble_eq_true rfl) rfl (Nat.le_of_ble_eq_true rfl) (fun hM hS => h) (fun r M' hq hM => ?_)
        obtain ⟨x74, m74, n74, rfl, rfl, h⟩ := rI_out hq
        refine wp_if_eq (tgt := 84) dX12_attributeList_77 (by decide) (fun h77 => ?_) (fun h77 => ?_)
        · replace h := h.1 h77
          refine wp_iconst dX12_attributeList_84 (by decide) ?_
          exact h
        · replace h := h.2 h77
          refine wp_iconst dX12_attributeList_80 (by decide) ?_
          refine wp_goto (tgt := 85) dX12_attributeList_81 (by decide) ?_
          exact h
theorem v_X12_attributeList_85 {cs : Cs} {Q : Option AV → Mm → Prop} {MI ML : Nat → Nat → Int} {d e nw th x : Nat} {l1 l2 l3 l4 s0 : Int}
    (h : ((s0 = 0 → wp cs mX12_attributeList KD Q 36 [some (vR 124), some (vI l1), some (vI l2), some (vI s0), none] [] (KD, MI, ML, (GR d e nw th x))) ∧ (s0 ≠ 0 → wp cs mX12_rule KD (rV (GR d e nw th x) fun m93 n93 => wp cs mX12_attributeList KD Q 36 [some (vR 124), some (vI l1), some (vI l2), some (vI s0), none] [] (KD, m93, n93, (GR d e nw th x))) 0 (padL [vR 124, vI l1, vI l2] 7) [] (KD, MI, ML, (GR d e nw th x))))) :
    wp cs mX12_attributeList KD Q 85 [some (vR 124), some (vI l1), some (vI l2), some (vI l3), some (vI l4)] [vI s0] (KD, MI, ML, (GR d e nw th x)) := by
  refine wp_istore_n dX12_attributeList_85 rfl (by decide) (wp_L (L' := [some (vR 124), some (vI l1), some (vI l2), some (vI s0), some (vI l4)]) rfl ?_)
  refine wp_iload_n dX12_attributeList_86 rfl rfl ?_
  refine wp_if_eq (tgt := 96) dX12_attributeList_87 (by decide) (fun h87 => ?_) (fun h87 => ?_)
  · replace h := h.1 h87
    refine wp_goto (tgt := 36) dX12_attributeList_96 (by decide) ?_
    refine wp_forget (L' := [some (vR 124), some (vI l1), some (vI l2), some (vI s0), none]) (by repeat' (first | exact trivial | refine ⟨rfl, ?_⟩)) ?_
    exact h
  · replace h := h.2 h87
    refine wp_aload_n dX12_attributeList_90 rfl rfl (by first | exact Or.inl (by decide) | exact Or.inl (by omega) | exact Or.inr (by decide) | exact Or.inr (by omega)) ?_
    refine wp_iload_n dX12_attributeList_91 rfl rfl ?_
    refine wp_iload_n dX12_attributeList_92 rfl rfl ?_
    refine wp_cVq (n := 2) (mt' := mX12_rule) (as := [vI l1, vI l2]) (rest := []) _ dX12_attributeList_93 lX12_416 kX12_rule vX12_rule (by decide) (by decide +kernel) rfl (Nat.le_of_ble_eq_true rfl) (by decide) rfl rfl rfl (Nat.le_of_ble_eq_true rfl) (fun hM hS => h) (fun r M' hq hM => ?_)
    obtain ⟨m93, n93, rfl, rfl, h⟩ := rV_out hq
    refine wp_goto (tgt := 36) dX12_attributeList_96 (by decide) ?_
    refine wp_forget (L' := [some (vR 124), some (vI l1), some (vI l2), some (vI s0), none]) (by repeat' (first | exact trivial | refine ⟨rfl, ?_⟩)) ?_
    exact h
theorem dX12_doctype_0 : decode cX12_doctype 0 = .ok (.aload_n 0, 1) := by decide +kernel
theorem dX12_doctype_1 : decode cX12_doctype 1 = .ok (.getfield 20, 3) := by decide +kernel
theorem dX12_doctype_4 : decode cX12_doctype 4 = .ok (.aload_n 0, 1) := by decide +kernel
theorem dX12_doctype_5 : decode cX12_doctype 5 = .ok (.getfield 328, 3) := by decide +kernel
theorem dX12_doctype_8 : decode cX12_doctype 8 = .ok (.iconst 1, 1) := by decide +kernel
theorem dX12_doctype_9 : decode cX12_doctype 9 = .ok (.bastore, 1) := by decide +kernel
theorem dX12_doctype_10 : decode cX12_doctype 10 = .ok (.aload_n 0, 1) := by decide +kernel
theorem dX12_doctype_11 : decode cX12_doctype 11 = .ok (.dup, 1) := by decide +kernel
theorem dX12_doctype_12 : decode cX12_doctype 12 = .ok (.getfield 276, 3) := by decide +kernel
theorem dX12_doctype_15 : decode cX12_doctype 15 = .ok (.bipush 9, 2) := by decide +kernel
theorem dX12_doctype_17 : decode cX12_doctype 17 = .ok (.iadd, 1) := by decide +kernel
theorem dX12_doctype_18 : decode cX12_doctype 18 = .ok (.putfield 276, 3) := by decide +kernel
theorem dX12_doctype_21 : decode cX12_doctype 21 = .ok (.aload_n 0, 1) := by decide +kernel
theorem dX12_doctype_22 : decode cX12_doctype 22 = .ok (.invokevirtual 348, 3) := by decide +kernel
theorem dX12_doctype_25 : decode cX12_doctype 25 = .ok (.aload_n 0, 1) := by decide +kernel
theorem dX12_doctype_26 : decode cX12_doctype 26 = .ok (.invokevirtual 351, 3) := by decide +kernel
theorem dX12_doctype_29 : decode cX12_doctype 29 = .ok (.istore_n 1, 1) := by decide +kernel
theorem dX12_doctype_30 : decode cX12_doctype 30 = .ok (.aload_n 0, 1) := by decide +kernel
theorem dX12_doctype_31 : decode cX12_doctype 31 = .ok (.getfield 64, 3) := by decide +kernel
theorem dX12_doctype_34 : decode cX12_doctype 34 = .ok (.aload_n 0, 1) := by decide +kernel
theorem dX12_doctype_35 : decode cX12_doctype 35 = .ok (.getfield 328, 3) := by decide +kernel
theorem dX12_doctype_38 : decode cX12_doctype 38 = .ok (.sipush 6000, 3) := by decide +kernel
theorem dX12_doctype_41 : decode cX12_doctype 41 = .ok (.aload_n 0, 1) := by decide +kernel
theorem dX12_doctype_42 : decode cX12_doctype 42 = .ok (.getfield 328, 3) := by decide +kernel
theorem dX12_doctype_45 : decode cX12_doctype 45 = .ok (.imul, 1) := by decide +kernel
theorem dX12_doctype_46 : decode cX12_doctype 46 = .ok (.iload_n 1, 1) := by decide +kernel
theorem dX12_doctype_47 : decode cX12_doctype 47 = .ok (.iadd, 1) := by decide +kernel
theorem dX12_doctype_48 : decode cX12_doctype 48 = .ok (.iastore, 1) := by decide +kernel
theorem dX12_doctype_49 : decode cX12_doctype 49 = .ok (.aload_n 0, 1) := by decide +kernel
theorem dX12_doctype_50 : decode cX12_doctype 50 = .ok (.getfield 67, 3) := by decide +kernel
theorem dX12_doctype_53 : decode cX12_doctype 53 = .ok (.aload_n 0, 1) := by decide +kernel
theorem dX12_doctype_54 : decode cX12_doctype 54 = .ok (.getfield 328, 3) := by decide +kernel
theorem dX12_doctype_57 : decode cX12_doctype 57 = .ok (.aload_n 0, 1) := by decide +kernel
theorem dX12_doctype_58 : decode cX12_doctype 58 = .ok (.getfield 306, 3) := by decide +kernel
theorem dX12_doctype_61 : decode cX12_doctype 61 = .ok (.iastore, 1) := by decide +kernel
theorem dX12_doctype_62 : decode cX12_doctype 62 = .ok (.aload_n 0, 1) := by decide +kernel
theorem dX12_doctype_63 : decode cX12_doctype 63 = .ok (.invokevirtual 300, 3) := by decide +kernel
theorem dX12_doctype_66 : decode cX12_doctype 66 = .ok (.aload_n 0, 1) := by decide +kernel
theorem dX12_doctype_67 : decode cX12_doctype 67 = .ok (.bipush 91, 2) := by decide +kernel
theorem dX12_doctype_69 : decode cX12_doctype 69 = .ok (.invokevirtual 340, 3) := by decide +kernel
theorem dX12_doctype_72 : decode cX12_doctype 72 = .ok (.istore_n 2, 1) := by decide +kernel
theorem dX12_doctype_73 : decode cX12_doctype 73 = .ok (.aload_n 0, 1) := by decide +kernel
theorem dX12_doctype_74 : decode cX12_doctype 74 = .ok (.invokevirtual 289, 3) := by decide +kernel
theorem dX12_doctype_77 : decode cX12_doctype 77 = .ok (.ifCond .eq 109, 3) := by decide +kernel
theorem dX12_doctype_80 : decode cX12_doctype 80 = .ok (.aload_n 0, 1) := by decide +kernel
theorem dX12_doctype_81 : decode cX12_doctype 81 = .ok (.aload_n 0, 1) := by decide +kernel
theorem dX12_doctype_82 : decode cX12_doctype 82 = .ok (.getfield 276, 3) := by decide +kernel
theorem dX12_doctype_85 : decode cX12_doctype 85 = .ok (.invokevirtual 279, 3) := by decide +kernel
theorem dX12_doctype_88 : decode cX12_doctype 88 = .ok (.bipush 93, 2) := by decide +kernel
theorem dX12_doctype_90 : decode cX12_doctype 90 = .ok (.if_icmp .eq 96, 3) := by decide +kernel
theorem dX12_doctype_93 : decode cX12_doctype 93 = .ok (.aload_n 0, 1) := by decide +kernel
theorem dX12_doctype_94 : decode cX12_doctype 94 = .ok (.aload_n 0, 1) := by decide +kernel
theorem dX12_doctype_95 : decode cX12_doctype 95 = .ok (.getfield 276, 3) := by decide +kernel
theorem dX12_doctype_98 : decode cX12_doctype 98 = .ok (.invokevirtual 279, 3) := by decide +kernel
theorem dX12_doctype_101 : decode cX12_doctype 101 = .ok (.invokestatic 297, 3) := by decide +kernel
theorem dX12_doctype_104 : decode cX12_doctype 104 = .ok (.ifCond .eq 10, 3) := by decide +kernel
theorem dX12_doctype_107 : decode cX12_doctype 107 = .ok (.aload_n 0, 1) := by decide +kernel
theorem dX12_doctype_108 : decode cX12_doctype 108 = .ok (.invokevirtual 300, 3) := by decide +kernel
theorem dX12_doctype_111 : decode cX12_doctype 111 = .ok (.goto (-38), 3) := by decide +kernel
theorem dX12_doctype_114 : decode cX12_doctype 114 = .ok (.aload_n 0, 1) := by decide +kernel
theorem dX12_doctype_115 : decode cX12_doctype 115 = .ok (.ldc2_w 343, 3) := by decide +kernel
theorem dX12_doctype_118 : decode cX12_doctype 118 = .ok (.iconst 4, 1) := by decide +kernel
theorem dX12_doctype_119 : decode cX12_doctype 119 = .ok (.invokevirtual 285, 3) := by decide +kernel
theorem dX12_doctype_122 : decode cX12_doctype 122 = .ok (.ifCond .eq 10, 3) := by decide +kernel
theorem dX12_doctype_125 : decode cX12_doctype 125 = .ok (.aload_n 0, 1) := by decide +kernel
theorem dX12_doctype_126 : decode cX12_doctype 126 = .ok (.invokevirtual 345, 3) := by decide +kernel
theorem dX12_doctype_129 : decode cX12_doctype 129 = .ok (.goto (-56), 3) := by decide +kernel
theorem dX12_doctype_132 : decode cX12_doctype 132 = .ok (.aload_n 0, 1) := by decide +kernel
theorem dX12_doctype_133 : decode cX12_doctype 133 = .ok (.ldc2_w 354, 3) := by decide +kernel
theorem dX12_doctype_136 : decode cX12_doctype 136 = .ok (.ldc2_w 356, 3) := by decide +kernel
theorem dX12_doctype_139 : decode cX12_doctype 139 = .ok (.iconst 1, 1) := by decide +kernel
theorem dX12_doctype_140 : decode cX12_doctype 140 = .ok (.invokevirtual 358, 3) := by decide +kernel
theorem dX12_doctype_143 : decode cX12_doctype 143 = .ok (.ifCond .eq 10, 3) := by decide +kernel
theorem dX12_doctype_146 : decode cX12_doctype 146 = .ok (.aload_n 0, 1) := by decide +kernel
theorem dX12_doctype_147 : decode cX12_doctype 147 = .ok (.invokevirtual 362, 3) := by decide +kernel
theorem dX12_doctype_150 : decode cX12_doctype 150 = .ok (.goto (-77), 3) := by decide +kernel
theorem dX12_doctype_153 : decode cX12_doctype 153 = .ok (.aload_n 0, 1) := by decide +kernel
theorem dX12_doctype_154 : decode cX12_doctype 154 = .ok (.ldc2_w 365, 3) := by decide +kernel
theorem dX12_doctype_157 : decode cX12_doctype 157 = .ok (.ldc2_w 356, 3) := by decide +kernel
theorem dX12_doctype_160 : decode cX12_doctype 160 = .ok (.iconst 1, 1) := by decide +kernel
theorem dX12_doctype_161 : decode cX12_doctype 161 = .ok (.invokevirtual 358, 3) := by decide +kernel
theorem dX12_doctype_164 : decode cX12_doctype 164 = .ok (.ifCond .eq 10, 3) := by decide +kernel
theorem dX12_doctype_167 : decode cX12_doctype 167 = .ok (.aload_n 0, 1) := by decide +kernel
theorem dX12_doctype_168 : decode cX12_doctype 168 = .ok (.invokevirtual 367, 3) := by decide +kernel
theorem dX12_doctype_171 : decode cX12_doctype 171 = .ok (.goto (-98), 3) := by decide +kernel
theorem dX12_doctype_174 : decode cX12_doctype 174 = .ok (.aload_n 0, 1) := by decide +kernel
theorem dX12_doctype_175 : decode cX12_doctype 175 = .ok (.iconst (-1), 1) := by decide +kernel
theorem dX12_doctype_176 : decode cX12_doctype 176 = .ok (.aload_n 0, 1) := by decide +kernel
theorem dX12_doctype_177 : decode cX12_doctype 177 = .ok (.getfield 276, 3) := by decide +kernel
theorem dX12_doctype_180 : decode cX12_doctype 180 = .ok (.invokevirtual 293, 3) := by decide +kernel
theorem dX12_doctype_183 : decode cX12_doctype 183 = .ok (.goto (-110), 3) := by decide +kernel
theorem dX12_doctype_186 : decode cX12_doctype 186 = .ok (.aload_n 0, 1) := by decide +kernel
theorem dX12_doctype_187 : decode cX12_doctype 187 = .ok (.bipush 93, 2) := by decide +kernel
theorem dX12_doctype_189 : decode cX12_doctype 189 = .ok (.invokevirtual 340, 3) := by decide +kernel
theorem dX12_doctype_192 : decode cX12_doctype 192 = .ok (.istore_n 2, 1) := by decide +kernel
theorem dX12_doctype_193 : decode cX12_doctype 193 = .ok (.aload_n 0, 1) := by decide +kernel
theorem dX12_doctype_194 : decode cX12_doctype 194 = .ok (.invokevirtual 300, 3) := by decide +kernel
theorem dX12_doctype_197 : decode cX12_doctype 197 = .ok (.aload_n 0, 1) := by decide +kernel
theorem dX12_doctype_198 : decode cX12_doctype 198 = .ok (.bipush 62, 2) := by decide +kernel
theorem dX12_doctype_200 : decode cX12_doctype 200 = .ok (.invokevirtual 340, 3) := by decide +kernel
theorem dX12_doctype_203 : decode cX12_doctype 203 = .ok (.istore_n 2, 1) := by decide +kernel
theorem dX12_doctype_204 : decode cX12_doctype 204 = .ok (.return_, 1) := by decide +kernel
theorem v_X12_doctype_0 {cs : Cs} {Q : Option AV → Mm → Prop} {MI ML : Nat → Nat → Int} {d e nw th x : Nat}
    (h : (0 ≤ (MI 124 8) ∧ (MI 124 8) < 2) ∧ ∀ m9, m9 = up2 MI 127 (MI 124 8).toNat 1 → (-2147483648 ≤ (m9 124 4) + 9 ∧ (m9 124 4) + 9 < 2147483648) ∧ ∀ m18, m18 = up2 m9 124 4 ((m9 124 4) + 9) → wp cs mX12_mustS KD (rV (GR d e nw th x) fun m22 n22 => wp cs mX12_takeName KD (rI (GR d e nw th x) fun x26 m26 n26 => (-2147483648 ≤ 6000 * (m26 124 8) ∧ 6000 * (m26 124 8) < 2147483648) ∧ (-2147483648 ≤ (6000 * (m26 124 8)) + x26 ∧ (6000 * (m26 124 8)) + x26 < 2147483648) ∧ (0 ≤ (m26 124 8) ∧ (m26 124 8) < 2) ∧ ∀ m48, m48 = up2 m26 141 (m26 124 8).toNat ((6000 * (m26 124 8)) + x26) → (0 ≤ (m48 124 8) ∧ (m48 124 8) < 2) ∧ ∀ m61, m61 = up2 m48 142 (m48 124 8).toNat (m48 124 51) → wp cs mX12_maybeS KD (rV (GR d e nw th x) fun m63 n63 => wp cs mX12_passes KD (rI (GR d e nw th x) fun x69 m69 n69 => wp cs mX12_doctype KD Q 73 [some (vR 124), some (vI x26), some (vI x69)] [] (KD, m69, n69, (GR d e nw th x))) 0 (padL [vR 124, vI 91] 2) [] (KD, m63, n63, (GR d e nw th x))) 0 (padL [vR 124] 1) [] (KD, m61, n26, (GR d e nw th x))) 0 (padL [vR 124] 2) [] (KD, m22, n22, (GR d e nw th x))) 0 (padL [vR 124] 1) [] (KD, m18, ML, (GR d e nw th x))) :
    wp cs mX12_doctype KD Q 0 (padL [vR 124] 3) [] (KD, MI, ML, (GR d e nw th x)) := by
  refine wp_L (L' := [some (vR 124), none, none]) rfl ?_
  refine wp_aload_n dX12_doctype_0 rfl rfl (by first | exact Or.inl (by decide) | exact Or.inl (by omega) | exact Or.inr (by decide) | exact Or.inr (by omega)) ?_
  refine wp_getR dX12_doctype_1 fX12_20 rfl (by decide) ?_
  refine wp_topR (x' := 127) rfl ?_
  refine wp_aload_n dX12_doctype_4 rfl rfl (by first | exact Or.inl (by decide) | exact Or.inl (by omega) | exact Or.inr (by decide) | exact Or.inr (by omega)) ?_
  refine wp_getI dX12_doctype_5 fX12_328 rfl (by decide) ?_
  refine wp_iconst dX12_doctype_8 (by decide) ?_
  have c0 := h.1
  replace h := h.2
  refine wp_zast dX12_doctype_9 rfl (by decide) c0 (by decide) ?_
  refine wp_gI (fun m9 e9 => ?_)
  replace h := h m9 e9
  refine wp_aload_n dX12_doctype_10 rfl rfl (by first | exact Or.inl (by decide) | exact Or.inl (by omega) | exact Or.inr (by decide) | exact Or.inr (by omega)) ?_
  refine wp_pc (pc' := 11) rfl ?_
  refine wp_dup dX12_doctype_11 (fun x e => by cases e) ?_
  refine wp_getI dX12_doctype_12 fX12_276 rfl (by decide) ?_
  refine wp_bipush dX12_doctype_15 (by decide +kernel) (by decide) ?_
  have c1 := h.1
  replace h := h.2
  refine wp_iaddr dX12_doctype_17 c1 ?_
  refine wp_putI dX12_doctype_18 pX12_276 rfl (by decide) ?_
  refine wp_gI (fun m18 e18 => ?_)
  replace h := h m18 e18
  refine wp_aload_n dX12_doctype_21 rfl rfl (by first | exact Or.inl (by decide) | exact Or.inl (by omega) | exact Or.inr (by decide) | exact Or.inr (by omega)) ?_
  refine wp_cVq (n := 0) (mt' := mX12_mustS) (as := []) (rest := []) _ dX12_doctype_22 lX12_348 kX12_mustS vX12_mustS (by decide) (by decide +kernel) rfl (Nat.le_of_ble_eq_true rfl) (by decide) rfl rfl rfl (Nat.le_of_ble_eq_true rfl) (fun hM hS => h) (fun r M' hq hM => ?_)
  obtain ⟨m22, n22, rfl, rfl, h⟩ := rV_out hq
  refine wp_aload_n dX12_doctype_25 rfl rfl (by first | exact Or.inl (by decide) | exact Or.inl (by omega) | exact Or.inr (by decide) | exact Or.inr (by omega)) ?_
  refine wp_cVq (n := 0) (mt' := mX12_takeName) (as := []) (rest := []) _ dX12_doctype_26 lX12_351 kX12_takeName vX12_takeName (by decide) (by decide +kernel) rfl (Nat.le_of_ble_eq_true rfl) (by decide) rfl rfl rfl (Nat.le_of_ble_eq_true rfl) (fun hM hS => h) (fun r M' hq hM => ?_)
  obtain ⟨x26, m26, n26, rfl, rfl, h⟩ := rI_out hq
  refine wp_istore_n dX12_doctype_29 rfl (by decide) (wp_L (L' := [some (vR 124), some (vI x26), none]) rfl ?_)
  refine wp_aload_n dX12_doctype_30 rfl rfl (by first | exact Or.inl (by decide) | exact Or.inl (by omega) | exact Or.inr (by decide) | exact Or.inr (by omega)) ?_
  refine wp_getR dX12_doctype_31 fX12_64 rfl (by decide) ?_
  refine wp_topR (x' := 141) rfl ?_
  refine wp_aload_n dX12_doctype_34 rfl rfl (by first | exact Or.inl (by decide) | exact Or.inl (by omega) | exact Or.inr (by decide) | exact Or.inr (by omega)) ?_
  refine wp_getI dX12_doctype_35 fX12_328 rfl (by decide) ?_
  refine wp_sipush dX12_doctype_38 (by decide +kernel) (by decide) ?_
  refine wp_aload_n dX12_doctype_41 rfl rfl (by first | exact Or.inl (by decide) | exact Or.inl (by omega) | exact Or.inr (by decide) | exact Or.inr (by omega)) ?_
  refine wp_pc (pc' := 42) rfl ?_
  refine wp_getI dX12_doctype_42 fX12_328 rfl (by decide) ?_
  have c2 := h.1
  replace h := h.2
  refine wp_imulr dX12_doctype_45 c2 ?_
  refine wp_iload_n dX12_doctype_46 rfl rfl ?_
  have c3 := h.1
  replace h := h.2
  refine wp_iaddr dX12_doctype_47 c3 ?_
  have c4 := h.1
  replace h := h.2
  refine wp_iast dX12_doctype_48 rfl (by decide) c4 ?_
  refine wp_gI (fun m48 e48 => ?_)
  replace h := h m48 e48
  refine wp_aload_n dX12_doctype_49 rfl rfl (by first | exact Or.inl (by decide) | exact Or.inl (by omega) | exact Or.inr (by decide) | exact Or.inr (by omega)) ?_
  refine wp_getR dX12_doctype_50 fX12_67 rfl (by decide) ?_
  refine wp_topR (x' := 142) rfl ?_
  refine wp_aload_n dX12_doctype_53 rfl rfl (by first | exact Or.inl (by decide) | exact Or.inl (by omega) | exact Or.inr (by decide) | exact Or.inr (by omega)) ?_
  refine wp_pc (pc' := 54) rfl ?_
  refine wp_getI dX12_doctype_54 fX12_328 rfl (by decide) ?_
  refine wp_aload_n dX12_doctype_57 rfl rfl (by first | exact Or.inl (by decide) | exact Or.inl (by omega) | exact Or.inr (by decide) | exact Or.inr (by omega)) ?_
  refine wp_getI dX12_doctype_58 fX12_306 rfl (by decide) ?_
  have c5 := h.1
  replace h := h.2
  refine wp_iast dX12_doctype_61 rfl (by decide) c5 ?_
  refine wp_gI (fun m61 e61 => ?_)
  replace h := h m61 e61
  refine wp_aload_n dX12_doctype_62 rfl rfl (by first | exact Or.inl (by decide) | exact Or.inl (by omega) | exact Or.inr (by decide) | exact Or.inr (by omega)) ?_
  refine wp_cVq (n := 0) (mt' := mX12_maybeS) (as := []) (rest := []) _ dX12_doctype_63 lX12_300 kX12_maybeS vX12_maybeS (by decide) (by decide +kernel) rfl (Nat.le_of_ble_eq_true rfl) (by decide) rfl rfl rfl (Nat.le_of_ble_eq_true rfl) (fun hM hS => h) (fun r M' hq hM => ?_)
  obtain ⟨m63, n63, rfl, rfl, h⟩ := rV_out hq
  refine wp_aload_n dX12_doctype_66 rfl rfl (by first | exact Or.inl (by decide) | exact Or.inl (by omega) | exact Or.inr (by decide) | exact Or.inr (by omega)) ?_
  refine wp_bipush dX12_doctype_67 (by decide +kernel) (by decide) ?_
  refine wp_cVq (n := 1) (mt' := mX12_passes) (as := [vI 91]) (rest := []) _ dX12_doctype_69 lX12_340 kX12_passes vX12_passes (by decide) (by decide +kernel) rfl (Nat.le_of_ble_eq_true rfl) (by decide) rfl rfl rfl (Nat.le_of_ble_eq_true rfl) (fun hM hS => h) (fun r M' hq hM => ?_)
  obtain ⟨x69, m69, n69, rfl, rfl, h⟩ := rI_out hq
  refine wp_istore_n dX12_doctype_72 rfl (by decide) (wp_L (L' := [some (vR 124), some (vI x26), some (vI x69)]) rfl ?_)
  exact h
theorem v_X12_doctype_73 {cs : Cs} {Q : Option AV → Mm → Prop} {MI ML : Nat → Nat → Int} {d e nw th x : Nat} {l1 l2 : Int}
    (h : wp cs mX12_isGood KD (rI (GR d e nw th x) fun x74 m74 n74 => ((x74 = 0 → wp cs mX12_passes KD (rI (GR d e nw th x) fun x189 m189 n189 => wp cs mX12_maybeS KD (rV (GR d e nw th x) fun m194 n194 => wp cs mX12_passes KD (rI (GR d e nw th x) fun x200 m200 n200 => Q none (m200, n200, (GR d e nw th x))) 0 (padL [vR 124, vI 62] 2) [] (KD, m194, n194, (GR d e nw th x))) 0 (padL [vR 124] 1) [] (KD, m189, n189, (GR d e nw th x))) 0 (padL [vR 124, vI 93] 2) [] (KD, m74, n74, (GR d e nw th x))) ∧ (x74 ≠ 0 → wp cs mX12_octet KD (rI (GR d e nw th x) fun x85 m85 n85 => ((x85 = 93 → wp cs mX12_passes KD (rI (GR d e nw th x) fun x189 m189 n189 => wp cs mX12_maybeS KD (rV (GR d e nw th x) fun m194 n194 => wp cs mX12_passes KD (rI (GR d e nw th x) fun x200 m200 n200 => Q none (m200, n200, (GR d e nw th x))) 0 (padL [vR 124, vI 62] 2) [] (KD, m194, n194, (GR d e nw th x))) 0 (padL [vR 124] 1) [] (KD, m189, n189, (GR d e nw th x))) 0 (padL [vR 124, vI 93] 2) [] (KD, m85, n85, (GR d e nw th x))) ∧ (x85 ≠ 93 → wp cs mX12_octet KD (rI (GR d e nw th x) fun x98 m98 n98 => wp cs mX12_isS KD (rI (GR d e nw th x) fun x101 m101 n101 => ((x101 = 0 → wp cs mX12_stands KD (rI (GR d e nw th x) fun x119 m119 n119 => ((x119 = 0 → wp cs mX12_stands2 KD (rI (GR d e nw th x) fun x140 m140 n140 => ((x140 = 0 → wp cs mX12_stands2 KD (rI (GR d e nw th x) fun x161 m161 n161 => ((x161 = 0 → wp cs mX12_fail KD (rV (GR d e nw th x) fun m180 n180 => wp cs mX12_doctype KD Q 73 [some (vR 124), some (vI l1), some (vI l2)] [] (KD, m180, n180, (GR d e nw th x))) 0 (padL [vR 124, vI (-1), vI (m161 124 4)] 3) [] (KD, m161, n161, (GR d e nw th x))) ∧ (x161 ≠ 0 → wp cs mX12_attributeList KD (rV (GR d e nw th x) fun m168 n168 => wp cs mX12_doctype KD Q 73 [some (vR 124), some (vI l1), some (vI l2)] [] (KD, m168, n168, (GR d e nw th x))) 0 (padL [vR 124] 5) [] (KD, m161, n161, (GR d e nw th x))))) 0 (padL [vR 124, vL 4332816146954471763, vL 84, vI 1] 7) [] (KD, m140, n140, (GR d e nw th x))) ∧ (x140 ≠ 0 → wp cs mX12_declaration KD (rV (GR d e nw th x) fun m147 n147 => wp cs mX12_doctype KD Q 73 [some (vR 124), some (vI l1), some (vI l2)] [] (KD, m147, n147, (GR d e nw th x))) 0 (padL [vR 124] 3) [] (KD, m140, n140, (GR d e nw th x))))) 0 (padL [vR 124, vL 4332820510389650766, vL 84, vI 1] 7) [] (KD, m119, n119, (GR d e nw th x))) ∧ (x119 ≠ 0 → wp cs mX12_comment KD (rV (GR d e nw th x) fun m126 n126 => wp cs mX12_doctype KD Q 73 [some (vR 124), some (vI l1), some (vI l2)] [] (KD, m126, n126, (GR d e nw th x))) 0 (padL [vR 124] 2) [] (KD, m119, n119, (GR d e nw th x))))) 0 (padL [vR 124, vL 1008807213, vI 4] 6) [] (KD, m101, n101, (GR d e nw th x))) ∧ (x101 ≠ 0 → wp cs mX12_maybeS KD (rV (GR d e nw th x) fun m108 n108 => wp cs mX12_doctype KD Q 73 [some (vR 124), some (vI l1), some (vI l2)] [] (KD, m108, n108, (GR d e nw th x))) 0 (padL [vR 124] 1) [] (KD, m101, n101, (GR d e nw th x))))) 0 (padL [vI x98] 1) [] (KD, m98, n98, (GR d e nw th x))) 0 (padL [vR 124, vI (m85 124 4)] 2) [] (KD, m85, n85, (GR d e nw th x))))) 0 (padL [vR 124, vI (m74 124 4)] 2) [] (KD, m74, n74, (GR d e nw th x))))) 0 (padL [vR 124] 1) [] (KD, MI, ML, (GR d e nw th x))) :
    wp cs mX12_doctype KD Q 73 [some (vR 124), some (vI l1), some (vI l2)] [] (KD, MI, ML, (GR d e nw th x)) := by
  refine wp_aload_n dX12_doctype_73 rfl rfl (by first | exact Or.inl (by decide) | exact Or.inl (by omega) | exact Or.inr (by decide) | exact Or.inr (by omega)) ?_
  refine wp_cVq (n := 0) (mt' := mX12_isGood) (as := []) (rest := []) _ dX12_doctype_74 lX12_289 kX12_isGood vX12_isGood (by decide) (by decide +kernel) rfl (Nat.le_of_ble_eq_true rfl) (by decide) rfl rfl rfl (Nat.le_of_ble_eq_true rfl) (fun hM hS => h) (fun r M' hq hM => ?_)
  obtain ⟨x74, m74, n74, rfl, rfl, h⟩ := rI_out hq
  refine wp_if_eq (tgt := 186) dX12_doctype_77 (by decide) (fun h77 => ?_) (fun h77 => ?_)
  · replace h := h.1 h77
    refine wp_aload_n dX12_doctype_186 rfl rfl (by first | exact Or.inl (by decide) | exact Or.inl (by omega) | exact Or.inr (by decide) | exact Or.inr (by omega)) ?_
    refine wp_bipush dX12_doctype_187 (by decide +kernel) (by decide) ?_
    refine wp_cVq (n := 1) (mt' := mX12_passes) (as := [vI 93]) (rest := []) _ dX12_doctype_189 lX12_340 kX12_passes vX12_passes (by decide) (by decide +kernel) rfl (Nat.le_of_ble_eq_true rfl) (by decide) rfl rfl rfl (Nat.le_of_ble_eq_true rfl) (fun hM hS => h) (fun r M' hq hM => ?_)
    obtain ⟨x189, m189, n189, rfl, rfl, h⟩ := rI_out hq
    refine wp_istore_n dX12_doctype_192 rfl (by decide) (wp_L (L' := [some (vR 124), some (vI l1), some (vI x189)]) rfl ?_)
    refine wp_aload_n dX12_doctype_193 rfl rfl (by first | exact Or.inl (by decide) | exact Or.inl (by omega) | exact Or.inr (by decide) | exact Or.inr (by omega)) ?_
    refine wp_cVq (n := 0) (mt' := mX12_maybeS) (as := []) (rest := []) _ dX12_doctype_194 lX12_300 kX12_maybeS vX12_maybeS (by decide) (by decide +kernel) rfl (Nat.le_of_ble_eq_true rfl) (by decide) rfl rfl rfl (Nat.le_of_ble_eq_true rfl) (fun hM hS => h) (fun r M' hq hM => ?_)
    obtain ⟨m194, n194, rfl, rfl, h⟩ := rV_out hq
    refine wp_aload_n dX12_doctype_197 rfl rfl (by first | exact Or.inl (by decide) | exact Or.inl (by omega) | exact Or.inr (by decide) | exact Or.inr (by omega)) ?_
    refine wp_bipush dX12_doctype_198 (by decide +kernel) (by decide) ?_
    refine wp_cVq (n := 1) (mt' := mX12_passes) (as := [vI 62]) (rest := []) _ dX12_doctype_200 lX12_340 kX12_passes vX12_passes (by decide) (by decide +kernel) rfl (Nat.le_of_ble_eq_true rfl) (by decide) rfl rfl rfl (Nat.le_of_ble_eq_true rfl) (fun hM hS => h) (fun r M' hq hM => ?_)
    obtain ⟨x200, m200, n200, rfl, rfl, h⟩ := rI_out hq
    refine wp_istore_n dX12_doctype_203 rfl (by decide) (wp_L (L' := [some (vR 124), some (vI l1), some (vI x200)]) rfl ?_)
    exact wp_vret dX12_doctype_204 rfl (fun _ => h)
  · replace h := h.2 h77
    refine wp_aload_n dX12_doctype_80 rfl rfl (by first | exact Or.inl (by decide) | exact Or.inl (by omega) | exact Or.inr (by decide) | exact Or.inr (by omega)) ?_
    refine wp_aload_n dX12_doctype_81 rfl rfl (by first | exact Or.inl (by decide) | exact Or.inl (by omega) | exact Or.inr (by decide) | exact Or.inr (by omega)) ?_
    refine wp_getI dX12_doctype_82 fX12_276 rfl (by decide) ?_
    refine wp_cVq (n := 1) (mt' := mX12_octet) (as := [vI (m74 124 4)]) (rest := []) _ dX12_doctype_85 lX12_279 kX12_octet vX12_octet (by decide) (by decide +kernel) rfl (Nat.le_of_ble_eq_true rfl) (by decide) rfl rfl rfl (Nat.le_of_ble_eq_true rfl) (fun hM hS => h) (fun r M' hq hM => ?_)
    obtain ⟨x85, m85, n85, rfl, rfl, h⟩ := rI_out hq
    refine wp_bipush dX12_doctype_88 (by decide +kernel) (by decide) ?_
    refine wp_icmp_eq (tgt := 186) dX12_doctype_90 (by decide) (fun h90 => ?_) (fun h90 => ?_)
    · replace h := h.1 h90
      refine wp_aload_n dX12_doctype_186 rfl rfl (by first | exact Or.inl (by decide) | exact Or.inl (by omega) | exact Or.inr (by decide) | exact Or.inr (by omega)) ?_
      refine wp_bipush dX12_doctype_187 (by decide +kernel) (by decide) ?_
      refine wp_cVq (n := 1) (mt' := mX12_passes) (as := [vI 93]) (rest := []) _ dX12_doctype_189 lX12_340 kX12_passes vX12_passes (by decide) (by decide +kernel) rfl (Nat.le_of_ble_eq_true rfl) (by decide) rfl rfl rfl (Nat.le_of_ble_eq_true rfl) (fun hM hS => h) (fun r M' hq hM => ?_)
      obtain ⟨x189, m189, n189, rfl, rfl, h⟩ := rI_out hq
      refine wp_istore_n dX12_doctype_192 rfl (by decide) (wp_L (L' := [some (vR 124), some (vI l1), some (vI x189)]) rfl ?_)
      refine wp_aload_n dX12_doctype_193 rfl rfl (by first | exact Or.inl (by decide) | exact Or.inl (by omega) | exact Or.inr (by decide) | exact Or.inr (by omega)) ?_
      refine wp_cVq (n := 0) (mt' := mX12_maybeS) (as := []) (rest := []) _ dX12_doctype_194 lX12_300 kX12_maybeS vX12_maybeS (by decide) (by decide +kernel) rfl (Nat.le_of_ble_eq_true rfl) (by decide) rfl rfl rfl (Nat.le_of_ble_eq_true rfl) (fun hM hS => h) (fun r M' hq hM => ?_)
      obtain ⟨m194, n194, rfl, rfl, h⟩ := rV_out hq
      refine wp_aload_n dX12_doctype_197 rfl rfl (by first | exact Or.inl (by decide) | exact Or.inl (by omega) | exact Or.inr (by decide) | exact Or.inr (by omega)) ?_
      refine wp_bipush dX12_doctype_198 (by decide +kernel) (by decide) ?_
      refine wp_cVq (n := 1) (mt' := mX12_passes) (as := [vI 62]) (rest := []) _ dX12_doctype_200 lX12_340 kX12_passes vX12_passes (by decide) (by decide +kernel) rfl (Nat.le_of_ble_eq_true rfl) (by decide) rfl rfl rfl (Nat.le_of_ble_eq_true rfl) (fun hM hS => h) (fun r M' hq hM => ?_)
      obtain ⟨x200, m200, n200, rfl, rfl, h⟩ := rI_out hq
      refine wp_istore_n dX12_doctype_203 rfl (by decide) (wp_L (L' := [some (vR 124), some (vI l1), some (vI x200)]) rfl ?_)
      exact wp_vret dX12_doctype_204 rfl (fun _ => h)
    · replace h := h.2 h90
      refine wp_aload_n dX12_doctype_93 rfl rfl (by first | exact Or.inl (by decide) | exact Or.inl (by omega) | exact Or.inr (by decide) | exact Or.inr (by omega)) ?_
      refine wp_aload_n dX12_doctype_94 rfl rfl (by first | exact Or.inl (by decide) | exact Or.inl (by omega) | exact Or.inr (by decide) | exact Or.inr (by omega)) ?_
      refine wp_getI dX12_doctype_95 fX12_276 rfl (by decide) ?_
      refine wp_cVq (n := 1) (mt' := mX12_octet) (as := [vI (m85 124 4)]) (rest := []) _ dX12_doctype_98 lX12_279 kX12_octet vX12_octet (by decide) (by decide +kernel) rfl (Nat.le_of_ble_eq_true rfl) (by decide) rfl rfl rfl (Nat.le_of_ble_eq_true rfl) (fun hM hS => h) (fun r M' hq hM => ?_)
      obtain ⟨x98, m98, n98, rfl, rfl, h⟩ := rI_out hq
      refine wp_cSq (n := 1) (mt' := mX12_isS) (as := [vI x98]) (rest := []) _ dX12_doctype_101 lX12_297 kX12_isS vX12_isS (by decide) (by decide +kernel) rfl (Nat.le_of_ble_eq_true rfl) rfl (Nat.le_of_ble_eq_true rfl) (fun hM hS => h) (fun r M' hq hM => ?_)
      obtain ⟨x101, m101, n101, rfl, rfl, h⟩ := rI_out hq
      refine wp_if_eq (tgt := 114) dX12_doctype_104 (by decide) (fun h104 => ?_) (fun h104 => ?_)
      · replace h := h.1 h104
        refine wp_aload_n dX12_doctype_114 rfl rfl (by first | exact Or.inl (by decide) | exact Or.inl (by omega) | exact Or.inr (by decide) | exact Or.inr (by omega)) ?_
        refine wp_ldc2 (x := 1008807213) dX12_doctype_115 cX12_343 (by decide) ?_
        refine wp_iconst dX12_doctype_118 (by decide) ?_
        refine wp_cVq (n := 2) (mt' := mX12_stands) (as := [vL 1008807213, vI 4]) (rest := []) _ dX12_doctype_119 lX12_285 kX12_stands vX12_stands (by decide) (by decide +kernel) rfl (Nat.le_of_ble_eq_true rfl) (by decide) rfl rfl rfl (Nat.le_of_ble_eq_true rfl) (fun hM hS => h) (fun r M' hq hM => ?_)
        obtain ⟨x119, m119, n119, rfl, rfl, h⟩ := rI_out hq
        refine wp_if_eq (tgt := 132) dX12_doctype_122 (by decide) (fun h122 => ?_) (fun h122 => ?_)
        · replace h := h.1 h122
          refine wp_aload_n dX12_doctype_132 rfl rfl (by first | exact Or.inl (by decide) | exact Or.inl (by omega) | exact Or.inr (by decide) | exact Or.inr (by omega)) ?_
          refine wp_ldc2 (x := 4332820510389650766) dX12_doctype_133 cX12_354 (by decide) ?_
          refine wp_ldc2 (x := 84) dX12_doctype_136 cX12_356 (by decide) ?_
          refine wp_iconst dX12_doctype_139 (by decide) ?_
          refine wp_cVq (n := 3) (mt' := mX12_stands2) (as := [vL 4332820510389650766, vL 84, vI 1]) (rest := []) _ dX12_doctype_140 lX12_358 kX12_stands2 vX12_stands2 (by decide) (by decide +kernel) rfl (Nat.le_of_ble_eq_true rfl) (by decide) rfl rfl rfl (Nat.le_of_ble_eq_true rfl) (fun hM hS => h) (fun r M' hq hM => ?_)
          obtain ⟨x140, m140, n140, rfl, rfl, h⟩ := rI_out hq
          refine wp_if_eq (tgt := 153) dX12_doctype_143 (by decide) (fun h143 => ?_) (fun h143 => ?_)
          · replace h := h.1 h143
            refine wp_aload_n dX12_doctype_153 rfl rfl (by first | exact Or.inl (by decide) | exact Or.inl (by omega) | exact Or.inr (by decide) | exact Or.inr (by omega)) ?_
            refine wp_ldc2 (x := 4332816146954471763) dX12_doctype_154 cX12_365 (by decide) ?_
            refine wp_ldc2 (x := 84) dX12_doctype_157 cX12_356 (by decide) ?_
            refine wp_iconst dX12_doctype_160 (by decide) ?_
            refine wp_cVq (n := 3) (mt' := mX12_stands2) (as := [vL 4332816146954471763, vL 84, vI 1]) (rest := []) _ dX12_doctype_161 lX12_358 kX12_stands2 vX12_stands2 (by decide) (by decide +kernel) rfl (Nat.le_of_ble_eq_true rfl) (by decide) rfl rfl rfl (Nat.le_of_ble_eq_true rfl) (fun hM hS => h) (fun r M' hq hM => ?_)
            obtain ⟨x161, m161, n161, rfl, rfl, h⟩ := rI_out hq
            refine wp_if_eq (tgt := 174) dX12_doctype_164 (by decide) (fun h164 => ?_) (fun h164 => ?_)
            · replace h := h.1 h164
              refine wp_aload_n dX12_doctype_174 rfl rfl (by first | exact Or.inl (by decide) | exact Or.inl (by omega) | exact Or.inr (by decide) | exact Or.inr (by omega)) ?_
              refine wp_iconst dX12_doctype_175 (by decide) ?_
              refine wp_aload_n dX12_doctype_176 rfl rfl (by first | exact Or.inl (by decide) | exact Or.inl (by omega) | exact Or.inr (by decide) | exact Or.inr (by omega)) ?_
              refine wp_getI dX12_doctype_177 fX12_276 rfl (by decide) ?_
              refine wp_cVq (n := 2) (mt' := mX12_fail) (as := [vI (-1), vI (m161 124 4)]) (rest := []) _ dX12_doctype_180 lX12_293 kX12_fail vX12_fail (by decide) (by decide +kernel) rfl (Nat.le_of_ble_eq_true rfl) (by decide) rfl rfl rfl (Nat.le_of_ble_eq_true rfl) (fun hM hS => h) (fun r M' hq hM => ?_)
              obtain ⟨m180, n180, rfl, rfl, h⟩ := rV_out hq
              refine wp_goto (tgt := 73) dX12_doctype_183 (by decide) ?_
              exact h
            · replace h := h.2 h164
              refine wp_aload_n dX12_doctype_167 rfl rfl (by first | exact Or.inl (by decide) | exact Or.inl (by omega) | exact Or.inr (by decide) | exact Or.inr (by omega)) ?_
              refine wp_cVq (n := 0) (mt' := mX12_attributeList) (as := []) (rest := []) _ dX12_doctype_168 lX12_367 kX12_attributeList vX12_attributeList (by decide) (by decide +kernel) rfl (Nat.le_of_ble_eq_true rfl) (by decide) rfl rfl rfl (Nat.le_of_ble_eq_true rfl) (fun hM hS => h) (fun r M' hq hM => ?_)
              obtain ⟨m168, n168, rfl, rfl, h⟩ := rV_out hq
              refine wp_goto (tgt := 73) dX12_doctype_171 (by decide) ?_
              exact h
          · replace h := h.2 h143
            refine wp_aload_n dX12_doctype_146 rfl rfl (by first | exact Or.inl (by decide) | exact Or.inl (by omega) | exact Or.inr (by decide) | exact Or.inr (by omega)) ?_
            refine wp_cVq (n := 0) (mt' := mX12_declaration) (as := []) (rest := []) _ dX12_doctype_147 lX12_362 kX12_declaration vX12_declaration (by decide) (by decide +kernel) rfl (Nat.le_of_ble_eq_true rfl) (by decide) rfl rfl rfl (Nat.le_of_ble_eq_true rfl) (fun hM hS => h) (fun r M' hq hM => ?_)
            obtain ⟨m147, n147, rfl, rfl, h⟩ := rV_out hq
            refine wp_goto (tgt := 73) dX12_doctype_150 (by decide) ?_
            exact h
        · replace h := h.2 h122
          refine wp_aload_n dX12_doctype_125 rfl rfl (by first | exact Or.inl (by decide) | exact Or.inl (by omega) | exact Or.inr (by decide) | exact Or.inr (by omega)) ?_
          refine wp_cVq (n := 0) (mt' := mX12_comment) (as := []) (rest := []) _ dX12_doctype_126 lX12_345 kX12_comment vX12_comment (by decide) (by decide +kernel) rfl (Nat.le_of_ble_eq_true rfl) (by decide) rfl rfl rfl (Nat.le_of_ble_eq_true rfl) (fun hM hS => h) (fun r M' hq hM => ?_)
          obtain ⟨m126, n126, rfl, rfl, h⟩ := rV_out hq
          refine wp_goto (tgt := 73) dX12_doctype_129 (by decide) ?_
          exact h
      · replace h := h.2 h104
        refine wp_aload_n dX12_doctype_107 rfl rfl (by first | exact Or.inl (by decide) | exact Or.inl (by omega) | exact Or.inr (by decide) | exact Or.inr (by omega)) ?_
        refine wp_cVq (n := 0) (mt' := mX12_maybeS) (as := []) (rest := []) _ dX12_doctype_108 lX12_300 kX12_maybeS vX12_maybeS (by decide) (by decide +kernel) rfl (Nat.le_of_ble_eq_true rfl) (by decide) rfl rfl rfl (Nat.le_of_ble_eq_true rfl) (fun hM hS => h) (fun r M' hq hM => ?_)
        obtain ⟨m108, n108, rfl, rfl, h⟩ := rV_out hq
        refine wp_goto (tgt := 73) dX12_doctype_111 (by decide) ?_
        exact h
theorem dX12_hasAttribute_0 : decode cX12_hasAttribute 0 = .ok (.iconst 0, 1) := by decide +kernel
theorem dX12_hasAttribute_1 : decode cX12_hasAttribute 1 = .ok (.istore 4, 2) := by decide +kernel
theorem dX12_hasAttribute_3 : decode cX12_hasAttribute 3 = .ok (.sipush 600, 3) := by decide +kernel
theorem dX12_hasAttribute_6 : decode cX12_hasAttribute 6 = .ok (.aload_n 0, 1) := by decide +kernel
theorem dX12_hasAttribute_7 : decode cX12_hasAttribute 7 = .ok (.getfield 328, 3) := by decide +kernel
theorem dX12_hasAttribute_10 : decode cX12_hasAttribute 10 = .ok (.imul, 1) := by decide +kernel
theorem dX12_hasAttribute_11 : decode cX12_hasAttribute 11 = .ok (.iload_n 1, 1) := by decide +kernel
theorem dX12_hasAttribute_12 : decode cX12_hasAttribute 12 = .ok (.iadd, 1) := by decide +kernel
theorem dX12_hasAttribute_13 : decode cX12_hasAttribute 13 = .ok (.istore 5, 2) := by decide +kernel
theorem dX12_hasAttribute_15 : decode cX12_hasAttribute 15 = .ok (.iload 5, 2) := by decide +kernel
theorem dX12_hasAttribute_17 : decode cX12_hasAttribute 17 = .ok (.sipush 600, 3) := by decide +kernel
theorem dX12_hasAttribute_20 : decode cX12_hasAttribute 20 = .ok (.aload_n 0, 1) := by decide +kernel
theorem dX12_hasAttribute_21 : decode cX12_hasAttribute 21 = .ok (.getfield 328, 3) := by decide +kernel
theorem dX12_hasAttribute_24 : decode cX12_hasAttribute 24 = .ok (.imul, 1) := by decide +kernel
theorem dX12_hasAttribute_25 : decode cX12_hasAttribute 25 = .ok (.aload_n 0, 1) := by decide +kernel
theorem dX12_hasAttribute_26 : decode cX12_hasAttribute 26 = .ok (.getfield 27, 3) := by decide +kernel
theorem dX12_hasAttribute_29 : decode cX12_hasAttribute 29 = .ok (.aload_n 0, 1) := by decide +kernel
theorem dX12_hasAttribute_30 : decode cX12_hasAttribute 30 = .ok (.getfield 328, 3) := by decide +kernel
theorem dX12_hasAttribute_33 : decode cX12_hasAttribute 33 = .ok (.iaload, 1) := by decide +kernel
theorem dX12_hasAttribute_34 : decode cX12_hasAttribute 34 = .ok (.iadd, 1) := by decide +kernel
theorem dX12_hasAttribute_35 : decode cX12_hasAttribute 35 = .ok (.if_icmp .ge 66, 3) := by decide +kernel
theorem dX12_hasAttribute_38 : decode cX12_hasAttribute 38 = .ok (.iload 4, 2) := by decide +kernel
theorem dX12_hasAttribute_40 : decode cX12_hasAttribute 40 = .ok (.ifCond .ne 48, 3) := by decide +kernel
theorem dX12_hasAttribute_43 : decode cX12_hasAttribute 43 = .ok (.aload_n 0, 1) := by decide +kernel
theorem dX12_hasAttribute_44 : decode cX12_hasAttribute 44 = .ok (.getfield 31, 3) := by decide +kernel
theorem dX12_hasAttribute_47 : decode cX12_hasAttribute 47 = .ok (.iload 5, 2) := by decide +kernel
theorem dX12_hasAttribute_49 : decode cX12_hasAttribute 49 = .ok (.iaload, 1) := by decide +kernel
theorem dX12_hasAttribute_50 : decode cX12_hasAttribute 50 = .ok (.iconst 2, 1) := by decide +kernel
theorem dX12_hasAttribute_51 : decode cX12_hasAttribute 51 = .ok (.if_icmp .ne 41, 3) := by decide +kernel
theorem dX12_hasAttribute_54 : decode cX12_hasAttribute 54 = .ok (.aload_n 0, 1) := by decide +kernel
theorem dX12_hasAttribute_55 : decode cX12_hasAttribute 55 = .ok (.getfield 34, 3) := by decide +kernel
theorem dX12_hasAttribute_58 : decode cX12_hasAttribute 58 = .ok (.iload 5, 2) := by decide +kernel
theorem dX12_hasAttribute_60 : decode cX12_hasAttribute 60 = .ok (.iaload, 1) := by decide +kernel
theorem dX12_hasAttribute_61 : decode cX12_hasAttribute 61 = .ok (.iload_n 1, 1) := by decide +kernel
theorem dX12_hasAttribute_62 : decode cX12_hasAttribute 62 = .ok (.if_icmp .ne 30, 3) := by decide +kernel
theorem dX12_hasAttribute_65 : decode cX12_hasAttribute 65 = .ok (.aload_n 0, 1) := by decide +kernel
theorem dX12_hasAttribute_66 : decode cX12_hasAttribute 66 = .ok (.aload_n 0, 1) := by decide +kernel
theorem dX12_hasAttribute_67 : decode cX12_hasAttribute 67 = .ok (.getfield 37, 3) := by decide +kernel
theorem dX12_hasAttribute_70 : decode cX12_hasAttribute 70 = .ok (.iload 5, 2) := by decide +kernel
theorem dX12_hasAttribute_72 : decode cX12_hasAttribute 72 = .ok (.iaload, 1) := by decide +kernel
theorem dX12_hasAttribute_73 : decode cX12_hasAttribute 73 = .ok (.aload_n 0, 1) := by decide +kernel
theorem dX12_hasAttribute_74 : decode cX12_hasAttribute 74 = .ok (.getfield 40, 3) := by decide +kernel
theorem dX12_hasAttribute_77 : decode cX12_hasAttribute 77 = .ok (.iload 5, 2) := by decide +kernel
theorem dX12_hasAttribute_79 : decode cX12_hasAttribute 79 = .ok (.iaload, 1) := by decide +kernel
theorem dX12_hasAttribute_80 : decode cX12_hasAttribute 80 = .ok (.iload_n 2, 1) := by decide +kernel
theorem dX12_hasAttribute_81 : decode cX12_hasAttribute 81 = .ok (.iload_n 3, 1) := by decide +kernel
theorem dX12_hasAttribute_82 : decode cX12_hasAttribute 82 = .ok (.invokevirtual 412, 3) := by decide +kernel
theorem dX12_hasAttribute_85 : decode cX12_hasAttribute 85 = .ok (.ifCond .eq 7, 3) := by decide +kernel
theorem dX12_hasAttribute_88 : decode cX12_hasAttribute 88 = .ok (.iconst 1, 1) := by decide +kernel
theorem dX12_hasAttribute_89 : decode cX12_hasAttribute 89 = .ok (.goto 4, 3) := by decide +kernel
theorem dX12_hasAttribute_92 : decode cX12_hasAttribute 92 = .ok (.iconst 0, 1) := by decide +kernel
theorem dX12_hasAttribute_93 : decode cX12_hasAttribute 93 = .ok (.istore 4, 2) := by decide +kernel
theorem dX12_hasAttribute_95 : decode cX12_hasAttribute 95 = .ok (.iinc 5 1, 3) := by decide +kernel
theorem dX12_hasAttribute_98 : decode cX12_hasAttribute 98 = .ok (.goto (-83), 3) := by decide +kernel
theorem dX12_hasAttribute_101 : decode cX12_hasAttribute 101 = .ok (.iload 4, 2) := by decide +kernel
theorem dX12_hasAttribute_103 : decode cX12_hasAttribute 103 = .ok (.ireturn, 1) := by decide +kernel
theorem v_X12_hasAttribute_0 {cs : Cs} {Q : Option AV → Mm → Prop} {MI ML : Nat → Nat → Int} {d e nw th x : Nat} {l1 l2 l3 : Int}
    (h : (-2147483648 ≤ 600 * (MI 124 8) ∧ 600 * (MI 124 8) < 2147483648) ∧ (-2147483648 ≤ (600 * (MI 124 8)) + l1 ∧ (600 * (MI 124 8)) + l1 < 2147483648) ∧ wp cs mX12_hasAttribute KD Q 15 [some (vR 124), some (vI l1), some (vI l2), some (vI l3), some (vI 0), some (vI ((600 * (MI 124 8)) + l1))] [] (KD, MI, ML, (GR d e nw th x))) :
    wp cs mX12_hasAttribute KD Q 0 (padL [vR 124, vI l1, vI l2, vI l3] 6) [] (KD, MI, ML, (GR d e nw th x)) := by
  refine wp_L (L' := [some (vR 124), some (vI l1), some (vI l2), some (vI l3), none, none]) rfl ?_
  refine wp_iconst dX12_hasAttribute_0 (by decide) ?_
  refine wp_istore dX12_hasAttribute_1 (by decide) (wp_L (L' := [some (vR 124), some (vI l1), some (vI l2), some (vI l3), some (vI 0), none]) rfl ?_)
  refine wp_sipush dX12_hasAttribute_3 (by decide +kernel) (by decide) ?_
  refine wp_aload_n dX12_hasAttribute_6 rfl rfl (by first | exact Or.inl (by decide) | exact Or.inl (by omega) | exact Or.inr (by decide) | exact Or.inr (by omega)) ?_
  refine wp_getI dX12_hasAttribute_7 fX12_328 rfl (by decide) ?_
  have c0 := h.1
  replace h := h.2
  refine wp_imulr dX12_hasAttribute_10 c0 ?_
  refine wp_iload_n dX12_hasAttribute_11 rfl rfl ?_
  refine wp_pc (pc' := 12) rfl ?_
  have c1 := h.1
  replace h := h.2
  refine wp_iaddr dX12_hasAttribute_12 c1 ?_
  refine wp_istore dX12_hasAttribute_13 (by decide) (wp_L (L' := [some (vR 124), some (vI l1), some (vI l2), some (vI l3), some (vI 0), some (vI ((600 * (MI 124 8)) + l1))]) rfl ?_)
  exact h
theorem v_X12_hasAttribute_15 {cs : Cs} {Q : Option AV → Mm → Prop} {MI ML : Nat → Nat → Int} {d e nw th x : Nat} {l1 l2 l3 l4 l5 : Int}
    (h : (-2147483648 ≤ 600 * (MI 124 8) ∧ 600 * (MI 124 8) < 2147483648) ∧ (0 ≤ (MI 124 8) ∧ (MI 124 8) < 2) ∧ (-2147483648 ≤ (600 * (MI 124 8)) + (MI 129 (MI 124 8).toNat) ∧ (600 * (MI 124 8)) + (MI 129 (MI 124 8).toNat) < 2147483648) ∧ ((l5 < ((600 * (MI 124 8)) + (MI 129 (MI 124 8).toNat)) → ((l4 = 0 → (0 ≤ l5 ∧ l5 < 1200) ∧ (((MI 130 l5.toNat) = 2 → (((MI 131 l5.toNat) = l1 → wp cs mX12_isSame KD (rI (GR d e nw th x) fun x82 m82 n82 => ((x82 = 0 → (-2147483648 ≤ l5 + 1 ∧ l5 + 1 < 2147483648) ∧ wp cs mX12_hasAttribute KD Q 15 [some (vR 124), some (vI l1), some (vI l2), some (vI l3), some (vI 0), some (vI (l5 + 1))] [] (KD, m82, n82, (GR d e nw th x))) ∧ (x82 ≠ 0 → (-2147483648 ≤ l5 + 1 ∧ l5 + 1 < 2147483648) ∧ wp cs mX12_hasAttribute KD Q 15 [some (vR 124), some (vI l1), some (vI l2), some (vI l3), some (vI 1), some (vI (l5 + 1))] [] (KD, m82, n82, (GR d e nw th x))))) 0 (padL [vR 124, vI (MI 132 l5.toNat), vI (MI 133 l5.toNat), vI l2, vI l3] 7) [] (KD, MI, ML, (GR d e nw th x))) ∧ ((MI 131 l5.toNat) ≠ l1 → (-2147483648 ≤ l5 + 1 ∧ l5 + 1 < 2147483648) ∧ wp cs mX12_hasAttribute KD Q 15 [some (vR 124), some (vI l1), some (vI l2), some (vI l3), some (vI 0), some (vI (l5 + 1))] [] (KD, MI, ML, (GR d e nw th x))))) ∧ ((MI 130 l5.toNat) ≠ 2 → (-2147483648 ≤ l5 + 1 ∧ l5 + 1 < 2147483648) ∧ wp cs mX12_hasAttribute KD Q 15 [some (vR 124), some (vI l1), some (vI l2), some (vI l3), some (vI 0), some (vI (l5 + 1))] [] (KD, MI, ML, (GR d e nw th x))))) ∧ (l4 ≠ 0 → (-2147483648 ≤ l5 + 1 ∧ l5 + 1 < 2147483648) ∧ wp cs mX12_hasAttribute KD Q 15 [some (vR 124), some (vI l1), some (vI l2), some (vI l3), some (vI 1), some (vI (l5 + 1))] [] (KD, MI, ML, (GR d e nw th x))))) ∧ (((600 * (MI 124 8)) + (MI 129 (MI 124 8).toNat)) ≤ l5 → (l4 = 0 ∨ l4 = 1) ∧ Q (some (vI l4)) (MI, ML, (GR d e nw th x))))) :
    wp cs mX12_hasAttribute KD Q 15 [some (vR 124), some (vI l1), some (vI l2), some (vI l3), some (vI l4), some (vI l5)] [] (KD, MI, ML, (GR d e nw th x)) := by
  refine wp_iload dX12_hasAttribute_15 rfl ?_
  refine wp_sipush dX12_hasAttribute_17 (by decide +kernel) (by decide) ?_
  refine wp_aload_n dX12_hasAttribute_20 rfl rfl (by first | exact Or.inl (by decide) | exact Or.inl (by omega) | exact Or.inr (by decide) | exact Or.inr (by omega)) ?_
  refine wp_getI dX12_hasAttribute_21 fX12_328 rfl (by decide) ?_
  have c0 := h.1
  replace h := h.2
  refine wp_imulr dX12_hasAttribute_24 c0 ?_
  refine wp_aload_n dX12_hasAttribute_25 rfl rfl (by first | exact Or.inl (by decide) | exact Or.inl (by omega) | exact Or.inr (by decide) | exact Or.inr (by omega)) ?_
  refine wp_getR dX12_hasAttribute_26 fX12_27 rfl (by decide) ?_
  refine wp_topR (x' := 129) rfl ?_
  refine wp_pc (pc' := 29) rfl ?_
  refine wp_aload_n dX12_hasAttribute_29 rfl rfl (by first | exact Or.inl (by decide) | exact Or.inl (by omega) | exact Or.inr (by decide) | exact Or.inr (by omega)) ?_
  refine wp_getI dX12_hasAttribute_30 fX12_328 rfl (by decide) ?_
  have c1 := h.1
  replace h := h.2
  refine wp_iald dX12_hasAttribute_33 rfl (by decide) c1 ?_
  have c2 := h.1
  replace h := h.2
  refine wp_iaddr dX12_hasAttribute_34 c2 ?_
  refine wp_icmp_ge (tgt := 101) dX12_hasAttribute_35 (by decide) (fun h35 => ?_) (fun h35 => ?_)
  · replace h := h.2 h35
    refine wp_iload dX12_hasAttribute_101 rfl ?_
    exact wp_zret dX12_hasAttribute_103 rfl h.1 (fun _ => h.2)
  · replace h := h.1 h35
    refine wp_iload dX12_hasAttribute_38 rfl ?_
    refine wp_if_ne (tgt := 88) dX12_hasAttribute_40 (by decide) (fun h40 => ?_) (fun h40 => ?_)
    · replace h := h.2 h40
      refine wp_iconst dX12_hasAttribute_88 (by decide) ?_
      refine wp_goto (tgt := 93) dX12_hasAttribute_89 (by decide) ?_
      refine wp_istore dX12_hasAttribute_93 (by decide) (wp_L (L' := [some (vR 124), some (vI l1), some (vI l2), some (vI l3), some (vI 1), some (vI l5)]) rfl ?_)
      have c3 := h.1
      replace h := h.2
      refine wp_iincr dX12_hasAttribute_95 rfl (by decide) c3 (wp_L (L' := [some (vR 124), some (vI l1), some (vI l2), some (vI l3), some (vI 1), some (vI (l5 + 1))]) rfl ?_)
      refine wp_goto (tgt := 15) dX12_hasAttribute_98 (by decide) ?_
      exact h
    · replace h := h.1 h40
      refine wp_aload_n dX12_hasAttribute_43 rfl rfl (by first | exact Or.inl (by decide) | exact Or.inl (by omega) | exact Or.inr (by decide) | exact Or.inr (by omega)) ?_
      refine wp_getR dX12_hasAttribute_44 fX12_31 rfl (by decide) ?_
      refine wp_topR (x' := 130) rfl ?_
      refine wp_iload dX12_hasAttribute_47 rfl ?_
      have c3 := h.1
      replace h := h.2
      refine wp_iald dX12_hasAttribute_49 rfl (by decide) c3 ?_
      refine wp_iconst dX12_hasAttribute_50 (by decide) ?_
      refine wp_icmp_ne (tgt := 92) dX12_hasAttribute_51 (by decide) (fun h51 => ?_) (fun h51 => ?_)
      · replace h := h.2 h51
        refine wp_iconst dX12_hasAttribute_92 (by decide) ?_
        refine wp_istore dX12_hasAttribute_93 (by decide) (wp_L (L' := [some (vR 124), some (vI l1), some (vI l2), some (vI l3), some (vI 0), some (vI l5)]) rfl ?_)
        have c4 := h.1
        replace h := h.2
        refine wp_iincr dX12_hasAttribute_95 rfl (by decide) c4 (wp_L (L' := [some (vR 124), some (vI l1), some (vI l2), some (vI l3), some (vI 0), some (vI (l5 + 1))]) rfl ?_)
        refine wp_goto (tgt := 15) dX12_hasAttribute_98 (by decide) ?_
        exact h
      · replace h := h.1 h51
        refine wp_aload_n dX12_hasAttribute_54 rfl rfl (by first | exact Or.inl (by decide) | exact Or.inl (by omega) | exact Or.inr (by decide) | exact Or.inr (by omega)) ?_
        refine wp_getR dX12_hasAttribute_55 fX12_34 rfl (by decide) ?_
        refine wp_topR (x' := 131) rfl ?_
        refine wp_iload dX12_hasAttribute_58 rfl ?_
        refine wp_iald dX12_hasAttribute_60 rfl (by decide) c3 ?_
        refine wp_iload_n dX12_hasAttribute_61 rfl rfl ?_
        refine wp_icmp_ne (tgt := 92) dX12_hasAttribute_62 (by decide) (fun h62 => ?_) (fun h62 => ?_)
        · replace h := h.2 h62
          refine wp_iconst dX12_hasAttribute_92 (by decide) ?_
          refine wp_istore dX12_hasAttribute_93 (by decide) (wp_L (L' := [some (vR 124), some (vI l1), some (vI l2), some (vI l3), some (vI 0), some (vI l5)]) rfl ?_)
          have c4 := h.1
          replace h := h.2
          refine wp_iincr dX12_hasAttribute_95 rfl (by decide) c4 (wp_L (L' := [some (vR 124), some (vI l1), some (vI l2), some (vI l3), some (vI 0), some (vI (l5 + 1))]) rfl ?_)
          refine wp_goto (tgt := 15) dX12_hasAttribute_98 (by decide) ?_
          exact h
        · replace h := h.1 h62
          refine wp_aload_n dX12_hasAttribute_65 rfl rfl (by first | exact Or.inl (by decide) | exact Or.inl (by omega) | exact Or.inr (by decide) | exact Or.inr (by omega)) ?_
          refine wp_aload_n dX12_hasAttribute_66 rfl rfl (by first | exact Or.inl (by decide) | exact Or.inl (by omega) | exact Or.inr (by decide) | exact Or.inr (by omega)) ?_
          refine wp_getR dX12_hasAttribute_67 fX12_37 rfl (by decide) ?_
          refine wp_topR (x' := 132) rfl ?_
          refine wp_iload dX12_hasAttribute_70 rfl ?_
          refine wp_iald dX12_hasAttribute_72 rfl (by decide) c3 ?_
          refine wp_aload_n dX12_hasAttribute_73 rfl rfl (by first | exact Or.inl (by decide) | exact Or.inl (by omega) | exact Or.inr (by decide) | exact Or.inr (by omega)) ?_
          refine wp_getR dX12_hasAttribute_74 fX12_40 rfl (by decide) ?_
          refine wp_topR (x' := 133) rfl ?_
          refine wp_pc (pc' := 77) rfl ?_
          refine wp_iload dX12_hasAttribute_77 rfl ?_
          refine wp_iald dX12_hasAttribute_79 rfl (by decide) c3 ?_
          refine wp_iload_n dX12_hasAttribute_80 rfl rfl ?_
          refine wp_iload_n dX12_hasAttribute_81 rfl rfl ?_
          refine wp_cVq (n := 4) (mt' := mX12_isSame) (as := [vI (MI 132 l5.toNat), vI (MI 133 l5.toNat), vI l2, vI l3]) (rest := []) _ dX12_hasAttribute_82 lX12_412 kX12_isSame vX12_isSame (by decide) (by decide +kernel) rfl (Nat.le_of_ble_eq_true rfl) (by decide) rfl rfl rfl (Nat.le_of_ble_eq_true rfl) (fun hM hS => h) (fun r M' hq hM => ?_)
          obtain ⟨x82, m82, n82, rfl, rfl, h⟩ := rI_out hq
          refine wp_if_eq (tgt := 92) dX12_hasAttribute_85 (by decide) (fun h85 => ?_) (fun h85 => ?_)
          · replace h := h.1 h85
            refine wp_iconst dX12_hasAttribute_92 (by decide) ?_
            refine wp_istore dX12_hasAttribute_93 (by decide) (wp_L (L' := [some (vR 124), some (vI l1), some (vI l2), some (vI l3), some (vI 0), some (vI l5)]) rfl ?_)
            have c4 := h.1
            replace h := h.2
            refine wp_iincr dX12_hasAttribute_95 rfl (by decide) c4 (wp_L (L' := [some (vR 124), some (vI l1), some (vI l2), some (vI l3), some (vI 0), some (vI (l5 + 1))]) rfl ?_)
            refine wp_goto (tgt := 15) dX12_hasAttribute_98 (by decide) ?_
            exact h
          · replace h := h.2 h85
            refine wp_iconst dX12_hasAttribute_88 (by decide) ?_
            refine wp_goto (tgt := 93) dX12_hasAttribute_89 (by decide) ?_
            refine wp_istore dX12_hasAttribute_93 (by decide) (wp_L (L' := [some (vR 124), some (vI l1), some (vI l2), some (vI l3), some (vI 1), some (vI l5)]) rfl ?_)
            have c4 := h.1
            replace h := h.2
            refine wp_iincr dX12_hasAttribute_95 rfl (by decide) c4 (wp_L (L' := [some (vR 124), some (vI l1), some (vI l2), some (vI l3), some (vI 1), some (vI (l5 + 1))]) rfl ?_)
            refine wp_goto (tgt := 15) dX12_hasAttribute_98 (by decide) ?_
            exact h
theorem dX12_attributesOf_0 : decode cX12_attributesOf 0 = .ok (.iconst 0, 1) := by decide +kernel
theorem dX12_attributesOf_1 : decode cX12_attributesOf 1 = .ok (.istore_n 2, 1) := by decide +kernel
theorem dX12_attributesOf_2 : decode cX12_attributesOf 2 = .ok (.sipush 600, 3) := by decide +kernel
theorem dX12_attributesOf_5 : decode cX12_attributesOf 5 = .ok (.aload_n 0, 1) := by decide +kernel
theorem dX12_attributesOf_6 : decode cX12_attributesOf 6 = .ok (.getfield 328, 3) := by decide +kernel
theorem dX12_attributesOf_9 : decode cX12_attributesOf 9 = .ok (.imul, 1) := by decide +kernel
theorem dX12_attributesOf_10 : decode cX12_attributesOf 10 = .ok (.iload_n 1, 1) := by decide +kernel
theorem dX12_attributesOf_11 : decode cX12_attributesOf 11 = .ok (.iadd, 1) := by decide +kernel
theorem dX12_attributesOf_12 : decode cX12_attributesOf 12 = .ok (.istore_n 3, 1) := by decide +kernel
theorem dX12_attributesOf_13 : decode cX12_attributesOf 13 = .ok (.iload_n 3, 1) := by decide +kernel
theorem dX12_attributesOf_14 : decode cX12_attributesOf 14 = .ok (.sipush 600, 3) := by decide +kernel
theorem dX12_attributesOf_17 : decode cX12_attributesOf 17 = .ok (.aload_n 0, 1) := by decide +kernel
theorem dX12_attributesOf_18 : decode cX12_attributesOf 18 = .ok (.getfield 328, 3) := by decide +kernel
theorem dX12_attributesOf_21 : decode cX12_attributesOf 21 = .ok (.imul, 1) := by decide +kernel
theorem dX12_attributesOf_22 : decode cX12_attributesOf 22 = .ok (.aload_n 0, 1) := by decide +kernel
theorem dX12_attributesOf_23 : decode cX12_attributesOf 23 = .ok (.getfield 27, 3) := by decide +kernel
theorem dX12_attributesOf_26 : decode cX12_attributesOf 26 = .ok (.aload_n 0, 1) := by decide +kernel
theorem dX12_attributesOf_27 : decode cX12_attributesOf 27 = .ok (.getfield 328, 3) := by decide +kernel
theorem dX12_attributesOf_30 : decode cX12_attributesOf 30 = .ok (.iaload, 1) := by decide +kernel
theorem dX12_attributesOf_31 : decode cX12_attributesOf 31 = .ok (.iadd, 1) := by decide +kernel
theorem dX12_attributesOf_32 : decode cX12_attributesOf 32 = .ok (.if_icmp .ge 37, 3) := by decide +kernel
theorem dX12_attributesOf_35 : decode cX12_attributesOf 35 = .ok (.iload_n 2, 1) := by decide +kernel
theorem dX12_attributesOf_36 : decode cX12_attributesOf 36 = .ok (.aload_n 0, 1) := by decide +kernel
theorem dX12_attributesOf_37 : decode cX12_attributesOf 37 = .ok (.getfield 31, 3) := by decide +kernel
theorem dX12_attributesOf_40 : decode cX12_attributesOf 40 = .ok (.iload_n 3, 1) := by decide +kernel
theorem dX12_attributesOf_41 : decode cX12_attributesOf 41 = .ok (.iaload, 1) := by decide +kernel
theorem dX12_attributesOf_42 : decode cX12_attributesOf 42 = .ok (.iconst 2, 1) := by decide +kernel
theorem dX12_attributesOf_43 : decode cX12_attributesOf 43 = .ok (.if_icmp .ne 17, 3) := by decide +kernel
theorem dX12_attributesOf_46 : decode cX12_attributesOf 46 = .ok (.aload_n 0, 1) := by decide +kernel
theorem dX12_attributesOf_47 : decode cX12_attributesOf 47 = .ok (.getfield 34, 3) := by decide +kernel
theorem dX12_attributesOf_50 : decode cX12_attributesOf 50 = .ok (.iload_n 3, 1) := by decide +kernel
theorem dX12_attributesOf_51 : decode cX12_attributesOf 51 = .ok (.iaload, 1) := by decide +kernel
theorem dX12_attributesOf_52 : decode cX12_attributesOf 52 = .ok (.iload_n 1, 1) := by decide +kernel
theorem dX12_attributesOf_53 : decode cX12_attributesOf 53 = .ok (.if_icmp .ne 7, 3) := by decide +kernel
theorem dX12_attributesOf_56 : decode cX12_attributesOf 56 = .ok (.iconst 1, 1) := by decide +kernel
theorem dX12_attributesOf_57 : decode cX12_attributesOf 57 = .ok (.goto 4, 3) := by decide +kernel
theorem dX12_attributesOf_60 : decode cX12_attributesOf 60 = .ok (.iconst 0, 1) := by decide +kernel
theorem dX12_attributesOf_61 : decode cX12_attributesOf 61 = .ok (.iadd, 1) := by decide +kernel
theorem dX12_attributesOf_62 : decode cX12_attributesOf 62 = .ok (.istore_n 2, 1) := by decide +kernel
theorem dX12_attributesOf_63 : decode cX12_attributesOf 63 = .ok (.iinc 3 1, 3) := by decide +kernel
theorem dX12_attributesOf_66 : decode cX12_attributesOf 66 = .ok (.goto (-53), 3) := by decide +kernel
theorem dX12_attributesOf_69 : decode cX12_attributesOf 69 = .ok (.iload_n 2, 1) := by decide +kernel
theorem dX12_attributesOf_70 : decode cX12_attributesOf 70 = .ok (.ireturn, 1) := by decide +kernel
theorem v_X12_attributesOf_0 {cs : Cs} {Q : Option AV → Mm → Prop} {MI ML : Nat → Nat → Int} {d e nw th x : Nat} {l1 : Int}
    (h : (-2147483648 ≤ 600 * (MI 124 8) ∧ 600 * (MI 124 8) < 2147483648) ∧ (-2147483648 ≤ (600 * (MI 124 8)) + l1 ∧ (600 * (MI 124 8)) + l1 < 2147483648) ∧ wp cs mX12_attributesOf KD Q 13 [some (vR 124), some (vI l1), some (vI 0), some (vI ((600 * (MI 124 8)) + l1))] [] (KD, MI, ML, (GR d e nw th x))) :
    wp cs mX12_attributesOf KD Q 0 (padL [vR 124, vI l1] 4) [] (KD, MI, ML, (GR d e nw th x)) := by
  refine wp_L (L' := [some (vR 124), some (vI l1), none, none]) rfl ?_
  refine wp_iconst dX12_attributesOf_0 (by decide) ?_
  refine wp_istore_n dX12_attributesOf_1 rfl (by decide) (wp_L (L' := [some (vR 124), some (vI l1), some (vI 0), none]) rfl ?_)
  refine wp_sipush dX12_attributesOf_2 (by decide +kernel) (by decide) ?_
  refine wp_aload_n dX12_attributesOf_5 rfl rfl (by first | exact Or.inl (by decide) | exact Or.inl (by omega) | exact Or.inr (by decide) | exact Or.inr (by omega)) ?_
  refine wp_getI dX12_attributesOf_6 fX12_328 rfl (by decide) ?_
  have c0 := h.1
  replace h := h.2
  refine wp_imulr dX12_attributesOf_9 c0 ?_
  refine wp_iload_n dX12_attributesOf_10 rfl rfl ?_
  refine wp_pc (pc' := 11) rfl ?_
  have c1 := h.1
  replace h := h.2
  refine wp_iaddr dX12_attributesOf_11 c1 ?_
  refine wp_istore_n dX12_attributesOf_12 rfl (by decide) (wp_L (L' := [some (vR 124), some (vI l1), some (vI 0), some (vI ((600 * (MI 124 8)) + l1))]) rfl ?_)
  exact h
theorem v_X12_attributesOf_13 {cs : Cs} {Q : Option AV → Mm → Prop} {MI ML : Nat → Nat → Int} {d e nw th x : Nat} {l1 l2 l3 : Int}
    (h : (-2147483648 ≤ 600 * (MI 124 8) ∧ 600 * (MI 124 8) < 2147483648) ∧ (0 ≤ (MI 124 8) ∧ (MI 124 8) < 2) ∧ (-2147483648 ≤ (600 * (MI 124 8)) + (MI 129 (MI 124 8).toNat) ∧ (600 * (MI 124 8)) + (MI 129 (MI 124 8).toNat) < 2147483648) ∧ ((l3 < ((600 * (MI 124 8)) + (MI 129 (MI 124 8).toNat)) → (0 ≤ l3 ∧ l3 < 1200) ∧ (((MI 130 l3.toNat) = 2 → (((MI 131 l3.toNat) = l1 → (-2147483648 ≤ l2 + 1 ∧ l2 + 1 < 2147483648) ∧ (-2147483648 ≤ l3 + 1 ∧ l3 + 1 < 2147483648) ∧ wp cs mX12_attributesOf KD Q 13 [some (vR 124), some (vI l1), some (vI (l2 + 1)), some (vI (l3 + 1))] [] (KD, MI, ML, (GR d e nw th x))) ∧ ((MI 131 l3.toNat) ≠ l1 → (-2147483648 ≤ l3 + 1 ∧ l3 + 1 < 2147483648) ∧ wp cs mX12_attributesOf KD Q 13 [some (vR 124), some (vI l1), some (vI l2), some (vI (l3 + 1))] [] (KD, MI, ML, (GR d e nw th x))))) ∧ ((MI 130 l3.toNat) ≠ 2 → (-2147483648 ≤ l3 + 1 ∧ l3 + 1 < 2147483648) ∧ wp cs mX12_attributesOf KD Q 13 [some (vR 124), some (vI l1), some (vI l2), some (vI (l3 + 1))] [] (KD, MI, ML, (GR d e nw th x))))) ∧ (((600 * (MI 124 8)) + (MI 129 (MI 124 8).toNat)) ≤ l3 → Q (some (vI l2)) (MI, ML, (GR d e nw th x))))) :
    wp cs mX12_attributesOf KD Q 13 [some (vR 124), some (vI l1), some (vI l2), some (vI l3)] [] (KD, MI, ML, (GR d e nw th x)) := by
  refine wp_iload_n dX12_attributesOf_13 rfl rfl ?_
  refine wp_sipush dX12_attributesOf_14 (by decide +kernel) (by decide) ?_
  refine wp_aload_n dX12_attributesOf_17 rfl rfl (by first | exact Or.inl (by decide) | exact Or.inl (by omega) | exact Or.inr (by decide) | exact Or.inr (by omega)) ?_
  refine wp_getI dX12_attributesOf_18 fX12_328 rfl (by decide) ?_
  have c0 := h.1
  replace h := h.2
  refine wp_imulr dX12_attributesOf_21 c0 ?_
  refine wp_aload_n dX12_attributesOf_22 rfl rfl (by first | exact Or.inl (by decide) | exact Or.inl (by omega) | exact Or.inr (by decide) | exact Or.inr (by omega)) ?_
  refine wp_getR dX12_attributesOf_23 fX12_27 rfl (by decide) ?_
  refine wp_topR (x' := 129) rfl ?_
  refine wp_pc (pc' := 26) rfl ?_
  refine wp_aload_n dX12_attributesOf_26 rfl rfl (by first | exact Or.inl (by decide) | exact Or.inl (by omega) | exact Or.inr (by decide) | exact Or.inr (by omega)) ?_
  refine wp_getI dX12_attributesOf_27 fX12_328 rfl (by decide) ?_
  have c1 := h.1
  replace h := h.2
  refine wp_iald dX12_attributesOf_30 rfl (by decide) c1 ?_
  have c2 := h.1
  replace h := h.2
  refine wp_iaddr dX12_attributesOf_31 c2 ?_
  refine wp_icmp_ge (tgt := 69) dX12_attributesOf_32 (by decide) (fun h32 => ?_) (fun h32 => ?_)
  · replace h := h.2 h32
    refine wp_iload_n dX12_attributesOf_69 rfl rfl ?_
    exact wp_iret dX12_attributesOf_70 rfl (fun _ => h)
  · replace h := h.1 h32
    refine wp_iload_n dX12_attributesOf_35 rfl rfl ?_
    refine wp_aload_n dX12_attributesOf_36 rfl rfl (by first | exact Or.inl (by decide) | exact Or.inl (by omega) | exact Or.inr (by decide) | exact Or.inr (by omega)) ?_
    refine wp_getR dX12_attributesOf_37 fX12_31 rfl (by decide) ?_
    refine wp_topR (x' := 130) rfl ?_
    refine wp_iload_n dX12_attributesOf_40 rfl rfl ?_
    have c3 := h.1
    replace h := h.2
    refine wp_iald dX12_attributesOf_41 rfl (by decide) c3 ?_
    refine wp_iconst dX12_attributesOf_42 (by decide) ?_
    refine wp_icmp_ne (tgt := 60) dX12_attributesOf_43 (by decide) (fun h43 => ?_) (fun h43 => ?_)
    · replace h := h.2 h43
      refine wp_iconst dX12_attributesOf_60 (by decide) ?_
      refine wp_ok (fun hM hL hS => ?_)
      have hr := hS _ (List.mem_cons_of_mem _ List.mem_cons_self)
      refine wp_iaddr dX12_attributesOf_61 (by have := hr; simp only [okV] at this; omega) ?_
      refine wp_topI (x' := l2) (by omega) ?_
      refine wp_istore_n dX12_attributesOf_62 rfl (by decide) (wp_L (L' := [some (vR 124), some (vI l1), some (vI l2), some (vI l3)]) rfl ?_)
      have c4 := h.1
      replace h := h.2
      refine wp_iincr dX12_attributesOf_63 rfl (by decide) c4 (wp_L (L' := [some (vR 124), some (vI l1), some (vI l2), some (vI (l3 + 1))]) rfl ?_)
      refine wp_goto (tgt := 13) dX12_attributesOf_66 (by decide) ?_
      exact h
    · replace h := h.1 h43
      refine wp_aload_n dX12_attributesOf_46 rfl rfl (by first | exact Or.inl (by decide) | exact Or.inl (by omega) | exact Or.inr (by decide) | exact Or.inr (by omega)) ?_
      refine wp_getR dX12_attributesOf_47 fX12_34 rfl (by decide) ?_
      refine wp_topR (x' := 131) rfl ?_
      refine wp_iload_n dX12_attributesOf_50 rfl rfl ?_
      refine wp_iald dX12_attributesOf_51 rfl (by decide) c3 ?_
      refine wp_iload_n dX12_attributesOf_52 rfl rfl ?_
      refine wp_icmp_ne (tgt := 60) dX12_attributesOf_53 (by decide) (fun h53 => ?_) (fun h53 => ?_)
      · replace h := h.2 h53
        refine wp_iconst dX12_attributesOf_60 (by decide) ?_
        refine wp_ok (fun hM hL hS => ?_)
        have hr := hS _ (List.mem_cons_of_mem _ List.mem_cons_self)
        refine wp_iaddr dX12_attributesOf_61 (by have := hr; simp only [okV] at this; omega) ?_
        refine wp_topI (x' := l2) (by omega) ?_
        refine wp_istore_n dX12_attributesOf_62 rfl (by decide) (wp_L (L' := [some (vR 124), some (vI l1), some (vI l2), some (vI l3)]) rfl ?_)
        have c4 := h.1
        replace h := h.2
        refine wp_iincr dX12_attributesOf_63 rfl (by decide) c4 (wp_L (L' := [some (vR 124), some (vI l1), some (vI l2), some (vI (l3 + 1))]) rfl ?_)
        refine wp_goto (tgt := 13) dX12_attributesOf_66 (by decide) ?_
        exact h
      · replace h := h.1 h53
        refine wp_iconst dX12_attributesOf_56 (by decide) ?_
        refine wp_goto (tgt := 61) dX12_attributesOf_57 (by decide) ?_
        have c4 := h.1
        replace h := h.2
        refine wp_iaddr dX12_attributesOf_61 c4 ?_
        refine wp_istore_n dX12_attributesOf_62 rfl (by decide) (wp_L (L' := [some (vR 124), some (vI l1), some (vI (l2 + 1)), some (vI l3)]) rfl ?_)
        have c5 := h.1
        replace h := h.2
        refine wp_iincr dX12_attributesOf_63 rfl (by decide) c5 (wp_L (L' := [some (vR 124), some (vI l1), some (vI (l2 + 1)), some (vI (l3 + 1))]) rfl ?_)
        refine wp_goto (tgt := 13) dX12_attributesOf_66 (by decide) ?_
        exact h
