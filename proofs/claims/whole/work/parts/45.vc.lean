theorem dX12_comes_0 : decode cX12_comes 0 = .ok (.aload_n 0, 1) := by decide +kernel
theorem dX12_comes_1 : decode cX12_comes 1 = .ok (.getfield 149, 3) := by decide +kernel
theorem dX12_comes_4 : decode cX12_comes 4 = .ok (.iload_n 2, 1) := by decide +kernel
theorem dX12_comes_5 : decode cX12_comes 5 = .ok (.baload, 1) := by decide +kernel
theorem dX12_comes_6 : decode cX12_comes 6 = .ok (.ifCond .ne 43, 3) := by decide +kernel
theorem dX12_comes_9 : decode cX12_comes 9 = .ok (.aload_n 0, 1) := by decide +kernel
theorem dX12_comes_10 : decode cX12_comes 10 = .ok (.getfield 149, 3) := by decide +kernel
theorem dX12_comes_13 : decode cX12_comes 13 = .ok (.iload_n 2, 1) := by decide +kernel
theorem dX12_comes_14 : decode cX12_comes 14 = .ok (.iconst 1, 1) := by decide +kernel
theorem dX12_comes_15 : decode cX12_comes 15 = .ok (.bastore, 1) := by decide +kernel
theorem dX12_comes_16 : decode cX12_comes 16 = .ok (.aload_n 0, 1) := by decide +kernel
theorem dX12_comes_17 : decode cX12_comes 17 = .ok (.getfield 152, 3) := by decide +kernel
theorem dX12_comes_20 : decode cX12_comes 20 = .ok (.iload_n 2, 1) := by decide +kernel
theorem dX12_comes_21 : decode cX12_comes 21 = .ok (.aload_n 0, 1) := by decide +kernel
theorem dX12_comes_22 : decode cX12_comes 22 = .ok (.getfield 397, 3) := by decide +kernel
theorem dX12_comes_25 : decode cX12_comes 25 = .ok (.bastore, 1) := by decide +kernel
theorem dX12_comes_26 : decode cX12_comes 26 = .ok (.aload_n 0, 1) := by decide +kernel
theorem dX12_comes_27 : decode cX12_comes 27 = .ok (.getfield 155, 3) := by decide +kernel
theorem dX12_comes_30 : decode cX12_comes 30 = .ok (.iload_n 2, 1) := by decide +kernel
theorem dX12_comes_31 : decode cX12_comes 31 = .ok (.aload_n 0, 1) := by decide +kernel
theorem dX12_comes_32 : decode cX12_comes 32 = .ok (.getfield 390, 3) := by decide +kernel
theorem dX12_comes_35 : decode cX12_comes 35 = .ok (.lastore, 1) := by decide +kernel
theorem dX12_comes_36 : decode cX12_comes 36 = .ok (.aload_n 0, 1) := by decide +kernel
theorem dX12_comes_37 : decode cX12_comes 37 = .ok (.getfield 158, 3) := by decide +kernel
theorem dX12_comes_40 : decode cX12_comes 40 = .ok (.iload_n 2, 1) := by decide +kernel
theorem dX12_comes_41 : decode cX12_comes 41 = .ok (.aload_n 0, 1) := by decide +kernel
theorem dX12_comes_42 : decode cX12_comes 42 = .ok (.getfield 386, 3) := by decide +kernel
theorem dX12_comes_45 : decode cX12_comes 45 = .ok (.lastore, 1) := by decide +kernel
theorem dX12_comes_46 : decode cX12_comes 46 = .ok (.goto 166, 3) := by decide +kernel
theorem dX12_comes_49 : decode cX12_comes 49 = .ok (.aload_n 0, 1) := by decide +kernel
theorem dX12_comes_50 : decode cX12_comes 50 = .ok (.getfield 146, 3) := by decide +kernel
theorem dX12_comes_53 : decode cX12_comes 53 = .ok (.iload_n 2, 1) := by decide +kernel
theorem dX12_comes_54 : decode cX12_comes 54 = .ok (.iaload, 1) := by decide +kernel
theorem dX12_comes_55 : decode cX12_comes 55 = .ok (.bipush 124, 2) := by decide +kernel
theorem dX12_comes_57 : decode cX12_comes 57 = .ok (.if_icmp .ne 59, 3) := by decide +kernel
theorem dX12_comes_60 : decode cX12_comes 60 = .ok (.aload_n 0, 1) := by decide +kernel
theorem dX12_comes_61 : decode cX12_comes 61 = .ok (.getfield 152, 3) := by decide +kernel
theorem dX12_comes_64 : decode cX12_comes 64 = .ok (.iload_n 2, 1) := by decide +kernel
theorem dX12_comes_65 : decode cX12_comes 65 = .ok (.aload_n 0, 1) := by decide +kernel
theorem dX12_comes_66 : decode cX12_comes 66 = .ok (.getfield 152, 3) := by decide +kernel
theorem dX12_comes_69 : decode cX12_comes 69 = .ok (.iload_n 2, 1) := by decide +kernel
theorem dX12_comes_70 : decode cX12_comes 70 = .ok (.baload, 1) := by decide +kernel
theorem dX12_comes_71 : decode cX12_comes 71 = .ok (.ifCond .ne 10, 3) := by decide +kernel
theorem dX12_comes_74 : decode cX12_comes 74 = .ok (.aload_n 0, 1) := by decide +kernel
theorem dX12_comes_75 : decode cX12_comes 75 = .ok (.getfield 397, 3) := by decide +kernel
theorem dX12_comes_78 : decode cX12_comes 78 = .ok (.ifCond .eq 7, 3) := by decide +kernel
theorem dX12_comes_81 : decode cX12_comes 81 = .ok (.iconst 1, 1) := by decide +kernel
theorem dX12_comes_82 : decode cX12_comes 82 = .ok (.goto 4, 3) := by decide +kernel
theorem dX12_comes_85 : decode cX12_comes 85 = .ok (.iconst 0, 1) := by decide +kernel
theorem dX12_comes_86 : decode cX12_comes 86 = .ok (.bastore, 1) := by decide +kernel
theorem dX12_comes_87 : decode cX12_comes 87 = .ok (.aload_n 0, 1) := by decide +kernel
theorem dX12_comes_88 : decode cX12_comes 88 = .ok (.getfield 155, 3) := by decide +kernel
theorem dX12_comes_91 : decode cX12_comes 91 = .ok (.iload_n 2, 1) := by decide +kernel
theorem dX12_comes_92 : decode cX12_comes 92 = .ok (.dup2, 1) := by decide +kernel
theorem dX12_comes_93 : decode cX12_comes 93 = .ok (.laload, 1) := by decide +kernel
theorem dX12_comes_94 : decode cX12_comes 94 = .ok (.aload_n 0, 1) := by decide +kernel
theorem dX12_comes_95 : decode cX12_comes 95 = .ok (.getfield 390, 3) := by decide +kernel
theorem dX12_comes_98 : decode cX12_comes 98 = .ok (.lor, 1) := by decide +kernel
theorem dX12_comes_99 : decode cX12_comes 99 = .ok (.lastore, 1) := by decide +kernel
theorem dX12_comes_100 : decode cX12_comes 100 = .ok (.aload_n 0, 1) := by decide +kernel
theorem dX12_comes_101 : decode cX12_comes 101 = .ok (.getfield 158, 3) := by decide +kernel
theorem dX12_comes_104 : decode cX12_comes 104 = .ok (.iload_n 2, 1) := by decide +kernel
theorem dX12_comes_105 : decode cX12_comes 105 = .ok (.dup2, 1) := by decide +kernel
theorem dX12_comes_106 : decode cX12_comes 106 = .ok (.laload, 1) := by decide +kernel
theorem dX12_comes_107 : decode cX12_comes 107 = .ok (.aload_n 0, 1) := by decide +kernel
theorem dX12_comes_108 : decode cX12_comes 108 = .ok (.getfield 386, 3) := by decide +kernel
theorem dX12_comes_111 : decode cX12_comes 111 = .ok (.lor, 1) := by decide +kernel
theorem dX12_comes_112 : decode cX12_comes 112 = .ok (.lastore, 1) := by decide +kernel
theorem dX12_comes_113 : decode cX12_comes 113 = .ok (.goto 99, 3) := by decide +kernel
theorem dX12_comes_116 : decode cX12_comes 116 = .ok (.aload_n 0, 1) := by decide +kernel
theorem dX12_comes_117 : decode cX12_comes 117 = .ok (.iload_n 1, 1) := by decide +kernel
theorem dX12_comes_118 : decode cX12_comes 118 = .ok (.aload_n 0, 1) := by decide +kernel
theorem dX12_comes_119 : decode cX12_comes 119 = .ok (.getfield 158, 3) := by decide +kernel
theorem dX12_comes_122 : decode cX12_comes 122 = .ok (.iload_n 2, 1) := by decide +kernel
theorem dX12_comes_123 : decode cX12_comes 123 = .ok (.laload, 1) := by decide +kernel
theorem dX12_comes_124 : decode cX12_comes 124 = .ok (.aload_n 0, 1) := by decide +kernel
theorem dX12_comes_125 : decode cX12_comes 125 = .ok (.getfield 390, 3) := by decide +kernel
theorem dX12_comes_128 : decode cX12_comes 128 = .ok (.invokevirtual 393, 3) := by decide +kernel
theorem dX12_comes_131 : decode cX12_comes 131 = .ok (.aload_n 0, 1) := by decide +kernel
theorem dX12_comes_132 : decode cX12_comes 132 = .ok (.getfield 155, 3) := by decide +kernel
theorem dX12_comes_135 : decode cX12_comes 135 = .ok (.iload_n 2, 1) := by decide +kernel
theorem dX12_comes_136 : decode cX12_comes 136 = .ok (.dup2, 1) := by decide +kernel
theorem dX12_comes_137 : decode cX12_comes 137 = .ok (.laload, 1) := by decide +kernel
theorem dX12_comes_138 : decode cX12_comes 138 = .ok (.aload_n 0, 1) := by decide +kernel
theorem dX12_comes_139 : decode cX12_comes 139 = .ok (.getfield 152, 3) := by decide +kernel
theorem dX12_comes_142 : decode cX12_comes 142 = .ok (.iload_n 2, 1) := by decide +kernel
theorem dX12_comes_143 : decode cX12_comes 143 = .ok (.baload, 1) := by decide +kernel
theorem dX12_comes_144 : decode cX12_comes 144 = .ok (.ifCond .eq 10, 3) := by decide +kernel
theorem dX12_comes_147 : decode cX12_comes 147 = .ok (.aload_n 0, 1) := by decide +kernel
theorem dX12_comes_148 : decode cX12_comes 148 = .ok (.getfield 390, 3) := by decide +kernel
theorem dX12_comes_151 : decode cX12_comes 151 = .ok (.goto 4, 3) := by decide +kernel
theorem dX12_comes_154 : decode cX12_comes 154 = .ok (.lconst 0, 1) := by decide +kernel
theorem dX12_comes_155 : decode cX12_comes 155 = .ok (.lor, 1) := by decide +kernel
theorem dX12_comes_156 : decode cX12_comes 156 = .ok (.lastore, 1) := by decide +kernel
theorem dX12_comes_157 : decode cX12_comes 157 = .ok (.aload_n 0, 1) := by decide +kernel
theorem dX12_comes_158 : decode cX12_comes 158 = .ok (.getfield 158, 3) := by decide +kernel
theorem dX12_comes_161 : decode cX12_comes 161 = .ok (.iload_n 2, 1) := by decide +kernel
theorem dX12_comes_162 : decode cX12_comes 162 = .ok (.aload_n 0, 1) := by decide +kernel
theorem dX12_comes_163 : decode cX12_comes 163 = .ok (.getfield 386, 3) := by decide +kernel
theorem dX12_comes_166 : decode cX12_comes 166 = .ok (.aload_n 0, 1) := by decide +kernel
theorem dX12_comes_167 : decode cX12_comes 167 = .ok (.getfield 397, 3) := by decide +kernel
theorem dX12_comes_170 : decode cX12_comes 170 = .ok (.ifCond .eq 12, 3) := by decide +kernel
theorem dX12_comes_173 : decode cX12_comes 173 = .ok (.aload_n 0, 1) := by decide +kernel
theorem dX12_comes_174 : decode cX12_comes 174 = .ok (.getfield 158, 3) := by decide +kernel
theorem dX12_comes_177 : decode cX12_comes 177 = .ok (.iload_n 2, 1) := by decide +kernel
theorem dX12_comes_178 : decode cX12_comes 178 = .ok (.laload, 1) := by decide +kernel
theorem dX12_comes_179 : decode cX12_comes 179 = .ok (.goto 4, 3) := by decide +kernel
theorem dX12_comes_182 : decode cX12_comes 182 = .ok (.lconst 0, 1) := by decide +kernel
theorem dX12_comes_183 : decode cX12_comes 183 = .ok (.lor, 1) := by decide +kernel
theorem dX12_comes_184 : decode cX12_comes 184 = .ok (.lastore, 1) := by decide +kernel
theorem dX12_comes_185 : decode cX12_comes 185 = .ok (.aload_n 0, 1) := by decide +kernel
theorem dX12_comes_186 : decode cX12_comes 186 = .ok (.getfield 152, 3) := by decide +kernel
theorem dX12_comes_189 : decode cX12_comes 189 = .ok (.iload_n 2, 1) := by decide +kernel
theorem dX12_comes_190 : decode cX12_comes 190 = .ok (.aload_n 0, 1) := by decide +kernel
theorem dX12_comes_191 : decode cX12_comes 191 = .ok (.getfield 152, 3) := by decide +kernel
theorem dX12_comes_194 : decode cX12_comes 194 = .ok (.iload_n 2, 1) := by decide +kernel
theorem dX12_comes_195 : decode cX12_comes 195 = .ok (.baload, 1) := by decide +kernel
theorem dX12_comes_196 : decode cX12_comes 196 = .ok (.ifCond .eq 14, 3) := by decide +kernel
theorem dX12_comes_199 : decode cX12_comes 199 = .ok (.aload_n 0, 1) := by decide +kernel
theorem dX12_comes_200 : decode cX12_comes 200 = .ok (.getfield 397, 3) := by decide +kernel
theorem dX12_comes_203 : decode cX12_comes 203 = .ok (.ifCond .eq 7, 3) := by decide +kernel
theorem dX12_comes_206 : decode cX12_comes 206 = .ok (.iconst 1, 1) := by decide +kernel
theorem dX12_comes_207 : decode cX12_comes 207 = .ok (.goto 4, 3) := by decide +kernel
theorem dX12_comes_210 : decode cX12_comes 210 = .ok (.iconst 0, 1) := by decide +kernel
theorem dX12_comes_211 : decode cX12_comes 211 = .ok (.bastore, 1) := by decide +kernel
theorem dX12_comes_212 : decode cX12_comes 212 = .ok (.return_, 1) := by decide +kernel
theorem v_X12_comes_0 {cs : Cs} {Q : Option AV → Mm → Prop} {MI ML : Nat → Nat → Int} {d e nw th x : Nat} {l1 l2 : Int}
    (h : (0 ≤ l2 ∧ l2 < 8) ∧ (((MI 169 l2.toNat) = 0 → ∀ m15, m15 = up2 MI 169 l2.toNat 1 → ((m15 124 59) = 0 ∨ (m15 124 59) = 1) ∧ ∀ m25, m25 = up2 m15 170 l2.toNat (m15 124 59) → ∀ n35, n35 = up2 ML 171 l2.toNat (ML 124 60) → ∀ n45, n45 = up2 n35 172 l2.toNat (n35 124 61) → Q none (m25, n45, (GR d e nw th x))) ∧ ((MI 169 l2.toNat) ≠ 0 → (((MI 168 l2.toNat) = 124 → (((MI 170 l2.toNat) = 0 → (((MI 124 59) = 0 → wp cs mX12_comes KD Q 86 [some (vR 124), some (vI l1), some (vI l2)] [vI 0, vI l2, vR 170] (KD, MI, ML, (GR d e nw th x))) ∧ ((MI 124 59) ≠ 0 → wp cs mX12_comes KD Q 86 [some (vR 124), some (vI l1), some (vI l2)] [vI 1, vI l2, vR 170] (KD, MI, ML, (GR d e nw th x))))) ∧ ((MI 170 l2.toNat) ≠ 0 → wp cs mX12_comes KD Q 86 [some (vR 124), some (vI l1), some (vI l2)] [vI 1, vI l2, vR 170] (KD, MI, ML, (GR d e nw th x))))) ∧ ((MI 168 l2.toNat) ≠ 124 → wp cs mX12_joinFollows KD (rV (GR d e nw th x) fun m128 n128 => (((m128 170 l2.toNat) = 0 → ∀ n156, n156 = up2 n128 171 l2.toNat (l_or (n128 171 l2.toNat) 0) → (((m128 124 59) = 0 → wp cs mX12_comes KD Q 183 [some (vR 124), some (vI l1), some (vI l2)] [vL 0, vL (n156 124 61), vI l2, vR 172] (KD, m128, n156, (GR d e nw th x))) ∧ ((m128 124 59) ≠ 0 → wp cs mX12_comes KD Q 183 [some (vR 124), some (vI l1), some (vI l2)] [vL (n156 172 l2.toNat), vL (n156 124 61), vI l2, vR 172] (KD, m128, n156, (GR d e nw th x))))) ∧ ((m128 170 l2.toNat) ≠ 0 → ∀ n156, n156 = up2 n128 171 l2.toNat (l_or (n128 171 l2.toNat) (n128 124 60)) → (((m128 124 59) = 0 → wp cs mX12_comes KD Q 183 [some (vR 124), some (vI l1), some (vI l2)] [vL 0, vL (n156 124 61), vI l2, vR 172] (KD, m128, n156, (GR d e nw th x))) ∧ ((m128 124 59) ≠ 0 → wp cs mX12_comes KD Q 183 [some (vR 124), some (vI l1), some (vI l2)] [vL (n156 172 l2.toNat), vL (n156 124 61), vI l2, vR 172] (KD, m128, n156, (GR d e nw th x))))))) 0 (padL [vR 124, vI l1, vL (ML 172 l2.toNat), vL (ML 124 60)] 7) [] (KD, MI, ML, (GR d e nw th x))))))) :
    wp cs mX12_comes KD Q 0 (padL [vR 124, vI l1, vI l2] 3) [] (KD, MI, ML, (GR d e nw th x)) := by
  refine wp_L (L' := [some (vR 124), some (vI l1), some (vI l2)]) rfl ?_
  refine wp_aload_n dX12_comes_0 rfl rfl (by first | exact Or.inl (by decide) | exact Or.inl (by omega) | exact Or.inr (by decide) | exact Or.inr (by omega)) ?_
  refine wp_getR dX12_comes_1 fX12_149 rfl (by decide) ?_
  refine wp_topR (x' := 169) rfl ?_
  refine wp_iload_n dX12_comes_4 rfl rfl ?_
  have c0 := h.1
  replace h := h.2
  refine wp_zald dX12_comes_5 rfl (by decide) c0 ?_
  refine wp_if_ne (tgt := 49) dX12_comes_6 (by decide) (fun h6 => ?_) (fun h6 => ?_)
  · replace h := h.2 h6
    refine wp_aload_n dX12_comes_49 rfl rfl (by first | exact Or.inl (by decide) | exact Or.inl (by omega) | exact Or.inr (by decide) | exact Or.inr (by omega)) ?_
    refine wp_getR dX12_comes_50 fX12_146 rfl (by decide) ?_
    refine wp_topR (x' := 168) rfl ?_
    refine wp_iload_n dX12_comes_53 rfl rfl ?_
    refine wp_iald dX12_comes_54 rfl (by decide) c0 ?_
    refine wp_bipush dX12_comes_55 (by decide +kernel) (by decide) ?_
    refine wp_icmp_ne (tgt := 116) dX12_comes_57 (by decide) (fun h57 => ?_) (fun h57 => ?_)
    · replace h := h.2 h57
      refine wp_aload_n dX12_comes_116 rfl rfl (by first | exact Or.inl (by decide) | exact Or.inl (by omega) | exact Or.inr (by decide) | exact Or.inr (by omega)) ?_
      refine wp_iload_n dX12_comes_117 rfl rfl ?_
      refine wp_aload_n dX12_comes_118 rfl rfl (by first | exact Or.inl (by decide) | exact Or.inl (by omega) | exact Or.inr (by decide) | exact Or.inr (by omega)) ?_
      refine wp_getR dX12_comes_119 fX12_158 rfl (by decide) ?_
      refine wp_topR (x' := 172) rfl ?_
      refine wp_iload_n dX12_comes_122 rfl rfl ?_
      refine wp_lald dX12_comes_123 rfl (by decide) c0 ?_
      refine wp_aload_n dX12_comes_124 rfl rfl (by first | exact Or.inl (by decide) | exact Or.inl (by omega) | exact Or.inr (by decide) | exact Or.inr (by omega)) ?_
      refine wp_pc (pc' := 125) rfl ?_
      refine wp_getL dX12_comes_125 fX12_390 rfl (by decide) ?_
      refine wp_cVq (n := 3) (mt' := mX12_joinFollows) (as := [vI l1, vL (ML 172 l2.toNat), vL (ML 124 60)]) (rest := []) _ dX12_comes_128 lX12_393 kX12_joinFollows vX12_joinFollows (by decide) (by decide +kernel) rfl (Nat.le_of_ble_eq_true rfl) (by decide) rfl rfl rfl (Nat.le_of_ble_eq_true rfl) (fun hM hS => h) (fun r M' hq hM => ?_)
      obtain ⟨m128, n128, rfl, rfl, h⟩ := rV_out hq
      refine wp_aload_n dX12_comes_131 rfl rfl (by first | exact Or.inl (by decide) | exact Or.inl (by omega) | exact Or.inr (by decide) | exact Or.inr (by omega)) ?_
      refine wp_getR dX12_comes_132 fX12_155 rfl (by decide) ?_
      refine wp_topR (x' := 171) rfl ?_
      refine wp_iload_n dX12_comes_135 rfl rfl ?_
      refine wp_dup2 dX12_comes_136 (fun x e => by cases e) (fun x e => by cases e) ?_
      refine wp_lald dX12_comes_137 rfl (by decide) c0 ?_
      refine wp_aload_n dX12_comes_138 rfl rfl (by first | exact Or.inl (by decide) | exact Or.inl (by omega) | exact Or.inr (by decide) | exact Or.inr (by omega)) ?_
      refine wp_getR dX12_comes_139 fX12_152 rfl (by decide) ?_
      refine wp_topR (x' := 170) rfl ?_
      refine wp_pc (pc' := 142) rfl ?_
      refine wp_iload_n dX12_comes_142 rfl rfl ?_
      refine wp_zald dX12_comes_143 rfl (by decide) c0 ?_
      refine wp_if_eq (tgt := 154) dX12_comes_144 (by decide) (fun h144 => ?_) (fun h144 => ?_)
      · replace h := h.1 h144
        refine wp_lconst (z := 0) dX12_comes_154 (by decide +kernel) (by decide) ?_
        refine wp_lor dX12_comes_155 ?_
        refine wp_last dX12_comes_156 rfl (by decide) c0 ?_
        refine wp_gL (fun n156 e156 => ?_)
        replace h := h n156 e156
        refine wp_aload_n dX12_comes_157 rfl rfl (by first | exact Or.inl (by decide) | exact Or.inl (by omega) | exact Or.inr (by decide) | exact Or.inr (by omega)) ?_
        refine wp_getR dX12_comes_158 fX12_158 rfl (by decide) ?_
        refine wp_topR (x' := 172) rfl ?_
        refine wp_iload_n dX12_comes_161 rfl rfl ?_
        refine wp_aload_n dX12_comes_162 rfl rfl (by first | exact Or.inl (by decide) | exact Or.inl (by omega) | exact Or.inr (by decide) | exact Or.inr (by omega)) ?_
        refine wp_pc (pc' := 163) rfl ?_
        refine wp_getL dX12_comes_163 fX12_386 rfl (by decide) ?_
        refine wp_aload_n dX12_comes_166 rfl rfl (by first | exact Or.inl (by decide) | exact Or.inl (by omega) | exact Or.inr (by decide) | exact Or.inr (by omega)) ?_
        refine wp_getI dX12_comes_167 fX12_397 rfl (by decide) ?_
        refine wp_if_eq (tgt := 182) dX12_comes_170 (by decide) (fun h170 => ?_) (fun h170 => ?_)
        · replace h := h.1 h170
          refine wp_lconst (z := 0) dX12_comes_182 (by decide +kernel) (by decide) ?_
          exact h
        · replace h := h.2 h170
          refine wp_aload_n dX12_comes_173 rfl rfl (by first | exact Or.inl (by decide) | exact Or.inl (by omega) | exact Or.inr (by decide) | exact Or.inr (by omega)) ?_
          refine wp_getR dX12_comes_174 fX12_158 rfl (by decide) ?_
          refine wp_topR (x' := 172) rfl ?_
          refine wp_iload_n dX12_comes_177 rfl rfl ?_
          refine wp_lald dX12_comes_178 rfl (by decide) c0 ?_
          refine wp_goto (tgt := 183) dX12_comes_179 (by decide) ?_
          exact h
      · replace h := h.2 h144
        refine wp_aload_n dX12_comes_147 rfl rfl (by first | exact Or.inl (by decide) | exact Or.inl (by omega) | exact Or.inr (by decide) | exact Or.inr (by omega)) ?_
        refine wp_getL dX12_comes_148 fX12_390 rfl (by decide) ?_
        refine wp_goto (tgt := 155) dX12_comes_151 (by decide) ?_
        refine wp_lor dX12_comes_155 ?_
        refine wp_last dX12_comes_156 rfl (by decide) c0 ?_
        refine wp_gL (fun n156 e156 => ?_)
        replace h := h n156 e156
        refine wp_aload_n dX12_comes_157 rfl rfl (by first | exact Or.inl (by decide) | exact Or.inl (by omega) | exact Or.inr (by decide) | exact Or.inr (by omega)) ?_
        refine wp_getR dX12_comes_158 fX12_158 rfl (by decide) ?_
        refine wp_topR (x' := 172) rfl ?_
        refine wp_pc (pc' := 161) rfl ?_
        refine wp_iload_n dX12_comes_161 rfl rfl ?_
        refine wp_aload_n dX12_comes_162 rfl rfl (by first | exact Or.inl (by decide) | exact Or.inl (by omega) | exact Or.inr (by decide) | exact Or.inr (by omega)) ?_
        refine wp_getL dX12_comes_163 fX12_386 rfl (by decide) ?_
        refine wp_aload_n dX12_comes_166 rfl rfl (by first | exact Or.inl (by decide) | exact Or.inl (by omega) | exact Or.inr (by decide) | exact Or.inr (by omega)) ?_
        refine wp_getI dX12_comes_167 fX12_397 rfl (by decide) ?_
        refine wp_if_eq (tgt := 182) dX12_comes_170 (by decide) (fun h170 => ?_) (fun h170 => ?_)
        · replace h := h.1 h170
          refine wp_lconst (z := 0) dX12_comes_182 (by decide +kernel) (by decide) ?_
          exact h
        · replace h := h.2 h170
          refine wp_aload_n dX12_comes_173 rfl rfl (by first | exact Or.inl (by decide) | exact Or.inl (by omega) | exact Or.inr (by decide) | exact Or.inr (by omega)) ?_
          refine wp_getR dX12_comes_174 fX12_158 rfl (by decide) ?_
          refine wp_topR (x' := 172) rfl ?_
          refine wp_iload_n dX12_comes_177 rfl rfl ?_
          refine wp_lald dX12_comes_178 rfl (by decide) c0 ?_
          refine wp_goto (tgt := 183) dX12_comes_179 (by decide) ?_
          exact h
    · replace h := h.1 h57
      refine wp_aload_n dX12_comes_60 rfl rfl (by first | exact Or.inl (by decide) | exact Or.inl (by omega) | exact Or.inr (by decide) | exact Or.inr (by omega)) ?_
      refine wp_getR dX12_comes_61 fX12_152 rfl (by decide) ?_
      refine wp_topR (x' := 170) rfl ?_
      refine wp_iload_n dX12_comes_64 rfl rfl ?_
      refine wp_aload_n dX12_comes_65 rfl rfl (by first | exact Or.inl (by decide) | exact Or.inl (by omega) | exact Or.inr (by decide) | exact Or.inr (by omega)) ?_
      refine wp_getR dX12_comes_66 fX12_152 rfl (by decide) ?_
      refine wp_topR (x' := 170) rfl ?_
      refine wp_iload_n dX12_comes_69 rfl rfl ?_
      refine wp_zald dX12_comes_70 rfl (by decide) c0 ?_
      refine wp_pc (pc' := 71) rfl ?_
      refine wp_if_ne (tgt := 81) dX12_comes_71 (by decide) (fun h71 => ?_) (fun h71 => ?_)
      · replace h := h.2 h71
        refine wp_iconst dX12_comes_81 (by decide) ?_
        refine wp_goto (tgt := 86) dX12_comes_82 (by decide) ?_
        exact h
      · replace h := h.1 h71
        refine wp_aload_n dX12_comes_74 rfl rfl (by first | exact Or.inl (by decide) | exact Or.inl (by omega) | exact Or.inr (by decide) | exact Or.inr (by omega)) ?_
        refine wp_getI dX12_comes_75 fX12_397 rfl (by decide) ?_
        refine wp_if_eq (tgt := 85) dX12_comes_78 (by decide) (fun h78 => ?_) (fun h78 => ?_)
        · replace h := h.1 h78
          refine wp_iconst dX12_comes_85 (by decide) ?_
          exact h
        · replace h := h.2 h78
          refine wp_iconst dX12_comes_81 (by decide) ?_
          refine wp_goto (tgt := 86) dX12_comes_82 (by decide) ?_
          exact h
  · replace h := h.1 h6
    refine wp_aload_n dX12_comes_9 rfl rfl (by first | exact Or.inl (by decide) | exact Or.inl (by omega) | exact Or.inr (by decide) | exact Or.inr (by omega)) ?_
    refine wp_getR dX12_comes_10 fX12_149 rfl (by decide) ?_
    refine wp_topR (x' := 169) rfl ?_
    refine wp_iload_n dX12_comes_13 rfl rfl ?_
    refine wp_iconst dX12_comes_14 (by decide) ?_
    refine wp_zast dX12_comes_15 rfl (by decide) c0 (by decide) ?_
    refine wp_gI (fun m15 e15 => ?_)
    replace h := h m15 e15
    refine wp_aload_n dX12_comes_16 rfl rfl (by first | exact Or.inl (by decide) | exact Or.inl (by omega) | exact Or.inr (by decide) | exact Or.inr (by omega)) ?_
    refine wp_getR dX12_comes_17 fX12_152 rfl (by decide) ?_
    refine wp_topR (x' := 170) rfl ?_
    refine wp_pc (pc' := 20) rfl ?_
    refine wp_iload_n dX12_comes_20 rfl rfl ?_
    refine wp_aload_n dX12_comes_21 rfl rfl (by first | exact Or.inl (by decide) | exact Or.inl (by omega) | exact Or.inr (by decide) | exact Or.inr (by omega)) ?_
    refine wp_getI dX12_comes_22 fX12_397 rfl (by decide) ?_
    have c1 := h.1
    replace h := h.2
    refine wp_zast dX12_comes_25 rfl (by decide) c0 c1 ?_
    refine wp_gI (fun m25 e25 => ?_)
    replace h := h m25 e25
    refine wp_aload_n dX12_comes_26 rfl rfl (by first | exact Or.inl (by decide) | exact Or.inl (by omega) | exact Or.inr (by decide) | exact Or.inr (by omega)) ?_
    refine wp_getR dX12_comes_27 fX12_155 rfl (by decide) ?_
    refine wp_topR (x' := 171) rfl ?_
    refine wp_iload_n dX12_comes_30 rfl rfl ?_
    refine wp_aload_n dX12_comes_31 rfl rfl (by first | exact Or.inl (by decide) | exact Or.inl (by omega) | exact Or.inr (by decide) | exact Or.inr (by omega)) ?_
    refine wp_pc (pc' := 32) rfl ?_
    refine wp_getL dX12_comes_32 fX12_390 rfl (by decide) ?_
    refine wp_last dX12_comes_35 rfl (by decide) c0 ?_
    refine wp_gL (fun n35 e35 => ?_)
    replace h := h n35 e35
    refine wp_aload_n dX12_comes_36 rfl rfl (by first | exact Or.inl (by decide) | exact Or.inl (by omega) | exact Or.inr (by decide) | exact Or.inr (by omega)) ?_
    refine wp_getR dX12_comes_37 fX12_158 rfl (by decide) ?_
    refine wp_topR (x' := 172) rfl ?_
    refine wp_iload_n dX12_comes_40 rfl rfl ?_
    refine wp_aload_n dX12_comes_41 rfl rfl (by first | exact Or.inl (by decide) | exact Or.inl (by omega) | exact Or.inr (by decide) | exact Or.inr (by omega)) ?_
    refine wp_getL dX12_comes_42 fX12_386 rfl (by decide) ?_
    refine wp_last dX12_comes_45 rfl (by decide) c0 ?_
    refine wp_gL (fun n45 e45 => ?_)
    replace h := h n45 e45
    refine wp_pc (pc' := 46) rfl ?_
    refine wp_goto (tgt := 212) dX12_comes_46 (by decide) ?_
    exact wp_vret dX12_comes_212 rfl (fun _ => h)
theorem v_X12_comes_86 {cs : Cs} {Q : Option AV → Mm → Prop} {MI ML : Nat → Nat → Int} {d e nw th x : Nat} {l1 l2 s0 s1 : Int}
    (h : (0 ≤ s1 ∧ s1 < 8) ∧ (s0 = 0 ∨ s0 = 1) ∧ ∀ m86, m86 = up2 MI 170 s1.toNat s0 → (0 ≤ l2 ∧ l2 < 8) ∧ ∀ n99, n99 = up2 ML 171 l2.toNat (l_or (ML 171 l2.toNat) (ML 124 60)) → ∀ n112, n112 = up2 n99 172 l2.toNat (l_or (n99 172 l2.toNat) (n99 124 61)) → Q none (m86, n112, (GR d e nw th x))) :
    wp cs mX12_comes KD Q 86 [some (vR 124), some (vI l1), some (vI l2)] [vI s0, vI s1, vR 170] (KD, MI, ML, (GR d e nw th x)) := by
  have c0 := h.1
  replace h := h.2
  have c1 := h.1
  replace h := h.2
  refine wp_zast dX12_comes_86 rfl (by decide) c0 c1 ?_
  refine wp_gI (fun m86 e86 => ?_)
  replace h := h m86 e86
  refine wp_aload_n dX12_comes_87 rfl rfl (by first | exact Or.inl (by decide) | exact Or.inl (by omega) | exact Or.inr (by decide) | exact Or.inr (by omega)) ?_
  refine wp_getR dX12_comes_88 fX12_155 rfl (by decide) ?_
  refine wp_topR (x' := 171) rfl ?_
  refine wp_iload_n dX12_comes_91 rfl rfl ?_
  refine wp_dup2 dX12_comes_92 (fun x e => by cases e) (fun x e => by cases e) ?_
  have c2 := h.1
  replace h := h.2
  refine wp_lald dX12_comes_93 rfl (by decide) c2 ?_
  refine wp_aload_n dX12_comes_94 rfl rfl (by first | exact Or.inl (by decide) | exact Or.inl (by omega) | exact Or.inr (by decide) | exact Or.inr (by omega)) ?_
  refine wp_pc (pc' := 95) rfl ?_
  refine wp_getL dX12_comes_95 fX12_390 rfl (by decide) ?_
  refine wp_lor dX12_comes_98 ?_
  refine wp_last dX12_comes_99 rfl (by decide) c2 ?_
  refine wp_gL (fun n99 e99 => ?_)
  replace h := h n99 e99
  refine wp_aload_n dX12_comes_100 rfl rfl (by first | exact Or.inl (by decide) | exact Or.inl (by omega) | exact Or.inr (by decide) | exact Or.inr (by omega)) ?_
  refine wp_getR dX12_comes_101 fX12_158 rfl (by decide) ?_
  refine wp_topR (x' := 172) rfl ?_
  refine wp_iload_n dX12_comes_104 rfl rfl ?_
  refine wp_dup2 dX12_comes_105 (fun x e => by cases e) (fun x e => by cases e) ?_
  refine wp_lald dX12_comes_106 rfl (by decide) c2 ?_
  refine wp_pc (pc' := 107) rfl ?_
  refine wp_aload_n dX12_comes_107 rfl rfl (by first | exact Or.inl (by decide) | exact Or.inl (by omega) | exact Or.inr (by decide) | exact Or.inr (by omega)) ?_
  refine wp_getL dX12_comes_108 fX12_386 rfl (by decide) ?_
  refine wp_lor dX12_comes_111 ?_
  refine wp_last dX12_comes_112 rfl (by decide) c2 ?_
  refine wp_gL (fun n112 e112 => ?_)
  replace h := h n112 e112
  refine wp_goto (tgt := 212) dX12_comes_113 (by decide) ?_
  exact wp_vret dX12_comes_212 rfl (fun _ => h)
theorem v_X12_comes_183 {cs : Cs} {Q : Option AV → Mm → Prop} {MI ML : Nat → Nat → Int} {d e nw th x : Nat} {l1 l2 s0 s1 s2 : Int}
    (h : (0 ≤ s2 ∧ s2 < 8) ∧ ∀ n184, n184 = up2 ML 172 s2.toNat (l_or s1 s0) → (0 ≤ l2 ∧ l2 < 8) ∧ (((MI 170 l2.toNat) = 0 → ∀ m211, m211 = up2 MI 170 l2.toNat 0 → Q none (m211, n184, (GR d e nw th x))) ∧ ((MI 170 l2.toNat) ≠ 0 → (((MI 124 59) = 0 → ∀ m211, m211 = up2 MI 170 l2.toNat 0 → Q none (m211, n184, (GR d e nw th x))) ∧ ((MI 124 59) ≠ 0 → ∀ m211, m211 = up2 MI 170 l2.toNat 1 → Q none (m211, n184, (GR d e nw th x))))))) :
    wp cs mX12_comes KD Q 183 [some (vR 124), some (vI l1), some (vI l2)] [vL s0, vL s1, vI s2, vR 172] (KD, MI, ML, (GR d e nw th x)) := by
  refine wp_lor dX12_comes_183 ?_
  have c0 := h.1
  replace h := h.2
  refine wp_last dX12_comes_184 rfl (by decide) c0 ?_
  refine wp_gL (fun n184 e184 => ?_)
  replace h := h n184 e184
  refine wp_aload_n dX12_comes_185 rfl rfl (by first | exact Or.inl (by decide) | exact Or.inl (by omega) | exact Or.inr (by decide) | exact Or.inr (by omega)) ?_
  refine wp_getR dX12_comes_186 fX12_152 rfl (by decide) ?_
  refine wp_topR (x' := 170) rfl ?_
  refine wp_iload_n dX12_comes_189 rfl rfl ?_
  refine wp_aload_n dX12_comes_190 rfl rfl (by first | exact Or.inl (by decide) | exact Or.inl (by omega) | exact Or.inr (by decide) | exact Or.inr (by omega)) ?_
  refine wp_getR dX12_comes_191 fX12_152 rfl (by decide) ?_
  refine wp_topR (x' := 170) rfl ?_
  refine wp_pc (pc' := 194) rfl ?_
  refine wp_iload_n dX12_comes_194 rfl rfl ?_
  have c1 := h.1
  replace h := h.2
  refine wp_zald dX12_comes_195 rfl (by decide) c1 ?_
  refine wp_if_eq (tgt := 210) dX12_comes_196 (by decide) (fun h196 => ?_) (fun h196 => ?_)
  · replace h := h.1 h196
    refine wp_iconst dX12_comes_210 (by decide) ?_
    refine wp_zast dX12_comes_211 rfl (by decide) c1 (by decide) ?_
    refine wp_gI (fun m211 e211 => ?_)
    replace h := h m211 e211
    exact wp_vret dX12_comes_212 rfl (fun _ => h)
  · replace h := h.2 h196
    refine wp_aload_n dX12_comes_199 rfl rfl (by first | exact Or.inl (by decide) | exact Or.inl (by omega) | exact Or.inr (by decide) | exact Or.inr (by omega)) ?_
    refine wp_getI dX12_comes_200 fX12_397 rfl (by decide) ?_
    refine wp_if_eq (tgt := 210) dX12_comes_203 (by decide) (fun h203 => ?_) (fun h203 => ?_)
    · replace h := h.1 h203
      refine wp_iconst dX12_comes_210 (by decide) ?_
      refine wp_zast dX12_comes_211 rfl (by decide) c1 (by decide) ?_
      refine wp_gI (fun m211 e211 => ?_)
      replace h := h m211 e211
      exact wp_vret dX12_comes_212 rfl (fun _ => h)
    · replace h := h.2 h203
      refine wp_iconst dX12_comes_206 (by decide) ?_
      refine wp_goto (tgt := 211) dX12_comes_207 (by decide) ?_
      refine wp_zast dX12_comes_211 rfl (by decide) c1 (by decide) ?_
      refine wp_gI (fun m211 e211 => ?_)
      replace h := h m211 e211
      exact wp_vret dX12_comes_212 rfl (fun _ => h)
theorem dX12_group_0 : decode cX12_group 0 = .ok (.aload_n 0, 1) := by decide +kernel
theorem dX12_group_1 : decode cX12_group 1 = .ok (.getfield 79, 3) := by decide +kernel
theorem dX12_group_4 : decode cX12_group 4 = .ok (.iload_n 1, 1) := by decide +kernel
theorem dX12_group_5 : decode cX12_group 5 = .ok (.iconst 3, 1) := by decide +kernel
theorem dX12_group_6 : decode cX12_group 6 = .ok (.iastore, 1) := by decide +kernel
theorem dX12_group_7 : decode cX12_group 7 = .ok (.iconst 0, 1) := by decide +kernel
theorem dX12_group_8 : decode cX12_group 8 = .ok (.istore_n 2, 1) := by decide +kernel
theorem dX12_group_9 : decode cX12_group 9 = .ok (.aload_n 0, 1) := by decide +kernel
theorem dX12_group_10 : decode cX12_group 10 = .ok (.iconst 0, 1) := by decide +kernel
theorem dX12_group_11 : decode cX12_group 11 = .ok (.invokevirtual 400, 3) := by decide +kernel
theorem dX12_group_14 : decode cX12_group 14 = .ok (.iconst 1, 1) := by decide +kernel
theorem dX12_group_15 : decode cX12_group 15 = .ok (.istore_n 3, 1) := by decide +kernel
theorem dX12_group_16 : decode cX12_group 16 = .ok (.aload_n 0, 1) := by decide +kernel
theorem dX12_group_17 : decode cX12_group 17 = .ok (.invokevirtual 289, 3) := by decide +kernel
theorem dX12_group_20 : decode cX12_group 20 = .ok (.ifCond .eq 268, 3) := by decide +kernel
theorem dX12_group_23 : decode cX12_group 23 = .ok (.iload_n 2, 1) := by decide +kernel
theorem dX12_group_24 : decode cX12_group 24 = .ok (.ifCond .lt 264, 3) := by decide +kernel
theorem dX12_group_27 : decode cX12_group 27 = .ok (.iload_n 3, 1) := by decide +kernel
theorem dX12_group_28 : decode cX12_group 28 = .ok (.ifCond .eq 57, 3) := by decide +kernel
theorem dX12_group_31 : decode cX12_group 31 = .ok (.aload_n 0, 1) := by decide +kernel
theorem dX12_group_32 : decode cX12_group 32 = .ok (.aload_n 0, 1) := by decide +kernel
theorem dX12_group_33 : decode cX12_group 33 = .ok (.getfield 276, 3) := by decide +kernel
theorem dX12_group_36 : decode cX12_group 36 = .ok (.invokevirtual 279, 3) := by decide +kernel
theorem dX12_group_39 : decode cX12_group 39 = .ok (.bipush 40, 2) := by decide +kernel
theorem dX12_group_41 : decode cX12_group 41 = .ok (.if_icmp .ne 44, 3) := by decide +kernel
theorem dX12_group_44 : decode cX12_group 44 = .ok (.iload_n 2, 1) := by decide +kernel
theorem dX12_group_45 : decode cX12_group 45 = .ok (.iconst 5, 1) := by decide +kernel
theorem dX12_group_46 : decode cX12_group 46 = .ok (.if_icmp .ne 14, 3) := by decide +kernel
theorem dX12_group_49 : decode cX12_group 49 = .ok (.aload_n 0, 1) := by decide +kernel
theorem dX12_group_50 : decode cX12_group 50 = .ok (.bipush (-3), 2) := by decide +kernel
theorem dX12_group_52 : decode cX12_group 52 = .ok (.aload_n 0, 1) := by decide +kernel
theorem dX12_group_53 : decode cX12_group 53 = .ok (.getfield 276, 3) := by decide +kernel
theorem dX12_group_56 : decode cX12_group 56 = .ok (.invokevirtual 293, 3) := by decide +kernel
theorem dX12_group_59 : decode cX12_group 59 = .ok (.return_, 1) := by decide +kernel
theorem dX12_group_60 : decode cX12_group 60 = .ok (.aload_n 0, 1) := by decide +kernel
theorem dX12_group_61 : decode cX12_group 61 = .ok (.dup, 1) := by decide +kernel
theorem dX12_group_62 : decode cX12_group 62 = .ok (.getfield 276, 3) := by decide +kernel
theorem dX12_group_65 : decode cX12_group 65 = .ok (.iconst 1, 1) := by decide +kernel
theorem dX12_group_66 : decode cX12_group 66 = .ok (.iadd, 1) := by decide +kernel
theorem dX12_group_67 : decode cX12_group 67 = .ok (.putfield 276, 3) := by decide +kernel
theorem dX12_group_70 : decode cX12_group 70 = .ok (.aload_n 0, 1) := by decide +kernel
theorem dX12_group_71 : decode cX12_group 71 = .ok (.invokevirtual 300, 3) := by decide +kernel
theorem dX12_group_74 : decode cX12_group 74 = .ok (.iinc 2 1, 3) := by decide +kernel
theorem dX12_group_77 : decode cX12_group 77 = .ok (.aload_n 0, 1) := by decide +kernel
theorem dX12_group_78 : decode cX12_group 78 = .ok (.iload_n 2, 1) := by decide +kernel
theorem dX12_group_79 : decode cX12_group 79 = .ok (.invokevirtual 400, 3) := by decide +kernel
theorem dX12_group_82 : decode cX12_group 82 = .ok (.goto (-66), 3) := by decide +kernel
theorem dX12_group_85 : decode cX12_group 85 = .ok (.iload_n 3, 1) := by decide +kernel
theorem dX12_group_86 : decode cX12_group 86 = .ok (.ifCond .eq 47, 3) := by decide +kernel
theorem dX12_group_89 : decode cX12_group 89 = .ok (.aload_n 0, 1) := by decide +kernel
theorem dX12_group_90 : decode cX12_group 90 = .ok (.iload_n 1, 1) := by decide +kernel
theorem dX12_group_91 : decode cX12_group 91 = .ok (.invokevirtual 383, 3) := by decide +kernel
theorem dX12_group_94 : decode cX12_group 94 = .ok (.istore 4, 2) := by decide +kernel
theorem dX12_group_96 : decode cX12_group 96 = .ok (.aload_n 0, 1) := by decide +kernel
theorem dX12_group_97 : decode cX12_group 97 = .ok (.iconst 0, 1) := by decide +kernel
theorem dX12_group_98 : decode cX12_group 98 = .ok (.putfield 397, 3) := by decide +kernel
theorem dX12_group_101 : decode cX12_group 101 = .ok (.aload_n 0, 1) := by decide +kernel
theorem dX12_group_102 : decode cX12_group 102 = .ok (.lconst 1, 1) := by decide +kernel
theorem dX12_group_103 : decode cX12_group 103 = .ok (.iload 4, 2) := by decide +kernel
theorem dX12_group_105 : decode cX12_group 105 = .ok (.lshl, 1) := by decide +kernel
theorem dX12_group_106 : decode cX12_group 106 = .ok (.putfield 390, 3) := by decide +kernel
theorem dX12_group_109 : decode cX12_group 109 = .ok (.aload_n 0, 1) := by decide +kernel
theorem dX12_group_110 : decode cX12_group 110 = .ok (.lconst 1, 1) := by decide +kernel
theorem dX12_group_111 : decode cX12_group 111 = .ok (.iload 4, 2) := by decide +kernel
theorem dX12_group_113 : decode cX12_group 113 = .ok (.lshl, 1) := by decide +kernel
theorem dX12_group_114 : decode cX12_group 114 = .ok (.putfield 386, 3) := by decide +kernel
theorem dX12_group_117 : decode cX12_group 117 = .ok (.aload_n 0, 1) := by decide +kernel
theorem dX12_group_118 : decode cX12_group 118 = .ok (.iload_n 1, 1) := by decide +kernel
theorem dX12_group_119 : decode cX12_group 119 = .ok (.invokevirtual 403, 3) := by decide +kernel
theorem dX12_group_122 : decode cX12_group 122 = .ok (.aload_n 0, 1) := by decide +kernel
theorem dX12_group_123 : decode cX12_group 123 = .ok (.iload_n 1, 1) := by decide +kernel
theorem dX12_group_124 : decode cX12_group 124 = .ok (.iload_n 2, 1) := by decide +kernel
theorem dX12_group_125 : decode cX12_group 125 = .ok (.invokevirtual 406, 3) := by decide +kernel
theorem dX12_group_128 : decode cX12_group 128 = .ok (.iconst 0, 1) := by decide +kernel
theorem dX12_group_129 : decode cX12_group 129 = .ok (.istore_n 3, 1) := by decide +kernel
theorem dX12_group_130 : decode cX12_group 130 = .ok (.goto (-114), 3) := by decide +kernel
theorem dX12_group_133 : decode cX12_group 133 = .ok (.aload_n 0, 1) := by decide +kernel
theorem dX12_group_134 : decode cX12_group 134 = .ok (.invokevirtual 300, 3) := by decide +kernel
theorem dX12_group_137 : decode cX12_group 137 = .ok (.aload_n 0, 1) := by decide +kernel
theorem dX12_group_138 : decode cX12_group 138 = .ok (.aload_n 0, 1) := by decide +kernel
theorem dX12_group_139 : decode cX12_group 139 = .ok (.getfield 276, 3) := by decide +kernel
theorem dX12_group_142 : decode cX12_group 142 = .ok (.invokevirtual 279, 3) := by decide +kernel
theorem dX12_group_145 : decode cX12_group 145 = .ok (.istore 4, 2) := by decide +kernel
theorem dX12_group_147 : decode cX12_group 147 = .ok (.iload 4, 2) := by decide +kernel
theorem dX12_group_149 : decode cX12_group 149 = .ok (.bipush 41, 2) := by decide +kernel
theorem dX12_group_151 : decode cX12_group 151 = .ok (.if_icmp .ne 64, 3) := by decide +kernel
theorem dX12_group_154 : decode cX12_group 154 = .ok (.aload_n 0, 1) := by decide +kernel
theorem dX12_group_155 : decode cX12_group 155 = .ok (.dup, 1) := by decide +kernel
theorem dX12_group_156 : decode cX12_group 156 = .ok (.getfield 276, 3) := by decide +kernel
theorem dX12_group_159 : decode cX12_group 159 = .ok (.iconst 1, 1) := by decide +kernel
theorem dX12_group_160 : decode cX12_group 160 = .ok (.iadd, 1) := by decide +kernel
theorem dX12_group_161 : decode cX12_group 161 = .ok (.putfield 276, 3) := by decide +kernel
theorem dX12_group_164 : decode cX12_group 164 = .ok (.aload_n 0, 1) := by decide +kernel
theorem dX12_group_165 : decode cX12_group 165 = .ok (.aload_n 0, 1) := by decide +kernel
theorem dX12_group_166 : decode cX12_group 166 = .ok (.getfield 152, 3) := by decide +kernel
theorem dX12_group_169 : decode cX12_group 169 = .ok (.iload_n 2, 1) := by decide +kernel
theorem dX12_group_170 : decode cX12_group 170 = .ok (.baload, 1) := by decide +kernel
theorem dX12_group_171 : decode cX12_group 171 = .ok (.putfield 397, 3) := by decide +kernel
theorem dX12_group_174 : decode cX12_group 174 = .ok (.aload_n 0, 1) := by decide +kernel
theorem dX12_group_175 : decode cX12_group 175 = .ok (.aload_n 0, 1) := by decide +kernel
theorem dX12_group_176 : decode cX12_group 176 = .ok (.getfield 155, 3) := by decide +kernel
theorem dX12_group_179 : decode cX12_group 179 = .ok (.iload_n 2, 1) := by decide +kernel
theorem dX12_group_180 : decode cX12_group 180 = .ok (.laload, 1) := by decide +kernel
theorem dX12_group_181 : decode cX12_group 181 = .ok (.putfield 390, 3) := by decide +kernel
theorem dX12_group_184 : decode cX12_group 184 = .ok (.aload_n 0, 1) := by decide +kernel
theorem dX12_group_185 : decode cX12_group 185 = .ok (.aload_n 0, 1) := by decide +kernel
theorem dX12_group_186 : decode cX12_group 186 = .ok (.getfield 158, 3) := by decide +kernel
theorem dX12_group_189 : decode cX12_group 189 = .ok (.iload_n 2, 1) := by decide +kernel
theorem dX12_group_190 : decode cX12_group 190 = .ok (.laload, 1) := by decide +kernel
theorem dX12_group_191 : decode cX12_group 191 = .ok (.putfield 386, 3) := by decide +kernel
theorem dX12_group_194 : decode cX12_group 194 = .ok (.iinc 2 (-1), 3) := by decide +kernel
theorem dX12_group_197 : decode cX12_group 197 = .ok (.aload_n 0, 1) := by decide +kernel
theorem dX12_group_198 : decode cX12_group 198 = .ok (.iload_n 1, 1) := by decide +kernel
theorem dX12_group_199 : decode cX12_group 199 = .ok (.invokevirtual 403, 3) := by decide +kernel
theorem dX12_group_202 : decode cX12_group 202 = .ok (.iload_n 2, 1) := by decide +kernel
theorem dX12_group_203 : decode cX12_group 203 = .ok (.ifCond .lt 82, 3) := by decide +kernel
theorem dX12_group_206 : decode cX12_group 206 = .ok (.aload_n 0, 1) := by decide +kernel
theorem dX12_group_207 : decode cX12_group 207 = .ok (.iload_n 1, 1) := by decide +kernel
theorem dX12_group_208 : decode cX12_group 208 = .ok (.iload_n 2, 1) := by decide +kernel
theorem dX12_group_209 : decode cX12_group 209 = .ok (.invokevirtual 406, 3) := by decide +kernel
theorem dX12_group_212 : decode cX12_group 212 = .ok (.goto 73, 3) := by decide +kernel
theorem dX12_group_215 : decode cX12_group 215 = .ok (.iload 4, 2) := by decide +kernel
theorem dX12_group_217 : decode cX12_group 217 = .ok (.bipush 124, 2) := by decide +kernel
theorem dX12_group_219 : decode cX12_group 219 = .ok (.if_icmp .eq 10, 3) := by decide +kernel
theorem dX12_group_222 : decode cX12_group 222 = .ok (.iload 4, 2) := by decide +kernel
theorem dX12_group_224 : decode cX12_group 224 = .ok (.bipush 44, 2) := by decide +kernel
theorem dX12_group_226 : decode cX12_group 226 = .ok (.if_icmp .ne 50, 3) := by decide +kernel
theorem dX12_group_229 : decode cX12_group 229 = .ok (.aload_n 0, 1) := by decide +kernel
theorem dX12_group_230 : decode cX12_group 230 = .ok (.getfield 146, 3) := by decide +kernel
theorem dX12_group_233 : decode cX12_group 233 = .ok (.iload_n 2, 1) := by decide +kernel
theorem dX12_group_234 : decode cX12_group 234 = .ok (.iaload, 1) := by decide +kernel
theorem dX12_group_235 : decode cX12_group 235 = .ok (.ifCond .eq 14, 3) := by decide +kernel
theorem dX12_group_238 : decode cX12_group 238 = .ok (.aload_n 0, 1) := by decide +kernel
theorem dX12_group_239 : decode cX12_group 239 = .ok (.getfield 146, 3) := by decide +kernel
theorem dX12_group_242 : decode cX12_group 242 = .ok (.iload_n 2, 1) := by decide +kernel
theorem dX12_group_243 : decode cX12_group 243 = .ok (.iaload, 1) := by decide +kernel
theorem dX12_group_244 : decode cX12_group 244 = .ok (.iload 4, 2) := by decide +kernel
theorem dX12_group_246 : decode cX12_group 246 = .ok (.if_icmp .ne 30, 3) := by decide +kernel
theorem dX12_group_249 : decode cX12_group 249 = .ok (.aload_n 0, 1) := by decide +kernel
theorem dX12_group_250 : decode cX12_group 250 = .ok (.getfield 146, 3) := by decide +kernel
theorem dX12_group_253 : decode cX12_group 253 = .ok (.iload_n 2, 1) := by decide +kernel
theorem dX12_group_254 : decode cX12_group 254 = .ok (.iload 4, 2) := by decide +kernel
theorem dX12_group_256 : decode cX12_group 256 = .ok (.iastore, 1) := by decide +kernel
theorem dX12_group_257 : decode cX12_group 257 = .ok (.aload_n 0, 1) := by decide +kernel
theorem dX12_group_258 : decode cX12_group 258 = .ok (.dup, 1) := by decide +kernel
theorem dX12_group_259 : decode cX12_group 259 = .ok (.getfield 276, 3) := by decide +kernel
theorem dX12_group_262 : decode cX12_group 262 = .ok (.iconst 1, 1) := by decide +kernel
theorem dX12_group_263 : decode cX12_group 263 = .ok (.iadd, 1) := by decide +kernel
theorem dX12_group_264 : decode cX12_group 264 = .ok (.putfield 276, 3) := by decide +kernel
theorem dX12_group_267 : decode cX12_group 267 = .ok (.aload_n 0, 1) := by decide +kernel
theorem dX12_group_268 : decode cX12_group 268 = .ok (.invokevirtual 300, 3) := by decide +kernel
theorem dX12_group_271 : decode cX12_group 271 = .ok (.iconst 1, 1) := by decide +kernel
theorem dX12_group_272 : decode cX12_group 272 = .ok (.istore_n 3, 1) := by decide +kernel
theorem dX12_group_273 : decode cX12_group 273 = .ok (.goto 12, 3) := by decide +kernel
theorem dX12_group_276 : decode cX12_group 276 = .ok (.aload_n 0, 1) := by decide +kernel
theorem dX12_group_277 : decode cX12_group 277 = .ok (.iconst (-1), 1) := by decide +kernel
theorem dX12_group_278 : decode cX12_group 278 = .ok (.aload_n 0, 1) := by decide +kernel
theorem dX12_group_279 : decode cX12_group 279 = .ok (.getfield 276, 3) := by decide +kernel
theorem dX12_group_282 : decode cX12_group 282 = .ok (.invokevirtual 293, 3) := by decide +kernel
theorem dX12_group_285 : decode cX12_group 285 = .ok (.goto (-269), 3) := by decide +kernel
theorem dX12_group_288 : decode cX12_group 288 = .ok (.aload_n 0, 1) := by decide +kernel
theorem dX12_group_289 : decode cX12_group 289 = .ok (.getfield 91, 3) := by decide +kernel
theorem dX12_group_292 : decode cX12_group 292 = .ok (.iload_n 1, 1) := by decide +kernel
theorem dX12_group_293 : decode cX12_group 293 = .ok (.aload_n 0, 1) := by decide +kernel
theorem dX12_group_294 : decode cX12_group 294 = .ok (.getfield 390, 3) := by decide +kernel
theorem dX12_group_297 : decode cX12_group 297 = .ok (.lastore, 1) := by decide +kernel
theorem dX12_group_298 : decode cX12_group 298 = .ok (.aload_n 0, 1) := by decide +kernel
theorem dX12_group_299 : decode cX12_group 299 = .ok (.getfield 95, 3) := by decide +kernel
theorem dX12_group_302 : decode cX12_group 302 = .ok (.iload_n 1, 1) := by decide +kernel
theorem dX12_group_303 : decode cX12_group 303 = .ok (.aload_n 0, 1) := by decide +kernel
theorem dX12_group_304 : decode cX12_group 304 = .ok (.getfield 386, 3) := by decide +kernel
theorem dX12_group_307 : decode cX12_group 307 = .ok (.lastore, 1) := by decide +kernel
theorem dX12_group_308 : decode cX12_group 308 = .ok (.aload_n 0, 1) := by decide +kernel
theorem dX12_group_309 : decode cX12_group 309 = .ok (.getfield 98, 3) := by decide +kernel
theorem dX12_group_312 : decode cX12_group 312 = .ok (.iload_n 1, 1) := by decide +kernel
theorem dX12_group_313 : decode cX12_group 313 = .ok (.aload_n 0, 1) := by decide +kernel
theorem dX12_group_314 : decode cX12_group 314 = .ok (.getfield 397, 3) := by decide +kernel
theorem dX12_group_317 : decode cX12_group 317 = .ok (.bastore, 1) := by decide +kernel
theorem dX12_group_318 : decode cX12_group 318 = .ok (.return_, 1) := by decide +kernel
theorem v_X12_group_0 {cs : Cs} {Q : Option AV → Mm → Prop} {MI ML : Nat → Nat → Int} {d e nw th x : Nat} {l1 : Int}
    (h : (0 ≤ l1 ∧ l1 < 60) ∧ ∀ m6, m6 = up2 MI 146 l1.toNat 3 → wp cs mX12_openGroup KD (rV (GR d e nw th x) fun m11 n11 => wp cs mX12_group KD Q 16 [some (vR 124), some (vI l1), some (vI 0), some (vI 1), none] [] (KD, m11, n11, (GR d e nw th x))) 0 (padL [vR 124, vI 0] 2) [] (KD, m6, ML, (GR d e nw th x))) :
    wp cs mX12_group KD Q 0 (padL [vR 124, vI l1] 5) [] (KD, MI, ML, (GR d e nw th x)) := by
  refine wp_L (L' := [some (vR 124), some (vI l1), none, none, none]) rfl ?_
  refine wp_aload_n dX12_group_0 rfl rfl (by first | exact Or.inl (by decide) | exact Or.inl (by omega) | exact Or.inr (by decide) | exact Or.inr (by omega)) ?_
  refine wp_getR dX12_group_1 fX12_79 rfl (by decide) ?_
  refine wp_topR (x' := 146) rfl ?_
  refine wp_iload_n dX12_group_4 rfl rfl ?_
  refine wp_iconst dX12_group_5 (by decide) ?_
  have c0 := h.1
  replace h := h.2
  refine wp_iast dX12_group_6 rfl (by decide) c0 ?_
  refine wp_gI (fun m6 e6 => ?_)
  replace h := h m6 e6
  refine wp_iconst dX12_group_7 (by decide) ?_
  refine wp_istore_n dX12_group_8 rfl (by decide) (wp_L (L' := [some (vR 124), some (vI l1), some (vI 0), none, none]) rfl ?_)
  refine wp_pc (pc' := 9) rfl ?_
  refine wp_aload_n dX12_group_9 rfl rfl (by first | exact Or.inl (by decide) | exact Or.inl (by omega) | exact Or.inr (by decide) | exact Or.inr (by omega)) ?_
  refine wp_iconst dX12_group_10 (by decide) ?_
  refine wp_cVq (n := 1) (mt' := mX12_openGroup) (as := [vI 0]) (rest := []) _ dX12_group_11 lX12_400 kX12_openGroup vX12_openGroup (by decide) (by decide +kernel) rfl (Nat.le_of_ble_eq_true rfl) (by decide) rfl rfl rfl (Nat.le_of_ble_eq_true rfl) (fun hM hS => h) (fun r M' hq hM => ?_)
  obtain ⟨m11, n11, rfl, rfl, h⟩ := rV_out hq
  refine wp_iconst dX12_group_14 (by decide) ?_
  refine wp_istore_n dX12_group_15 rfl (by decide) (wp_L (L' := [some (vR 124), some (vI l1), some (vI 0), some (vI 1), none]) rfl ?_)
  exact h
theorem v_X12_group_16 {cs : Cs} {Q : Option AV → Mm → Prop} {MI ML : Nat → Nat → Int} {d e nw th x : Nat} {l1 l2 l3 : Int}
    (h : wp cs mX12_isGood KD (rI (GR d e nw th x) fun x17 m17 n17 => ((x17 = 0 → wp cs mX12_group KD Q 288 [some (vR 124), some (vI l1), some (vI l2), some (vI l3), none] [] (KD, m17, n17, (GR d e nw th x))) ∧ (x17 ≠ 0 → ((l2 < 0 → wp cs mX12_group KD Q 288 [some (vR 124), some (vI l1), some (vI l2), some (vI l3), none] [] (KD, m17, n17, (GR d e nw th x))) ∧ (0 ≤ l2 → ((l3 = 0 → wp cs mX12_group KD Q 85 [some (vR 124), some (vI l1), some (vI l2), some (vI l3), none] [] (KD, m17, n17, (GR d e nw th x))) ∧ (l3 ≠ 0 → wp cs mX12_octet KD (rI (GR d e nw th x) fun x36 m36 n36 => ((x36 = 40 → ((l2 = 5 → wp cs mX12_fail KD (rV (GR d e nw th x) fun m56 n56 => Q none (m56, n56, (GR d e nw th x))) 0 (padL [vR 124, vI (-3), vI (m36 124 4)] 3) [] (KD, m36, n36, (GR d e nw th x))) ∧ (l2 ≠ 5 → (-2147483648 ≤ (m36 124 4) + 1 ∧ (m36 124 4) + 1 < 2147483648) ∧ ∀ m67, m67 = up2 m36 124 4 ((m36 124 4) + 1) → wp cs mX12_maybeS KD (rV (GR d e nw th x) fun m71 n71 => (-2147483648 ≤ l2 + 1 ∧ l2 + 1 < 2147483648) ∧ wp cs mX12_openGroup KD (rV (GR d e nw th x) fun m79 n79 => wp cs mX12_group KD Q 16 [some (vR 124), some (vI l1), some (vI (l2 + 1)), some (vI l3), none] [] (KD, m79, n79, (GR d e nw th x))) 0 (padL [vR 124, vI (l2 + 1)] 2) [] (KD, m71, n71, (GR d e nw th x))) 0 (padL [vR 124] 1) [] (KD, m67, n36, (GR d e nw th x))))) ∧ (x36 ≠ 40 → wp cs mX12_group KD Q 85 [some (vR 124), some (vI l1), some (vI l2), some (vI l3), none] [] (KD, m36, n36, (GR d e nw th x))))) 0 (padL [vR 124, vI (m17 124 4)] 2) [] (KD, m17, n17, (GR d e nw th x))))))))) 0 (padL [vR 124] 1) [] (KD, MI, ML, (GR d e nw th x))) :
    wp cs mX12_group KD Q 16 [some (vR 124), some (vI l1), some (vI l2), some (vI l3), none] [] (KD, MI, ML, (GR d e nw th x)) := by
  refine wp_aload_n dX12_group_16 rfl rfl (by first | exact Or.inl (by decide) | exact Or.inl (by omega) | exact Or.inr (by decide) | exact Or.inr (by omega)) ?_
  refine wp_cVq (n := 0) (mt' := mX12_isGood) (as := []) (rest := []) _ dX12_group_17 lX12_289 kX12_isGood vX12_isGood (by decide) (by decide +kernel) rfl (Nat.le_of_ble_eq_true rfl) (by decide) rfl rfl rfl (Nat.le_of_ble_eq_true rfl) (fun hM hS => h) (fun r M' hq hM => ?_)
  obtain ⟨x17, m17, n17, rfl, rfl, h⟩ := rI_out hq
  refine wp_if_eq (tgt := 288) dX12_group_20 (by decide) (fun h20 => ?_) (fun h20 => ?_)
  · replace h := h.1 h20
    exact h
  · replace h := h.2 h20
    refine wp_iload_n dX12_group_23 rfl rfl ?_
    refine wp_if_lt (tgt := 288) dX12_group_24 (by decide) (fun h24 => ?_) (fun h24 => ?_)
    · replace h := h.1 h24
      exact h
    · replace h := h.2 h24
      refine wp_iload_n dX12_group_27 rfl rfl ?_
      refine wp_if_eq (tgt := 85) dX12_group_28 (by decide) (fun h28 => ?_) (fun h28 => ?_)
      · replace h := h.1 h28
        exact h
      · replace h := h.2 h28
        refine wp_aload_n dX12_group_31 rfl rfl (by first | exact Or.inl (by decide) | exact Or.inl (by omega) | exact Or.inr (by decide) | exact Or.inr (by omega)) ?_
        refine wp_aload_n dX12_group_32 rfl rfl (by first | exact Or.inl (by decide) | exact Or.inl (by omega) | exact Or.inr (by decide) | exact Or.inr (by omega)) ?_
        refine wp_getI dX12_group_33 fX12_276 rfl (by decide) ?_
        refine wp_cVq (n := 1) (mt' := mX12_octet) (as := [vI (m17 124 4)]) (rest := []) _ dX12_group_36 lX12_279 kX12_octet vX12_octet (by decide) (by decide +kernel) rfl (Nat.le_of_ble_eq_true rfl) (by decide) rfl rfl rfl (Nat.le_of_ble_eq_true rfl) (fun hM hS => h) (fun r M' hq hM => ?_)
        obtain ⟨x36, m36, n36, rfl, rfl, h⟩ := rI_out hq
        refine wp_bipush dX12_group_39 (by decide +kernel) (by decide) ?_
        refine wp_icmp_ne (tgt := 85) dX12_group_41 (by decide) (fun h41 => ?_) (fun h41 => ?_)
        · replace h := h.2 h41
          exact h
        · replace h := h.1 h41
          refine wp_iload_n dX12_group_44 rfl rfl ?_
          refine wp_iconst dX12_group_45 (by decide) ?_
          refine wp_icmp_ne (tgt := 60) dX12_group_46 (by decide) (fun h46 => ?_) (fun h46 => ?_)
          · replace h := h.2 h46
            refine wp_aload_n dX12_group_60 rfl rfl (by first | exact Or.inl (by decide) | exact Or.inl (by omega) | exact Or.inr (by decide) | exact Or.inr (by omega)) ?_
            refine wp_dup dX12_group_61 (fun x e => by cases e) ?_
            refine wp_getI dX12_group_62 fX12_276 rfl (by decide) ?_
            refine wp_iconst dX12_group_65 (by decide) ?_
            have c0 := h.1
            replace h := h.2
            refine wp_iaddr dX12_group_66 c0 ?_
            refine wp_putI dX12_group_67 pX12_276 rfl (by decide) ?_
            refine wp_gI (fun m67 e67 => ?_)
            replace h := h m67 e67
            refine wp_aload_n dX12_group_70 rfl rfl (by first | exact Or.inl (by decide) | exact Or.inl (by omega) | exact Or.inr (by decide) | exact Or.inr (by omega)) ?_
            refine wp_pc (pc' := 71) rfl ?_
            refine wp_cVq (n := 0) (mt' := mX12_maybeS) (as := []) (rest := []) _ dX12_group_71 lX12_300 kX12_maybeS vX12_maybeS (by decide) (by decide +kernel) rfl (Nat.le_of_ble_eq_true rfl) (by decide) rfl rfl rfl (Nat.le_of_ble_eq_true rfl) (fun hM hS => h) (fun r M' hq hM => ?_)
            obtain ⟨m71, n71, rfl, rfl, h⟩ := rV_out hq
            have c1 := h.1
            replace h := h.2
            refine wp_iincr dX12_group_74 rfl (by decide) c1 (wp_L (L' := [some (vR 124), some (vI l1), some (vI (l2 + 1)), some (vI l3), none]) rfl ?_)
            refine wp_aload_n dX12_group_77 rfl rfl (by first | exact Or.inl (by decide) | exact Or.inl (by omega) | exact Or.inr (by decide) | exact Or.inr (by omega)) ?_
            refine wp_iload_n dX12_group_78 rfl rfl ?_
            refine wp_cVq (n := 1) (mt' := mX12_openGroup) (as := [vI (l2 + 1)]) (rest := []) _ dX12_group_79 lX12_400 kX12_openGroup vX12_openGroup (by decide) (by decide +kernel) rfl (Nat.le_of_ble_eq_true rfl) (by decide) rfl rfl rfl (Nat.le_of_ble_eq_true rfl) (fun hM hS => h) (fun r M' hq hM => ?_)
            obtain ⟨m79, n79, rfl, rfl, h⟩ := rV_out hq
            refine wp_goto (tgt := 16) dX12_group_82 (by decide) ?_
            exact h
          · replace h := h.1 h46
            refine wp_aload_n dX12_group_49 rfl rfl (by first | exact Or.inl (by decide) | exact Or.inl (by omega) | exact Or.inr (by decide) | exact Or.inr (by omega)) ?_
            refine wp_bipush dX12_group_50 (by decide +kernel) (by decide) ?_
            refine wp_aload_n dX12_group_52 rfl rfl (by first | exact Or.inl (by decide) | exact Or.inl (by omega) | exact Or.inr (by decide) | exact Or.inr (by omega)) ?_
            refine wp_getI dX12_group_53 fX12_276 rfl (by decide) ?_
            refine wp_cVq (n := 2) (mt' := mX12_fail) (as := [vI (-3), vI (m36 124 4)]) (rest := []) _ dX12_group_56 lX12_293 kX12_fail vX12_fail (by decide) (by decide +kernel) rfl (Nat.le_of_ble_eq_true rfl) (by decide) rfl rfl rfl (Nat.le_of_ble_eq_true rfl) (fun hM hS => h) (fun r M' hq hM => ?_)
            obtain ⟨m56, n56, rfl, rfl, h⟩ := rV_out hq
            exact wp_vret dX12_group_59 rfl (fun _ => h)
theorem v_X12_group_85 {cs : Cs} {Q : Option AV → Mm → Prop} {MI ML : Nat → Nat → Int} {d e nw th x : Nat} {l1 l2 l3 : Int}
    (h : ((l3 = 0 → wp cs mX12_maybeS KD (rV (GR d e nw th x) fun m134 n134 => wp cs mX12_octet KD (rI (GR d e nw th x) fun x142 m142 n142 => ((x142 = 41 → (-2147483648 ≤ (m142 124 4) + 1 ∧ (m142 124 4) + 1 < 2147483648) ∧ ∀ m161, m161 = up2 m142 124 4 ((m142 124 4) + 1) → (0 ≤ l2 ∧ l2 < 8) ∧ ((m161 170 l2.toNat) = 0 ∨ (m161 170 l2.toNat) = 1) ∧ ∀ m171, m171 = up2 m161 124 59 (m161 170 l2.toNat) → ∀ n181, n181 = up2 n142 124 60 (n142 171 l2.toNat) → ∀ n191, n191 = up2 n181 124 61 (n181 172 l2.toNat) → (-2147483648 ≤ l2 + (-1) ∧ l2 + (-1) < 2147483648) ∧ wp cs mX12_mark KD (rV (GR d e nw th x) fun m199 n199 => (((l2 + (-1)) < 0 → wp cs mX12_group KD Q 16 [some (vR 124), some (vI l1), some (vI (l2 + (-1))), some (vI l3), none] [] (KD, m199, n199, (GR d e nw th x))) ∧ (0 ≤ (l2 + (-1)) → wp cs mX12_comes KD (rV (GR d e nw th x) fun m209 n209 => wp cs mX12_group KD Q 16 [some (vR 124), some (vI l1), some (vI (l2 + (-1))), some (vI l3), none] [] (KD, m209, n209, (GR d e nw th x))) 0 (padL [vR 124, vI l1, vI (l2 + (-1))] 3) [] (KD, m199, n199, (GR d e nw th x))))) 0 (padL [vR 124, vI l1] 3) [] (KD, m171, n191, (GR d e nw th x))) ∧ (x142 ≠ 41 → ((x142 = 124 → wp cs mX12_group KD Q 229 [some (vR 124), some (vI l1), some (vI l2), some (vI l3), some (vI x142)] [] (KD, m142, n142, (GR d e nw th x))) ∧ (x142 ≠ 124 → ((x142 = 44 → wp cs mX12_group KD Q 229 [some (vR 124), some (vI l1), some (vI l2), some (vI l3), some (vI x142)] [] (KD, m142, n142, (GR d e nw th x))) ∧ (x142 ≠ 44 → wp cs mX12_fail KD (rV (GR d e nw th x) fun m282 n282 => wp cs mX12_group KD Q 16 [some (vR 124), some (vI l1), some (vI l2), some (vI l3), none] [] (KD, m282, n282, (GR d e nw th x))) 0 (padL [vR 124, vI (-1), vI (m142 124 4)] 3) [] (KD, m142, n142, (GR d e nw th x))))))))) 0 (padL [vR 124, vI (m134 124 4)] 2) [] (KD, m134, n134, (GR d e nw th x))) 0 (padL [vR 124] 1) [] (KD, MI, ML, (GR d e nw th x))) ∧ (l3 ≠ 0 → wp cs mX12_specName KD (rI (GR d e nw th x) fun x91 m91 n91 => ∀ m98, m98 = up2 m91 124 59 0 → ∀ n106, n106 = up2 n91 124 60 (l_shl 1 x91) → ∀ n114, n114 = up2 n106 124 61 (l_shl 1 x91) → wp cs mX12_mark KD (rV (GR d e nw th x) fun m119 n119 => wp cs mX12_comes KD (rV (GR d e nw th x) fun m125 n125 => wp cs mX12_group KD Q 16 [some (vR 124), some (vI l1), some (vI l2), some (vI 0), none] [] (KD, m125, n125, (GR d e nw th x))) 0 (padL [vR 124, vI l1, vI l2] 3) [] (KD, m119, n119, (GR d e nw th x))) 0 (padL [vR 124, vI l1] 3) [] (KD, m98, n114, (GR d e nw th x))) 0 (padL [vR 124, vI l1] 4) [] (KD, MI, ML, (GR d e nw th x))))) :
    wp cs mX12_group KD Q 85 [some (vR 124), some (vI l1), some (vI l2), some (vI l3), none] [] (KD, MI, ML, (GR d e nw th x)) := by
  refine wp_iload_n dX12_group_85 rfl rfl ?_
  refine wp_if_eq (tgt := 133) dX12_group_86 (by decide) (fun h86 => ?_) (fun h86 => ?_)
  · replace h := h.1 h86
    refine wp_aload_n dX12_group_133 rfl rfl (by first | exact Or.inl (by decide) | exact Or.inl (by omega) | exact Or.inr (by decide) | exact Or.inr (by omega)) ?_
    refine wp_cVq (n := 0) (mt' := mX12_maybeS) (as := []) (rest := []) _ dX12_group_134 lX12_300 kX12_maybeS vX12_maybeS (by decide) (by decide +kernel) rfl (Nat.le_of_ble_eq_true rfl) (by decide) rfl rfl rfl (Nat.le_of_ble_eq_true rfl) (fun hM hS => h) (fun r M' hq hM => ?_)
    obtain ⟨m134, n134, rfl, rfl, h⟩ := rV_out hq
    refine wp_aload_n dX12_group_137 rfl rfl (by first | exact Or.inl (by decide) | exact Or.inl (by omega) | exact Or.inr (by decide) | exact Or.inr (by omega)) ?_
    refine wp_aload_n dX12_group_138 rfl rfl (by first | exact Or.inl (by decide) | exact Or.inl (by omega) | exact Or.inr (by decide) | exact Or.inr (by omega)) ?_
    refine wp_getI dX12_group_139 fX12_276 rfl (by decide) ?_
    refine wp_cVq (n := 1) (mt' := mX12_octet) (as := [vI (m134 124 4)]) (rest := []) _ dX12_group_142 lX12_279 kX12_octet vX12_octet (by decide) (by decide +kernel) rfl (Nat.le_of_ble_eq_true rfl) (by decide) rfl rfl rfl (Nat.le_of_ble_eq_true rfl) (fun hM hS => h) (fun r M' hq hM => ?_)
    obtain ⟨x142, m142, n142, rfl, rfl, h⟩ := rI_out hq
    refine wp_istore dX12_group_145 (by decide) (wp_L (L' := [some (vR 124), some (vI l1), some (vI l2), some (vI l3), some (vI x142)]) rfl ?_)
    refine wp_iload dX12_group_147 rfl ?_
    refine wp_bipush dX12_group_149 (by decide +kernel) (by decide) ?_
    refine wp_icmp_ne (tgt := 215) dX12_group_151 (by decide) (fun h151 => ?_) (fun h151 => ?_)
    · replace h := h.2 h151
      refine wp_iload dX12_group_215 rfl ?_
      refine wp_bipush dX12_group_217 (by decide +kernel) (by decide) ?_
      refine wp_icmp_eq (tgt := 229) dX12_group_219 (by decide) (fun h219 => ?_) (fun h219 => ?_)
      · replace h := h.1 h219
        exact h
      · replace h := h.2 h219
        refine wp_iload dX12_group_222 rfl ?_
        refine wp_bipush dX12_group_224 (by decide +kernel) (by decide) ?_
        refine wp_icmp_ne (tgt := 276) dX12_group_226 (by decide) (fun h226 => ?_) (fun h226 => ?_)
        · replace h := h.2 h226
          refine wp_aload_n dX12_group_276 rfl rfl (by first | exact Or.inl (by decide) | exact Or.inl (by omega) | exact Or.inr (by decide) | exact Or.inr (by omega)) ?_
          refine wp_iconst dX12_group_277 (by decide) ?_
          refine wp_aload_n dX12_group_278 rfl rfl (by first | exact Or.inl (by decide) | exact Or.inl (by omega) | exact Or.inr (by decide) | exact Or.inr (by omega)) ?_
          refine wp_getI dX12_group_279 fX12_276 rfl (by decide) ?_
          refine wp_cVq (n := 2) (mt' := mX12_fail) (as := [vI (-1), vI (m142 124 4)]) (rest := []) _ dX12_group_282 lX12_293 kX12_fail vX12_fail (by decide) (by decide +kernel) rfl (Nat.le_of_ble_eq_true rfl) (by decide) rfl rfl rfl (Nat.le_of_ble_eq_true rfl) (fun hM hS => h) (fun r M' hq hM => ?_)
          obtain ⟨m282, n282, rfl, rfl, h⟩ := rV_out hq
          refine wp_goto (tgt := 16) dX12_group_285 (by decide) ?_
          refine wp_forget (L' := [some (vR 124), some (vI l1), some (vI l2), some (vI l3), none]) (by repeat' (first | exact trivial | refine ⟨rfl, ?_⟩)) ?_
          exact h
        · replace h := h.1 h226
          exact h
    · replace h := h.1 h151
      refine wp_aload_n dX12_group_154 rfl rfl (by first | exact Or.inl (by decide) | exact Or.inl (by omega) | exact Or.inr (by decide) | exact Or.inr (by omega)) ?_
      refine wp_dup dX12_group_155 (fun x e => by cases e) ?_
      refine wp_getI dX12_group_156 fX12_276 rfl (by decide) ?_
      refine wp_iconst dX12_group_159 (by decide) ?_
      have c0 := h.1
      replace h := h.2
      refine wp_iaddr dX12_group_160 c0 ?_
      refine wp_putI dX12_group_161 pX12_276 rfl (by decide) ?_
      refine wp_gI (fun m161 e161 => ?_)
      replace h := h m161 e161
      refine wp_aload_n dX12_group_164 rfl rfl (by first | exact Or.inl (by decide) | exact Or.inl (by omega) | exact Or.inr (by decide) | exact Or.inr (by omega)) ?_
      refine wp_pc (pc' := 165) rfl ?_
      refine wp_aload_n dX12_group_165 rfl rfl (by first | exact Or.inl (by decide) | exact Or.inl (by omega) | exact Or.inr (by decide) | exact Or.inr (by omega)) ?_
      refine wp_getR dX12_group_166 fX12_152 rfl (by decide) ?_
      refine wp_topR (x' := 170) rfl ?_
      refine wp_iload_n dX12_group_169 rfl rfl ?_
      have c1 := h.1
      replace h := h.2
      refine wp_zald dX12_group_170 rfl (by decide) c1 ?_
      refine wp_putZ dX12_group_171 pX12_397 rfl (by decide) h.1 ?_
      replace h := h.2
      refine wp_gI (fun m171 e171 => ?_)
      replace h := h m171 e171
      refine wp_aload_n dX12_group_174 rfl rfl (by first | exact Or.inl (by decide) | exact Or.inl (by omega) | exact Or.inr (by decide) | exact Or.inr (by omega)) ?_
      refine wp_aload_n dX12_group_175 rfl rfl (by first | exact Or.inl (by decide) | exact Or.inl (by omega) | exact Or.inr (by decide) | exact Or.inr (by omega)) ?_
      refine wp_getR dX12_group_176 fX12_155 rfl (by decide) ?_
      refine wp_topR (x' := 171) rfl ?_
      refine wp_pc (pc' := 179) rfl ?_
      refine wp_iload_n dX12_group_179 rfl rfl ?_
      refine wp_lald dX12_group_180 rfl (by decide) c1 ?_
      refine wp_putL dX12_group_181 pX12_390 rfl (by decide) ?_
      refine wp_gL (fun n181 e181 => ?_)
      replace h := h n181 e181
      refine wp_aload_n dX12_group_184 rfl rfl (by first | exact Or.inl (by decide) | exact Or.inl (by omega) | exact Or.inr (by decide) | exact Or.inr (by omega)) ?_
      refine wp_aload_n dX12_group_185 rfl rfl (by first | exact Or.inl (by decide) | exact Or.inl (by omega) | exact Or.inr (by decide) | exact Or.inr (by omega)) ?_
      refine wp_getR dX12_group_186 fX12_158 rfl (by decide) ?_
      refine wp_topR (x' := 172) rfl ?_
      refine wp_iload_n dX12_group_189 rfl rfl ?_
      refine wp_lald dX12_group_190 rfl (by decide) c1 ?_
      refine wp_pc (pc' := 191) rfl ?_
      refine wp_putL dX12_group_191 pX12_386 rfl (by decide) ?_
      refine wp_gL (fun n191 e191 => ?_)
      replace h := h n191 e191
      have c2 := h.1
      replace h := h.2
      refine wp_iincr dX12_group_194 rfl (by decide) c2 (wp_L (L' := [some (vR 124), some (vI l1), some (vI (l2 + (-1))), some (vI l3), some (vI x142)]) rfl ?_)
      refine wp_aload_n dX12_group_197 rfl rfl (by first | exact Or.inl (by decide) | exact Or.inl (by omega) | exact Or.inr (by decide) | exact Or.inr (by omega)) ?_
      refine wp_iload_n dX12_group_198 rfl rfl ?_
      refine wp_cVq (n := 1) (mt' := mX12_mark) (as := [vI l1]) (rest := []) _ dX12_group_199 lX12_403 kX12_mark vX12_mark (by decide) (by decide +kernel) rfl (Nat.le_of_ble_eq_true rfl) (by decide) rfl rfl rfl (Nat.le_of_ble_eq_true rfl) (fun hM hS => h) (fun r M' hq hM => ?_)
      obtain ⟨m199, n199, rfl, rfl, h⟩ := rV_out hq
      refine wp_iload_n dX12_group_202 rfl rfl ?_
      refine wp_if_lt (tgt := 285) dX12_group_203 (by decide) (fun h203 => ?_) (fun h203 => ?_)
      · replace h := h.1 h203
        refine wp_goto (tgt := 16) dX12_group_285 (by decide) ?_
        refine wp_forget (L' := [some (vR 124), some (vI l1), some (vI (l2 + (-1))), some (vI l3), none]) (by repeat' (first | exact trivial | refine ⟨rfl, ?_⟩)) ?_
        exact h
      · replace h := h.2 h203
        refine wp_aload_n dX12_group_206 rfl rfl (by first | exact Or.inl (by decide) | exact Or.inl (by omega) | exact Or.inr (by decide) | exact Or.inr (by omega)) ?_
        refine wp_iload_n dX12_group_207 rfl rfl ?_
        refine wp_iload_n dX12_group_208 rfl rfl ?_
        refine wp_cVq (n := 2) (mt' := mX12_comes) (as := [vI l1, vI (l2 + (-1))]) (rest := []) _ dX12_group_209 lX12_406 kX12_comes vX12_comes (by decide) (by decide +kernel) rfl (Nat.le_of_ble_eq_true rfl) (by decide) rfl rfl rfl (Nat.le_of_ble_eq_true rfl) (fun hM hS => h) (fun r M' hq hM => ?_)
        obtain ⟨m209, n209, rfl, rfl, h⟩ := rV_out hq
        refine wp_goto (tgt := 285) dX12_group_212 (by decide) ?_
        refine wp_goto (tgt := 16) dX12_group_285 (by decide) ?_
        refine wp_forget (L' := [some (vR 124), some (vI l1), some (vI (l2 + (-1))), some (vI l3), none]) (by repeat' (first | exact trivial | refine ⟨rfl, ?_⟩)) ?_
        exact h
  · replace h := h.2 h86
    refine wp_aload_n dX12_group_89 rfl rfl (by first | exact Or.inl (by decide) | exact Or.inl (by omega) | exact Or.inr (by decide) | exact Or.inr (by omega)) ?_
    refine wp_iload_n dX12_group_90 rfl rfl ?_
    refine wp_cVq (n := 1) (mt' := mX12_specName) (as := [vI l1]) (rest := []) _ dX12_group_91 lX12_383 kX12_specName vX12_specName (by decide) (by decide +kernel) rfl (Nat.le_of_ble_eq_true rfl) (by decide) rfl rfl rfl (Nat.le_of_ble_eq_true rfl) (fun hM hS => h) (fun r M' hq hM => ?_)
    obtain ⟨x91, m91, n91, rfl, rfl, h⟩ := rI_out hq
    refine wp_istore dX12_group_94 (by decide) (wp_L (L' := [some (vR 124), some (vI l1), some (vI l2), some (vI l3), some (vI x91)]) rfl ?_)
    refine wp_aload_n dX12_group_96 rfl rfl (by first | exact Or.inl (by decide) | exact Or.inl (by omega) | exact Or.inr (by decide) | exact Or.inr (by omega)) ?_
    refine wp_iconst dX12_group_97 (by decide) ?_
    refine wp_putZ dX12_group_98 pX12_397 rfl (by decide) (by decide) ?_
    refine wp_gI (fun m98 e98 => ?_)
    replace h := h m98 e98
    refine wp_aload_n dX12_group_101 rfl rfl (by first | exact Or.inl (by decide) | exact Or.inl (by omega) | exact Or.inr (by decide) | exact Or.inr (by omega)) ?_
    refine wp_lconst (z := 1) dX12_group_102 (by decide +kernel) (by decide) ?_
    refine wp_iload dX12_group_103 rfl ?_
    refine wp_pc (pc' := 105) rfl ?_
    refine wp_lshl dX12_group_105 ?_
    refine wp_putL dX12_group_106 pX12_390 rfl (by decide) ?_
    refine wp_gL (fun n106 e106 => ?_)
    replace h := h n106 e106
    refine wp_aload_n dX12_group_109 rfl rfl (by first | exact Or.inl (by decide) | exact Or.inl (by omega) | exact Or.inr (by decide) | exact Or.inr (by omega)) ?_
    refine wp_lconst (z := 1) dX12_group_110 (by decide +kernel) (by decide) ?_
    refine wp_iload dX12_group_111 rfl ?_
    refine wp_lshl dX12_group_113 ?_
    refine wp_putL dX12_group_114 pX12_386 rfl (by decide) ?_
    refine wp_gL (fun n114 e114 => ?_)
    replace h := h n114 e114
    refine wp_aload_n dX12_group_117 rfl rfl (by first | exact Or.inl (by decide) | exact Or.inl (by omega) | exact Or.inr (by decide) | exact Or.inr (by omega)) ?_
    refine wp_pc (pc' := 118) rfl ?_
    refine wp_iload_n dX12_group_118 rfl rfl ?_
    refine wp_cVq (n := 1) (mt' := mX12_mark) (as := [vI l1]) (rest := []) _ dX12_group_119 lX12_403 kX12_mark vX12_mark (by decide) (by decide +kernel) rfl (Nat.le_of_ble_eq_true rfl) (by decide) rfl rfl rfl (Nat.le_of_ble_eq_true rfl) (fun hM hS => h) (fun r M' hq hM => ?_)
    obtain ⟨m119, n119, rfl, rfl, h⟩ := rV_out hq
    refine wp_aload_n dX12_group_122 rfl rfl (by first | exact Or.inl (by decide) | exact Or.inl (by omega) | exact Or.inr (by decide) | exact Or.inr (by omega)) ?_
    refine wp_iload_n dX12_group_123 rfl rfl ?_
    refine wp_iload_n dX12_group_124 rfl rfl ?_
    refine wp_cVq (n := 2) (mt' := mX12_comes) (as := [vI l1, vI l2]) (rest := []) _ dX12_group_125 lX12_406 kX12_comes vX12_comes (by decide) (by decide +kernel) rfl (Nat.le_of_ble_eq_true rfl) (by decide) rfl rfl rfl (Nat.le_of_ble_eq_true rfl) (fun hM hS => h) (fun r M' hq hM => ?_)
    obtain ⟨m125, n125, rfl, rfl, h⟩ := rV_out hq
    refine wp_iconst dX12_group_128 (by decide) ?_
    refine wp_istore_n dX12_group_129 rfl (by decide) (wp_L (L' := [some (vR 124), some (vI l1), some (vI l2), some (vI 0), some (vI x91)]) rfl ?_)
    refine wp_goto (tgt := 16) dX12_group_130 (by decide) ?_
    refine wp_forget (L' := [some (vR 124), some (vI l1), some (vI l2), some (vI 0), none]) (by repeat' (first | exact trivial | refine ⟨rfl, ?_⟩)) ?_
    exact h
theorem v_X12_group_229 {cs : Cs} {Q : Option AV → Mm → Prop} {MI ML : Nat → Nat → Int} {d e nw th x : Nat} {l1 l2 l3 l4 : Int}
    (h : (0 ≤ l2 ∧ l2 < 8) ∧ (((MI 168 l2.toNat) = 0 → ∀ m256, m256 = up2 MI 168 l2.toNat l4 → (-2147483648 ≤ (m256 124 4) + 1 ∧ (m256 124 4) + 1 < 2147483648) ∧ ∀ m264, m264 = up2 m256 124 4 ((m256 124 4) + 1) → wp cs mX12_maybeS KD (rV (GR d e nw th x) fun m268 n268 => wp cs mX12_group KD Q 16 [some (vR 124), some (vI l1), some (vI l2), some (vI 1), none] [] (KD, m268, n268, (GR d e nw th x))) 0 (padL [vR 124] 1) [] (KD, m264, ML, (GR d e nw th x))) ∧ ((MI 168 l2.toNat) ≠ 0 → (((MI 168 l2.toNat) = l4 → ∀ m256, m256 = up2 MI 168 l2.toNat l4 → (-2147483648 ≤ (m256 124 4) + 1 ∧ (m256 124 4) + 1 < 2147483648) ∧ ∀ m264, m264 = up2 m256 124 4 ((m256 124 4) + 1) → wp cs mX12_maybeS KD (rV (GR d e nw th x) fun m268 n268 => wp cs mX12_group KD Q 16 [some (vR 124), some (vI l1), some (vI l2), some (vI 1), none] [] (KD, m268, n268, (GR d e nw th x))) 0 (padL [vR 124] 1) [] (KD, m264, ML, (GR d e nw th x))) ∧ ((MI 168 l2.toNat) ≠ l4 → wp cs mX12_fail KD (rV (GR d e nw th x) fun m282 n282 => wp cs mX12_group KD Q 16 [some (vR 124), some (vI l1), some (vI l2), some (vI l3), none] [] (KD, m282, n282, (GR d e nw th x))) 0 (padL [vR 124, vI (-1), vI (MI 124 4)] 3) [] (KD, MI, ML, (GR d e nw th x))))))) :
    wp cs mX12_group KD Q 229 [some (vR 124), some (vI l1), some (vI l2), some (vI l3), some (vI l4)] [] (KD, MI, ML, (GR d e nw th x)) := by
  refine wp_aload_n dX12_group_229 rfl rfl (by first | exact Or.inl (by decide) | exact Or.inl (by omega) | exact Or.inr (by decide) | exact Or.inr (by omega)) ?_
  refine wp_getR dX12_group_230 fX12_146 rfl (by decide) ?_
  refine wp_topR (x' := 168) rfl ?_
  refine wp_iload_n dX12_group_233 rfl rfl ?_
  have c0 := h.1
  replace h := h.2
  refine wp_iald dX12_group_234 rfl (by decide) c0 ?_
  refine wp_if_eq (tgt := 249) dX12_group_235 (by decide) (fun h235 => ?_) (fun h235 => ?_)
  · replace h := h.1 h235
    refine wp_aload_n dX12_group_249 rfl rfl (by first | exact Or.inl (by decide) | exact Or.inl (by omega) | exact Or.inr (by decide) | exact Or.inr (by omega)) ?_
    refine wp_getR dX12_group_250 fX12_146 rfl (by decide) ?_
    refine wp_topR (x' := 168) rfl ?_
    refine wp_iload_n dX12_group_253 rfl rfl ?_
    refine wp_iload dX12_group_254 rfl ?_
    refine wp_iast dX12_group_256 rfl (by decide) c0 ?_
    refine wp_gI (fun m256 e256 => ?_)
    replace h := h m256 e256
    refine wp_aload_n dX12_group_257 rfl rfl (by first | exact Or.inl (by decide) | exact Or.inl (by omega) | exact Or.inr (by decide) | exact Or.inr (by omega)) ?_
    refine wp_dup dX12_group_258 (fun x e => by cases e) ?_
    refine wp_pc (pc' := 259) rfl ?_
    refine wp_getI dX12_group_259 fX12_276 rfl (by decide) ?_
    refine wp_iconst dX12_group_262 (by decide) ?_
    have c1 := h.1
    replace h := h.2
    refine wp_iaddr dX12_group_263 c1 ?_
    refine wp_putI dX12_group_264 pX12_276 rfl (by decide) ?_
    refine wp_gI (fun m264 e264 => ?_)
    replace h := h m264 e264
    refine wp_aload_n dX12_group_267 rfl rfl (by first | exact Or.inl (by decide) | exact Or.inl (by omega) | exact Or.inr (by decide) | exact Or.inr (by omega)) ?_
    refine wp_cVq (n := 0) (mt' := mX12_maybeS) (as := []) (rest := []) _ dX12_group_268 lX12_300 kX12_maybeS vX12_maybeS (by decide) (by decide +kernel) rfl (Nat.le_of_ble_eq_true rfl) (by decide) rfl rfl rfl (Nat.le_of_ble_eq_true rfl) (fun hM hS => h) (fun r M' hq hM => ?_)
    obtain ⟨m268, n268, rfl, rfl, h⟩ := rV_out hq
    refine wp_iconst dX12_group_271 (by decide) ?_
    refine wp_istore_n dX12_group_272 rfl (by decide) (wp_L (L' := [some (vR 124), some (vI l1), some (vI l2), some (vI 1), some (vI l4)]) rfl ?_)
    refine wp_goto (tgt := 285) dX12_group_273 (by decide) ?_
    refine wp_goto (tgt := 16) dX12_group_285 (by decide) ?_
    refine wp_forget (L' := [some (vR 124), some (vI l1), some (vI l2), some (vI 1), none]) (by repeat' (first | exact trivial | refine ⟨rfl, ?_⟩)) ?_
    exact h
  · replace h := h.2 h235
    refine wp_aload_n dX12_group_238 rfl rfl (by first | exact Or.inl (by decide) | exact Or.inl (by omega) | exact Or.inr (by decide) | exact Or.inr (by omega)) ?_
    refine wp_getR dX12_group_239 fX12_146 rfl (by decide) ?_
    refine wp_topR (x' := 168) rfl ?_
    refine wp_iload_n dX12_group_242 rfl rfl ?_
    refine wp_iald dX12_group_243 rfl (by decide) c0 ?_
    refine wp_iload dX12_group_244 rfl ?_
    refine wp_icmp_ne (tgt := 276) dX12_group_246 (by decide) (fun h246 => ?_) (fun h246 => ?_)
    · replace h := h.2 h246
      refine wp_aload_n dX12_group_276 rfl rfl (by first | exact Or.inl (by decide) | exact Or.inl (by omega) | exact Or.inr (by decide) | exact Or.inr (by omega)) ?_
      refine wp_iconst dX12_group_277 (by decide) ?_
      refine wp_aload_n dX12_group_278 rfl rfl (by first | exact Or.inl (by decide) | exact Or.inl (by omega) | exact Or.inr (by decide) | exact Or.inr (by omega)) ?_
      refine wp_getI dX12_group_279 fX12_276 rfl (by decide) ?_
      refine wp_cVq (n := 2) (mt' := mX12_fail) (as := [vI (-1), vI (MI 124 4)]) (rest := []) _ dX12_group_282 lX12_293 kX12_fail vX12_fail (by decide) (by decide +kernel) rfl (Nat.le_of_ble_eq_true rfl) (by decide) rfl rfl rfl (Nat.le_of_ble_eq_true rfl) (fun hM hS => h) (fun r M' hq hM => ?_)
      obtain ⟨m282, n282, rfl, rfl, h⟩ := rV_out hq
      refine wp_goto (tgt := 16) dX12_group_285 (by decide) ?_
      refine wp_forget (L' := [some (vR 124), some (vI l1), some (vI l2), some (vI l3), none]) (by repeat' (first | exact trivial | refine ⟨rfl, ?_⟩)) ?_
      exact h
    · replace h := h.1 h246
      refine wp_aload_n dX12_group_249 rfl rfl (by first | exact Or.inl (by decide) | exact Or.inl (by omega) | exact Or.inr (by decide) | exact Or.inr (by omega)) ?_
      refine wp_getR dX12_group_250 fX12_146 rfl (by decide) ?_
      refine wp_topR (x' := 168) rfl ?_
      refine wp_iload_n dX12_group_253 rfl rfl ?_
      refine wp_iload dX12_group_254 rfl ?_
      refine wp_iast dX12_group_256 rfl (by decide) c0 ?_
      refine wp_gI (fun m256 e256 => ?_)
      replace h := h m256 e256
      refine wp_aload_n dX12_group_257 rfl rfl (by first | exact Or.inl (by decide) | exact Or.inl (by omega) | exact Or.inr (by decide) | exact Or.inr (by omega)) ?_
      refine wp_dup dX12_group_258 (fun x e => by cases e) ?_
      refine wp_pc (pc' := 259) rfl ?_
      refine wp_getI dX12_group_259 fX12_276 rfl (by decide) ?_
      refine wp_iconst dX12_group_262 (by decide) ?_
      have c1 := h.1
      replace h := h.2
      refine wp_iaddr dX12_group_263 c1 ?_
      refine wp_putI dX12_group_264 pX12_276 rfl (by decide) ?_
      refine wp_gI (fun m264 e264 => ?_)
      replace h := h m264 e264
      refine wp_aload_n dX12_group_267 rfl rfl (by first | exact Or.inl (by decide) | exact Or.inl (by omega) | exact Or.inr (by decide) | exact Or.inr (by omega)) ?_
      refine wp_cVq (n := 0) (mt' := mX12_maybeS) (as := []) (rest := []) _ dX12_group_268 lX12_300 kX12_maybeS vX12_maybeS (by decide) (by decide +kernel) rfl (Nat.le_of_ble_eq_true rfl) (by decide) rfl rfl rfl (Nat.le_of_ble_eq_true rfl) (fun hM hS => h) (fun r M' hq hM => ?_)
      obtain ⟨m268, n268, rfl, rfl, h⟩ := rV_out hq
      refine wp_iconst dX12_group_271 (by decide) ?_
      refine wp_istore_n dX12_group_272 rfl (by decide) (wp_L (L' := [some (vR 124), some (vI l1), some (vI l2), some (vI 1), some (vI l4)]) rfl ?_)
      refine wp_goto (tgt := 285) dX12_group_273 (by decide) ?_
      refine wp_goto (tgt := 16) dX12_group_285 (by decide) ?_
      refine wp_forget (L' := [some (vR 124), some (vI l1), some (vI l2), some (vI 1), none]) (by repeat' (first | exact trivial | refine ⟨rfl, ?_⟩)) ?_
      exact h
theorem v_X12_group_288 {cs : Cs} {Q : Option AV → Mm → Prop} {MI ML : Nat → Nat → Int} {d e nw th x : Nat} {l1 l2 l3 : Int}
    (h : (0 ≤ l1 ∧ l1 < 60) ∧ ∀ n297, n297 = up2 ML 150 l1.toNat (ML 124 60) → ∀ n307, n307 = up2 n297 151 l1.toNat (n297 124 61) → ((MI 124 59) = 0 ∨ (MI 124 59) = 1) ∧ ∀ m317, m317 = up2 MI 152 l1.toNat (MI 124 59) → Q none (m317, n307, (GR d e nw th x))) :
    wp cs mX12_group KD Q 288 [some (vR 124), some (vI l1), some (vI l2), some (vI l3), none] [] (KD, MI, ML, (GR d e nw th x)) := by
  refine wp_aload_n dX12_group_288 rfl rfl (by first | exact Or.inl (by decide) | exact Or.inl (by omega) | exact Or.inr (by decide) | exact Or.inr (by omega)) ?_
  refine wp_getR dX12_group_289 fX12_91 rfl (by decide) ?_
  refine wp_topR (x' := 150) rfl ?_
  refine wp_iload_n dX12_group_292 rfl rfl ?_
  refine wp_aload_n dX12_group_293 rfl rfl (by first | exact Or.inl (by decide) | exact Or.inl (by omega) | exact Or.inr (by decide) | exact Or.inr (by omega)) ?_
  refine wp_getL dX12_group_294 fX12_390 rfl (by decide) ?_
  have c0 := h.1
  replace h := h.2
  refine wp_last dX12_group_297 rfl (by decide) c0 ?_
  refine wp_gL (fun n297 e297 => ?_)
  replace h := h n297 e297
  refine wp_aload_n dX12_group_298 rfl rfl (by first | exact Or.inl (by decide) | exact Or.inl (by omega) | exact Or.inr (by decide) | exact Or.inr (by omega)) ?_
  refine wp_pc (pc' := 299) rfl ?_
  refine wp_getR dX12_group_299 fX12_95 rfl (by decide) ?_
  refine wp_topR (x' := 151) rfl ?_
  refine wp_iload_n dX12_group_302 rfl rfl ?_
  refine wp_aload_n dX12_group_303 rfl rfl (by first | exact Or.inl (by decide) | exact Or.inl (by omega) | exact Or.inr (by decide) | exact Or.inr (by omega)) ?_
  refine wp_getL dX12_group_304 fX12_386 rfl (by decide) ?_
  refine wp_last dX12_group_307 rfl (by decide) c0 ?_
  refine wp_gL (fun n307 e307 => ?_)
  replace h := h n307 e307
  refine wp_aload_n dX12_group_308 rfl rfl (by first | exact Or.inl (by decide) | exact Or.inl (by omega) | exact Or.inr (by decide) | exact Or.inr (by omega)) ?_
  refine wp_getR dX12_group_309 fX12_98 rfl (by decide) ?_
  refine wp_topR (x' := 152) rfl ?_
  refine wp_iload_n dX12_group_312 rfl rfl ?_
  refine wp_pc (pc' := 313) rfl ?_
  refine wp_aload_n dX12_group_313 rfl rfl (by first | exact Or.inl (by decide) | exact Or.inl (by omega) | exact Or.inr (by decide) | exact Or.inr (by omega)) ?_
  refine wp_getI dX12_group_314 fX12_397 rfl (by decide) ?_
  have c1 := h.1
  replace h := h.2
  refine wp_zast dX12_group_317 rfl (by decide) c0 c1 ?_
  refine wp_gI (fun m317 e317 => ?_)
  replace h := h m317 e317
  exact wp_vret dX12_group_318 rfl (fun _ => h)
theorem dX12_declaration_0 : decode cX12_declaration 0 = .ok (.aload_n 0, 1) := by decide +kernel
theorem dX12_declaration_1 : decode cX12_declaration 1 = .ok (.getfield 70, 3) := by decide +kernel
theorem dX12_declaration_4 : decode cX12_declaration 4 = .ok (.aload_n 0, 1) := by decide +kernel
theorem dX12_declaration_5 : decode cX12_declaration 5 = .ok (.getfield 328, 3) := by decide +kernel
theorem dX12_declaration_8 : decode cX12_declaration 8 = .ok (.iaload, 1) := by decide +kernel
theorem dX12_declaration_9 : decode cX12_declaration 9 = .ok (.bipush 30, 2) := by decide +kernel
theorem dX12_declaration_11 : decode cX12_declaration 11 = .ok (.if_icmp .ne 14, 3) := by decide +kernel
theorem dX12_declaration_14 : decode cX12_declaration 14 = .ok (.aload_n 0, 1) := by decide +kernel
theorem dX12_declaration_15 : decode cX12_declaration 15 = .ok (.bipush (-3), 2) := by decide +kernel
theorem dX12_declaration_17 : decode cX12_declaration 17 = .ok (.aload_n 0, 1) := by decide +kernel
theorem dX12_declaration_18 : decode cX12_declaration 18 = .ok (.getfield 276, 3) := by decide +kernel
theorem dX12_declaration_21 : decode cX12_declaration 21 = .ok (.invokevirtual 293, 3) := by decide +kernel
theorem dX12_declaration_24 : decode cX12_declaration 24 = .ok (.return_, 1) := by decide +kernel
theorem dX12_declaration_25 : decode cX12_declaration 25 = .ok (.aload_n 0, 1) := by decide +kernel
theorem dX12_declaration_26 : decode cX12_declaration 26 = .ok (.dup, 1) := by decide +kernel
theorem dX12_declaration_27 : decode cX12_declaration 27 = .ok (.getfield 276, 3) := by decide +kernel
theorem dX12_declaration_30 : decode cX12_declaration 30 = .ok (.bipush 9, 2) := by decide +kernel
theorem dX12_declaration_32 : decode cX12_declaration 32 = .ok (.iadd, 1) := by decide +kernel
theorem dX12_declaration_33 : decode cX12_declaration 33 = .ok (.putfield 276, 3) := by decide +kernel
theorem dX12_declaration_36 : decode cX12_declaration 36 = .ok (.aload_n 0, 1) := by decide +kernel
theorem dX12_declaration_37 : decode cX12_declaration 37 = .ok (.invokevirtual 348, 3) := by decide +kernel
theorem dX12_declaration_40 : decode cX12_declaration 40 = .ok (.aload_n 0, 1) := by decide +kernel
theorem dX12_declaration_41 : decode cX12_declaration 41 = .ok (.invokevirtual 351, 3) := by decide +kernel
theorem dX12_declaration_44 : decode cX12_declaration 44 = .ok (.istore_n 1, 1) := by decide +kernel
theorem dX12_declaration_45 : decode cX12_declaration 45 = .ok (.bipush 30, 2) := by decide +kernel
theorem dX12_declaration_47 : decode cX12_declaration 47 = .ok (.aload_n 0, 1) := by decide +kernel
theorem dX12_declaration_48 : decode cX12_declaration 48 = .ok (.getfield 328, 3) := by decide +kernel
theorem dX12_declaration_51 : decode cX12_declaration 51 = .ok (.imul, 1) := by decide +kernel
theorem dX12_declaration_52 : decode cX12_declaration 52 = .ok (.aload_n 0, 1) := by decide +kernel
theorem dX12_declaration_53 : decode cX12_declaration 53 = .ok (.getfield 70, 3) := by decide +kernel
theorem dX12_declaration_56 : decode cX12_declaration 56 = .ok (.aload_n 0, 1) := by decide +kernel
theorem dX12_declaration_57 : decode cX12_declaration 57 = .ok (.getfield 328, 3) := by decide +kernel
theorem dX12_declaration_60 : decode cX12_declaration 60 = .ok (.iaload, 1) := by decide +kernel
theorem dX12_declaration_61 : decode cX12_declaration 61 = .ok (.iadd, 1) := by decide +kernel
theorem dX12_declaration_62 : decode cX12_declaration 62 = .ok (.istore_n 2, 1) := by decide +kernel
theorem dX12_declaration_63 : decode cX12_declaration 63 = .ok (.aload_n 0, 1) := by decide +kernel
theorem dX12_declaration_64 : decode cX12_declaration 64 = .ok (.getfield 73, 3) := by decide +kernel
theorem dX12_declaration_67 : decode cX12_declaration 67 = .ok (.iload_n 2, 1) := by decide +kernel
theorem dX12_declaration_68 : decode cX12_declaration 68 = .ok (.sipush 6000, 3) := by decide +kernel
theorem dX12_declaration_71 : decode cX12_declaration 71 = .ok (.aload_n 0, 1) := by decide +kernel
theorem dX12_declaration_72 : decode cX12_declaration 72 = .ok (.getfield 328, 3) := by decide +kernel
theorem dX12_declaration_75 : decode cX12_declaration 75 = .ok (.imul, 1) := by decide +kernel
theorem dX12_declaration_76 : decode cX12_declaration 76 = .ok (.iload_n 1, 1) := by decide +kernel
theorem dX12_declaration_77 : decode cX12_declaration 77 = .ok (.iadd, 1) := by decide +kernel
theorem dX12_declaration_78 : decode cX12_declaration 78 = .ok (.iastore, 1) := by decide +kernel
theorem dX12_declaration_79 : decode cX12_declaration 79 = .ok (.aload_n 0, 1) := by decide +kernel
theorem dX12_declaration_80 : decode cX12_declaration 80 = .ok (.getfield 76, 3) := by decide +kernel
theorem dX12_declaration_83 : decode cX12_declaration 83 = .ok (.iload_n 2, 1) := by decide +kernel
theorem dX12_declaration_84 : decode cX12_declaration 84 = .ok (.aload_n 0, 1) := by decide +kernel
theorem dX12_declaration_85 : decode cX12_declaration 85 = .ok (.getfield 306, 3) := by decide +kernel
theorem dX12_declaration_88 : decode cX12_declaration 88 = .ok (.iastore, 1) := by decide +kernel
theorem dX12_declaration_89 : decode cX12_declaration 89 = .ok (.aload_n 0, 1) := by decide +kernel
theorem dX12_declaration_90 : decode cX12_declaration 90 = .ok (.getfield 82, 3) := by decide +kernel
theorem dX12_declaration_93 : decode cX12_declaration 93 = .ok (.iload_n 2, 1) := by decide +kernel
theorem dX12_declaration_94 : decode cX12_declaration 94 = .ok (.iconst 0, 1) := by decide +kernel
theorem dX12_declaration_95 : decode cX12_declaration 95 = .ok (.iastore, 1) := by decide +kernel
theorem dX12_declaration_96 : decode cX12_declaration 96 = .ok (.aload_n 0, 1) := by decide +kernel
theorem dX12_declaration_97 : decode cX12_declaration 97 = .ok (.invokevirtual 348, 3) := by decide +kernel
theorem dX12_declaration_100 : decode cX12_declaration 100 = .ok (.aload_n 0, 1) := by decide +kernel
theorem dX12_declaration_101 : decode cX12_declaration 101 = .ok (.invokevirtual 289, 3) := by decide +kernel
theorem dX12_declaration_104 : decode cX12_declaration 104 = .ok (.ifCond .eq 34, 3) := by decide +kernel
theorem dX12_declaration_107 : decode cX12_declaration 107 = .ok (.aload_n 0, 1) := by decide +kernel
theorem dX12_declaration_108 : decode cX12_declaration 108 = .ok (.ldc2_w 370, 3) := by decide +kernel
theorem dX12_declaration_111 : decode cX12_declaration 111 = .ok (.iconst 5, 1) := by decide +kernel
theorem dX12_declaration_112 : decode cX12_declaration 112 = .ok (.invokevirtual 285, 3) := by decide +kernel
theorem dX12_declaration_115 : decode cX12_declaration 115 = .ok (.ifCond .eq 23, 3) := by decide +kernel
theorem dX12_declaration_118 : decode cX12_declaration 118 = .ok (.aload_n 0, 1) := by decide +kernel
theorem dX12_declaration_119 : decode cX12_declaration 119 = .ok (.dup, 1) := by decide +kernel
theorem dX12_declaration_120 : decode cX12_declaration 120 = .ok (.getfield 276, 3) := by decide +kernel
theorem dX12_declaration_123 : decode cX12_declaration 123 = .ok (.iconst 5, 1) := by decide +kernel
theorem dX12_declaration_124 : decode cX12_declaration 124 = .ok (.iadd, 1) := by decide +kernel
theorem dX12_declaration_125 : decode cX12_declaration 125 = .ok (.putfield 276, 3) := by decide +kernel
theorem dX12_declaration_128 : decode cX12_declaration 128 = .ok (.aload_n 0, 1) := by decide +kernel
theorem dX12_declaration_129 : decode cX12_declaration 129 = .ok (.getfield 79, 3) := by decide +kernel
theorem dX12_declaration_132 : decode cX12_declaration 132 = .ok (.iload_n 2, 1) := by decide +kernel
theorem dX12_declaration_133 : decode cX12_declaration 133 = .ok (.iconst 0, 1) := by decide +kernel
theorem dX12_declaration_134 : decode cX12_declaration 134 = .ok (.iastore, 1) := by decide +kernel
theorem dX12_declaration_135 : decode cX12_declaration 135 = .ok (.goto 93, 3) := by decide +kernel
theorem dX12_declaration_138 : decode cX12_declaration 138 = .ok (.aload_n 0, 1) := by decide +kernel
theorem dX12_declaration_139 : decode cX12_declaration 139 = .ok (.invokevirtual 289, 3) := by decide +kernel
theorem dX12_declaration_142 : decode cX12_declaration 142 = .ok (.ifCond .eq 34, 3) := by decide +kernel
theorem dX12_declaration_145 : decode cX12_declaration 145 = .ok (.aload_n 0, 1) := by decide +kernel
theorem dX12_declaration_146 : decode cX12_declaration 146 = .ok (.ldc2_w 372, 3) := by decide +kernel
theorem dX12_declaration_149 : decode cX12_declaration 149 = .ok (.iconst 3, 1) := by decide +kernel
theorem dX12_declaration_150 : decode cX12_declaration 150 = .ok (.invokevirtual 285, 3) := by decide +kernel
theorem dX12_declaration_153 : decode cX12_declaration 153 = .ok (.ifCond .eq 23, 3) := by decide +kernel
theorem dX12_declaration_156 : decode cX12_declaration 156 = .ok (.aload_n 0, 1) := by decide +kernel
theorem dX12_declaration_157 : decode cX12_declaration 157 = .ok (.dup, 1) := by decide +kernel
theorem dX12_declaration_158 : decode cX12_declaration 158 = .ok (.getfield 276, 3) := by decide +kernel
theorem dX12_declaration_161 : decode cX12_declaration 161 = .ok (.iconst 3, 1) := by decide +kernel
theorem dX12_declaration_162 : decode cX12_declaration 162 = .ok (.iadd, 1) := by decide +kernel
theorem dX12_declaration_163 : decode cX12_declaration 163 = .ok (.putfield 276, 3) := by decide +kernel
theorem dX12_declaration_166 : decode cX12_declaration 166 = .ok (.aload_n 0, 1) := by decide +kernel
theorem dX12_declaration_167 : decode cX12_declaration 167 = .ok (.getfield 79, 3) := by decide +kernel
theorem dX12_declaration_170 : decode cX12_declaration 170 = .ok (.iload_n 2, 1) := by decide +kernel
theorem dX12_declaration_171 : decode cX12_declaration 171 = .ok (.iconst 1, 1) := by decide +kernel
theorem dX12_declaration_172 : decode cX12_declaration 172 = .ok (.iastore, 1) := by decide +kernel
theorem dX12_declaration_173 : decode cX12_declaration 173 = .ok (.goto 55, 3) := by decide +kernel
theorem dX12_declaration_176 : decode cX12_declaration 176 = .ok (.aload_n 0, 1) := by decide +kernel
theorem dX12_declaration_177 : decode cX12_declaration 177 = .ok (.bipush 40, 2) := by decide +kernel
theorem dX12_declaration_179 : decode cX12_declaration 179 = .ok (.invokevirtual 340, 3) := by decide +kernel
theorem dX12_declaration_182 : decode cX12_declaration 182 = .ok (.ifCond .eq 46, 3) := by decide +kernel
theorem dX12_declaration_185 : decode cX12_declaration 185 = .ok (.aload_n 0, 1) := by decide +kernel
theorem dX12_declaration_186 : decode cX12_declaration 186 = .ok (.invokevirtual 300, 3) := by decide +kernel
theorem dX12_declaration_189 : decode cX12_declaration 189 = .ok (.aload_n 0, 1) := by decide +kernel
theorem dX12_declaration_190 : decode cX12_declaration 190 = .ok (.invokevirtual 289, 3) := by decide +kernel
theorem dX12_declaration_193 : decode cX12_declaration 193 = .ok (.ifCond .eq 23, 3) := by decide +kernel
theorem dX12_declaration_196 : decode cX12_declaration 196 = .ok (.aload_n 0, 1) := by decide +kernel
theorem dX12_declaration_197 : decode cX12_declaration 197 = .ok (.ldc2_w 374, 3) := by decide +kernel
theorem dX12_declaration_200 : decode cX12_declaration 200 = .ok (.bipush 7, 2) := by decide +kernel
theorem dX12_declaration_202 : decode cX12_declaration 202 = .ok (.invokevirtual 285, 3) := by decide +kernel
theorem dX12_declaration_205 : decode cX12_declaration 205 = .ok (.ifCond .eq 11, 3) := by decide +kernel
theorem dX12_declaration_208 : decode cX12_declaration 208 = .ok (.aload_n 0, 1) := by decide +kernel
theorem dX12_declaration_209 : decode cX12_declaration 209 = .ok (.iload_n 2, 1) := by decide +kernel
theorem dX12_declaration_210 : decode cX12_declaration 210 = .ok (.invokevirtual 376, 3) := by decide +kernel
theorem dX12_declaration_213 : decode cX12_declaration 213 = .ok (.goto 15, 3) := by decide +kernel
theorem dX12_declaration_216 : decode cX12_declaration 216 = .ok (.aload_n 0, 1) := by decide +kernel
theorem dX12_declaration_217 : decode cX12_declaration 217 = .ok (.invokevirtual 289, 3) := by decide +kernel
theorem dX12_declaration_220 : decode cX12_declaration 220 = .ok (.ifCond .eq 8, 3) := by decide +kernel
theorem dX12_declaration_223 : decode cX12_declaration 223 = .ok (.aload_n 0, 1) := by decide +kernel
theorem dX12_declaration_224 : decode cX12_declaration 224 = .ok (.iload_n 2, 1) := by decide +kernel
theorem dX12_declaration_225 : decode cX12_declaration 225 = .ok (.invokevirtual 380, 3) := by decide +kernel
theorem dX12_declaration_228 : decode cX12_declaration 228 = .ok (.aload_n 0, 1) := by decide +kernel
theorem dX12_declaration_229 : decode cX12_declaration 229 = .ok (.invokevirtual 300, 3) := by decide +kernel
theorem dX12_declaration_232 : decode cX12_declaration 232 = .ok (.aload_n 0, 1) := by decide +kernel
theorem dX12_declaration_233 : decode cX12_declaration 233 = .ok (.bipush 62, 2) := by decide +kernel
theorem dX12_declaration_235 : decode cX12_declaration 235 = .ok (.invokevirtual 340, 3) := by decide +kernel
theorem dX12_declaration_238 : decode cX12_declaration 238 = .ok (.ifCond .eq 63, 3) := by decide +kernel
theorem dX12_declaration_241 : decode cX12_declaration 241 = .ok (.aload_n 0, 1) := by decide +kernel
theorem dX12_declaration_242 : decode cX12_declaration 242 = .ok (.getfield 140, 3) := by decide +kernel
theorem dX12_declaration_245 : decode cX12_declaration 245 = .ok (.sipush 850, 3) := by decide +kernel
theorem dX12_declaration_248 : decode cX12_declaration 248 = .ok (.aload_n 0, 1) := by decide +kernel
theorem dX12_declaration_249 : decode cX12_declaration 249 = .ok (.getfield 328, 3) := by decide +kernel
theorem dX12_declaration_252 : decode cX12_declaration 252 = .ok (.imul, 1) := by decide +kernel
theorem dX12_declaration_253 : decode cX12_declaration 253 = .ok (.aload_n 0, 1) := by decide +kernel
theorem dX12_declaration_254 : decode cX12_declaration 254 = .ok (.getfield 143, 3) := by decide +kernel
theorem dX12_declaration_257 : decode cX12_declaration 257 = .ok (.aload_n 0, 1) := by decide +kernel
theorem dX12_declaration_258 : decode cX12_declaration 258 = .ok (.getfield 328, 3) := by decide +kernel
theorem dX12_declaration_261 : decode cX12_declaration 261 = .ok (.iaload, 1) := by decide +kernel
theorem dX12_declaration_262 : decode cX12_declaration 262 = .ok (.iadd, 1) := by decide +kernel
theorem dX12_declaration_263 : decode cX12_declaration 263 = .ok (.iconst 2, 1) := by decide +kernel
theorem dX12_declaration_264 : decode cX12_declaration 264 = .ok (.aload_n 0, 1) := by decide +kernel
theorem dX12_declaration_265 : decode cX12_declaration 265 = .ok (.getfield 70, 3) := by decide +kernel
theorem dX12_declaration_268 : decode cX12_declaration 268 = .ok (.aload_n 0, 1) := by decide +kernel
theorem dX12_declaration_269 : decode cX12_declaration 269 = .ok (.getfield 328, 3) := by decide +kernel
theorem dX12_declaration_272 : decode cX12_declaration 272 = .ok (.iaload, 1) := by decide +kernel
theorem dX12_declaration_273 : decode cX12_declaration 273 = .ok (.imul, 1) := by decide +kernel
theorem dX12_declaration_274 : decode cX12_declaration 274 = .ok (.iastore, 1) := by decide +kernel
theorem dX12_declaration_275 : decode cX12_declaration 275 = .ok (.aload_n 0, 1) := by decide +kernel
theorem dX12_declaration_276 : decode cX12_declaration 276 = .ok (.getfield 143, 3) := by decide +kernel
theorem dX12_declaration_279 : decode cX12_declaration 279 = .ok (.aload_n 0, 1) := by decide +kernel
theorem dX12_declaration_280 : decode cX12_declaration 280 = .ok (.getfield 328, 3) := by decide +kernel
theorem dX12_declaration_283 : decode cX12_declaration 283 = .ok (.dup2, 1) := by decide +kernel
theorem dX12_declaration_284 : decode cX12_declaration 284 = .ok (.iaload, 1) := by decide +kernel
theorem dX12_declaration_285 : decode cX12_declaration 285 = .ok (.iconst 1, 1) := by decide +kernel
theorem dX12_declaration_286 : decode cX12_declaration 286 = .ok (.iadd, 1) := by decide +kernel
theorem dX12_declaration_287 : decode cX12_declaration 287 = .ok (.iastore, 1) := by decide +kernel
theorem dX12_declaration_288 : decode cX12_declaration 288 = .ok (.aload_n 0, 1) := by decide +kernel
theorem dX12_declaration_289 : decode cX12_declaration 289 = .ok (.getfield 70, 3) := by decide +kernel
theorem dX12_declaration_292 : decode cX12_declaration 292 = .ok (.aload_n 0, 1) := by decide +kernel
theorem dX12_declaration_293 : decode cX12_declaration 293 = .ok (.getfield 328, 3) := by decide +kernel
theorem dX12_declaration_296 : decode cX12_declaration 296 = .ok (.dup2, 1) := by decide +kernel
theorem dX12_declaration_297 : decode cX12_declaration 297 = .ok (.iaload, 1) := by decide +kernel
theorem dX12_declaration_298 : decode cX12_declaration 298 = .ok (.iconst 1, 1) := by decide +kernel
theorem dX12_declaration_299 : decode cX12_declaration 299 = .ok (.iadd, 1) := by decide +kernel
theorem dX12_declaration_300 : decode cX12_declaration 300 = .ok (.iastore, 1) := by decide +kernel
theorem dX12_declaration_301 : decode cX12_declaration 301 = .ok (.return_, 1) := by decide +kernel
theorem v_X12_declaration_0 {cs : Cs} {Q : Option AV → Mm → Prop} {MI ML : Nat → Nat → Int} {d e nw th x : Nat}
    (h : (0 ≤ (MI 124 8) ∧ (MI 124 8) < 2) ∧ (((MI 143 (MI 124 8).toNat) = 30 → wp cs mX12_fail KD (rV (GR d e nw th x) fun m21 n21 => Q none (m21, n21, (GR d e nw th x))) 0 (padL [vR 124, vI (-3), vI (MI 124 4)] 3) [] (KD, MI, ML, (GR d e nw th x))) ∧ ((MI 143 (MI 124 8).toNat) ≠ 30 → (-2147483648 ≤ (MI 124 4) + 9 ∧ (MI 124 4) + 9 < 2147483648) ∧ ∀ m33, m33 = up2 MI 124 4 ((MI 124 4) + 9) → wp cs mX12_mustS KD (rV (GR d e nw th x) fun m37 n37 => wp cs mX12_takeName KD (rI (GR d e nw th x) fun x41 m41 n41 => (-2147483648 ≤ 30 * (m41 124 8) ∧ 30 * (m41 124 8) < 2147483648) ∧ (0 ≤ (m41 124 8) ∧ (m41 124 8) < 2) ∧ (-2147483648 ≤ (30 * (m41 124 8)) + (m41 143 (m41 124 8).toNat) ∧ (30 * (m41 124 8)) + (m41 143 (m41 124 8).toNat) < 2147483648) ∧ (-2147483648 ≤ 6000 * (m41 124 8) ∧ 6000 * (m41 124 8) < 2147483648) ∧ (-2147483648 ≤ (6000 * (m41 124 8)) + x41 ∧ (6000 * (m41 124 8)) + x41 < 2147483648) ∧ (0 ≤ ((30 * (m41 124 8)) + (m41 143 (m41 124 8).toNat)) ∧ ((30 * (m41 124 8)) + (m41 143 (m41 124 8).toNat)) < 60) ∧ ∀ m78, m78 = up2 m41 144 ((30 * (m41 124 8)) + (m41 143 (m41 124 8).toNat)).toNat ((6000 * (m41 124 8)) + x41) → ∀ m88, m88 = up2 m78 145 ((30 * (m41 124 8)) + (m41 143 (m41 124 8).toNat)).toNat (m78 124 51) → ∀ m95, m95 = up2 m88 147 ((30 * (m41 124 8)) + (m41 143 (m41 124 8).toNat)).toNat 0 → wp cs mX12_mustS KD (rV (GR d e nw th x) fun m97 n97 => wp cs mX12_isGood KD (rI (GR d e nw th x) fun x101 m101 n101 => ((x101 = 0 → wp cs mX12_isGood KD (rI (GR d e nw th x) fun x139 m139 n139 => ((x139 = 0 → wp cs mX12_declaration KD Q 176 [some (vR 124), some (vI x41), some (vI ((30 * (m41 124 8)) + (m41 143 (m41 124 8).toNat)))] [] (KD, m139, n139, (GR d e nw th x))) ∧ (x139 ≠ 0 → wp cs mX12_stands KD (rI (GR d e nw th x) fun x150 m150 n150 => ((x150 = 0 → wp cs mX12_declaration KD Q 176 [some (vR 124), some (vI x41), some (vI ((30 * (m41 124 8)) + (m41 143 (m41 124 8).toNat)))] [] (KD, m150, n150, (GR d e nw th x))) ∧ (x150 ≠ 0 → (-2147483648 ≤ (m150 124 4) + 3 ∧ (m150 124 4) + 3 < 2147483648) ∧ ∀ m163, m163 = up2 m150 124 4 ((m150 124 4) + 3) → ∀ m172, m172 = up2 m163 146 ((30 * (m41 124 8)) + (m41 143 (m41 124 8).toNat)).toNat 1 → wp cs mX12_declaration KD Q 228 [some (vR 124), some (vI x41), some (vI ((30 * (m41 124 8)) + (m41 143 (m41 124 8).toNat)))] [] (KD, m172, n150, (GR d e nw th x))))) 0 (padL [vR 124, vL 4279897, vI 3] 6) [] (KD, m139, n139, (GR d e nw th x))))) 0 (padL [vR 124] 1) [] (KD, m101, n101, (GR d e nw th x))) ∧ (x101 ≠ 0 → wp cs mX12_stands KD (rI (GR d e nw th x) fun x112 m112 n112 => ((x112 = 0 → wp cs mX12_isGood KD (rI (GR d e nw th x) fun x139 m139 n139 => ((x139 = 0 → wp cs mX12_declaration KD Q 176 [some (vR 124), some (vI x41), some (vI ((30 * (m41 124 8)) + (m41 143 (m41 124 8).toNat)))] [] (KD, m139, n139, (GR d e nw th x))) ∧ (x139 ≠ 0 → wp cs mX12_stands KD (rI (GR d e nw th x) fun x150 m150 n150 => ((x150 = 0 → wp cs mX12_declaration KD Q 176 [some (vR 124), some (vI x41), some (vI ((30 * (m41 124 8)) + (m41 143 (m41 124 8).toNat)))] [] (KD, m150, n150, (GR d e nw th x))) ∧ (x150 ≠ 0 → (-2147483648 ≤ (m150 124 4) + 3 ∧ (m150 124 4) + 3 < 2147483648) ∧ ∀ m163, m163 = up2 m150 124 4 ((m150 124 4) + 3) → ∀ m172, m172 = up2 m163 146 ((30 * (m41 124 8)) + (m41 143 (m41 124 8).toNat)).toNat 1 → wp cs mX12_declaration KD Q 228 [some (vR 124), some (vI x41), some (vI ((30 * (m41 124 8)) + (m41 143 (m41 124 8).toNat)))] [] (KD, m172, n150, (GR d e nw th x))))) 0 (padL [vR 124, vL 4279897, vI 3] 6) [] (KD, m139, n139, (GR d e nw th x))))) 0 (padL [vR 124] 1) [] (KD, m112, n112, (GR d e nw th x))) ∧ (x112 ≠ 0 → (-2147483648 ≤ (m112 124 4) + 5 ∧ (m112 124 4) + 5 < 2147483648) ∧ ∀ m125, m125 = up2 m112 124 4 ((m112 124 4) + 5) → ∀ m134, m134 = up2 m125 146 ((30 * (m41 124 8)) + (m41 143 (m41 124 8).toNat)).toNat 0 → wp cs mX12_declaration KD Q 228 [some (vR 124), some (vI x41), some (vI ((30 * (m41 124 8)) + (m41 143 (m41 124 8).toNat)))] [] (KD, m134, n112, (GR d e nw th x))))) 0 (padL [vR 124, vL 297649853529, vI 5] 6) [] (KD, m101, n101, (GR d e nw th x))))) 0 (padL [vR 124] 1) [] (KD, m97, n97, (GR d e nw th x))) 0 (padL [vR 124] 1) [] (KD, m95, n41, (GR d e nw th x))) 0 (padL [vR 124] 2) [] (KD, m37, n37, (GR d e nw th x))) 0 (padL [vR 124] 1) [] (KD, m33, ML, (GR d e nw th x))))) :
    wp cs mX12_declaration KD Q 0 (padL [vR 124] 3) [] (KD, MI, ML, (GR d e nw th x)) := by
  refine wp_L (L' := [some (vR 124), none, none]) rfl ?_
  refine wp_aload_n dX12_declaration_0 rfl rfl (by first | exact Or.inl (by decide) | exact Or.inl (by omega) | exact Or.inr (by decide) | exact Or.inr (by omega)) ?_
  refine wp_getR dX12_declaration_1 fX12_70 rfl (by decide) ?_
  refine wp_topR (x' := 143) rfl ?_
  refine wp_aload_n dX12_declaration_4 rfl rfl (by first | exact Or.inl (by decide) | exact Or.inl (by omega) | exact Or.inr (by decide) | exact Or.inr (by omega)) ?_
  refine wp_getI dX12_declaration_5 fX12_328 rfl (by decide) ?_
  have c0 := h.1
  replace h := h.2
  refine wp_iald dX12_declaration_8 rfl (by decide) c0 ?_
  refine wp_bipush dX12_declaration_9 (by decide +kernel) (by decide) ?_
  refine wp_icmp_ne (tgt := 25) dX12_declaration_11 (by decide) (fun h11 => ?_) (fun h11 => ?_)
  · replace h := h.2 h11
    refine wp_aload_n dX12_declaration_25 rfl rfl (by first | exact Or.inl (by decide) | exact Or.inl (by omega) | exact Or.inr (by decide) | exact Or.inr (by omega)) ?_
    refine wp_dup dX12_declaration_26 (fun x e => by cases e) ?_
    refine wp_getI dX12_declaration_27 fX12_276 rfl (by decide) ?_
    refine wp_bipush dX12_declaration_30 (by decide +kernel) (by decide) ?_
    have c1 := h.1
    replace h := h.2
    refine wp_iaddr dX12_declaration_32 c1 ?_
    refine wp_putI dX12_declaration_33 pX12_276 rfl (by decide) ?_
    refine wp_gI (fun m33 e33 => ?_)
    replace h := h m33 e33
    refine wp_aload_n dX12_declaration_36 rfl rfl (by first | exact Or.inl (by decide) | exact Or.inl (by omega) | exact Or.inr (by decide) | exact Or.inr (by omega)) ?_
    refine wp_pc (pc' := 37) rfl ?_
    refine wp_cVq (n := 0) (mt' := mX12_mustS) (as := []) (rest := []) _ dX12_declaration_37 lX12_348 kX12_mustS vX12_mustS (by decide) (by decide +kernel) rfl (Nat.le_of_ble_eq_true rfl) (by decide) rfl rfl rfl (Nat.le_of_ble_eq_true rfl) (fun hM hS => h) (fun r M' hq hM => ?_)
    obtain ⟨m37, n37, rfl, rfl, h⟩ := rV_out hq
    refine wp_aload_n dX12_declaration_40 rfl rfl (by first | exact Or.inl (by decide) | exact Or.inl (by omega) | exact Or.inr (by decide) | exact Or.inr (by omega)) ?_
    refine wp_cVq (n := 0) (mt' := mX12_takeName) (as := []) (rest := []) _ dX12_declaration_41 lX12_351 kX12_takeName vX12_takeName (by decide) (by decide +kernel) rfl (Nat.le_of_ble_eq_true rfl) (by decide) rfl rfl rfl (Nat.le_of_ble_eq_true rfl) (fun hM hS => h) (fun r M' hq hM => ?_)
    obtain ⟨x41, m41, n41, rfl, rfl, h⟩ := rI_out hq
    refine wp_istore_n dX12_declaration_44 rfl (by decide) (wp_L (L' := [some (vR 124), some (vI x41), none]) rfl ?_)
    refine wp_bipush dX12_declaration_45 (by decide +kernel) (by decide) ?_
    refine wp_aload_n dX12_declaration_47 rfl rfl (by first | exact Or.inl (by decide) | exact Or.inl (by omega) | exact Or.inr (by decide) | exact Or.inr (by omega)) ?_
    refine wp_getI dX12_declaration_48 fX12_328 rfl (by decide) ?_
    have c2 := h.1
    replace h := h.2
    refine wp_imulr dX12_declaration_51 c2 ?_
    refine wp_aload_n dX12_declaration_52 rfl rfl (by first | exact Or.inl (by decide) | exact Or.inl (by omega) | exact Or.inr (by decide) | exact Or.inr (by omega)) ?_
    refine wp_getR dX12_declaration_53 fX12_70 rfl (by decide) ?_
    refine wp_topR (x' := 143) rfl ?_
    refine wp_pc (pc' := 56) rfl ?_
    refine wp_aload_n dX12_declaration_56 rfl rfl (by first | exact Or.inl (by decide) | exact Or.inl (by omega) | exact Or.inr (by decide) | exact Or.inr (by omega)) ?_
    refine wp_getI dX12_declaration_57 fX12_328 rfl (by decide) ?_
    have c3 := h.1
    replace h := h.2
    refine wp_iald dX12_declaration_60 rfl (by decide) c3 ?_
    have c4 := h.1
    replace h := h.2
    refine wp_iaddr dX12_declaration_61 c4 ?_
    refine wp_istore_n dX12_declaration_62 rfl (by decide) (wp_L (L' := [some (vR 124), some (vI x41), some (vI ((30 * (m41 124 8)) + (m41 143 (m41 124 8).toNat)))]) rfl ?_)
    refine wp_aload_n dX12_declaration_63 rfl rfl (by first | exact Or.inl (by decide) | exact Or.inl (by omega) | exact Or.inr (by decide) | exact Or.inr (by omega)) ?_
    refine wp_getR dX12_declaration_64 fX12_73 rfl (by decide) ?_
    refine wp_topR (x' := 144) rfl ?_
    refine wp_iload_n dX12_declaration_67 rfl rfl ?_
    refine wp_pc (pc' := 68) rfl ?_
    refine wp_sipush dX12_declaration_68 (by decide +kernel) (by decide) ?_
    refine wp_aload_n dX12_declaration_71 rfl rfl (by first | exact Or.inl (by decide) | exact Or.inl (by omega) | exact Or.inr (by decide) | exact Or.inr (by omega)) ?_
    refine wp_getI dX12_declaration_72 fX12_328 rfl (by decide) ?_
    have c5 := h.1
    replace h := h.2
    refine wp_imulr dX12_declaration_75 c5 ?_
    refine wp_iload_n dX12_declaration_76 rfl rfl ?_
    have c6 := h.1
    replace h := h.2
    refine wp_iaddr dX12_declaration_77 c6 ?_
    have c7 := h.1
    replace h := h.2
    refine wp_iast dX12_declaration_78 rfl (by decide) c7 ?_
    refine wp_gI (fun m78 e78 => ?_)
    replace h := h m78 e78
    refine wp_aload_n dX12_declaration_79 rfl rfl (by first | exact Or.inl (by decide) | exact Or.inl (by omega) | exact Or.inr (by decide) | exact Or.inr (by omega)) ?_
    refine wp_pc (pc' := 80) rfl ?_
    refine wp_getR dX12_declaration_80 fX12_76 rfl (by decide) ?_
    refine wp_topR (x' := 145) rfl ?_
    refine wp_iload_n dX12_declaration_83 rfl rfl ?_
    refine wp_aload_n dX12_declaration_84 rfl rfl (by first | exact Or.inl (by decide) | exact Or.inl (by omega) | exact Or.inr (by decide) | exact Or.inr (by omega)) ?_
    refine wp_getI dX12_declaration_85 fX12_306 rfl (by decide) ?_
    refine wp_iast dX12_declaration_88 rfl (by decide) c7 ?_
    refine wp_gI (fun m88 e88 => ?_)
    replace h := h m88 e88
    refine wp_aload_n dX12_declaration_89 rfl rfl (by first | exact Or.inl (by decide) | exact Or.inl (by omega) | exact Or.inr (by decide) | exact Or.inr (by omega)) ?_
    refine wp_getR dX12_declaration_90 fX12_82 rfl (by decide) ?_
    refine wp_topR (x' := 147) rfl ?_
    refine wp_iload_n dX12_declaration_93 rfl rfl ?_
    refine wp_pc (pc' := 94) rfl ?_
    refine wp_iconst dX12_declaration_94 (by decide) ?_
    refine wp_iast dX12_declaration_95 rfl (by decide) c7 ?_
    refine wp_gI (fun m95 e95 => ?_)
    replace h := h m95 e95
    refine wp_aload_n dX12_declaration_96 rfl rfl (by first | exact Or.inl (by decide) | exact Or.inl (by omega) | exact Or.inr (by decide) | exact Or.inr (by omega)) ?_
    refine wp_cVq (n := 0) (mt' := mX12_mustS) (as := []) (rest := []) _ dX12_declaration_97 lX12_348 kX12_mustS vX12_mustS (by decide) (by decide +kernel) rfl (Nat.le_of_ble_eq_true rfl) (by decide) rfl rfl rfl (Nat.le_of_ble_eq_true rfl) (fun hM hS => h) (fun r M' hq hM => ?_)
    obtain ⟨m97, n97, rfl, rfl, h⟩ := rV_out hq
    refine wp_aload_n dX12_declaration_100 rfl rfl (by first | exact Or.inl (by decide) | exact Or.inl (by omega) | exact Or.inr (by decide) | exact Or.inr (by omega)) ?_
    refine wp_cVq (n := 0) (mt' := mX12_isGood) (as := []) (rest := []) _ dX12_declaration_101 lX12_289 kX12_isGood vX12_isGood (by decide) (by decide +kernel) rfl (Nat.le_of_ble_eq_true rfl) (by decide) rfl rfl rfl (Nat.le_of_ble_eq_true rfl) (fun hM hS => h) (fun r M' hq hM => ?_)
    obtain ⟨x101, m101, n101, rfl, rfl, h⟩ := rI_out hq
    refine wp_if_eq (tgt := 138) dX12_declaration_104 (by decide) (fun h104 => ?_) (fun h104 => ?_)
    · replace h := h.1 h104
      refine wp_aload_n dX12_declaration_138 rfl rfl (by first | exact Or.inl (by decide) | exact Or.inl (by omega) | exact Or.inr (by decide) | exact Or.inr (by omega)) ?_
      refine wp_cVq (n := 0) (mt' := mX12_isGood) (as := []) (rest := []) _ dX12_declaration_139 lX12_289 kX12_isGood vX12_isGood (by decide) (by decide +kernel) rfl (Nat.le_of_ble_eq_true rfl) (by decide) rfl rfl rfl (Nat.le_of_ble_eq_true rfl) (fun hM hS => h) (fun r M' hq hM => ?_)
      obtain ⟨x139, m139, n139, rfl, rfl, h⟩ := rI_out hq
      refine wp_if_eq (tgt := 176) dX12_declaration_142 (by decide) (fun h142 => ?_) (fun h142 => ?_)
      · replace h := h.1 h142
        exact h
      · replace h := h.2 h142
        refine wp_aload_n dX12_declaration_145 rfl rfl (by first | exact Or.inl (by decide) | exact Or.inl (by omega) | exact Or.inr (by decide) | exact Or.inr (by omega)) ?_
        refine wp_ldc2 (x := 4279897) dX12_declaration_146 cX12_372 (by decide) ?_
        refine wp_iconst dX12_declaration_149 (by decide) ?_
        refine wp_cVq (n := 2) (mt' := mX12_stands) (as := [vL 4279897, vI 3]) (rest := []) _ dX12_declaration_150 lX12_285 kX12_stands vX12_stands (by decide) (by decide +kernel) rfl (Nat.le_of_ble_eq_true rfl) (by decide) rfl rfl rfl (Nat.le_of_ble_eq_true rfl) (fun hM hS => h) (fun r M' hq hM => ?_)
        obtain ⟨x150, m150, n150, rfl, rfl, h⟩ := rI_out hq
        refine wp_if_eq (tgt := 176) dX12_declaration_153 (by decide) (fun h153 => ?_) (fun h153 => ?_)
        · replace h := h.1 h153
          exact h
        · replace h := h.2 h153
          refine wp_aload_n dX12_declaration_156 rfl rfl (by first | exact Or.inl (by decide) | exact Or.inl (by omega) | exact Or.inr (by decide) | exact Or.inr (by omega)) ?_
          refine wp_dup dX12_declaration_157 (fun x e => by cases e) ?_
          refine wp_getI dX12_declaration_158 fX12_276 rfl (by decide) ?_
          refine wp_iconst dX12_declaration_161 (by decide) ?_
          have c8 := h.1
          replace h := h.2
          refine wp_iaddr dX12_declaration_162 c8 ?_
          refine wp_putI dX12_declaration_163 pX12_276 rfl (by decide) ?_
          refine wp_gI (fun m163 e163 => ?_)
          replace h := h m163 e163
          refine wp_aload_n dX12_declaration_166 rfl rfl (by first | exact Or.inl (by decide) | exact Or.inl (by omega) | exact Or.inr (by decide) | exact Or.inr (by omega)) ?_
          refine wp_pc (pc' := 167) rfl ?_
          refine wp_getR dX12_declaration_167 fX12_79 rfl (by decide) ?_
          refine wp_topR (x' := 146) rfl ?_
          refine wp_iload_n dX12_declaration_170 rfl rfl ?_
          refine wp_iconst dX12_declaration_171 (by decide) ?_
          refine wp_iast dX12_declaration_172 rfl (by decide) c7 ?_
          refine wp_gI (fun m172 e172 => ?_)
          replace h := h m172 e172
          refine wp_goto (tgt := 228) dX12_declaration_173 (by decide) ?_
          exact h
    · replace h := h.2 h104
      refine wp_aload_n dX12_declaration_107 rfl rfl (by first | exact Or.inl (by decide) | exact Or.inl (by omega) | exact Or.inr (by decide) | exact Or.inr (by omega)) ?_
      refine wp_ldc2 (x := 297649853529) dX12_declaration_108 cX12_370 (by decide) ?_
      refine wp_iconst dX12_declaration_111 (by decide) ?_
      refine wp_cVq (n := 2) (mt' := mX12_stands) (as := [vL 297649853529, vI 5]) (rest := []) _ dX12_declaration_112 lX12_285 kX12_stands vX12_stands (by decide) (by decide +kernel) rfl (Nat.le_of_ble_eq_true rfl) (by decide) rfl rfl rfl (Nat.le_of_ble_eq_true rfl) (fun hM hS => h) (fun r M' hq hM => ?_)
      obtain ⟨x112, m112, n112, rfl, rfl, h⟩ := rI_out hq
      refine wp_if_eq (tgt := 138) dX12_declaration_115 (by decide) (fun h115 => ?_) (fun h115 => ?_)
      · replace h := h.1 h115
        refine wp_aload_n dX12_declaration_138 rfl rfl (by first | exact Or.inl (by decide) | exact Or.inl (by omega) | exact Or.inr (by decide) | exact Or.inr (by omega)) ?_
        refine wp_cVq (n := 0) (mt' := mX12_isGood) (as := []) (rest := []) _ dX12_declaration_139 lX12_289 kX12_isGood vX12_isGood (by decide) (by decide +kernel) rfl (Nat.le_of_ble_eq_true rfl) (by decide) rfl rfl rfl (Nat.le_of_ble_eq_true rfl) (fun hM hS => h) (fun r M' hq hM => ?_)
        obtain ⟨x139, m139, n139, rfl, rfl, h⟩ := rI_out hq
        refine wp_if_eq (tgt := 176) dX12_declaration_142 (by decide) (fun h142 => ?_) (fun h142 => ?_)
        · replace h := h.1 h142
          exact h
        · replace h := h.2 h142
          refine wp_aload_n dX12_declaration_145 rfl rfl (by first | exact Or.inl (by decide) | exact Or.inl (by omega) | exact Or.inr (by decide) | exact Or.inr (by omega)) ?_
          refine wp_ldc2 (x := 4279897) dX12_declaration_146 cX12_372 (by decide) ?_
          refine wp_iconst dX12_declaration_149 (by decide) ?_
          refine wp_cVq (n := 2) (mt' := mX12_stands) (as := [vL 4279897, vI 3]) (rest := []) _ dX12_declaration_150 lX12_285 kX12_stands vX12_stands (by decide) (by decide +kernel) rfl (Nat.le_of_ble_eq_true rfl) (by decide) rfl rfl rfl (Nat.le_of_ble_eq_true rfl) (fun hM hS => h) (fun r M' hq hM => ?_)
          obtain ⟨x150, m150, n150, rfl, rfl, h⟩ := rI_out hq
          refine wp_if_eq (tgt := 176) dX12_declaration_153 (by decide) (fun h153 => ?_) (fun h153 => ?_)
          · replace h := h.1 h153
            exact h
          · replace h := h.2 h153
            refine wp_aload_n dX12_declaration_156 rfl rfl (by first | exact Or.inl (by decide) | exact Or.inl (by omega) | exact Or.inr (by decide) | exact Or.inr (by omega)) ?_
            refine wp_dup dX12_declaration_157 (fun x e => by cases e) ?_
            refine wp_getI dX12_declaration_158 fX12_276 rfl (by decide) ?_
            refine wp_iconst dX12_declaration_161 (by decide) ?_
            have c8 := h.1
            replace h := h.2
            refine wp_iaddr dX12_declaration_162 c8 ?_
            refine wp_putI dX12_declaration_163 pX12_276 rfl (by decide) ?_
            refine wp_gI (fun m163 e163 => ?_)
            replace h := h m163 e163
            refine wp_aload_n dX12_declaration_166 rfl rfl (by first | exact Or.inl (by decide) | exact Or.inl (by omega) | exact Or.inr (by decide) | exact Or.inr (by omega)) ?_
            refine wp_pc (pc' := 167) rfl ?_
            refine wp_getR dX12_declaration_167 fX12_79 rfl (by decide) ?_
            refine wp_topR (x' := 146) rfl ?_
            refine wp_iload_n dX12_declaration_170 rfl rfl ?_
            refine wp_iconst dX12_declaration_171 (by decide) ?_
            refine wp_iast dX12_declaration_172 rfl (by decide) c7 ?_
            refine wp_gI (fun m172 e172 => ?_)
            replace h := h m172 e172
            refine wp_goto (tgt := 228) dX12_declaration_173 (by decide) ?_
            exact h
      · replace h := h.2 h115
        refine wp_aload_n dX12_declaration_118 rfl rfl (by first | exact Or.inl (by decide) | exact Or.inl (by omega) | exact Or.inr (by decide) | exact Or.inr (by omega)) ?_
        refine wp_dup dX12_declaration_119 (fun x e => by cases e) ?_
        refine wp_getI dX12_declaration_120 fX12_276 rfl (by decide) ?_
        refine wp_iconst dX12_declaration_123 (by decide) ?_
        have c8 := h.1
        replace h := h.2
        refine wp_iaddr dX12_declaration_124 c8 ?_
        refine wp_putI dX12_declaration_125 pX12_276 rfl (by decide) ?_
        refine wp_gI (fun m125 e125 => ?_)
        replace h := h m125 e125
        refine wp_aload_n dX12_declaration_128 rfl rfl (by first | exact Or.inl (by decide) | exact Or.inl (by omega) | exact Or.inr (by decide) | exact Or.inr (by omega)) ?_
        refine wp_pc (pc' := 129) rfl ?_
        refine wp_getR dX12_declaration_129 fX12_79 rfl (by decide) ?_
        refine wp_topR (x' := 146) rfl ?_
        refine wp_iload_n dX12_declaration_132 rfl rfl ?_
        refine wp_iconst dX12_declaration_133 (by decide) ?_
        refine wp_iast dX12_declaration_134 rfl (by decide) c7 ?_
        refine wp_gI (fun m134 e134 => ?_)
        replace h := h m134 e134
        refine wp_goto (tgt := 228) dX12_declaration_135 (by decide) ?_
        exact h
  · replace h := h.1 h11
    refine wp_aload_n dX12_declaration_14 rfl rfl (by first | exact Or.inl (by decide) | exact Or.inl (by omega) | exact Or.inr (by decide) | exact Or.inr (by omega)) ?_
    refine wp_bipush dX12_declaration_15 (by decide +kernel) (by decide) ?_
    refine wp_aload_n dX12_declaration_17 rfl rfl (by first | exact Or.inl (by decide) | exact Or.inl (by omega) | exact Or.inr (by decide) | exact Or.inr (by omega)) ?_
    refine wp_getI dX12_declaration_18 fX12_276 rfl (by decide) ?_
    refine wp_cVq (n := 2) (mt' := mX12_fail) (as := [vI (-3), vI (MI 124 4)]) (rest := []) _ dX12_declaration_21 lX12_293 kX12_fail vX12_fail (by decide) (by decide +kernel) rfl (Nat.le_of_ble_eq_true rfl) (by decide) rfl rfl rfl (Nat.le_of_ble_eq_true rfl) (fun hM hS => h) (fun r M' hq hM => ?_)
    obtain ⟨m21, n21, rfl, rfl, h⟩ := rV_out hq
    exact wp_vret dX12_declaration_24 rfl (fun _ => h)
theorem v_X12_declaration_176 {cs : Cs} {Q : Option AV → Mm → Prop} {MI ML : Nat → Nat → Int} {d e nw th x : Nat} {l1 l2 : Int}
    (h : wp cs mX12_passes KD (rI (GR d e nw th x) fun x179 m179 n179 => ((x179 = 0 → wp cs mX12_declaration KD Q 228 [some (vR 124), some (vI l1), some (vI l2)] [] (KD, m179, n179, (GR d e nw th x))) ∧ (x179 ≠ 0 → wp cs mX12_maybeS KD (rV (GR d e nw th x) fun m186 n186 => wp cs mX12_isGood KD (rI (GR d e nw th x) fun x190 m190 n190 => ((x190 = 0 → wp cs mX12_isGood KD (rI (GR d e nw th x) fun x217 m217 n217 => ((x217 = 0 → wp cs mX12_declaration KD Q 228 [some (vR 124), some (vI l1), some (vI l2)] [] (KD, m217, n217, (GR d e nw th x))) ∧ (x217 ≠ 0 → wp cs mX12_group KD (rV (GR d e nw th x) fun m225 n225 => wp cs mX12_declaration KD Q 228 [some (vR 124), some (vI l1), some (vI l2)] [] (KD, m225, n225, (GR d e nw th x))) 0 (padL [vR 124, vI l2] 5) [] (KD, m217, n217, (GR d e nw th x))))) 0 (padL [vR 124] 1) [] (KD, m190, n190, (GR d e nw th x))) ∧ (x190 ≠ 0 → wp cs mX12_stands KD (rI (GR d e nw th x) fun x202 m202 n202 => ((x202 = 0 → wp cs mX12_isGood KD (rI (GR d e nw th x) fun x217 m217 n217 => ((x217 = 0 → wp cs mX12_declaration KD Q 228 [some (vR 124), some (vI l1), some (vI l2)] [] (KD, m217, n217, (GR d e nw th x))) ∧ (x217 ≠ 0 → wp cs mX12_group KD (rV (GR d e nw th x) fun m225 n225 => wp cs mX12_declaration KD Q 228 [some (vR 124), some (vI l1), some (vI l2)] [] (KD, m225, n225, (GR d e nw th x))) 0 (padL [vR 124, vI l2] 5) [] (KD, m217, n217, (GR d e nw th x))))) 0 (padL [vR 124] 1) [] (KD, m202, n202, (GR d e nw th x))) ∧ (x202 ≠ 0 → wp cs mX12_mixed KD (rV (GR d e nw th x) fun m210 n210 => wp cs mX12_declaration KD Q 228 [some (vR 124), some (vI l1), some (vI l2)] [] (KD, m210, n210, (GR d e nw th x))) 0 (padL [vR 124, vI l2] 3) [] (KD, m202, n202, (GR d e nw th x))))) 0 (padL [vR 124, vL 9939874023035969, vI 7] 6) [] (KD, m190, n190, (GR d e nw th x))))) 0 (padL [vR 124] 1) [] (KD, m186, n186, (GR d e nw th x))) 0 (padL [vR 124] 1) [] (KD, m179, n179, (GR d e nw th x))))) 0 (padL [vR 124, vI 40] 2) [] (KD, MI, ML, (GR d e nw th x))) :
    wp cs mX12_declaration KD Q 176 [some (vR 124), some (vI l1), some (vI l2)] [] (KD, MI, ML, (GR d e nw th x)) := by
  refine wp_aload_n dX12_declaration_176 rfl rfl (by first | exact Or.inl (by decide) | exact Or.inl (by omega) | exact Or.inr (by decide) | exact Or.inr (by omega)) ?_
  refine wp_bipush dX12_declaration_177 (by decide +kernel) (by decide) ?_
  refine wp_cVq (n := 1) (mt' := mX12_passes) (as := [vI 40]) (rest := []) _ dX12_declaration_179 lX12_340 kX12_passes vX12_passes (by decide) (by decide +kernel) rfl (Nat.le_of_ble_eq_true rfl) (by decide) rfl rfl rfl (Nat.le_of_ble_eq_true rfl) (fun hM hS => h) (fun r M' hq hM => ?_)
  obtain ⟨x179, m179, n179, rfl, rfl, h⟩ := rI_out hq
  refine wp_if_eq (tgt := 228) dX12_declaration_182 (by decide) (fun h182 => ?_) (fun h182 => ?_)
  · replace h := h.1 h182
    exact h
  · replace h := h.2 h182
    refine wp_aload_n dX12_declaration_185 rfl rfl (by first | exact Or.inl (by decide) | exact Or.inl (by omega) | exact Or.inr (by decide) | exact Or.inr (by omega)) ?_
    refine wp_cVq (n := 0) (mt' := mX12_maybeS) (as := []) (rest := []) _ dX12_declaration_186 lX12_300 kX12_maybeS vX12_maybeS (by decide) (by decide +kernel) rfl (Nat.le_of_ble_eq_true rfl) (by decide) rfl rfl rfl (Nat.le_of_ble_eq_true rfl) (fun hM hS => h) (fun r M' hq hM => ?_)
    obtain ⟨m186, n186, rfl, rfl, h⟩ := rV_out hq
    refine wp_aload_n dX12_declaration_189 rfl rfl (by first | exact Or.inl (by decide) | exact Or.inl (by omega) | exact Or.inr (by decide) | exact Or.inr (by omega)) ?_
    refine wp_cVq (n := 0) (mt' := mX12_isGood) (as := []) (rest := []) _ dX12_declaration_190 lX12_289 kX12_isGood vX12_isGood (by decide) (by decide +kernel) rfl (Nat.le_of_ble_eq_true rfl) (by decide) rfl rfl rfl (Nat.le_of_ble_eq_true rfl) (fun hM hS => h) (fun r M' hq hM => ?_)
    obtain ⟨x190, m190, n190, rfl, rfl, h⟩ := rI_out hq
    refine wp_if_eq (tgt := 216) dX12_declaration_193 (by decide) (fun h193 => ?_) (fun h193 => ?_)
    · replace h := h.1 h193
      refine wp_aload_n dX12_declaration_216 rfl rfl (by first | exact Or.inl (by decide) | exact Or.inl (by omega) | exact Or.inr (by decide) | exact Or.inr (by omega)) ?_
      refine wp_cVq (n := 0) (mt' := mX12_isGood) (as := []) (rest := []) _ dX12_declaration_217 lX12_289 kX12_isGood vX12_isGood (by decide) (by decide +kernel) rfl (Nat.le_of_ble_eq_true rfl) (by decide) rfl rfl rfl (Nat.le_of_ble_eq_true rfl) (fun hM hS => h) (fun r M' hq hM => ?_)
      obtain ⟨x217, m217, n217, rfl, rfl, h⟩ := rI_out hq
      refine wp_if_eq (tgt := 228) dX12_declaration_220 (by decide) (fun h220 => ?_) (fun h220 => ?_)
      · replace h := h.1 h220
        exact h
      · replace h := h.2 h220
        refine wp_aload_n dX12_declaration_223 rfl rfl (by first | exact Or.inl (by decide) | exact Or.inl (by omega) | exact Or.inr (by decide) | exact Or.inr (by omega)) ?_
        refine wp_iload_n dX12_declaration_224 rfl rfl ?_
        refine wp_cVq (n := 1) (mt' := mX12_group) (as := [vI l2]) (rest := []) _ dX12_declaration_225 lX12_380 kX12_group vX12_group (by decide) (by decide +kernel) rfl (Nat.le_of_ble_eq_true rfl) (by decide) rfl rfl rfl (Nat.le_of_ble_eq_true rfl) (fun hM hS => h) (fun r M' hq hM => ?_)
        obtain ⟨m225, n225, rfl, rfl, h⟩ := rV_out hq
        exact h
    · replace h := h.2 h193
      refine wp_aload_n dX12_declaration_196 rfl rfl (by first | exact Or.inl (by decide) | exact Or.inl (by omega) | exact Or.inr (by decide) | exact Or.inr (by omega)) ?_
      refine wp_ldc2 (x := 9939874023035969) dX12_declaration_197 cX12_374 (by decide) ?_
      refine wp_bipush dX12_declaration_200 (by decide +kernel) (by decide) ?_
      refine wp_cVq (n := 2) (mt' := mX12_stands) (as := [vL 9939874023035969, vI 7]) (rest := []) _ dX12_declaration_202 lX12_285 kX12_stands vX12_stands (by decide) (by decide +kernel) rfl (Nat.le_of_ble_eq_true rfl) (by decide) rfl rfl rfl (Nat.le_of_ble_eq_true rfl) (fun hM hS => h) (fun r M' hq hM => ?_)
      obtain ⟨x202, m202, n202, rfl, rfl, h⟩ := rI_out hq
      refine wp_if_eq (tgt := 216) dX12_declaration_205 (by decide) (fun h205 => ?_) (fun h205 => ?_)
      · replace h := h.1 h205
        refine wp_aload_n dX12_declaration_216 rfl rfl (by first | exact Or.inl (by decide) | exact Or.inl (by omega) | exact Or.inr (by decide) | exact Or.inr (by omega)) ?_
        refine wp_cVq (n := 0) (mt' := mX12_isGood) (as := []) (rest := []) _ dX12_declaration_217 lX12_289 kX12_isGood vX12_isGood (by decide) (by decide +kernel) rfl (Nat.le_of_ble_eq_true rfl) (by decide) rfl rfl rfl (Nat.le_of_ble_eq_true rfl) (fun hM hS => h) (fun r M' hq hM => ?_)
        obtain ⟨x217, m217, n217, rfl, rfl, h⟩ := rI_out hq
        refine wp_if_eq (tgt := 228) dX12_declaration_220 (by decide) (fun h220 => ?_) (fun h220 => ?_)
        · replace h := h.1 h220
          exact h
        · replace h := h.2 h220
          refine wp_aload_n dX12_declaration_223 rfl rfl (by first | exact Or.inl (by decide) | exact Or.inl (by omega) | exact Or.inr (by decide) | exact Or.inr (by omega)) ?_
          refine wp_iload_n dX12_declaration_224 rfl rfl ?_
          refine wp_cVq (n := 1) (mt' := mX12_group) (as := [vI l2]) (rest := []) _ dX12_declaration_225 lX12_380 kX12_group vX12_group (by decide) (by decide +kernel) rfl (Nat.le_of_ble_eq_true rfl) (by decide) rfl rfl rfl (Nat.le_of_ble_eq_true rfl) (fun hM hS => h) (fun r M' hq hM => ?_)
          obtain ⟨m225, n225, rfl, rfl, h⟩ := rV_out hq
          exact h
      · replace h := h.2 h205
        refine wp_aload_n dX12_declaration_208 rfl rfl (by first | exact Or.inl (by decide) | exact Or.inl (by omega) | exact Or.inr (by decide) | exact Or.inr (by omega)) ?_
        refine wp_iload_n dX12_declaration_209 rfl rfl ?_
        refine wp_cVq (n := 1) (mt' := mX12_mixed) (as := [vI l2]) (rest := []) _ dX12_declaration_210 lX12_376 kX12_mixed vX12_mixed (by decide) (by decide +kernel) rfl (Nat.le_of_ble_eq_true rfl) (by decide) rfl rfl rfl (Nat.le_of_ble_eq_true rfl) (fun hM hS => h) (fun r M' hq hM => ?_)
        obtain ⟨m210, n210, rfl, rfl, h⟩ := rV_out hq
        refine wp_goto (tgt := 228) dX12_declaration_213 (by decide) ?_
        exact h
theorem v_X12_declaration_228 {cs : Cs} {Q : Option AV → Mm → Prop} {MI ML : Nat → Nat → Int} {d e nw th x : Nat} {l1 l2 : Int}
    (h : wp cs mX12_maybeS KD (rV (GR d e nw th x) fun m229 n229 => wp cs mX12_passes KD (rI (GR d e nw th x) fun x235 m235 n235 => ((x235 = 0 → Q none (m235, n235, (GR d e nw th x))) ∧ (x235 ≠ 0 → (-2147483648 ≤ 850 * (m235 124 8) ∧ 850 * (m235 124 8) < 2147483648) ∧ (0 ≤ (m235 124 8) ∧ (m235 124 8) < 2) ∧ (-2147483648 ≤ (850 * (m235 124 8)) + (m235 167 (m235 124 8).toNat) ∧ (850 * (m235 124 8)) + (m235 167 (m235 124 8).toNat) < 2147483648) ∧ (-2147483648 ≤ 2 * (m235 143 (m235 124 8).toNat) ∧ 2 * (m235 143 (m235 124 8).toNat) < 2147483648) ∧ (0 ≤ ((850 * (m235 124 8)) + (m235 167 (m235 124 8).toNat)) ∧ ((850 * (m235 124 8)) + (m235 167 (m235 124 8).toNat)) < 1700) ∧ ∀ m274, m274 = up2 m235 166 ((850 * (m235 124 8)) + (m235 167 (m235 124 8).toNat)).toNat (2 * (m235 143 (m235 124 8).toNat)) → (0 ≤ (m274 124 8) ∧ (m274 124 8) < 2) ∧ (-2147483648 ≤ (m274 167 (m274 124 8).toNat) + 1 ∧ (m274 167 (m274 124 8).toNat) + 1 < 2147483648) ∧ ∀ m287, m287 = up2 m274 167 (m274 124 8).toNat ((m274 167 (m274 124 8).toNat) + 1) → (0 ≤ (m287 124 8) ∧ (m287 124 8) < 2) ∧ (-2147483648 ≤ (m287 143 (m287 124 8).toNat) + 1 ∧ (m287 143 (m287 124 8).toNat) + 1 < 2147483648) ∧ ∀ m300, m300 = up2 m287 143 (m287 124 8).toNat ((m287 143 (m287 124 8).toNat) + 1) → Q none (m300, n235, (GR d e nw th x))))) 0 (padL [vR 124, vI 62] 2) [] (KD, m229, n229, (GR d e nw th x))) 0 (padL [vR 124] 1) [] (KD, MI, ML, (GR d e nw th x))) :
    wp cs mX12_declaration KD Q 228 [some (vR 124), some (vI l1), some (vI l2)] [] (KD, MI, ML, (GR d e nw th x)) := by
  refine wp_aload_n dX12_declaration_228 rfl rfl (by first | exact Or.inl (by decide) | exact Or.inl (by omega) | exact Or.inr (by decide) | exact Or.inr (by omega)) ?_
  refine wp_cVq (n := 0) (mt' := mX12_maybeS) (as := []) (rest := []) _ dX12_declaration_229 lX12_300 kX12_maybeS vX12_maybeS (by decide) (by decide +kernel) rfl (Nat.le_of_ble_eq_true rfl) (by decide) rfl rfl rfl (Nat.le_of_ble_eq_true rfl) (fun hM hS => h) (fun r M' hq hM => ?_)
  obtain ⟨m229, n229, rfl, rfl, h⟩ := rV_out hq
  refine wp_aload_n dX12_declaration_232 rfl rfl (by first | exact Or.inl (by decide) | exact Or.inl (by omega) | exact Or.inr (by decide) | exact Or.inr (by omega)) ?_
  refine wp_bipush dX12_declaration_233 (by decide +kernel) (by decide) ?_
  refine wp_cVq (n := 1) (mt' := mX12_passes) (as := [vI 62]) (rest := []) _ dX12_declaration_235 lX12_340 kX12_passes vX12_passes (by decide) (by decide +kernel) rfl (Nat.le_of_ble_eq_true rfl) (by decide) rfl rfl rfl (Nat.le_of_ble_eq_true rfl) (fun hM hS => h) (fun r M' hq hM => ?_)
  obtain ⟨x235, m235, n235, rfl, rfl, h⟩ := rI_out hq
  refine wp_if_eq (tgt := 301) dX12_declaration_238 (by decide) (fun h238 => ?_) (fun h238 => ?_)
  · replace h := h.1 h238
    exact wp_vret dX12_declaration_301 rfl (fun _ => h)
  · replace h := h.2 h238
    refine wp_aload_n dX12_declaration_241 rfl rfl (by first | exact Or.inl (by decide) | exact Or.inl (by omega) | exact Or.inr (by decide) | exact Or.inr (by omega)) ?_
    refine wp_getR dX12_declaration_242 fX12_140 rfl (by decide) ?_
    refine wp_topR (x' := 166) rfl ?_
    refine wp_sipush dX12_declaration_245 (by decide +kernel) (by decide) ?_
    refine wp_aload_n dX12_declaration_248 rfl rfl (by first | exact Or.inl (by decide) | exact Or.inl (by omega) | exact Or.inr (by decide) | exact Or.inr (by omega)) ?_
    refine wp_getI dX12_declaration_249 fX12_328 rfl (by decide) ?_
    have c0 := h.1
    replace h := h.2
    refine wp_imulr dX12_declaration_252 c0 ?_
    refine wp_aload_n dX12_declaration_253 rfl rfl (by first | exact Or.inl (by decide) | exact Or.inl (by omega) | exact Or.inr (by decide) | exact Or.inr (by omega)) ?_
    refine wp_pc (pc' := 254) rfl ?_
    refine wp_getR dX12_declaration_254 fX12_143 rfl (by decide) ?_
    refine wp_topR (x' := 167) rfl ?_
    refine wp_aload_n dX12_declaration_257 rfl rfl (by first | exact Or.inl (by decide) | exact Or.inl (by omega) | exact Or.inr (by decide) | exact Or.inr (by omega)) ?_
    refine wp_getI dX12_declaration_258 fX12_328 rfl (by decide) ?_
    have c1 := h.1
    replace h := h.2
    refine wp_iald dX12_declaration_261 rfl (by decide) c1 ?_
    have c2 := h.1
    replace h := h.2
    refine wp_iaddr dX12_declaration_262 c2 ?_
    refine wp_iconst dX12_declaration_263 (by decide) ?_
    refine wp_aload_n dX12_declaration_264 rfl rfl (by first | exact Or.inl (by decide) | exact Or.inl (by omega) | exact Or.inr (by decide) | exact Or.inr (by omega)) ?_
    refine wp_getR dX12_declaration_265 fX12_70 rfl (by decide) ?_
    refine wp_topR (x' := 143) rfl ?_
    refine wp_pc (pc' := 268) rfl ?_
    refine wp_aload_n dX12_declaration_268 rfl rfl (by first | exact Or.inl (by decide) | exact Or.inl (by omega) | exact Or.inr (by decide) | exact Or.inr (by omega)) ?_
    refine wp_getI dX12_declaration_269 fX12_328 rfl (by decide) ?_
    refine wp_iald dX12_declaration_272 rfl (by decide) c1 ?_
    have c3 := h.1
    replace h := h.2
    refine wp_imulr dX12_declaration_273 c3 ?_
    have c4 := h.1
    replace h := h.2
    refine wp_iast dX12_declaration_274 rfl (by decide) c4 ?_
    refine wp_gI (fun m274 e274 => ?_)
    replace h := h m274 e274
    refine wp_aload_n dX12_declaration_275 rfl rfl (by first | exact Or.inl (by decide) | exact Or.inl (by omega) | exact Or.inr (by decide) | exact Or.inr (by omega)) ?_
    refine wp_getR dX12_declaration_276 fX12_143 rfl (by decide) ?_
    refine wp_topR (x' := 167) rfl ?_
    refine wp_aload_n dX12_declaration_279 rfl rfl (by first | exact Or.inl (by decide) | exact Or.inl (by omega) | exact Or.inr (by decide) | exact Or.inr (by omega)) ?_
    refine wp_pc (pc' := 280) rfl ?_
    refine wp_getI dX12_declaration_280 fX12_328 rfl (by decide) ?_
    refine wp_dup2 dX12_declaration_283 (fun x e => by cases e) (fun x e => by cases e) ?_
    have c5 := h.1
    replace h := h.2
    refine wp_iald dX12_declaration_284 rfl (by decide) c5 ?_
    refine wp_iconst dX12_declaration_285 (by decide) ?_
    have c6 := h.1
    replace h := h.2
    refine wp_iaddr dX12_declaration_286 c6 ?_
    refine wp_iast dX12_declaration_287 rfl (by decide) c5 ?_
    refine wp_gI (fun m287 e287 => ?_)
    replace h := h m287 e287
    refine wp_aload_n dX12_declaration_288 rfl rfl (by first | exact Or.inl (by decide) | exact Or.inl (by omega) | exact Or.inr (by decide) | exact Or.inr (by omega)) ?_
    refine wp_getR dX12_declaration_289 fX12_70 rfl (by decide) ?_
    refine wp_topR (x' := 143) rfl ?_
    refine wp_pc (pc' := 292) rfl ?_
    refine wp_aload_n dX12_declaration_292 rfl rfl (by first | exact Or.inl (by decide) | exact Or.inl (by omega) | exact Or.inr (by decide) | exact Or.inr (by omega)) ?_
    refine wp_getI dX12_declaration_293 fX12_328 rfl (by decide) ?_
    refine wp_dup2 dX12_declaration_296 (fun x e => by cases e) (fun x e => by cases e) ?_
    have c7 := h.1
    replace h := h.2
    refine wp_iald dX12_declaration_297 rfl (by decide) c7 ?_
    refine wp_iconst dX12_declaration_298 (by decide) ?_
    have c8 := h.1
    replace h := h.2
    refine wp_iaddr dX12_declaration_299 c8 ?_
    refine wp_iast dX12_declaration_300 rfl (by decide) c7 ?_
    refine wp_gI (fun m300 e300 => ?_)
    replace h := h m300 e300
    exact wp_vret dX12_declaration_301 rfl (fun _ => h)
theorem dX12_isSame_0 : decode cX12_isSame 0 = .ok (.iload_n 2, 1) := by decide +kernel
theorem dX12_isSame_1 : decode cX12_isSame 1 = .ok (.iload 4, 2) := by decide +kernel
theorem dX12_isSame_3 : decode cX12_isSame 3 = .ok (.if_icmp .ne 7, 3) := by decide +kernel
theorem dX12_isSame_6 : decode cX12_isSame 6 = .ok (.iconst 1, 1) := by decide +kernel
theorem dX12_isSame_7 : decode cX12_isSame 7 = .ok (.goto 4, 3) := by decide +kernel
theorem dX12_isSame_10 : decode cX12_isSame 10 = .ok (.iconst 0, 1) := by decide +kernel
theorem dX12_isSame_11 : decode cX12_isSame 11 = .ok (.istore 5, 2) := by decide +kernel
theorem dX12_isSame_13 : decode cX12_isSame 13 = .ok (.iconst 0, 1) := by decide +kernel
theorem dX12_isSame_14 : decode cX12_isSame 14 = .ok (.istore 6, 2) := by decide +kernel
theorem dX12_isSame_16 : decode cX12_isSame 16 = .ok (.iload 6, 2) := by decide +kernel
theorem dX12_isSame_18 : decode cX12_isSame 18 = .ok (.iload_n 2, 1) := by decide +kernel
theorem dX12_isSame_19 : decode cX12_isSame 19 = .ok (.if_icmp .ge 42, 3) := by decide +kernel
theorem dX12_isSame_22 : decode cX12_isSame 22 = .ok (.iload 5, 2) := by decide +kernel
theorem dX12_isSame_24 : decode cX12_isSame 24 = .ok (.ifCond .eq 37, 3) := by decide +kernel
theorem dX12_isSame_27 : decode cX12_isSame 27 = .ok (.aload_n 0, 1) := by decide +kernel
theorem dX12_isSame_28 : decode cX12_isSame 28 = .ok (.getfield 24, 3) := by decide +kernel
theorem dX12_isSame_31 : decode cX12_isSame 31 = .ok (.iload_n 1, 1) := by decide +kernel
theorem dX12_isSame_32 : decode cX12_isSame 32 = .ok (.iload 6, 2) := by decide +kernel
theorem dX12_isSame_34 : decode cX12_isSame 34 = .ok (.iadd, 1) := by decide +kernel
theorem dX12_isSame_35 : decode cX12_isSame 35 = .ok (.baload, 1) := by decide +kernel
theorem dX12_isSame_36 : decode cX12_isSame 36 = .ok (.aload_n 0, 1) := by decide +kernel
theorem dX12_isSame_37 : decode cX12_isSame 37 = .ok (.getfield 24, 3) := by decide +kernel
theorem dX12_isSame_40 : decode cX12_isSame 40 = .ok (.iload_n 3, 1) := by decide +kernel
theorem dX12_isSame_41 : decode cX12_isSame 41 = .ok (.iload 6, 2) := by decide +kernel
theorem dX12_isSame_43 : decode cX12_isSame 43 = .ok (.iadd, 1) := by decide +kernel
theorem dX12_isSame_44 : decode cX12_isSame 44 = .ok (.baload, 1) := by decide +kernel
theorem dX12_isSame_45 : decode cX12_isSame 45 = .ok (.if_icmp .ne 7, 3) := by decide +kernel
theorem dX12_isSame_48 : decode cX12_isSame 48 = .ok (.iconst 1, 1) := by decide +kernel
theorem dX12_isSame_49 : decode cX12_isSame 49 = .ok (.goto 4, 3) := by decide +kernel
theorem dX12_isSame_52 : decode cX12_isSame 52 = .ok (.iconst 0, 1) := by decide +kernel
theorem dX12_isSame_53 : decode cX12_isSame 53 = .ok (.istore 5, 2) := by decide +kernel
theorem dX12_isSame_55 : decode cX12_isSame 55 = .ok (.iinc 6 1, 3) := by decide +kernel
theorem dX12_isSame_58 : decode cX12_isSame 58 = .ok (.goto (-42), 3) := by decide +kernel
theorem dX12_isSame_61 : decode cX12_isSame 61 = .ok (.iload 5, 2) := by decide +kernel
theorem dX12_isSame_63 : decode cX12_isSame 63 = .ok (.ireturn, 1) := by decide +kernel
theorem v_X12_isSame_0 {cs : Cs} {Q : Option AV → Mm → Prop} {MI ML : Nat → Nat → Int} {d e nw th x : Nat} {l1 l2 l3 l4 : Int}
    (h : ((l2 = l4 → wp cs mX12_isSame KD Q 16 [some (vR 124), some (vI l1), some (vI l2), some (vI l3), some (vI l4), some (vI 1), some (vI 0)] [] (KD, MI, ML, (GR d e nw th x))) ∧ (l2 ≠ l4 → wp cs mX12_isSame KD Q 16 [some (vR 124), some (vI l1), some (vI l2), some (vI l3), some (vI l4), some (vI 0), some (vI 0)] [] (KD, MI, ML, (GR d e nw th x))))) :
    wp cs mX12_isSame KD Q 0 (padL [vR 124, vI l1, vI l2, vI l3, vI l4] 7) [] (KD, MI, ML, (GR d e nw th x)) := by
  refine wp_L (L' := [some (vR 124), some (vI l1), some (vI l2), some (vI l3), some (vI l4), none, none]) rfl ?_
  refine wp_iload_n dX12_isSame_0 rfl rfl ?_
  refine wp_iload dX12_isSame_1 rfl ?_
  refine wp_icmp_ne (tgt := 10) dX12_isSame_3 (by decide) (fun h3 => ?_) (fun h3 => ?_)
  · replace h := h.2 h3
    refine wp_iconst dX12_isSame_10 (by decide) ?_
    refine wp_istore dX12_isSame_11 (by decide) (wp_L (L' := [some (vR 124), some (vI l1), some (vI l2), some (vI l3), some (vI l4), some (vI 0), none]) rfl ?_)
    refine wp_iconst dX12_isSame_13 (by decide) ?_
    refine wp_istore dX12_isSame_14 (by decide) (wp_L (L' := [some (vR 124), some (vI l1), some (vI l2), some (vI l3), some (vI l4), some (vI 0), some (vI 0)]) rfl ?_)
    exact h
  · replace h := h.1 h3
    refine wp_iconst dX12_isSame_6 (by decide) ?_
    refine wp_goto (tgt := 11) dX12_isSame_7 (by decide) ?_
    refine wp_istore dX12_isSame_11 (by decide) (wp_L (L' := [some (vR 124), some (vI l1), some (vI l2), some (vI l3), some (vI l4), some (vI 1), none]) rfl ?_)
    refine wp_iconst dX12_isSame_13 (by decide) ?_
    refine wp_istore dX12_isSame_14 (by decide) (wp_L (L' := [some (vR 124), some (vI l1), some (vI l2), some (vI l3), some (vI l4), some (vI 1), some (vI 0)]) rfl ?_)
    exact h
theorem v_X12_isSame_16 {cs : Cs} {Q : Option AV → Mm → Prop} {MI ML : Nat → Nat → Int} {d e nw th x : Nat} {l1 l2 l3 l4 l5 l6 : Int}
    (h : ((l6 < l2 → ((l5 = 0 → (l5 = 0 ∨ l5 = 1) ∧ Q (some (vI l5)) (MI, ML, (GR d e nw th x))) ∧ (l5 ≠ 0 → (-2147483648 ≤ l1 + l6 ∧ l1 + l6 < 2147483648) ∧ (0 ≤ (l1 + l6) ∧ (l1 + l6) < 12000) ∧ (-2147483648 ≤ l3 + l6 ∧ l3 + l6 < 2147483648) ∧ (0 ≤ (l3 + l6) ∧ (l3 + l6) < 12000) ∧ (((MI 128 (l1 + l6).toNat) = (MI 128 (l3 + l6).toNat) → (-2147483648 ≤ l6 + 1 ∧ l6 + 1 < 2147483648) ∧ wp cs mX12_isSame KD Q 16 [some (vR 124), some (vI l1), some (vI l2), some (vI l3), some (vI l4), some (vI 1), some (vI (l6 + 1))] [] (KD, MI, ML, (GR d e nw th x))) ∧ ((MI 128 (l1 + l6).toNat) ≠ (MI 128 (l3 + l6).toNat) → (-2147483648 ≤ l6 + 1 ∧ l6 + 1 < 2147483648) ∧ wp cs mX12_isSame KD Q 16 [some (vR 124), some (vI l1), some (vI l2), some (vI l3), some (vI l4), some (vI 0), some (vI (l6 + 1))] [] (KD, MI, ML, (GR d e nw th x))))))) ∧ (l2 ≤ l6 → (l5 = 0 ∨ l5 = 1) ∧ Q (some (vI l5)) (MI, ML, (GR d e nw th x))))) :
    wp cs mX12_isSame KD Q 16 [some (vR 124), some (vI l1), some (vI l2), some (vI l3), some (vI l4), some (vI l5), some (vI l6)] [] (KD, MI, ML, (GR d e nw th x)) := by
  refine wp_iload dX12_isSame_16 rfl ?_
  refine wp_iload_n dX12_isSame_18 rfl rfl ?_
  refine wp_icmp_ge (tgt := 61) dX12_isSame_19 (by decide) (fun h19 => ?_) (fun h19 => ?_)
  · replace h := h.2 h19
    refine wp_iload dX12_isSame_61 rfl ?_
    exact wp_zret dX12_isSame_63 rfl h.1 (fun _ => h.2)
  · replace h := h.1 h19
    refine wp_iload dX12_isSame_22 rfl ?_
    refine wp_if_eq (tgt := 61) dX12_isSame_24 (by decide) (fun h24 => ?_) (fun h24 => ?_)
    · replace h := h.1 h24
      refine wp_iload dX12_isSame_61 rfl ?_
      exact wp_zret dX12_isSame_63 rfl h.1 (fun _ => h.2)
    · replace h := h.2 h24
      refine wp_aload_n dX12_isSame_27 rfl rfl (by first | exact Or.inl (by decide) | exact Or.inl (by omega) | exact Or.inr (by decide) | exact Or.inr (by omega)) ?_
      refine wp_getR dX12_isSame_28 fX12_24 rfl (by decide) ?_
      refine wp_topR (x' := 128) rfl ?_
      refine wp_iload_n dX12_isSame_31 rfl rfl ?_
      refine wp_iload dX12_isSame_32 rfl ?_
      have c0 := h.1
      replace h := h.2
      refine wp_iaddr dX12_isSame_34 c0 ?_
      have c1 := h.1
      replace h := h.2
      refine wp_bald dX12_isSame_35 rfl (by decide) c1 ?_
      refine wp_aload_n dX12_isSame_36 rfl rfl (by first | exact Or.inl (by decide) | exact Or.inl (by omega) | exact Or.inr (by decide) | exact Or.inr (by omega)) ?_
      refine wp_pc (pc' := 37) rfl ?_
      refine wp_getR dX12_isSame_37 fX12_24 rfl (by decide) ?_
      refine wp_topR (x' := 128) rfl ?_
      refine wp_iload_n dX12_isSame_40 rfl rfl ?_
      refine wp_iload dX12_isSame_41 rfl ?_
      have c2 := h.1
      replace h := h.2
      refine wp_iaddr dX12_isSame_43 c2 ?_
      have c3 := h.1
      replace h := h.2
      refine wp_bald dX12_isSame_44 rfl (by decide) c3 ?_
      refine wp_icmp_ne (tgt := 52) dX12_isSame_45 (by decide) (fun h45 => ?_) (fun h45 => ?_)
      · replace h := h.2 h45
        refine wp_iconst dX12_isSame_52 (by decide) ?_
        refine wp_istore dX12_isSame_53 (by decide) (wp_L (L' := [some (vR 124), some (vI l1), some (vI l2), some (vI l3), some (vI l4), some (vI 0), some (vI l6)]) rfl ?_)
        have c4 := h.1
        replace h := h.2
        refine wp_iincr dX12_isSame_55 rfl (by decide) c4 (wp_L (L' := [some (vR 124), some (vI l1), some (vI l2), some (vI l3), some (vI l4), some (vI 0), some (vI (l6 + 1))]) rfl ?_)
        refine wp_goto (tgt := 16) dX12_isSame_58 (by decide) ?_
        exact h
      · replace h := h.1 h45
        refine wp_iconst dX12_isSame_48 (by decide) ?_
        refine wp_goto (tgt := 53) dX12_isSame_49 (by decide) ?_
        refine wp_istore dX12_isSame_53 (by decide) (wp_L (L' := [some (vR 124), some (vI l1), some (vI l2), some (vI l3), some (vI l4), some (vI 1), some (vI l6)]) rfl ?_)
        have c4 := h.1
        replace h := h.2
        refine wp_iincr dX12_isSame_55 rfl (by decide) c4 (wp_L (L' := [some (vR 124), some (vI l1), some (vI l2), some (vI l3), some (vI l4), some (vI 1), some (vI (l6 + 1))]) rfl ?_)
        refine wp_goto (tgt := 16) dX12_isSame_58 (by decide) ?_
        exact h
theorem dX12_hasRule_0 : decode cX12_hasRule 0 = .ok (.iconst 0, 1) := by decide +kernel
theorem dX12_hasRule_1 : decode cX12_hasRule 1 = .ok (.istore 5, 2) := by decide +kernel
theorem dX12_hasRule_3 : decode cX12_hasRule 3 = .ok (.aload_n 0, 1) := by decide +kernel
theorem dX12_hasRule_4 : decode cX12_hasRule 4 = .ok (.iconst 0, 1) := by decide +kernel
theorem dX12_hasRule_5 : decode cX12_hasRule 5 = .ok (.putfield 409, 3) := by decide +kernel
theorem dX12_hasRule_8 : decode cX12_hasRule 8 = .ok (.sipush 800, 3) := by decide +kernel
theorem dX12_hasRule_11 : decode cX12_hasRule 11 = .ok (.aload_n 0, 1) := by decide +kernel
theorem dX12_hasRule_12 : decode cX12_hasRule 12 = .ok (.getfield 328, 3) := by decide +kernel
theorem dX12_hasRule_15 : decode cX12_hasRule 15 = .ok (.imul, 1) := by decide +kernel
theorem dX12_hasRule_16 : decode cX12_hasRule 16 = .ok (.istore 6, 2) := by decide +kernel
theorem dX12_hasRule_18 : decode cX12_hasRule 18 = .ok (.iload 6, 2) := by decide +kernel
theorem dX12_hasRule_20 : decode cX12_hasRule 20 = .ok (.sipush 800, 3) := by decide +kernel
theorem dX12_hasRule_23 : decode cX12_hasRule 23 = .ok (.aload_n 0, 1) := by decide +kernel
theorem dX12_hasRule_24 : decode cX12_hasRule 24 = .ok (.getfield 328, 3) := by decide +kernel
theorem dX12_hasRule_27 : decode cX12_hasRule 27 = .ok (.imul, 1) := by decide +kernel
theorem dX12_hasRule_28 : decode cX12_hasRule 28 = .ok (.aload_n 0, 1) := by decide +kernel
theorem dX12_hasRule_29 : decode cX12_hasRule 29 = .ok (.getfield 104, 3) := by decide +kernel
theorem dX12_hasRule_32 : decode cX12_hasRule 32 = .ok (.aload_n 0, 1) := by decide +kernel
theorem dX12_hasRule_33 : decode cX12_hasRule 33 = .ok (.getfield 328, 3) := by decide +kernel
theorem dX12_hasRule_36 : decode cX12_hasRule 36 = .ok (.iaload, 1) := by decide +kernel
theorem dX12_hasRule_37 : decode cX12_hasRule 37 = .ok (.iadd, 1) := by decide +kernel
theorem dX12_hasRule_38 : decode cX12_hasRule 38 = .ok (.if_icmp .ge 78, 3) := by decide +kernel
theorem dX12_hasRule_41 : decode cX12_hasRule 41 = .ok (.aload_n 0, 1) := by decide +kernel
theorem dX12_hasRule_42 : decode cX12_hasRule 42 = .ok (.aload_n 0, 1) := by decide +kernel
theorem dX12_hasRule_43 : decode cX12_hasRule 43 = .ok (.getfield 107, 3) := by decide +kernel
theorem dX12_hasRule_46 : decode cX12_hasRule 46 = .ok (.iload 6, 2) := by decide +kernel
theorem dX12_hasRule_48 : decode cX12_hasRule 48 = .ok (.iaload, 1) := by decide +kernel
theorem dX12_hasRule_49 : decode cX12_hasRule 49 = .ok (.aload_n 0, 1) := by decide +kernel
theorem dX12_hasRule_50 : decode cX12_hasRule 50 = .ok (.getfield 110, 3) := by decide +kernel
theorem dX12_hasRule_53 : decode cX12_hasRule 53 = .ok (.iload 6, 2) := by decide +kernel
theorem dX12_hasRule_55 : decode cX12_hasRule 55 = .ok (.iaload, 1) := by decide +kernel
theorem dX12_hasRule_56 : decode cX12_hasRule 56 = .ok (.iload_n 1, 1) := by decide +kernel
theorem dX12_hasRule_57 : decode cX12_hasRule 57 = .ok (.iload_n 2, 1) := by decide +kernel
theorem dX12_hasRule_58 : decode cX12_hasRule 58 = .ok (.invokevirtual 412, 3) := by decide +kernel
theorem dX12_hasRule_61 : decode cX12_hasRule 61 = .ok (.ifCond .eq 49, 3) := by decide +kernel
theorem dX12_hasRule_64 : decode cX12_hasRule 64 = .ok (.aload_n 0, 1) := by decide +kernel
theorem dX12_hasRule_65 : decode cX12_hasRule 65 = .ok (.dup, 1) := by decide +kernel
theorem dX12_hasRule_66 : decode cX12_hasRule 66 = .ok (.getfield 409, 3) := by decide +kernel
theorem dX12_hasRule_69 : decode cX12_hasRule 69 = .ok (.iconst 1, 1) := by decide +kernel
theorem dX12_hasRule_70 : decode cX12_hasRule 70 = .ok (.iadd, 1) := by decide +kernel
theorem dX12_hasRule_71 : decode cX12_hasRule 71 = .ok (.putfield 409, 3) := by decide +kernel
theorem dX12_hasRule_74 : decode cX12_hasRule 74 = .ok (.iload 5, 2) := by decide +kernel
theorem dX12_hasRule_76 : decode cX12_hasRule 76 = .ok (.ifCond .ne 27, 3) := by decide +kernel
theorem dX12_hasRule_79 : decode cX12_hasRule 79 = .ok (.aload_n 0, 1) := by decide +kernel
theorem dX12_hasRule_80 : decode cX12_hasRule 80 = .ok (.aload_n 0, 1) := by decide +kernel
theorem dX12_hasRule_81 : decode cX12_hasRule 81 = .ok (.getfield 113, 3) := by decide +kernel
theorem dX12_hasRule_84 : decode cX12_hasRule 84 = .ok (.iload 6, 2) := by decide +kernel
theorem dX12_hasRule_86 : decode cX12_hasRule 86 = .ok (.iaload, 1) := by decide +kernel
theorem dX12_hasRule_87 : decode cX12_hasRule 87 = .ok (.aload_n 0, 1) := by decide +kernel
theorem dX12_hasRule_88 : decode cX12_hasRule 88 = .ok (.getfield 116, 3) := by decide +kernel
theorem dX12_hasRule_91 : decode cX12_hasRule 91 = .ok (.iload 6, 2) := by decide +kernel
theorem dX12_hasRule_93 : decode cX12_hasRule 93 = .ok (.iaload, 1) := by decide +kernel
theorem dX12_hasRule_94 : decode cX12_hasRule 94 = .ok (.iload_n 3, 1) := by decide +kernel
theorem dX12_hasRule_95 : decode cX12_hasRule 95 = .ok (.iload 4, 2) := by decide +kernel
theorem dX12_hasRule_97 : decode cX12_hasRule 97 = .ok (.invokevirtual 412, 3) := by decide +kernel
theorem dX12_hasRule_100 : decode cX12_hasRule 100 = .ok (.ifCond .eq 7, 3) := by decide +kernel
theorem dX12_hasRule_103 : decode cX12_hasRule 103 = .ok (.iconst 1, 1) := by decide +kernel
theorem dX12_hasRule_104 : decode cX12_hasRule 104 = .ok (.goto 4, 3) := by decide +kernel
theorem dX12_hasRule_107 : decode cX12_hasRule 107 = .ok (.iconst 0, 1) := by decide +kernel
theorem dX12_hasRule_108 : decode cX12_hasRule 108 = .ok (.istore 5, 2) := by decide +kernel
theorem dX12_hasRule_110 : decode cX12_hasRule 110 = .ok (.iinc 6 1, 3) := by decide +kernel
theorem dX12_hasRule_113 : decode cX12_hasRule 113 = .ok (.goto (-95), 3) := by decide +kernel
theorem dX12_hasRule_116 : decode cX12_hasRule 116 = .ok (.iload 5, 2) := by decide +kernel
theorem dX12_hasRule_118 : decode cX12_hasRule 118 = .ok (.ireturn, 1) := by decide +kernel
theorem v_X12_hasRule_0 {cs : Cs} {Q : Option AV → Mm → Prop} {MI ML : Nat → Nat → Int} {d e nw th x : Nat} {l1 l2 l3 l4 : Int}
    (h : ∀ m5, m5 = up2 MI 124 62 0 → (-2147483648 ≤ 800 * (m5 124 8) ∧ 800 * (m5 124 8) < 2147483648) ∧ wp cs mX12_hasRule KD Q 18 [some (vR 124), some (vI l1), some (vI l2), some (vI l3), some (vI l4), some (vI 0), some (vI (800 * (m5 124 8)))] [] (KD, m5, ML, (GR d e nw th x))) :
    wp cs mX12_hasRule KD Q 0 (padL [vR 124, vI l1, vI l2, vI l3, vI l4] 7) [] (KD, MI, ML, (GR d e nw th x)) := by
  refine wp_L (L' := [some (vR 124), some (vI l1), some (vI l2), some (vI l3), some (vI l4), none, none]) rfl ?_
  refine wp_iconst dX12_hasRule_0 (by decide) ?_
  refine wp_istore dX12_hasRule_1 (by decide) (wp_L (L' := [some (vR 124), some (vI l1), some (vI l2), some (vI l3), some (vI l4), some (vI 0), none]) rfl ?_)
  refine wp_aload_n dX12_hasRule_3 rfl rfl (by first | exact Or.inl (by decide) | exact Or.inl (by omega) | exact Or.inr (by decide) | exact Or.inr (by omega)) ?_
  refine wp_iconst dX12_hasRule_4 (by decide) ?_
  refine wp_putI dX12_hasRule_5 pX12_409 rfl (by decide) ?_
  refine wp_gI (fun m5 e5 => ?_)
  replace h := h m5 e5
  refine wp_sipush dX12_hasRule_8 (by decide +kernel) (by decide) ?_
  refine wp_aload_n dX12_hasRule_11 rfl rfl (by first | exact Or.inl (by decide) | exact Or.inl (by omega) | exact Or.inr (by decide) | exact Or.inr (by omega)) ?_
  refine wp_pc (pc' := 12) rfl ?_
  refine wp_getI dX12_hasRule_12 fX12_328 rfl (by decide) ?_
  have c0 := h.1
  replace h := h.2
  refine wp_imulr dX12_hasRule_15 c0 ?_
  refine wp_istore dX12_hasRule_16 (by decide) (wp_L (L' := [some (vR 124), some (vI l1), some (vI l2), some (vI l3), some (vI l4), some (vI 0), some (vI (800 * (m5 124 8)))]) rfl ?_)
  exact h
theorem v_X12_hasRule_18 {cs : Cs} {Q : Option AV → Mm → Prop} {MI ML : Nat → Nat → Int} {d e nw th x : Nat} {l1 l2 l3 l4 l5 l6 : Int}
    (h : (-2147483648 ≤ 800 * (MI 124 8) ∧ 800 * (MI 124 8) < 2147483648) ∧ (0 ≤ (MI 124 8) ∧ (MI 124 8) < 2) ∧ (-2147483648 ≤ (800 * (MI 124 8)) + (MI 154 (MI 124 8).toNat) ∧ (800 * (MI 124 8)) + (MI 154 (MI 124 8).toNat) < 2147483648) ∧ ((l6 < ((800 * (MI 124 8)) + (MI 154 (MI 124 8).toNat)) → (0 ≤ l6 ∧ l6 < 1600) ∧ wp cs mX12_isSame KD (rI (GR d e nw th x) fun x58 m58 n58 => ((x58 = 0 → (-2147483648 ≤ l6 + 1 ∧ l6 + 1 < 2147483648) ∧ wp cs mX12_hasRule KD Q 18 [some (vR 124), some (vI l1), some (vI l2), some (vI l3), some (vI l4), some (vI l5), some (vI (l6 + 1))] [] (KD, m58, n58, (GR d e nw th x))) ∧ (x58 ≠ 0 → (-2147483648 ≤ (m58 124 62) + 1 ∧ (m58 124 62) + 1 < 2147483648) ∧ ∀ m71, m71 = up2 m58 124 62 ((m58 124 62) + 1) → ((l5 = 0 → wp cs mX12_isSame KD (rI (GR d e nw th x) fun x97 m97 n97 => ((x97 = 0 → (-2147483648 ≤ l6 + 1 ∧ l6 + 1 < 2147483648) ∧ wp cs mX12_hasRule KD Q 18 [some (vR 124), some (vI l1), some (vI l2), some (vI l3), some (vI l4), some (vI 0), some (vI (l6 + 1))] [] (KD, m97, n97, (GR d e nw th x))) ∧ (x97 ≠ 0 → (-2147483648 ≤ l6 + 1 ∧ l6 + 1 < 2147483648) ∧ wp cs mX12_hasRule KD Q 18 [some (vR 124), some (vI l1), some (vI l2), some (vI l3), some (vI l4), some (vI 1), some (vI (l6 + 1))] [] (KD, m97, n97, (GR d e nw th x))))) 0 (padL [vR 124, vI (m71 157 l6.toNat), vI (m71 158 l6.toNat), vI l3, vI l4] 7) [] (KD, m71, n58, (GR d e nw th x))) ∧ (l5 ≠ 0 → (-2147483648 ≤ l6 + 1 ∧ l6 + 1 < 2147483648) ∧ wp cs mX12_hasRule KD Q 18 [some (vR 124), some (vI l1), some (vI l2), some (vI l3), some (vI l4), some (vI 1), some (vI (l6 + 1))] [] (KD, m71, n58, (GR d e nw th x))))))) 0 (padL [vR 124, vI (MI 155 l6.toNat), vI (MI 156 l6.toNat), vI l1, vI l2] 7) [] (KD, MI, ML, (GR d e nw th x))) ∧ (((800 * (MI 124 8)) + (MI 154 (MI 124 8).toNat)) ≤ l6 → (l5 = 0 ∨ l5 = 1) ∧ Q (some (vI l5)) (MI, ML, (GR d e nw th x))))) :
    wp cs mX12_hasRule KD Q 18 [some (vR 124), some (vI l1), some (vI l2), some (vI l3), some (vI l4), some (vI l5), some (vI l6)] [] (KD, MI, ML, (GR d e nw th x)) := by
  refine wp_iload dX12_hasRule_18 rfl ?_
  refine wp_sipush dX12_hasRule_20 (by decide +kernel) (by decide) ?_
  refine wp_aload_n dX12_hasRule_23 rfl rfl (by first | exact Or.inl (by decide) | exact Or.inl (by omega) | exact Or.inr (by decide) | exact Or.inr (by omega)) ?_
  refine wp_getI dX12_hasRule_24 fX12_328 rfl (by decide) ?_
  have c0 := h.1
  replace h := h.2
  refine wp_imulr dX12_hasRule_27 c0 ?_
  refine wp_aload_n dX12_hasRule_28 rfl rfl (by first | exact Or.inl (by decide) | exact Or.inl (by omega) | exact Or.inr (by decide) | exact Or.inr (by omega)) ?_
  refine wp_getR dX12_hasRule_29 fX12_104 rfl (by decide) ?_
  refine wp_topR (x' := 154) rfl ?_
  refine wp_pc (pc' := 32) rfl ?_
  refine wp_aload_n dX12_hasRule_32 rfl rfl (by first | exact Or.inl (by decide) | exact Or.inl (by omega) | exact Or.inr (by decide) | exact Or.inr (by omega)) ?_
  refine wp_getI dX12_hasRule_33 fX12_328 rfl (by decide) ?_
  have c1 := h.1
  replace h := h.2
  refine wp_iald dX12_hasRule_36 rfl (by decide) c1 ?_
  have c2 := h.1
  replace h := h.2
  refine wp_iaddr dX12_hasRule_37 c2 ?_
  refine wp_icmp_ge (tgt := 116) dX12_hasRule_38 (by decide) (fun h38 => ?_) (fun h38 => ?_)
  · replace h := h.2 h38
    refine wp_iload dX12_hasRule_116 rfl ?_
    exact wp_zret dX12_hasRule_118 rfl h.1 (fun _ => h.2)
  · replace h := h.1 h38
    refine wp_aload_n dX12_hasRule_41 rfl rfl (by first | exact Or.inl (by decide) | exact Or.inl (by omega) | exact Or.inr (by decide) | exact Or.inr (by omega)) ?_
    refine wp_aload_n dX12_hasRule_42 rfl rfl (by first | exact Or.inl (by decide) | exact Or.inl (by omega) | exact Or.inr (by decide) | exact Or.inr (by omega)) ?_
    refine wp_getR dX12_hasRule_43 fX12_107 rfl (by decide) ?_
    refine wp_topR (x' := 155) rfl ?_
    refine wp_iload dX12_hasRule_46 rfl ?_
    have c3 := h.1
    replace h := h.2
    refine wp_iald dX12_hasRule_48 rfl (by decide) c3 ?_
    refine wp_aload_n dX12_hasRule_49 rfl rfl (by first | exact Or.inl (by decide) | exact Or.inl (by omega) | exact Or.inr (by decide) | exact Or.inr (by omega)) ?_
    refine wp_getR dX12_hasRule_50 fX12_110 rfl (by decide) ?_
    refine wp_topR (x' := 156) rfl ?_
    refine wp_pc (pc' := 53) rfl ?_
    refine wp_iload dX12_hasRule_53 rfl ?_
    refine wp_iald dX12_hasRule_55 rfl (by decide) c3 ?_
    refine wp_iload_n dX12_hasRule_56 rfl rfl ?_
    refine wp_iload_n dX12_hasRule_57 rfl rfl ?_
    refine wp_cVq (n := 4) (mt' := mX12_isSame) (as := [vI (MI 155 l6.toNat), vI (MI 156 l6.toNat), vI l1, vI l2]) (rest := []) _ dX12_hasRule_58 lX12_412 kX12_isSame vX12_isSame (by decide) (by decide +kernel) rfl (Nat.le_of_ble_eq_true rfl) (by decide) rfl rfl rfl (Nat.le_of_ble_eq_true rfl) (fun hM hS => h) (fun r M' hq hM => ?_)
    obtain ⟨x58, m58, n58, rfl, rfl, h⟩ := rI_out hq
    refine wp_if_eq (tgt := 110) dX12_hasRule_61 (by decide) (fun h61 => ?_) (fun h61 => ?_)
    · replace h := h.1 h61
      have c4 := h.1
      replace h := h.2
      refine wp_iincr dX12_hasRule_110 rfl (by decide) c4 (wp_L (L' := [some (vR 124), some (vI l1), some (vI l2), some (vI l3), some (vI l4), some (vI l5), some (vI (l6 + 1))]) rfl ?_)
      refine wp_goto (tgt := 18) dX12_hasRule_113 (by decide) ?_
      exact h
    · replace h := h.2 h61
      refine wp_aload_n dX12_hasRule_64 rfl rfl (by first | exact Or.inl (by decide) | exact Or.inl (by omega) | exact Or.inr (by decide) | exact Or.inr (by omega)) ?_
      refine wp_dup dX12_hasRule_65 (fun x e => by cases e) ?_
      refine wp_getI dX12_hasRule_66 fX12_409 rfl (by decide) ?_
      refine wp_iconst dX12_hasRule_69 (by decide) ?_
      have c4 := h.1
      replace h := h.2
      refine wp_iaddr dX12_hasRule_70 c4 ?_
      refine wp_putI dX12_hasRule_71 pX12_409 rfl (by decide) ?_
      refine wp_gI (fun m71 e71 => ?_)
      replace h := h m71 e71
      refine wp_iload dX12_hasRule_74 rfl ?_
      refine wp_pc (pc' := 76) rfl ?_
      refine wp_if_ne (tgt := 103) dX12_hasRule_76 (by decide) (fun h76 => ?_) (fun h76 => ?_)
      · replace h := h.2 h76
        refine wp_iconst dX12_hasRule_103 (by decide) ?_
        refine wp_goto (tgt := 108) dX12_hasRule_104 (by decide) ?_
        refine wp_istore dX12_hasRule_108 (by decide) (wp_L (L' := [some (vR 124), some (vI l1), some (vI l2), some (vI l3), some (vI l4), some (vI 1), some (vI l6)]) rfl ?_)
        have c5 := h.1
        replace h := h.2
        refine wp_iincr dX12_hasRule_110 rfl (by decide) c5 (wp_L (L' := [some (vR 124), some (vI l1), some (vI l2), some (vI l3), some (vI l4), some (vI 1), some (vI (l6 + 1))]) rfl ?_)
        refine wp_goto (tgt := 18) dX12_hasRule_113 (by decide) ?_
        exact h
      · replace h := h.1 h76
        refine wp_aload_n dX12_hasRule_79 rfl rfl (by first | exact Or.inl (by decide) | exact Or.inl (by omega) | exact Or.inr (by decide) | exact Or.inr (by omega)) ?_
        refine wp_aload_n dX12_hasRule_80 rfl rfl (by first | exact Or.inl (by decide) | exact Or.inl (by omega) | exact Or.inr (by decide) | exact Or.inr (by omega)) ?_
        refine wp_getR dX12_hasRule_81 fX12_113 rfl (by decide) ?_
        refine wp_topR (x' := 157) rfl ?_
        refine wp_iload dX12_hasRule_84 rfl ?_
        refine wp_iald dX12_hasRule_86 rfl (by decide) c3 ?_
        refine wp_aload_n dX12_hasRule_87 rfl rfl (by first | exact Or.inl (by decide) | exact Or.inl (by omega) | exact Or.inr (by decide) | exact Or.inr (by omega)) ?_
        refine wp_getR dX12_hasRule_88 fX12_116 rfl (by decide) ?_
        refine wp_topR (x' := 158) rfl ?_
        refine wp_pc (pc' := 91) rfl ?_
        refine wp_iload dX12_hasRule_91 rfl ?_
        refine wp_iald dX12_hasRule_93 rfl (by decide) c3 ?_
        refine wp_iload_n dX12_hasRule_94 rfl rfl ?_
        refine wp_iload dX12_hasRule_95 rfl ?_
        refine wp_cVq (n := 4) (mt' := mX12_isSame) (as := [vI (m71 157 l6.toNat), vI (m71 158 l6.toNat), vI l3, vI l4]) (rest := []) _ dX12_hasRule_97 lX12_412 kX12_isSame vX12_isSame (by decide) (by decide +kernel) rfl (Nat.le_of_ble_eq_true rfl) (by decide) rfl rfl rfl (Nat.le_of_ble_eq_true rfl) (fun hM hS => h) (fun r M' hq hM => ?_)
        obtain ⟨x97, m97, n97, rfl, rfl, h⟩ := rI_out hq
        refine wp_if_eq (tgt := 107) dX12_hasRule_100 (by decide) (fun h100 => ?_) (fun h100 => ?_)
        · replace h := h.1 h100
          refine wp_iconst dX12_hasRule_107 (by decide) ?_
          refine wp_istore dX12_hasRule_108 (by decide) (wp_L (L' := [some (vR 124), some (vI l1), some (vI l2), some (vI l3), some (vI l4), some (vI 0), some (vI l6)]) rfl ?_)
          have c5 := h.1
          replace h := h.2
          refine wp_iincr dX12_hasRule_110 rfl (by decide) c5 (wp_L (L' := [some (vR 124), some (vI l1), some (vI l2), some (vI l3), some (vI l4), some (vI 0), some (vI (l6 + 1))]) rfl ?_)
          refine wp_goto (tgt := 18) dX12_hasRule_113 (by decide) ?_
          exact h
        · replace h := h.2 h100
          refine wp_iconst dX12_hasRule_103 (by decide) ?_
          refine wp_goto (tgt := 108) dX12_hasRule_104 (by decide) ?_
          refine wp_istore dX12_hasRule_108 (by decide) (wp_L (L' := [some (vR 124), some (vI l1), some (vI l2), some (vI l3), some (vI l4), some (vI 1), some (vI l6)]) rfl ?_)
          have c5 := h.1
          replace h := h.2
          refine wp_iincr dX12_hasRule_110 rfl (by decide) c5 (wp_L (L' := [some (vR 124), some (vI l1), some (vI l2), some (vI l3), some (vI l4), some (vI 1), some (vI (l6 + 1))]) rfl ?_)
          refine wp_goto (tgt := 18) dX12_hasRule_113 (by decide) ?_
          exact h
theorem dX12_tokens_0 : decode cX12_tokens 0 = .ok (.iconst 1, 1) := by decide +kernel
theorem dX12_tokens_1 : decode cX12_tokens 1 = .ok (.istore_n 2, 1) := by decide +kernel
theorem dX12_tokens_2 : decode cX12_tokens 2 = .ok (.aload_n 0, 1) := by decide +kernel
theorem dX12_tokens_3 : decode cX12_tokens 3 = .ok (.invokevirtual 289, 3) := by decide +kernel
theorem dX12_tokens_6 : decode cX12_tokens 6 = .ok (.ifCond .eq 216, 3) := by decide +kernel
theorem dX12_tokens_9 : decode cX12_tokens 9 = .ok (.iload_n 2, 1) := by decide +kernel
theorem dX12_tokens_10 : decode cX12_tokens 10 = .ok (.ifCond .eq 212, 3) := by decide +kernel
theorem dX12_tokens_13 : decode cX12_tokens 13 = .ok (.aload_n 0, 1) := by decide +kernel
theorem dX12_tokens_14 : decode cX12_tokens 14 = .ok (.invokevirtual 300, 3) := by decide +kernel
theorem dX12_tokens_17 : decode cX12_tokens 17 = .ok (.aload_n 0, 1) := by decide +kernel
theorem dX12_tokens_18 : decode cX12_tokens 18 = .ok (.getfield 276, 3) := by decide +kernel
theorem dX12_tokens_21 : decode cX12_tokens 21 = .ok (.istore_n 3, 1) := by decide +kernel
theorem dX12_tokens_22 : decode cX12_tokens 22 = .ok (.aload_n 0, 1) := by decide +kernel
theorem dX12_tokens_23 : decode cX12_tokens 23 = .ok (.aload_n 0, 1) := by decide +kernel
theorem dX12_tokens_24 : decode cX12_tokens 24 = .ok (.getfield 276, 3) := by decide +kernel
theorem dX12_tokens_27 : decode cX12_tokens 27 = .ok (.invokevirtual 279, 3) := by decide +kernel
theorem dX12_tokens_30 : decode cX12_tokens 30 = .ok (.invokestatic 303, 3) := by decide +kernel
theorem dX12_tokens_33 : decode cX12_tokens 33 = .ok (.ifCond .eq 16, 3) := by decide +kernel
theorem dX12_tokens_36 : decode cX12_tokens 36 = .ok (.aload_n 0, 1) := by decide +kernel
theorem dX12_tokens_37 : decode cX12_tokens 37 = .ok (.dup, 1) := by decide +kernel
theorem dX12_tokens_38 : decode cX12_tokens 38 = .ok (.getfield 276, 3) := by decide +kernel
theorem dX12_tokens_41 : decode cX12_tokens 41 = .ok (.iconst 1, 1) := by decide +kernel
theorem dX12_tokens_42 : decode cX12_tokens 42 = .ok (.iadd, 1) := by decide +kernel
theorem dX12_tokens_43 : decode cX12_tokens 43 = .ok (.putfield 276, 3) := by decide +kernel
theorem dX12_tokens_46 : decode cX12_tokens 46 = .ok (.goto (-24), 3) := by decide +kernel
theorem dX12_tokens_49 : decode cX12_tokens 49 = .ok (.aload_n 0, 1) := by decide +kernel
theorem dX12_tokens_50 : decode cX12_tokens 50 = .ok (.getfield 276, 3) := by decide +kernel
theorem dX12_tokens_53 : decode cX12_tokens 53 = .ok (.iload_n 3, 1) := by decide +kernel
theorem dX12_tokens_54 : decode cX12_tokens 54 = .ok (.isub, 1) := by decide +kernel
theorem dX12_tokens_55 : decode cX12_tokens 55 = .ok (.istore 4, 2) := by decide +kernel
theorem dX12_tokens_57 : decode cX12_tokens 57 = .ok (.aload_n 0, 1) := by decide +kernel
theorem dX12_tokens_58 : decode cX12_tokens 58 = .ok (.invokevirtual 289, 3) := by decide +kernel
theorem dX12_tokens_61 : decode cX12_tokens 61 = .ok (.ifCond .eq 17, 3) := by decide +kernel
theorem dX12_tokens_64 : decode cX12_tokens 64 = .ok (.iload 4, 2) := by decide +kernel
theorem dX12_tokens_66 : decode cX12_tokens 66 = .ok (.ifCond .ne 12, 3) := by decide +kernel
theorem dX12_tokens_69 : decode cX12_tokens 69 = .ok (.aload_n 0, 1) := by decide +kernel
theorem dX12_tokens_70 : decode cX12_tokens 70 = .ok (.iconst (-1), 1) := by decide +kernel
theorem dX12_tokens_71 : decode cX12_tokens 71 = .ok (.iload_n 3, 1) := by decide +kernel
theorem dX12_tokens_72 : decode cX12_tokens 72 = .ok (.invokevirtual 293, 3) := by decide +kernel
theorem dX12_tokens_75 : decode cX12_tokens 75 = .ok (.goto 35, 3) := by decide +kernel
theorem dX12_tokens_78 : decode cX12_tokens 78 = .ok (.aload_n 0, 1) := by decide +kernel
theorem dX12_tokens_79 : decode cX12_tokens 79 = .ok (.invokevirtual 289, 3) := by decide +kernel
theorem dX12_tokens_82 : decode cX12_tokens 82 = .ok (.ifCond .eq 28, 3) := by decide +kernel
theorem dX12_tokens_85 : decode cX12_tokens 85 = .ok (.iload 4, 2) := by decide +kernel
theorem dX12_tokens_87 : decode cX12_tokens 87 = .ok (.bipush 20, 2) := by decide +kernel
theorem dX12_tokens_89 : decode cX12_tokens 89 = .ok (.if_icmp .gt 14, 3) := by decide +kernel
theorem dX12_tokens_92 : decode cX12_tokens 92 = .ok (.aload_n 0, 1) := by decide +kernel
theorem dX12_tokens_93 : decode cX12_tokens 93 = .ok (.getfield 131, 3) := by decide +kernel
theorem dX12_tokens_96 : decode cX12_tokens 96 = .ok (.iload_n 1, 1) := by decide +kernel
theorem dX12_tokens_97 : decode cX12_tokens 97 = .ok (.iaload, 1) := by decide +kernel
theorem dX12_tokens_98 : decode cX12_tokens 98 = .ok (.bipush 8, 2) := by decide +kernel
theorem dX12_tokens_100 : decode cX12_tokens 100 = .ok (.if_icmp .ne 10, 3) := by decide +kernel
theorem dX12_tokens_103 : decode cX12_tokens 103 = .ok (.aload_n 0, 1) := by decide +kernel
theorem dX12_tokens_104 : decode cX12_tokens 104 = .ok (.bipush (-3), 2) := by decide +kernel
theorem dX12_tokens_106 : decode cX12_tokens 106 = .ok (.iload_n 3, 1) := by decide +kernel
theorem dX12_tokens_107 : decode cX12_tokens 107 = .ok (.invokevirtual 293, 3) := by decide +kernel
theorem dX12_tokens_110 : decode cX12_tokens 110 = .ok (.aload_n 0, 1) := by decide +kernel
theorem dX12_tokens_111 : decode cX12_tokens 111 = .ok (.invokevirtual 289, 3) := by decide +kernel
theorem dX12_tokens_114 : decode cX12_tokens 114 = .ok (.ifCond .eq 57, 3) := by decide +kernel
theorem dX12_tokens_117 : decode cX12_tokens 117 = .ok (.aload_n 0, 1) := by decide +kernel
theorem dX12_tokens_118 : decode cX12_tokens 118 = .ok (.getfield 134, 3) := by decide +kernel
theorem dX12_tokens_121 : decode cX12_tokens 121 = .ok (.bipush 8, 2) := by decide +kernel
theorem dX12_tokens_123 : decode cX12_tokens 123 = .ok (.iload_n 1, 1) := by decide +kernel
theorem dX12_tokens_124 : decode cX12_tokens 124 = .ok (.imul, 1) := by decide +kernel
theorem dX12_tokens_125 : decode cX12_tokens 125 = .ok (.aload_n 0, 1) := by decide +kernel
theorem dX12_tokens_126 : decode cX12_tokens 126 = .ok (.getfield 131, 3) := by decide +kernel
theorem dX12_tokens_129 : decode cX12_tokens 129 = .ok (.iload_n 1, 1) := by decide +kernel
theorem dX12_tokens_130 : decode cX12_tokens 130 = .ok (.iaload, 1) := by decide +kernel
theorem dX12_tokens_131 : decode cX12_tokens 131 = .ok (.iadd, 1) := by decide +kernel
theorem dX12_tokens_132 : decode cX12_tokens 132 = .ok (.sipush 6000, 3) := by decide +kernel
theorem dX12_tokens_135 : decode cX12_tokens 135 = .ok (.aload_n 0, 1) := by decide +kernel
theorem dX12_tokens_136 : decode cX12_tokens 136 = .ok (.getfield 328, 3) := by decide +kernel
theorem dX12_tokens_139 : decode cX12_tokens 139 = .ok (.imul, 1) := by decide +kernel
theorem dX12_tokens_140 : decode cX12_tokens 140 = .ok (.iload_n 3, 1) := by decide +kernel
theorem dX12_tokens_141 : decode cX12_tokens 141 = .ok (.iadd, 1) := by decide +kernel
theorem dX12_tokens_142 : decode cX12_tokens 142 = .ok (.iastore, 1) := by decide +kernel
theorem dX12_tokens_143 : decode cX12_tokens 143 = .ok (.aload_n 0, 1) := by decide +kernel
theorem dX12_tokens_144 : decode cX12_tokens 144 = .ok (.getfield 137, 3) := by decide +kernel
theorem dX12_tokens_147 : decode cX12_tokens 147 = .ok (.bipush 8, 2) := by decide +kernel
theorem dX12_tokens_149 : decode cX12_tokens 149 = .ok (.iload_n 1, 1) := by decide +kernel
theorem dX12_tokens_150 : decode cX12_tokens 150 = .ok (.imul, 1) := by decide +kernel
theorem dX12_tokens_151 : decode cX12_tokens 151 = .ok (.aload_n 0, 1) := by decide +kernel
theorem dX12_tokens_152 : decode cX12_tokens 152 = .ok (.getfield 131, 3) := by decide +kernel
theorem dX12_tokens_155 : decode cX12_tokens 155 = .ok (.iload_n 1, 1) := by decide +kernel
theorem dX12_tokens_156 : decode cX12_tokens 156 = .ok (.iaload, 1) := by decide +kernel
theorem dX12_tokens_157 : decode cX12_tokens 157 = .ok (.iadd, 1) := by decide +kernel
theorem dX12_tokens_158 : decode cX12_tokens 158 = .ok (.iload 4, 2) := by decide +kernel
theorem dX12_tokens_160 : decode cX12_tokens 160 = .ok (.iastore, 1) := by decide +kernel
theorem dX12_tokens_161 : decode cX12_tokens 161 = .ok (.aload_n 0, 1) := by decide +kernel
theorem dX12_tokens_162 : decode cX12_tokens 162 = .ok (.getfield 131, 3) := by decide +kernel
theorem dX12_tokens_165 : decode cX12_tokens 165 = .ok (.iload_n 1, 1) := by decide +kernel
theorem dX12_tokens_166 : decode cX12_tokens 166 = .ok (.dup2, 1) := by decide +kernel
theorem dX12_tokens_167 : decode cX12_tokens 167 = .ok (.iaload, 1) := by decide +kernel
theorem dX12_tokens_168 : decode cX12_tokens 168 = .ok (.iconst 1, 1) := by decide +kernel
theorem dX12_tokens_169 : decode cX12_tokens 169 = .ok (.iadd, 1) := by decide +kernel
theorem dX12_tokens_170 : decode cX12_tokens 170 = .ok (.iastore, 1) := by decide +kernel
theorem dX12_tokens_171 : decode cX12_tokens 171 = .ok (.aload_n 0, 1) := by decide +kernel
theorem dX12_tokens_172 : decode cX12_tokens 172 = .ok (.invokevirtual 300, 3) := by decide +kernel
theorem dX12_tokens_175 : decode cX12_tokens 175 = .ok (.aload_n 0, 1) := by decide +kernel
theorem dX12_tokens_176 : decode cX12_tokens 176 = .ok (.aload_n 0, 1) := by decide +kernel
theorem dX12_tokens_177 : decode cX12_tokens 177 = .ok (.getfield 276, 3) := by decide +kernel
theorem dX12_tokens_180 : decode cX12_tokens 180 = .ok (.invokevirtual 279, 3) := by decide +kernel
theorem dX12_tokens_183 : decode cX12_tokens 183 = .ok (.bipush 124, 2) := by decide +kernel
theorem dX12_tokens_185 : decode cX12_tokens 185 = .ok (.if_icmp .ne 7, 3) := by decide +kernel
theorem dX12_tokens_188 : decode cX12_tokens 188 = .ok (.iconst 1, 1) := by decide +kernel
theorem dX12_tokens_189 : decode cX12_tokens 189 = .ok (.goto 4, 3) := by decide +kernel
theorem dX12_tokens_192 : decode cX12_tokens 192 = .ok (.iconst 0, 1) := by decide +kernel
theorem dX12_tokens_193 : decode cX12_tokens 193 = .ok (.istore_n 2, 1) := by decide +kernel
theorem dX12_tokens_194 : decode cX12_tokens 194 = .ok (.aload_n 0, 1) := by decide +kernel
theorem dX12_tokens_195 : decode cX12_tokens 195 = .ok (.dup, 1) := by decide +kernel
theorem dX12_tokens_196 : decode cX12_tokens 196 = .ok (.getfield 276, 3) := by decide +kernel
theorem dX12_tokens_199 : decode cX12_tokens 199 = .ok (.aload_n 0, 1) := by decide +kernel
theorem dX12_tokens_200 : decode cX12_tokens 200 = .ok (.invokevirtual 289, 3) := by decide +kernel
theorem dX12_tokens_203 : decode cX12_tokens 203 = .ok (.ifCond .eq 11, 3) := by decide +kernel
theorem dX12_tokens_206 : decode cX12_tokens 206 = .ok (.iload_n 2, 1) := by decide +kernel
theorem dX12_tokens_207 : decode cX12_tokens 207 = .ok (.ifCond .eq 7, 3) := by decide +kernel
theorem dX12_tokens_210 : decode cX12_tokens 210 = .ok (.iconst 1, 1) := by decide +kernel
theorem dX12_tokens_211 : decode cX12_tokens 211 = .ok (.goto 4, 3) := by decide +kernel
theorem dX12_tokens_214 : decode cX12_tokens 214 = .ok (.iconst 0, 1) := by decide +kernel
theorem dX12_tokens_215 : decode cX12_tokens 215 = .ok (.iadd, 1) := by decide +kernel
theorem dX12_tokens_216 : decode cX12_tokens 216 = .ok (.putfield 276, 3) := by decide +kernel
theorem dX12_tokens_219 : decode cX12_tokens 219 = .ok (.goto (-217), 3) := by decide +kernel
theorem dX12_tokens_222 : decode cX12_tokens 222 = .ok (.aload_n 0, 1) := by decide +kernel
theorem dX12_tokens_223 : decode cX12_tokens 223 = .ok (.bipush 41, 2) := by decide +kernel
theorem dX12_tokens_225 : decode cX12_tokens 225 = .ok (.invokevirtual 340, 3) := by decide +kernel
theorem dX12_tokens_228 : decode cX12_tokens 228 = .ok (.istore_n 3, 1) := by decide +kernel
theorem dX12_tokens_229 : decode cX12_tokens 229 = .ok (.return_, 1) := by decide +kernel
theorem v_X12_tokens_0 {cs : Cs} {Q : Option AV → Mm → Prop} {MI ML : Nat → Nat → Int} {d e nw th x : Nat} {l1 : Int}
    (h : wp cs mX12_tokens KD Q 2 [some (vR 124), some (vI l1), some (vI 1), none, none] [] (KD, MI, ML, (GR d e nw th x))) :
    wp cs mX12_tokens KD Q 0 (padL [vR 124, vI l1] 5) [] (KD, MI, ML, (GR d e nw th x)) := by
  refine wp_L (L' := [some (vR 124), some (vI l1), none, none, none]) rfl ?_
  refine wp_iconst dX12_tokens_0 (by decide) ?_
  refine wp_istore_n dX12_tokens_1 rfl (by decide) (wp_L (L' := [some (vR 124), some (vI l1), some (vI 1), none, none]) rfl ?_)
  exact h
theorem v_X12_tokens_2 {cs : Cs} {Q : Option AV → Mm → Prop} {MI ML : Nat → Nat → Int} {d e nw th x : Nat} {l1 l2 : Int}
    (h : wp cs mX12_isGood KD (rI (GR d e nw th x) fun x3 m3 n3 => ((x3 = 0 → wp cs mX12_passes KD (rI (GR d e nw th x) fun x225 m225 n225 => Q none (m225, n225, (GR d e nw th x))) 0 (padL [vR 124, vI 41] 2) [] (KD, m3, n3, (GR d e nw th x))) ∧ (x3 ≠ 0 → ((l2 = 0 → wp cs mX12_passes KD (rI (GR d e nw th x) fun x225 m225 n225 => Q none (m225, n225, (GR d e nw th x))) 0 (padL [vR 124, vI 41] 2) [] (KD, m3, n3, (GR d e nw th x))) ∧ (l2 ≠ 0 → wp cs mX12_maybeS KD (rV (GR d e nw th x) fun m14 n14 => wp cs mX12_tokens KD Q 22 [some (vR 124), some (vI l1), some (vI l2), some (vI (m14 124 4)), none] [] (KD, m14, n14, (GR d e nw th x))) 0 (padL [vR 124] 1) [] (KD, m3, n3, (GR d e nw th x))))))) 0 (padL [vR 124] 1) [] (KD, MI, ML, (GR d e nw th x))) :
    wp cs mX12_tokens KD Q 2 [some (vR 124), some (vI l1), some (vI l2), none, none] [] (KD, MI, ML, (GR d e nw th x)) := by
  refine wp_aload_n dX12_tokens_2 rfl rfl (by first | exact Or.inl (by decide) | exact Or.inl (by omega) | exact Or.inr (by decide) | exact Or.inr (by omega)) ?_
  refine wp_cVq (n := 0) (mt' := mX12_isGood) (as := []) (rest := []) _ dX12_tokens_3 lX12_289 kX12_isGood vX12_isGood (by decide) (by decide +kernel) rfl (Nat.le_of_ble_eq_true rfl) (by decide) rfl rfl rfl (Nat.le_of_ble_eq_true rfl) (fun hM hS => h) (fun r M' hq hM => ?_)
  obtain ⟨x3, m3, n3, rfl, rfl, h⟩ := rI_out hq
  refine wp_if_eq (tgt := 222) dX12_tokens_6 (by decide) (fun h6 => ?_) (fun h6 => ?_)
  · replace h := h.1 h6
    refine wp_aload_n dX12_tokens_222 rfl rfl (by first | exact Or.inl (by decide) | exact Or.inl (by omega) | exact Or.inr (by decide) | exact Or.inr (by omega)) ?_
    refine wp_bipush dX12_tokens_223 (by decide +kernel) (by decide) ?_
    refine wp_cVq (n := 1) (mt' := mX12_passes) (as := [vI 41]) (rest := []) _ dX12_tokens_225 lX12_340 kX12_passes vX12_passes (by decide) (by decide +kernel) rfl (Nat.le_of_ble_eq_true rfl) (by decide) rfl rfl rfl (Nat.le_of_ble_eq_true rfl) (fun hM hS => h) (fun r M' hq hM => ?_)
    obtain ⟨x225, m225, n225, rfl, rfl, h⟩ := rI_out hq
    refine wp_istore_n dX12_tokens_228 rfl (by decide) (wp_L (L' := [some (vR 124), some (vI l1), some (vI l2), some (vI x225), none]) rfl ?_)
    exact wp_vret dX12_tokens_229 rfl (fun _ => h)
  · replace h := h.2 h6
    refine wp_iload_n dX12_tokens_9 rfl rfl ?_
    refine wp_if_eq (tgt := 222) dX12_tokens_10 (by decide) (fun h10 => ?_) (fun h10 => ?_)
    · replace h := h.1 h10
      refine wp_aload_n dX12_tokens_222 rfl rfl (by first | exact Or.inl (by decide) | exact Or.inl (by omega) | exact Or.inr (by decide) | exact Or.inr (by omega)) ?_
      refine wp_bipush dX12_tokens_223 (by decide +kernel) (by decide) ?_
      refine wp_cVq (n := 1) (mt' := mX12_passes) (as := [vI 41]) (rest := []) _ dX12_tokens_225 lX12_340 kX12_passes vX12_passes (by decide) (by decide +kernel) rfl (Nat.le_of_ble_eq_true rfl) (by decide) rfl rfl rfl (Nat.le_of_ble_eq_true rfl) (fun hM hS => h) (fun r M' hq hM => ?_)
      obtain ⟨x225, m225, n225, rfl, rfl, h⟩ := rI_out hq
      refine wp_istore_n dX12_tokens_228 rfl (by decide) (wp_L (L' := [some (vR 124), some (vI l1), some (vI l2), some (vI x225), none]) rfl ?_)
      exact wp_vret dX12_tokens_229 rfl (fun _ => h)
    · replace h := h.2 h10
      refine wp_aload_n dX12_tokens_13 rfl rfl (by first | exact Or.inl (by decide) | exact Or.inl (by omega) | exact Or.inr (by decide) | exact Or.inr (by omega)) ?_
      refine wp_cVq (n := 0) (mt' := mX12_maybeS) (as := []) (rest := []) _ dX12_tokens_14 lX12_300 kX12_maybeS vX12_maybeS (by decide) (by decide +kernel) rfl (Nat.le_of_ble_eq_true rfl) (by decide) rfl rfl rfl (Nat.le_of_ble_eq_true rfl) (fun hM hS => h) (fun r M' hq hM => ?_)
      obtain ⟨m14, n14, rfl, rfl, h⟩ := rV_out hq
      refine wp_aload_n dX12_tokens_17 rfl rfl (by first | exact Or.inl (by decide) | exact Or.inl (by omega) | exact Or.inr (by decide) | exact Or.inr (by omega)) ?_
      refine wp_getI dX12_tokens_18 fX12_276 rfl (by decide) ?_
      refine wp_istore_n dX12_tokens_21 rfl (by decide) (wp_L (L' := [some (vR 124), some (vI l1), some (vI l2), some (vI (m14 124 4)), none]) rfl ?_)
      exact h
theorem v_X12_tokens_22 {cs : Cs} {Q : Option AV → Mm → Prop} {MI ML : Nat → Nat → Int} {d e nw th x : Nat} {l1 l2 l3 : Int}
    (h : wp cs mX12_octet KD (rI (GR d e nw th x) fun x27 m27 n27 => wp cs mX12_isNext KD (rI (GR d e nw th x) fun x30 m30 n30 => ((x30 = 0 → (-2147483648 ≤ (m30 124 4) - l3 ∧ (m30 124 4) - l3 < 2147483648) ∧ wp cs mX12_isGood KD (rI (GR d e nw th x) fun x58 m58 n58 => ((x58 = 0 → wp cs mX12_tokens KD Q 78 [some (vR 124), some (vI l1), some (vI l2), some (vI l3), some (vI ((m30 124 4) - l3))] [] (KD, m58, n58, (GR d e nw th x))) ∧ (x58 ≠ 0 → ((((m30 124 4) - l3) = 0 → wp cs mX12_fail KD (rV (GR d e nw th x) fun m72 n72 => wp cs mX12_tokens KD Q 110 [some (vR 124), some (vI l1), some (vI l2), some (vI l3), some (vI ((m30 124 4) - l3))] [] (KD, m72, n72, (GR d e nw th x))) 0 (padL [vR 124, vI (-1), vI l3] 3) [] (KD, m58, n58, (GR d e nw th x))) ∧ (((m30 124 4) - l3) ≠ 0 → wp cs mX12_tokens KD Q 78 [some (vR 124), some (vI l1), some (vI l2), some (vI l3), some (vI ((m30 124 4) - l3))] [] (KD, m58, n58, (GR d e nw th x))))))) 0 (padL [vR 124] 1) [] (KD, m30, n30, (GR d e nw th x))) ∧ (x30 ≠ 0 → (-2147483648 ≤ (m30 124 4) + 1 ∧ (m30 124 4) + 1 < 2147483648) ∧ ∀ m43, m43 = up2 m30 124 4 ((m30 124 4) + 1) → wp cs mX12_tokens KD Q 22 [some (vR 124), some (vI l1), some (vI l2), some (vI l3), none] [] (KD, m43, n30, (GR d e nw th x))))) 0 (padL [vI x27] 1) [] (KD, m27, n27, (GR d e nw th x))) 0 (padL [vR 124, vI (MI 124 4)] 2) [] (KD, MI, ML, (GR d e nw th x))) :
    wp cs mX12_tokens KD Q 22 [some (vR 124), some (vI l1), some (vI l2), some (vI l3), none] [] (KD, MI, ML, (GR d e nw th x)) := by
  refine wp_aload_n dX12_tokens_22 rfl rfl (by first | exact Or.inl (by decide) | exact Or.inl (by omega) | exact Or.inr (by decide) | exact Or.inr (by omega)) ?_
  refine wp_aload_n dX12_tokens_23 rfl rfl (by first | exact Or.inl (by decide) | exact Or.inl (by omega) | exact Or.inr (by decide) | exact Or.inr (by omega)) ?_
  refine wp_getI dX12_tokens_24 fX12_276 rfl (by decide) ?_
  refine wp_cVq (n := 1) (mt' := mX12_octet) (as := [vI (MI 124 4)]) (rest := []) _ dX12_tokens_27 lX12_279 kX12_octet vX12_octet (by decide) (by decide +kernel) rfl (Nat.le_of_ble_eq_true rfl) (by decide) rfl rfl rfl (Nat.le_of_ble_eq_true rfl) (fun hM hS => h) (fun r M' hq hM => ?_)
  obtain ⟨x27, m27, n27, rfl, rfl, h⟩ := rI_out hq
  refine wp_cSq (n := 1) (mt' := mX12_isNext) (as := [vI x27]) (rest := []) _ dX12_tokens_30 lX12_303 kX12_isNext vX12_isNext (by decide) (by decide +kernel) rfl (Nat.le_of_ble_eq_true rfl) rfl (Nat.le_of_ble_eq_true rfl) (fun hM hS => h) (fun r M' hq hM => ?_)
  obtain ⟨x30, m30, n30, rfl, rfl, h⟩ := rI_out hq
  refine wp_if_eq (tgt := 49) dX12_tokens_33 (by decide) (fun h33 => ?_) (fun h33 => ?_)
  · replace h := h.1 h33
    refine wp_aload_n dX12_tokens_49 rfl rfl (by first | exact Or.inl (by decide) | exact Or.inl (by omega) | exact Or.inr (by decide) | exact Or.inr (by omega)) ?_
    refine wp_getI dX12_tokens_50 fX12_276 rfl (by decide) ?_
    refine wp_iload_n dX12_tokens_53 rfl rfl ?_
    have c0 := h.1
    replace h := h.2
    refine wp_isubr dX12_tokens_54 c0 ?_
    refine wp_istore dX12_tokens_55 (by decide) (wp_L (L' := [some (vR 124), some (vI l1), some (vI l2), some (vI l3), some (vI ((m30 124 4) - l3))]) rfl ?_)
    refine wp_aload_n dX12_tokens_57 rfl rfl (by first | exact Or.inl (by decide) | exact Or.inl (by omega) | exact Or.inr (by decide) | exact Or.inr (by omega)) ?_
    refine wp_cVq (n := 0) (mt' := mX12_isGood) (as := []) (rest := []) _ dX12_tokens_58 lX12_289 kX12_isGood vX12_isGood (by decide) (by decide +kernel) rfl (Nat.le_of_ble_eq_true rfl) (by decide) rfl rfl rfl (Nat.le_of_ble_eq_true rfl) (fun hM hS => h) (fun r M' hq hM => ?_)
    obtain ⟨x58, m58, n58, rfl, rfl, h⟩ := rI_out hq
    refine wp_if_eq (tgt := 78) dX12_tokens_61 (by decide) (fun h61 => ?_) (fun h61 => ?_)
    · replace h := h.1 h61
      exact h
    · replace h := h.2 h61
      refine wp_iload dX12_tokens_64 rfl ?_
      refine wp_if_ne (tgt := 78) dX12_tokens_66 (by decide) (fun h66 => ?_) (fun h66 => ?_)
      · replace h := h.2 h66
        exact h
      · replace h := h.1 h66
        refine wp_aload_n dX12_tokens_69 rfl rfl (by first | exact Or.inl (by decide) | exact Or.inl (by omega) | exact Or.inr (by decide) | exact Or.inr (by omega)) ?_
        refine wp_iconst dX12_tokens_70 (by decide) ?_
        refine wp_iload_n dX12_tokens_71 rfl rfl ?_
        refine wp_cVq (n := 2) (mt' := mX12_fail) (as := [vI (-1), vI l3]) (rest := []) _ dX12_tokens_72 lX12_293 kX12_fail vX12_fail (by decide) (by decide +kernel) rfl (Nat.le_of_ble_eq_true rfl) (by decide) rfl rfl rfl (Nat.le_of_ble_eq_true rfl) (fun hM hS => h) (fun r M' hq hM => ?_)
        obtain ⟨m72, n72, rfl, rfl, h⟩ := rV_out hq
        refine wp_goto (tgt := 110) dX12_tokens_75 (by decide) ?_
        exact h
  · replace h := h.2 h33
    refine wp_aload_n dX12_tokens_36 rfl rfl (by first | exact Or.inl (by decide) | exact Or.inl (by omega) | exact Or.inr (by decide) | exact Or.inr (by omega)) ?_
    refine wp_dup dX12_tokens_37 (fun x e => by cases e) ?_
    refine wp_getI dX12_tokens_38 fX12_276 rfl (by decide) ?_
    refine wp_iconst dX12_tokens_41 (by decide) ?_
    have c0 := h.1
    replace h := h.2
    refine wp_iaddr dX12_tokens_42 c0 ?_
    refine wp_putI dX12_tokens_43 pX12_276 rfl (by decide) ?_
    refine wp_gI (fun m43 e43 => ?_)
    replace h := h m43 e43
    refine wp_goto (tgt := 22) dX12_tokens_46 (by decide) ?_
    exact h
theorem v_X12_tokens_78 {cs : Cs} {Q : Option AV → Mm → Prop} {MI ML : Nat → Nat → Int} {d e nw th x : Nat} {l1 l2 l3 l4 : Int}
    (h : wp cs mX12_isGood KD (rI (GR d e nw th x) fun x79 m79 n79 => ((x79 = 0 → wp cs mX12_tokens KD Q 110 [some (vR 124), some (vI l1), some (vI l2), some (vI l3), some (vI l4)] [] (KD, m79, n79, (GR d e nw th x))) ∧ (x79 ≠ 0 → ((20 < l4 → wp cs mX12_fail KD (rV (GR d e nw th x) fun m107 n107 => wp cs mX12_tokens KD Q 110 [some (vR 124), some (vI l1), some (vI l2), some (vI l3), some (vI l4)] [] (KD, m107, n107, (GR d e nw th x))) 0 (padL [vR 124, vI (-3), vI l3] 3) [] (KD, m79, n79, (GR d e nw th x))) ∧ (l4 ≤ 20 → (0 ≤ l1 ∧ l1 < 1600) ∧ (((m79 163 l1.toNat) = 8 → wp cs mX12_fail KD (rV (GR d e nw th x) fun m107 n107 => wp cs mX12_tokens KD Q 110 [some (vR 124), some (vI l1), some (vI l2), some (vI l3), some (vI l4)] [] (KD, m107, n107, (GR d e nw th x))) 0 (padL [vR 124, vI (-3), vI l3] 3) [] (KD, m79, n79, (GR d e nw th x))) ∧ ((m79 163 l1.toNat) ≠ 8 → wp cs mX12_tokens KD Q 110 [some (vR 124), some (vI l1), some (vI l2), some (vI l3), some (vI l4)] [] (KD, m79, n79, (GR d e nw th x))))))))) 0 (padL [vR 124] 1) [] (KD, MI, ML, (GR d e nw th x))) :
    wp cs mX12_tokens KD Q 78 [some (vR 124), some (vI l1), some (vI l2), some (vI l3), some (vI l4)] [] (KD, MI, ML, (GR d e nw th x)) := by
  refine wp_aload_n dX12_tokens_78 rfl rfl (by first | exact Or.inl (by decide) | exact Or.inl (by omega) | exact Or.inr (by decide) | exact Or.inr (by omega)) ?_
  refine wp_cVq (n := 0) (mt' := mX12_isGood) (as := []) (rest := []) _ dX12_tokens_79 lX12_289 kX12_isGood vX12_isGood (by decide) (by decide +kernel) rfl (Nat.le_of_ble_eq_true rfl) (by decide) rfl rfl rfl (Nat.le_of_ble_eq_true rfl) (fun hM hS => h) (fun r M' hq hM => ?_)
  obtain ⟨x79, m79, n79, rfl, rfl, h⟩ := rI_out hq
  refine wp_if_eq (tgt := 110) dX12_tokens_82 (by decide) (fun h82 => ?_) (fun h82 => ?_)
  · replace h := h.1 h82
    exact h
  · replace h := h.2 h82
    refine wp_iload dX12_tokens_85 rfl ?_
    refine wp_bipush dX12_tokens_87 (by decide +kernel) (by decide) ?_
    refine wp_icmp_gt (tgt := 103) dX12_tokens_89 (by decide) (fun h89 => ?_) (fun h89 => ?_)
    · replace h := h.1 h89
      refine wp_aload_n dX12_tokens_103 rfl rfl (by first | exact Or.inl (by decide) | exact Or.inl (by omega) | exact Or.inr (by decide) | exact Or.inr (by omega)) ?_
      refine wp_bipush dX12_tokens_104 (by decide +kernel) (by decide) ?_
      refine wp_iload_n dX12_tokens_106 rfl rfl ?_
      refine wp_cVq (n := 2) (mt' := mX12_fail) (as := [vI (-3), vI l3]) (rest := []) _ dX12_tokens_107 lX12_293 kX12_fail vX12_fail (by decide) (by decide +kernel) rfl (Nat.le_of_ble_eq_true rfl) (by decide) rfl rfl rfl (Nat.le_of_ble_eq_true rfl) (fun hM hS => h) (fun r M' hq hM => ?_)
      obtain ⟨m107, n107, rfl, rfl, h⟩ := rV_out hq
      exact h
    · replace h := h.2 h89
      refine wp_aload_n dX12_tokens_92 rfl rfl (by first | exact Or.inl (by decide) | exact Or.inl (by omega) | exact Or.inr (by decide) | exact Or.inr (by omega)) ?_
      refine wp_getR dX12_tokens_93 fX12_131 rfl (by decide) ?_
      refine wp_topR (x' := 163) rfl ?_
      refine wp_iload_n dX12_tokens_96 rfl rfl ?_
      have c0 := h.1
      replace h := h.2
      refine wp_iald dX12_tokens_97 rfl (by decide) c0 ?_
      refine wp_bipush dX12_tokens_98 (by decide +kernel) (by decide) ?_
      refine wp_icmp_ne (tgt := 110) dX12_tokens_100 (by decide) (fun h100 => ?_) (fun h100 => ?_)
      · replace h := h.2 h100
        exact h
      · replace h := h.1 h100
        refine wp_aload_n dX12_tokens_103 rfl rfl (by first | exact Or.inl (by decide) | exact Or.inl (by omega) | exact Or.inr (by decide) | exact Or.inr (by omega)) ?_
        refine wp_bipush dX12_tokens_104 (by decide +kernel) (by decide) ?_
        refine wp_iload_n dX12_tokens_106 rfl rfl ?_
        refine wp_cVq (n := 2) (mt' := mX12_fail) (as := [vI (-3), vI l3]) (rest := []) _ dX12_tokens_107 lX12_293 kX12_fail vX12_fail (by decide) (by decide +kernel) rfl (Nat.le_of_ble_eq_true rfl) (by decide) rfl rfl rfl (Nat.le_of_ble_eq_true rfl) (fun hM hS => h) (fun r M' hq hM => ?_)
        obtain ⟨m107, n107, rfl, rfl, h⟩ := rV_out hq
        exact h
theorem v_X12_tokens_110 {cs : Cs} {Q : Option AV → Mm → Prop} {MI ML : Nat → Nat → Int} {d e nw th x : Nat} {l1 l2 l3 l4 : Int}
    (h : wp cs mX12_isGood KD (rI (GR d e nw th x) fun x111 m111 n111 => ((x111 = 0 → wp cs mX12_tokens KD Q 171 [some (vR 124), some (vI l1), some (vI l2), some (vI l3), some (vI l4)] [] (KD, m111, n111, (GR d e nw th x))) ∧ (x111 ≠ 0 → (-2147483648 ≤ 8 * l1 ∧ 8 * l1 < 2147483648) ∧ (0 ≤ l1 ∧ l1 < 1600) ∧ (-2147483648 ≤ (8 * l1) + (m111 163 l1.toNat) ∧ (8 * l1) + (m111 163 l1.toNat) < 2147483648) ∧ (-2147483648 ≤ 6000 * (m111 124 8) ∧ 6000 * (m111 124 8) < 2147483648) ∧ (-2147483648 ≤ (6000 * (m111 124 8)) + l3 ∧ (6000 * (m111 124 8)) + l3 < 2147483648) ∧ (0 ≤ ((8 * l1) + (m111 163 l1.toNat)) ∧ ((8 * l1) + (m111 163 l1.toNat)) < 12800) ∧ ∀ m142, m142 = up2 m111 164 ((8 * l1) + (m111 163 l1.toNat)).toNat ((6000 * (m111 124 8)) + l3) → (-2147483648 ≤ (8 * l1) + (m142 163 l1.toNat) ∧ (8 * l1) + (m142 163 l1.toNat) < 2147483648) ∧ (0 ≤ ((8 * l1) + (m142 163 l1.toNat)) ∧ ((8 * l1) + (m142 163 l1.toNat)) < 12800) ∧ ∀ m160, m160 = up2 m142 165 ((8 * l1) + (m142 163 l1.toNat)).toNat l4 → (-2147483648 ≤ (m160 163 l1.toNat) + 1 ∧ (m160 163 l1.toNat) + 1 < 2147483648) ∧ ∀ m170, m170 = up2 m160 163 l1.toNat ((m160 163 l1.toNat) + 1) → wp cs mX12_tokens KD Q 171 [some (vR 124), some (vI l1), some (vI l2), some (vI l3), some (vI l4)] [] (KD, m170, n111, (GR d e nw th x))))) 0 (padL [vR 124] 1) [] (KD, MI, ML, (GR d e nw th x))) :
    wp cs mX12_tokens KD Q 110 [some (vR 124), some (vI l1), some (vI l2), some (vI l3), some (vI l4)] [] (KD, MI, ML, (GR d e nw th x)) := by
  refine wp_aload_n dX12_tokens_110 rfl rfl (by first | exact Or.inl (by decide) | exact Or.inl (by omega) | exact Or.inr (by decide) | exact Or.inr (by omega)) ?_
  refine wp_cVq (n := 0) (mt' := mX12_isGood) (as := []) (rest := []) _ dX12_tokens_111 lX12_289 kX12_isGood vX12_isGood (by decide) (by decide +kernel) rfl (Nat.le_of_ble_eq_true rfl) (by decide) rfl rfl rfl (Nat.le_of_ble_eq_true rfl) (fun hM hS => h) (fun r M' hq hM => ?_)
  obtain ⟨x111, m111, n111, rfl, rfl, h⟩ := rI_out hq
  refine wp_if_eq (tgt := 171) dX12_tokens_114 (by decide) (fun h114 => ?_) (fun h114 => ?_)
  · replace h := h.1 h114
    exact h
  · replace h := h.2 h114
    refine wp_aload_n dX12_tokens_117 rfl rfl (by first | exact Or.inl (by decide) | exact Or.inl (by omega) | exact Or.inr (by decide) | exact Or.inr (by omega)) ?_
    refine wp_getR dX12_tokens_118 fX12_134 rfl (by decide) ?_
    refine wp_topR (x' := 164) rfl ?_
    refine wp_bipush dX12_tokens_121 (by decide +kernel) (by decide) ?_
    refine wp_iload_n dX12_tokens_123 rfl rfl ?_
    have c0 := h.1
    replace h := h.2
    refine wp_imulr dX12_tokens_124 c0 ?_
    refine wp_aload_n dX12_tokens_125 rfl rfl (by first | exact Or.inl (by decide) | exact Or.inl (by omega) | exact Or.inr (by decide) | exact Or.inr (by omega)) ?_
    refine wp_getR dX12_tokens_126 fX12_131 rfl (by decide) ?_
    refine wp_topR (x' := 163) rfl ?_
    refine wp_pc (pc' := 129) rfl ?_
    refine wp_iload_n dX12_tokens_129 rfl rfl ?_
    have c1 := h.1
    replace h := h.2
    refine wp_iald dX12_tokens_130 rfl (by decide) c1 ?_
    have c2 := h.1
    replace h := h.2
    refine wp_iaddr dX12_tokens_131 c2 ?_
    refine wp_sipush dX12_tokens_132 (by decide +kernel) (by decide) ?_
    refine wp_aload_n dX12_tokens_135 rfl rfl (by first | exact Or.inl (by decide) | exact Or.inl (by omega) | exact Or.inr (by decide) | exact Or.inr (by omega)) ?_
    refine wp_getI dX12_tokens_136 fX12_328 rfl (by decide) ?_
    have c3 := h.1
    replace h := h.2
    refine wp_imulr dX12_tokens_139 c3 ?_
    refine wp_iload_n dX12_tokens_140 rfl rfl ?_
    refine wp_pc (pc' := 141) rfl ?_
    have c4 := h.1
    replace h := h.2
    refine wp_iaddr dX12_tokens_141 c4 ?_
    have c5 := h.1
    replace h := h.2
    refine wp_iast dX12_tokens_142 rfl (by decide) c5 ?_
    refine wp_gI (fun m142 e142 => ?_)
    replace h := h m142 e142
    refine wp_aload_n dX12_tokens_143 rfl rfl (by first | exact Or.inl (by decide) | exact Or.inl (by omega) | exact Or.inr (by decide) | exact Or.inr (by omega)) ?_
    refine wp_getR dX12_tokens_144 fX12_137 rfl (by decide) ?_
    refine wp_topR (x' := 165) rfl ?_
    refine wp_bipush dX12_tokens_147 (by decide +kernel) (by decide) ?_
    refine wp_iload_n dX12_tokens_149 rfl rfl ?_
    refine wp_imulr dX12_tokens_150 c0 ?_
    refine wp_aload_n dX12_tokens_151 rfl rfl (by first | exact Or.inl (by decide) | exact Or.inl (by omega) | exact Or.inr (by decide) | exact Or.inr (by omega)) ?_
    refine wp_pc (pc' := 152) rfl ?_
    refine wp_getR dX12_tokens_152 fX12_131 rfl (by decide) ?_
    refine wp_topR (x' := 163) rfl ?_
    refine wp_iload_n dX12_tokens_155 rfl rfl ?_
    refine wp_iald dX12_tokens_156 rfl (by decide) c1 ?_
    have c6 := h.1
    replace h := h.2
    refine wp_iaddr dX12_tokens_157 c6 ?_
    refine wp_iload dX12_tokens_158 rfl ?_
    have c7 := h.1
    replace h := h.2
    refine wp_iast dX12_tokens_160 rfl (by decide) c7 ?_
    refine wp_gI (fun m160 e160 => ?_)
    replace h := h m160 e160
    refine wp_aload_n dX12_tokens_161 rfl rfl (by first | exact Or.inl (by decide) | exact Or.inl (by omega) | exact Or.inr (by decide) | exact Or.inr (by omega)) ?_
    refine wp_getR dX12_tokens_162 fX12_131 rfl (by decide) ?_
    refine wp_topR (x' := 163) rfl ?_
    refine wp_pc (pc' := 165) rfl ?_
    refine wp_iload_n dX12_tokens_165 rfl rfl ?_
    refine wp_dup2 dX12_tokens_166 (fun x e => by cases e) (fun x e => by cases e) ?_
    refine wp_iald dX12_tokens_167 rfl (by decide) c1 ?_
    refine wp_iconst dX12_tokens_168 (by decide) ?_
    have c8 := h.1
    replace h := h.2
    refine wp_iaddr dX12_tokens_169 c8 ?_
    refine wp_iast dX12_tokens_170 rfl (by decide) c1 ?_
    refine wp_gI (fun m170 e170 => ?_)
    replace h := h m170 e170
    exact h
theorem v_X12_tokens_171 {cs : Cs} {Q : Option AV → Mm → Prop} {MI ML : Nat → Nat → Int} {d e nw th x : Nat} {l1 l2 l3 l4 : Int}
    (h : wp cs mX12_maybeS KD (rV (GR d e nw th x) fun m172 n172 => wp cs mX12_octet KD (rI (GR d e nw th x) fun x180 m180 n180 => ((x180 = 124 → wp cs mX12_tokens KD Q 193 [some (vR 124), some (vI l1), some (vI l2), some (vI l3), some (vI l4)] [vI 1] (KD, m180, n180, (GR d e nw th x))) ∧ (x180 ≠ 124 → wp cs mX12_tokens KD Q 193 [some (vR 124), some (vI l1), some (vI l2), some (vI l3), some (vI l4)] [vI 0] (KD, m180, n180, (GR d e nw th x))))) 0 (padL [vR 124, vI (m172 124 4)] 2) [] (KD, m172, n172, (GR d e nw th x))) 0 (padL [vR 124] 1) [] (KD, MI, ML, (GR d e nw th x))) :
    wp cs mX12_tokens KD Q 171 [some (vR 124), some (vI l1), some (vI l2), some (vI l3), some (vI l4)] [] (KD, MI, ML, (GR d e nw th x)) := by
  refine wp_aload_n dX12_tokens_171 rfl rfl (by first | exact Or.inl (by decide) | exact Or.inl (by omega) | exact Or.inr (by decide) | exact Or.inr (by omega)) ?_
  refine wp_cVq (n := 0) (mt' := mX12_maybeS) (as := []) (rest := []) _ dX12_tokens_172 lX12_300 kX12_maybeS vX12_maybeS (by decide) (by decide +kernel) rfl (Nat.le_of_ble_eq_true rfl) (by decide) rfl rfl rfl (Nat.le_of_ble_eq_true rfl) (fun hM hS => h) (fun r M' hq hM => ?_)
  obtain ⟨m172, n172, rfl, rfl, h⟩ := rV_out hq
  refine wp_aload_n dX12_tokens_175 rfl rfl (by first | exact Or.inl (by decide) | exact Or.inl (by omega) | exact Or.inr (by decide) | exact Or.inr (by omega)) ?_
  refine wp_aload_n dX12_tokens_176 rfl rfl (by first | exact Or.inl (by decide) | exact Or.inl (by omega) | exact Or.inr (by decide) | exact Or.inr (by omega)) ?_
  refine wp_getI dX12_tokens_177 fX12_276 rfl (by decide) ?_
  refine wp_cVq (n := 1) (mt' := mX12_octet) (as := [vI (m172 124 4)]) (rest := []) _ dX12_tokens_180 lX12_279 kX12_octet vX12_octet (by decide) (by decide +kernel) rfl (Nat.le_of_ble_eq_true rfl) (by decide) rfl rfl rfl (Nat.le_of_ble_eq_true rfl) (fun hM hS => h) (fun r M' hq hM => ?_)
  obtain ⟨x180, m180, n180, rfl, rfl, h⟩ := rI_out hq
  refine wp_bipush dX12_tokens_183 (by decide +kernel) (by decide) ?_
  refine wp_icmp_ne (tgt := 192) dX12_tokens_185 (by decide) (fun h185 => ?_) (fun h185 => ?_)
  · replace h := h.2 h185
    refine wp_iconst dX12_tokens_192 (by decide) ?_
    exact h
  · replace h := h.1 h185
    refine wp_iconst dX12_tokens_188 (by decide) ?_
    refine wp_goto (tgt := 193) dX12_tokens_189 (by decide) ?_
    exact h
theorem v_X12_tokens_193 {cs : Cs} {Q : Option AV → Mm → Prop} {MI ML : Nat → Nat → Int} {d e nw th x : Nat} {l1 l2 l3 l4 s0 : Int}
    (h : wp cs mX12_isGood KD (rI (GR d e nw th x) fun x200 m200 n200 => ((x200 = 0 → ∀ m216, m216 = up2 m200 124 4 (MI 124 4) → wp cs mX12_tokens KD Q 2 [some (vR 124), some (vI l1), some (vI s0), none, none] [] (KD, m216, n200, (GR d e nw th x))) ∧ (x200 ≠ 0 → ((s0 = 0 → ∀ m216, m216 = up2 m200 124 4 (MI 124 4) → wp cs mX12_tokens KD Q 2 [some (vR 124), some (vI l1), some (vI s0), none, none] [] (KD, m216, n200, (GR d e nw th x))) ∧ (s0 ≠ 0 → (-2147483648 ≤ (MI 124 4) + 1 ∧ (MI 124 4) + 1 < 2147483648) ∧ ∀ m216, m216 = up2 m200 124 4 ((MI 124 4) + 1) → wp cs mX12_tokens KD Q 2 [some (vR 124), some (vI l1), some (vI s0), none, none] [] (KD, m216, n200, (GR d e nw th x))))))) 0 (padL [vR 124] 1) [] (KD, MI, ML, (GR d e nw th x))) :
    wp cs mX12_tokens KD Q 193 [some (vR 124), some (vI l1), some (vI l2), some (vI l3), some (vI l4)] [vI s0] (KD, MI, ML, (GR d e nw th x)) := by
  refine wp_istore_n dX12_tokens_193 rfl (by decide) (wp_L (L' := [some (vR 124), some (vI l1), some (vI s0), some (vI l3), some (vI l4)]) rfl ?_)
  refine wp_aload_n dX12_tokens_194 rfl rfl (by first | exact Or.inl (by decide) | exact Or.inl (by omega) | exact Or.inr (by decide) | exact Or.inr (by omega)) ?_
  refine wp_dup dX12_tokens_195 (fun x e => by cases e) ?_
  refine wp_getI dX12_tokens_196 fX12_276 rfl (by decide) ?_
  refine wp_aload_n dX12_tokens_199 rfl rfl (by first | exact Or.inl (by decide) | exact Or.inl (by omega) | exact Or.inr (by decide) | exact Or.inr (by omega)) ?_
  refine wp_cVq (n := 0) (mt' := mX12_isGood) (as := []) (rest := [vI (MI 124 4), vR 124]) _ dX12_tokens_200 lX12_289 kX12_isGood vX12_isGood (by decide) (by decide +kernel) rfl (Nat.le_of_ble_eq_true rfl) (by decide) rfl rfl rfl (Nat.le_of_ble_eq_true rfl) (fun hM hS => h) (fun r M' hq hM => ?_)
  obtain ⟨x200, m200, n200, rfl, rfl, h⟩ := rI_out hq
  refine wp_if_eq (tgt := 214) dX12_tokens_203 (by decide) (fun h203 => ?_) (fun h203 => ?_)
  · replace h := h.1 h203
    refine wp_iconst dX12_tokens_214 (by decide) ?_
    refine wp_ok (fun hM hL hS => ?_)
    have hr := hS _ (List.mem_cons_of_mem _ List.mem_cons_self)
    refine wp_iaddr dX12_tokens_215 (by have := hr; simp only [okV] at this; omega) ?_
    refine wp_topI (x' := (MI 124 4)) (by omega) ?_
    refine wp_putI dX12_tokens_216 pX12_276 rfl (by decide) ?_
    refine wp_gI (fun m216 e216 => ?_)
    replace h := h m216 e216
    refine wp_goto (tgt := 2) dX12_tokens_219 (by decide) ?_
    refine wp_forget (L' := [some (vR 124), some (vI l1), some (vI s0), none, none]) (by repeat' (first | exact trivial | refine ⟨rfl, ?_⟩)) ?_
    exact h
  · replace h := h.2 h203
    refine wp_iload_n dX12_tokens_206 rfl rfl ?_
    refine wp_if_eq (tgt := 214) dX12_tokens_207 (by decide) (fun h207 => ?_) (fun h207 => ?_)
    · replace h := h.1 h207
      refine wp_iconst dX12_tokens_214 (by decide) ?_
      refine wp_ok (fun hM hL hS => ?_)
      have hr := hS _ (List.mem_cons_of_mem _ List.mem_cons_self)
      refine wp_iaddr dX12_tokens_215 (by have := hr; simp only [okV] at this; omega) ?_
      refine wp_topI (x' := (MI 124 4)) (by omega) ?_
      refine wp_putI dX12_tokens_216 pX12_276 rfl (by decide) ?_
      refine wp_gI (fun m216 e216 => ?_)
      replace h := h m216 e216
      refine wp_goto (tgt := 2) dX12_tokens_219 (by decide) ?_
      refine wp_forget (L' := [some (vR 124), some (vI l1), some (vI s0), none, none]) (by repeat' (first | exact trivial | refine ⟨rfl, ?_⟩)) ?_
      exact h
    · replace h := h.2 h207
      refine wp_iconst dX12_tokens_210 (by decide) ?_
      refine wp_goto (tgt := 215) dX12_tokens_211 (by decide) ?_
      have c0 := h.1
      replace h := h.2
      refine wp_iaddr dX12_tokens_215 c0 ?_
      refine wp_putI dX12_tokens_216 pX12_276 rfl (by decide) ?_
      refine wp_gI (fun m216 e216 => ?_)
      replace h := h m216 e216
      refine wp_goto (tgt := 2) dX12_tokens_219 (by decide) ?_
      refine wp_forget (L' := [some (vR 124), some (vI l1), some (vI s0), none, none]) (by repeat' (first | exact trivial | refine ⟨rfl, ?_⟩)) ?_
      exact h
