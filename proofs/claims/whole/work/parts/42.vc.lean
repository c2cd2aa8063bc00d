theorem dX2_readDoctype_0 : decode cX2_readDoctype 0 = .ok (.aload_n 0, 1) := by decide +kernel
theorem dX2_readDoctype_1 : decode cX2_readDoctype 1 = .ok (.getfield 44, 3) := by decide +kernel
theorem dX2_readDoctype_4 : decode cX2_readDoctype 4 = .ok (.ldc 48, 2) := by decide +kernel
theorem dX2_readDoctype_6 : decode cX2_readDoctype 6 = .ok (.invokevirtual 50, 3) := by decide +kernel
theorem dX2_readDoctype_9 : decode cX2_readDoctype 9 = .ok (.ifCond .ne 5, 3) := by decide +kernel
theorem dX2_readDoctype_12 : decode cX2_readDoctype 12 = .ok (.iconst 1, 1) := by decide +kernel
theorem dX2_readDoctype_13 : decode cX2_readDoctype 13 = .ok (.ireturn, 1) := by decide +kernel
theorem dX2_readDoctype_14 : decode cX2_readDoctype 14 = .ok (.aload_n 0, 1) := by decide +kernel
theorem dX2_readDoctype_15 : decode cX2_readDoctype 15 = .ok (.getfield 44, 3) := by decide +kernel
theorem dX2_readDoctype_18 : decode cX2_readDoctype 18 = .ok (.invokevirtual 56, 3) := by decide +kernel
theorem dX2_readDoctype_21 : decode cX2_readDoctype 21 = .ok (.ifCond .eq 13, 3) := by decide +kernel
theorem dX2_readDoctype_24 : decode cX2_readDoctype 24 = .ok (.aload_n 0, 1) := by decide +kernel
theorem dX2_readDoctype_25 : decode cX2_readDoctype 25 = .ok (.getfield 44, 3) := by decide +kernel
theorem dX2_readDoctype_28 : decode cX2_readDoctype 28 = .ok (.invokevirtual 60, 3) := by decide +kernel
theorem dX2_readDoctype_31 : decode cX2_readDoctype 31 = .ok (.ifCond .ne 5, 3) := by decide +kernel
theorem dX2_readDoctype_34 : decode cX2_readDoctype 34 = .ok (.iconst 0, 1) := by decide +kernel
theorem dX2_readDoctype_35 : decode cX2_readDoctype 35 = .ok (.ireturn, 1) := by decide +kernel
theorem dX2_readDoctype_36 : decode cX2_readDoctype 36 = .ok (.aload_n 1, 1) := by decide +kernel
theorem dX2_readDoctype_37 : decode cX2_readDoctype 37 = .ok (.aload_n 1, 1) := by decide +kernel
theorem dX2_readDoctype_38 : decode cX2_readDoctype 38 = .ok (.getfield 63, 3) := by decide +kernel
theorem dX2_readDoctype_41 : decode cX2_readDoctype 41 = .ok (.aload_n 0, 1) := by decide +kernel
theorem dX2_readDoctype_42 : decode cX2_readDoctype 42 = .ok (.getfield 44, 3) := by decide +kernel
theorem dX2_readDoctype_45 : decode cX2_readDoctype 45 = .ok (.invokevirtual 69, 3) := by decide +kernel
theorem dX2_readDoctype_48 : decode cX2_readDoctype 48 = .ok (.putfield 75, 3) := by decide +kernel
theorem dX2_readDoctype_51 : decode cX2_readDoctype 51 = .ok (.aload_n 0, 1) := by decide +kernel
theorem dX2_readDoctype_52 : decode cX2_readDoctype 52 = .ok (.getfield 44, 3) := by decide +kernel
theorem dX2_readDoctype_55 : decode cX2_readDoctype 55 = .ok (.invokevirtual 78, 3) := by decide +kernel
theorem dX2_readDoctype_58 : decode cX2_readDoctype 58 = .ok (.aload_n 0, 1) := by decide +kernel
theorem dX2_readDoctype_59 : decode cX2_readDoctype 59 = .ok (.getfield 44, 3) := by decide +kernel
theorem dX2_readDoctype_62 : decode cX2_readDoctype 62 = .ok (.ldc 81, 2) := by decide +kernel
theorem dX2_readDoctype_64 : decode cX2_readDoctype 64 = .ok (.invokevirtual 83, 3) := by decide +kernel
theorem dX2_readDoctype_67 : decode cX2_readDoctype 67 = .ok (.ifCond .eq 13, 3) := by decide +kernel
theorem dX2_readDoctype_70 : decode cX2_readDoctype 70 = .ok (.aload_n 0, 1) := by decide +kernel
theorem dX2_readDoctype_71 : decode cX2_readDoctype 71 = .ok (.getfield 44, 3) := by decide +kernel
theorem dX2_readDoctype_74 : decode cX2_readDoctype 74 = .ok (.invokevirtual 86, 3) := by decide +kernel
theorem dX2_readDoctype_77 : decode cX2_readDoctype 77 = .ok (.ifCond .ne 5, 3) := by decide +kernel
theorem dX2_readDoctype_80 : decode cX2_readDoctype 80 = .ok (.iconst 0, 1) := by decide +kernel
theorem dX2_readDoctype_81 : decode cX2_readDoctype 81 = .ok (.ireturn, 1) := by decide +kernel
theorem dX2_readDoctype_82 : decode cX2_readDoctype 82 = .ok (.iconst 0, 1) := by decide +kernel
theorem dX2_readDoctype_83 : decode cX2_readDoctype 83 = .ok (.istore_n 2, 1) := by decide +kernel
theorem dX2_readDoctype_84 : decode cX2_readDoctype 84 = .ok (.iload_n 2, 1) := by decide +kernel
theorem dX2_readDoctype_85 : decode cX2_readDoctype 85 = .ok (.aload_n 0, 1) := by decide +kernel
theorem dX2_readDoctype_86 : decode cX2_readDoctype 86 = .ok (.getfield 44, 3) := by decide +kernel
theorem dX2_readDoctype_89 : decode cX2_readDoctype 89 = .ok (.getfield 89, 3) := by decide +kernel
theorem dX2_readDoctype_92 : decode cX2_readDoctype 92 = .ok (.if_icmp .ge 94, 3) := by decide +kernel
theorem dX2_readDoctype_95 : decode cX2_readDoctype 95 = .ok (.aload_n 0, 1) := by decide +kernel
theorem dX2_readDoctype_96 : decode cX2_readDoctype 96 = .ok (.getfield 44, 3) := by decide +kernel
theorem dX2_readDoctype_99 : decode cX2_readDoctype 99 = .ok (.ldc 92, 2) := by decide +kernel
theorem dX2_readDoctype_101 : decode cX2_readDoctype 101 = .ok (.invokevirtual 50, 3) := by decide +kernel
theorem dX2_readDoctype_104 : decode cX2_readDoctype 104 = .ok (.ifCond .ne 82, 3) := by decide +kernel
theorem dX2_readDoctype_107 : decode cX2_readDoctype 107 = .ok (.aload_n 0, 1) := by decide +kernel
theorem dX2_readDoctype_108 : decode cX2_readDoctype 108 = .ok (.getfield 44, 3) := by decide +kernel
theorem dX2_readDoctype_111 : decode cX2_readDoctype 111 = .ok (.getfield 94, 3) := by decide +kernel
theorem dX2_readDoctype_114 : decode cX2_readDoctype 114 = .ok (.istore_n 3, 1) := by decide +kernel
theorem dX2_readDoctype_115 : decode cX2_readDoctype 115 = .ok (.aload_n 0, 1) := by decide +kernel
theorem dX2_readDoctype_116 : decode cX2_readDoctype 116 = .ok (.getfield 44, 3) := by decide +kernel
theorem dX2_readDoctype_119 : decode cX2_readDoctype 119 = .ok (.ldc 97, 2) := by decide +kernel
theorem dX2_readDoctype_121 : decode cX2_readDoctype 121 = .ok (.invokevirtual 50, 3) := by decide +kernel
theorem dX2_readDoctype_124 : decode cX2_readDoctype 124 = .ok (.ifCond .eq 12, 3) := by decide +kernel
theorem dX2_readDoctype_127 : decode cX2_readDoctype 127 = .ok (.aload_n 0, 1) := by decide +kernel
theorem dX2_readDoctype_128 : decode cX2_readDoctype 128 = .ok (.aload_n 1, 1) := by decide +kernel
theorem dX2_readDoctype_129 : decode cX2_readDoctype 129 = .ok (.iload_n 3, 1) := by decide +kernel
theorem dX2_readDoctype_130 : decode cX2_readDoctype 130 = .ok (.invokevirtual 99, 3) := by decide +kernel
theorem dX2_readDoctype_133 : decode cX2_readDoctype 133 = .ok (.goto 28, 3) := by decide +kernel
theorem dX2_readDoctype_136 : decode cX2_readDoctype 136 = .ok (.aload_n 0, 1) := by decide +kernel
theorem dX2_readDoctype_137 : decode cX2_readDoctype 137 = .ok (.getfield 44, 3) := by decide +kernel
theorem dX2_readDoctype_140 : decode cX2_readDoctype 140 = .ok (.ldc 103, 2) := by decide +kernel
theorem dX2_readDoctype_142 : decode cX2_readDoctype 142 = .ok (.invokevirtual 83, 3) := by decide +kernel
theorem dX2_readDoctype_145 : decode cX2_readDoctype 145 = .ok (.ifCond .eq 15, 3) := by decide +kernel
theorem dX2_readDoctype_148 : decode cX2_readDoctype 148 = .ok (.aload_n 0, 1) := by decide +kernel
theorem dX2_readDoctype_149 : decode cX2_readDoctype 149 = .ok (.aload_n 1, 1) := by decide +kernel
theorem dX2_readDoctype_150 : decode cX2_readDoctype 150 = .ok (.invokevirtual 105, 3) := by decide +kernel
theorem dX2_readDoctype_153 : decode cX2_readDoctype 153 = .ok (.ifCond .eq 7, 3) := by decide +kernel
theorem dX2_readDoctype_156 : decode cX2_readDoctype 156 = .ok (.iconst 1, 1) := by decide +kernel
theorem dX2_readDoctype_157 : decode cX2_readDoctype 157 = .ok (.goto 4, 3) := by decide +kernel
theorem dX2_readDoctype_160 : decode cX2_readDoctype 160 = .ok (.iconst 0, 1) := by decide +kernel
theorem dX2_readDoctype_161 : decode cX2_readDoctype 161 = .ok (.istore 4, 2) := by decide +kernel
theorem dX2_readDoctype_163 : decode cX2_readDoctype 163 = .ok (.iload 4, 2) := by decide +kernel
theorem dX2_readDoctype_165 : decode cX2_readDoctype 165 = .ok (.ifCond .eq 13, 3) := by decide +kernel
theorem dX2_readDoctype_168 : decode cX2_readDoctype 168 = .ok (.aload_n 0, 1) := by decide +kernel
theorem dX2_readDoctype_169 : decode cX2_readDoctype 169 = .ok (.getfield 44, 3) := by decide +kernel
theorem dX2_readDoctype_172 : decode cX2_readDoctype 172 = .ok (.invokevirtual 86, 3) := by decide +kernel
theorem dX2_readDoctype_175 : decode cX2_readDoctype 175 = .ok (.ifCond .ne 5, 3) := by decide +kernel
theorem dX2_readDoctype_178 : decode cX2_readDoctype 178 = .ok (.iconst 0, 1) := by decide +kernel
theorem dX2_readDoctype_179 : decode cX2_readDoctype 179 = .ok (.ireturn, 1) := by decide +kernel
theorem dX2_readDoctype_180 : decode cX2_readDoctype 180 = .ok (.iinc 2 1, 3) := by decide +kernel
theorem dX2_readDoctype_183 : decode cX2_readDoctype 183 = .ok (.goto (-99), 3) := by decide +kernel
theorem dX2_readDoctype_186 : decode cX2_readDoctype 186 = .ok (.aload_n 0, 1) := by decide +kernel
theorem dX2_readDoctype_187 : decode cX2_readDoctype 187 = .ok (.getfield 44, 3) := by decide +kernel
theorem dX2_readDoctype_190 : decode cX2_readDoctype 190 = .ok (.invokevirtual 78, 3) := by decide +kernel
theorem dX2_readDoctype_193 : decode cX2_readDoctype 193 = .ok (.aload_n 0, 1) := by decide +kernel
theorem dX2_readDoctype_194 : decode cX2_readDoctype 194 = .ok (.getfield 44, 3) := by decide +kernel
theorem dX2_readDoctype_197 : decode cX2_readDoctype 197 = .ok (.ldc 109, 2) := by decide +kernel
theorem dX2_readDoctype_199 : decode cX2_readDoctype 199 = .ok (.invokevirtual 83, 3) := by decide +kernel
theorem dX2_readDoctype_202 : decode cX2_readDoctype 202 = .ok (.ifCond .eq 17, 3) := by decide +kernel
theorem dX2_readDoctype_205 : decode cX2_readDoctype 205 = .ok (.aload_n 0, 1) := by decide +kernel
theorem dX2_readDoctype_206 : decode cX2_readDoctype 206 = .ok (.getfield 44, 3) := by decide +kernel
theorem dX2_readDoctype_209 : decode cX2_readDoctype 209 = .ok (.invokevirtual 86, 3) := by decide +kernel
theorem dX2_readDoctype_212 : decode cX2_readDoctype 212 = .ok (.ifCond .eq 7, 3) := by decide +kernel
theorem dX2_readDoctype_215 : decode cX2_readDoctype 215 = .ok (.iconst 1, 1) := by decide +kernel
theorem dX2_readDoctype_216 : decode cX2_readDoctype 216 = .ok (.goto 4, 3) := by decide +kernel
theorem dX2_readDoctype_219 : decode cX2_readDoctype 219 = .ok (.iconst 0, 1) := by decide +kernel
theorem dX2_readDoctype_220 : decode cX2_readDoctype 220 = .ok (.ireturn, 1) := by decide +kernel
theorem v_X2_readDoctype_0 {cs : Cs} {Q : Option AV → Mm → Prop} {MI ML : Nat → Nat → Int} {b d e nw th : Nat} (hbd : b = 38 ∨ b = 81)
    (h : wp cs mX1_takeIf KD (rI (GR d e nw th 1) fun x6 m6 n6 => ((x6 = 0 → Q (some (vI 1)) (m6, n6, (GR d e nw th 1))) ∧ (x6 ≠ 0 → wp cs mX1_needSpace KD (rI (GR d e nw th 1) fun x18 m18 n18 => ((x18 = 0 → Q (some (vI 0)) (m18, n18, (GR d e nw th 1))) ∧ (x18 ≠ 0 → wp cs mX1_needName KD (rI (GR d e nw th 1) fun x28 m28 n28 => ((x28 = 0 → Q (some (vI 0)) (m28, n28, (GR d e nw th 1))) ∧ (x28 ≠ 0 → wp cs mX5_keep KD (rI (GR d e nw th 1) fun x45 m45 n45 => ∀ m48, m48 = up2 m45 b 17 x45 → wp cs mX1_skipSpace KD (rV (GR d e nw th 1) fun m55 n55 => wp cs mX1_take KD (rI (GR d e nw th 1) fun x64 m64 n64 => ((x64 = 0 → Q (some (vI 0)) (m64, n64, (GR d e nw th 1))) ∧ (x64 ≠ 0 → wp cs mX1_skipComments KD (rI (GR d e nw th 1) fun x74 m74 n74 => ((x74 = 0 → Q (some (vI 0)) (m74, n74, (GR d e nw th 1))) ∧ (x74 ≠ 0 → wp cs mX2_readDoctype KD Q 84 [some (vR 4), some (vR b), some (vI 0), none, none] [] (KD, m74, n74, (GR d e nw th 1))))) 0 (padL [vR 2] 2) [] (KD, m64, n64, (GR d e nw th 1))))) 0 (padL [vR 2, vR 1000007] 2) [] (KD, m55, n55, (GR d e nw th 1))) 0 (padL [vR 2] 1) [] (KD, m48, n45, (GR d e nw th 1))) 0 (padL [vR (b + 1), vR 2] 5) [] (KD, m28, n28, (GR d e nw th 1))))) 0 (padL [vR 2] 1) [] (KD, m18, n18, (GR d e nw th 1))))) 0 (padL [vR 2] 1) [] (KD, m6, n6, (GR d e nw th 1))))) 0 (padL [vR 2, vR 1000006] 4) [] (KD, MI, ML, (GR d e nw th 1))) :
    wp cs mX2_readDoctype KD Q 0 (padL [vR 4, vR b] 5) [] (KD, MI, ML, (GR d e nw th 1)) := by
  refine wp_L (L' := [some (vR 4), some (vR b), none, none, none]) rfl ?_
  refine wp_aload_n dX2_readDoctype_0 rfl rfl (by first | exact Or.inl (by decide) | exact Or.inl (by omega) | exact Or.inr (by decide) | exact Or.inr (by omega)) ?_
  refine wp_getR dX2_readDoctype_1 fX2_44 rfl (by decide) ?_
  refine wp_topR (x' := 2) rfl ?_
  refine wp_ldcS (k := 3) dX2_readDoctype_4 cX2_48 ?_
  refine wp_cVq (n := 1) (mt' := mX1_takeIf) (as := [vR 1000006]) (rest := []) _ dX2_readDoctype_6 lX2_50 kX1_takeIf vX1_takeIf (by decide) (by decide +kernel) rfl (Nat.le_of_ble_eq_true rfl) (by decide) rfl rfl rfl (Nat.le_of_ble_eq_true rfl) (fun hM hS => h) (fun r M' hq hM => ?_)
  obtain ⟨x6, m6, n6, rfl, rfl, h⟩ := rI_out hq
  refine wp_if_ne (tgt := 14) dX2_readDoctype_9 (by decide) (fun h9 => ?_) (fun h9 => ?_)
  · replace h := h.2 h9
    refine wp_aload_n dX2_readDoctype_14 rfl rfl (by first | exact Or.inl (by decide) | exact Or.inl (by omega) | exact Or.inr (by decide) | exact Or.inr (by omega)) ?_
    refine wp_getR dX2_readDoctype_15 fX2_44 rfl (by decide) ?_
    refine wp_topR (x' := 2) rfl ?_
    refine wp_cVq (n := 0) (mt' := mX1_needSpace) (as := []) (rest := []) _ dX2_readDoctype_18 lX2_56 kX1_needSpace vX1_needSpace (by decide) (by decide +kernel) rfl (Nat.le_of_ble_eq_true rfl) (by decide) rfl rfl rfl (Nat.le_of_ble_eq_true rfl) (fun hM hS => h) (fun r M' hq hM => ?_)
    obtain ⟨x18, m18, n18, rfl, rfl, h⟩ := rI_out hq
    refine wp_if_eq (tgt := 34) dX2_readDoctype_21 (by decide) (fun h21 => ?_) (fun h21 => ?_)
    · replace h := h.1 h21
      refine wp_iconst dX2_readDoctype_34 (by decide) ?_
      exact wp_zret dX2_readDoctype_35 rfl (by decide) (fun _ => h)
    · replace h := h.2 h21
      refine wp_aload_n dX2_readDoctype_24 rfl rfl (by first | exact Or.inl (by decide) | exact Or.inl (by omega) | exact Or.inr (by decide) | exact Or.inr (by omega)) ?_
      refine wp_getR dX2_readDoctype_25 fX2_44 rfl (by decide) ?_
      refine wp_topR (x' := 2) rfl ?_
      refine wp_cVq (n := 0) (mt' := mX1_needName) (as := []) (rest := []) _ dX2_readDoctype_28 lX2_60 kX1_needName vX1_needName (by decide) (by decide +kernel) rfl (Nat.le_of_ble_eq_true rfl) (by decide) rfl rfl rfl (Nat.le_of_ble_eq_true rfl) (fun hM hS => h) (fun r M' hq hM => ?_)
      obtain ⟨x28, m28, n28, rfl, rfl, h⟩ := rI_out hq
      refine wp_if_ne (tgt := 36) dX2_readDoctype_31 (by decide) (fun h31 => ?_) (fun h31 => ?_)
      · replace h := h.2 h31
        refine wp_aload_n dX2_readDoctype_36 rfl rfl (by first | exact Or.inl (by decide) | exact Or.inl (by omega) | exact Or.inr (by decide) | exact Or.inr (by omega)) ?_
        refine wp_aload_n dX2_readDoctype_37 rfl rfl (by first | exact Or.inl (by decide) | exact Or.inl (by omega) | exact Or.inr (by decide) | exact Or.inr (by omega)) ?_
        refine wp_getR dX2_readDoctype_38 fX2_63 (show KD[b]? = some (7, 19) from kdb_0 hbd) (by omega) ?_
        refine wp_topR (x' := (b + 1)) (grb_0_0 hbd) ?_
        refine wp_aload_n dX2_readDoctype_41 rfl rfl (by first | exact Or.inl (by decide) | exact Or.inl (by omega) | exact Or.inr (by decide) | exact Or.inr (by omega)) ?_
        refine wp_getR dX2_readDoctype_42 fX2_44 rfl (by decide) ?_
        refine wp_topR (x' := 2) rfl ?_
        refine wp_cVq (n := 1) (mt' := mX5_keep) (as := [vR 2]) (rest := [vR b]) _ dX2_readDoctype_45 lX2_69 kX5_keep vX5_keep (by decide) (by decide +kernel) rfl (Nat.le_of_ble_eq_true rfl) (by omega) (kdb_1 hbd) rfl rfl (Nat.le_of_ble_eq_true rfl) (fun hM hS => h) (fun r M' hq hM => ?_)
        obtain ⟨x45, m45, n45, rfl, rfl, h⟩ := rI_out hq
        refine wp_putI dX2_readDoctype_48 pX2_75 (show KD[b]? = some (7, 19) from kdb_0 hbd) (by omega) ?_
        refine wp_gI (fun m48 e48 => ?_)
        replace h := h m48 e48
        refine wp_aload_n dX2_readDoctype_51 rfl rfl (by first | exact Or.inl (by decide) | exact Or.inl (by omega) | exact Or.inr (by decide) | exact Or.inr (by omega)) ?_
        refine wp_getR dX2_readDoctype_52 fX2_44 rfl (by decide) ?_
        refine wp_topR (x' := 2) rfl ?_
        refine wp_cVq (n := 0) (mt' := mX1_skipSpace) (as := []) (rest := []) _ dX2_readDoctype_55 lX2_78 kX1_skipSpace vX1_skipSpace (by decide) (by decide +kernel) rfl (Nat.le_of_ble_eq_true rfl) (by decide) rfl rfl rfl (Nat.le_of_ble_eq_true rfl) (fun hM hS => h) (fun r M' hq hM => ?_)
        obtain ⟨m55, n55, rfl, rfl, h⟩ := rV_out hq
        refine wp_aload_n dX2_readDoctype_58 rfl rfl (by first | exact Or.inl (by decide) | exact Or.inl (by omega) | exact Or.inr (by decide) | exact Or.inr (by omega)) ?_
        refine wp_getR dX2_readDoctype_59 fX2_44 rfl (by decide) ?_
        refine wp_topR (x' := 2) rfl ?_
        refine wp_ldcS (k := 4) dX2_readDoctype_62 cX2_81 ?_
        refine wp_cVq (n := 1) (mt' := mX1_take) (as := [vR 1000007]) (rest := []) _ dX2_readDoctype_64 lX2_83 kX1_take vX1_take (by decide) (by decide +kernel) rfl (Nat.le_of_ble_eq_true rfl) (by decide) rfl rfl rfl (Nat.le_of_ble_eq_true rfl) (fun hM hS => h) (fun r M' hq hM => ?_)
        obtain ⟨x64, m64, n64, rfl, rfl, h⟩ := rI_out hq
        refine wp_if_eq (tgt := 80) dX2_readDoctype_67 (by decide) (fun h67 => ?_) (fun h67 => ?_)
        · replace h := h.1 h67
          refine wp_iconst dX2_readDoctype_80 (by decide) ?_
          exact wp_zret dX2_readDoctype_81 rfl (by decide) (fun _ => h)
        · replace h := h.2 h67
          refine wp_aload_n dX2_readDoctype_70 rfl rfl (by first | exact Or.inl (by decide) | exact Or.inl (by omega) | exact Or.inr (by decide) | exact Or.inr (by omega)) ?_
          refine wp_getR dX2_readDoctype_71 fX2_44 rfl (by decide) ?_
          refine wp_topR (x' := 2) rfl ?_
          refine wp_cVq (n := 0) (mt' := mX1_skipComments) (as := []) (rest := []) _ dX2_readDoctype_74 lX2_86 kX1_skipComments vX1_skipComments (by decide) (by decide +kernel) rfl (Nat.le_of_ble_eq_true rfl) (by decide) rfl rfl rfl (Nat.le_of_ble_eq_true rfl) (fun hM hS => h) (fun r M' hq hM => ?_)
          obtain ⟨x74, m74, n74, rfl, rfl, h⟩ := rI_out hq
          refine wp_if_ne (tgt := 82) dX2_readDoctype_77 (by decide) (fun h77 => ?_) (fun h77 => ?_)
          · replace h := h.2 h77
            refine wp_iconst dX2_readDoctype_82 (by decide) ?_
            refine wp_istore_n dX2_readDoctype_83 rfl (by decide) (wp_L (L' := [some (vR 4), some (vR b), some (vI 0), none, none]) rfl ?_)
            exact h
          · replace h := h.1 h77
            refine wp_iconst dX2_readDoctype_80 (by decide) ?_
            exact wp_zret dX2_readDoctype_81 rfl (by decide) (fun _ => h)
      · replace h := h.1 h31
        refine wp_iconst dX2_readDoctype_34 (by decide) ?_
        exact wp_zret dX2_readDoctype_35 rfl (by decide) (fun _ => h)
  · replace h := h.1 h9
    refine wp_iconst dX2_readDoctype_12 (by decide) ?_
    exact wp_zret dX2_readDoctype_13 rfl (by decide) (fun _ => h)
theorem v_X2_readDoctype_84 {cs : Cs} {Q : Option AV → Mm → Prop} {MI ML : Nat → Nat → Int} {b d e nw th : Nat} {l2 : Int} (hbd : b = 38 ∨ b = 81)
    (h : ((l2 < (MI 2 1) → wp cs mX1_takeIf KD (rI (GR d e nw th 1) fun x101 m101 n101 => ((x101 = 0 → wp cs mX1_takeIf KD (rI (GR d e nw th 1) fun x121 m121 n121 => ((x121 = 0 → wp cs mX1_take KD (rI (GR d e nw th 1) fun x142 m142 n142 => ((x142 = 0 → wp cs mX2_readDoctype KD Q 161 [some (vR 4), some (vR b), some (vI l2), some (vI (m101 2 2)), none] [vI 0] (KD, m142, n142, (GR d e nw th 1))) ∧ (x142 ≠ 0 → wp cs mX2_readAttlist KD (rI (GR d e nw th 1) fun x150 m150 n150 => ((x150 = 0 → wp cs mX2_readDoctype KD Q 161 [some (vR 4), some (vR b), some (vI l2), some (vI (m101 2 2)), none] [vI 0] (KD, m150, n150, (GR d e nw th 1))) ∧ (x150 ≠ 0 → wp cs mX2_readDoctype KD Q 161 [some (vR 4), some (vR b), some (vI l2), some (vI (m101 2 2)), none] [vI 1] (KD, m150, n150, (GR d e nw th 1))))) 0 (padL [vR 4, vR b] 8) [] (KD, m142, n142, (GR d e nw th 1))))) 0 (padL [vR 2, vR 1000019] 2) [] (KD, m121, n121, (GR d e nw th 1))) ∧ (x121 ≠ 0 → wp cs mX2_readElement KD (rI (GR d e nw th 1) fun x130 m130 n130 => wp cs mX2_readDoctype KD Q 161 [some (vR 4), some (vR b), some (vI l2), some (vI (m101 2 2)), none] [vI x130] (KD, m130, n130, (GR d e nw th 1))) 0 (padL [vR 4, vR b, vI (m101 2 2)] 7) [] (KD, m121, n121, (GR d e nw th 1))))) 0 (padL [vR 2, vR 1000009] 4) [] (KD, m101, n101, (GR d e nw th 1))) ∧ (x101 ≠ 0 → wp cs mX1_skipSpace KD (rV (GR d e nw th 1) fun m190 n190 => wp cs mX1_take KD (rI (GR d e nw th 1) fun x199 m199 n199 => ((x199 = 0 → Q (some (vI 0)) (m199, n199, (GR d e nw th 1))) ∧ (x199 ≠ 0 → wp cs mX1_skipComments KD (rI (GR d e nw th 1) fun x209 m209 n209 => ((x209 = 0 → Q (some (vI 0)) (m209, n209, (GR d e nw th 1))) ∧ (x209 ≠ 0 → Q (some (vI 1)) (m209, n209, (GR d e nw th 1))))) 0 (padL [vR 2] 2) [] (KD, m199, n199, (GR d e nw th 1))))) 0 (padL [vR 2, vR 1000005] 2) [] (KD, m190, n190, (GR d e nw th 1))) 0 (padL [vR 2] 1) [] (KD, m101, n101, (GR d e nw th 1))))) 0 (padL [vR 2, vR 1000008] 4) [] (KD, MI, ML, (GR d e nw th 1))) ∧ ((MI 2 1) ≤ l2 → wp cs mX1_skipSpace KD (rV (GR d e nw th 1) fun m190 n190 => wp cs mX1_take KD (rI (GR d e nw th 1) fun x199 m199 n199 => ((x199 = 0 → Q (some (vI 0)) (m199, n199, (GR d e nw th 1))) ∧ (x199 ≠ 0 → wp cs mX1_skipComments KD (rI (GR d e nw th 1) fun x209 m209 n209 => ((x209 = 0 → Q (some (vI 0)) (m209, n209, (GR d e nw th 1))) ∧ (x209 ≠ 0 → Q (some (vI 1)) (m209, n209, (GR d e nw th 1))))) 0 (padL [vR 2] 2) [] (KD, m199, n199, (GR d e nw th 1))))) 0 (padL [vR 2, vR 1000005] 2) [] (KD, m190, n190, (GR d e nw th 1))) 0 (padL [vR 2] 1) [] (KD, MI, ML, (GR d e nw th 1))))) :
    wp cs mX2_readDoctype KD Q 84 [some (vR 4), some (vR b), some (vI l2), none, none] [] (KD, MI, ML, (GR d e nw th 1)) := by
  refine wp_iload_n dX2_readDoctype_84 rfl rfl ?_
  refine wp_aload_n dX2_readDoctype_85 rfl rfl (by first | exact Or.inl (by decide) | exact Or.inl (by omega) | exact Or.inr (by decide) | exact Or.inr (by omega)) ?_
  refine wp_getR dX2_readDoctype_86 fX2_44 rfl (by decide) ?_
  refine wp_topR (x' := 2) rfl ?_
  refine wp_getI dX2_readDoctype_89 fX2_89 rfl (by decide) ?_
  refine wp_icmp_ge (tgt := 186) dX2_readDoctype_92 (by decide) (fun h92 => ?_) (fun h92 => ?_)
  · replace h := h.2 h92
    refine wp_aload_n dX2_readDoctype_186 rfl rfl (by first | exact Or.inl (by decide) | exact Or.inl (by omega) | exact Or.inr (by decide) | exact Or.inr (by omega)) ?_
    refine wp_getR dX2_readDoctype_187 fX2_44 rfl (by decide) ?_
    refine wp_topR (x' := 2) rfl ?_
    refine wp_cVq (n := 0) (mt' := mX1_skipSpace) (as := []) (rest := []) _ dX2_readDoctype_190 lX2_78 kX1_skipSpace vX1_skipSpace (by decide) (by decide +kernel) rfl (Nat.le_of_ble_eq_true rfl) (by decide) rfl rfl rfl (Nat.le_of_ble_eq_true rfl) (fun hM hS => h) (fun r M' hq hM => ?_)
    obtain ⟨m190, n190, rfl, rfl, h⟩ := rV_out hq
    refine wp_aload_n dX2_readDoctype_193 rfl rfl (by first | exact Or.inl (by decide) | exact Or.inl (by omega) | exact Or.inr (by decide) | exact Or.inr (by omega)) ?_
    refine wp_getR dX2_readDoctype_194 fX2_44 rfl (by decide) ?_
    refine wp_topR (x' := 2) rfl ?_
    refine wp_ldcS (k := 2) dX2_readDoctype_197 cX2_109 ?_
    refine wp_cVq (n := 1) (mt' := mX1_take) (as := [vR 1000005]) (rest := []) _ dX2_readDoctype_199 lX2_83 kX1_take vX1_take (by decide) (by decide +kernel) rfl (Nat.le_of_ble_eq_true rfl) (by decide) rfl rfl rfl (Nat.le_of_ble_eq_true rfl) (fun hM hS => h) (fun r M' hq hM => ?_)
    obtain ⟨x199, m199, n199, rfl, rfl, h⟩ := rI_out hq
    refine wp_if_eq (tgt := 219) dX2_readDoctype_202 (by decide) (fun h202 => ?_) (fun h202 => ?_)
    · replace h := h.1 h202
      refine wp_iconst dX2_readDoctype_219 (by decide) ?_
      exact wp_zret dX2_readDoctype_220 rfl (by decide) (fun _ => h)
    · replace h := h.2 h202
      refine wp_aload_n dX2_readDoctype_205 rfl rfl (by first | exact Or.inl (by decide) | exact Or.inl (by omega) | exact Or.inr (by decide) | exact Or.inr (by omega)) ?_
      refine wp_getR dX2_readDoctype_206 fX2_44 rfl (by decide) ?_
      refine wp_topR (x' := 2) rfl ?_
      refine wp_cVq (n := 0) (mt' := mX1_skipComments) (as := []) (rest := []) _ dX2_readDoctype_209 lX2_86 kX1_skipComments vX1_skipComments (by decide) (by decide +kernel) rfl (Nat.le_of_ble_eq_true rfl) (by decide) rfl rfl rfl (Nat.le_of_ble_eq_true rfl) (fun hM hS => h) (fun r M' hq hM => ?_)
      obtain ⟨x209, m209, n209, rfl, rfl, h⟩ := rI_out hq
      refine wp_if_eq (tgt := 219) dX2_readDoctype_212 (by decide) (fun h212 => ?_) (fun h212 => ?_)
      · replace h := h.1 h212
        refine wp_iconst dX2_readDoctype_219 (by decide) ?_
        exact wp_zret dX2_readDoctype_220 rfl (by decide) (fun _ => h)
      · replace h := h.2 h212
        refine wp_iconst dX2_readDoctype_215 (by decide) ?_
        refine wp_goto (tgt := 220) dX2_readDoctype_216 (by decide) ?_
        exact wp_zret dX2_readDoctype_220 rfl (by decide) (fun _ => h)
  · replace h := h.1 h92
    refine wp_aload_n dX2_readDoctype_95 rfl rfl (by first | exact Or.inl (by decide) | exact Or.inl (by omega) | exact Or.inr (by decide) | exact Or.inr (by omega)) ?_
    refine wp_getR dX2_readDoctype_96 fX2_44 rfl (by decide) ?_
    refine wp_topR (x' := 2) rfl ?_
    refine wp_ldcS (k := 5) dX2_readDoctype_99 cX2_92 ?_
    refine wp_cVq (n := 1) (mt' := mX1_takeIf) (as := [vR 1000008]) (rest := []) _ dX2_readDoctype_101 lX2_50 kX1_takeIf vX1_takeIf (by decide) (by decide +kernel) rfl (Nat.le_of_ble_eq_true rfl) (by decide) rfl rfl rfl (Nat.le_of_ble_eq_true rfl) (fun hM hS => h) (fun r M' hq hM => ?_)
    obtain ⟨x101, m101, n101, rfl, rfl, h⟩ := rI_out hq
    refine wp_if_ne (tgt := 186) dX2_readDoctype_104 (by decide) (fun h104 => ?_) (fun h104 => ?_)
    · replace h := h.2 h104
      refine wp_aload_n dX2_readDoctype_186 rfl rfl (by first | exact Or.inl (by decide) | exact Or.inl (by omega) | exact Or.inr (by decide) | exact Or.inr (by omega)) ?_
      refine wp_getR dX2_readDoctype_187 fX2_44 rfl (by decide) ?_
      refine wp_topR (x' := 2) rfl ?_
      refine wp_cVq (n := 0) (mt' := mX1_skipSpace) (as := []) (rest := []) _ dX2_readDoctype_190 lX2_78 kX1_skipSpace vX1_skipSpace (by decide) (by decide +kernel) rfl (Nat.le_of_ble_eq_true rfl) (by decide) rfl rfl rfl (Nat.le_of_ble_eq_true rfl) (fun hM hS => h) (fun r M' hq hM => ?_)
      obtain ⟨m190, n190, rfl, rfl, h⟩ := rV_out hq
      refine wp_aload_n dX2_readDoctype_193 rfl rfl (by first | exact Or.inl (by decide) | exact Or.inl (by omega) | exact Or.inr (by decide) | exact Or.inr (by omega)) ?_
      refine wp_getR dX2_readDoctype_194 fX2_44 rfl (by decide) ?_
      refine wp_topR (x' := 2) rfl ?_
      refine wp_ldcS (k := 2) dX2_readDoctype_197 cX2_109 ?_
      refine wp_cVq (n := 1) (mt' := mX1_take) (as := [vR 1000005]) (rest := []) _ dX2_readDoctype_199 lX2_83 kX1_take vX1_take (by decide) (by decide +kernel) rfl (Nat.le_of_ble_eq_true rfl) (by decide) rfl rfl rfl (Nat.le_of_ble_eq_true rfl) (fun hM hS => h) (fun r M' hq hM => ?_)
      obtain ⟨x199, m199, n199, rfl, rfl, h⟩ := rI_out hq
      refine wp_if_eq (tgt := 219) dX2_readDoctype_202 (by decide) (fun h202 => ?_) (fun h202 => ?_)
      · replace h := h.1 h202
        refine wp_iconst dX2_readDoctype_219 (by decide) ?_
        exact wp_zret dX2_readDoctype_220 rfl (by decide) (fun _ => h)
      · replace h := h.2 h202
        refine wp_aload_n dX2_readDoctype_205 rfl rfl (by first | exact Or.inl (by decide) | exact Or.inl (by omega) | exact Or.inr (by decide) | exact Or.inr (by omega)) ?_
        refine wp_getR dX2_readDoctype_206 fX2_44 rfl (by decide) ?_
        refine wp_topR (x' := 2) rfl ?_
        refine wp_cVq (n := 0) (mt' := mX1_skipComments) (as := []) (rest := []) _ dX2_readDoctype_209 lX2_86 kX1_skipComments vX1_skipComments (by decide) (by decide +kernel) rfl (Nat.le_of_ble_eq_true rfl) (by decide) rfl rfl rfl (Nat.le_of_ble_eq_true rfl) (fun hM hS => h) (fun r M' hq hM => ?_)
        obtain ⟨x209, m209, n209, rfl, rfl, h⟩ := rI_out hq
        refine wp_if_eq (tgt := 219) dX2_readDoctype_212 (by decide) (fun h212 => ?_) (fun h212 => ?_)
        · replace h := h.1 h212
          refine wp_iconst dX2_readDoctype_219 (by decide) ?_
          exact wp_zret dX2_readDoctype_220 rfl (by decide) (fun _ => h)
        · replace h := h.2 h212
          refine wp_iconst dX2_readDoctype_215 (by decide) ?_
          refine wp_goto (tgt := 220) dX2_readDoctype_216 (by decide) ?_
          exact wp_zret dX2_readDoctype_220 rfl (by decide) (fun _ => h)
    · replace h := h.1 h104
      refine wp_aload_n dX2_readDoctype_107 rfl rfl (by first | exact Or.inl (by decide) | exact Or.inl (by omega) | exact Or.inr (by decide) | exact Or.inr (by omega)) ?_
      refine wp_getR dX2_readDoctype_108 fX2_44 rfl (by decide) ?_
      refine wp_topR (x' := 2) rfl ?_
      refine wp_getI dX2_readDoctype_111 fX2_94 rfl (by decide) ?_
      refine wp_istore_n dX2_readDoctype_114 rfl (by decide) (wp_L (L' := [some (vR 4), some (vR b), some (vI l2), some (vI (m101 2 2)), none]) rfl ?_)
      refine wp_aload_n dX2_readDoctype_115 rfl rfl (by first | exact Or.inl (by decide) | exact Or.inl (by omega) | exact Or.inr (by decide) | exact Or.inr (by omega)) ?_
      refine wp_getR dX2_readDoctype_116 fX2_44 rfl (by decide) ?_
      refine wp_topR (x' := 2) rfl ?_
      refine wp_ldcS (k := 6) dX2_readDoctype_119 cX2_97 ?_
      refine wp_pc (pc' := 121) rfl ?_
      refine wp_cVq (n := 1) (mt' := mX1_takeIf) (as := [vR 1000009]) (rest := []) _ dX2_readDoctype_121 lX2_50 kX1_takeIf vX1_takeIf (by decide) (by decide +kernel) rfl (Nat.le_of_ble_eq_true rfl) (by decide) rfl rfl rfl (Nat.le_of_ble_eq_true rfl) (fun hM hS => h) (fun r M' hq hM => ?_)
      obtain ⟨x121, m121, n121, rfl, rfl, h⟩ := rI_out hq
      refine wp_if_eq (tgt := 136) dX2_readDoctype_124 (by decide) (fun h124 => ?_) (fun h124 => ?_)
      · replace h := h.1 h124
        refine wp_aload_n dX2_readDoctype_136 rfl rfl (by first | exact Or.inl (by decide) | exact Or.inl (by omega) | exact Or.inr (by decide) | exact Or.inr (by omega)) ?_
        refine wp_getR dX2_readDoctype_137 fX2_44 rfl (by decide) ?_
        refine wp_topR (x' := 2) rfl ?_
        refine wp_ldcS (k := 16) dX2_readDoctype_140 cX2_103 ?_
        refine wp_cVq (n := 1) (mt' := mX1_take) (as := [vR 1000019]) (rest := []) _ dX2_readDoctype_142 lX2_83 kX1_take vX1_take (by decide) (by decide +kernel) rfl (Nat.le_of_ble_eq_true rfl) (by decide) rfl rfl rfl (Nat.le_of_ble_eq_true rfl) (fun hM hS => h) (fun r M' hq hM => ?_)
        obtain ⟨x142, m142, n142, rfl, rfl, h⟩ := rI_out hq
        refine wp_if_eq (tgt := 160) dX2_readDoctype_145 (by decide) (fun h145 => ?_) (fun h145 => ?_)
        · replace h := h.1 h145
          refine wp_iconst dX2_readDoctype_160 (by decide) ?_
          exact h
        · replace h := h.2 h145
          refine wp_aload_n dX2_readDoctype_148 rfl rfl (by first | exact Or.inl (by decide) | exact Or.inl (by omega) | exact Or.inr (by decide) | exact Or.inr (by omega)) ?_
          refine wp_aload_n dX2_readDoctype_149 rfl rfl (by first | exact Or.inl (by decide) | exact Or.inl (by omega) | exact Or.inr (by decide) | exact Or.inr (by omega)) ?_
          refine wp_cVq (n := 1) (mt' := mX2_readAttlist) (as := [vR b]) (rest := []) _ dX2_readDoctype_150 lX2_105 kX2_readAttlist vX2_readAttlist (by decide) (by decide +kernel) rfl (Nat.le_of_ble_eq_true rfl) (by decide) rfl rfl rfl (Nat.le_of_ble_eq_true rfl) (fun hM hS => h) (fun r M' hq hM => ?_)
          obtain ⟨x150, m150, n150, rfl, rfl, h⟩ := rI_out hq
          refine wp_if_eq (tgt := 160) dX2_readDoctype_153 (by decide) (fun h153 => ?_) (fun h153 => ?_)
          · replace h := h.1 h153
            refine wp_iconst dX2_readDoctype_160 (by decide) ?_
            exact h
          · replace h := h.2 h153
            refine wp_iconst dX2_readDoctype_156 (by decide) ?_
            refine wp_goto (tgt := 161) dX2_readDoctype_157 (by decide) ?_
            exact h
      · replace h := h.2 h124
        refine wp_aload_n dX2_readDoctype_127 rfl rfl (by first | exact Or.inl (by decide) | exact Or.inl (by omega) | exact Or.inr (by decide) | exact Or.inr (by omega)) ?_
        refine wp_aload_n dX2_readDoctype_128 rfl rfl (by first | exact Or.inl (by decide) | exact Or.inl (by omega) | exact Or.inr (by decide) | exact Or.inr (by omega)) ?_
        refine wp_iload_n dX2_readDoctype_129 rfl rfl ?_
        refine wp_cVq (n := 2) (mt' := mX2_readElement) (as := [vR b, vI (m101 2 2)]) (rest := []) _ dX2_readDoctype_130 lX2_99 kX2_readElement vX2_readElement (by decide) (by decide +kernel) rfl (Nat.le_of_ble_eq_true rfl) (by decide) rfl rfl rfl (Nat.le_of_ble_eq_true rfl) (fun hM hS => h) (fun r M' hq hM => ?_)
        obtain ⟨x130, m130, n130, rfl, rfl, h⟩ := rI_out hq
        refine wp_goto (tgt := 161) dX2_readDoctype_133 (by decide) ?_
        exact h
theorem v_X2_readDoctype_161 {cs : Cs} {Q : Option AV → Mm → Prop} {MI ML : Nat → Nat → Int} {b d e nw th : Nat} {l2 l3 s0 : Int} (hbd : b = 38 ∨ b = 81)
    (h : ((s0 = 0 → Q (some (vI 0)) (MI, ML, (GR d e nw th 1))) ∧ (s0 ≠ 0 → wp cs mX1_skipComments KD (rI (GR d e nw th 1) fun x172 m172 n172 => ((x172 = 0 → Q (some (vI 0)) (m172, n172, (GR d e nw th 1))) ∧ (x172 ≠ 0 → (-2147483648 ≤ l2 + 1 ∧ l2 + 1 < 2147483648) ∧ wp cs mX2_readDoctype KD Q 84 [some (vR 4), some (vR b), some (vI (l2 + 1)), none, none] [] (KD, m172, n172, (GR d e nw th 1))))) 0 (padL [vR 2] 2) [] (KD, MI, ML, (GR d e nw th 1))))) :
    wp cs mX2_readDoctype KD Q 161 [some (vR 4), some (vR b), some (vI l2), some (vI l3), none] [vI s0] (KD, MI, ML, (GR d e nw th 1)) := by
  refine wp_istore dX2_readDoctype_161 (by decide) (wp_L (L' := [some (vR 4), some (vR b), some (vI l2), some (vI l3), some (vI s0)]) rfl ?_)
  refine wp_iload dX2_readDoctype_163 rfl ?_
  refine wp_if_eq (tgt := 178) dX2_readDoctype_165 (by decide) (fun h165 => ?_) (fun h165 => ?_)
  · replace h := h.1 h165
    refine wp_iconst dX2_readDoctype_178 (by decide) ?_
    exact wp_zret dX2_readDoctype_179 rfl (by decide) (fun _ => h)
  · replace h := h.2 h165
    refine wp_aload_n dX2_readDoctype_168 rfl rfl (by first | exact Or.inl (by decide) | exact Or.inl (by omega) | exact Or.inr (by decide) | exact Or.inr (by omega)) ?_
    refine wp_getR dX2_readDoctype_169 fX2_44 rfl (by decide) ?_
    refine wp_topR (x' := 2) rfl ?_
    refine wp_cVq (n := 0) (mt' := mX1_skipComments) (as := []) (rest := []) _ dX2_readDoctype_172 lX2_86 kX1_skipComments vX1_skipComments (by decide) (by decide +kernel) rfl (Nat.le_of_ble_eq_true rfl) (by decide) rfl rfl rfl (Nat.le_of_ble_eq_true rfl) (fun hM hS => h) (fun r M' hq hM => ?_)
    obtain ⟨x172, m172, n172, rfl, rfl, h⟩ := rI_out hq
    refine wp_if_ne (tgt := 180) dX2_readDoctype_175 (by decide) (fun h175 => ?_) (fun h175 => ?_)
    · replace h := h.2 h175
      have c0 := h.1
      replace h := h.2
      refine wp_iincr dX2_readDoctype_180 rfl (by decide) c0 (wp_L (L' := [some (vR 4), some (vR b), some (vI (l2 + 1)), some (vI l3), some (vI s0)]) rfl ?_)
      refine wp_goto (tgt := 84) dX2_readDoctype_183 (by decide) ?_
      refine wp_forget (L' := [some (vR 4), some (vR b), some (vI (l2 + 1)), none, none]) (by repeat' (first | exact trivial | refine ⟨rfl, ?_⟩)) ?_
      exact h
    · replace h := h.1 h175
      refine wp_iconst dX2_readDoctype_178 (by decide) ?_
      exact wp_zret dX2_readDoctype_179 rfl (by decide) (fun _ => h)
theorem dX3_countIn_0 : decode cX3_countIn 0 = .ok (.iload_n 2, 1) := by decide +kernel
theorem dX3_countIn_1 : decode cX3_countIn 1 = .ok (.iconst 2, 1) := by decide +kernel
theorem dX3_countIn_2 : decode cX3_countIn 2 = .ok (.if_icmp .ne 16, 3) := by decide +kernel
theorem dX3_countIn_5 : decode cX3_countIn 5 = .ok (.aload_n 0, 1) := by decide +kernel
theorem dX3_countIn_6 : decode cX3_countIn 6 = .ok (.getfield 42, 3) := by decide +kernel
theorem dX3_countIn_9 : decode cX3_countIn 9 = .ok (.iload_n 1, 1) := by decide +kernel
theorem dX3_countIn_10 : decode cX3_countIn 10 = .ok (.dup2, 1) := by decide +kernel
theorem dX3_countIn_11 : decode cX3_countIn 11 = .ok (.iaload, 1) := by decide +kernel
theorem dX3_countIn_12 : decode cX3_countIn 12 = .ok (.iconst 1, 1) := by decide +kernel
theorem dX3_countIn_13 : decode cX3_countIn 13 = .ok (.iadd, 1) := by decide +kernel
theorem dX3_countIn_14 : decode cX3_countIn 14 = .ok (.iastore, 1) := by decide +kernel
theorem dX3_countIn_15 : decode cX3_countIn 15 = .ok (.goto 13, 3) := by decide +kernel
theorem dX3_countIn_18 : decode cX3_countIn 18 = .ok (.aload_n 0, 1) := by decide +kernel
theorem dX3_countIn_19 : decode cX3_countIn 19 = .ok (.getfield 45, 3) := by decide +kernel
theorem dX3_countIn_22 : decode cX3_countIn 22 = .ok (.iload_n 1, 1) := by decide +kernel
theorem dX3_countIn_23 : decode cX3_countIn 23 = .ok (.dup2, 1) := by decide +kernel
theorem dX3_countIn_24 : decode cX3_countIn 24 = .ok (.iaload, 1) := by decide +kernel
theorem dX3_countIn_25 : decode cX3_countIn 25 = .ok (.iconst 1, 1) := by decide +kernel
theorem dX3_countIn_26 : decode cX3_countIn 26 = .ok (.iadd, 1) := by decide +kernel
theorem dX3_countIn_27 : decode cX3_countIn 27 = .ok (.iastore, 1) := by decide +kernel
theorem dX3_countIn_28 : decode cX3_countIn 28 = .ok (.return_, 1) := by decide +kernel
theorem v_X3_countIn_0 {cs : Cs} {Q : Option AV → Mm → Prop} {MI ML : Nat → Nat → Int} {b d e nw th x : Nat} {l1 l2 : Int} (hbd : b = 38 ∨ b = 81)
    (h : ((l2 = 2 → (0 ≤ l1 ∧ l1 < 600) ∧ (-2147483648 ≤ (MI (b + 35) l1.toNat) + 1 ∧ (MI (b + 35) l1.toNat) + 1 < 2147483648) ∧ ∀ m14, m14 = up2 MI (b + 35) l1.toNat ((MI (b + 35) l1.toNat) + 1) → Q none (m14, ML, (GR d e nw th x))) ∧ (l2 ≠ 2 → (0 ≤ l1 ∧ l1 < 600) ∧ (-2147483648 ≤ (MI (b + 36) l1.toNat) + 1 ∧ (MI (b + 36) l1.toNat) + 1 < 2147483648) ∧ ∀ m27, m27 = up2 MI (b + 36) l1.toNat ((MI (b + 36) l1.toNat) + 1) → Q none (m27, ML, (GR d e nw th x))))) :
    wp cs mX3_countIn KD Q 0 (padL [vR b, vI l1, vI l2] 3) [] (KD, MI, ML, (GR d e nw th x)) := by
  refine wp_L (L' := [some (vR b), some (vI l1), some (vI l2)]) rfl ?_
  refine wp_iload_n dX3_countIn_0 rfl rfl ?_
  refine wp_iconst dX3_countIn_1 (by decide) ?_
  refine wp_icmp_ne (tgt := 18) dX3_countIn_2 (by decide) (fun h2 => ?_) (fun h2 => ?_)
  · replace h := h.2 h2
    refine wp_aload_n dX3_countIn_18 rfl rfl (by first | exact Or.inl (by decide) | exact Or.inl (by omega) | exact Or.inr (by decide) | exact Or.inr (by omega)) ?_
    refine wp_getR dX3_countIn_19 fX3_45 (show KD[b]? = some (7, 19) from kdb_0 hbd) (by omega) ?_
    refine wp_topR (x' := (b + 36)) (grb_0_7 hbd) ?_
    refine wp_iload_n dX3_countIn_22 rfl rfl ?_
    refine wp_dup2 dX3_countIn_23 (fun x e => by cases e) (fun x e => by cases e) ?_
    have c0 := h.1
    replace h := h.2
    refine wp_iald dX3_countIn_24 (kdb_36 hbd) (by omega) c0 ?_
    refine wp_iconst dX3_countIn_25 (by decide) ?_
    have c1 := h.1
    replace h := h.2
    refine wp_iaddr dX3_countIn_26 c1 ?_
    refine wp_pc (pc' := 27) rfl ?_
    refine wp_iast dX3_countIn_27 (kdb_36 hbd) (by omega) c0 ?_
    refine wp_gI (fun m27 e27 => ?_)
    replace h := h m27 e27
    exact wp_vret dX3_countIn_28 rfl (fun _ => h)
  · replace h := h.1 h2
    refine wp_aload_n dX3_countIn_5 rfl rfl (by first | exact Or.inl (by decide) | exact Or.inl (by omega) | exact Or.inr (by decide) | exact Or.inr (by omega)) ?_
    refine wp_getR dX3_countIn_6 fX3_42 (show KD[b]? = some (7, 19) from kdb_0 hbd) (by omega) ?_
    refine wp_topR (x' := (b + 35)) (grb_0_6 hbd) ?_
    refine wp_iload_n dX3_countIn_9 rfl rfl ?_
    refine wp_dup2 dX3_countIn_10 (fun x e => by cases e) (fun x e => by cases e) ?_
    have c0 := h.1
    replace h := h.2
    refine wp_iald dX3_countIn_11 (kdb_35 hbd) (by omega) c0 ?_
    refine wp_iconst dX3_countIn_12 (by decide) ?_
    have c1 := h.1
    replace h := h.2
    refine wp_iaddr dX3_countIn_13 c1 ?_
    refine wp_pc (pc' := 14) rfl ?_
    refine wp_iast dX3_countIn_14 (kdb_35 hbd) (by omega) c0 ?_
    refine wp_gI (fun m14 e14 => ?_)
    replace h := h m14 e14
    refine wp_goto (tgt := 28) dX3_countIn_15 (by decide) ?_
    exact wp_vret dX3_countIn_28 rfl (fun _ => h)
theorem dX3_add_0 : decode cX3_add 0 = .ok (.aload_n 0, 1) := by decide +kernel
theorem dX3_add_1 : decode cX3_add 1 = .ok (.getfield 74, 3) := by decide +kernel
theorem dX3_add_4 : decode cX3_add 4 = .ok (.sipush 600, 3) := by decide +kernel
theorem dX3_add_7 : decode cX3_add 7 = .ok (.if_icmp .lt 5, 3) := by decide +kernel
theorem dX3_add_10 : decode cX3_add 10 = .ok (.iconst (-1), 1) := by decide +kernel
theorem dX3_add_11 : decode cX3_add 11 = .ok (.ireturn, 1) := by decide +kernel
theorem dX3_add_12 : decode cX3_add 12 = .ok (.aload_n 0, 1) := by decide +kernel
theorem dX3_add_13 : decode cX3_add 13 = .ok (.getfield 74, 3) := by decide +kernel
theorem dX3_add_16 : decode cX3_add 16 = .ok (.istore 4, 2) := by decide +kernel
theorem dX3_add_18 : decode cX3_add 18 = .ok (.iload_n 1, 1) := by decide +kernel
theorem dX3_add_19 : decode cX3_add 19 = .ok (.iconst 2, 1) := by decide +kernel
theorem dX3_add_20 : decode cX3_add 20 = .ok (.if_icmp .ne 10, 3) := by decide +kernel
theorem dX3_add_23 : decode cX3_add 23 = .ok (.aload_n 0, 1) := by decide +kernel
theorem dX3_add_24 : decode cX3_add 24 = .ok (.getfield 67, 3) := by decide +kernel
theorem dX3_add_27 : decode cX3_add 27 = .ok (.goto 7, 3) := by decide +kernel
theorem dX3_add_30 : decode cX3_add 30 = .ok (.aload_n 0, 1) := by decide +kernel
theorem dX3_add_31 : decode cX3_add 31 = .ok (.getfield 71, 3) := by decide +kernel
theorem dX3_add_34 : decode cX3_add 34 = .ok (.istore 5, 2) := by decide +kernel
theorem dX3_add_36 : decode cX3_add 36 = .ok (.aload_n 0, 1) := by decide +kernel
theorem dX3_add_37 : decode cX3_add 37 = .ok (.getfield 32, 3) := by decide +kernel
theorem dX3_add_40 : decode cX3_add 40 = .ok (.iload 4, 2) := by decide +kernel
theorem dX3_add_42 : decode cX3_add 42 = .ok (.iload_n 1, 1) := by decide +kernel
theorem dX3_add_43 : decode cX3_add 43 = .ok (.iastore, 1) := by decide +kernel
theorem dX3_add_44 : decode cX3_add 44 = .ok (.aload_n 0, 1) := by decide +kernel
theorem dX3_add_45 : decode cX3_add 45 = .ok (.getfield 36, 3) := by decide +kernel
theorem dX3_add_48 : decode cX3_add 48 = .ok (.iload 4, 2) := by decide +kernel
theorem dX3_add_50 : decode cX3_add 50 = .ok (.iload_n 2, 1) := by decide +kernel
theorem dX3_add_51 : decode cX3_add 51 = .ok (.iastore, 1) := by decide +kernel
theorem dX3_add_52 : decode cX3_add 52 = .ok (.aload_n 0, 1) := by decide +kernel
theorem dX3_add_53 : decode cX3_add 53 = .ok (.getfield 39, 3) := by decide +kernel
theorem dX3_add_56 : decode cX3_add 56 = .ok (.iload 4, 2) := by decide +kernel
theorem dX3_add_58 : decode cX3_add 58 = .ok (.iload_n 3, 1) := by decide +kernel
theorem dX3_add_59 : decode cX3_add 59 = .ok (.iastore, 1) := by decide +kernel
theorem dX3_add_60 : decode cX3_add 60 = .ok (.aload_n 0, 1) := by decide +kernel
theorem dX3_add_61 : decode cX3_add 61 = .ok (.getfield 42, 3) := by decide +kernel
theorem dX3_add_64 : decode cX3_add 64 = .ok (.iload 4, 2) := by decide +kernel
theorem dX3_add_66 : decode cX3_add 66 = .ok (.iconst 0, 1) := by decide +kernel
theorem dX3_add_67 : decode cX3_add 67 = .ok (.iastore, 1) := by decide +kernel
theorem dX3_add_68 : decode cX3_add 68 = .ok (.aload_n 0, 1) := by decide +kernel
theorem dX3_add_69 : decode cX3_add 69 = .ok (.getfield 45, 3) := by decide +kernel
theorem dX3_add_72 : decode cX3_add 72 = .ok (.iload 4, 2) := by decide +kernel
theorem dX3_add_74 : decode cX3_add 74 = .ok (.iconst 0, 1) := by decide +kernel
theorem dX3_add_75 : decode cX3_add 75 = .ok (.iastore, 1) := by decide +kernel
theorem dX3_add_76 : decode cX3_add 76 = .ok (.aload_n 0, 1) := by decide +kernel
theorem dX3_add_77 : decode cX3_add 77 = .ok (.getfield 48, 3) := by decide +kernel
theorem dX3_add_80 : decode cX3_add 80 = .ok (.iload 4, 2) := by decide +kernel
theorem dX3_add_82 : decode cX3_add 82 = .ok (.iconst 0, 1) := by decide +kernel
theorem dX3_add_83 : decode cX3_add 83 = .ok (.iastore, 1) := by decide +kernel
theorem dX3_add_84 : decode cX3_add 84 = .ok (.aload_n 0, 1) := by decide +kernel
theorem dX3_add_85 : decode cX3_add 85 = .ok (.getfield 51, 3) := by decide +kernel
theorem dX3_add_88 : decode cX3_add 88 = .ok (.iload 4, 2) := by decide +kernel
theorem dX3_add_90 : decode cX3_add 90 = .ok (.iload 4, 2) := by decide +kernel
theorem dX3_add_92 : decode cX3_add 92 = .ok (.iconst 1, 1) := by decide +kernel
theorem dX3_add_93 : decode cX3_add 93 = .ok (.iadd, 1) := by decide +kernel
theorem dX3_add_94 : decode cX3_add 94 = .ok (.iastore, 1) := by decide +kernel
theorem dX3_add_95 : decode cX3_add 95 = .ok (.aload_n 0, 1) := by decide +kernel
theorem dX3_add_96 : decode cX3_add 96 = .ok (.getfield 54, 3) := by decide +kernel
theorem dX3_add_99 : decode cX3_add 99 = .ok (.iload 4, 2) := by decide +kernel
theorem dX3_add_101 : decode cX3_add 101 = .ok (.iload 5, 2) := by decide +kernel
theorem dX3_add_103 : decode cX3_add 103 = .ok (.iastore, 1) := by decide +kernel
theorem dX3_add_104 : decode cX3_add 104 = .ok (.aload_n 0, 1) := by decide +kernel
theorem dX3_add_105 : decode cX3_add 105 = .ok (.getfield 57, 3) := by decide +kernel
theorem dX3_add_108 : decode cX3_add 108 = .ok (.iload 4, 2) := by decide +kernel
theorem dX3_add_110 : decode cX3_add 110 = .ok (.iload 5, 2) := by decide +kernel
theorem dX3_add_112 : decode cX3_add 112 = .ok (.iastore, 1) := by decide +kernel
theorem dX3_add_113 : decode cX3_add 113 = .ok (.aload_n 0, 1) := by decide +kernel
theorem dX3_add_114 : decode cX3_add 114 = .ok (.dup, 1) := by decide +kernel
theorem dX3_add_115 : decode cX3_add 115 = .ok (.getfield 74, 3) := by decide +kernel
theorem dX3_add_118 : decode cX3_add 118 = .ok (.iconst 1, 1) := by decide +kernel
theorem dX3_add_119 : decode cX3_add 119 = .ok (.iadd, 1) := by decide +kernel
theorem dX3_add_120 : decode cX3_add 120 = .ok (.putfield 74, 3) := by decide +kernel
theorem dX3_add_123 : decode cX3_add 123 = .ok (.aload_n 0, 1) := by decide +kernel
theorem dX3_add_124 : decode cX3_add 124 = .ok (.iload_n 2, 1) := by decide +kernel
theorem dX3_add_125 : decode cX3_add 125 = .ok (.invokevirtual 90, 3) := by decide +kernel
theorem dX3_add_128 : decode cX3_add 128 = .ok (.ifCond .eq 9, 3) := by decide +kernel
theorem dX3_add_131 : decode cX3_add 131 = .ok (.aload_n 0, 1) := by decide +kernel
theorem dX3_add_132 : decode cX3_add 132 = .ok (.iload_n 2, 1) := by decide +kernel
theorem dX3_add_133 : decode cX3_add 133 = .ok (.iload_n 1, 1) := by decide +kernel
theorem dX3_add_134 : decode cX3_add 134 = .ok (.invokevirtual 94, 3) := by decide +kernel
theorem dX3_add_137 : decode cX3_add 137 = .ok (.iload 4, 2) := by decide +kernel
theorem dX3_add_139 : decode cX3_add 139 = .ok (.ireturn, 1) := by decide +kernel
theorem v_X3_add_0 {cs : Cs} {Q : Option AV → Mm → Prop} {MI ML : Nat → Nat → Int} {b d e nw th x : Nat} {l1 l2 l3 : Int} (hbd : b = 38 ∨ b = 81)
    (h : (((MI b 16) < 600 → ((l1 = 2 → wp cs mX3_add KD Q 34 [some (vR b), some (vI l1), some (vI l2), some (vI l3), some (vI (MI b 16)), none] [vI (MI b 14)] (KD, MI, ML, (GR d e nw th x))) ∧ (l1 ≠ 2 → wp cs mX3_add KD Q 34 [some (vR b), some (vI l1), some (vI l2), some (vI l3), some (vI (MI b 16)), none] [vI (MI b 15)] (KD, MI, ML, (GR d e nw th x))))) ∧ (600 ≤ (MI b 16) → Q (some (vI (-1))) (MI, ML, (GR d e nw th x))))) :
    wp cs mX3_add KD Q 0 (padL [vR b, vI l1, vI l2, vI l3] 6) [] (KD, MI, ML, (GR d e nw th x)) := by
  refine wp_L (L' := [some (vR b), some (vI l1), some (vI l2), some (vI l3), none, none]) rfl ?_
  refine wp_aload_n dX3_add_0 rfl rfl (by first | exact Or.inl (by decide) | exact Or.inl (by omega) | exact Or.inr (by decide) | exact Or.inr (by omega)) ?_
  refine wp_getI dX3_add_1 fX3_74 (show KD[b]? = some (7, 19) from kdb_0 hbd) (by omega) ?_
  refine wp_sipush dX3_add_4 (by decide +kernel) (by decide) ?_
  refine wp_icmp_lt (tgt := 12) dX3_add_7 (by decide) (fun h7 => ?_) (fun h7 => ?_)
  · replace h := h.1 h7
    refine wp_aload_n dX3_add_12 rfl rfl (by first | exact Or.inl (by decide) | exact Or.inl (by omega) | exact Or.inr (by decide) | exact Or.inr (by omega)) ?_
    refine wp_getI dX3_add_13 fX3_74 (show KD[b]? = some (7, 19) from kdb_0 hbd) (by omega) ?_
    refine wp_istore dX3_add_16 (by decide) (wp_L (L' := [some (vR b), some (vI l1), some (vI l2), some (vI l3), some (vI (MI b 16)), none]) rfl ?_)
    refine wp_iload_n dX3_add_18 rfl rfl ?_
    refine wp_iconst dX3_add_19 (by decide) ?_
    refine wp_icmp_ne (tgt := 30) dX3_add_20 (by decide) (fun h20 => ?_) (fun h20 => ?_)
    · replace h := h.2 h20
      refine wp_aload_n dX3_add_30 rfl rfl (by first | exact Or.inl (by decide) | exact Or.inl (by omega) | exact Or.inr (by decide) | exact Or.inr (by omega)) ?_
      refine wp_getI dX3_add_31 fX3_71 (show KD[b]? = some (7, 19) from kdb_0 hbd) (by omega) ?_
      exact h
    · replace h := h.1 h20
      refine wp_aload_n dX3_add_23 rfl rfl (by first | exact Or.inl (by decide) | exact Or.inl (by omega) | exact Or.inr (by decide) | exact Or.inr (by omega)) ?_
      refine wp_getI dX3_add_24 fX3_67 (show KD[b]? = some (7, 19) from kdb_0 hbd) (by omega) ?_
      refine wp_goto (tgt := 34) dX3_add_27 (by decide) ?_
      exact h
  · replace h := h.2 h7
    refine wp_iconst dX3_add_10 (by decide) ?_
    exact wp_iret dX3_add_11 rfl (fun _ => h)
theorem v_X3_add_34 {cs : Cs} {Q : Option AV → Mm → Prop} {MI ML : Nat → Nat → Int} {b d e nw th x : Nat} {l1 l2 l3 l4 s0 : Int} (hbd : b = 38 ∨ b = 81)
    (h : (0 ≤ l4 ∧ l4 < 600) ∧ ∀ m43, m43 = up2 MI (b + 32) l4.toNat l1 → ∀ m51, m51 = up2 m43 (b + 33) l4.toNat l2 → ∀ m59, m59 = up2 m51 (b + 34) l4.toNat l3 → ∀ m67, m67 = up2 m59 (b + 35) l4.toNat 0 → ∀ m75, m75 = up2 m67 (b + 36) l4.toNat 0 → ∀ m83, m83 = up2 m75 (b + 37) l4.toNat 0 → (-2147483648 ≤ l4 + 1 ∧ l4 + 1 < 2147483648) ∧ ∀ m94, m94 = up2 m83 (b + 38) l4.toNat (l4 + 1) → ∀ m103, m103 = up2 m94 (b + 39) l4.toNat s0 → ∀ m112, m112 = up2 m103 (b + 40) l4.toNat s0 → (-2147483648 ≤ (m112 b 16) + 1 ∧ (m112 b 16) + 1 < 2147483648) ∧ ∀ m120, m120 = up2 m112 b 16 ((m112 b 16) + 1) → wp cs mX3_has KD (rI (GR d e nw th x) fun x125 m125 n125 => ((x125 = 0 → Q (some (vI l4)) (m125, n125, (GR d e nw th x))) ∧ (x125 ≠ 0 → wp cs mX3_countIn KD (rV (GR d e nw th x) fun m134 n134 => Q (some (vI l4)) (m134, n134, (GR d e nw th x))) 0 (padL [vR b, vI l2, vI l1] 3) [] (KD, m125, n125, (GR d e nw th x))))) 0 (padL [vR b, vI l2] 2) [] (KD, m120, ML, (GR d e nw th x))) :
    wp cs mX3_add KD Q 34 [some (vR b), some (vI l1), some (vI l2), some (vI l3), some (vI l4), none] [vI s0] (KD, MI, ML, (GR d e nw th x)) := by
  refine wp_istore dX3_add_34 (by decide) (wp_L (L' := [some (vR b), some (vI l1), some (vI l2), some (vI l3), some (vI l4), some (vI s0)]) rfl ?_)
  refine wp_aload_n dX3_add_36 rfl rfl (by first | exact Or.inl (by decide) | exact Or.inl (by omega) | exact Or.inr (by decide) | exact Or.inr (by omega)) ?_
  refine wp_getR dX3_add_37 fX3_32 (show KD[b]? = some (7, 19) from kdb_0 hbd) (by omega) ?_
  refine wp_topR (x' := (b + 32)) (grb_0_3 hbd) ?_
  refine wp_iload dX3_add_40 rfl ?_
  refine wp_iload_n dX3_add_42 rfl rfl ?_
  have c0 := h.1
  replace h := h.2
  refine wp_iast dX3_add_43 (kdb_32 hbd) (by omega) c0 ?_
  refine wp_gI (fun m43 e43 => ?_)
  replace h := h m43 e43
  refine wp_aload_n dX3_add_44 rfl rfl (by first | exact Or.inl (by decide) | exact Or.inl (by omega) | exact Or.inr (by decide) | exact Or.inr (by omega)) ?_
  refine wp_pc (pc' := 45) rfl ?_
  refine wp_getR dX3_add_45 fX3_36 (show KD[b]? = some (7, 19) from kdb_0 hbd) (by omega) ?_
  refine wp_topR (x' := (b + 33)) (grb_0_4 hbd) ?_
  refine wp_iload dX3_add_48 rfl ?_
  refine wp_iload_n dX3_add_50 rfl rfl ?_
  refine wp_iast dX3_add_51 (kdb_33 hbd) (by omega) c0 ?_
  refine wp_gI (fun m51 e51 => ?_)
  replace h := h m51 e51
  refine wp_aload_n dX3_add_52 rfl rfl (by first | exact Or.inl (by decide) | exact Or.inl (by omega) | exact Or.inr (by decide) | exact Or.inr (by omega)) ?_
  refine wp_getR dX3_add_53 fX3_39 (show KD[b]? = some (7, 19) from kdb_0 hbd) (by omega) ?_
  refine wp_topR (x' := (b + 34)) (grb_0_5 hbd) ?_
  refine wp_iload dX3_add_56 rfl ?_
  refine wp_iload_n dX3_add_58 rfl rfl ?_
  refine wp_pc (pc' := 59) rfl ?_
  refine wp_iast dX3_add_59 (kdb_34 hbd) (by omega) c0 ?_
  refine wp_gI (fun m59 e59 => ?_)
  replace h := h m59 e59
  refine wp_aload_n dX3_add_60 rfl rfl (by first | exact Or.inl (by decide) | exact Or.inl (by omega) | exact Or.inr (by decide) | exact Or.inr (by omega)) ?_
  refine wp_getR dX3_add_61 fX3_42 (show KD[b]? = some (7, 19) from kdb_0 hbd) (by omega) ?_
  refine wp_topR (x' := (b + 35)) (grb_0_6 hbd) ?_
  refine wp_iload dX3_add_64 rfl ?_
  refine wp_iconst dX3_add_66 (by decide) ?_
  refine wp_iast dX3_add_67 (kdb_35 hbd) (by omega) c0 ?_
  refine wp_gI (fun m67 e67 => ?_)
  replace h := h m67 e67
  refine wp_aload_n dX3_add_68 rfl rfl (by first | exact Or.inl (by decide) | exact Or.inl (by omega) | exact Or.inr (by decide) | exact Or.inr (by omega)) ?_
  refine wp_getR dX3_add_69 fX3_45 (show KD[b]? = some (7, 19) from kdb_0 hbd) (by omega) ?_
  refine wp_topR (x' := (b + 36)) (grb_0_7 hbd) ?_
  refine wp_pc (pc' := 72) rfl ?_
  refine wp_iload dX3_add_72 rfl ?_
  refine wp_iconst dX3_add_74 (by decide) ?_
  refine wp_iast dX3_add_75 (kdb_36 hbd) (by omega) c0 ?_
  refine wp_gI (fun m75 e75 => ?_)
  replace h := h m75 e75
  refine wp_aload_n dX3_add_76 rfl rfl (by first | exact Or.inl (by decide) | exact Or.inl (by omega) | exact Or.inr (by decide) | exact Or.inr (by omega)) ?_
  refine wp_getR dX3_add_77 fX3_48 (show KD[b]? = some (7, 19) from kdb_0 hbd) (by omega) ?_
  refine wp_topR (x' := (b + 37)) (grb_0_8 hbd) ?_
  refine wp_iload dX3_add_80 rfl ?_
  refine wp_iconst dX3_add_82 (by decide) ?_
  refine wp_iast dX3_add_83 (kdb_37 hbd) (by omega) c0 ?_
  refine wp_gI (fun m83 e83 => ?_)
  replace h := h m83 e83
  refine wp_pc (pc' := 84) rfl ?_
  refine wp_aload_n dX3_add_84 rfl rfl (by first | exact Or.inl (by decide) | exact Or.inl (by omega) | exact Or.inr (by decide) | exact Or.inr (by omega)) ?_
  refine wp_getR dX3_add_85 fX3_51 (show KD[b]? = some (7, 19) from kdb_0 hbd) (by omega) ?_
  refine wp_topR (x' := (b + 38)) (grb_0_9 hbd) ?_
  refine wp_iload dX3_add_88 rfl ?_
  refine wp_iload dX3_add_90 rfl ?_
  refine wp_iconst dX3_add_92 (by decide) ?_
  have c1 := h.1
  replace h := h.2
  refine wp_iaddr dX3_add_93 c1 ?_
  refine wp_iast dX3_add_94 (kdb_38 hbd) (by omega) c0 ?_
  refine wp_gI (fun m94 e94 => ?_)
  replace h := h m94 e94
  refine wp_aload_n dX3_add_95 rfl rfl (by first | exact Or.inl (by decide) | exact Or.inl (by omega) | exact Or.inr (by decide) | exact Or.inr (by omega)) ?_
  refine wp_pc (pc' := 96) rfl ?_
  refine wp_getR dX3_add_96 fX3_54 (show KD[b]? = some (7, 19) from kdb_0 hbd) (by omega) ?_
  refine wp_topR (x' := (b + 39)) (grb_0_10 hbd) ?_
  refine wp_iload dX3_add_99 rfl ?_
  refine wp_iload dX3_add_101 rfl ?_
  refine wp_iast dX3_add_103 (kdb_39 hbd) (by omega) c0 ?_
  refine wp_gI (fun m103 e103 => ?_)
  replace h := h m103 e103
  refine wp_aload_n dX3_add_104 rfl rfl (by first | exact Or.inl (by decide) | exact Or.inl (by omega) | exact Or.inr (by decide) | exact Or.inr (by omega)) ?_
  refine wp_getR dX3_add_105 fX3_57 (show KD[b]? = some (7, 19) from kdb_0 hbd) (by omega) ?_
  refine wp_topR (x' := (b + 40)) (grb_0_11 hbd) ?_
  refine wp_iload dX3_add_108 rfl ?_
  refine wp_iload dX3_add_110 rfl ?_
  refine wp_pc (pc' := 112) rfl ?_
  refine wp_iast dX3_add_112 (kdb_40 hbd) (by omega) c0 ?_
  refine wp_gI (fun m112 e112 => ?_)
  replace h := h m112 e112
  refine wp_aload_n dX3_add_113 rfl rfl (by first | exact Or.inl (by decide) | exact Or.inl (by omega) | exact Or.inr (by decide) | exact Or.inr (by omega)) ?_
  refine wp_dup dX3_add_114 (fun x e => by cases e) ?_
  refine wp_getI dX3_add_115 fX3_74 (show KD[b]? = some (7, 19) from kdb_0 hbd) (by omega) ?_
  refine wp_iconst dX3_add_118 (by decide) ?_
  have c2 := h.1
  replace h := h.2
  refine wp_iaddr dX3_add_119 c2 ?_
  refine wp_putI dX3_add_120 pX3_74 (show KD[b]? = some (7, 19) from kdb_0 hbd) (by omega) ?_
  refine wp_gI (fun m120 e120 => ?_)
  replace h := h m120 e120
  refine wp_aload_n dX3_add_123 rfl rfl (by first | exact Or.inl (by decide) | exact Or.inl (by omega) | exact Or.inr (by decide) | exact Or.inr (by omega)) ?_
  refine wp_pc (pc' := 124) rfl ?_
  refine wp_iload_n dX3_add_124 rfl rfl ?_
  refine wp_cVq (n := 1) (mt' := mX3_has) (as := [vI l2]) (rest := []) _ dX3_add_125 lX3_90 kX3_has vX3_has (by decide) (by decide +kernel) rfl (Nat.le_of_ble_eq_true rfl) (by omega) (show KD[b]? = some (7, 19) from kdb_0 hbd) rfl rfl (Nat.le_of_ble_eq_true rfl) (fun hM hS => h) (fun r M' hq hM => ?_)
  obtain ⟨x125, m125, n125, rfl, rfl, h⟩ := rI_out hq
  refine wp_if_eq (tgt := 137) dX3_add_128 (by decide) (fun h128 => ?_) (fun h128 => ?_)
  · replace h := h.1 h128
    refine wp_iload dX3_add_137 rfl ?_
    exact wp_iret dX3_add_139 rfl (fun _ => h)
  · replace h := h.2 h128
    refine wp_aload_n dX3_add_131 rfl rfl (by first | exact Or.inl (by decide) | exact Or.inl (by omega) | exact Or.inr (by decide) | exact Or.inr (by omega)) ?_
    refine wp_iload_n dX3_add_132 rfl rfl ?_
    refine wp_iload_n dX3_add_133 rfl rfl ?_
    refine wp_cVq (n := 2) (mt' := mX3_countIn) (as := [vI l2, vI l1]) (rest := []) _ dX3_add_134 lX3_94 kX3_countIn vX3_countIn (by decide) (by decide +kernel) rfl (Nat.le_of_ble_eq_true rfl) (by omega) (show KD[b]? = some (7, 19) from kdb_0 hbd) rfl rfl (Nat.le_of_ble_eq_true rfl) (fun hM hS => h) (fun r M' hq hM => ?_)
    obtain ⟨m134, n134, rfl, rfl, h⟩ := rV_out hq
    refine wp_iload dX3_add_137 rfl ?_
    exact wp_iret dX3_add_139 rfl (fun _ => h)
theorem dX10_addAttribute_0 : decode cX10_addAttribute 0 = .ok (.aload_n 1, 1) := by decide +kernel
theorem dX10_addAttribute_1 : decode cX10_addAttribute 1 = .ok (.getfield 135, 3) := by decide +kernel
theorem dX10_addAttribute_4 : decode cX10_addAttribute 4 = .ok (.aload_n 0, 1) := by decide +kernel
theorem dX10_addAttribute_5 : decode cX10_addAttribute 5 = .ok (.getfield 9, 3) := by decide +kernel
theorem dX10_addAttribute_8 : decode cX10_addAttribute 8 = .ok (.iaload, 1) := by decide +kernel
theorem dX10_addAttribute_9 : decode cX10_addAttribute 9 = .ok (.bipush 8, 2) := by decide +kernel
theorem dX10_addAttribute_11 : decode cX10_addAttribute 11 = .ok (.if_icmp .ge 16, 3) := by decide +kernel
theorem dX10_addAttribute_14 : decode cX10_addAttribute 14 = .ok (.aload_n 1, 1) := by decide +kernel
theorem dX10_addAttribute_15 : decode cX10_addAttribute 15 = .ok (.iconst 2, 1) := by decide +kernel
theorem dX10_addAttribute_16 : decode cX10_addAttribute 16 = .ok (.aload_n 0, 1) := by decide +kernel
theorem dX10_addAttribute_17 : decode cX10_addAttribute 17 = .ok (.getfield 9, 3) := by decide +kernel
theorem dX10_addAttribute_20 : decode cX10_addAttribute 20 = .ok (.iload_n 2, 1) := by decide +kernel
theorem dX10_addAttribute_21 : decode cX10_addAttribute 21 = .ok (.invokevirtual 22, 3) := by decide +kernel
theorem dX10_addAttribute_24 : decode cX10_addAttribute 24 = .ok (.goto 4, 3) := by decide +kernel
theorem dX10_addAttribute_27 : decode cX10_addAttribute 27 = .ok (.iconst (-1), 1) := by decide +kernel
theorem dX10_addAttribute_28 : decode cX10_addAttribute 28 = .ok (.ireturn, 1) := by decide +kernel
theorem v_X10_addAttribute_0 {cs : Cs} {Q : Option AV → Mm → Prop} {MI ML : Nat → Nat → Int} {b d e nw th : Nat} {l2 : Int} (hbd : b = 38 ∨ b = 81)
    (h : (0 ≤ (MI 10 1) ∧ (MI 10 1) < 600) ∧ (((MI (b + 35) (MI 10 1).toNat) < 8 → wp cs mX3_add KD (rI (GR d e nw th 1) fun x21 m21 n21 => Q (some (vI x21)) (m21, n21, (GR d e nw th 1))) 0 (padL [vR b, vI 2, vI (MI 10 1), vI l2] 6) [] (KD, MI, ML, (GR d e nw th 1))) ∧ (8 ≤ (MI (b + 35) (MI 10 1).toNat) → Q (some (vI (-1))) (MI, ML, (GR d e nw th 1))))) :
    wp cs mX10_addAttribute KD Q 0 (padL [vR 10, vR b, vI l2] 3) [] (KD, MI, ML, (GR d e nw th 1)) := by
  refine wp_L (L' := [some (vR 10), some (vR b), some (vI l2)]) rfl ?_
  refine wp_aload_n dX10_addAttribute_0 rfl rfl (by first | exact Or.inl (by decide) | exact Or.inl (by omega) | exact Or.inr (by decide) | exact Or.inr (by omega)) ?_
  refine wp_getR dX10_addAttribute_1 fX10_135 (show KD[b]? = some (7, 19) from kdb_0 hbd) (by omega) ?_
  refine wp_topR (x' := (b + 35)) (grb_0_6 hbd) ?_
  refine wp_aload_n dX10_addAttribute_4 rfl rfl (by first | exact Or.inl (by decide) | exact Or.inl (by omega) | exact Or.inr (by decide) | exact Or.inr (by omega)) ?_
  refine wp_getI dX10_addAttribute_5 fX10_9 rfl (by decide) ?_
  have c0 := h.1
  replace h := h.2
  refine wp_iald dX10_addAttribute_8 (kdb_35 hbd) (by omega) c0 ?_
  refine wp_bipush dX10_addAttribute_9 (by decide +kernel) (by decide) ?_
  refine wp_icmp_ge (tgt := 27) dX10_addAttribute_11 (by decide) (fun h11 => ?_) (fun h11 => ?_)
  · replace h := h.2 h11
    refine wp_iconst dX10_addAttribute_27 (by decide) ?_
    exact wp_iret dX10_addAttribute_28 rfl (fun _ => h)
  · replace h := h.1 h11
    refine wp_aload_n dX10_addAttribute_14 rfl rfl (by first | exact Or.inl (by decide) | exact Or.inl (by omega) | exact Or.inr (by decide) | exact Or.inr (by omega)) ?_
    refine wp_iconst dX10_addAttribute_15 (by decide) ?_
    refine wp_aload_n dX10_addAttribute_16 rfl rfl (by first | exact Or.inl (by decide) | exact Or.inl (by omega) | exact Or.inr (by decide) | exact Or.inr (by omega)) ?_
    refine wp_getI dX10_addAttribute_17 fX10_9 rfl (by decide) ?_
    refine wp_iload_n dX10_addAttribute_20 rfl rfl ?_
    refine wp_cVq (n := 3) (mt' := mX3_add) (as := [vI 2, vI (MI 10 1), vI l2]) (rest := []) _ dX10_addAttribute_21 lX10_22 kX3_add vX3_add (by decide) (by decide +kernel) rfl (Nat.le_of_ble_eq_true rfl) (by omega) (show KD[b]? = some (7, 19) from kdb_0 hbd) rfl rfl (Nat.le_of_ble_eq_true rfl) (fun hM hS => h) (fun r M' hq hM => ?_)
    obtain ⟨x21, m21, n21, rfl, rfl, h⟩ := rI_out hq
    refine wp_goto (tgt := 28) dX10_addAttribute_24 (by decide) ?_
    exact wp_iret dX10_addAttribute_28 rfl (fun _ => h)
theorem dX10_readAttribute_0 : decode cX10_readAttribute 0 = .ok (.aload_n 0, 1) := by decide +kernel
theorem dX10_readAttribute_1 : decode cX10_readAttribute 1 = .ok (.getfield 18, 3) := by decide +kernel
theorem dX10_readAttribute_4 : decode cX10_readAttribute 4 = .ok (.invokevirtual 64, 3) := by decide +kernel
theorem dX10_readAttribute_7 : decode cX10_readAttribute 7 = .ok (.ifCond .ne 5, 3) := by decide +kernel
theorem dX10_readAttribute_10 : decode cX10_readAttribute 10 = .ok (.iconst 0, 1) := by decide +kernel
theorem dX10_readAttribute_11 : decode cX10_readAttribute 11 = .ok (.ireturn, 1) := by decide +kernel
theorem dX10_readAttribute_12 : decode cX10_readAttribute 12 = .ok (.aload_n 0, 1) := by decide +kernel
theorem dX10_readAttribute_13 : decode cX10_readAttribute 13 = .ok (.getfield 18, 3) := by decide +kernel
theorem dX10_readAttribute_16 : decode cX10_readAttribute 16 = .ok (.getfield 67, 3) := by decide +kernel
theorem dX10_readAttribute_19 : decode cX10_readAttribute 19 = .ok (.istore_n 2, 1) := by decide +kernel
theorem dX10_readAttribute_20 : decode cX10_readAttribute 20 = .ok (.aload_n 1, 1) := by decide +kernel
theorem dX10_readAttribute_21 : decode cX10_readAttribute 21 = .ok (.getfield 70, 3) := by decide +kernel
theorem dX10_readAttribute_24 : decode cX10_readAttribute 24 = .ok (.aload_n 0, 1) := by decide +kernel
theorem dX10_readAttribute_25 : decode cX10_readAttribute 25 = .ok (.getfield 18, 3) := by decide +kernel
theorem dX10_readAttribute_28 : decode cX10_readAttribute 28 = .ok (.invokevirtual 74, 3) := by decide +kernel
theorem dX10_readAttribute_31 : decode cX10_readAttribute 31 = .ok (.istore_n 3, 1) := by decide +kernel
theorem dX10_readAttribute_32 : decode cX10_readAttribute 32 = .ok (.aload_n 1, 1) := by decide +kernel
theorem dX10_readAttribute_33 : decode cX10_readAttribute 33 = .ok (.aload_n 0, 1) := by decide +kernel
theorem dX10_readAttribute_34 : decode cX10_readAttribute 34 = .ok (.getfield 9, 3) := by decide +kernel
theorem dX10_readAttribute_37 : decode cX10_readAttribute 37 = .ok (.iload_n 3, 1) := by decide +kernel
theorem dX10_readAttribute_38 : decode cX10_readAttribute 38 = .ok (.invokevirtual 113, 3) := by decide +kernel
theorem dX10_readAttribute_41 : decode cX10_readAttribute 41 = .ok (.iconst (-1), 1) := by decide +kernel
theorem dX10_readAttribute_42 : decode cX10_readAttribute 42 = .ok (.if_icmp .eq 14, 3) := by decide +kernel
theorem dX10_readAttribute_45 : decode cX10_readAttribute 45 = .ok (.aload_n 0, 1) := by decide +kernel
theorem dX10_readAttribute_46 : decode cX10_readAttribute 46 = .ok (.getfield 18, 3) := by decide +kernel
theorem dX10_readAttribute_49 : decode cX10_readAttribute 49 = .ok (.bipush (-2), 2) := by decide +kernel
theorem dX10_readAttribute_51 : decode cX10_readAttribute 51 = .ok (.iload_n 2, 1) := by decide +kernel
theorem dX10_readAttribute_52 : decode cX10_readAttribute 52 = .ok (.invokevirtual 80, 3) := by decide +kernel
theorem dX10_readAttribute_55 : decode cX10_readAttribute 55 = .ok (.ireturn, 1) := by decide +kernel
theorem dX10_readAttribute_56 : decode cX10_readAttribute 56 = .ok (.aload_n 0, 1) := by decide +kernel
theorem dX10_readAttribute_57 : decode cX10_readAttribute 57 = .ok (.aload_n 1, 1) := by decide +kernel
theorem dX10_readAttribute_58 : decode cX10_readAttribute 58 = .ok (.iload_n 3, 1) := by decide +kernel
theorem dX10_readAttribute_59 : decode cX10_readAttribute 59 = .ok (.invokevirtual 116, 3) := by decide +kernel
theorem dX10_readAttribute_62 : decode cX10_readAttribute 62 = .ok (.istore 4, 2) := by decide +kernel
theorem dX10_readAttribute_64 : decode cX10_readAttribute 64 = .ok (.iload 4, 2) := by decide +kernel
theorem dX10_readAttribute_66 : decode cX10_readAttribute 66 = .ok (.iconst (-1), 1) := by decide +kernel
theorem dX10_readAttribute_67 : decode cX10_readAttribute 67 = .ok (.if_icmp .ne 14, 3) := by decide +kernel
theorem dX10_readAttribute_70 : decode cX10_readAttribute 70 = .ok (.aload_n 0, 1) := by decide +kernel
theorem dX10_readAttribute_71 : decode cX10_readAttribute 71 = .ok (.getfield 18, 3) := by decide +kernel
theorem dX10_readAttribute_74 : decode cX10_readAttribute 74 = .ok (.bipush (-3), 2) := by decide +kernel
theorem dX10_readAttribute_76 : decode cX10_readAttribute 76 = .ok (.iload_n 2, 1) := by decide +kernel
theorem dX10_readAttribute_77 : decode cX10_readAttribute 77 = .ok (.invokevirtual 80, 3) := by decide +kernel
theorem dX10_readAttribute_80 : decode cX10_readAttribute 80 = .ok (.ireturn, 1) := by decide +kernel
theorem dX10_readAttribute_81 : decode cX10_readAttribute 81 = .ok (.aload_n 0, 1) := by decide +kernel
theorem dX10_readAttribute_82 : decode cX10_readAttribute 82 = .ok (.getfield 18, 3) := by decide +kernel
theorem dX10_readAttribute_85 : decode cX10_readAttribute 85 = .ok (.invokevirtual 120, 3) := by decide +kernel
theorem dX10_readAttribute_88 : decode cX10_readAttribute 88 = .ok (.aload_n 0, 1) := by decide +kernel
theorem dX10_readAttribute_89 : decode cX10_readAttribute 89 = .ok (.getfield 18, 3) := by decide +kernel
theorem dX10_readAttribute_92 : decode cX10_readAttribute 92 = .ok (.ldc 123, 2) := by decide +kernel
theorem dX10_readAttribute_94 : decode cX10_readAttribute 94 = .ok (.invokevirtual 30, 3) := by decide +kernel
theorem dX10_readAttribute_97 : decode cX10_readAttribute 97 = .ok (.ifCond .ne 5, 3) := by decide +kernel
theorem dX10_readAttribute_100 : decode cX10_readAttribute 100 = .ok (.iconst 0, 1) := by decide +kernel
theorem dX10_readAttribute_101 : decode cX10_readAttribute 101 = .ok (.ireturn, 1) := by decide +kernel
theorem dX10_readAttribute_102 : decode cX10_readAttribute 102 = .ok (.aload_n 0, 1) := by decide +kernel
theorem dX10_readAttribute_103 : decode cX10_readAttribute 103 = .ok (.getfield 18, 3) := by decide +kernel
theorem dX10_readAttribute_106 : decode cX10_readAttribute 106 = .ok (.invokevirtual 120, 3) := by decide +kernel
theorem dX10_readAttribute_109 : decode cX10_readAttribute 109 = .ok (.aload_n 0, 1) := by decide +kernel
theorem dX10_readAttribute_110 : decode cX10_readAttribute 110 = .ok (.getfield 18, 3) := by decide +kernel
theorem dX10_readAttribute_113 : decode cX10_readAttribute 113 = .ok (.aload_n 1, 1) := by decide +kernel
theorem dX10_readAttribute_114 : decode cX10_readAttribute 114 = .ok (.invokevirtual 125, 3) := by decide +kernel
theorem dX10_readAttribute_117 : decode cX10_readAttribute 117 = .ok (.ifCond .ne 5, 3) := by decide +kernel
theorem dX10_readAttribute_120 : decode cX10_readAttribute 120 = .ok (.iconst 0, 1) := by decide +kernel
theorem dX10_readAttribute_121 : decode cX10_readAttribute 121 = .ok (.ireturn, 1) := by decide +kernel
theorem dX10_readAttribute_122 : decode cX10_readAttribute 122 = .ok (.aload_n 1, 1) := by decide +kernel
theorem dX10_readAttribute_123 : decode cX10_readAttribute 123 = .ok (.getfield 128, 3) := by decide +kernel
theorem dX10_readAttribute_126 : decode cX10_readAttribute 126 = .ok (.iload 4, 2) := by decide +kernel
theorem dX10_readAttribute_128 : decode cX10_readAttribute 128 = .ok (.aload_n 1, 1) := by decide +kernel
theorem dX10_readAttribute_129 : decode cX10_readAttribute 129 = .ok (.getfield 132, 3) := by decide +kernel
theorem dX10_readAttribute_132 : decode cX10_readAttribute 132 = .ok (.iastore, 1) := by decide +kernel
theorem dX10_readAttribute_133 : decode cX10_readAttribute 133 = .ok (.iconst 1, 1) := by decide +kernel
theorem dX10_readAttribute_134 : decode cX10_readAttribute 134 = .ok (.ireturn, 1) := by decide +kernel
theorem v_X10_readAttribute_0 {cs : Cs} {Q : Option AV → Mm → Prop} {MI ML : Nat → Nat → Int} {b d e nw th : Nat} (hbd : b = 38 ∨ b = 81)
    (h : wp cs mX1_needName KD (rI (GR d e nw th 1) fun x4 m4 n4 => ((x4 = 0 → Q (some (vI 0)) (m4, n4, (GR d e nw th 1))) ∧ (x4 ≠ 0 → wp cs mX5_keep KD (rI (GR d e nw th 1) fun x28 m28 n28 => wp cs mX3_attributeOf KD (rI (GR d e nw th 1) fun x38 m38 n38 => ((x38 = (-1) → wp cs mX10_addAttribute KD (rI (GR d e nw th 1) fun x59 m59 n59 => ((x59 = (-1) → wp cs mX1_refuse KD (rI (GR d e nw th 1) fun x77 m77 n77 => (x77 = 0 ∨ x77 = 1) ∧ Q (some (vI x77)) (m77, n77, (GR d e nw th 1))) 0 (padL [vR 2, vI (-3), vI (m4 2 3)] 3) [] (KD, m59, n59, (GR d e nw th 1))) ∧ (x59 ≠ (-1) → wp cs mX1_skipSpace KD (rV (GR d e nw th 1) fun m85 n85 => wp cs mX1_take KD (rI (GR d e nw th 1) fun x94 m94 n94 => ((x94 = 0 → Q (some (vI 0)) (m94, n94, (GR d e nw th 1))) ∧ (x94 ≠ 0 → wp cs mX1_skipSpace KD (rV (GR d e nw th 1) fun m106 n106 => wp cs mX1_takeValue KD (rI (GR d e nw th 1) fun x114 m114 n114 => ((x114 = 0 → Q (some (vI 0)) (m114, n114, (GR d e nw th 1))) ∧ (x114 ≠ 0 → (0 ≤ x59 ∧ x59 < 600) ∧ ∀ m132, m132 = up2 m114 (b + 40) x59.toNat (m114 b 14) → Q (some (vI 1)) (m132, n114, (GR d e nw th 1))))) 0 (padL [vR 2, vR b] 7) [] (KD, m106, n106, (GR d e nw th 1))) 0 (padL [vR 2] 1) [] (KD, m94, n94, (GR d e nw th 1))))) 0 (padL [vR 2, vR 1000031] 2) [] (KD, m85, n85, (GR d e nw th 1))) 0 (padL [vR 2] 1) [] (KD, m59, n59, (GR d e nw th 1))))) 0 (padL [vR 10, vR b, vI x28] 3) [] (KD, m38, n38, (GR d e nw th 1))) ∧ (x38 ≠ (-1) → wp cs mX1_refuse KD (rI (GR d e nw th 1) fun x52 m52 n52 => (x52 = 0 ∨ x52 = 1) ∧ Q (some (vI x52)) (m52, n52, (GR d e nw th 1))) 0 (padL [vR 2, vI (-2), vI (m4 2 3)] 3) [] (KD, m38, n38, (GR d e nw th 1))))) 0 (padL [vR b, vI (m28 10 1), vI x28] 4) [] (KD, m28, n28, (GR d e nw th 1))) 0 (padL [vR (b + 1), vR 2] 5) [] (KD, m4, n4, (GR d e nw th 1))))) 0 (padL [vR 2] 1) [] (KD, MI, ML, (GR d e nw th 1))) :
    wp cs mX10_readAttribute KD Q 0 (padL [vR 10, vR b] 5) [] (KD, MI, ML, (GR d e nw th 1)) := by
  refine wp_L (L' := [some (vR 10), some (vR b), none, none, none]) rfl ?_
  refine wp_aload_n dX10_readAttribute_0 rfl rfl (by first | exact Or.inl (by decide) | exact Or.inl (by omega) | exact Or.inr (by decide) | exact Or.inr (by omega)) ?_
  refine wp_getR dX10_readAttribute_1 fX10_18 rfl (by decide) ?_
  refine wp_topR (x' := 2) rfl ?_
  refine wp_cVq (n := 0) (mt' := mX1_needName) (as := []) (rest := []) _ dX10_readAttribute_4 lX10_64 kX1_needName vX1_needName (by decide) (by decide +kernel) rfl (Nat.le_of_ble_eq_true rfl) (by decide) rfl rfl rfl (Nat.le_of_ble_eq_true rfl) (fun hM hS => h) (fun r M' hq hM => ?_)
  obtain ⟨x4, m4, n4, rfl, rfl, h⟩ := rI_out hq
  refine wp_if_ne (tgt := 12) dX10_readAttribute_7 (by decide) (fun h7 => ?_) (fun h7 => ?_)
  · replace h := h.2 h7
    refine wp_aload_n dX10_readAttribute_12 rfl rfl (by first | exact Or.inl (by decide) | exact Or.inl (by omega) | exact Or.inr (by decide) | exact Or.inr (by omega)) ?_
    refine wp_getR dX10_readAttribute_13 fX10_18 rfl (by decide) ?_
    refine wp_topR (x' := 2) rfl ?_
    refine wp_getI dX10_readAttribute_16 fX10_67 rfl (by decide) ?_
    refine wp_istore_n dX10_readAttribute_19 rfl (by decide) (wp_L (L' := [some (vR 10), some (vR b), some (vI (m4 2 3)), none, none]) rfl ?_)
    refine wp_aload_n dX10_readAttribute_20 rfl rfl (by first | exact Or.inl (by decide) | exact Or.inl (by omega) | exact Or.inr (by decide) | exact Or.inr (by omega)) ?_
    refine wp_getR dX10_readAttribute_21 fX10_70 (show KD[b]? = some (7, 19) from kdb_0 hbd) (by omega) ?_
    refine wp_topR (x' := (b + 1)) (grb_0_0 hbd) ?_
    refine wp_aload_n dX10_readAttribute_24 rfl rfl (by first | exact Or.inl (by decide) | exact Or.inl (by omega) | exact Or.inr (by decide) | exact Or.inr (by omega)) ?_
    refine wp_pc (pc' := 25) rfl ?_
    refine wp_getR dX10_readAttribute_25 fX10_18 rfl (by decide) ?_
    refine wp_topR (x' := 2) rfl ?_
    refine wp_cVq (n := 1) (mt' := mX5_keep) (as := [vR 2]) (rest := []) _ dX10_readAttribute_28 lX10_74 kX5_keep vX5_keep (by decide) (by decide +kernel) rfl (Nat.le_of_ble_eq_true rfl) (by omega) (kdb_1 hbd) rfl rfl (Nat.le_of_ble_eq_true rfl) (fun hM hS => h) (fun r M' hq hM => ?_)
    obtain ⟨x28, m28, n28, rfl, rfl, h⟩ := rI_out hq
    refine wp_istore_n dX10_readAttribute_31 rfl (by decide) (wp_L (L' := [some (vR 10), some (vR b), some (vI (m4 2 3)), some (vI x28), none]) rfl ?_)
    refine wp_aload_n dX10_readAttribute_32 rfl rfl (by first | exact Or.inl (by decide) | exact Or.inl (by omega) | exact Or.inr (by decide) | exact Or.inr (by omega)) ?_
    refine wp_aload_n dX10_readAttribute_33 rfl rfl (by first | exact Or.inl (by decide) | exact Or.inl (by omega) | exact Or.inr (by decide) | exact Or.inr (by omega)) ?_
    refine wp_getI dX10_readAttribute_34 fX10_9 rfl (by decide) ?_
    refine wp_iload_n dX10_readAttribute_37 rfl rfl ?_
    refine wp_cVq (n := 2) (mt' := mX3_attributeOf) (as := [vI (m28 10 1), vI x28]) (rest := []) _ dX10_readAttribute_38 lX10_113 kX3_attributeOf vX3_attributeOf (by decide) (by decide +kernel) rfl (Nat.le_of_ble_eq_true rfl) (by omega) (show KD[b]? = some (7, 19) from kdb_0 hbd) rfl rfl (Nat.le_of_ble_eq_true rfl) (fun hM hS => h) (fun r M' hq hM => ?_)
    obtain ⟨x38, m38, n38, rfl, rfl, h⟩ := rI_out hq
    refine wp_iconst dX10_readAttribute_41 (by decide) ?_
    refine wp_icmp_eq (tgt := 56) dX10_readAttribute_42 (by decide) (fun h42 => ?_) (fun h42 => ?_)
    · replace h := h.1 h42
      refine wp_aload_n dX10_readAttribute_56 rfl rfl (by first | exact Or.inl (by decide) | exact Or.inl (by omega) | exact Or.inr (by decide) | exact Or.inr (by omega)) ?_
      refine wp_aload_n dX10_readAttribute_57 rfl rfl (by first | exact Or.inl (by decide) | exact Or.inl (by omega) | exact Or.inr (by decide) | exact Or.inr (by omega)) ?_
      refine wp_iload_n dX10_readAttribute_58 rfl rfl ?_
      refine wp_cVq (n := 2) (mt' := mX10_addAttribute) (as := [vR b, vI x28]) (rest := []) _ dX10_readAttribute_59 lX10_116 kX10_addAttribute vX10_addAttribute (by decide) (by decide +kernel) rfl (Nat.le_of_ble_eq_true rfl) (by decide) rfl rfl rfl (Nat.le_of_ble_eq_true rfl) (fun hM hS => h) (fun r M' hq hM => ?_)
      obtain ⟨x59, m59, n59, rfl, rfl, h⟩ := rI_out hq
      refine wp_istore dX10_readAttribute_62 (by decide) (wp_L (L' := [some (vR 10), some (vR b), some (vI (m4 2 3)), some (vI x28), some (vI x59)]) rfl ?_)
      refine wp_iload dX10_readAttribute_64 rfl ?_
      refine wp_iconst dX10_readAttribute_66 (by decide) ?_
      refine wp_icmp_ne (tgt := 81) dX10_readAttribute_67 (by decide) (fun h67 => ?_) (fun h67 => ?_)
      · replace h := h.2 h67
        refine wp_aload_n dX10_readAttribute_81 rfl rfl (by first | exact Or.inl (by decide) | exact Or.inl (by omega) | exact Or.inr (by decide) | exact Or.inr (by omega)) ?_
        refine wp_getR dX10_readAttribute_82 fX10_18 rfl (by decide) ?_
        refine wp_topR (x' := 2) rfl ?_
        refine wp_cVq (n := 0) (mt' := mX1_skipSpace) (as := []) (rest := []) _ dX10_readAttribute_85 lX10_120 kX1_skipSpace vX1_skipSpace (by decide) (by decide +kernel) rfl (Nat.le_of_ble_eq_true rfl) (by decide) rfl rfl rfl (Nat.le_of_ble_eq_true rfl) (fun hM hS => h) (fun r M' hq hM => ?_)
        obtain ⟨m85, n85, rfl, rfl, h⟩ := rV_out hq
        refine wp_aload_n dX10_readAttribute_88 rfl rfl (by first | exact Or.inl (by decide) | exact Or.inl (by omega) | exact Or.inr (by decide) | exact Or.inr (by omega)) ?_
        refine wp_getR dX10_readAttribute_89 fX10_18 rfl (by decide) ?_
        refine wp_topR (x' := 2) rfl ?_
        refine wp_ldcS (k := 28) dX10_readAttribute_92 cX10_123 ?_
        refine wp_cVq (n := 1) (mt' := mX1_take) (as := [vR 1000031]) (rest := []) _ dX10_readAttribute_94 lX10_30 kX1_take vX1_take (by decide) (by decide +kernel) rfl (Nat.le_of_ble_eq_true rfl) (by decide) rfl rfl rfl (Nat.le_of_ble_eq_true rfl) (fun hM hS => h) (fun r M' hq hM => ?_)
        obtain ⟨x94, m94, n94, rfl, rfl, h⟩ := rI_out hq
        refine wp_if_ne (tgt := 102) dX10_readAttribute_97 (by decide) (fun h97 => ?_) (fun h97 => ?_)
        · replace h := h.2 h97
          refine wp_aload_n dX10_readAttribute_102 rfl rfl (by first | exact Or.inl (by decide) | exact Or.inl (by omega) | exact Or.inr (by decide) | exact Or.inr (by omega)) ?_
          refine wp_getR dX10_readAttribute_103 fX10_18 rfl (by decide) ?_
          refine wp_topR (x' := 2) rfl ?_
          refine wp_cVq (n := 0) (mt' := mX1_skipSpace) (as := []) (rest := []) _ dX10_readAttribute_106 lX10_120 kX1_skipSpace vX1_skipSpace (by decide) (by decide +kernel) rfl (Nat.le_of_ble_eq_true rfl) (by decide) rfl rfl rfl (Nat.le_of_ble_eq_true rfl) (fun hM hS => h) (fun r M' hq hM => ?_)
          obtain ⟨m106, n106, rfl, rfl, h⟩ := rV_out hq
          refine wp_aload_n dX10_readAttribute_109 rfl rfl (by first | exact Or.inl (by decide) | exact Or.inl (by omega) | exact Or.inr (by decide) | exact Or.inr (by omega)) ?_
          refine wp_getR dX10_readAttribute_110 fX10_18 rfl (by decide) ?_
          refine wp_topR (x' := 2) rfl ?_
          refine wp_aload_n dX10_readAttribute_113 rfl rfl (by first | exact Or.inl (by decide) | exact Or.inl (by omega) | exact Or.inr (by decide) | exact Or.inr (by omega)) ?_
          refine wp_cVq (n := 1) (mt' := mX1_takeValue) (as := [vR b]) (rest := []) _ dX10_readAttribute_114 lX10_125 kX1_takeValue vX1_takeValue (by decide) (by decide +kernel) rfl (Nat.le_of_ble_eq_true rfl) (by decide) rfl rfl rfl (Nat.le_of_ble_eq_true rfl) (fun hM hS => h) (fun r M' hq hM => ?_)
          obtain ⟨x114, m114, n114, rfl, rfl, h⟩ := rI_out hq
          refine wp_if_ne (tgt := 122) dX10_readAttribute_117 (by decide) (fun h117 => ?_) (fun h117 => ?_)
          · replace h := h.2 h117
            refine wp_aload_n dX10_readAttribute_122 rfl rfl (by first | exact Or.inl (by decide) | exact Or.inl (by omega) | exact Or.inr (by decide) | exact Or.inr (by omega)) ?_
            refine wp_getR dX10_readAttribute_123 fX10_128 (show KD[b]? = some (7, 19) from kdb_0 hbd) (by omega) ?_
            refine wp_topR (x' := (b + 40)) (grb_0_11 hbd) ?_
            refine wp_iload dX10_readAttribute_126 rfl ?_
            refine wp_aload_n dX10_readAttribute_128 rfl rfl (by first | exact Or.inl (by decide) | exact Or.inl (by omega) | exact Or.inr (by decide) | exact Or.inr (by omega)) ?_
            refine wp_getI dX10_readAttribute_129 fX10_132 (show KD[b]? = some (7, 19) from kdb_0 hbd) (by omega) ?_
            have c0 := h.1
            replace h := h.2
            refine wp_iast dX10_readAttribute_132 (kdb_40 hbd) (by omega) c0 ?_
            refine wp_gI (fun m132 e132 => ?_)
            replace h := h m132 e132
            refine wp_iconst dX10_readAttribute_133 (by decide) ?_
            refine wp_pc (pc' := 134) rfl ?_
            exact wp_zret dX10_readAttribute_134 rfl (by decide) (fun _ => h)
          · replace h := h.1 h117
            refine wp_iconst dX10_readAttribute_120 (by decide) ?_
            exact wp_zret dX10_readAttribute_121 rfl (by decide) (fun _ => h)
        · replace h := h.1 h97
          refine wp_iconst dX10_readAttribute_100 (by decide) ?_
          exact wp_zret dX10_readAttribute_101 rfl (by decide) (fun _ => h)
      · replace h := h.1 h67
        refine wp_aload_n dX10_readAttribute_70 rfl rfl (by first | exact Or.inl (by decide) | exact Or.inl (by omega) | exact Or.inr (by decide) | exact Or.inr (by omega)) ?_
        refine wp_getR dX10_readAttribute_71 fX10_18 rfl (by decide) ?_
        refine wp_topR (x' := 2) rfl ?_
        refine wp_bipush dX10_readAttribute_74 (by decide +kernel) (by decide) ?_
        refine wp_iload_n dX10_readAttribute_76 rfl rfl ?_
        refine wp_cVq (n := 2) (mt' := mX1_refuse) (as := [vI (-3), vI (m4 2 3)]) (rest := []) _ dX10_readAttribute_77 lX10_80 kX1_refuse vX1_refuse (by decide) (by decide +kernel) rfl (Nat.le_of_ble_eq_true rfl) (by decide) rfl rfl rfl (Nat.le_of_ble_eq_true rfl) (fun hM hS => h) (fun r M' hq hM => ?_)
        obtain ⟨x77, m77, n77, rfl, rfl, h⟩ := rI_out hq
        exact wp_zret dX10_readAttribute_80 rfl h.1 (fun _ => h.2)
    · replace h := h.2 h42
      refine wp_aload_n dX10_readAttribute_45 rfl rfl (by first | exact Or.inl (by decide) | exact Or.inl (by omega) | exact Or.inr (by decide) | exact Or.inr (by omega)) ?_
      refine wp_getR dX10_readAttribute_46 fX10_18 rfl (by decide) ?_
      refine wp_topR (x' := 2) rfl ?_
      refine wp_bipush dX10_readAttribute_49 (by decide +kernel) (by decide) ?_
      refine wp_iload_n dX10_readAttribute_51 rfl rfl ?_
      refine wp_cVq (n := 2) (mt' := mX1_refuse) (as := [vI (-2), vI (m4 2 3)]) (rest := []) _ dX10_readAttribute_52 lX10_80 kX1_refuse vX1_refuse (by decide) (by decide +kernel) rfl (Nat.le_of_ble_eq_true rfl) (by decide) rfl rfl rfl (Nat.le_of_ble_eq_true rfl) (fun hM hS => h) (fun r M' hq hM => ?_)
      obtain ⟨x52, m52, n52, rfl, rfl, h⟩ := rI_out hq
      exact wp_zret dX10_readAttribute_55 rfl h.1 (fun _ => h.2)
  · replace h := h.1 h7
    refine wp_iconst dX10_readAttribute_10 (by decide) ?_
    exact wp_zret dX10_readAttribute_11 rfl (by decide) (fun _ => h)
theorem dX7_hasValue_0 : decode cX7_hasValue 0 = .ok (.aload_n 0, 1) := by decide +kernel
theorem dX7_hasValue_1 : decode cX7_hasValue 1 = .ok (.getfield 27, 3) := by decide +kernel
theorem dX7_hasValue_4 : decode cX7_hasValue 4 = .ok (.iload_n 1, 1) := by decide +kernel
theorem dX7_hasValue_5 : decode cX7_hasValue 5 = .ok (.iaload, 1) := by decide +kernel
theorem dX7_hasValue_6 : decode cX7_hasValue 6 = .ok (.iconst 2, 1) := by decide +kernel
theorem dX7_hasValue_7 : decode cX7_hasValue 7 = .ok (.if_icmp .eq 13, 3) := by decide +kernel
theorem dX7_hasValue_10 : decode cX7_hasValue 10 = .ok (.aload_n 0, 1) := by decide +kernel
theorem dX7_hasValue_11 : decode cX7_hasValue 11 = .ok (.getfield 27, 3) := by decide +kernel
theorem dX7_hasValue_14 : decode cX7_hasValue 14 = .ok (.iload_n 1, 1) := by decide +kernel
theorem dX7_hasValue_15 : decode cX7_hasValue 15 = .ok (.iaload, 1) := by decide +kernel
theorem dX7_hasValue_16 : decode cX7_hasValue 16 = .ok (.iconst 3, 1) := by decide +kernel
theorem dX7_hasValue_17 : decode cX7_hasValue 17 = .ok (.if_icmp .ne 7, 3) := by decide +kernel
theorem dX7_hasValue_20 : decode cX7_hasValue 20 = .ok (.iconst 1, 1) := by decide +kernel
theorem dX7_hasValue_21 : decode cX7_hasValue 21 = .ok (.goto 4, 3) := by decide +kernel
theorem dX7_hasValue_24 : decode cX7_hasValue 24 = .ok (.iconst 0, 1) := by decide +kernel
theorem dX7_hasValue_25 : decode cX7_hasValue 25 = .ok (.ireturn, 1) := by decide +kernel
theorem v_X7_hasValue_0 {cs : Cs} {Q : Option AV → Mm → Prop} {MI ML : Nat → Nat → Int} {b d e nw th x : Nat} {l1 : Int} (hbd : b = 38 ∨ b = 81)
    (h : (0 ≤ l1 ∧ l1 < 750) ∧ (((MI (b + 26) l1.toNat) = 2 → Q (some (vI 1)) (MI, ML, (GR d e nw th x))) ∧ ((MI (b + 26) l1.toNat) ≠ 2 → (((MI (b + 26) l1.toNat) = 3 → Q (some (vI 1)) (MI, ML, (GR d e nw th x))) ∧ ((MI (b + 26) l1.toNat) ≠ 3 → Q (some (vI 0)) (MI, ML, (GR d e nw th x))))))) :
    wp cs mX7_hasValue KD Q 0 (padL [vR (b + 20), vI l1] 2) [] (KD, MI, ML, (GR d e nw th x)) := by
  refine wp_L (L' := [some (vR (b + 20)), some (vI l1)]) rfl ?_
  refine wp_aload_n dX7_hasValue_0 rfl rfl (by first | exact Or.inl (by decide) | exact Or.inl (by omega) | exact Or.inr (by decide) | exact Or.inr (by omega)) ?_
  refine wp_getR dX7_hasValue_1 fX7_27 (kdb_20 hbd) (by omega) ?_
  refine wp_topR (x' := (b + 26)) (grb_20_5 hbd) ?_
  refine wp_iload_n dX7_hasValue_4 rfl rfl ?_
  have c0 := h.1
  replace h := h.2
  refine wp_iald dX7_hasValue_5 (kdb_26 hbd) (by omega) c0 ?_
  refine wp_iconst dX7_hasValue_6 (by decide) ?_
  refine wp_icmp_eq (tgt := 20) dX7_hasValue_7 (by decide) (fun h7 => ?_) (fun h7 => ?_)
  · replace h := h.1 h7
    refine wp_iconst dX7_hasValue_20 (by decide) ?_
    refine wp_goto (tgt := 25) dX7_hasValue_21 (by decide) ?_
    exact wp_zret dX7_hasValue_25 rfl (by decide) (fun _ => h)
  · replace h := h.2 h7
    refine wp_aload_n dX7_hasValue_10 rfl rfl (by first | exact Or.inl (by decide) | exact Or.inl (by omega) | exact Or.inr (by decide) | exact Or.inr (by omega)) ?_
    refine wp_getR dX7_hasValue_11 fX7_27 (kdb_20 hbd) (by omega) ?_
    refine wp_topR (x' := (b + 26)) (grb_20_5 hbd) ?_
    refine wp_iload_n dX7_hasValue_14 rfl rfl ?_
    refine wp_iald dX7_hasValue_15 (kdb_26 hbd) (by omega) c0 ?_
    refine wp_iconst dX7_hasValue_16 (by decide) ?_
    refine wp_icmp_ne (tgt := 24) dX7_hasValue_17 (by decide) (fun h17 => ?_) (fun h17 => ?_)
    · replace h := h.2 h17
      refine wp_iconst dX7_hasValue_24 (by decide) ?_
      exact wp_zret dX7_hasValue_25 rfl (by decide) (fun _ => h)
    · replace h := h.1 h17
      refine wp_iconst dX7_hasValue_20 (by decide) ?_
      refine wp_goto (tgt := 25) dX7_hasValue_21 (by decide) ?_
      exact wp_zret dX7_hasValue_25 rfl (by decide) (fun _ => h)
theorem dX10_addDefaults_0 : decode cX10_addDefaults 0 = .ok (.aload_n 1, 1) := by decide +kernel
theorem dX10_addDefaults_1 : decode cX10_addDefaults 1 = .ok (.getfield 138, 3) := by decide +kernel
theorem dX10_addDefaults_4 : decode cX10_addDefaults 4 = .ok (.astore_n 2, 1) := by decide +kernel
theorem dX10_addDefaults_5 : decode cX10_addDefaults 5 = .ok (.aload_n 1, 1) := by decide +kernel
theorem dX10_addDefaults_6 : decode cX10_addDefaults 6 = .ok (.getfield 70, 3) := by decide +kernel
theorem dX10_addDefaults_9 : decode cX10_addDefaults 9 = .ok (.aload_n 1, 1) := by decide +kernel
theorem dX10_addDefaults_10 : decode cX10_addDefaults 10 = .ok (.getfield 142, 3) := by decide +kernel
theorem dX10_addDefaults_13 : decode cX10_addDefaults 13 = .ok (.aload_n 0, 1) := by decide +kernel
theorem dX10_addDefaults_14 : decode cX10_addDefaults 14 = .ok (.getfield 9, 3) := by decide +kernel
theorem dX10_addDefaults_17 : decode cX10_addDefaults 17 = .ok (.iaload, 1) := by decide +kernel
theorem dX10_addDefaults_18 : decode cX10_addDefaults 18 = .ok (.invokevirtual 145, 3) := by decide +kernel
theorem dX10_addDefaults_21 : decode cX10_addDefaults 21 = .ok (.istore_n 3, 1) := by decide +kernel
theorem dX10_addDefaults_22 : decode cX10_addDefaults 22 = .ok (.iconst 0, 1) := by decide +kernel
theorem dX10_addDefaults_23 : decode cX10_addDefaults 23 = .ok (.istore 4, 2) := by decide +kernel
theorem dX10_addDefaults_25 : decode cX10_addDefaults 25 = .ok (.iload 4, 2) := by decide +kernel
theorem dX10_addDefaults_27 : decode cX10_addDefaults 27 = .ok (.bipush 10, 2) := by decide +kernel
theorem dX10_addDefaults_29 : decode cX10_addDefaults 29 = .ok (.if_icmp .ge 102, 3) := by decide +kernel
theorem dX10_addDefaults_32 : decode cX10_addDefaults 32 = .ok (.iload_n 3, 1) := by decide +kernel
theorem dX10_addDefaults_33 : decode cX10_addDefaults 33 = .ok (.iconst (-1), 1) := by decide +kernel
theorem dX10_addDefaults_34 : decode cX10_addDefaults 34 = .ok (.if_icmp .eq 97, 3) := by decide +kernel
theorem dX10_addDefaults_37 : decode cX10_addDefaults 37 = .ok (.aload_n 2, 1) := by decide +kernel
theorem dX10_addDefaults_38 : decode cX10_addDefaults 38 = .ok (.getfield 151, 3) := by decide +kernel
theorem dX10_addDefaults_41 : decode cX10_addDefaults 41 = .ok (.iload_n 3, 1) := by decide +kernel
theorem dX10_addDefaults_42 : decode cX10_addDefaults 42 = .ok (.iaload, 1) := by decide +kernel
theorem dX10_addDefaults_43 : decode cX10_addDefaults 43 = .ok (.istore 5, 2) := by decide +kernel
theorem dX10_addDefaults_45 : decode cX10_addDefaults 45 = .ok (.aload_n 2, 1) := by decide +kernel
theorem dX10_addDefaults_46 : decode cX10_addDefaults 46 = .ok (.iload_n 3, 1) := by decide +kernel
theorem dX10_addDefaults_47 : decode cX10_addDefaults 47 = .ok (.invokevirtual 154, 3) := by decide +kernel
theorem dX10_addDefaults_50 : decode cX10_addDefaults 50 = .ok (.ifCond .eq 68, 3) := by decide +kernel
theorem dX10_addDefaults_53 : decode cX10_addDefaults 53 = .ok (.aload_n 1, 1) := by decide +kernel
theorem dX10_addDefaults_54 : decode cX10_addDefaults 54 = .ok (.aload_n 0, 1) := by decide +kernel
theorem dX10_addDefaults_55 : decode cX10_addDefaults 55 = .ok (.getfield 9, 3) := by decide +kernel
theorem dX10_addDefaults_58 : decode cX10_addDefaults 58 = .ok (.iload 5, 2) := by decide +kernel
theorem dX10_addDefaults_60 : decode cX10_addDefaults 60 = .ok (.invokevirtual 113, 3) := by decide +kernel
theorem dX10_addDefaults_63 : decode cX10_addDefaults 63 = .ok (.iconst (-1), 1) := by decide +kernel
theorem dX10_addDefaults_64 : decode cX10_addDefaults 64 = .ok (.if_icmp .ne 54, 3) := by decide +kernel
theorem dX10_addDefaults_67 : decode cX10_addDefaults 67 = .ok (.aload_n 0, 1) := by decide +kernel
theorem dX10_addDefaults_68 : decode cX10_addDefaults 68 = .ok (.aload_n 1, 1) := by decide +kernel
theorem dX10_addDefaults_69 : decode cX10_addDefaults 69 = .ok (.iload 5, 2) := by decide +kernel
theorem dX10_addDefaults_71 : decode cX10_addDefaults 71 = .ok (.invokevirtual 116, 3) := by decide +kernel
theorem dX10_addDefaults_74 : decode cX10_addDefaults 74 = .ok (.istore 6, 2) := by decide +kernel
theorem dX10_addDefaults_76 : decode cX10_addDefaults 76 = .ok (.iload 6, 2) := by decide +kernel
theorem dX10_addDefaults_78 : decode cX10_addDefaults 78 = .ok (.iconst (-1), 1) := by decide +kernel
theorem dX10_addDefaults_79 : decode cX10_addDefaults 79 = .ok (.if_icmp .ne 5, 3) := by decide +kernel
theorem dX10_addDefaults_82 : decode cX10_addDefaults 82 = .ok (.iconst 0, 1) := by decide +kernel
theorem dX10_addDefaults_83 : decode cX10_addDefaults 83 = .ok (.ireturn, 1) := by decide +kernel
theorem dX10_addDefaults_84 : decode cX10_addDefaults 84 = .ok (.aload_n 1, 1) := by decide +kernel
theorem dX10_addDefaults_85 : decode cX10_addDefaults 85 = .ok (.getfield 158, 3) := by decide +kernel
theorem dX10_addDefaults_88 : decode cX10_addDefaults 88 = .ok (.iload 6, 2) := by decide +kernel
theorem dX10_addDefaults_90 : decode cX10_addDefaults 90 = .ok (.aload_n 2, 1) := by decide +kernel
theorem dX10_addDefaults_91 : decode cX10_addDefaults 91 = .ok (.getfield 161, 3) := by decide +kernel
theorem dX10_addDefaults_94 : decode cX10_addDefaults 94 = .ok (.iload_n 3, 1) := by decide +kernel
theorem dX10_addDefaults_95 : decode cX10_addDefaults 95 = .ok (.iaload, 1) := by decide +kernel
theorem dX10_addDefaults_96 : decode cX10_addDefaults 96 = .ok (.iastore, 1) := by decide +kernel
theorem dX10_addDefaults_97 : decode cX10_addDefaults 97 = .ok (.aload_n 1, 1) := by decide +kernel
theorem dX10_addDefaults_98 : decode cX10_addDefaults 98 = .ok (.getfield 128, 3) := by decide +kernel
theorem dX10_addDefaults_101 : decode cX10_addDefaults 101 = .ok (.iload 6, 2) := by decide +kernel
theorem dX10_addDefaults_103 : decode cX10_addDefaults 103 = .ok (.aload_n 2, 1) := by decide +kernel
theorem dX10_addDefaults_104 : decode cX10_addDefaults 104 = .ok (.getfield 164, 3) := by decide +kernel
theorem dX10_addDefaults_107 : decode cX10_addDefaults 107 = .ok (.iload_n 3, 1) := by decide +kernel
theorem dX10_addDefaults_108 : decode cX10_addDefaults 108 = .ok (.iaload, 1) := by decide +kernel
theorem dX10_addDefaults_109 : decode cX10_addDefaults 109 = .ok (.iastore, 1) := by decide +kernel
theorem dX10_addDefaults_110 : decode cX10_addDefaults 110 = .ok (.aload_n 1, 1) := by decide +kernel
theorem dX10_addDefaults_111 : decode cX10_addDefaults 111 = .ok (.getfield 167, 3) := by decide +kernel
theorem dX10_addDefaults_114 : decode cX10_addDefaults 114 = .ok (.iload 6, 2) := by decide +kernel
theorem dX10_addDefaults_116 : decode cX10_addDefaults 116 = .ok (.iconst 1, 1) := by decide +kernel
theorem dX10_addDefaults_117 : decode cX10_addDefaults 117 = .ok (.iastore, 1) := by decide +kernel
theorem dX10_addDefaults_118 : decode cX10_addDefaults 118 = .ok (.aload_n 2, 1) := by decide +kernel
theorem dX10_addDefaults_119 : decode cX10_addDefaults 119 = .ok (.getfield 170, 3) := by decide +kernel
theorem dX10_addDefaults_122 : decode cX10_addDefaults 122 = .ok (.iload_n 3, 1) := by decide +kernel
theorem dX10_addDefaults_123 : decode cX10_addDefaults 123 = .ok (.iaload, 1) := by decide +kernel
theorem dX10_addDefaults_124 : decode cX10_addDefaults 124 = .ok (.istore_n 3, 1) := by decide +kernel
theorem dX10_addDefaults_125 : decode cX10_addDefaults 125 = .ok (.iinc 4 1, 3) := by decide +kernel
theorem dX10_addDefaults_128 : decode cX10_addDefaults 128 = .ok (.goto (-103), 3) := by decide +kernel
theorem dX10_addDefaults_131 : decode cX10_addDefaults 131 = .ok (.iconst 1, 1) := by decide +kernel
theorem dX10_addDefaults_132 : decode cX10_addDefaults 132 = .ok (.ireturn, 1) := by decide +kernel
theorem v_X10_addDefaults_0 {cs : Cs} {Q : Option AV → Mm → Prop} {MI ML : Nat → Nat → Int} {b d e nw th : Nat} (hbd : b = 38 ∨ b = 81)
    (h : (0 ≤ (MI 10 1) ∧ (MI 10 1) < 600) ∧ wp cs mX5_ruleOf KD (rI (GR d e nw th 1) fun x18 m18 n18 => wp cs mX10_addDefaults KD Q 25 [some (vR 10), some (vR b), some (vR (b + 20)), some (vI x18), some (vI 0), none, none] [] (KD, m18, n18, (GR d e nw th 1))) 0 (padL [vR (b + 1), vI (MI (b + 34) (MI 10 1).toNat)] 2) [] (KD, MI, ML, (GR d e nw th 1))) :
    wp cs mX10_addDefaults KD Q 0 (padL [vR 10, vR b] 7) [] (KD, MI, ML, (GR d e nw th 1)) := by
  refine wp_L (L' := [some (vR 10), some (vR b), none, none, none, none, none]) rfl ?_
  refine wp_aload_n dX10_addDefaults_0 rfl rfl (by first | exact Or.inl (by decide) | exact Or.inl (by omega) | exact Or.inr (by decide) | exact Or.inr (by omega)) ?_
  refine wp_getR dX10_addDefaults_1 fX10_138 (show KD[b]? = some (7, 19) from kdb_0 hbd) (by omega) ?_
  refine wp_topR (x' := (b + 20)) (grb_0_2 hbd) ?_
  refine wp_astore_n dX10_addDefaults_4 rfl (by first | exact Or.inl (by decide) | exact Or.inl (by omega)) (by decide) (wp_L (L' := [some (vR 10), some (vR b), some (vR (b + 20)), none, none, none, none]) rfl ?_)
  refine wp_aload_n dX10_addDefaults_5 rfl rfl (by first | exact Or.inl (by decide) | exact Or.inl (by omega) | exact Or.inr (by decide) | exact Or.inr (by omega)) ?_
  refine wp_getR dX10_addDefaults_6 fX10_70 (show KD[b]? = some (7, 19) from kdb_0 hbd) (by omega) ?_
  refine wp_topR (x' := (b + 1)) (grb_0_0 hbd) ?_
  refine wp_aload_n dX10_addDefaults_9 rfl rfl (by first | exact Or.inl (by decide) | exact Or.inl (by omega) | exact Or.inr (by decide) | exact Or.inr (by omega)) ?_
  refine wp_getR dX10_addDefaults_10 fX10_142 (show KD[b]? = some (7, 19) from kdb_0 hbd) (by omega) ?_
  refine wp_topR (x' := (b + 34)) (grb_0_5 hbd) ?_
  refine wp_pc (pc' := 13) rfl ?_
  refine wp_aload_n dX10_addDefaults_13 rfl rfl (by first | exact Or.inl (by decide) | exact Or.inl (by omega) | exact Or.inr (by decide) | exact Or.inr (by omega)) ?_
  refine wp_getI dX10_addDefaults_14 fX10_9 rfl (by decide) ?_
  have c0 := h.1
  replace h := h.2
  refine wp_iald dX10_addDefaults_17 (kdb_34 hbd) (by omega) c0 ?_
  refine wp_cVq (n := 1) (mt' := mX5_ruleOf) (as := [vI (MI (b + 34) (MI 10 1).toNat)]) (rest := []) _ dX10_addDefaults_18 lX10_145 kX5_ruleOf vX5_ruleOf (by decide) (by decide +kernel) rfl (Nat.le_of_ble_eq_true rfl) (by omega) (kdb_1 hbd) rfl rfl (Nat.le_of_ble_eq_true rfl) (fun hM hS => h) (fun r M' hq hM => ?_)
  obtain ⟨x18, m18, n18, rfl, rfl, h⟩ := rI_out hq
  refine wp_istore_n dX10_addDefaults_21 rfl (by decide) (wp_L (L' := [some (vR 10), some (vR b), some (vR (b + 20)), some (vI x18), none, none, none]) rfl ?_)
  refine wp_iconst dX10_addDefaults_22 (by decide) ?_
  refine wp_istore dX10_addDefaults_23 (by decide) (wp_L (L' := [some (vR 10), some (vR b), some (vR (b + 20)), some (vI x18), some (vI 0), none, none]) rfl ?_)
  exact h
theorem v_X10_addDefaults_25 {cs : Cs} {Q : Option AV → Mm → Prop} {MI ML : Nat → Nat → Int} {b d e nw th : Nat} {l3 l4 : Int} (hbd : b = 38 ∨ b = 81)
    (h : ((l4 < 10 → ((l3 = (-1) → Q (some (vI 1)) (MI, ML, (GR d e nw th 1))) ∧ (l3 ≠ (-1) → (0 ≤ l3 ∧ l3 < 750) ∧ wp cs mX7_hasValue KD (rI (GR d e nw th 1) fun x47 m47 n47 => ((x47 = 0 → (-2147483648 ≤ l4 + 1 ∧ l4 + 1 < 2147483648) ∧ wp cs mX10_addDefaults KD Q 25 [some (vR 10), some (vR b), some (vR (b + 20)), some (vI (m47 (b + 29) l3.toNat)), some (vI (l4 + 1)), none, none] [] (KD, m47, n47, (GR d e nw th 1))) ∧ (x47 ≠ 0 → wp cs mX3_attributeOf KD (rI (GR d e nw th 1) fun x60 m60 n60 => ((x60 = (-1) → wp cs mX10_addAttribute KD (rI (GR d e nw th 1) fun x71 m71 n71 => ((x71 = (-1) → Q (some (vI 0)) (m71, n71, (GR d e nw th 1))) ∧ (x71 ≠ (-1) → (0 ≤ x71 ∧ x71 < 600) ∧ ∀ m96, m96 = up2 m71 (b + 39) x71.toNat (m71 (b + 27) l3.toNat) → ∀ m109, m109 = up2 m96 (b + 40) x71.toNat (m96 (b + 28) l3.toNat) → ∀ m117, m117 = up2 m109 (b + 37) x71.toNat 1 → (-2147483648 ≤ l4 + 1 ∧ l4 + 1 < 2147483648) ∧ wp cs mX10_addDefaults KD Q 25 [some (vR 10), some (vR b), some (vR (b + 20)), some (vI (m117 (b + 29) l3.toNat)), some (vI (l4 + 1)), none, none] [] (KD, m117, n71, (GR d e nw th 1))))) 0 (padL [vR 10, vR b, vI (MI (b + 21) l3.toNat)] 3) [] (KD, m60, n60, (GR d e nw th 1))) ∧ (x60 ≠ (-1) → (-2147483648 ≤ l4 + 1 ∧ l4 + 1 < 2147483648) ∧ wp cs mX10_addDefaults KD Q 25 [some (vR 10), some (vR b), some (vR (b + 20)), some (vI (m60 (b + 29) l3.toNat)), some (vI (l4 + 1)), none, none] [] (KD, m60, n60, (GR d e nw th 1))))) 0 (padL [vR b, vI (m47 10 1), vI (MI (b + 21) l3.toNat)] 4) [] (KD, m47, n47, (GR d e nw th 1))))) 0 (padL [vR (b + 20), vI l3] 2) [] (KD, MI, ML, (GR d e nw th 1))))) ∧ (10 ≤ l4 → Q (some (vI 1)) (MI, ML, (GR d e nw th 1))))) :
    wp cs mX10_addDefaults KD Q 25 [some (vR 10), some (vR b), some (vR (b + 20)), some (vI l3), some (vI l4), none, none] [] (KD, MI, ML, (GR d e nw th 1)) := by
  refine wp_iload dX10_addDefaults_25 rfl ?_
  refine wp_bipush dX10_addDefaults_27 (by decide +kernel) (by decide) ?_
  refine wp_icmp_ge (tgt := 131) dX10_addDefaults_29 (by decide) (fun h29 => ?_) (fun h29 => ?_)
  · replace h := h.2 h29
    refine wp_iconst dX10_addDefaults_131 (by decide) ?_
    exact wp_zret dX10_addDefaults_132 rfl (by decide) (fun _ => h)
  · replace h := h.1 h29
    refine wp_iload_n dX10_addDefaults_32 rfl rfl ?_
    refine wp_iconst dX10_addDefaults_33 (by decide) ?_
    refine wp_icmp_eq (tgt := 131) dX10_addDefaults_34 (by decide) (fun h34 => ?_) (fun h34 => ?_)
    · replace h := h.1 h34
      refine wp_iconst dX10_addDefaults_131 (by decide) ?_
      exact wp_zret dX10_addDefaults_132 rfl (by decide) (fun _ => h)
    · replace h := h.2 h34
      refine wp_aload_n dX10_addDefaults_37 rfl rfl (by first | exact Or.inl (by decide) | exact Or.inl (by omega) | exact Or.inr (by decide) | exact Or.inr (by omega)) ?_
      refine wp_getR dX10_addDefaults_38 fX10_151 (kdb_20 hbd) (by omega) ?_
      refine wp_topR (x' := (b + 21)) (grb_20_0 hbd) ?_
      refine wp_iload_n dX10_addDefaults_41 rfl rfl ?_
      have c0 := h.1
      replace h := h.2
      refine wp_iald dX10_addDefaults_42 (kdb_21 hbd) (by omega) c0 ?_
      refine wp_istore dX10_addDefaults_43 (by decide) (wp_L (L' := [some (vR 10), some (vR b), some (vR (b + 20)), some (vI l3), some (vI l4), some (vI (MI (b + 21) l3.toNat)), none]) rfl ?_)
      refine wp_aload_n dX10_addDefaults_45 rfl rfl (by first | exact Or.inl (by decide) | exact Or.inl (by omega) | exact Or.inr (by decide) | exact Or.inr (by omega)) ?_
      refine wp_iload_n dX10_addDefaults_46 rfl rfl ?_
      refine wp_pc (pc' := 47) rfl ?_
      refine wp_cVq (n := 1) (mt' := mX7_hasValue) (as := [vI l3]) (rest := []) _ dX10_addDefaults_47 lX10_154 kX7_hasValue vX7_hasValue (by decide) (by decide +kernel) rfl (Nat.le_of_ble_eq_true rfl) (by omega) (kdb_20 hbd) rfl rfl (Nat.le_of_ble_eq_true rfl) (fun hM hS => h) (fun r M' hq hM => ?_)
      obtain ⟨x47, m47, n47, rfl, rfl, h⟩ := rI_out hq
      refine wp_if_eq (tgt := 118) dX10_addDefaults_50 (by decide) (fun h50 => ?_) (fun h50 => ?_)
      · replace h := h.1 h50
        refine wp_aload_n dX10_addDefaults_118 rfl rfl (by first | exact Or.inl (by decide) | exact Or.inl (by omega) | exact Or.inr (by decide) | exact Or.inr (by omega)) ?_
        refine wp_getR dX10_addDefaults_119 fX10_170 (kdb_20 hbd) (by omega) ?_
        refine wp_topR (x' := (b + 29)) (grb_20_8 hbd) ?_
        refine wp_iload_n dX10_addDefaults_122 rfl rfl ?_
        refine wp_iald dX10_addDefaults_123 (kdb_29 hbd) (by omega) c0 ?_
        refine wp_istore_n dX10_addDefaults_124 rfl (by decide) (wp_L (L' := [some (vR 10), some (vR b), some (vR (b + 20)), some (vI (m47 (b + 29) l3.toNat)), some (vI l4), some (vI (MI (b + 21) l3.toNat)), none]) rfl ?_)
        have c1 := h.1
        replace h := h.2
        refine wp_iincr dX10_addDefaults_125 rfl (by decide) c1 (wp_L (L' := [some (vR 10), some (vR b), some (vR (b + 20)), some (vI (m47 (b + 29) l3.toNat)), some (vI (l4 + 1)), some (vI (MI (b + 21) l3.toNat)), none]) rfl ?_)
        refine wp_goto (tgt := 25) dX10_addDefaults_128 (by decide) ?_
        refine wp_forget (L' := [some (vR 10), some (vR b), some (vR (b + 20)), some (vI (m47 (b + 29) l3.toNat)), some (vI (l4 + 1)), none, none]) (by repeat' (first | exact trivial | refine ⟨rfl, ?_⟩)) ?_
        exact h
      · replace h := h.2 h50
        refine wp_aload_n dX10_addDefaults_53 rfl rfl (by first | exact Or.inl (by decide) | exact Or.inl (by omega) | exact Or.inr (by decide) | exact Or.inr (by omega)) ?_
        refine wp_aload_n dX10_addDefaults_54 rfl rfl (by first | exact Or.inl (by decide) | exact Or.inl (by omega) | exact Or.inr (by decide) | exact Or.inr (by omega)) ?_
        refine wp_getI dX10_addDefaults_55 fX10_9 rfl (by decide) ?_
        refine wp_iload dX10_addDefaults_58 rfl ?_
        refine wp_cVq (n := 2) (mt' := mX3_attributeOf) (as := [vI (m47 10 1), vI (MI (b + 21) l3.toNat)]) (rest := []) _ dX10_addDefaults_60 lX10_113 kX3_attributeOf vX3_attributeOf (by decide) (by decide +kernel) rfl (Nat.le_of_ble_eq_true rfl) (by omega) (show KD[b]? = some (7, 19) from kdb_0 hbd) rfl rfl (Nat.le_of_ble_eq_true rfl) (fun hM hS => h) (fun r M' hq hM => ?_)
        obtain ⟨x60, m60, n60, rfl, rfl, h⟩ := rI_out hq
        refine wp_iconst dX10_addDefaults_63 (by decide) ?_
        refine wp_icmp_ne (tgt := 118) dX10_addDefaults_64 (by decide) (fun h64 => ?_) (fun h64 => ?_)
        · replace h := h.2 h64
          refine wp_aload_n dX10_addDefaults_118 rfl rfl (by first | exact Or.inl (by decide) | exact Or.inl (by omega) | exact Or.inr (by decide) | exact Or.inr (by omega)) ?_
          refine wp_getR dX10_addDefaults_119 fX10_170 (kdb_20 hbd) (by omega) ?_
          refine wp_topR (x' := (b + 29)) (grb_20_8 hbd) ?_
          refine wp_iload_n dX10_addDefaults_122 rfl rfl ?_
          refine wp_iald dX10_addDefaults_123 (kdb_29 hbd) (by omega) c0 ?_
          refine wp_istore_n dX10_addDefaults_124 rfl (by decide) (wp_L (L' := [some (vR 10), some (vR b), some (vR (b + 20)), some (vI (m60 (b + 29) l3.toNat)), some (vI l4), some (vI (MI (b + 21) l3.toNat)), none]) rfl ?_)
          have c1 := h.1
          replace h := h.2
          refine wp_iincr dX10_addDefaults_125 rfl (by decide) c1 (wp_L (L' := [some (vR 10), some (vR b), some (vR (b + 20)), some (vI (m60 (b + 29) l3.toNat)), some (vI (l4 + 1)), some (vI (MI (b + 21) l3.toNat)), none]) rfl ?_)
          refine wp_goto (tgt := 25) dX10_addDefaults_128 (by decide) ?_
          refine wp_forget (L' := [some (vR 10), some (vR b), some (vR (b + 20)), some (vI (m60 (b + 29) l3.toNat)), some (vI (l4 + 1)), none, none]) (by repeat' (first | exact trivial | refine ⟨rfl, ?_⟩)) ?_
          exact h
        · replace h := h.1 h64
          refine wp_aload_n dX10_addDefaults_67 rfl rfl (by first | exact Or.inl (by decide) | exact Or.inl (by omega) | exact Or.inr (by decide) | exact Or.inr (by omega)) ?_
          refine wp_aload_n dX10_addDefaults_68 rfl rfl (by first | exact Or.inl (by decide) | exact Or.inl (by omega) | exact Or.inr (by decide) | exact Or.inr (by omega)) ?_
          refine wp_iload dX10_addDefaults_69 rfl ?_
          refine wp_cVq (n := 2) (mt' := mX10_addAttribute) (as := [vR b, vI (MI (b + 21) l3.toNat)]) (rest := []) _ dX10_addDefaults_71 lX10_116 kX10_addAttribute vX10_addAttribute (by decide) (by decide +kernel) rfl (Nat.le_of_ble_eq_true rfl) (by decide) rfl rfl rfl (Nat.le_of_ble_eq_true rfl) (fun hM hS => h) (fun r M' hq hM => ?_)
          obtain ⟨x71, m71, n71, rfl, rfl, h⟩ := rI_out hq
          refine wp_istore dX10_addDefaults_74 (by decide) (wp_L (L' := [some (vR 10), some (vR b), some (vR (b + 20)), some (vI l3), some (vI l4), some (vI (MI (b + 21) l3.toNat)), some (vI x71)]) rfl ?_)
          refine wp_iload dX10_addDefaults_76 rfl ?_
          refine wp_iconst dX10_addDefaults_78 (by decide) ?_
          refine wp_icmp_ne (tgt := 84) dX10_addDefaults_79 (by decide) (fun h79 => ?_) (fun h79 => ?_)
          · replace h := h.2 h79
            refine wp_aload_n dX10_addDefaults_84 rfl rfl (by first | exact Or.inl (by decide) | exact Or.inl (by omega) | exact Or.inr (by decide) | exact Or.inr (by omega)) ?_
            refine wp_getR dX10_addDefaults_85 fX10_158 (show KD[b]? = some (7, 19) from kdb_0 hbd) (by omega) ?_
            refine wp_topR (x' := (b + 39)) (grb_0_10 hbd) ?_
            refine wp_iload dX10_addDefaults_88 rfl ?_
            refine wp_aload_n dX10_addDefaults_90 rfl rfl (by first | exact Or.inl (by decide) | exact Or.inl (by omega) | exact Or.inr (by decide) | exact Or.inr (by omega)) ?_
            refine wp_getR dX10_addDefaults_91 fX10_161 (kdb_20 hbd) (by omega) ?_
            refine wp_topR (x' := (b + 27)) (grb_20_6 hbd) ?_
            refine wp_iload_n dX10_addDefaults_94 rfl rfl ?_
            refine wp_iald dX10_addDefaults_95 (kdb_27 hbd) (by omega) c0 ?_
            refine wp_pc (pc' := 96) rfl ?_
            have c1 := h.1
            replace h := h.2
            refine wp_iast dX10_addDefaults_96 (kdb_39 hbd) (by omega) c1 ?_
            refine wp_gI (fun m96 e96 => ?_)
            replace h := h m96 e96
            refine wp_aload_n dX10_addDefaults_97 rfl rfl (by first | exact Or.inl (by decide) | exact Or.inl (by omega) | exact Or.inr (by decide) | exact Or.inr (by omega)) ?_
            refine wp_getR dX10_addDefaults_98 fX10_128 (show KD[b]? = some (7, 19) from kdb_0 hbd) (by omega) ?_
            refine wp_topR (x' := (b + 40)) (grb_0_11 hbd) ?_
            refine wp_iload dX10_addDefaults_101 rfl ?_
            refine wp_aload_n dX10_addDefaults_103 rfl rfl (by first | exact Or.inl (by decide) | exact Or.inl (by omega) | exact Or.inr (by decide) | exact Or.inr (by omega)) ?_
            refine wp_getR dX10_addDefaults_104 fX10_164 (kdb_20 hbd) (by omega) ?_
            refine wp_topR (x' := (b + 28)) (grb_20_7 hbd) ?_
            refine wp_iload_n dX10_addDefaults_107 rfl rfl ?_
            refine wp_iald dX10_addDefaults_108 (kdb_28 hbd) (by omega) c0 ?_
            refine wp_pc (pc' := 109) rfl ?_
            refine wp_iast dX10_addDefaults_109 (kdb_40 hbd) (by omega) c1 ?_
            refine wp_gI (fun m109 e109 => ?_)
            replace h := h m109 e109
            refine wp_aload_n dX10_addDefaults_110 rfl rfl (by first | exact Or.inl (by decide) | exact Or.inl (by omega) | exact Or.inr (by decide) | exact Or.inr (by omega)) ?_
            refine wp_getR dX10_addDefaults_111 fX10_167 (show KD[b]? = some (7, 19) from kdb_0 hbd) (by omega) ?_
            refine wp_topR (x' := (b + 37)) (grb_0_8 hbd) ?_
            refine wp_iload dX10_addDefaults_114 rfl ?_
            refine wp_iconst dX10_addDefaults_116 (by decide) ?_
            refine wp_iast dX10_addDefaults_117 (kdb_37 hbd) (by omega) c1 ?_
            refine wp_gI (fun m117 e117 => ?_)
            replace h := h m117 e117
            refine wp_aload_n dX10_addDefaults_118 rfl rfl (by first | exact Or.inl (by decide) | exact Or.inl (by omega) | exact Or.inr (by decide) | exact Or.inr (by omega)) ?_
            refine wp_getR dX10_addDefaults_119 fX10_170 (kdb_20 hbd) (by omega) ?_
            refine wp_topR (x' := (b + 29)) (grb_20_8 hbd) ?_
            refine wp_pc (pc' := 122) rfl ?_
            refine wp_iload_n dX10_addDefaults_122 rfl rfl ?_
            refine wp_iald dX10_addDefaults_123 (kdb_29 hbd) (by omega) c0 ?_
            refine wp_istore_n dX10_addDefaults_124 rfl (by decide) (wp_L (L' := [some (vR 10), some (vR b), some (vR (b + 20)), some (vI (m117 (b + 29) l3.toNat)), some (vI l4), some (vI (MI (b + 21) l3.toNat)), some (vI x71)]) rfl ?_)
            have c2 := h.1
            replace h := h.2
            refine wp_iincr dX10_addDefaults_125 rfl (by decide) c2 (wp_L (L' := [some (vR 10), some (vR b), some (vR (b + 20)), some (vI (m117 (b + 29) l3.toNat)), some (vI (l4 + 1)), some (vI (MI (b + 21) l3.toNat)), some (vI x71)]) rfl ?_)
            refine wp_goto (tgt := 25) dX10_addDefaults_128 (by decide) ?_
            refine wp_forget (L' := [some (vR 10), some (vR b), some (vR (b + 20)), some (vI (m117 (b + 29) l3.toNat)), some (vI (l4 + 1)), none, none]) (by repeat' (first | exact trivial | refine ⟨rfl, ?_⟩)) ?_
            exact h
          · replace h := h.1 h79
            refine wp_iconst dX10_addDefaults_82 (by decide) ?_
            exact wp_zret dX10_addDefaults_83 rfl (by decide) (fun _ => h)
theorem dX10_leave_0 : decode cX10_leave 0 = .ok (.aload_n 1, 1) := by decide +kernel
theorem dX10_leave_1 : decode cX10_leave 1 = .ok (.aload_n 0, 1) := by decide +kernel
theorem dX10_leave_2 : decode cX10_leave 2 = .ok (.getfield 9, 3) := by decide +kernel
theorem dX10_leave_5 : decode cX10_leave 5 = .ok (.invokevirtual 60, 3) := by decide +kernel
theorem dX10_leave_8 : decode cX10_leave 8 = .ok (.aload_n 0, 1) := by decide +kernel
theorem dX10_leave_9 : decode cX10_leave 9 = .ok (.aload_n 1, 1) := by decide +kernel
theorem dX10_leave_10 : decode cX10_leave 10 = .ok (.getfield 192, 3) := by decide +kernel
theorem dX10_leave_13 : decode cX10_leave 13 = .ok (.aload_n 0, 1) := by decide +kernel
theorem dX10_leave_14 : decode cX10_leave 14 = .ok (.getfield 9, 3) := by decide +kernel
theorem dX10_leave_17 : decode cX10_leave 17 = .ok (.iaload, 1) := by decide +kernel
theorem dX10_leave_18 : decode cX10_leave 18 = .ok (.putfield 9, 3) := by decide +kernel
theorem dX10_leave_21 : decode cX10_leave 21 = .ok (.aload_n 0, 1) := by decide +kernel
theorem dX10_leave_22 : decode cX10_leave 22 = .ok (.dup, 1) := by decide +kernel
theorem dX10_leave_23 : decode cX10_leave 23 = .ok (.getfield 15, 3) := by decide +kernel
theorem dX10_leave_26 : decode cX10_leave 26 = .ok (.iconst 1, 1) := by decide +kernel
theorem dX10_leave_27 : decode cX10_leave 27 = .ok (.isub, 1) := by decide +kernel
theorem dX10_leave_28 : decode cX10_leave 28 = .ok (.putfield 15, 3) := by decide +kernel
theorem dX10_leave_31 : decode cX10_leave 31 = .ok (.return_, 1) := by decide +kernel
theorem v_X10_leave_0 {cs : Cs} {Q : Option AV → Mm → Prop} {MI ML : Nat → Nat → Int} {b d e nw th : Nat} (hbd : b = 38 ∨ b = 81)
    (h : wp cs mX3_close KD (rV (GR d e nw th 1) fun m5 n5 => (0 ≤ (m5 10 1) ∧ (m5 10 1) < 600) ∧ ∀ m18, m18 = up2 m5 10 1 (m5 (b + 33) (m5 10 1).toNat) → (-2147483648 ≤ (m18 10 2) - 1 ∧ (m18 10 2) - 1 < 2147483648) ∧ ∀ m28, m28 = up2 m18 10 2 ((m18 10 2) - 1) → Q none (m28, n5, (GR d e nw th 1))) 0 (padL [vR b, vI (MI 10 1)] 2) [] (KD, MI, ML, (GR d e nw th 1))) :
    wp cs mX10_leave KD Q 0 (padL [vR 10, vR b] 2) [] (KD, MI, ML, (GR d e nw th 1)) := by
  refine wp_L (L' := [some (vR 10), some (vR b)]) rfl ?_
  refine wp_aload_n dX10_leave_0 rfl rfl (by first | exact Or.inl (by decide) | exact Or.inl (by omega) | exact Or.inr (by decide) | exact Or.inr (by omega)) ?_
  refine wp_aload_n dX10_leave_1 rfl rfl (by first | exact Or.inl (by decide) | exact Or.inl (by omega) | exact Or.inr (by decide) | exact Or.inr (by omega)) ?_
  refine wp_getI dX10_leave_2 fX10_9 rfl (by decide) ?_
  refine wp_cVq (n := 1) (mt' := mX3_close) (as := [vI (MI 10 1)]) (rest := []) _ dX10_leave_5 lX10_60 kX3_close vX3_close (by decide) (by decide +kernel) rfl (Nat.le_of_ble_eq_true rfl) (by omega) (show KD[b]? = some (7, 19) from kdb_0 hbd) rfl rfl (Nat.le_of_ble_eq_true rfl) (fun hM hS => h) (fun r M' hq hM => ?_)
  obtain ⟨m5, n5, rfl, rfl, h⟩ := rV_out hq
  refine wp_aload_n dX10_leave_8 rfl rfl (by first | exact Or.inl (by decide) | exact Or.inl (by omega) | exact Or.inr (by decide) | exact Or.inr (by omega)) ?_
  refine wp_aload_n dX10_leave_9 rfl rfl (by first | exact Or.inl (by decide) | exact Or.inl (by omega) | exact Or.inr (by decide) | exact Or.inr (by omega)) ?_
  refine wp_getR dX10_leave_10 fX10_192 (show KD[b]? = some (7, 19) from kdb_0 hbd) (by omega) ?_
  refine wp_topR (x' := (b + 33)) (grb_0_4 hbd) ?_
  refine wp_aload_n dX10_leave_13 rfl rfl (by first | exact Or.inl (by decide) | exact Or.inl (by omega) | exact Or.inr (by decide) | exact Or.inr (by omega)) ?_
  refine wp_getI dX10_leave_14 fX10_9 rfl (by decide) ?_
  have c0 := h.1
  replace h := h.2
  refine wp_iald dX10_leave_17 (kdb_33 hbd) (by omega) c0 ?_
  refine wp_putI dX10_leave_18 pX10_9 rfl (by decide) ?_
  refine wp_gI (fun m18 e18 => ?_)
  replace h := h m18 e18
  refine wp_pc (pc' := 21) rfl ?_
  refine wp_aload_n dX10_leave_21 rfl rfl (by first | exact Or.inl (by decide) | exact Or.inl (by omega) | exact Or.inr (by decide) | exact Or.inr (by omega)) ?_
  refine wp_dup dX10_leave_22 (fun x e => by cases e) ?_
  refine wp_getI dX10_leave_23 fX10_15 rfl (by decide) ?_
  refine wp_iconst dX10_leave_26 (by decide) ?_
  have c1 := h.1
  replace h := h.2
  refine wp_isubr dX10_leave_27 c1 ?_
  refine wp_putI dX10_leave_28 pX10_15 rfl (by decide) ?_
  refine wp_gI (fun m28 e28 => ?_)
  replace h := h m28 e28
  exact wp_vret dX10_leave_31 rfl (fun _ => h)
theorem dX10_readTag_0 : decode cX10_readTag 0 = .ok (.aload_n 0, 1) := by decide +kernel
theorem dX10_readTag_1 : decode cX10_readTag 1 = .ok (.getfield 18, 3) := by decide +kernel
theorem dX10_readTag_4 : decode cX10_readTag 4 = .ok (.invokevirtual 64, 3) := by decide +kernel
theorem dX10_readTag_7 : decode cX10_readTag 7 = .ok (.ifCond .ne 5, 3) := by decide +kernel
theorem dX10_readTag_10 : decode cX10_readTag 10 = .ok (.iconst 0, 1) := by decide +kernel
theorem dX10_readTag_11 : decode cX10_readTag 11 = .ok (.ireturn, 1) := by decide +kernel
theorem dX10_readTag_12 : decode cX10_readTag 12 = .ok (.aload_n 0, 1) := by decide +kernel
theorem dX10_readTag_13 : decode cX10_readTag 13 = .ok (.getfield 18, 3) := by decide +kernel
theorem dX10_readTag_16 : decode cX10_readTag 16 = .ok (.getfield 67, 3) := by decide +kernel
theorem dX10_readTag_19 : decode cX10_readTag 19 = .ok (.istore_n 2, 1) := by decide +kernel
theorem dX10_readTag_20 : decode cX10_readTag 20 = .ok (.aload_n 0, 1) := by decide +kernel
theorem dX10_readTag_21 : decode cX10_readTag 21 = .ok (.getfield 15, 3) := by decide +kernel
theorem dX10_readTag_24 : decode cX10_readTag 24 = .ok (.bipush 30, 2) := by decide +kernel
theorem dX10_readTag_26 : decode cX10_readTag 26 = .ok (.if_icmp .ge 26, 3) := by decide +kernel
theorem dX10_readTag_29 : decode cX10_readTag 29 = .ok (.aload_n 1, 1) := by decide +kernel
theorem dX10_readTag_30 : decode cX10_readTag 30 = .ok (.iconst 1, 1) := by decide +kernel
theorem dX10_readTag_31 : decode cX10_readTag 31 = .ok (.aload_n 0, 1) := by decide +kernel
theorem dX10_readTag_32 : decode cX10_readTag 32 = .ok (.getfield 9, 3) := by decide +kernel
theorem dX10_readTag_35 : decode cX10_readTag 35 = .ok (.aload_n 1, 1) := by decide +kernel
theorem dX10_readTag_36 : decode cX10_readTag 36 = .ok (.getfield 70, 3) := by decide +kernel
theorem dX10_readTag_39 : decode cX10_readTag 39 = .ok (.aload_n 0, 1) := by decide +kernel
theorem dX10_readTag_40 : decode cX10_readTag 40 = .ok (.getfield 18, 3) := by decide +kernel
theorem dX10_readTag_43 : decode cX10_readTag 43 = .ok (.invokevirtual 74, 3) := by decide +kernel
theorem dX10_readTag_46 : decode cX10_readTag 46 = .ok (.invokevirtual 22, 3) := by decide +kernel
theorem dX10_readTag_49 : decode cX10_readTag 49 = .ok (.goto 4, 3) := by decide +kernel
theorem dX10_readTag_52 : decode cX10_readTag 52 = .ok (.iconst (-1), 1) := by decide +kernel
theorem dX10_readTag_53 : decode cX10_readTag 53 = .ok (.istore_n 3, 1) := by decide +kernel
theorem dX10_readTag_54 : decode cX10_readTag 54 = .ok (.iload_n 3, 1) := by decide +kernel
theorem dX10_readTag_55 : decode cX10_readTag 55 = .ok (.iconst (-1), 1) := by decide +kernel
theorem dX10_readTag_56 : decode cX10_readTag 56 = .ok (.if_icmp .ne 14, 3) := by decide +kernel
theorem dX10_readTag_59 : decode cX10_readTag 59 = .ok (.aload_n 0, 1) := by decide +kernel
theorem dX10_readTag_60 : decode cX10_readTag 60 = .ok (.getfield 18, 3) := by decide +kernel
theorem dX10_readTag_63 : decode cX10_readTag 63 = .ok (.bipush (-3), 2) := by decide +kernel
theorem dX10_readTag_65 : decode cX10_readTag 65 = .ok (.iload_n 2, 1) := by decide +kernel
theorem dX10_readTag_66 : decode cX10_readTag 66 = .ok (.invokevirtual 80, 3) := by decide +kernel
theorem dX10_readTag_69 : decode cX10_readTag 69 = .ok (.ireturn, 1) := by decide +kernel
theorem dX10_readTag_70 : decode cX10_readTag 70 = .ok (.aload_n 0, 1) := by decide +kernel
theorem dX10_readTag_71 : decode cX10_readTag 71 = .ok (.iload_n 3, 1) := by decide +kernel
theorem dX10_readTag_72 : decode cX10_readTag 72 = .ok (.putfield 9, 3) := by decide +kernel
theorem dX10_readTag_75 : decode cX10_readTag 75 = .ok (.aload_n 0, 1) := by decide +kernel
theorem dX10_readTag_76 : decode cX10_readTag 76 = .ok (.dup, 1) := by decide +kernel
theorem dX10_readTag_77 : decode cX10_readTag 77 = .ok (.getfield 15, 3) := by decide +kernel
theorem dX10_readTag_80 : decode cX10_readTag 80 = .ok (.iconst 1, 1) := by decide +kernel
theorem dX10_readTag_81 : decode cX10_readTag 81 = .ok (.iadd, 1) := by decide +kernel
theorem dX10_readTag_82 : decode cX10_readTag 82 = .ok (.putfield 15, 3) := by decide +kernel
theorem dX10_readTag_85 : decode cX10_readTag 85 = .ok (.aload_n 1, 1) := by decide +kernel
theorem dX10_readTag_86 : decode cX10_readTag 86 = .ok (.aload_n 1, 1) := by decide +kernel
theorem dX10_readTag_87 : decode cX10_readTag 87 = .ok (.getfield 84, 3) := by decide +kernel
theorem dX10_readTag_90 : decode cX10_readTag 90 = .ok (.aload_n 0, 1) := by decide +kernel
theorem dX10_readTag_91 : decode cX10_readTag 91 = .ok (.getfield 15, 3) := by decide +kernel
theorem dX10_readTag_94 : decode cX10_readTag 94 = .ok (.invokestatic 87, 3) := by decide +kernel
theorem dX10_readTag_97 : decode cX10_readTag 97 = .ok (.putfield 84, 3) := by decide +kernel
theorem dX10_readTag_100 : decode cX10_readTag 100 = .ok (.iconst 0, 1) := by decide +kernel
theorem dX10_readTag_101 : decode cX10_readTag 101 = .ok (.istore 4, 2) := by decide +kernel
theorem dX10_readTag_103 : decode cX10_readTag 103 = .ok (.iload 4, 2) := by decide +kernel
theorem dX10_readTag_105 : decode cX10_readTag 105 = .ok (.aload_n 0, 1) := by decide +kernel
theorem dX10_readTag_106 : decode cX10_readTag 106 = .ok (.getfield 18, 3) := by decide +kernel
theorem dX10_readTag_109 : decode cX10_readTag 109 = .ok (.getfield 40, 3) := by decide +kernel
theorem dX10_readTag_112 : decode cX10_readTag 112 = .ok (.if_icmp .ge 29, 3) := by decide +kernel
theorem dX10_readTag_115 : decode cX10_readTag 115 = .ok (.aload_n 0, 1) := by decide +kernel
theorem dX10_readTag_116 : decode cX10_readTag 116 = .ok (.getfield 18, 3) := by decide +kernel
theorem dX10_readTag_119 : decode cX10_readTag 119 = .ok (.invokevirtual 93, 3) := by decide +kernel
theorem dX10_readTag_122 : decode cX10_readTag 122 = .ok (.ifCond .eq 19, 3) := by decide +kernel
theorem dX10_readTag_125 : decode cX10_readTag 125 = .ok (.aload_n 0, 1) := by decide +kernel
theorem dX10_readTag_126 : decode cX10_readTag 126 = .ok (.aload_n 1, 1) := by decide +kernel
theorem dX10_readTag_127 : decode cX10_readTag 127 = .ok (.invokevirtual 96, 3) := by decide +kernel
theorem dX10_readTag_130 : decode cX10_readTag 130 = .ok (.ifCond .ne 5, 3) := by decide +kernel
theorem dX10_readTag_133 : decode cX10_readTag 133 = .ok (.iconst 0, 1) := by decide +kernel
theorem dX10_readTag_134 : decode cX10_readTag 134 = .ok (.ireturn, 1) := by decide +kernel
theorem dX10_readTag_135 : decode cX10_readTag 135 = .ok (.iinc 4 1, 3) := by decide +kernel
theorem dX10_readTag_138 : decode cX10_readTag 138 = .ok (.goto (-35), 3) := by decide +kernel
theorem dX10_readTag_141 : decode cX10_readTag 141 = .ok (.aload_n 0, 1) := by decide +kernel
theorem dX10_readTag_142 : decode cX10_readTag 142 = .ok (.getfield 18, 3) := by decide +kernel
theorem dX10_readTag_145 : decode cX10_readTag 145 = .ok (.getfield 99, 3) := by decide +kernel
theorem dX10_readTag_148 : decode cX10_readTag 148 = .ok (.istore 4, 2) := by decide +kernel
theorem dX10_readTag_150 : decode cX10_readTag 150 = .ok (.aload_n 0, 1) := by decide +kernel
theorem dX10_readTag_151 : decode cX10_readTag 151 = .ok (.getfield 18, 3) := by decide +kernel
theorem dX10_readTag_154 : decode cX10_readTag 154 = .ok (.ldc 102, 2) := by decide +kernel
theorem dX10_readTag_156 : decode cX10_readTag 156 = .ok (.invokevirtual 45, 3) := by decide +kernel
theorem dX10_readTag_159 : decode cX10_readTag 159 = .ok (.istore 5, 2) := by decide +kernel
theorem dX10_readTag_161 : decode cX10_readTag 161 = .ok (.iload 5, 2) := by decide +kernel
theorem dX10_readTag_163 : decode cX10_readTag 163 = .ok (.ifCond .ne 17, 3) := by decide +kernel
theorem dX10_readTag_166 : decode cX10_readTag 166 = .ok (.aload_n 0, 1) := by decide +kernel
theorem dX10_readTag_167 : decode cX10_readTag 167 = .ok (.getfield 18, 3) := by decide +kernel
theorem dX10_readTag_170 : decode cX10_readTag 170 = .ok (.ldc 104, 2) := by decide +kernel
theorem dX10_readTag_172 : decode cX10_readTag 172 = .ok (.invokevirtual 30, 3) := by decide +kernel
theorem dX10_readTag_175 : decode cX10_readTag 175 = .ok (.ifCond .ne 5, 3) := by decide +kernel
theorem dX10_readTag_178 : decode cX10_readTag 178 = .ok (.iconst 0, 1) := by decide +kernel
theorem dX10_readTag_179 : decode cX10_readTag 179 = .ok (.ireturn, 1) := by decide +kernel
theorem dX10_readTag_180 : decode cX10_readTag 180 = .ok (.aload_n 0, 1) := by decide +kernel
theorem dX10_readTag_181 : decode cX10_readTag 181 = .ok (.aload_n 1, 1) := by decide +kernel
theorem dX10_readTag_182 : decode cX10_readTag 182 = .ok (.invokevirtual 106, 3) := by decide +kernel
theorem dX10_readTag_185 : decode cX10_readTag 185 = .ok (.ifCond .ne 15, 3) := by decide +kernel
theorem dX10_readTag_188 : decode cX10_readTag 188 = .ok (.aload_n 0, 1) := by decide +kernel
theorem dX10_readTag_189 : decode cX10_readTag 189 = .ok (.getfield 18, 3) := by decide +kernel
theorem dX10_readTag_192 : decode cX10_readTag 192 = .ok (.bipush (-3), 2) := by decide +kernel
theorem dX10_readTag_194 : decode cX10_readTag 194 = .ok (.iload 4, 2) := by decide +kernel
theorem dX10_readTag_196 : decode cX10_readTag 196 = .ok (.invokevirtual 80, 3) := by decide +kernel
theorem dX10_readTag_199 : decode cX10_readTag 199 = .ok (.ireturn, 1) := by decide +kernel
theorem dX10_readTag_200 : decode cX10_readTag 200 = .ok (.iload 5, 2) := by decide +kernel
theorem dX10_readTag_202 : decode cX10_readTag 202 = .ok (.ifCond .eq 8, 3) := by decide +kernel
theorem dX10_readTag_205 : decode cX10_readTag 205 = .ok (.aload_n 0, 1) := by decide +kernel
theorem dX10_readTag_206 : decode cX10_readTag 206 = .ok (.aload_n 1, 1) := by decide +kernel
theorem dX10_readTag_207 : decode cX10_readTag 207 = .ok (.invokevirtual 109, 3) := by decide +kernel
theorem dX10_readTag_210 : decode cX10_readTag 210 = .ok (.iconst 1, 1) := by decide +kernel
theorem dX10_readTag_211 : decode cX10_readTag 211 = .ok (.ireturn, 1) := by decide +kernel
theorem v_X10_readTag_0 {cs : Cs} {Q : Option AV → Mm → Prop} {MI ML : Nat → Nat → Int} {b d e nw th : Nat} (hbd : b = 38 ∨ b = 81)
    (h : wp cs mX1_needName KD (rI (GR d e nw th 1) fun x4 m4 n4 => ((x4 = 0 → Q (some (vI 0)) (m4, n4, (GR d e nw th 1))) ∧ (x4 ≠ 0 → (((m4 10 2) < 30 → wp cs mX5_keep KD (rI (GR d e nw th 1) fun x43 m43 n43 => wp cs mX3_add KD (rI (GR d e nw th 1) fun x46 m46 n46 => wp cs mX10_readTag KD Q 53 [some (vR 10), some (vR b), some (vI (m4 2 3)), none, none, none] [vI x46] (KD, m46, n46, (GR d e nw th 1))) 0 (padL [vR b, vI 1, vI (m4 10 1), vI x43] 6) [] (KD, m43, n43, (GR d e nw th 1))) 0 (padL [vR (b + 1), vR 2] 5) [] (KD, m4, n4, (GR d e nw th 1))) ∧ (30 ≤ (m4 10 2) → wp cs mX10_readTag KD Q 53 [some (vR 10), some (vR b), some (vI (m4 2 3)), none, none, none] [vI (-1)] (KD, m4, n4, (GR d e nw th 1))))))) 0 (padL [vR 2] 1) [] (KD, MI, ML, (GR d e nw th 1))) :
    wp cs mX10_readTag KD Q 0 (padL [vR 10, vR b] 6) [] (KD, MI, ML, (GR d e nw th 1)) := by
  refine wp_L (L' := [some (vR 10), some (vR b), none, none, none, none]) rfl ?_
  refine wp_aload_n dX10_readTag_0 rfl rfl (by first | exact Or.inl (by decide) | exact Or.inl (by omega) | exact Or.inr (by decide) | exact Or.inr (by omega)) ?_
  refine wp_getR dX10_readTag_1 fX10_18 rfl (by decide) ?_
  refine wp_topR (x' := 2) rfl ?_
  refine wp_cVq (n := 0) (mt' := mX1_needName) (as := []) (rest := []) _ dX10_readTag_4 lX10_64 kX1_needName vX1_needName (by decide) (by decide +kernel) rfl (Nat.le_of_ble_eq_true rfl) (by decide) rfl rfl rfl (Nat.le_of_ble_eq_true rfl) (fun hM hS => h) (fun r M' hq hM => ?_)
  obtain ⟨x4, m4, n4, rfl, rfl, h⟩ := rI_out hq
  refine wp_if_ne (tgt := 12) dX10_readTag_7 (by decide) (fun h7 => ?_) (fun h7 => ?_)
  · replace h := h.2 h7
    refine wp_aload_n dX10_readTag_12 rfl rfl (by first | exact Or.inl (by decide) | exact Or.inl (by omega) | exact Or.inr (by decide) | exact Or.inr (by omega)) ?_
    refine wp_getR dX10_readTag_13 fX10_18 rfl (by decide) ?_
    refine wp_topR (x' := 2) rfl ?_
    refine wp_getI dX10_readTag_16 fX10_67 rfl (by decide) ?_
    refine wp_istore_n dX10_readTag_19 rfl (by decide) (wp_L (L' := [some (vR 10), some (vR b), some (vI (m4 2 3)), none, none, none]) rfl ?_)
    refine wp_aload_n dX10_readTag_20 rfl rfl (by first | exact Or.inl (by decide) | exact Or.inl (by omega) | exact Or.inr (by decide) | exact Or.inr (by omega)) ?_
    refine wp_getI dX10_readTag_21 fX10_15 rfl (by decide) ?_
    refine wp_bipush dX10_readTag_24 (by decide +kernel) (by decide) ?_
    refine wp_pc (pc' := 26) rfl ?_
    refine wp_icmp_ge (tgt := 52) dX10_readTag_26 (by decide) (fun h26 => ?_) (fun h26 => ?_)
    · replace h := h.2 h26
      refine wp_iconst dX10_readTag_52 (by decide) ?_
      exact h
    · replace h := h.1 h26
      refine wp_aload_n dX10_readTag_29 rfl rfl (by first | exact Or.inl (by decide) | exact Or.inl (by omega) | exact Or.inr (by decide) | exact Or.inr (by omega)) ?_
      refine wp_iconst dX10_readTag_30 (by decide) ?_
      refine wp_aload_n dX10_readTag_31 rfl rfl (by first | exact Or.inl (by decide) | exact Or.inl (by omega) | exact Or.inr (by decide) | exact Or.inr (by omega)) ?_
      refine wp_getI dX10_readTag_32 fX10_9 rfl (by decide) ?_
      refine wp_aload_n dX10_readTag_35 rfl rfl (by first | exact Or.inl (by decide) | exact Or.inl (by omega) | exact Or.inr (by decide) | exact Or.inr (by omega)) ?_
      refine wp_getR dX10_readTag_36 fX10_70 (show KD[b]? = some (7, 19) from kdb_0 hbd) (by omega) ?_
      refine wp_topR (x' := (b + 1)) (grb_0_0 hbd) ?_
      refine wp_aload_n dX10_readTag_39 rfl rfl (by first | exact Or.inl (by decide) | exact Or.inl (by omega) | exact Or.inr (by decide) | exact Or.inr (by omega)) ?_
      refine wp_pc (pc' := 40) rfl ?_
      refine wp_getR dX10_readTag_40 fX10_18 rfl (by decide) ?_
      refine wp_topR (x' := 2) rfl ?_
      refine wp_cVq (n := 1) (mt' := mX5_keep) (as := [vR 2]) (rest := [vI (m4 10 1), vI 1, vR b]) _ dX10_readTag_43 lX10_74 kX5_keep vX5_keep (by decide) (by decide +kernel) rfl (Nat.le_of_ble_eq_true rfl) (by omega) (kdb_1 hbd) rfl rfl (Nat.le_of_ble_eq_true rfl) (fun hM hS => h) (fun r M' hq hM => ?_)
      obtain ⟨x43, m43, n43, rfl, rfl, h⟩ := rI_out hq
      refine wp_cVq (n := 3) (mt' := mX3_add) (as := [vI 1, vI (m4 10 1), vI x43]) (rest := []) _ dX10_readTag_46 lX10_22 kX3_add vX3_add (by decide) (by decide +kernel) rfl (Nat.le_of_ble_eq_true rfl) (by omega) (show KD[b]? = some (7, 19) from kdb_0 hbd) rfl rfl (Nat.le_of_ble_eq_true rfl) (fun hM hS => h) (fun r M' hq hM => ?_)
      obtain ⟨x46, m46, n46, rfl, rfl, h⟩ := rI_out hq
      refine wp_goto (tgt := 53) dX10_readTag_49 (by decide) ?_
      exact h
  · replace h := h.1 h7
    refine wp_iconst dX10_readTag_10 (by decide) ?_
    exact wp_zret dX10_readTag_11 rfl (by decide) (fun _ => h)
theorem v_X10_readTag_53 {cs : Cs} {Q : Option AV → Mm → Prop} {MI ML : Nat → Nat → Int} {b d e nw th : Nat} {l2 s0 : Int} (hbd : b = 38 ∨ b = 81)
    (h : ((s0 = (-1) → wp cs mX1_refuse KD (rI (GR d e nw th 1) fun x66 m66 n66 => (x66 = 0 ∨ x66 = 1) ∧ Q (some (vI x66)) (m66, n66, (GR d e nw th 1))) 0 (padL [vR 2, vI (-3), vI l2] 3) [] (KD, MI, ML, (GR d e nw th 1))) ∧ (s0 ≠ (-1) → ∀ m72, m72 = up2 MI 10 1 s0 → (-2147483648 ≤ (m72 10 2) + 1 ∧ (m72 10 2) + 1 < 2147483648) ∧ ∀ m82, m82 = up2 m72 10 2 ((m72 10 2) + 1) → ∀ m97, m97 = up2 m82 b 18 (if (m82 b 18) < (m82 10 2) then (m82 10 2) else (m82 b 18)) → wp cs mX10_readTag KD Q 103 [some (vR 10), some (vR b), some (vI l2), some (vI s0), some (vI 0), none] [] (KD, m97, ML, (GR d e nw th 1))))) :
    wp cs mX10_readTag KD Q 53 [some (vR 10), some (vR b), some (vI l2), none, none, none] [vI s0] (KD, MI, ML, (GR d e nw th 1)) := by
  refine wp_istore_n dX10_readTag_53 rfl (by decide) (wp_L (L' := [some (vR 10), some (vR b), some (vI l2), some (vI s0), none, none]) rfl ?_)
  refine wp_iload_n dX10_readTag_54 rfl rfl ?_
  refine wp_iconst dX10_readTag_55 (by decide) ?_
  refine wp_icmp_ne (tgt := 70) dX10_readTag_56 (by decide) (fun h56 => ?_) (fun h56 => ?_)
  · replace h := h.2 h56
    refine wp_aload_n dX10_readTag_70 rfl rfl (by first | exact Or.inl (by decide) | exact Or.inl (by omega) | exact Or.inr (by decide) | exact Or.inr (by omega)) ?_
    refine wp_iload_n dX10_readTag_71 rfl rfl ?_
    refine wp_putI dX10_readTag_72 pX10_9 rfl (by decide) ?_
    refine wp_gI (fun m72 e72 => ?_)
    replace h := h m72 e72
    refine wp_aload_n dX10_readTag_75 rfl rfl (by first | exact Or.inl (by decide) | exact Or.inl (by omega) | exact Or.inr (by decide) | exact Or.inr (by omega)) ?_
    refine wp_dup dX10_readTag_76 (fun x e => by cases e) ?_
    refine wp_getI dX10_readTag_77 fX10_15 rfl (by decide) ?_
    refine wp_iconst dX10_readTag_80 (by decide) ?_
    refine wp_pc (pc' := 81) rfl ?_
    have c0 := h.1
    replace h := h.2
    refine wp_iaddr dX10_readTag_81 c0 ?_
    refine wp_putI dX10_readTag_82 pX10_15 rfl (by decide) ?_
    refine wp_gI (fun m82 e82 => ?_)
    replace h := h m82 e82
    refine wp_aload_n dX10_readTag_85 rfl rfl (by first | exact Or.inl (by decide) | exact Or.inl (by omega) | exact Or.inr (by decide) | exact Or.inr (by omega)) ?_
    refine wp_aload_n dX10_readTag_86 rfl rfl (by first | exact Or.inl (by decide) | exact Or.inl (by omega) | exact Or.inr (by decide) | exact Or.inr (by omega)) ?_
    refine wp_getI dX10_readTag_87 fX10_84 (show KD[b]? = some (7, 19) from kdb_0 hbd) (by omega) ?_
    refine wp_aload_n dX10_readTag_90 rfl rfl (by first | exact Or.inl (by decide) | exact Or.inl (by omega) | exact Or.inr (by decide) | exact Or.inr (by omega)) ?_
    refine wp_getI dX10_readTag_91 fX10_15 rfl (by decide) ?_
    refine wp_mmax dX10_readTag_94 lX10_87 (Nat.le_of_ble_eq_true rfl) (by decide) (by decide) ⟨Nat.le_refl _, Nat.le_refl _⟩ ?_
    refine wp_pc (pc' := 97) rfl ?_
    refine wp_putI dX10_readTag_97 pX10_84 (show KD[b]? = some (7, 19) from kdb_0 hbd) (by omega) ?_
    refine wp_gI (fun m97 e97 => ?_)
    replace h := h m97 e97
    refine wp_iconst dX10_readTag_100 (by decide) ?_
    refine wp_istore dX10_readTag_101 (by decide) (wp_L (L' := [some (vR 10), some (vR b), some (vI l2), some (vI s0), some (vI 0), none]) rfl ?_)
    exact h
  · replace h := h.1 h56
    refine wp_aload_n dX10_readTag_59 rfl rfl (by first | exact Or.inl (by decide) | exact Or.inl (by omega) | exact Or.inr (by decide) | exact Or.inr (by omega)) ?_
    refine wp_getR dX10_readTag_60 fX10_18 rfl (by decide) ?_
    refine wp_topR (x' := 2) rfl ?_
    refine wp_bipush dX10_readTag_63 (by decide +kernel) (by decide) ?_
    refine wp_iload_n dX10_readTag_65 rfl rfl ?_
    refine wp_cVq (n := 2) (mt' := mX1_refuse) (as := [vI (-3), vI l2]) (rest := []) _ dX10_readTag_66 lX10_80 kX1_refuse vX1_refuse (by decide) (by decide +kernel) rfl (Nat.le_of_ble_eq_true rfl) (by decide) rfl rfl rfl (Nat.le_of_ble_eq_true rfl) (fun hM hS => h) (fun r M' hq hM => ?_)
    obtain ⟨x66, m66, n66, rfl, rfl, h⟩ := rI_out hq
    exact wp_zret dX10_readTag_69 rfl h.1 (fun _ => h.2)
theorem v_X10_readTag_103 {cs : Cs} {Q : Option AV → Mm → Prop} {MI ML : Nat → Nat → Int} {b d e nw th : Nat} {l2 l3 l4 : Int} (hbd : b = 38 ∨ b = 81)
    (h : ((l4 < (MI 2 1) → wp cs mX1_reachesName KD (rI (GR d e nw th 1) fun x119 m119 n119 => ((x119 = 0 → wp cs mX10_readTag KD Q 141 [some (vR 10), some (vR b), some (vI l2), some (vI l3), some (vI l4), none] [] (KD, m119, n119, (GR d e nw th 1))) ∧ (x119 ≠ 0 → wp cs mX10_readAttribute KD (rI (GR d e nw th 1) fun x127 m127 n127 => ((x127 = 0 → Q (some (vI 0)) (m127, n127, (GR d e nw th 1))) ∧ (x127 ≠ 0 → (-2147483648 ≤ l4 + 1 ∧ l4 + 1 < 2147483648) ∧ wp cs mX10_readTag KD Q 103 [some (vR 10), some (vR b), some (vI l2), some (vI l3), some (vI (l4 + 1)), none] [] (KD, m127, n127, (GR d e nw th 1))))) 0 (padL [vR 10, vR b] 5) [] (KD, m119, n119, (GR d e nw th 1))))) 0 (padL [vR 2] 2) [] (KD, MI, ML, (GR d e nw th 1))) ∧ ((MI 2 1) ≤ l4 → wp cs mX10_readTag KD Q 141 [some (vR 10), some (vR b), some (vI l2), some (vI l3), some (vI l4), none] [] (KD, MI, ML, (GR d e nw th 1))))) :
    wp cs mX10_readTag KD Q 103 [some (vR 10), some (vR b), some (vI l2), some (vI l3), some (vI l4), none] [] (KD, MI, ML, (GR d e nw th 1)) := by
  refine wp_iload dX10_readTag_103 rfl ?_
  refine wp_aload_n dX10_readTag_105 rfl rfl (by first | exact Or.inl (by decide) | exact Or.inl (by omega) | exact Or.inr (by decide) | exact Or.inr (by omega)) ?_
  refine wp_getR dX10_readTag_106 fX10_18 rfl (by decide) ?_
  refine wp_topR (x' := 2) rfl ?_
  refine wp_getI dX10_readTag_109 fX10_40 rfl (by decide) ?_
  refine wp_icmp_ge (tgt := 141) dX10_readTag_112 (by decide) (fun h112 => ?_) (fun h112 => ?_)
  · replace h := h.2 h112
    exact h
  · replace h := h.1 h112
    refine wp_aload_n dX10_readTag_115 rfl rfl (by first | exact Or.inl (by decide) | exact Or.inl (by omega) | exact Or.inr (by decide) | exact Or.inr (by omega)) ?_
    refine wp_getR dX10_readTag_116 fX10_18 rfl (by decide) ?_
    refine wp_topR (x' := 2) rfl ?_
    refine wp_cVq (n := 0) (mt' := mX1_reachesName) (as := []) (rest := []) _ dX10_readTag_119 lX10_93 kX1_reachesName vX1_reachesName (by decide) (by decide +kernel) rfl (Nat.le_of_ble_eq_true rfl) (by decide) rfl rfl rfl (Nat.le_of_ble_eq_true rfl) (fun hM hS => h) (fun r M' hq hM => ?_)
    obtain ⟨x119, m119, n119, rfl, rfl, h⟩ := rI_out hq
    refine wp_if_eq (tgt := 141) dX10_readTag_122 (by decide) (fun h122 => ?_) (fun h122 => ?_)
    · replace h := h.1 h122
      exact h
    · replace h := h.2 h122
      refine wp_aload_n dX10_readTag_125 rfl rfl (by first | exact Or.inl (by decide) | exact Or.inl (by omega) | exact Or.inr (by decide) | exact Or.inr (by omega)) ?_
      refine wp_aload_n dX10_readTag_126 rfl rfl (by first | exact Or.inl (by decide) | exact Or.inl (by omega) | exact Or.inr (by decide) | exact Or.inr (by omega)) ?_
      refine wp_cVq (n := 1) (mt' := mX10_readAttribute) (as := [vR b]) (rest := []) _ dX10_readTag_127 lX10_96 kX10_readAttribute vX10_readAttribute (by decide) (by decide +kernel) rfl (Nat.le_of_ble_eq_true rfl) (by decide) rfl rfl rfl (Nat.le_of_ble_eq_true rfl) (fun hM hS => h) (fun r M' hq hM => ?_)
      obtain ⟨x127, m127, n127, rfl, rfl, h⟩ := rI_out hq
      refine wp_if_ne (tgt := 135) dX10_readTag_130 (by decide) (fun h130 => ?_) (fun h130 => ?_)
      · replace h := h.2 h130
        have c0 := h.1
        replace h := h.2
        refine wp_iincr dX10_readTag_135 rfl (by decide) c0 (wp_L (L' := [some (vR 10), some (vR b), some (vI l2), some (vI l3), some (vI (l4 + 1)), none]) rfl ?_)
        refine wp_goto (tgt := 103) dX10_readTag_138 (by decide) ?_
        exact h
      · replace h := h.1 h130
        refine wp_iconst dX10_readTag_133 (by decide) ?_
        exact wp_zret dX10_readTag_134 rfl (by decide) (fun _ => h)
theorem v_X10_readTag_141 {cs : Cs} {Q : Option AV → Mm → Prop} {MI ML : Nat → Nat → Int} {b d e nw th : Nat} {l2 l3 l4 : Int} (hbd : b = 38 ∨ b = 81)
    (h : wp cs mX1_takeIf KD (rI (GR d e nw th 1) fun x156 m156 n156 => ((x156 = 0 → wp cs mX1_take KD (rI (GR d e nw th 1) fun x172 m172 n172 => ((x172 = 0 → Q (some (vI 0)) (m172, n172, (GR d e nw th 1))) ∧ (x172 ≠ 0 → wp cs mX10_addDefaults KD (rI (GR d e nw th 1) fun x182 m182 n182 => ((x182 = 0 → wp cs mX1_refuse KD (rI (GR d e nw th 1) fun x196 m196 n196 => (x196 = 0 ∨ x196 = 1) ∧ Q (some (vI x196)) (m196, n196, (GR d e nw th 1))) 0 (padL [vR 2, vI (-3), vI (MI 2 2)] 3) [] (KD, m182, n182, (GR d e nw th 1))) ∧ (x182 ≠ 0 → ((x156 = 0 → Q (some (vI 1)) (m182, n182, (GR d e nw th 1))) ∧ (x156 ≠ 0 → wp cs mX10_leave KD (rV (GR d e nw th 1) fun m207 n207 => Q (some (vI 1)) (m207, n207, (GR d e nw th 1))) 0 (padL [vR 10, vR b] 2) [] (KD, m182, n182, (GR d e nw th 1))))))) 0 (padL [vR 10, vR b] 7) [] (KD, m172, n172, (GR d e nw th 1))))) 0 (padL [vR 2, vR 1000005] 2) [] (KD, m156, n156, (GR d e nw th 1))) ∧ (x156 ≠ 0 → wp cs mX10_addDefaults KD (rI (GR d e nw th 1) fun x182 m182 n182 => ((x182 = 0 → wp cs mX1_refuse KD (rI (GR d e nw th 1) fun x196 m196 n196 => (x196 = 0 ∨ x196 = 1) ∧ Q (some (vI x196)) (m196, n196, (GR d e nw th 1))) 0 (padL [vR 2, vI (-3), vI (MI 2 2)] 3) [] (KD, m182, n182, (GR d e nw th 1))) ∧ (x182 ≠ 0 → ((x156 = 0 → Q (some (vI 1)) (m182, n182, (GR d e nw th 1))) ∧ (x156 ≠ 0 → wp cs mX10_leave KD (rV (GR d e nw th 1) fun m207 n207 => Q (some (vI 1)) (m207, n207, (GR d e nw th 1))) 0 (padL [vR 10, vR b] 2) [] (KD, m182, n182, (GR d e nw th 1))))))) 0 (padL [vR 10, vR b] 7) [] (KD, m156, n156, (GR d e nw th 1))))) 0 (padL [vR 2, vR 1000032] 4) [] (KD, MI, ML, (GR d e nw th 1))) :
    wp cs mX10_readTag KD Q 141 [some (vR 10), some (vR b), some (vI l2), some (vI l3), some (vI l4), none] [] (KD, MI, ML, (GR d e nw th 1)) := by
  refine wp_aload_n dX10_readTag_141 rfl rfl (by first | exact Or.inl (by decide) | exact Or.inl (by omega) | exact Or.inr (by decide) | exact Or.inr (by omega)) ?_
  refine wp_getR dX10_readTag_142 fX10_18 rfl (by decide) ?_
  refine wp_topR (x' := 2) rfl ?_
  refine wp_getI dX10_readTag_145 fX10_99 rfl (by decide) ?_
  refine wp_istore dX10_readTag_148 (by decide) (wp_L (L' := [some (vR 10), some (vR b), some (vI l2), some (vI l3), some (vI (MI 2 2)), none]) rfl ?_)
  refine wp_aload_n dX10_readTag_150 rfl rfl (by first | exact Or.inl (by decide) | exact Or.inl (by omega) | exact Or.inr (by decide) | exact Or.inr (by omega)) ?_
  refine wp_getR dX10_readTag_151 fX10_18 rfl (by decide) ?_
  refine wp_topR (x' := 2) rfl ?_
  refine wp_ldcS (k := 29) dX10_readTag_154 cX10_102 ?_
  refine wp_pc (pc' := 156) rfl ?_
  refine wp_cVq (n := 1) (mt' := mX1_takeIf) (as := [vR 1000032]) (rest := []) _ dX10_readTag_156 lX10_45 kX1_takeIf vX1_takeIf (by decide) (by decide +kernel) rfl (Nat.le_of_ble_eq_true rfl) (by decide) rfl rfl rfl (Nat.le_of_ble_eq_true rfl) (fun hM hS => h) (fun r M' hq hM => ?_)
  obtain ⟨x156, m156, n156, rfl, rfl, h⟩ := rI_out hq
  refine wp_istore dX10_readTag_159 (by decide) (wp_L (L' := [some (vR 10), some (vR b), some (vI l2), some (vI l3), some (vI (MI 2 2)), some (vI x156)]) rfl ?_)
  refine wp_iload dX10_readTag_161 rfl ?_
  refine wp_if_ne (tgt := 180) dX10_readTag_163 (by decide) (fun h163 => ?_) (fun h163 => ?_)
  · replace h := h.2 h163
    refine wp_aload_n dX10_readTag_180 rfl rfl (by first | exact Or.inl (by decide) | exact Or.inl (by omega) | exact Or.inr (by decide) | exact Or.inr (by omega)) ?_
    refine wp_aload_n dX10_readTag_181 rfl rfl (by first | exact Or.inl (by decide) | exact Or.inl (by omega) | exact Or.inr (by decide) | exact Or.inr (by omega)) ?_
    refine wp_cVq (n := 1) (mt' := mX10_addDefaults) (as := [vR b]) (rest := []) _ dX10_readTag_182 lX10_106 kX10_addDefaults vX10_addDefaults (by decide) (by decide +kernel) rfl (Nat.le_of_ble_eq_true rfl) (by decide) rfl rfl rfl (Nat.le_of_ble_eq_true rfl) (fun hM hS => h) (fun r M' hq hM => ?_)
    obtain ⟨x182, m182, n182, rfl, rfl, h⟩ := rI_out hq
    refine wp_if_ne (tgt := 200) dX10_readTag_185 (by decide) (fun h185 => ?_) (fun h185 => ?_)
    · replace h := h.2 h185
      refine wp_iload dX10_readTag_200 rfl ?_
      refine wp_if_eq (tgt := 210) dX10_readTag_202 (by decide) (fun h202 => ?_) (fun h202 => ?_)
      · replace h := h.1 h202
        refine wp_iconst dX10_readTag_210 (by decide) ?_
        exact wp_zret dX10_readTag_211 rfl (by decide) (fun _ => h)
      · replace h := h.2 h202
        refine wp_aload_n dX10_readTag_205 rfl rfl (by first | exact Or.inl (by decide) | exact Or.inl (by omega) | exact Or.inr (by decide) | exact Or.inr (by omega)) ?_
        refine wp_aload_n dX10_readTag_206 rfl rfl (by first | exact Or.inl (by decide) | exact Or.inl (by omega) | exact Or.inr (by decide) | exact Or.inr (by omega)) ?_
        refine wp_cVq (n := 1) (mt' := mX10_leave) (as := [vR b]) (rest := []) _ dX10_readTag_207 lX10_109 kX10_leave vX10_leave (by decide) (by decide +kernel) rfl (Nat.le_of_ble_eq_true rfl) (by decide) rfl rfl rfl (Nat.le_of_ble_eq_true rfl) (fun hM hS => h) (fun r M' hq hM => ?_)
        obtain ⟨m207, n207, rfl, rfl, h⟩ := rV_out hq
        refine wp_iconst dX10_readTag_210 (by decide) ?_
        exact wp_zret dX10_readTag_211 rfl (by decide) (fun _ => h)
    · replace h := h.1 h185
      refine wp_aload_n dX10_readTag_188 rfl rfl (by first | exact Or.inl (by decide) | exact Or.inl (by omega) | exact Or.inr (by decide) | exact Or.inr (by omega)) ?_
      refine wp_getR dX10_readTag_189 fX10_18 rfl (by decide) ?_
      refine wp_topR (x' := 2) rfl ?_
      refine wp_bipush dX10_readTag_192 (by decide +kernel) (by decide) ?_
      refine wp_iload dX10_readTag_194 rfl ?_
      refine wp_cVq (n := 2) (mt' := mX1_refuse) (as := [vI (-3), vI (MI 2 2)]) (rest := []) _ dX10_readTag_196 lX10_80 kX1_refuse vX1_refuse (by decide) (by decide +kernel) rfl (Nat.le_of_ble_eq_true rfl) (by decide) rfl rfl rfl (Nat.le_of_ble_eq_true rfl) (fun hM hS => h) (fun r M' hq hM => ?_)
      obtain ⟨x196, m196, n196, rfl, rfl, h⟩ := rI_out hq
      exact wp_zret dX10_readTag_199 rfl h.1 (fun _ => h.2)
  · replace h := h.1 h163
    refine wp_aload_n dX10_readTag_166 rfl rfl (by first | exact Or.inl (by decide) | exact Or.inl (by omega) | exact Or.inr (by decide) | exact Or.inr (by omega)) ?_
    refine wp_getR dX10_readTag_167 fX10_18 rfl (by decide) ?_
    refine wp_topR (x' := 2) rfl ?_
    refine wp_ldcS (k := 2) dX10_readTag_170 cX10_104 ?_
    refine wp_cVq (n := 1) (mt' := mX1_take) (as := [vR 1000005]) (rest := []) _ dX10_readTag_172 lX10_30 kX1_take vX1_take (by decide) (by decide +kernel) rfl (Nat.le_of_ble_eq_true rfl) (by decide) rfl rfl rfl (Nat.le_of_ble_eq_true rfl) (fun hM hS => h) (fun r M' hq hM => ?_)
    obtain ⟨x172, m172, n172, rfl, rfl, h⟩ := rI_out hq
    refine wp_if_ne (tgt := 180) dX10_readTag_175 (by decide) (fun h175 => ?_) (fun h175 => ?_)
    · replace h := h.2 h175
      refine wp_aload_n dX10_readTag_180 rfl rfl (by first | exact Or.inl (by decide) | exact Or.inl (by omega) | exact Or.inr (by decide) | exact Or.inr (by omega)) ?_
      refine wp_aload_n dX10_readTag_181 rfl rfl (by first | exact Or.inl (by decide) | exact Or.inl (by omega) | exact Or.inr (by decide) | exact Or.inr (by omega)) ?_
      refine wp_cVq (n := 1) (mt' := mX10_addDefaults) (as := [vR b]) (rest := []) _ dX10_readTag_182 lX10_106 kX10_addDefaults vX10_addDefaults (by decide) (by decide +kernel) rfl (Nat.le_of_ble_eq_true rfl) (by decide) rfl rfl rfl (Nat.le_of_ble_eq_true rfl) (fun hM hS => h) (fun r M' hq hM => ?_)
      obtain ⟨x182, m182, n182, rfl, rfl, h⟩ := rI_out hq
      refine wp_if_ne (tgt := 200) dX10_readTag_185 (by decide) (fun h185 => ?_) (fun h185 => ?_)
      · replace h := h.2 h185
        refine wp_iload dX10_readTag_200 rfl ?_
        refine wp_if_eq (tgt := 210) dX10_readTag_202 (by decide) (fun h202 => ?_) (fun h202 => ?_)
        · replace h := h.1 h202
          refine wp_iconst dX10_readTag_210 (by decide) ?_
          exact wp_zret dX10_readTag_211 rfl (by decide) (fun _ => h)
        · replace h := h.2 h202
          refine wp_aload_n dX10_readTag_205 rfl rfl (by first | exact Or.inl (by decide) | exact Or.inl (by omega) | exact Or.inr (by decide) | exact Or.inr (by omega)) ?_
          refine wp_aload_n dX10_readTag_206 rfl rfl (by first | exact Or.inl (by decide) | exact Or.inl (by omega) | exact Or.inr (by decide) | exact Or.inr (by omega)) ?_
          refine wp_cVq (n := 1) (mt' := mX10_leave) (as := [vR b]) (rest := []) _ dX10_readTag_207 lX10_109 kX10_leave vX10_leave (by decide) (by decide +kernel) rfl (Nat.le_of_ble_eq_true rfl) (by decide) rfl rfl rfl (Nat.le_of_ble_eq_true rfl) (fun hM hS => h) (fun r M' hq hM => ?_)
          obtain ⟨m207, n207, rfl, rfl, h⟩ := rV_out hq
          refine wp_iconst dX10_readTag_210 (by decide) ?_
          exact wp_zret dX10_readTag_211 rfl (by decide) (fun _ => h)
      · replace h := h.1 h185
        refine wp_aload_n dX10_readTag_188 rfl rfl (by first | exact Or.inl (by decide) | exact Or.inl (by omega) | exact Or.inr (by decide) | exact Or.inr (by omega)) ?_
        refine wp_getR dX10_readTag_189 fX10_18 rfl (by decide) ?_
        refine wp_topR (x' := 2) rfl ?_
        refine wp_bipush dX10_readTag_192 (by decide +kernel) (by decide) ?_
        refine wp_iload dX10_readTag_194 rfl ?_
        refine wp_cVq (n := 2) (mt' := mX1_refuse) (as := [vI (-3), vI (MI 2 2)]) (rest := []) _ dX10_readTag_196 lX10_80 kX1_refuse vX1_refuse (by decide) (by decide +kernel) rfl (Nat.le_of_ble_eq_true rfl) (by decide) rfl rfl rfl (Nat.le_of_ble_eq_true rfl) (fun hM hS => h) (fun r M' hq hM => ?_)
        obtain ⟨x196, m196, n196, rfl, rfl, h⟩ := rI_out hq
        exact wp_zret dX10_readTag_199 rfl h.1 (fun _ => h.2)
    · replace h := h.1 h175
      refine wp_iconst dX10_readTag_178 (by decide) ?_
      exact wp_zret dX10_readTag_179 rfl (by decide) (fun _ => h)
theorem dX10_readEndTag_0 : decode cX10_readEndTag 0 = .ok (.aload_n 0, 1) := by decide +kernel
theorem dX10_readEndTag_1 : decode cX10_readEndTag 1 = .ok (.getfield 18, 3) := by decide +kernel
theorem dX10_readEndTag_4 : decode cX10_readEndTag 4 = .ok (.invokevirtual 64, 3) := by decide +kernel
theorem dX10_readEndTag_7 : decode cX10_readEndTag 7 = .ok (.ifCond .ne 5, 3) := by decide +kernel
theorem dX10_readEndTag_10 : decode cX10_readEndTag 10 = .ok (.iconst 0, 1) := by decide +kernel
theorem dX10_readEndTag_11 : decode cX10_readEndTag 11 = .ok (.ireturn, 1) := by decide +kernel
theorem dX10_readEndTag_12 : decode cX10_readEndTag 12 = .ok (.aload_n 1, 1) := by decide +kernel
theorem dX10_readEndTag_13 : decode cX10_readEndTag 13 = .ok (.getfield 70, 3) := by decide +kernel
theorem dX10_readEndTag_16 : decode cX10_readEndTag 16 = .ok (.aload_n 0, 1) := by decide +kernel
theorem dX10_readEndTag_17 : decode cX10_readEndTag 17 = .ok (.getfield 18, 3) := by decide +kernel
theorem dX10_readEndTag_20 : decode cX10_readEndTag 20 = .ok (.invokevirtual 189, 3) := by decide +kernel
theorem dX10_readEndTag_23 : decode cX10_readEndTag 23 = .ok (.aload_n 1, 1) := by decide +kernel
theorem dX10_readEndTag_24 : decode cX10_readEndTag 24 = .ok (.getfield 142, 3) := by decide +kernel
theorem dX10_readEndTag_27 : decode cX10_readEndTag 27 = .ok (.aload_n 0, 1) := by decide +kernel
theorem dX10_readEndTag_28 : decode cX10_readEndTag 28 = .ok (.getfield 9, 3) := by decide +kernel
theorem dX10_readEndTag_31 : decode cX10_readEndTag 31 = .ok (.iaload, 1) := by decide +kernel
theorem dX10_readEndTag_32 : decode cX10_readEndTag 32 = .ok (.if_icmp .eq 20, 3) := by decide +kernel
theorem dX10_readEndTag_35 : decode cX10_readEndTag 35 = .ok (.aload_n 0, 1) := by decide +kernel
theorem dX10_readEndTag_36 : decode cX10_readEndTag 36 = .ok (.getfield 18, 3) := by decide +kernel
theorem dX10_readEndTag_39 : decode cX10_readEndTag 39 = .ok (.bipush (-2), 2) := by decide +kernel
theorem dX10_readEndTag_41 : decode cX10_readEndTag 41 = .ok (.aload_n 0, 1) := by decide +kernel
theorem dX10_readEndTag_42 : decode cX10_readEndTag 42 = .ok (.getfield 18, 3) := by decide +kernel
theorem dX10_readEndTag_45 : decode cX10_readEndTag 45 = .ok (.getfield 67, 3) := by decide +kernel
theorem dX10_readEndTag_48 : decode cX10_readEndTag 48 = .ok (.invokevirtual 80, 3) := by decide +kernel
theorem dX10_readEndTag_51 : decode cX10_readEndTag 51 = .ok (.ireturn, 1) := by decide +kernel
theorem dX10_readEndTag_52 : decode cX10_readEndTag 52 = .ok (.aload_n 0, 1) := by decide +kernel
theorem dX10_readEndTag_53 : decode cX10_readEndTag 53 = .ok (.getfield 18, 3) := by decide +kernel
theorem dX10_readEndTag_56 : decode cX10_readEndTag 56 = .ok (.invokevirtual 120, 3) := by decide +kernel
theorem dX10_readEndTag_59 : decode cX10_readEndTag 59 = .ok (.aload_n 0, 1) := by decide +kernel
theorem dX10_readEndTag_60 : decode cX10_readEndTag 60 = .ok (.getfield 18, 3) := by decide +kernel
theorem dX10_readEndTag_63 : decode cX10_readEndTag 63 = .ok (.ldc 104, 2) := by decide +kernel
theorem dX10_readEndTag_65 : decode cX10_readEndTag 65 = .ok (.invokevirtual 30, 3) := by decide +kernel
theorem dX10_readEndTag_68 : decode cX10_readEndTag 68 = .ok (.ifCond .ne 5, 3) := by decide +kernel
theorem dX10_readEndTag_71 : decode cX10_readEndTag 71 = .ok (.iconst 0, 1) := by decide +kernel
theorem dX10_readEndTag_72 : decode cX10_readEndTag 72 = .ok (.ireturn, 1) := by decide +kernel
theorem dX10_readEndTag_73 : decode cX10_readEndTag 73 = .ok (.aload_n 0, 1) := by decide +kernel
theorem dX10_readEndTag_74 : decode cX10_readEndTag 74 = .ok (.aload_n 1, 1) := by decide +kernel
theorem dX10_readEndTag_75 : decode cX10_readEndTag 75 = .ok (.invokevirtual 109, 3) := by decide +kernel
theorem dX10_readEndTag_78 : decode cX10_readEndTag 78 = .ok (.iconst 1, 1) := by decide +kernel
theorem dX10_readEndTag_79 : decode cX10_readEndTag 79 = .ok (.ireturn, 1) := by decide +kernel
theorem v_X10_readEndTag_0 {cs : Cs} {Q : Option AV → Mm → Prop} {MI ML : Nat → Nat → Int} {b d e nw th : Nat} (hbd : b = 38 ∨ b = 81)
    (h : wp cs mX1_needName KD (rI (GR d e nw th 1) fun x4 m4 n4 => ((x4 = 0 → Q (some (vI 0)) (m4, n4, (GR d e nw th 1))) ∧ (x4 ≠ 0 → wp cs mX5_find KD (rI (GR d e nw th 1) fun x20 m20 n20 => (0 ≤ (m20 10 1) ∧ (m20 10 1) < 600) ∧ ((x20 = (m20 (b + 34) (m20 10 1).toNat) → wp cs mX1_skipSpace KD (rV (GR d e nw th 1) fun m56 n56 => wp cs mX1_take KD (rI (GR d e nw th 1) fun x65 m65 n65 => ((x65 = 0 → Q (some (vI 0)) (m65, n65, (GR d e nw th 1))) ∧ (x65 ≠ 0 → wp cs mX10_leave KD (rV (GR d e nw th 1) fun m75 n75 => Q (some (vI 1)) (m75, n75, (GR d e nw th 1))) 0 (padL [vR 10, vR b] 2) [] (KD, m65, n65, (GR d e nw th 1))))) 0 (padL [vR 2, vR 1000005] 2) [] (KD, m56, n56, (GR d e nw th 1))) 0 (padL [vR 2] 1) [] (KD, m20, n20, (GR d e nw th 1))) ∧ (x20 ≠ (m20 (b + 34) (m20 10 1).toNat) → wp cs mX1_refuse KD (rI (GR d e nw th 1) fun x48 m48 n48 => (x48 = 0 ∨ x48 = 1) ∧ Q (some (vI x48)) (m48, n48, (GR d e nw th 1))) 0 (padL [vR 2, vI (-2), vI (m20 2 3)] 3) [] (KD, m20, n20, (GR d e nw th 1))))) 0 (padL [vR (b + 1), vR 2] 4) [] (KD, m4, n4, (GR d e nw th 1))))) 0 (padL [vR 2] 1) [] (KD, MI, ML, (GR d e nw th 1))) :
    wp cs mX10_readEndTag KD Q 0 (padL [vR 10, vR b] 2) [] (KD, MI, ML, (GR d e nw th 1)) := by
  refine wp_L (L' := [some (vR 10), some (vR b)]) rfl ?_
  refine wp_aload_n dX10_readEndTag_0 rfl rfl (by first | exact Or.inl (by decide) | exact Or.inl (by omega) | exact Or.inr (by decide) | exact Or.inr (by omega)) ?_
  refine wp_getR dX10_readEndTag_1 fX10_18 rfl (by decide) ?_
  refine wp_topR (x' := 2) rfl ?_
  refine wp_cVq (n := 0) (mt' := mX1_needName) (as := []) (rest := []) _ dX10_readEndTag_4 lX10_64 kX1_needName vX1_needName (by decide) (by decide +kernel) rfl (Nat.le_of_ble_eq_true rfl) (by decide) rfl rfl rfl (Nat.le_of_ble_eq_true rfl) (fun hM hS => h) (fun r M' hq hM => ?_)
  obtain ⟨x4, m4, n4, rfl, rfl, h⟩ := rI_out hq
  refine wp_if_ne (tgt := 12) dX10_readEndTag_7 (by decide) (fun h7 => ?_) (fun h7 => ?_)
  · replace h := h.2 h7
    refine wp_aload_n dX10_readEndTag_12 rfl rfl (by first | exact Or.inl (by decide) | exact Or.inl (by omega) | exact Or.inr (by decide) | exact Or.inr (by omega)) ?_
    refine wp_getR dX10_readEndTag_13 fX10_70 (show KD[b]? = some (7, 19) from kdb_0 hbd) (by omega) ?_
    refine wp_topR (x' := (b + 1)) (grb_0_0 hbd) ?_
    refine wp_aload_n dX10_readEndTag_16 rfl rfl (by first | exact Or.inl (by decide) | exact Or.inl (by omega) | exact Or.inr (by decide) | exact Or.inr (by omega)) ?_
    refine wp_getR dX10_readEndTag_17 fX10_18 rfl (by decide) ?_
    refine wp_topR (x' := 2) rfl ?_
    refine wp_cVq (n := 1) (mt' := mX5_find) (as := [vR 2]) (rest := []) _ dX10_readEndTag_20 lX10_189 kX5_find vX5_find (by decide) (by decide +kernel) rfl (Nat.le_of_ble_eq_true rfl) (by omega) (kdb_1 hbd) rfl rfl (Nat.le_of_ble_eq_true rfl) (fun hM hS => h) (fun r M' hq hM => ?_)
    obtain ⟨x20, m20, n20, rfl, rfl, h⟩ := rI_out hq
    refine wp_aload_n dX10_readEndTag_23 rfl rfl (by first | exact Or.inl (by decide) | exact Or.inl (by omega) | exact Or.inr (by decide) | exact Or.inr (by omega)) ?_
    refine wp_getR dX10_readEndTag_24 fX10_142 (show KD[b]? = some (7, 19) from kdb_0 hbd) (by omega) ?_
    refine wp_topR (x' := (b + 34)) (grb_0_5 hbd) ?_
    refine wp_aload_n dX10_readEndTag_27 rfl rfl (by first | exact Or.inl (by decide) | exact Or.inl (by omega) | exact Or.inr (by decide) | exact Or.inr (by omega)) ?_
    refine wp_getI dX10_readEndTag_28 fX10_9 rfl (by decide) ?_
    have c0 := h.1
    replace h := h.2
    refine wp_iald dX10_readEndTag_31 (kdb_34 hbd) (by omega) c0 ?_
    refine wp_icmp_eq (tgt := 52) dX10_readEndTag_32 (by decide) (fun h32 => ?_) (fun h32 => ?_)
    · replace h := h.1 h32
      refine wp_aload_n dX10_readEndTag_52 rfl rfl (by first | exact Or.inl (by decide) | exact Or.inl (by omega) | exact Or.inr (by decide) | exact Or.inr (by omega)) ?_
      refine wp_getR dX10_readEndTag_53 fX10_18 rfl (by decide) ?_
      refine wp_topR (x' := 2) rfl ?_
      refine wp_cVq (n := 0) (mt' := mX1_skipSpace) (as := []) (rest := []) _ dX10_readEndTag_56 lX10_120 kX1_skipSpace vX1_skipSpace (by decide) (by decide +kernel) rfl (Nat.le_of_ble_eq_true rfl) (by decide) rfl rfl rfl (Nat.le_of_ble_eq_true rfl) (fun hM hS => h) (fun r M' hq hM => ?_)
      obtain ⟨m56, n56, rfl, rfl, h⟩ := rV_out hq
      refine wp_aload_n dX10_readEndTag_59 rfl rfl (by first | exact Or.inl (by decide) | exact Or.inl (by omega) | exact Or.inr (by decide) | exact Or.inr (by omega)) ?_
      refine wp_getR dX10_readEndTag_60 fX10_18 rfl (by decide) ?_
      refine wp_topR (x' := 2) rfl ?_
      refine wp_ldcS (k := 2) dX10_readEndTag_63 cX10_104 ?_
      refine wp_cVq (n := 1) (mt' := mX1_take) (as := [vR 1000005]) (rest := []) _ dX10_readEndTag_65 lX10_30 kX1_take vX1_take (by decide) (by decide +kernel) rfl (Nat.le_of_ble_eq_true rfl) (by decide) rfl rfl rfl (Nat.le_of_ble_eq_true rfl) (fun hM hS => h) (fun r M' hq hM => ?_)
      obtain ⟨x65, m65, n65, rfl, rfl, h⟩ := rI_out hq
      refine wp_if_ne (tgt := 73) dX10_readEndTag_68 (by decide) (fun h68 => ?_) (fun h68 => ?_)
      · replace h := h.2 h68
        refine wp_aload_n dX10_readEndTag_73 rfl rfl (by first | exact Or.inl (by decide) | exact Or.inl (by omega) | exact Or.inr (by decide) | exact Or.inr (by omega)) ?_
        refine wp_aload_n dX10_readEndTag_74 rfl rfl (by first | exact Or.inl (by decide) | exact Or.inl (by omega) | exact Or.inr (by decide) | exact Or.inr (by omega)) ?_
        refine wp_cVq (n := 1) (mt' := mX10_leave) (as := [vR b]) (rest := []) _ dX10_readEndTag_75 lX10_109 kX10_leave vX10_leave (by decide) (by decide +kernel) rfl (Nat.le_of_ble_eq_true rfl) (by decide) rfl rfl rfl (Nat.le_of_ble_eq_true rfl) (fun hM hS => h) (fun r M' hq hM => ?_)
        obtain ⟨m75, n75, rfl, rfl, h⟩ := rV_out hq
        refine wp_iconst dX10_readEndTag_78 (by decide) ?_
        exact wp_zret dX10_readEndTag_79 rfl (by decide) (fun _ => h)
      · replace h := h.1 h68
        refine wp_iconst dX10_readEndTag_71 (by decide) ?_
        exact wp_zret dX10_readEndTag_72 rfl (by decide) (fun _ => h)
    · replace h := h.2 h32
      refine wp_aload_n dX10_readEndTag_35 rfl rfl (by first | exact Or.inl (by decide) | exact Or.inl (by omega) | exact Or.inr (by decide) | exact Or.inr (by omega)) ?_
      refine wp_getR dX10_readEndTag_36 fX10_18 rfl (by decide) ?_
      refine wp_topR (x' := 2) rfl ?_
      refine wp_bipush dX10_readEndTag_39 (by decide +kernel) (by decide) ?_
      refine wp_aload_n dX10_readEndTag_41 rfl rfl (by first | exact Or.inl (by decide) | exact Or.inl (by omega) | exact Or.inr (by decide) | exact Or.inr (by omega)) ?_
      refine wp_getR dX10_readEndTag_42 fX10_18 rfl (by decide) ?_
      refine wp_topR (x' := 2) rfl ?_
      refine wp_getI dX10_readEndTag_45 fX10_67 rfl (by decide) ?_
      refine wp_cVq (n := 2) (mt' := mX1_refuse) (as := [vI (-2), vI (m20 2 3)]) (rest := []) _ dX10_readEndTag_48 lX10_80 kX1_refuse vX1_refuse (by decide) (by decide +kernel) rfl (Nat.le_of_ble_eq_true rfl) (by decide) rfl rfl rfl (Nat.le_of_ble_eq_true rfl) (fun hM hS => h) (fun r M' hq hM => ?_)
      obtain ⟨x48, m48, n48, rfl, rfl, h⟩ := rI_out hq
      exact wp_zret dX10_readEndTag_51 rfl h.1 (fun _ => h.2)
  · replace h := h.1 h7
    refine wp_iconst dX10_readEndTag_10 (by decide) ?_
    exact wp_zret dX10_readEndTag_11 rfl (by decide) (fun _ => h)
theorem dX10_readText_0 : decode cX10_readText 0 = .ok (.iconst (-1), 1) := by decide +kernel
theorem dX10_readText_1 : decode cX10_readText 1 = .ok (.istore_n 2, 1) := by decide +kernel
theorem dX10_readText_2 : decode cX10_readText 2 = .ok (.iconst 0, 1) := by decide +kernel
theorem dX10_readText_3 : decode cX10_readText 3 = .ok (.istore_n 3, 1) := by decide +kernel
theorem dX10_readText_4 : decode cX10_readText 4 = .ok (.iload_n 3, 1) := by decide +kernel
theorem dX10_readText_5 : decode cX10_readText 5 = .ok (.aload_n 0, 1) := by decide +kernel
theorem dX10_readText_6 : decode cX10_readText 6 = .ok (.getfield 18, 3) := by decide +kernel
theorem dX10_readText_9 : decode cX10_readText 9 = .ok (.getfield 40, 3) := by decide +kernel
theorem dX10_readText_12 : decode cX10_readText 12 = .ok (.if_icmp .gt 138, 3) := by decide +kernel
theorem dX10_readText_15 : decode cX10_readText 15 = .ok (.aload_n 0, 1) := by decide +kernel
theorem dX10_readText_16 : decode cX10_readText 16 = .ok (.getfield 18, 3) := by decide +kernel
theorem dX10_readText_19 : decode cX10_readText 19 = .ok (.invokevirtual 173, 3) := by decide +kernel
theorem dX10_readText_22 : decode cX10_readText 22 = .ok (.bipush 60, 2) := by decide +kernel
theorem dX10_readText_24 : decode cX10_readText 24 = .ok (.if_icmp .eq 126, 3) := by decide +kernel
theorem dX10_readText_27 : decode cX10_readText 27 = .ok (.aload_n 0, 1) := by decide +kernel
theorem dX10_readText_28 : decode cX10_readText 28 = .ok (.getfield 18, 3) := by decide +kernel
theorem dX10_readText_31 : decode cX10_readText 31 = .ok (.getfield 99, 3) := by decide +kernel
theorem dX10_readText_34 : decode cX10_readText 34 = .ok (.istore 4, 2) := by decide +kernel
theorem dX10_readText_36 : decode cX10_readText 36 = .ok (.aload_n 0, 1) := by decide +kernel
theorem dX10_readText_37 : decode cX10_readText 37 = .ok (.getfield 18, 3) := by decide +kernel
theorem dX10_readText_40 : decode cX10_readText 40 = .ok (.invokevirtual 173, 3) := by decide +kernel
theorem dX10_readText_43 : decode cX10_readText 43 = .ok (.bipush 38, 2) := by decide +kernel
theorem dX10_readText_45 : decode cX10_readText 45 = .ok (.if_icmp .ne 7, 3) := by decide +kernel
theorem dX10_readText_48 : decode cX10_readText 48 = .ok (.iconst 1, 1) := by decide +kernel
theorem dX10_readText_49 : decode cX10_readText 49 = .ok (.goto 4, 3) := by decide +kernel
theorem dX10_readText_52 : decode cX10_readText 52 = .ok (.iconst 0, 1) := by decide +kernel
theorem dX10_readText_53 : decode cX10_readText 53 = .ok (.istore 5, 2) := by decide +kernel
theorem dX10_readText_55 : decode cX10_readText 55 = .ok (.aload_n 0, 1) := by decide +kernel
theorem dX10_readText_56 : decode cX10_readText 56 = .ok (.getfield 18, 3) := by decide +kernel
theorem dX10_readText_59 : decode cX10_readText 59 = .ok (.invokevirtual 177, 3) := by decide +kernel
theorem dX10_readText_62 : decode cX10_readText 62 = .ok (.istore 6, 2) := by decide +kernel
theorem dX10_readText_64 : decode cX10_readText 64 = .ok (.iload 6, 2) := by decide +kernel
theorem dX10_readText_66 : decode cX10_readText 66 = .ok (.iconst (-1), 1) := by decide +kernel
theorem dX10_readText_67 : decode cX10_readText 67 = .ok (.if_icmp .ne 5, 3) := by decide +kernel
theorem dX10_readText_70 : decode cX10_readText 70 = .ok (.iconst 0, 1) := by decide +kernel
theorem dX10_readText_71 : decode cX10_readText 71 = .ok (.ireturn, 1) := by decide +kernel
theorem dX10_readText_72 : decode cX10_readText 72 = .ok (.iload_n 2, 1) := by decide +kernel
theorem dX10_readText_73 : decode cX10_readText 73 = .ok (.iconst (-1), 1) := by decide +kernel
theorem dX10_readText_74 : decode cX10_readText 74 = .ok (.if_icmp .ne 14, 3) := by decide +kernel
theorem dX10_readText_77 : decode cX10_readText 77 = .ok (.aload_n 1, 1) := by decide +kernel
theorem dX10_readText_78 : decode cX10_readText 78 = .ok (.iconst 3, 1) := by decide +kernel
theorem dX10_readText_79 : decode cX10_readText 79 = .ok (.aload_n 0, 1) := by decide +kernel
theorem dX10_readText_80 : decode cX10_readText 80 = .ok (.getfield 9, 3) := by decide +kernel
theorem dX10_readText_83 : decode cX10_readText 83 = .ok (.iconst (-1), 1) := by decide +kernel
theorem dX10_readText_84 : decode cX10_readText 84 = .ok (.invokevirtual 22, 3) := by decide +kernel
theorem dX10_readText_87 : decode cX10_readText 87 = .ok (.istore_n 2, 1) := by decide +kernel
theorem dX10_readText_88 : decode cX10_readText 88 = .ok (.iload_n 2, 1) := by decide +kernel
theorem dX10_readText_89 : decode cX10_readText 89 = .ok (.iconst (-1), 1) := by decide +kernel
theorem dX10_readText_90 : decode cX10_readText 90 = .ok (.if_icmp .eq 12, 3) := by decide +kernel
theorem dX10_readText_93 : decode cX10_readText 93 = .ok (.aload_n 1, 1) := by decide +kernel
theorem dX10_readText_94 : decode cX10_readText 94 = .ok (.iload 6, 2) := by decide +kernel
theorem dX10_readText_96 : decode cX10_readText 96 = .ok (.invokevirtual 180, 3) := by decide +kernel
theorem dX10_readText_99 : decode cX10_readText 99 = .ok (.ifCond .ne 15, 3) := by decide +kernel
theorem dX10_readText_102 : decode cX10_readText 102 = .ok (.aload_n 0, 1) := by decide +kernel
theorem dX10_readText_103 : decode cX10_readText 103 = .ok (.getfield 18, 3) := by decide +kernel
theorem dX10_readText_106 : decode cX10_readText 106 = .ok (.bipush (-3), 2) := by decide +kernel
theorem dX10_readText_108 : decode cX10_readText 108 = .ok (.iload 4, 2) := by decide +kernel
theorem dX10_readText_110 : decode cX10_readText 110 = .ok (.invokevirtual 80, 3) := by decide +kernel
theorem dX10_readText_113 : decode cX10_readText 113 = .ok (.ireturn, 1) := by decide +kernel
theorem dX10_readText_114 : decode cX10_readText 114 = .ok (.iload 5, 2) := by decide +kernel
theorem dX10_readText_116 : decode cX10_readText 116 = .ok (.ifCond .ne 11, 3) := by decide +kernel
theorem dX10_readText_119 : decode cX10_readText 119 = .ok (.iload 6, 2) := by decide +kernel
theorem dX10_readText_121 : decode cX10_readText 121 = .ok (.invokestatic 183, 3) := by decide +kernel
theorem dX10_readText_124 : decode cX10_readText 124 = .ok (.ifCond .ne 10, 3) := by decide +kernel
theorem dX10_readText_127 : decode cX10_readText 127 = .ok (.aload_n 1, 1) := by decide +kernel
theorem dX10_readText_128 : decode cX10_readText 128 = .ok (.getfield 167, 3) := by decide +kernel
theorem dX10_readText_131 : decode cX10_readText 131 = .ok (.iload_n 2, 1) := by decide +kernel
theorem dX10_readText_132 : decode cX10_readText 132 = .ok (.iconst 2, 1) := by decide +kernel
theorem dX10_readText_133 : decode cX10_readText 133 = .ok (.iastore, 1) := by decide +kernel
theorem dX10_readText_134 : decode cX10_readText 134 = .ok (.aload_n 1, 1) := by decide +kernel
theorem dX10_readText_135 : decode cX10_readText 135 = .ok (.getfield 128, 3) := by decide +kernel
theorem dX10_readText_138 : decode cX10_readText 138 = .ok (.iload_n 2, 1) := by decide +kernel
theorem dX10_readText_139 : decode cX10_readText 139 = .ok (.aload_n 1, 1) := by decide +kernel
theorem dX10_readText_140 : decode cX10_readText 140 = .ok (.getfield 186, 3) := by decide +kernel
theorem dX10_readText_143 : decode cX10_readText 143 = .ok (.iastore, 1) := by decide +kernel
theorem dX10_readText_144 : decode cX10_readText 144 = .ok (.iinc 3 1, 3) := by decide +kernel
theorem dX10_readText_147 : decode cX10_readText 147 = .ok (.goto (-143), 3) := by decide +kernel
theorem dX10_readText_150 : decode cX10_readText 150 = .ok (.iconst 1, 1) := by decide +kernel
theorem dX10_readText_151 : decode cX10_readText 151 = .ok (.ireturn, 1) := by decide +kernel
theorem v_X10_readText_0 {cs : Cs} {Q : Option AV → Mm → Prop} {MI ML : Nat → Nat → Int} {b d e nw th : Nat}
    (h : wp cs mX10_readText KD Q 4 [some (vR 10), some (vR b), some (vI (-1)), some (vI 0), none, none, none] [] (KD, MI, ML, (GR d e nw th 1))) :
    wp cs mX10_readText KD Q 0 (padL [vR 10, vR b] 7) [] (KD, MI, ML, (GR d e nw th 1)) := by
  refine wp_L (L' := [some (vR 10), some (vR b), none, none, none, none, none]) rfl ?_
  refine wp_iconst dX10_readText_0 (by decide) ?_
  refine wp_istore_n dX10_readText_1 rfl (by decide) (wp_L (L' := [some (vR 10), some (vR b), some (vI (-1)), none, none, none, none]) rfl ?_)
  refine wp_iconst dX10_readText_2 (by decide) ?_
  refine wp_istore_n dX10_readText_3 rfl (by decide) (wp_L (L' := [some (vR 10), some (vR b), some (vI (-1)), some (vI 0), none, none, none]) rfl ?_)
  exact h
theorem v_X10_readText_4 {cs : Cs} {Q : Option AV → Mm → Prop} {MI ML : Nat → Nat → Int} {b d e nw th : Nat} {l2 l3 : Int} (hbd : b = 38 ∨ b = 81)
    (h : (((MI 2 1) < l3 → Q (some (vI 1)) (MI, ML, (GR d e nw th 1))) ∧ (l3 ≤ (MI 2 1) → wp cs mX1_peek KD (rI (GR d e nw th 1) fun x19 m19 n19 => ((x19 = 60 → Q (some (vI 1)) (m19, n19, (GR d e nw th 1))) ∧ (x19 ≠ 60 → wp cs mX1_peek KD (rI (GR d e nw th 1) fun x40 m40 n40 => ((x40 = 38 → wp cs mX10_readText KD Q 53 [some (vR 10), some (vR b), some (vI l2), some (vI l3), some (vI (m19 2 2)), none, none] [vI 1] (KD, m40, n40, (GR d e nw th 1))) ∧ (x40 ≠ 38 → wp cs mX10_readText KD Q 53 [some (vR 10), some (vR b), some (vI l2), some (vI l3), some (vI (m19 2 2)), none, none] [vI 0] (KD, m40, n40, (GR d e nw th 1))))) 0 (padL [vR 2] 1) [] (KD, m19, n19, (GR d e nw th 1))))) 0 (padL [vR 2] 1) [] (KD, MI, ML, (GR d e nw th 1))))) :
    wp cs mX10_readText KD Q 4 [some (vR 10), some (vR b), some (vI l2), some (vI l3), none, none, none] [] (KD, MI, ML, (GR d e nw th 1)) := by
  refine wp_iload_n dX10_readText_4 rfl rfl ?_
  refine wp_aload_n dX10_readText_5 rfl rfl (by first | exact Or.inl (by decide) | exact Or.inl (by omega) | exact Or.inr (by decide) | exact Or.inr (by omega)) ?_
  refine wp_getR dX10_readText_6 fX10_18 rfl (by decide) ?_
  refine wp_topR (x' := 2) rfl ?_
  refine wp_getI dX10_readText_9 fX10_40 rfl (by decide) ?_
  refine wp_icmp_gt (tgt := 150) dX10_readText_12 (by decide) (fun h12 => ?_) (fun h12 => ?_)
  · replace h := h.1 h12
    refine wp_iconst dX10_readText_150 (by decide) ?_
    exact wp_zret dX10_readText_151 rfl (by decide) (fun _ => h)
  · replace h := h.2 h12
    refine wp_aload_n dX10_readText_15 rfl rfl (by first | exact Or.inl (by decide) | exact Or.inl (by omega) | exact Or.inr (by decide) | exact Or.inr (by omega)) ?_
    refine wp_getR dX10_readText_16 fX10_18 rfl (by decide) ?_
    refine wp_topR (x' := 2) rfl ?_
    refine wp_cVq (n := 0) (mt' := mX1_peek) (as := []) (rest := []) _ dX10_readText_19 lX10_173 kX1_peek vX1_peek (by decide) (by decide +kernel) rfl (Nat.le_of_ble_eq_true rfl) (by decide) rfl rfl rfl (Nat.le_of_ble_eq_true rfl) (fun hM hS => h) (fun r M' hq hM => ?_)
    obtain ⟨x19, m19, n19, rfl, rfl, h⟩ := rI_out hq
    refine wp_bipush dX10_readText_22 (by decide +kernel) (by decide) ?_
    refine wp_icmp_eq (tgt := 150) dX10_readText_24 (by decide) (fun h24 => ?_) (fun h24 => ?_)
    · replace h := h.1 h24
      refine wp_iconst dX10_readText_150 (by decide) ?_
      exact wp_zret dX10_readText_151 rfl (by decide) (fun _ => h)
    · replace h := h.2 h24
      refine wp_aload_n dX10_readText_27 rfl rfl (by first | exact Or.inl (by decide) | exact Or.inl (by omega) | exact Or.inr (by decide) | exact Or.inr (by omega)) ?_
      refine wp_getR dX10_readText_28 fX10_18 rfl (by decide) ?_
      refine wp_topR (x' := 2) rfl ?_
      refine wp_getI dX10_readText_31 fX10_99 rfl (by decide) ?_
      refine wp_istore dX10_readText_34 (by decide) (wp_L (L' := [some (vR 10), some (vR b), some (vI l2), some (vI l3), some (vI (m19 2 2)), none, none]) rfl ?_)
      refine wp_aload_n dX10_readText_36 rfl rfl (by first | exact Or.inl (by decide) | exact Or.inl (by omega) | exact Or.inr (by decide) | exact Or.inr (by omega)) ?_
      refine wp_getR dX10_readText_37 fX10_18 rfl (by decide) ?_
      refine wp_topR (x' := 2) rfl ?_
      refine wp_cVq (n := 0) (mt' := mX1_peek) (as := []) (rest := []) _ dX10_readText_40 lX10_173 kX1_peek vX1_peek (by decide) (by decide +kernel) rfl (Nat.le_of_ble_eq_true rfl) (by decide) rfl rfl rfl (Nat.le_of_ble_eq_true rfl) (fun hM hS => h) (fun r M' hq hM => ?_)
      obtain ⟨x40, m40, n40, rfl, rfl, h⟩ := rI_out hq
      refine wp_bipush dX10_readText_43 (by decide +kernel) (by decide) ?_
      refine wp_icmp_ne (tgt := 52) dX10_readText_45 (by decide) (fun h45 => ?_) (fun h45 => ?_)
      · replace h := h.2 h45
        refine wp_iconst dX10_readText_52 (by decide) ?_
        exact h
      · replace h := h.1 h45
        refine wp_iconst dX10_readText_48 (by decide) ?_
        refine wp_goto (tgt := 53) dX10_readText_49 (by decide) ?_
        exact h
theorem v_X10_readText_53 {cs : Cs} {Q : Option AV → Mm → Prop} {MI ML : Nat → Nat → Int} {b d e nw th : Nat} {l2 l3 l4 s0 : Int} (hbd : b = 38 ∨ b = 81)
    (h : wp cs mX1_takePiece KD (rI (GR d e nw th 1) fun x59 m59 n59 => ((x59 = (-1) → Q (some (vI 0)) (m59, n59, (GR d e nw th 1))) ∧ (x59 ≠ (-1) → ((l2 = (-1) → wp cs mX3_add KD (rI (GR d e nw th 1) fun x84 m84 n84 => wp cs mX10_readText KD Q 88 [some (vR 10), some (vR b), some (vI x84), some (vI l3), some (vI l4), some (vI s0), some (vI x59)] [] (KD, m84, n84, (GR d e nw th 1))) 0 (padL [vR b, vI 3, vI (m59 10 1), vI (-1)] 6) [] (KD, m59, n59, (GR d e nw th 1))) ∧ (l2 ≠ (-1) → wp cs mX10_readText KD Q 88 [some (vR 10), some (vR b), some (vI l2), some (vI l3), some (vI l4), some (vI s0), some (vI x59)] [] (KD, m59, n59, (GR d e nw th 1))))))) 0 (padL [vR 2] 2) [] (KD, MI, ML, (GR d e nw th 1))) :
    wp cs mX10_readText KD Q 53 [some (vR 10), some (vR b), some (vI l2), some (vI l3), some (vI l4), none, none] [vI s0] (KD, MI, ML, (GR d e nw th 1)) := by
  refine wp_istore dX10_readText_53 (by decide) (wp_L (L' := [some (vR 10), some (vR b), some (vI l2), some (vI l3), some (vI l4), some (vI s0), none]) rfl ?_)
  refine wp_aload_n dX10_readText_55 rfl rfl (by first | exact Or.inl (by decide) | exact Or.inl (by omega) | exact Or.inr (by decide) | exact Or.inr (by omega)) ?_
  refine wp_getR dX10_readText_56 fX10_18 rfl (by decide) ?_
  refine wp_topR (x' := 2) rfl ?_
  refine wp_cVq (n := 0) (mt' := mX1_takePiece) (as := []) (rest := []) _ dX10_readText_59 lX10_177 kX1_takePiece vX1_takePiece (by decide) (by decide +kernel) rfl (Nat.le_of_ble_eq_true rfl) (by decide) rfl rfl rfl (Nat.le_of_ble_eq_true rfl) (fun hM hS => h) (fun r M' hq hM => ?_)
  obtain ⟨x59, m59, n59, rfl, rfl, h⟩ := rI_out hq
  refine wp_istore dX10_readText_62 (by decide) (wp_L (L' := [some (vR 10), some (vR b), some (vI l2), some (vI l3), some (vI l4), some (vI s0), some (vI x59)]) rfl ?_)
  refine wp_iload dX10_readText_64 rfl ?_
  refine wp_iconst dX10_readText_66 (by decide) ?_
  refine wp_icmp_ne (tgt := 72) dX10_readText_67 (by decide) (fun h67 => ?_) (fun h67 => ?_)
  · replace h := h.2 h67
    refine wp_iload_n dX10_readText_72 rfl rfl ?_
    refine wp_iconst dX10_readText_73 (by decide) ?_
    refine wp_icmp_ne (tgt := 88) dX10_readText_74 (by decide) (fun h74 => ?_) (fun h74 => ?_)
    · replace h := h.2 h74
      exact h
    · replace h := h.1 h74
      refine wp_aload_n dX10_readText_77 rfl rfl (by first | exact Or.inl (by decide) | exact Or.inl (by omega) | exact Or.inr (by decide) | exact Or.inr (by omega)) ?_
      refine wp_iconst dX10_readText_78 (by decide) ?_
      refine wp_aload_n dX10_readText_79 rfl rfl (by first | exact Or.inl (by decide) | exact Or.inl (by omega) | exact Or.inr (by decide) | exact Or.inr (by omega)) ?_
      refine wp_getI dX10_readText_80 fX10_9 rfl (by decide) ?_
      refine wp_iconst dX10_readText_83 (by decide) ?_
      refine wp_cVq (n := 3) (mt' := mX3_add) (as := [vI 3, vI (m59 10 1), vI (-1)]) (rest := []) _ dX10_readText_84 lX10_22 kX3_add vX3_add (by decide) (by decide +kernel) rfl (Nat.le_of_ble_eq_true rfl) (by omega) (show KD[b]? = some (7, 19) from kdb_0 hbd) rfl rfl (Nat.le_of_ble_eq_true rfl) (fun hM hS => h) (fun r M' hq hM => ?_)
      obtain ⟨x84, m84, n84, rfl, rfl, h⟩ := rI_out hq
      refine wp_istore_n dX10_readText_87 rfl (by decide) (wp_L (L' := [some (vR 10), some (vR b), some (vI x84), some (vI l3), some (vI l4), some (vI s0), some (vI x59)]) rfl ?_)
      exact h
  · replace h := h.1 h67
    refine wp_iconst dX10_readText_70 (by decide) ?_
    exact wp_zret dX10_readText_71 rfl (by decide) (fun _ => h)
theorem v_X10_readText_88 {cs : Cs} {Q : Option AV → Mm → Prop} {MI ML : Nat → Nat → Int} {b d e nw th : Nat} {l2 l3 l4 l5 l6 : Int} (hbd : b = 38 ∨ b = 81)
    (h : ((l2 = (-1) → wp cs mX1_refuse KD (rI (GR d e nw th 1) fun x110 m110 n110 => (x110 = 0 ∨ x110 = 1) ∧ Q (some (vI x110)) (m110, n110, (GR d e nw th 1))) 0 (padL [vR 2, vI (-3), vI l4] 3) [] (KD, MI, ML, (GR d e nw th 1))) ∧ (l2 ≠ (-1) → wp cs mX3_addTextByte KD (rI (GR d e nw th 1) fun x96 m96 n96 => ((x96 = 0 → wp cs mX1_refuse KD (rI (GR d e nw th 1) fun x110 m110 n110 => (x110 = 0 ∨ x110 = 1) ∧ Q (some (vI x110)) (m110, n110, (GR d e nw th 1))) 0 (padL [vR 2, vI (-3), vI l4] 3) [] (KD, m96, n96, (GR d e nw th 1))) ∧ (x96 ≠ 0 → ((l5 = 0 → wp cs mX1_isSpace KD (rI (GR d e nw th 1) fun x121 m121 n121 => ((x121 = 0 → (0 ≤ l2 ∧ l2 < 600) ∧ ∀ m133, m133 = up2 m121 (b + 37) l2.toNat 2 → wp cs mX10_readText KD Q 134 [some (vR 10), some (vR b), some (vI l2), some (vI l3), some (vI l4), some (vI l5), some (vI l6)] [] (KD, m133, n121, (GR d e nw th 1))) ∧ (x121 ≠ 0 → wp cs mX10_readText KD Q 134 [some (vR 10), some (vR b), some (vI l2), some (vI l3), some (vI l4), some (vI l5), some (vI l6)] [] (KD, m121, n121, (GR d e nw th 1))))) 0 (padL [vI l6] 1) [] (KD, m96, n96, (GR d e nw th 1))) ∧ (l5 ≠ 0 → (0 ≤ l2 ∧ l2 < 600) ∧ ∀ m133, m133 = up2 m96 (b + 37) l2.toNat 2 → wp cs mX10_readText KD Q 134 [some (vR 10), some (vR b), some (vI l2), some (vI l3), some (vI l4), some (vI l5), some (vI l6)] [] (KD, m133, n96, (GR d e nw th 1))))))) 0 (padL [vR b, vI l6] 2) [] (KD, MI, ML, (GR d e nw th 1))))) :
    wp cs mX10_readText KD Q 88 [some (vR 10), some (vR b), some (vI l2), some (vI l3), some (vI l4), some (vI l5), some (vI l6)] [] (KD, MI, ML, (GR d e nw th 1)) := by
  refine wp_iload_n dX10_readText_88 rfl rfl ?_
  refine wp_iconst dX10_readText_89 (by decide) ?_
  refine wp_icmp_eq (tgt := 102) dX10_readText_90 (by decide) (fun h90 => ?_) (fun h90 => ?_)
  · replace h := h.1 h90
    refine wp_aload_n dX10_readText_102 rfl rfl (by first | exact Or.inl (by decide) | exact Or.inl (by omega) | exact Or.inr (by decide) | exact Or.inr (by omega)) ?_
    refine wp_getR dX10_readText_103 fX10_18 rfl (by decide) ?_
    refine wp_topR (x' := 2) rfl ?_
    refine wp_bipush dX10_readText_106 (by decide +kernel) (by decide) ?_
    refine wp_iload dX10_readText_108 rfl ?_
    refine wp_cVq (n := 2) (mt' := mX1_refuse) (as := [vI (-3), vI l4]) (rest := []) _ dX10_readText_110 lX10_80 kX1_refuse vX1_refuse (by decide) (by decide +kernel) rfl (Nat.le_of_ble_eq_true rfl) (by decide) rfl rfl rfl (Nat.le_of_ble_eq_true rfl) (fun hM hS => h) (fun r M' hq hM => ?_)
    obtain ⟨x110, m110, n110, rfl, rfl, h⟩ := rI_out hq
    exact wp_zret dX10_readText_113 rfl h.1 (fun _ => h.2)
  · replace h := h.2 h90
    refine wp_aload_n dX10_readText_93 rfl rfl (by first | exact Or.inl (by decide) | exact Or.inl (by omega) | exact Or.inr (by decide) | exact Or.inr (by omega)) ?_
    refine wp_iload dX10_readText_94 rfl ?_
    refine wp_cVq (n := 1) (mt' := mX3_addTextByte) (as := [vI l6]) (rest := []) _ dX10_readText_96 lX10_180 kX3_addTextByte vX3_addTextByte (by decide) (by decide +kernel) rfl (Nat.le_of_ble_eq_true rfl) (by omega) (show KD[b]? = some (7, 19) from kdb_0 hbd) rfl rfl (Nat.le_of_ble_eq_true rfl) (fun hM hS => h) (fun r M' hq hM => ?_)
    obtain ⟨x96, m96, n96, rfl, rfl, h⟩ := rI_out hq
    refine wp_if_ne (tgt := 114) dX10_readText_99 (by decide) (fun h99 => ?_) (fun h99 => ?_)
    · replace h := h.2 h99
      refine wp_iload dX10_readText_114 rfl ?_
      refine wp_if_ne (tgt := 127) dX10_readText_116 (by decide) (fun h116 => ?_) (fun h116 => ?_)
      · replace h := h.2 h116
        refine wp_aload_n dX10_readText_127 rfl rfl (by first | exact Or.inl (by decide) | exact Or.inl (by omega) | exact Or.inr (by decide) | exact Or.inr (by omega)) ?_
        refine wp_getR dX10_readText_128 fX10_167 (show KD[b]? = some (7, 19) from kdb_0 hbd) (by omega) ?_
        refine wp_topR (x' := (b + 37)) (grb_0_8 hbd) ?_
        refine wp_iload_n dX10_readText_131 rfl rfl ?_
        refine wp_iconst dX10_readText_132 (by decide) ?_
        have c0 := h.1
        replace h := h.2
        refine wp_iast dX10_readText_133 (kdb_37 hbd) (by omega) c0 ?_
        refine wp_gI (fun m133 e133 => ?_)
        replace h := h m133 e133
        exact h
      · replace h := h.1 h116
        refine wp_iload dX10_readText_119 rfl ?_
        refine wp_cSq (n := 1) (mt' := mX1_isSpace) (as := [vI l6]) (rest := []) _ dX10_readText_121 lX10_183 kX1_isSpace vX1_isSpace (by decide) (by decide +kernel) rfl (Nat.le_of_ble_eq_true rfl) rfl (Nat.le_of_ble_eq_true rfl) (fun hM hS => h) (fun r M' hq hM => ?_)
        obtain ⟨x121, m121, n121, rfl, rfl, h⟩ := rI_out hq
        refine wp_if_ne (tgt := 134) dX10_readText_124 (by decide) (fun h124 => ?_) (fun h124 => ?_)
        · replace h := h.2 h124
          exact h
        · replace h := h.1 h124
          refine wp_aload_n dX10_readText_127 rfl rfl (by first | exact Or.inl (by decide) | exact Or.inl (by omega) | exact Or.inr (by decide) | exact Or.inr (by omega)) ?_
          refine wp_getR dX10_readText_128 fX10_167 (show KD[b]? = some (7, 19) from kdb_0 hbd) (by omega) ?_
          refine wp_topR (x' := (b + 37)) (grb_0_8 hbd) ?_
          refine wp_iload_n dX10_readText_131 rfl rfl ?_
          refine wp_iconst dX10_readText_132 (by decide) ?_
          have c0 := h.1
          replace h := h.2
          refine wp_iast dX10_readText_133 (kdb_37 hbd) (by omega) c0 ?_
          refine wp_gI (fun m133 e133 => ?_)
          replace h := h m133 e133
          exact h
    · replace h := h.1 h99
      refine wp_aload_n dX10_readText_102 rfl rfl (by first | exact Or.inl (by decide) | exact Or.inl (by omega) | exact Or.inr (by decide) | exact Or.inr (by omega)) ?_
      refine wp_getR dX10_readText_103 fX10_18 rfl (by decide) ?_
      refine wp_topR (x' := 2) rfl ?_
      refine wp_bipush dX10_readText_106 (by decide +kernel) (by decide) ?_
      refine wp_iload dX10_readText_108 rfl ?_
      refine wp_cVq (n := 2) (mt' := mX1_refuse) (as := [vI (-3), vI l4]) (rest := []) _ dX10_readText_110 lX10_80 kX1_refuse vX1_refuse (by decide) (by decide +kernel) rfl (Nat.le_of_ble_eq_true rfl) (by decide) rfl rfl rfl (Nat.le_of_ble_eq_true rfl) (fun hM hS => h) (fun r M' hq hM => ?_)
      obtain ⟨x110, m110, n110, rfl, rfl, h⟩ := rI_out hq
      exact wp_zret dX10_readText_113 rfl h.1 (fun _ => h.2)
theorem v_X10_readText_134 {cs : Cs} {Q : Option AV → Mm → Prop} {MI ML : Nat → Nat → Int} {b d e nw th : Nat} {l2 l3 l4 l5 l6 : Int} (hbd : b = 38 ∨ b = 81)
    (h : (0 ≤ l2 ∧ l2 < 600) ∧ ∀ m143, m143 = up2 MI (b + 40) l2.toNat (MI b 15) → (-2147483648 ≤ l3 + 1 ∧ l3 + 1 < 2147483648) ∧ wp cs mX10_readText KD Q 4 [some (vR 10), some (vR b), some (vI l2), some (vI (l3 + 1)), none, none, none] [] (KD, m143, ML, (GR d e nw th 1))) :
    wp cs mX10_readText KD Q 134 [some (vR 10), some (vR b), some (vI l2), some (vI l3), some (vI l4), some (vI l5), some (vI l6)] [] (KD, MI, ML, (GR d e nw th 1)) := by
  refine wp_aload_n dX10_readText_134 rfl rfl (by first | exact Or.inl (by decide) | exact Or.inl (by omega) | exact Or.inr (by decide) | exact Or.inr (by omega)) ?_
  refine wp_getR dX10_readText_135 fX10_128 (show KD[b]? = some (7, 19) from kdb_0 hbd) (by omega) ?_
  refine wp_topR (x' := (b + 40)) (grb_0_11 hbd) ?_
  refine wp_iload_n dX10_readText_138 rfl rfl ?_
  refine wp_aload_n dX10_readText_139 rfl rfl (by first | exact Or.inl (by decide) | exact Or.inl (by omega) | exact Or.inr (by decide) | exact Or.inr (by omega)) ?_
  refine wp_getI dX10_readText_140 fX10_186 (show KD[b]? = some (7, 19) from kdb_0 hbd) (by omega) ?_
  have c0 := h.1
  replace h := h.2
  refine wp_iast dX10_readText_143 (kdb_40 hbd) (by omega) c0 ?_
  refine wp_gI (fun m143 e143 => ?_)
  replace h := h m143 e143
  have c1 := h.1
  replace h := h.2
  refine wp_iincr dX10_readText_144 rfl (by decide) c1 (wp_L (L' := [some (vR 10), some (vR b), some (vI l2), some (vI (l3 + 1)), some (vI l4), some (vI l5), some (vI l6)]) rfl ?_)
  refine wp_pc (pc' := 147) rfl ?_
  refine wp_goto (tgt := 4) dX10_readText_147 (by decide) ?_
  refine wp_forget (L' := [some (vR 10), some (vR b), some (vI l2), some (vI (l3 + 1)), none, none, none]) (by repeat' (first | exact trivial | refine ⟨rfl, ?_⟩)) ?_
  exact h
theorem dX10_readTree_0 : decode cX10_readTree 0 = .ok (.aload_n 0, 1) := by decide +kernel
theorem dX10_readTree_1 : decode cX10_readTree 1 = .ok (.aload_n 1, 1) := by decide +kernel
theorem dX10_readTree_2 : decode cX10_readTree 2 = .ok (.iconst 0, 1) := by decide +kernel
theorem dX10_readTree_3 : decode cX10_readTree 3 = .ok (.iconst (-1), 1) := by decide +kernel
theorem dX10_readTree_4 : decode cX10_readTree 4 = .ok (.iconst (-1), 1) := by decide +kernel
theorem dX10_readTree_5 : decode cX10_readTree 5 = .ok (.invokevirtual 22, 3) := by decide +kernel
theorem dX10_readTree_8 : decode cX10_readTree 8 = .ok (.putfield 9, 3) := by decide +kernel
theorem dX10_readTree_11 : decode cX10_readTree 11 = .ok (.aload_n 0, 1) := by decide +kernel
theorem dX10_readTree_12 : decode cX10_readTree 12 = .ok (.iconst 0, 1) := by decide +kernel
theorem dX10_readTree_13 : decode cX10_readTree 13 = .ok (.putfield 15, 3) := by decide +kernel
theorem dX10_readTree_16 : decode cX10_readTree 16 = .ok (.aload_n 0, 1) := by decide +kernel
theorem dX10_readTree_17 : decode cX10_readTree 17 = .ok (.getfield 18, 3) := by decide +kernel
theorem dX10_readTree_20 : decode cX10_readTree 20 = .ok (.ldc 28, 2) := by decide +kernel
theorem dX10_readTree_22 : decode cX10_readTree 22 = .ok (.invokevirtual 30, 3) := by decide +kernel
theorem dX10_readTree_25 : decode cX10_readTree 25 = .ok (.ifCond .eq 11, 3) := by decide +kernel
theorem dX10_readTree_28 : decode cX10_readTree 28 = .ok (.aload_n 0, 1) := by decide +kernel
theorem dX10_readTree_29 : decode cX10_readTree 29 = .ok (.aload_n 1, 1) := by decide +kernel
theorem dX10_readTree_30 : decode cX10_readTree 30 = .ok (.invokevirtual 36, 3) := by decide +kernel
theorem dX10_readTree_33 : decode cX10_readTree 33 = .ok (.ifCond .ne 5, 3) := by decide +kernel
theorem dX10_readTree_36 : decode cX10_readTree 36 = .ok (.iconst 0, 1) := by decide +kernel
theorem dX10_readTree_37 : decode cX10_readTree 37 = .ok (.ireturn, 1) := by decide +kernel
theorem dX10_readTree_38 : decode cX10_readTree 38 = .ok (.iconst 0, 1) := by decide +kernel
theorem dX10_readTree_39 : decode cX10_readTree 39 = .ok (.istore_n 2, 1) := by decide +kernel
theorem dX10_readTree_40 : decode cX10_readTree 40 = .ok (.iload_n 2, 1) := by decide +kernel
theorem dX10_readTree_41 : decode cX10_readTree 41 = .ok (.aload_n 0, 1) := by decide +kernel
theorem dX10_readTree_42 : decode cX10_readTree 42 = .ok (.getfield 18, 3) := by decide +kernel
theorem dX10_readTree_45 : decode cX10_readTree 45 = .ok (.getfield 40, 3) := by decide +kernel
theorem dX10_readTree_48 : decode cX10_readTree 48 = .ok (.if_icmp .ge 93, 3) := by decide +kernel
theorem dX10_readTree_51 : decode cX10_readTree 51 = .ok (.aload_n 0, 1) := by decide +kernel
theorem dX10_readTree_52 : decode cX10_readTree 52 = .ok (.getfield 15, 3) := by decide +kernel
theorem dX10_readTree_55 : decode cX10_readTree 55 = .ok (.ifCond .le 86, 3) := by decide +kernel
theorem dX10_readTree_58 : decode cX10_readTree 58 = .ok (.aload_n 0, 1) := by decide +kernel
theorem dX10_readTree_59 : decode cX10_readTree 59 = .ok (.getfield 18, 3) := by decide +kernel
theorem dX10_readTree_62 : decode cX10_readTree 62 = .ok (.ldc 43, 2) := by decide +kernel
theorem dX10_readTree_64 : decode cX10_readTree 64 = .ok (.invokevirtual 45, 3) := by decide +kernel
theorem dX10_readTree_67 : decode cX10_readTree 67 = .ok (.ifCond .eq 12, 3) := by decide +kernel
theorem dX10_readTree_70 : decode cX10_readTree 70 = .ok (.aload_n 0, 1) := by decide +kernel
theorem dX10_readTree_71 : decode cX10_readTree 71 = .ok (.aload_n 1, 1) := by decide +kernel
theorem dX10_readTree_72 : decode cX10_readTree 72 = .ok (.invokevirtual 48, 3) := by decide +kernel
theorem dX10_readTree_75 : decode cX10_readTree 75 = .ok (.istore_n 3, 1) := by decide +kernel
theorem dX10_readTree_76 : decode cX10_readTree 76 = .ok (.goto 53, 3) := by decide +kernel
theorem dX10_readTree_79 : decode cX10_readTree 79 = .ok (.aload_n 0, 1) := by decide +kernel
theorem dX10_readTree_80 : decode cX10_readTree 80 = .ok (.getfield 18, 3) := by decide +kernel
theorem dX10_readTree_83 : decode cX10_readTree 83 = .ok (.ldc 51, 2) := by decide +kernel
theorem dX10_readTree_85 : decode cX10_readTree 85 = .ok (.invokevirtual 45, 3) := by decide +kernel
theorem dX10_readTree_88 : decode cX10_readTree 88 = .ok (.ifCond .eq 14, 3) := by decide +kernel
theorem dX10_readTree_91 : decode cX10_readTree 91 = .ok (.aload_n 0, 1) := by decide +kernel
theorem dX10_readTree_92 : decode cX10_readTree 92 = .ok (.getfield 18, 3) := by decide +kernel
theorem dX10_readTree_95 : decode cX10_readTree 95 = .ok (.invokevirtual 53, 3) := by decide +kernel
theorem dX10_readTree_98 : decode cX10_readTree 98 = .ok (.istore_n 3, 1) := by decide +kernel
theorem dX10_readTree_99 : decode cX10_readTree 99 = .ok (.goto 30, 3) := by decide +kernel
theorem dX10_readTree_102 : decode cX10_readTree 102 = .ok (.aload_n 0, 1) := by decide +kernel
theorem dX10_readTree_103 : decode cX10_readTree 103 = .ok (.getfield 18, 3) := by decide +kernel
theorem dX10_readTree_106 : decode cX10_readTree 106 = .ok (.ldc 28, 2) := by decide +kernel
theorem dX10_readTree_108 : decode cX10_readTree 108 = .ok (.invokevirtual 45, 3) := by decide +kernel
theorem dX10_readTree_111 : decode cX10_readTree 111 = .ok (.ifCond .eq 12, 3) := by decide +kernel
theorem dX10_readTree_114 : decode cX10_readTree 114 = .ok (.aload_n 0, 1) := by decide +kernel
theorem dX10_readTree_115 : decode cX10_readTree 115 = .ok (.aload_n 1, 1) := by decide +kernel
theorem dX10_readTree_116 : decode cX10_readTree 116 = .ok (.invokevirtual 36, 3) := by decide +kernel
theorem dX10_readTree_119 : decode cX10_readTree 119 = .ok (.istore_n 3, 1) := by decide +kernel
theorem dX10_readTree_120 : decode cX10_readTree 120 = .ok (.goto 9, 3) := by decide +kernel
theorem dX10_readTree_123 : decode cX10_readTree 123 = .ok (.aload_n 0, 1) := by decide +kernel
theorem dX10_readTree_124 : decode cX10_readTree 124 = .ok (.aload_n 1, 1) := by decide +kernel
theorem dX10_readTree_125 : decode cX10_readTree 125 = .ok (.invokevirtual 57, 3) := by decide +kernel
theorem dX10_readTree_128 : decode cX10_readTree 128 = .ok (.istore_n 3, 1) := by decide +kernel
theorem dX10_readTree_129 : decode cX10_readTree 129 = .ok (.iload_n 3, 1) := by decide +kernel
theorem dX10_readTree_130 : decode cX10_readTree 130 = .ok (.ifCond .ne 5, 3) := by decide +kernel
theorem dX10_readTree_133 : decode cX10_readTree 133 = .ok (.iconst 0, 1) := by decide +kernel
theorem dX10_readTree_134 : decode cX10_readTree 134 = .ok (.ireturn, 1) := by decide +kernel
theorem dX10_readTree_135 : decode cX10_readTree 135 = .ok (.iinc 2 1, 3) := by decide +kernel
theorem dX10_readTree_138 : decode cX10_readTree 138 = .ok (.goto (-98), 3) := by decide +kernel
theorem dX10_readTree_141 : decode cX10_readTree 141 = .ok (.aload_n 1, 1) := by decide +kernel
theorem dX10_readTree_142 : decode cX10_readTree 142 = .ok (.iconst 0, 1) := by decide +kernel
theorem dX10_readTree_143 : decode cX10_readTree 143 = .ok (.invokevirtual 60, 3) := by decide +kernel
theorem dX10_readTree_146 : decode cX10_readTree 146 = .ok (.iconst 1, 1) := by decide +kernel
theorem dX10_readTree_147 : decode cX10_readTree 147 = .ok (.ireturn, 1) := by decide +kernel
theorem v_X10_readTree_0 {cs : Cs} {Q : Option AV → Mm → Prop} {MI ML : Nat → Nat → Int} {b d e nw th : Nat} (hbd : b = 38 ∨ b = 81)
    (h : wp cs mX3_add KD (rI (GR d e nw th 1) fun x5 m5 n5 => ∀ m8, m8 = up2 m5 10 1 x5 → ∀ m13, m13 = up2 m8 10 2 0 → wp cs mX1_take KD (rI (GR d e nw th 1) fun x22 m22 n22 => ((x22 = 0 → Q (some (vI 0)) (m22, n22, (GR d e nw th 1))) ∧ (x22 ≠ 0 → wp cs mX10_readTag KD (rI (GR d e nw th 1) fun x30 m30 n30 => ((x30 = 0 → Q (some (vI 0)) (m30, n30, (GR d e nw th 1))) ∧ (x30 ≠ 0 → wp cs mX10_readTree KD Q 40 [some (vR 10), some (vR b), some (vI 0), none] [] (KD, m30, n30, (GR d e nw th 1))))) 0 (padL [vR 10, vR b] 6) [] (KD, m22, n22, (GR d e nw th 1))))) 0 (padL [vR 2, vR 1000030] 2) [] (KD, m13, n5, (GR d e nw th 1))) 0 (padL [vR b, vI 0, vI (-1), vI (-1)] 6) [] (KD, MI, ML, (GR d e nw th 1))) :
    wp cs mX10_readTree KD Q 0 (padL [vR 10, vR b] 4) [] (KD, MI, ML, (GR d e nw th 1)) := by
  refine wp_L (L' := [some (vR 10), some (vR b), none, none]) rfl ?_
  refine wp_aload_n dX10_readTree_0 rfl rfl (by first | exact Or.inl (by decide) | exact Or.inl (by omega) | exact Or.inr (by decide) | exact Or.inr (by omega)) ?_
  refine wp_aload_n dX10_readTree_1 rfl rfl (by first | exact Or.inl (by decide) | exact Or.inl (by omega) | exact Or.inr (by decide) | exact Or.inr (by omega)) ?_
  refine wp_iconst dX10_readTree_2 (by decide) ?_
  refine wp_iconst dX10_readTree_3 (by decide) ?_
  refine wp_iconst dX10_readTree_4 (by decide) ?_
  refine wp_cVq (n := 3) (mt' := mX3_add) (as := [vI 0, vI (-1), vI (-1)]) (rest := [vR 10]) _ dX10_readTree_5 lX10_22 kX3_add vX3_add (by decide) (by decide +kernel) rfl (Nat.le_of_ble_eq_true rfl) (by omega) (show KD[b]? = some (7, 19) from kdb_0 hbd) rfl rfl (Nat.le_of_ble_eq_true rfl) (fun hM hS => h) (fun r M' hq hM => ?_)
  obtain ⟨x5, m5, n5, rfl, rfl, h⟩ := rI_out hq
  refine wp_putI dX10_readTree_8 pX10_9 rfl (by decide) ?_
  refine wp_gI (fun m8 e8 => ?_)
  replace h := h m8 e8
  refine wp_aload_n dX10_readTree_11 rfl rfl (by first | exact Or.inl (by decide) | exact Or.inl (by omega) | exact Or.inr (by decide) | exact Or.inr (by omega)) ?_
  refine wp_iconst dX10_readTree_12 (by decide) ?_
  refine wp_putI dX10_readTree_13 pX10_15 rfl (by decide) ?_
  refine wp_gI (fun m13 e13 => ?_)
  replace h := h m13 e13
  refine wp_aload_n dX10_readTree_16 rfl rfl (by first | exact Or.inl (by decide) | exact Or.inl (by omega) | exact Or.inr (by decide) | exact Or.inr (by omega)) ?_
  refine wp_getR dX10_readTree_17 fX10_18 rfl (by decide) ?_
  refine wp_topR (x' := 2) rfl ?_
  refine wp_ldcS (k := 27) dX10_readTree_20 cX10_28 ?_
  refine wp_pc (pc' := 22) rfl ?_
  refine wp_cVq (n := 1) (mt' := mX1_take) (as := [vR 1000030]) (rest := []) _ dX10_readTree_22 lX10_30 kX1_take vX1_take (by decide) (by decide +kernel) rfl (Nat.le_of_ble_eq_true rfl) (by decide) rfl rfl rfl (Nat.le_of_ble_eq_true rfl) (fun hM hS => h) (fun r M' hq hM => ?_)
  obtain ⟨x22, m22, n22, rfl, rfl, h⟩ := rI_out hq
  refine wp_if_eq (tgt := 36) dX10_readTree_25 (by decide) (fun h25 => ?_) (fun h25 => ?_)
  · replace h := h.1 h25
    refine wp_iconst dX10_readTree_36 (by decide) ?_
    exact wp_zret dX10_readTree_37 rfl (by decide) (fun _ => h)
  · replace h := h.2 h25
    refine wp_aload_n dX10_readTree_28 rfl rfl (by first | exact Or.inl (by decide) | exact Or.inl (by omega) | exact Or.inr (by decide) | exact Or.inr (by omega)) ?_
    refine wp_aload_n dX10_readTree_29 rfl rfl (by first | exact Or.inl (by decide) | exact Or.inl (by omega) | exact Or.inr (by decide) | exact Or.inr (by omega)) ?_
    refine wp_cVq (n := 1) (mt' := mX10_readTag) (as := [vR b]) (rest := []) _ dX10_readTree_30 lX10_36 kX10_readTag vX10_readTag (by decide) (by decide +kernel) rfl (Nat.le_of_ble_eq_true rfl) (by decide) rfl rfl rfl (Nat.le_of_ble_eq_true rfl) (fun hM hS => h) (fun r M' hq hM => ?_)
    obtain ⟨x30, m30, n30, rfl, rfl, h⟩ := rI_out hq
    refine wp_if_ne (tgt := 38) dX10_readTree_33 (by decide) (fun h33 => ?_) (fun h33 => ?_)
    · replace h := h.2 h33
      refine wp_iconst dX10_readTree_38 (by decide) ?_
      refine wp_istore_n dX10_readTree_39 rfl (by decide) (wp_L (L' := [some (vR 10), some (vR b), some (vI 0), none]) rfl ?_)
      exact h
    · replace h := h.1 h33
      refine wp_iconst dX10_readTree_36 (by decide) ?_
      exact wp_zret dX10_readTree_37 rfl (by decide) (fun _ => h)
theorem v_X10_readTree_40 {cs : Cs} {Q : Option AV → Mm → Prop} {MI ML : Nat → Nat → Int} {b d e nw th : Nat} {l2 : Int} (hbd : b = 38 ∨ b = 81)
    (h : ((l2 < (MI 2 1) → ((0 < (MI 10 2) → wp cs mX1_takeIf KD (rI (GR d e nw th 1) fun x64 m64 n64 => ((x64 = 0 → wp cs mX1_takeIf KD (rI (GR d e nw th 1) fun x85 m85 n85 => ((x85 = 0 → wp cs mX1_takeIf KD (rI (GR d e nw th 1) fun x108 m108 n108 => ((x108 = 0 → wp cs mX10_readText KD (rI (GR d e nw th 1) fun x125 m125 n125 => ((x125 = 0 → Q (some (vI 0)) (m125, n125, (GR d e nw th 1))) ∧ (x125 ≠ 0 → (-2147483648 ≤ l2 + 1 ∧ l2 + 1 < 2147483648) ∧ wp cs mX10_readTree KD Q 40 [some (vR 10), some (vR b), some (vI (l2 + 1)), none] [] (KD, m125, n125, (GR d e nw th 1))))) 0 (padL [vR 10, vR b] 7) [] (KD, m108, n108, (GR d e nw th 1))) ∧ (x108 ≠ 0 → wp cs mX10_readTag KD (rI (GR d e nw th 1) fun x116 m116 n116 => ((x116 = 0 → Q (some (vI 0)) (m116, n116, (GR d e nw th 1))) ∧ (x116 ≠ 0 → (-2147483648 ≤ l2 + 1 ∧ l2 + 1 < 2147483648) ∧ wp cs mX10_readTree KD Q 40 [some (vR 10), some (vR b), some (vI (l2 + 1)), none] [] (KD, m116, n116, (GR d e nw th 1))))) 0 (padL [vR 10, vR b] 6) [] (KD, m108, n108, (GR d e nw th 1))))) 0 (padL [vR 2, vR 1000030] 4) [] (KD, m85, n85, (GR d e nw th 1))) ∧ (x85 ≠ 0 → wp cs mX1_finishComment KD (rI (GR d e nw th 1) fun x95 m95 n95 => ((x95 = 0 → Q (some (vI 0)) (m95, n95, (GR d e nw th 1))) ∧ (x95 ≠ 0 → (-2147483648 ≤ l2 + 1 ∧ l2 + 1 < 2147483648) ∧ wp cs mX10_readTree KD Q 40 [some (vR 10), some (vR b), some (vI (l2 + 1)), none] [] (KD, m95, n95, (GR d e nw th 1))))) 0 (padL [vR 2] 1) [] (KD, m85, n85, (GR d e nw th 1))))) 0 (padL [vR 2, vR 1000003] 4) [] (KD, m64, n64, (GR d e nw th 1))) ∧ (x64 ≠ 0 → wp cs mX10_readEndTag KD (rI (GR d e nw th 1) fun x72 m72 n72 => ((x72 = 0 → Q (some (vI 0)) (m72, n72, (GR d e nw th 1))) ∧ (x72 ≠ 0 → (-2147483648 ≤ l2 + 1 ∧ l2 + 1 < 2147483648) ∧ wp cs mX10_readTree KD Q 40 [some (vR 10), some (vR b), some (vI (l2 + 1)), none] [] (KD, m72, n72, (GR d e nw th 1))))) 0 (padL [vR 10, vR b] 2) [] (KD, m64, n64, (GR d e nw th 1))))) 0 (padL [vR 2, vR 1000033] 4) [] (KD, MI, ML, (GR d e nw th 1))) ∧ ((MI 10 2) ≤ 0 → wp cs mX3_close KD (rV (GR d e nw th 1) fun m143 n143 => Q (some (vI 1)) (m143, n143, (GR d e nw th 1))) 0 (padL [vR b, vI 0] 2) [] (KD, MI, ML, (GR d e nw th 1))))) ∧ ((MI 2 1) ≤ l2 → wp cs mX3_close KD (rV (GR d e nw th 1) fun m143 n143 => Q (some (vI 1)) (m143, n143, (GR d e nw th 1))) 0 (padL [vR b, vI 0] 2) [] (KD, MI, ML, (GR d e nw th 1))))) :
    wp cs mX10_readTree KD Q 40 [some (vR 10), some (vR b), some (vI l2), none] [] (KD, MI, ML, (GR d e nw th 1)) := by
  refine wp_iload_n dX10_readTree_40 rfl rfl ?_
  refine wp_aload_n dX10_readTree_41 rfl rfl (by first | exact Or.inl (by decide) | exact Or.inl (by omega) | exact Or.inr (by decide) | exact Or.inr (by omega)) ?_
  refine wp_getR dX10_readTree_42 fX10_18 rfl (by decide) ?_
  refine wp_topR (x' := 2) rfl ?_
  refine wp_getI dX10_readTree_45 fX10_40 rfl (by decide) ?_
  refine wp_icmp_ge (tgt := 141) dX10_readTree_48 (by decide) (fun h48 => ?_) (fun h48 => ?_)
  · replace h := h.2 h48
    refine wp_aload_n dX10_readTree_141 rfl rfl (by first | exact Or.inl (by decide) | exact Or.inl (by omega) | exact Or.inr (by decide) | exact Or.inr (by omega)) ?_
    refine wp_iconst dX10_readTree_142 (by decide) ?_
    refine wp_cVq (n := 1) (mt' := mX3_close) (as := [vI 0]) (rest := []) _ dX10_readTree_143 lX10_60 kX3_close vX3_close (by decide) (by decide +kernel) rfl (Nat.le_of_ble_eq_true rfl) (by omega) (show KD[b]? = some (7, 19) from kdb_0 hbd) rfl rfl (Nat.le_of_ble_eq_true rfl) (fun hM hS => h) (fun r M' hq hM => ?_)
    obtain ⟨m143, n143, rfl, rfl, h⟩ := rV_out hq
    refine wp_iconst dX10_readTree_146 (by decide) ?_
    exact wp_zret dX10_readTree_147 rfl (by decide) (fun _ => h)
  · replace h := h.1 h48
    refine wp_aload_n dX10_readTree_51 rfl rfl (by first | exact Or.inl (by decide) | exact Or.inl (by omega) | exact Or.inr (by decide) | exact Or.inr (by omega)) ?_
    refine wp_getI dX10_readTree_52 fX10_15 rfl (by decide) ?_
    refine wp_if_le (tgt := 141) dX10_readTree_55 (by decide) (fun h55 => ?_) (fun h55 => ?_)
    · replace h := h.2 h55
      refine wp_aload_n dX10_readTree_141 rfl rfl (by first | exact Or.inl (by decide) | exact Or.inl (by omega) | exact Or.inr (by decide) | exact Or.inr (by omega)) ?_
      refine wp_iconst dX10_readTree_142 (by decide) ?_
      refine wp_cVq (n := 1) (mt' := mX3_close) (as := [vI 0]) (rest := []) _ dX10_readTree_143 lX10_60 kX3_close vX3_close (by decide) (by decide +kernel) rfl (Nat.le_of_ble_eq_true rfl) (by omega) (show KD[b]? = some (7, 19) from kdb_0 hbd) rfl rfl (Nat.le_of_ble_eq_true rfl) (fun hM hS => h) (fun r M' hq hM => ?_)
      obtain ⟨m143, n143, rfl, rfl, h⟩ := rV_out hq
      refine wp_iconst dX10_readTree_146 (by decide) ?_
      exact wp_zret dX10_readTree_147 rfl (by decide) (fun _ => h)
    · replace h := h.1 h55
      refine wp_aload_n dX10_readTree_58 rfl rfl (by first | exact Or.inl (by decide) | exact Or.inl (by omega) | exact Or.inr (by decide) | exact Or.inr (by omega)) ?_
      refine wp_getR dX10_readTree_59 fX10_18 rfl (by decide) ?_
      refine wp_topR (x' := 2) rfl ?_
      refine wp_ldcS (k := 30) dX10_readTree_62 cX10_43 ?_
      refine wp_cVq (n := 1) (mt' := mX1_takeIf) (as := [vR 1000033]) (rest := []) _ dX10_readTree_64 lX10_45 kX1_takeIf vX1_takeIf (by decide) (by decide +kernel) rfl (Nat.le_of_ble_eq_true rfl) (by decide) rfl rfl rfl (Nat.le_of_ble_eq_true rfl) (fun hM hS => h) (fun r M' hq hM => ?_)
      obtain ⟨x64, m64, n64, rfl, rfl, h⟩ := rI_out hq
      refine wp_if_eq (tgt := 79) dX10_readTree_67 (by decide) (fun h67 => ?_) (fun h67 => ?_)
      · replace h := h.1 h67
        refine wp_aload_n dX10_readTree_79 rfl rfl (by first | exact Or.inl (by decide) | exact Or.inl (by omega) | exact Or.inr (by decide) | exact Or.inr (by omega)) ?_
        refine wp_getR dX10_readTree_80 fX10_18 rfl (by decide) ?_
        refine wp_topR (x' := 2) rfl ?_
        refine wp_ldcS (k := 0) dX10_readTree_83 cX10_51 ?_
        refine wp_cVq (n := 1) (mt' := mX1_takeIf) (as := [vR 1000003]) (rest := []) _ dX10_readTree_85 lX10_45 kX1_takeIf vX1_takeIf (by decide) (by decide +kernel) rfl (Nat.le_of_ble_eq_true rfl) (by decide) rfl rfl rfl (Nat.le_of_ble_eq_true rfl) (fun hM hS => h) (fun r M' hq hM => ?_)
        obtain ⟨x85, m85, n85, rfl, rfl, h⟩ := rI_out hq
        refine wp_if_eq (tgt := 102) dX10_readTree_88 (by decide) (fun h88 => ?_) (fun h88 => ?_)
        · replace h := h.1 h88
          refine wp_aload_n dX10_readTree_102 rfl rfl (by first | exact Or.inl (by decide) | exact Or.inl (by omega) | exact Or.inr (by decide) | exact Or.inr (by omega)) ?_
          refine wp_getR dX10_readTree_103 fX10_18 rfl (by decide) ?_
          refine wp_topR (x' := 2) rfl ?_
          refine wp_ldcS (k := 27) dX10_readTree_106 cX10_28 ?_
          refine wp_cVq (n := 1) (mt' := mX1_takeIf) (as := [vR 1000030]) (rest := []) _ dX10_readTree_108 lX10_45 kX1_takeIf vX1_takeIf (by decide) (by decide +kernel) rfl (Nat.le_of_ble_eq_true rfl) (by decide) rfl rfl rfl (Nat.le_of_ble_eq_true rfl) (fun hM hS => h) (fun r M' hq hM => ?_)
          obtain ⟨x108, m108, n108, rfl, rfl, h⟩ := rI_out hq
          refine wp_if_eq (tgt := 123) dX10_readTree_111 (by decide) (fun h111 => ?_) (fun h111 => ?_)
          · replace h := h.1 h111
            refine wp_aload_n dX10_readTree_123 rfl rfl (by first | exact Or.inl (by decide) | exact Or.inl (by omega) | exact Or.inr (by decide) | exact Or.inr (by omega)) ?_
            refine wp_aload_n dX10_readTree_124 rfl rfl (by first | exact Or.inl (by decide) | exact Or.inl (by omega) | exact Or.inr (by decide) | exact Or.inr (by omega)) ?_
            refine wp_cVq (n := 1) (mt' := mX10_readText) (as := [vR b]) (rest := []) _ dX10_readTree_125 lX10_57 kX10_readText vX10_readText (by decide) (by decide +kernel) rfl (Nat.le_of_ble_eq_true rfl) (by decide) rfl rfl rfl (Nat.le_of_ble_eq_true rfl) (fun hM hS => h) (fun r M' hq hM => ?_)
            obtain ⟨x125, m125, n125, rfl, rfl, h⟩ := rI_out hq
            refine wp_istore_n dX10_readTree_128 rfl (by decide) (wp_L (L' := [some (vR 10), some (vR b), some (vI l2), some (vI x125)]) rfl ?_)
            refine wp_iload_n dX10_readTree_129 rfl rfl ?_
            refine wp_if_ne (tgt := 135) dX10_readTree_130 (by decide) (fun h130 => ?_) (fun h130 => ?_)
            · replace h := h.2 h130
              have c0 := h.1
              replace h := h.2
              refine wp_iincr dX10_readTree_135 rfl (by decide) c0 (wp_L (L' := [some (vR 10), some (vR b), some (vI (l2 + 1)), some (vI x125)]) rfl ?_)
              refine wp_goto (tgt := 40) dX10_readTree_138 (by decide) ?_
              refine wp_forget (L' := [some (vR 10), some (vR b), some (vI (l2 + 1)), none]) (by repeat' (first | exact trivial | refine ⟨rfl, ?_⟩)) ?_
              exact h
            · replace h := h.1 h130
              refine wp_iconst dX10_readTree_133 (by decide) ?_
              exact wp_zret dX10_readTree_134 rfl (by decide) (fun _ => h)
          · replace h := h.2 h111
            refine wp_aload_n dX10_readTree_114 rfl rfl (by first | exact Or.inl (by decide) | exact Or.inl (by omega) | exact Or.inr (by decide) | exact Or.inr (by omega)) ?_
            refine wp_aload_n dX10_readTree_115 rfl rfl (by first | exact Or.inl (by decide) | exact Or.inl (by omega) | exact Or.inr (by decide) | exact Or.inr (by omega)) ?_
            refine wp_cVq (n := 1) (mt' := mX10_readTag) (as := [vR b]) (rest := []) _ dX10_readTree_116 lX10_36 kX10_readTag vX10_readTag (by decide) (by decide +kernel) rfl (Nat.le_of_ble_eq_true rfl) (by decide) rfl rfl rfl (Nat.le_of_ble_eq_true rfl) (fun hM hS => h) (fun r M' hq hM => ?_)
            obtain ⟨x116, m116, n116, rfl, rfl, h⟩ := rI_out hq
            refine wp_istore_n dX10_readTree_119 rfl (by decide) (wp_L (L' := [some (vR 10), some (vR b), some (vI l2), some (vI x116)]) rfl ?_)
            refine wp_goto (tgt := 129) dX10_readTree_120 (by decide) ?_
            refine wp_iload_n dX10_readTree_129 rfl rfl ?_
            refine wp_if_ne (tgt := 135) dX10_readTree_130 (by decide) (fun h130 => ?_) (fun h130 => ?_)
            · replace h := h.2 h130
              have c0 := h.1
              replace h := h.2
              refine wp_iincr dX10_readTree_135 rfl (by decide) c0 (wp_L (L' := [some (vR 10), some (vR b), some (vI (l2 + 1)), some (vI x116)]) rfl ?_)
              refine wp_goto (tgt := 40) dX10_readTree_138 (by decide) ?_
              refine wp_forget (L' := [some (vR 10), some (vR b), some (vI (l2 + 1)), none]) (by repeat' (first | exact trivial | refine ⟨rfl, ?_⟩)) ?_
              exact h
            · replace h := h.1 h130
              refine wp_iconst dX10_readTree_133 (by decide) ?_
              exact wp_zret dX10_readTree_134 rfl (by decide) (fun _ => h)
        · replace h := h.2 h88
          refine wp_aload_n dX10_readTree_91 rfl rfl (by first | exact Or.inl (by decide) | exact Or.inl (by omega) | exact Or.inr (by decide) | exact Or.inr (by omega)) ?_
          refine wp_getR dX10_readTree_92 fX10_18 rfl (by decide) ?_
          refine wp_topR (x' := 2) rfl ?_
          refine wp_cVq (n := 0) (mt' := mX1_finishComment) (as := []) (rest := []) _ dX10_readTree_95 lX10_53 kX1_finishComment vX1_finishComment (by decide) (by decide +kernel) rfl (Nat.le_of_ble_eq_true rfl) (by decide) rfl rfl rfl (Nat.le_of_ble_eq_true rfl) (fun hM hS => h) (fun r M' hq hM => ?_)
          obtain ⟨x95, m95, n95, rfl, rfl, h⟩ := rI_out hq
          refine wp_istore_n dX10_readTree_98 rfl (by decide) (wp_L (L' := [some (vR 10), some (vR b), some (vI l2), some (vI x95)]) rfl ?_)
          refine wp_goto (tgt := 129) dX10_readTree_99 (by decide) ?_
          refine wp_iload_n dX10_readTree_129 rfl rfl ?_
          refine wp_if_ne (tgt := 135) dX10_readTree_130 (by decide) (fun h130 => ?_) (fun h130 => ?_)
          · replace h := h.2 h130
            have c0 := h.1
            replace h := h.2
            refine wp_iincr dX10_readTree_135 rfl (by decide) c0 (wp_L (L' := [some (vR 10), some (vR b), some (vI (l2 + 1)), some (vI x95)]) rfl ?_)
            refine wp_goto (tgt := 40) dX10_readTree_138 (by decide) ?_
            refine wp_forget (L' := [some (vR 10), some (vR b), some (vI (l2 + 1)), none]) (by repeat' (first | exact trivial | refine ⟨rfl, ?_⟩)) ?_
            exact h
          · replace h := h.1 h130
            refine wp_iconst dX10_readTree_133 (by decide) ?_
            exact wp_zret dX10_readTree_134 rfl (by decide) (fun _ => h)
      · replace h := h.2 h67
        refine wp_aload_n dX10_readTree_70 rfl rfl (by first | exact Or.inl (by decide) | exact Or.inl (by omega) | exact Or.inr (by decide) | exact Or.inr (by omega)) ?_
        refine wp_aload_n dX10_readTree_71 rfl rfl (by first | exact Or.inl (by decide) | exact Or.inl (by omega) | exact Or.inr (by decide) | exact Or.inr (by omega)) ?_
        refine wp_cVq (n := 1) (mt' := mX10_readEndTag) (as := [vR b]) (rest := []) _ dX10_readTree_72 lX10_48 kX10_readEndTag vX10_readEndTag (by decide) (by decide +kernel) rfl (Nat.le_of_ble_eq_true rfl) (by decide) rfl rfl rfl (Nat.le_of_ble_eq_true rfl) (fun hM hS => h) (fun r M' hq hM => ?_)
        obtain ⟨x72, m72, n72, rfl, rfl, h⟩ := rI_out hq
        refine wp_istore_n dX10_readTree_75 rfl (by decide) (wp_L (L' := [some (vR 10), some (vR b), some (vI l2), some (vI x72)]) rfl ?_)
        refine wp_goto (tgt := 129) dX10_readTree_76 (by decide) ?_
        refine wp_iload_n dX10_readTree_129 rfl rfl ?_
        refine wp_if_ne (tgt := 135) dX10_readTree_130 (by decide) (fun h130 => ?_) (fun h130 => ?_)
        · replace h := h.2 h130
          have c0 := h.1
          replace h := h.2
          refine wp_iincr dX10_readTree_135 rfl (by decide) c0 (wp_L (L' := [some (vR 10), some (vR b), some (vI (l2 + 1)), some (vI x72)]) rfl ?_)
          refine wp_goto (tgt := 40) dX10_readTree_138 (by decide) ?_
          refine wp_forget (L' := [some (vR 10), some (vR b), some (vI (l2 + 1)), none]) (by repeat' (first | exact trivial | refine ⟨rfl, ?_⟩)) ?_
          exact h
        · replace h := h.1 h130
          refine wp_iconst dX10_readTree_133 (by decide) ?_
          exact wp_zret dX10_readTree_134 rfl (by decide) (fun _ => h)
theorem dX4_hasEarlierId_0 : decode cX4_hasEarlierId 0 = .ok (.aload_n 1, 1) := by decide +kernel
theorem dX4_hasEarlierId_1 : decode cX4_hasEarlierId 1 = .ok (.getfield 72, 3) := by decide +kernel
theorem dX4_hasEarlierId_4 : decode cX4_hasEarlierId 4 = .ok (.aload_n 1, 1) := by decide +kernel
theorem dX4_hasEarlierId_5 : decode cX4_hasEarlierId 5 = .ok (.getfield 65, 3) := by decide +kernel
theorem dX4_hasEarlierId_8 : decode cX4_hasEarlierId 8 = .ok (.getfield 116, 3) := by decide +kernel
theorem dX4_hasEarlierId_11 : decode cX4_hasEarlierId 11 = .ok (.iload_n 2, 1) := by decide +kernel
theorem dX4_hasEarlierId_12 : decode cX4_hasEarlierId 12 = .ok (.iaload, 1) := by decide +kernel
theorem dX4_hasEarlierId_13 : decode cX4_hasEarlierId 13 = .ok (.invokevirtual 117, 3) := by decide +kernel
theorem dX4_hasEarlierId_16 : decode cX4_hasEarlierId 16 = .ok (.istore_n 3, 1) := by decide +kernel
theorem dX4_hasEarlierId_17 : decode cX4_hasEarlierId 17 = .ok (.iconst 0, 1) := by decide +kernel
theorem dX4_hasEarlierId_18 : decode cX4_hasEarlierId 18 = .ok (.istore 4, 2) := by decide +kernel
theorem dX4_hasEarlierId_20 : decode cX4_hasEarlierId 20 = .ok (.iload 4, 2) := by decide +kernel
theorem dX4_hasEarlierId_22 : decode cX4_hasEarlierId 22 = .ok (.bipush 10, 2) := by decide +kernel
theorem dX4_hasEarlierId_24 : decode cX4_hasEarlierId 24 = .ok (.if_icmp .ge 44, 3) := by decide +kernel
theorem dX4_hasEarlierId_27 : decode cX4_hasEarlierId 27 = .ok (.iload_n 3, 1) := by decide +kernel
theorem dX4_hasEarlierId_28 : decode cX4_hasEarlierId 28 = .ok (.iconst (-1), 1) := by decide +kernel
theorem dX4_hasEarlierId_29 : decode cX4_hasEarlierId 29 = .ok (.if_icmp .eq 39, 3) := by decide +kernel
theorem dX4_hasEarlierId_32 : decode cX4_hasEarlierId 32 = .ok (.iload_n 3, 1) := by decide +kernel
theorem dX4_hasEarlierId_33 : decode cX4_hasEarlierId 33 = .ok (.iload_n 2, 1) := by decide +kernel
theorem dX4_hasEarlierId_34 : decode cX4_hasEarlierId 34 = .ok (.if_icmp .eq 34, 3) := by decide +kernel
theorem dX4_hasEarlierId_37 : decode cX4_hasEarlierId 37 = .ok (.aload_n 1, 1) := by decide +kernel
theorem dX4_hasEarlierId_38 : decode cX4_hasEarlierId 38 = .ok (.getfield 65, 3) := by decide +kernel
theorem dX4_hasEarlierId_41 : decode cX4_hasEarlierId 41 = .ok (.getfield 96, 3) := by decide +kernel
theorem dX4_hasEarlierId_44 : decode cX4_hasEarlierId 44 = .ok (.iload_n 3, 1) := by decide +kernel
theorem dX4_hasEarlierId_45 : decode cX4_hasEarlierId 45 = .ok (.iaload, 1) := by decide +kernel
theorem dX4_hasEarlierId_46 : decode cX4_hasEarlierId 46 = .ok (.iconst 1, 1) := by decide +kernel
theorem dX4_hasEarlierId_47 : decode cX4_hasEarlierId 47 = .ok (.if_icmp .ne 5, 3) := by decide +kernel
theorem dX4_hasEarlierId_50 : decode cX4_hasEarlierId 50 = .ok (.iconst 1, 1) := by decide +kernel
theorem dX4_hasEarlierId_51 : decode cX4_hasEarlierId 51 = .ok (.ireturn, 1) := by decide +kernel
theorem dX4_hasEarlierId_52 : decode cX4_hasEarlierId 52 = .ok (.aload_n 1, 1) := by decide +kernel
theorem dX4_hasEarlierId_53 : decode cX4_hasEarlierId 53 = .ok (.getfield 65, 3) := by decide +kernel
theorem dX4_hasEarlierId_56 : decode cX4_hasEarlierId 56 = .ok (.getfield 120, 3) := by decide +kernel
theorem dX4_hasEarlierId_59 : decode cX4_hasEarlierId 59 = .ok (.iload_n 3, 1) := by decide +kernel
theorem dX4_hasEarlierId_60 : decode cX4_hasEarlierId 60 = .ok (.iaload, 1) := by decide +kernel
theorem dX4_hasEarlierId_61 : decode cX4_hasEarlierId 61 = .ok (.istore_n 3, 1) := by decide +kernel
theorem dX4_hasEarlierId_62 : decode cX4_hasEarlierId 62 = .ok (.iinc 4 1, 3) := by decide +kernel
theorem dX4_hasEarlierId_65 : decode cX4_hasEarlierId 65 = .ok (.goto (-45), 3) := by decide +kernel
theorem dX4_hasEarlierId_68 : decode cX4_hasEarlierId 68 = .ok (.iconst 0, 1) := by decide +kernel
theorem dX4_hasEarlierId_69 : decode cX4_hasEarlierId 69 = .ok (.ireturn, 1) := by decide +kernel
theorem v_X4_hasEarlierId_0 {cs : Cs} {Q : Option AV → Mm → Prop} {MI ML : Nat → Nat → Int} {b d e nw th x : Nat} {l2 : Int} (hbd : b = 38 ∨ b = 81)
    (h : (0 ≤ l2 ∧ l2 < 750) ∧ wp cs mX5_ruleOf KD (rI (GR d e nw th x) fun x13 m13 n13 => wp cs mX4_hasEarlierId KD Q 20 [some (vR 11), some (vR b), some (vI l2), some (vI x13), some (vI 0)] [] (KD, m13, n13, (GR d e nw th x))) 0 (padL [vR (b + 1), vI (MI (b + 22) l2.toNat)] 2) [] (KD, MI, ML, (GR d e nw th x))) :
    wp cs mX4_hasEarlierId KD Q 0 (padL [vR 11, vR b, vI l2] 5) [] (KD, MI, ML, (GR d e nw th x)) := by
  refine wp_L (L' := [some (vR 11), some (vR b), some (vI l2), none, none]) rfl ?_
  refine wp_aload_n dX4_hasEarlierId_0 rfl rfl (by first | exact Or.inl (by decide) | exact Or.inl (by omega) | exact Or.inr (by decide) | exact Or.inr (by omega)) ?_
  refine wp_getR dX4_hasEarlierId_1 fX4_72 (show KD[b]? = some (7, 19) from kdb_0 hbd) (by omega) ?_
  refine wp_topR (x' := (b + 1)) (grb_0_0 hbd) ?_
  refine wp_aload_n dX4_hasEarlierId_4 rfl rfl (by first | exact Or.inl (by decide) | exact Or.inl (by omega) | exact Or.inr (by decide) | exact Or.inr (by omega)) ?_
  refine wp_getR dX4_hasEarlierId_5 fX4_65 (show KD[b]? = some (7, 19) from kdb_0 hbd) (by omega) ?_
  refine wp_topR (x' := (b + 20)) (grb_0_2 hbd) ?_
  refine wp_getR dX4_hasEarlierId_8 fX4_116 (kdb_20 hbd) (by omega) ?_
  refine wp_topR (x' := (b + 22)) (grb_20_1 hbd) ?_
  refine wp_iload_n dX4_hasEarlierId_11 rfl rfl ?_
  have c0 := h.1
  replace h := h.2
  refine wp_iald dX4_hasEarlierId_12 (kdb_22 hbd) (by omega) c0 ?_
  refine wp_pc (pc' := 13) rfl ?_
  refine wp_cVq (n := 1) (mt' := mX5_ruleOf) (as := [vI (MI (b + 22) l2.toNat)]) (rest := []) _ dX4_hasEarlierId_13 lX4_117 kX5_ruleOf vX5_ruleOf (by decide) (by decide +kernel) rfl (Nat.le_of_ble_eq_true rfl) (by omega) (kdb_1 hbd) rfl rfl (Nat.le_of_ble_eq_true rfl) (fun hM hS => h) (fun r M' hq hM => ?_)
  obtain ⟨x13, m13, n13, rfl, rfl, h⟩ := rI_out hq
  refine wp_istore_n dX4_hasEarlierId_16 rfl (by decide) (wp_L (L' := [some (vR 11), some (vR b), some (vI l2), some (vI x13), none]) rfl ?_)
  refine wp_iconst dX4_hasEarlierId_17 (by decide) ?_
  refine wp_istore dX4_hasEarlierId_18 (by decide) (wp_L (L' := [some (vR 11), some (vR b), some (vI l2), some (vI x13), some (vI 0)]) rfl ?_)
  exact h
theorem v_X4_hasEarlierId_20 {cs : Cs} {Q : Option AV → Mm → Prop} {MI ML : Nat → Nat → Int} {b d e nw th x : Nat} {l2 l3 l4 : Int} (hbd : b = 38 ∨ b = 81)
    (h : ((l4 < 10 → ((l3 = (-1) → Q (some (vI 0)) (MI, ML, (GR d e nw th x))) ∧ (l3 ≠ (-1) → ((l3 = l2 → Q (some (vI 0)) (MI, ML, (GR d e nw th x))) ∧ (l3 ≠ l2 → (0 ≤ l3 ∧ l3 < 750) ∧ (((MI (b + 23) l3.toNat) = 1 → Q (some (vI 1)) (MI, ML, (GR d e nw th x))) ∧ ((MI (b + 23) l3.toNat) ≠ 1 → (-2147483648 ≤ l4 + 1 ∧ l4 + 1 < 2147483648) ∧ wp cs mX4_hasEarlierId KD Q 20 [some (vR 11), some (vR b), some (vI l2), some (vI (MI (b + 29) l3.toNat)), some (vI (l4 + 1))] [] (KD, MI, ML, (GR d e nw th x))))))))) ∧ (10 ≤ l4 → Q (some (vI 0)) (MI, ML, (GR d e nw th x))))) :
    wp cs mX4_hasEarlierId KD Q 20 [some (vR 11), some (vR b), some (vI l2), some (vI l3), some (vI l4)] [] (KD, MI, ML, (GR d e nw th x)) := by
  refine wp_iload dX4_hasEarlierId_20 rfl ?_
  refine wp_bipush dX4_hasEarlierId_22 (by decide +kernel) (by decide) ?_
  refine wp_icmp_ge (tgt := 68) dX4_hasEarlierId_24 (by decide) (fun h24 => ?_) (fun h24 => ?_)
  · replace h := h.2 h24
    refine wp_iconst dX4_hasEarlierId_68 (by decide) ?_
    exact wp_zret dX4_hasEarlierId_69 rfl (by decide) (fun _ => h)
  · replace h := h.1 h24
    refine wp_iload_n dX4_hasEarlierId_27 rfl rfl ?_
    refine wp_iconst dX4_hasEarlierId_28 (by decide) ?_
    refine wp_icmp_eq (tgt := 68) dX4_hasEarlierId_29 (by decide) (fun h29 => ?_) (fun h29 => ?_)
    · replace h := h.1 h29
      refine wp_iconst dX4_hasEarlierId_68 (by decide) ?_
      exact wp_zret dX4_hasEarlierId_69 rfl (by decide) (fun _ => h)
    · replace h := h.2 h29
      refine wp_iload_n dX4_hasEarlierId_32 rfl rfl ?_
      refine wp_iload_n dX4_hasEarlierId_33 rfl rfl ?_
      refine wp_icmp_eq (tgt := 68) dX4_hasEarlierId_34 (by decide) (fun h34 => ?_) (fun h34 => ?_)
      · replace h := h.1 h34
        refine wp_iconst dX4_hasEarlierId_68 (by decide) ?_
        exact wp_zret dX4_hasEarlierId_69 rfl (by decide) (fun _ => h)
      · replace h := h.2 h34
        refine wp_aload_n dX4_hasEarlierId_37 rfl rfl (by first | exact Or.inl (by decide) | exact Or.inl (by omega) | exact Or.inr (by decide) | exact Or.inr (by omega)) ?_
        refine wp_getR dX4_hasEarlierId_38 fX4_65 (show KD[b]? = some (7, 19) from kdb_0 hbd) (by omega) ?_
        refine wp_topR (x' := (b + 20)) (grb_0_2 hbd) ?_
        refine wp_getR dX4_hasEarlierId_41 fX4_96 (kdb_20 hbd) (by omega) ?_
        refine wp_topR (x' := (b + 23)) (grb_20_2 hbd) ?_
        refine wp_iload_n dX4_hasEarlierId_44 rfl rfl ?_
        have c0 := h.1
        replace h := h.2
        refine wp_iald dX4_hasEarlierId_45 (kdb_23 hbd) (by omega) c0 ?_
        refine wp_iconst dX4_hasEarlierId_46 (by decide) ?_
        refine wp_icmp_ne (tgt := 52) dX4_hasEarlierId_47 (by decide) (fun h47 => ?_) (fun h47 => ?_)
        · replace h := h.2 h47
          refine wp_aload_n dX4_hasEarlierId_52 rfl rfl (by first | exact Or.inl (by decide) | exact Or.inl (by omega) | exact Or.inr (by decide) | exact Or.inr (by omega)) ?_
          refine wp_getR dX4_hasEarlierId_53 fX4_65 (show KD[b]? = some (7, 19) from kdb_0 hbd) (by omega) ?_
          refine wp_topR (x' := (b + 20)) (grb_0_2 hbd) ?_
          refine wp_getR dX4_hasEarlierId_56 fX4_120 (kdb_20 hbd) (by omega) ?_
          refine wp_topR (x' := (b + 29)) (grb_20_8 hbd) ?_
          refine wp_iload_n dX4_hasEarlierId_59 rfl rfl ?_
          refine wp_iald dX4_hasEarlierId_60 (kdb_29 hbd) (by omega) c0 ?_
          refine wp_istore_n dX4_hasEarlierId_61 rfl (by decide) (wp_L (L' := [some (vR 11), some (vR b), some (vI l2), some (vI (MI (b + 29) l3.toNat)), some (vI l4)]) rfl ?_)
          have c1 := h.1
          replace h := h.2
          refine wp_iincr dX4_hasEarlierId_62 rfl (by decide) c1 (wp_L (L' := [some (vR 11), some (vR b), some (vI l2), some (vI (MI (b + 29) l3.toNat)), some (vI (l4 + 1))]) rfl ?_)
          refine wp_pc (pc' := 65) rfl ?_
          refine wp_goto (tgt := 20) dX4_hasEarlierId_65 (by decide) ?_
          exact h
        · replace h := h.1 h47
          refine wp_iconst dX4_hasEarlierId_50 (by decide) ?_
          exact wp_zret dX4_hasEarlierId_51 rfl (by decide) (fun _ => h)
