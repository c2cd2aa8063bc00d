theorem dX4_judgeAttribute_0 : decode cX4_judgeAttribute 0 = .ok (.iload_n 3, 1) := by decide +kernel
theorem dX4_judgeAttribute_1 : decode cX4_judgeAttribute 1 = .ok (.iconst (-1), 1) := by decide +kernel
theorem dX4_judgeAttribute_2 : decode cX4_judgeAttribute 2 = .ok (.if_icmp .ne 11, 3) := by decide +kernel
theorem dX4_judgeAttribute_5 : decode cX4_judgeAttribute 5 = .ok (.aload_n 0, 1) := by decide +kernel
theorem dX4_judgeAttribute_6 : decode cX4_judgeAttribute 6 = .ok (.bipush 9, 2) := by decide +kernel
theorem dX4_judgeAttribute_8 : decode cX4_judgeAttribute 8 = .ok (.iload_n 2, 1) := by decide +kernel
theorem dX4_judgeAttribute_9 : decode cX4_judgeAttribute 9 = .ok (.invokevirtual 37, 3) := by decide +kernel
theorem dX4_judgeAttribute_12 : decode cX4_judgeAttribute 12 = .ok (.return_, 1) := by decide +kernel
theorem dX4_judgeAttribute_13 : decode cX4_judgeAttribute 13 = .ok (.aload_n 1, 1) := by decide +kernel
theorem dX4_judgeAttribute_14 : decode cX4_judgeAttribute 14 = .ok (.getfield 65, 3) := by decide +kernel
theorem dX4_judgeAttribute_17 : decode cX4_judgeAttribute 17 = .ok (.getfield 96, 3) := by decide +kernel
theorem dX4_judgeAttribute_20 : decode cX4_judgeAttribute 20 = .ok (.iload_n 3, 1) := by decide +kernel
theorem dX4_judgeAttribute_21 : decode cX4_judgeAttribute 21 = .ok (.iaload, 1) := by decide +kernel
theorem dX4_judgeAttribute_22 : decode cX4_judgeAttribute 22 = .ok (.iconst 1, 1) := by decide +kernel
theorem dX4_judgeAttribute_23 : decode cX4_judgeAttribute 23 = .ok (.if_icmp .ne 7, 3) := by decide +kernel
theorem dX4_judgeAttribute_26 : decode cX4_judgeAttribute 26 = .ok (.iconst 1, 1) := by decide +kernel
theorem dX4_judgeAttribute_27 : decode cX4_judgeAttribute 27 = .ok (.goto 4, 3) := by decide +kernel
theorem dX4_judgeAttribute_30 : decode cX4_judgeAttribute 30 = .ok (.iconst 0, 1) := by decide +kernel
theorem dX4_judgeAttribute_31 : decode cX4_judgeAttribute 31 = .ok (.istore 4, 2) := by decide +kernel
theorem dX4_judgeAttribute_33 : decode cX4_judgeAttribute 33 = .ok (.aload_n 0, 1) := by decide +kernel
theorem dX4_judgeAttribute_34 : decode cX4_judgeAttribute 34 = .ok (.aload_n 1, 1) := by decide +kernel
theorem dX4_judgeAttribute_35 : decode cX4_judgeAttribute 35 = .ok (.iload_n 3, 1) := by decide +kernel
theorem dX4_judgeAttribute_36 : decode cX4_judgeAttribute 36 = .ok (.aload_n 1, 1) := by decide +kernel
theorem dX4_judgeAttribute_37 : decode cX4_judgeAttribute 37 = .ok (.getfield 183, 3) := by decide +kernel
theorem dX4_judgeAttribute_40 : decode cX4_judgeAttribute 40 = .ok (.iload_n 2, 1) := by decide +kernel
theorem dX4_judgeAttribute_41 : decode cX4_judgeAttribute 41 = .ok (.iaload, 1) := by decide +kernel
theorem dX4_judgeAttribute_42 : decode cX4_judgeAttribute 42 = .ok (.aload_n 1, 1) := by decide +kernel
theorem dX4_judgeAttribute_43 : decode cX4_judgeAttribute 43 = .ok (.getfield 186, 3) := by decide +kernel
theorem dX4_judgeAttribute_46 : decode cX4_judgeAttribute 46 = .ok (.iload_n 2, 1) := by decide +kernel
theorem dX4_judgeAttribute_47 : decode cX4_judgeAttribute 47 = .ok (.iaload, 1) := by decide +kernel
theorem dX4_judgeAttribute_48 : decode cX4_judgeAttribute 48 = .ok (.invokevirtual 112, 3) := by decide +kernel
theorem dX4_judgeAttribute_51 : decode cX4_judgeAttribute 51 = .ok (.ifCond .eq 13, 3) := by decide +kernel
theorem dX4_judgeAttribute_54 : decode cX4_judgeAttribute 54 = .ok (.aload_n 0, 1) := by decide +kernel
theorem dX4_judgeAttribute_55 : decode cX4_judgeAttribute 55 = .ok (.aload_n 1, 1) := by decide +kernel
theorem dX4_judgeAttribute_56 : decode cX4_judgeAttribute 56 = .ok (.iload_n 2, 1) := by decide +kernel
theorem dX4_judgeAttribute_57 : decode cX4_judgeAttribute 57 = .ok (.iload_n 3, 1) := by decide +kernel
theorem dX4_judgeAttribute_58 : decode cX4_judgeAttribute 58 = .ok (.invokevirtual 189, 3) := by decide +kernel
theorem dX4_judgeAttribute_61 : decode cX4_judgeAttribute 61 = .ok (.ifCond .ne 13, 3) := by decide +kernel
theorem dX4_judgeAttribute_64 : decode cX4_judgeAttribute 64 = .ok (.aload_n 0, 1) := by decide +kernel
theorem dX4_judgeAttribute_65 : decode cX4_judgeAttribute 65 = .ok (.bipush 10, 2) := by decide +kernel
theorem dX4_judgeAttribute_67 : decode cX4_judgeAttribute 67 = .ok (.iload_n 2, 1) := by decide +kernel
theorem dX4_judgeAttribute_68 : decode cX4_judgeAttribute 68 = .ok (.invokevirtual 37, 3) := by decide +kernel
theorem dX4_judgeAttribute_71 : decode cX4_judgeAttribute 71 = .ok (.goto 24, 3) := by decide +kernel
theorem dX4_judgeAttribute_74 : decode cX4_judgeAttribute 74 = .ok (.iload 4, 2) := by decide +kernel
theorem dX4_judgeAttribute_76 : decode cX4_judgeAttribute 76 = .ok (.ifCond .eq 19, 3) := by decide +kernel
theorem dX4_judgeAttribute_79 : decode cX4_judgeAttribute 79 = .ok (.aload_n 0, 1) := by decide +kernel
theorem dX4_judgeAttribute_80 : decode cX4_judgeAttribute 80 = .ok (.aload_n 1, 1) := by decide +kernel
theorem dX4_judgeAttribute_81 : decode cX4_judgeAttribute 81 = .ok (.iload_n 2, 1) := by decide +kernel
theorem dX4_judgeAttribute_82 : decode cX4_judgeAttribute 82 = .ok (.invokevirtual 192, 3) := by decide +kernel
theorem dX4_judgeAttribute_85 : decode cX4_judgeAttribute 85 = .ok (.ifCond .eq 10, 3) := by decide +kernel
theorem dX4_judgeAttribute_88 : decode cX4_judgeAttribute 88 = .ok (.aload_n 0, 1) := by decide +kernel
theorem dX4_judgeAttribute_89 : decode cX4_judgeAttribute 89 = .ok (.bipush 11, 2) := by decide +kernel
theorem dX4_judgeAttribute_91 : decode cX4_judgeAttribute 91 = .ok (.iload_n 2, 1) := by decide +kernel
theorem dX4_judgeAttribute_92 : decode cX4_judgeAttribute 92 = .ok (.invokevirtual 37, 3) := by decide +kernel
theorem dX4_judgeAttribute_95 : decode cX4_judgeAttribute 95 = .ok (.iload 4, 2) := by decide +kernel
theorem dX4_judgeAttribute_97 : decode cX4_judgeAttribute 97 = .ok (.ifCond .eq 33, 3) := by decide +kernel
theorem dX4_judgeAttribute_100 : decode cX4_judgeAttribute 100 = .ok (.aload_n 0, 1) := by decide +kernel
theorem dX4_judgeAttribute_101 : decode cX4_judgeAttribute 101 = .ok (.getfield 18, 3) := by decide +kernel
theorem dX4_judgeAttribute_104 : decode cX4_judgeAttribute 104 = .ok (.sipush 600, 3) := by decide +kernel
theorem dX4_judgeAttribute_107 : decode cX4_judgeAttribute 107 = .ok (.if_icmp .ge 23, 3) := by decide +kernel
theorem dX4_judgeAttribute_110 : decode cX4_judgeAttribute 110 = .ok (.aload_n 0, 1) := by decide +kernel
theorem dX4_judgeAttribute_111 : decode cX4_judgeAttribute 111 = .ok (.getfield 15, 3) := by decide +kernel
theorem dX4_judgeAttribute_114 : decode cX4_judgeAttribute 114 = .ok (.aload_n 0, 1) := by decide +kernel
theorem dX4_judgeAttribute_115 : decode cX4_judgeAttribute 115 = .ok (.getfield 18, 3) := by decide +kernel
theorem dX4_judgeAttribute_118 : decode cX4_judgeAttribute 118 = .ok (.iload_n 2, 1) := by decide +kernel
theorem dX4_judgeAttribute_119 : decode cX4_judgeAttribute 119 = .ok (.iastore, 1) := by decide +kernel
theorem dX4_judgeAttribute_120 : decode cX4_judgeAttribute 120 = .ok (.aload_n 0, 1) := by decide +kernel
theorem dX4_judgeAttribute_121 : decode cX4_judgeAttribute 121 = .ok (.dup, 1) := by decide +kernel
theorem dX4_judgeAttribute_122 : decode cX4_judgeAttribute 122 = .ok (.getfield 18, 3) := by decide +kernel
theorem dX4_judgeAttribute_125 : decode cX4_judgeAttribute 125 = .ok (.iconst 1, 1) := by decide +kernel
theorem dX4_judgeAttribute_126 : decode cX4_judgeAttribute 126 = .ok (.iadd, 1) := by decide +kernel
theorem dX4_judgeAttribute_127 : decode cX4_judgeAttribute 127 = .ok (.putfield 18, 3) := by decide +kernel
theorem dX4_judgeAttribute_130 : decode cX4_judgeAttribute 130 = .ok (.return_, 1) := by decide +kernel
theorem v_X4_judgeAttribute_0 {cs : Cs} {Q : Option AV → Mm → Prop} {MI ML : Nat → Nat → Int} {b d e nw th x : Nat} {l2 l3 : Int} (hbd : b = 38 ∨ b = 81)
    (h : ((l3 = (-1) → wp cs mX4_report KD (rV (GR d e nw th x) fun m9 n9 => Q none (m9, n9, (GR d e nw th x))) 0 (padL [vR 11, vI 9, vI l2] 3) [] (KD, MI, ML, (GR d e nw th x))) ∧ (l3 ≠ (-1) → (0 ≤ l3 ∧ l3 < 750) ∧ (((MI (b + 23) l3.toNat) = 1 → wp cs mX4_judgeAttribute KD Q 31 [some (vR 11), some (vR b), some (vI l2), some (vI l3), none] [vI 1] (KD, MI, ML, (GR d e nw th x))) ∧ ((MI (b + 23) l3.toNat) ≠ 1 → wp cs mX4_judgeAttribute KD Q 31 [some (vR 11), some (vR b), some (vI l2), some (vI l3), none] [vI 0] (KD, MI, ML, (GR d e nw th x))))))) :
    wp cs mX4_judgeAttribute KD Q 0 (padL [vR 11, vR b, vI l2, vI l3] 5) [] (KD, MI, ML, (GR d e nw th x)) := by
  refine wp_L (L' := [some (vR 11), some (vR b), some (vI l2), some (vI l3), none]) rfl ?_
  refine wp_iload_n dX4_judgeAttribute_0 rfl rfl ?_
  refine wp_iconst dX4_judgeAttribute_1 (by decide) ?_
  refine wp_icmp_ne (tgt := 13) dX4_judgeAttribute_2 (by decide) (fun h2 => ?_) (fun h2 => ?_)
  · replace h := h.2 h2
    refine wp_aload_n dX4_judgeAttribute_13 rfl rfl (by first | exact Or.inl (by decide) | exact Or.inl (by omega) | exact Or.inr (by decide) | exact Or.inr (by omega)) ?_
    refine wp_getR dX4_judgeAttribute_14 fX4_65 (show KD[b]? = some (7, 19) from kdb_0 hbd) (by omega) ?_
    refine wp_topR (x' := (b + 20)) (grb_0_2 hbd) ?_
    refine wp_getR dX4_judgeAttribute_17 fX4_96 (kdb_20 hbd) (by omega) ?_
    refine wp_topR (x' := (b + 23)) (grb_20_2 hbd) ?_
    refine wp_iload_n dX4_judgeAttribute_20 rfl rfl ?_
    have c0 := h.1
    replace h := h.2
    refine wp_iald dX4_judgeAttribute_21 (kdb_23 hbd) (by omega) c0 ?_
    refine wp_iconst dX4_judgeAttribute_22 (by decide) ?_
    refine wp_icmp_ne (tgt := 30) dX4_judgeAttribute_23 (by decide) (fun h23 => ?_) (fun h23 => ?_)
    · replace h := h.2 h23
      refine wp_iconst dX4_judgeAttribute_30 (by decide) ?_
      exact h
    · replace h := h.1 h23
      refine wp_iconst dX4_judgeAttribute_26 (by decide) ?_
      refine wp_goto (tgt := 31) dX4_judgeAttribute_27 (by decide) ?_
      exact h
  · replace h := h.1 h2
    refine wp_aload_n dX4_judgeAttribute_5 rfl rfl (by first | exact Or.inl (by decide) | exact Or.inl (by omega) | exact Or.inr (by decide) | exact Or.inr (by omega)) ?_
    refine wp_bipush dX4_judgeAttribute_6 (by decide +kernel) (by decide) ?_
    refine wp_iload_n dX4_judgeAttribute_8 rfl rfl ?_
    refine wp_cVq (n := 2) (mt' := mX4_report) (as := [vI 9, vI l2]) (rest := []) _ dX4_judgeAttribute_9 lX4_37 kX4_report vX4_report (by decide) (by decide +kernel) rfl (Nat.le_of_ble_eq_true rfl) (by decide) rfl rfl rfl (Nat.le_of_ble_eq_true rfl) (fun hM hS => h) (fun r M' hq hM => ?_)
    obtain ⟨m9, n9, rfl, rfl, h⟩ := rV_out hq
    exact wp_vret dX4_judgeAttribute_12 rfl (fun _ => h)
theorem v_X4_judgeAttribute_31 {cs : Cs} {Q : Option AV → Mm → Prop} {MI ML : Nat → Nat → Int} {b d e nw th x : Nat} {l2 l3 s0 : Int} (hbd : b = 38 ∨ b = 81)
    (h : (0 ≤ l2 ∧ l2 < 600) ∧ wp cs mX4_isOfType KD (rI (GR d e nw th x) fun x48 m48 n48 => ((x48 = 0 → wp cs mX4_report KD (rV (GR d e nw th x) fun m68 n68 => wp cs mX4_judgeAttribute KD Q 95 [some (vR 11), some (vR b), some (vI l2), some (vI l3), some (vI s0)] [] (KD, m68, n68, (GR d e nw th x))) 0 (padL [vR 11, vI 10, vI l2] 3) [] (KD, m48, n48, (GR d e nw th x))) ∧ (x48 ≠ 0 → wp cs mX4_isAsFixed KD (rI (GR d e nw th x) fun x58 m58 n58 => ((x58 = 0 → wp cs mX4_report KD (rV (GR d e nw th x) fun m68 n68 => wp cs mX4_judgeAttribute KD Q 95 [some (vR 11), some (vR b), some (vI l2), some (vI l3), some (vI s0)] [] (KD, m68, n68, (GR d e nw th x))) 0 (padL [vR 11, vI 10, vI l2] 3) [] (KD, m58, n58, (GR d e nw th x))) ∧ (x58 ≠ 0 → ((s0 = 0 → wp cs mX4_judgeAttribute KD Q 95 [some (vR 11), some (vR b), some (vI l2), some (vI l3), some (vI s0)] [] (KD, m58, n58, (GR d e nw th x))) ∧ (s0 ≠ 0 → wp cs mX4_isTaken KD (rI (GR d e nw th x) fun x82 m82 n82 => ((x82 = 0 → wp cs mX4_judgeAttribute KD Q 95 [some (vR 11), some (vR b), some (vI l2), some (vI l3), some (vI s0)] [] (KD, m82, n82, (GR d e nw th x))) ∧ (x82 ≠ 0 → wp cs mX4_report KD (rV (GR d e nw th x) fun m92 n92 => wp cs mX4_judgeAttribute KD Q 95 [some (vR 11), some (vR b), some (vI l2), some (vI l3), some (vI s0)] [] (KD, m92, n92, (GR d e nw th x))) 0 (padL [vR 11, vI 11, vI l2] 3) [] (KD, m82, n82, (GR d e nw th x))))) 0 (padL [vR 11, vR b, vI l2] 5) [] (KD, m58, n58, (GR d e nw th x))))))) 0 (padL [vR 11, vR b, vI l2, vI l3] 5) [] (KD, m48, n48, (GR d e nw th x))))) 0 (padL [vR 11, vR b, vI l3, vI (MI (b + 39) l2.toNat), vI (MI (b + 40) l2.toNat)] 5) [] (KD, MI, ML, (GR d e nw th x))) :
    wp cs mX4_judgeAttribute KD Q 31 [some (vR 11), some (vR b), some (vI l2), some (vI l3), none] [vI s0] (KD, MI, ML, (GR d e nw th x)) := by
  refine wp_istore dX4_judgeAttribute_31 (by decide) (wp_L (L' := [some (vR 11), some (vR b), some (vI l2), some (vI l3), some (vI s0)]) rfl ?_)
  refine wp_aload_n dX4_judgeAttribute_33 rfl rfl (by first | exact Or.inl (by decide) | exact Or.inl (by omega) | exact Or.inr (by decide) | exact Or.inr (by omega)) ?_
  refine wp_aload_n dX4_judgeAttribute_34 rfl rfl (by first | exact Or.inl (by decide) | exact Or.inl (by omega) | exact Or.inr (by decide) | exact Or.inr (by omega)) ?_
  refine wp_iload_n dX4_judgeAttribute_35 rfl rfl ?_
  refine wp_aload_n dX4_judgeAttribute_36 rfl rfl (by first | exact Or.inl (by decide) | exact Or.inl (by omega) | exact Or.inr (by decide) | exact Or.inr (by omega)) ?_
  refine wp_getR dX4_judgeAttribute_37 fX4_183 (show KD[b]? = some (7, 19) from kdb_0 hbd) (by omega) ?_
  refine wp_topR (x' := (b + 39)) (grb_0_10 hbd) ?_
  refine wp_iload_n dX4_judgeAttribute_40 rfl rfl ?_
  refine wp_pc (pc' := 41) rfl ?_
  have c0 := h.1
  replace h := h.2
  refine wp_iald dX4_judgeAttribute_41 (kdb_39 hbd) (by omega) c0 ?_
  refine wp_aload_n dX4_judgeAttribute_42 rfl rfl (by first | exact Or.inl (by decide) | exact Or.inl (by omega) | exact Or.inr (by decide) | exact Or.inr (by omega)) ?_
  refine wp_getR dX4_judgeAttribute_43 fX4_186 (show KD[b]? = some (7, 19) from kdb_0 hbd) (by omega) ?_
  refine wp_topR (x' := (b + 40)) (grb_0_11 hbd) ?_
  refine wp_iload_n dX4_judgeAttribute_46 rfl rfl ?_
  refine wp_iald dX4_judgeAttribute_47 (kdb_40 hbd) (by omega) c0 ?_
  refine wp_cVq (n := 4) (mt' := mX4_isOfType) (as := [vR b, vI l3, vI (MI (b + 39) l2.toNat), vI (MI (b + 40) l2.toNat)]) (rest := []) _ dX4_judgeAttribute_48 lX4_112 kX4_isOfType vX4_isOfType (by decide) (by decide +kernel) rfl (Nat.le_of_ble_eq_true rfl) (by decide) rfl rfl rfl (Nat.le_of_ble_eq_true rfl) (fun hM hS => h) (fun r M' hq hM => ?_)
  obtain ⟨x48, m48, n48, rfl, rfl, h⟩ := rI_out hq
  refine wp_if_eq (tgt := 64) dX4_judgeAttribute_51 (by decide) (fun h51 => ?_) (fun h51 => ?_)
  · replace h := h.1 h51
    refine wp_aload_n dX4_judgeAttribute_64 rfl rfl (by first | exact Or.inl (by decide) | exact Or.inl (by omega) | exact Or.inr (by decide) | exact Or.inr (by omega)) ?_
    refine wp_bipush dX4_judgeAttribute_65 (by decide +kernel) (by decide) ?_
    refine wp_iload_n dX4_judgeAttribute_67 rfl rfl ?_
    refine wp_cVq (n := 2) (mt' := mX4_report) (as := [vI 10, vI l2]) (rest := []) _ dX4_judgeAttribute_68 lX4_37 kX4_report vX4_report (by decide) (by decide +kernel) rfl (Nat.le_of_ble_eq_true rfl) (by decide) rfl rfl rfl (Nat.le_of_ble_eq_true rfl) (fun hM hS => h) (fun r M' hq hM => ?_)
    obtain ⟨m68, n68, rfl, rfl, h⟩ := rV_out hq
    refine wp_goto (tgt := 95) dX4_judgeAttribute_71 (by decide) ?_
    exact h
  · replace h := h.2 h51
    refine wp_aload_n dX4_judgeAttribute_54 rfl rfl (by first | exact Or.inl (by decide) | exact Or.inl (by omega) | exact Or.inr (by decide) | exact Or.inr (by omega)) ?_
    refine wp_aload_n dX4_judgeAttribute_55 rfl rfl (by first | exact Or.inl (by decide) | exact Or.inl (by omega) | exact Or.inr (by decide) | exact Or.inr (by omega)) ?_
    refine wp_iload_n dX4_judgeAttribute_56 rfl rfl ?_
    refine wp_iload_n dX4_judgeAttribute_57 rfl rfl ?_
    refine wp_cVq (n := 3) (mt' := mX4_isAsFixed) (as := [vR b, vI l2, vI l3]) (rest := []) _ dX4_judgeAttribute_58 lX4_189 kX4_isAsFixed vX4_isAsFixed (by decide) (by decide +kernel) rfl (Nat.le_of_ble_eq_true rfl) (by decide) rfl rfl rfl (Nat.le_of_ble_eq_true rfl) (fun hM hS => h) (fun r M' hq hM => ?_)
    obtain ⟨x58, m58, n58, rfl, rfl, h⟩ := rI_out hq
    refine wp_if_ne (tgt := 74) dX4_judgeAttribute_61 (by decide) (fun h61 => ?_) (fun h61 => ?_)
    · replace h := h.2 h61
      refine wp_iload dX4_judgeAttribute_74 rfl ?_
      refine wp_if_eq (tgt := 95) dX4_judgeAttribute_76 (by decide) (fun h76 => ?_) (fun h76 => ?_)
      · replace h := h.1 h76
        exact h
      · replace h := h.2 h76
        refine wp_aload_n dX4_judgeAttribute_79 rfl rfl (by first | exact Or.inl (by decide) | exact Or.inl (by omega) | exact Or.inr (by decide) | exact Or.inr (by omega)) ?_
        refine wp_aload_n dX4_judgeAttribute_80 rfl rfl (by first | exact Or.inl (by decide) | exact Or.inl (by omega) | exact Or.inr (by decide) | exact Or.inr (by omega)) ?_
        refine wp_iload_n dX4_judgeAttribute_81 rfl rfl ?_
        refine wp_cVq (n := 2) (mt' := mX4_isTaken) (as := [vR b, vI l2]) (rest := []) _ dX4_judgeAttribute_82 lX4_192 kX4_isTaken vX4_isTaken (by decide) (by decide +kernel) rfl (Nat.le_of_ble_eq_true rfl) (by decide) rfl rfl rfl (Nat.le_of_ble_eq_true rfl) (fun hM hS => h) (fun r M' hq hM => ?_)
        obtain ⟨x82, m82, n82, rfl, rfl, h⟩ := rI_out hq
        refine wp_if_eq (tgt := 95) dX4_judgeAttribute_85 (by decide) (fun h85 => ?_) (fun h85 => ?_)
        · replace h := h.1 h85
          exact h
        · replace h := h.2 h85
          refine wp_aload_n dX4_judgeAttribute_88 rfl rfl (by first | exact Or.inl (by decide) | exact Or.inl (by omega) | exact Or.inr (by decide) | exact Or.inr (by omega)) ?_
          refine wp_bipush dX4_judgeAttribute_89 (by decide +kernel) (by decide) ?_
          refine wp_iload_n dX4_judgeAttribute_91 rfl rfl ?_
          refine wp_cVq (n := 2) (mt' := mX4_report) (as := [vI 11, vI l2]) (rest := []) _ dX4_judgeAttribute_92 lX4_37 kX4_report vX4_report (by decide) (by decide +kernel) rfl (Nat.le_of_ble_eq_true rfl) (by decide) rfl rfl rfl (Nat.le_of_ble_eq_true rfl) (fun hM hS => h) (fun r M' hq hM => ?_)
          obtain ⟨m92, n92, rfl, rfl, h⟩ := rV_out hq
          exact h
    · replace h := h.1 h61
      refine wp_aload_n dX4_judgeAttribute_64 rfl rfl (by first | exact Or.inl (by decide) | exact Or.inl (by omega) | exact Or.inr (by decide) | exact Or.inr (by omega)) ?_
      refine wp_bipush dX4_judgeAttribute_65 (by decide +kernel) (by decide) ?_
      refine wp_iload_n dX4_judgeAttribute_67 rfl rfl ?_
      refine wp_cVq (n := 2) (mt' := mX4_report) (as := [vI 10, vI l2]) (rest := []) _ dX4_judgeAttribute_68 lX4_37 kX4_report vX4_report (by decide) (by decide +kernel) rfl (Nat.le_of_ble_eq_true rfl) (by decide) rfl rfl rfl (Nat.le_of_ble_eq_true rfl) (fun hM hS => h) (fun r M' hq hM => ?_)
      obtain ⟨m68, n68, rfl, rfl, h⟩ := rV_out hq
      refine wp_goto (tgt := 95) dX4_judgeAttribute_71 (by decide) ?_
      exact h
theorem v_X4_judgeAttribute_95 {cs : Cs} {Q : Option AV → Mm → Prop} {MI ML : Nat → Nat → Int} {b d e nw th x : Nat} {l2 l3 l4 : Int} (hbd : b = 38 ∨ b = 81)
    (h : ((l4 = 0 → Q none (MI, ML, (GR d e nw th x))) ∧ (l4 ≠ 0 → (((MI 11 2) < 600 → (0 ≤ (MI 11 2) ∧ (MI 11 2) < 600) ∧ ∀ m119, m119 = up2 MI 13 (MI 11 2).toNat l2 → (-2147483648 ≤ (m119 11 2) + 1 ∧ (m119 11 2) + 1 < 2147483648) ∧ ∀ m127, m127 = up2 m119 11 2 ((m119 11 2) + 1) → Q none (m127, ML, (GR d e nw th x))) ∧ (600 ≤ (MI 11 2) → Q none (MI, ML, (GR d e nw th x))))))) :
    wp cs mX4_judgeAttribute KD Q 95 [some (vR 11), some (vR b), some (vI l2), some (vI l3), some (vI l4)] [] (KD, MI, ML, (GR d e nw th x)) := by
  refine wp_iload dX4_judgeAttribute_95 rfl ?_
  refine wp_if_eq (tgt := 130) dX4_judgeAttribute_97 (by decide) (fun h97 => ?_) (fun h97 => ?_)
  · replace h := h.1 h97
    exact wp_vret dX4_judgeAttribute_130 rfl (fun _ => h)
  · replace h := h.2 h97
    refine wp_aload_n dX4_judgeAttribute_100 rfl rfl (by first | exact Or.inl (by decide) | exact Or.inl (by omega) | exact Or.inr (by decide) | exact Or.inr (by omega)) ?_
    refine wp_getI dX4_judgeAttribute_101 fX4_18 rfl (by decide) ?_
    refine wp_sipush dX4_judgeAttribute_104 (by decide +kernel) (by decide) ?_
    refine wp_icmp_ge (tgt := 130) dX4_judgeAttribute_107 (by decide) (fun h107 => ?_) (fun h107 => ?_)
    · replace h := h.2 h107
      exact wp_vret dX4_judgeAttribute_130 rfl (fun _ => h)
    · replace h := h.1 h107
      refine wp_aload_n dX4_judgeAttribute_110 rfl rfl (by first | exact Or.inl (by decide) | exact Or.inl (by omega) | exact Or.inr (by decide) | exact Or.inr (by omega)) ?_
      refine wp_getR dX4_judgeAttribute_111 fX4_15 rfl (by decide) ?_
      refine wp_topR (x' := 13) rfl ?_
      refine wp_aload_n dX4_judgeAttribute_114 rfl rfl (by first | exact Or.inl (by decide) | exact Or.inl (by omega) | exact Or.inr (by decide) | exact Or.inr (by omega)) ?_
      refine wp_getI dX4_judgeAttribute_115 fX4_18 rfl (by decide) ?_
      refine wp_iload_n dX4_judgeAttribute_118 rfl rfl ?_
      have c0 := h.1
      replace h := h.2
      refine wp_iast dX4_judgeAttribute_119 rfl (by decide) c0 ?_
      refine wp_gI (fun m119 e119 => ?_)
      replace h := h m119 e119
      refine wp_aload_n dX4_judgeAttribute_120 rfl rfl (by first | exact Or.inl (by decide) | exact Or.inl (by omega) | exact Or.inr (by decide) | exact Or.inr (by omega)) ?_
      refine wp_pc (pc' := 121) rfl ?_
      refine wp_dup dX4_judgeAttribute_121 (fun x e => by cases e) ?_
      refine wp_getI dX4_judgeAttribute_122 fX4_18 rfl (by decide) ?_
      refine wp_iconst dX4_judgeAttribute_125 (by decide) ?_
      have c1 := h.1
      replace h := h.2
      refine wp_iaddr dX4_judgeAttribute_126 c1 ?_
      refine wp_putI dX4_judgeAttribute_127 pX4_18 rfl (by decide) ?_
      refine wp_gI (fun m127 e127 => ?_)
      replace h := h m127 e127
      exact wp_vret dX4_judgeAttribute_130 rfl (fun _ => h)
theorem dX4_judgeElement_0 : decode cX4_judgeElement 0 = .ok (.aload_n 1, 1) := by decide +kernel
theorem dX4_judgeElement_1 : decode cX4_judgeElement 1 = .ok (.getfield 72, 3) := by decide +kernel
theorem dX4_judgeElement_4 : decode cX4_judgeElement 4 = .ok (.aload_n 1, 1) := by decide +kernel
theorem dX4_judgeElement_5 : decode cX4_judgeElement 5 = .ok (.getfield 34, 3) := by decide +kernel
theorem dX4_judgeElement_8 : decode cX4_judgeElement 8 = .ok (.iload_n 2, 1) := by decide +kernel
theorem dX4_judgeElement_9 : decode cX4_judgeElement 9 = .ok (.iaload, 1) := by decide +kernel
theorem dX4_judgeElement_10 : decode cX4_judgeElement 10 = .ok (.invokevirtual 79, 3) := by decide +kernel
theorem dX4_judgeElement_13 : decode cX4_judgeElement 13 = .ok (.istore_n 3, 1) := by decide +kernel
theorem dX4_judgeElement_14 : decode cX4_judgeElement 14 = .ok (.aload_n 1, 1) := by decide +kernel
theorem dX4_judgeElement_15 : decode cX4_judgeElement 15 = .ok (.getfield 72, 3) := by decide +kernel
theorem dX4_judgeElement_18 : decode cX4_judgeElement 18 = .ok (.aload_n 1, 1) := by decide +kernel
theorem dX4_judgeElement_19 : decode cX4_judgeElement 19 = .ok (.getfield 34, 3) := by decide +kernel
theorem dX4_judgeElement_22 : decode cX4_judgeElement 22 = .ok (.iload_n 2, 1) := by decide +kernel
theorem dX4_judgeElement_23 : decode cX4_judgeElement 23 = .ok (.iaload, 1) := by decide +kernel
theorem dX4_judgeElement_24 : decode cX4_judgeElement 24 = .ok (.invokevirtual 117, 3) := by decide +kernel
theorem dX4_judgeElement_27 : decode cX4_judgeElement 27 = .ok (.istore 4, 2) := by decide +kernel
theorem dX4_judgeElement_29 : decode cX4_judgeElement 29 = .ok (.iload_n 3, 1) := by decide +kernel
theorem dX4_judgeElement_30 : decode cX4_judgeElement 30 = .ok (.iconst (-1), 1) := by decide +kernel
theorem dX4_judgeElement_31 : decode cX4_judgeElement 31 = .ok (.if_icmp .ne 13, 3) := by decide +kernel
theorem dX4_judgeElement_34 : decode cX4_judgeElement 34 = .ok (.aload_n 0, 1) := by decide +kernel
theorem dX4_judgeElement_35 : decode cX4_judgeElement 35 = .ok (.bipush 7, 2) := by decide +kernel
theorem dX4_judgeElement_37 : decode cX4_judgeElement 37 = .ok (.iload_n 2, 1) := by decide +kernel
theorem dX4_judgeElement_38 : decode cX4_judgeElement 38 = .ok (.invokevirtual 37, 3) := by decide +kernel
theorem dX4_judgeElement_41 : decode cX4_judgeElement 41 = .ok (.goto 20, 3) := by decide +kernel
theorem dX4_judgeElement_44 : decode cX4_judgeElement 44 = .ok (.aload_n 0, 1) := by decide +kernel
theorem dX4_judgeElement_45 : decode cX4_judgeElement 45 = .ok (.aload_n 1, 1) := by decide +kernel
theorem dX4_judgeElement_46 : decode cX4_judgeElement 46 = .ok (.iload_n 2, 1) := by decide +kernel
theorem dX4_judgeElement_47 : decode cX4_judgeElement 47 = .ok (.iload_n 3, 1) := by decide +kernel
theorem dX4_judgeElement_48 : decode cX4_judgeElement 48 = .ok (.invokevirtual 157, 3) := by decide +kernel
theorem dX4_judgeElement_51 : decode cX4_judgeElement 51 = .ok (.ifCond .ne 10, 3) := by decide +kernel
theorem dX4_judgeElement_54 : decode cX4_judgeElement 54 = .ok (.aload_n 0, 1) := by decide +kernel
theorem dX4_judgeElement_55 : decode cX4_judgeElement 55 = .ok (.bipush 8, 2) := by decide +kernel
theorem dX4_judgeElement_57 : decode cX4_judgeElement 57 = .ok (.iload_n 2, 1) := by decide +kernel
theorem dX4_judgeElement_58 : decode cX4_judgeElement 58 = .ok (.invokevirtual 37, 3) := by decide +kernel
theorem dX4_judgeElement_61 : decode cX4_judgeElement 61 = .ok (.iload_n 2, 1) := by decide +kernel
theorem dX4_judgeElement_62 : decode cX4_judgeElement 62 = .ok (.iconst 1, 1) := by decide +kernel
theorem dX4_judgeElement_63 : decode cX4_judgeElement 63 = .ok (.iadd, 1) := by decide +kernel
theorem dX4_judgeElement_64 : decode cX4_judgeElement 64 = .ok (.istore 5, 2) := by decide +kernel
theorem dX4_judgeElement_66 : decode cX4_judgeElement 66 = .ok (.iload 5, 2) := by decide +kernel
theorem dX4_judgeElement_68 : decode cX4_judgeElement 68 = .ok (.iload_n 2, 1) := by decide +kernel
theorem dX4_judgeElement_69 : decode cX4_judgeElement 69 = .ok (.aload_n 1, 1) := by decide +kernel
theorem dX4_judgeElement_70 : decode cX4_judgeElement 70 = .ok (.getfield 160, 3) := by decide +kernel
theorem dX4_judgeElement_73 : decode cX4_judgeElement 73 = .ok (.iload_n 2, 1) := by decide +kernel
theorem dX4_judgeElement_74 : decode cX4_judgeElement 74 = .ok (.iaload, 1) := by decide +kernel
theorem dX4_judgeElement_75 : decode cX4_judgeElement 75 = .ok (.iadd, 1) := by decide +kernel
theorem dX4_judgeElement_76 : decode cX4_judgeElement 76 = .ok (.if_icmp .gt 44, 3) := by decide +kernel
theorem dX4_judgeElement_79 : decode cX4_judgeElement 79 = .ok (.aload_n 1, 1) := by decide +kernel
theorem dX4_judgeElement_80 : decode cX4_judgeElement 80 = .ok (.getfield 163, 3) := by decide +kernel
theorem dX4_judgeElement_83 : decode cX4_judgeElement 83 = .ok (.iload 5, 2) := by decide +kernel
theorem dX4_judgeElement_85 : decode cX4_judgeElement 85 = .ok (.iaload, 1) := by decide +kernel
theorem dX4_judgeElement_86 : decode cX4_judgeElement 86 = .ok (.iconst 1, 1) := by decide +kernel
theorem dX4_judgeElement_87 : decode cX4_judgeElement 87 = .ok (.iand, 1) := by decide +kernel
theorem dX4_judgeElement_88 : decode cX4_judgeElement 88 = .ok (.ifCond .ne 26, 3) := by decide +kernel
theorem dX4_judgeElement_91 : decode cX4_judgeElement 91 = .ok (.aload_n 0, 1) := by decide +kernel
theorem dX4_judgeElement_92 : decode cX4_judgeElement 92 = .ok (.aload_n 1, 1) := by decide +kernel
theorem dX4_judgeElement_93 : decode cX4_judgeElement 93 = .ok (.iload 5, 2) := by decide +kernel
theorem dX4_judgeElement_95 : decode cX4_judgeElement 95 = .ok (.aload_n 1, 1) := by decide +kernel
theorem dX4_judgeElement_96 : decode cX4_judgeElement 96 = .ok (.getfield 65, 3) := by decide +kernel
theorem dX4_judgeElement_99 : decode cX4_judgeElement 99 = .ok (.iload 4, 2) := by decide +kernel
theorem dX4_judgeElement_101 : decode cX4_judgeElement 101 = .ok (.aload_n 1, 1) := by decide +kernel
theorem dX4_judgeElement_102 : decode cX4_judgeElement 102 = .ok (.getfield 34, 3) := by decide +kernel
theorem dX4_judgeElement_105 : decode cX4_judgeElement 105 = .ok (.iload 5, 2) := by decide +kernel
theorem dX4_judgeElement_107 : decode cX4_judgeElement 107 = .ok (.iaload, 1) := by decide +kernel
theorem dX4_judgeElement_108 : decode cX4_judgeElement 108 = .ok (.invokevirtual 166, 3) := by decide +kernel
theorem dX4_judgeElement_111 : decode cX4_judgeElement 111 = .ok (.invokevirtual 170, 3) := by decide +kernel
theorem dX4_judgeElement_114 : decode cX4_judgeElement 114 = .ok (.iinc 5 1, 3) := by decide +kernel
theorem dX4_judgeElement_117 : decode cX4_judgeElement 117 = .ok (.goto (-51), 3) := by decide +kernel
theorem dX4_judgeElement_120 : decode cX4_judgeElement 120 = .ok (.iload 4, 2) := by decide +kernel
theorem dX4_judgeElement_122 : decode cX4_judgeElement 122 = .ok (.istore 5, 2) := by decide +kernel
theorem dX4_judgeElement_124 : decode cX4_judgeElement 124 = .ok (.iconst 0, 1) := by decide +kernel
theorem dX4_judgeElement_125 : decode cX4_judgeElement 125 = .ok (.istore 6, 2) := by decide +kernel
theorem dX4_judgeElement_127 : decode cX4_judgeElement 127 = .ok (.iload 6, 2) := by decide +kernel
theorem dX4_judgeElement_129 : decode cX4_judgeElement 129 = .ok (.bipush 10, 2) := by decide +kernel
theorem dX4_judgeElement_131 : decode cX4_judgeElement 131 = .ok (.if_icmp .ge 79, 3) := by decide +kernel
theorem dX4_judgeElement_134 : decode cX4_judgeElement 134 = .ok (.iload 5, 2) := by decide +kernel
theorem dX4_judgeElement_136 : decode cX4_judgeElement 136 = .ok (.iconst (-1), 1) := by decide +kernel
theorem dX4_judgeElement_137 : decode cX4_judgeElement 137 = .ok (.if_icmp .eq 73, 3) := by decide +kernel
theorem dX4_judgeElement_140 : decode cX4_judgeElement 140 = .ok (.aload_n 1, 1) := by decide +kernel
theorem dX4_judgeElement_141 : decode cX4_judgeElement 141 = .ok (.getfield 65, 3) := by decide +kernel
theorem dX4_judgeElement_144 : decode cX4_judgeElement 144 = .ok (.getfield 174, 3) := by decide +kernel
theorem dX4_judgeElement_147 : decode cX4_judgeElement 147 = .ok (.iload 5, 2) := by decide +kernel
theorem dX4_judgeElement_149 : decode cX4_judgeElement 149 = .ok (.iaload, 1) := by decide +kernel
theorem dX4_judgeElement_150 : decode cX4_judgeElement 150 = .ok (.iconst 1, 1) := by decide +kernel
theorem dX4_judgeElement_151 : decode cX4_judgeElement 151 = .ok (.if_icmp .ne 7, 3) := by decide +kernel
theorem dX4_judgeElement_154 : decode cX4_judgeElement 154 = .ok (.iconst 1, 1) := by decide +kernel
theorem dX4_judgeElement_155 : decode cX4_judgeElement 155 = .ok (.goto 4, 3) := by decide +kernel
theorem dX4_judgeElement_158 : decode cX4_judgeElement 158 = .ok (.iconst 0, 1) := by decide +kernel
theorem dX4_judgeElement_159 : decode cX4_judgeElement 159 = .ok (.istore 7, 2) := by decide +kernel
theorem dX4_judgeElement_161 : decode cX4_judgeElement 161 = .ok (.iload 7, 2) := by decide +kernel
theorem dX4_judgeElement_163 : decode cX4_judgeElement 163 = .ok (.ifCond .eq 29, 3) := by decide +kernel
theorem dX4_judgeElement_166 : decode cX4_judgeElement 166 = .ok (.aload_n 1, 1) := by decide +kernel
theorem dX4_judgeElement_167 : decode cX4_judgeElement 167 = .ok (.iload_n 2, 1) := by decide +kernel
theorem dX4_judgeElement_168 : decode cX4_judgeElement 168 = .ok (.aload_n 1, 1) := by decide +kernel
theorem dX4_judgeElement_169 : decode cX4_judgeElement 169 = .ok (.getfield 65, 3) := by decide +kernel
theorem dX4_judgeElement_172 : decode cX4_judgeElement 172 = .ok (.getfield 177, 3) := by decide +kernel
theorem dX4_judgeElement_175 : decode cX4_judgeElement 175 = .ok (.iload 5, 2) := by decide +kernel
theorem dX4_judgeElement_177 : decode cX4_judgeElement 177 = .ok (.iaload, 1) := by decide +kernel
theorem dX4_judgeElement_178 : decode cX4_judgeElement 178 = .ok (.invokevirtual 180, 3) := by decide +kernel
theorem dX4_judgeElement_181 : decode cX4_judgeElement 181 = .ok (.iconst (-1), 1) := by decide +kernel
theorem dX4_judgeElement_182 : decode cX4_judgeElement 182 = .ok (.if_icmp .ne 10, 3) := by decide +kernel
theorem dX4_judgeElement_185 : decode cX4_judgeElement 185 = .ok (.aload_n 0, 1) := by decide +kernel
theorem dX4_judgeElement_186 : decode cX4_judgeElement 186 = .ok (.bipush 12, 2) := by decide +kernel
theorem dX4_judgeElement_188 : decode cX4_judgeElement 188 = .ok (.iload_n 2, 1) := by decide +kernel
theorem dX4_judgeElement_189 : decode cX4_judgeElement 189 = .ok (.invokevirtual 37, 3) := by decide +kernel
theorem dX4_judgeElement_192 : decode cX4_judgeElement 192 = .ok (.aload_n 1, 1) := by decide +kernel
theorem dX4_judgeElement_193 : decode cX4_judgeElement 193 = .ok (.getfield 65, 3) := by decide +kernel
theorem dX4_judgeElement_196 : decode cX4_judgeElement 196 = .ok (.getfield 120, 3) := by decide +kernel
theorem dX4_judgeElement_199 : decode cX4_judgeElement 199 = .ok (.iload 5, 2) := by decide +kernel
theorem dX4_judgeElement_201 : decode cX4_judgeElement 201 = .ok (.iaload, 1) := by decide +kernel
theorem dX4_judgeElement_202 : decode cX4_judgeElement 202 = .ok (.istore 5, 2) := by decide +kernel
theorem dX4_judgeElement_204 : decode cX4_judgeElement 204 = .ok (.iinc 6 1, 3) := by decide +kernel
theorem dX4_judgeElement_207 : decode cX4_judgeElement 207 = .ok (.goto (-80), 3) := by decide +kernel
theorem dX4_judgeElement_210 : decode cX4_judgeElement 210 = .ok (.return_, 1) := by decide +kernel
theorem v_X4_judgeElement_0 {cs : Cs} {Q : Option AV → Mm → Prop} {MI ML : Nat → Nat → Int} {b d e nw th x : Nat} {l2 : Int} (hbd : b = 38 ∨ b = 81)
    (h : (0 ≤ l2 ∧ l2 < 600) ∧ wp cs mX5_specOf KD (rI (GR d e nw th x) fun x10 m10 n10 => wp cs mX5_ruleOf KD (rI (GR d e nw th x) fun x24 m24 n24 => ((x10 = (-1) → wp cs mX4_report KD (rV (GR d e nw th x) fun m38 n38 => (-2147483648 ≤ l2 + 1 ∧ l2 + 1 < 2147483648) ∧ wp cs mX4_judgeElement KD Q 66 [some (vR 11), some (vR b), some (vI l2), some (vI x10), some (vI x24), some (vI (l2 + 1)), none, none] [] (KD, m38, n38, (GR d e nw th x))) 0 (padL [vR 11, vI 7, vI l2] 3) [] (KD, m24, n24, (GR d e nw th x))) ∧ (x10 ≠ (-1) → wp cs mX4_fits KD (rI (GR d e nw th x) fun x48 m48 n48 => ((x48 = 0 → wp cs mX4_report KD (rV (GR d e nw th x) fun m58 n58 => (-2147483648 ≤ l2 + 1 ∧ l2 + 1 < 2147483648) ∧ wp cs mX4_judgeElement KD Q 66 [some (vR 11), some (vR b), some (vI l2), some (vI x10), some (vI x24), some (vI (l2 + 1)), none, none] [] (KD, m58, n58, (GR d e nw th x))) 0 (padL [vR 11, vI 8, vI l2] 3) [] (KD, m48, n48, (GR d e nw th x))) ∧ (x48 ≠ 0 → (-2147483648 ≤ l2 + 1 ∧ l2 + 1 < 2147483648) ∧ wp cs mX4_judgeElement KD Q 66 [some (vR 11), some (vR b), some (vI l2), some (vI x10), some (vI x24), some (vI (l2 + 1)), none, none] [] (KD, m48, n48, (GR d e nw th x))))) 0 (padL [vR 11, vR b, vI l2, vI x10] 4) [] (KD, m24, n24, (GR d e nw th x))))) 0 (padL [vR (b + 1), vI (m10 (b + 34) l2.toNat)] 2) [] (KD, m10, n10, (GR d e nw th x))) 0 (padL [vR (b + 1), vI (MI (b + 34) l2.toNat)] 2) [] (KD, MI, ML, (GR d e nw th x))) :
    wp cs mX4_judgeElement KD Q 0 (padL [vR 11, vR b, vI l2] 8) [] (KD, MI, ML, (GR d e nw th x)) := by
  refine wp_L (L' := [some (vR 11), some (vR b), some (vI l2), none, none, none, none, none]) rfl ?_
  refine wp_aload_n dX4_judgeElement_0 rfl rfl (by first | exact Or.inl (by decide) | exact Or.inl (by omega) | exact Or.inr (by decide) | exact Or.inr (by omega)) ?_
  refine wp_getR dX4_judgeElement_1 fX4_72 (show KD[b]? = some (7, 19) from kdb_0 hbd) (by omega) ?_
  refine wp_topR (x' := (b + 1)) (grb_0_0 hbd) ?_
  refine wp_aload_n dX4_judgeElement_4 rfl rfl (by first | exact Or.inl (by decide) | exact Or.inl (by omega) | exact Or.inr (by decide) | exact Or.inr (by omega)) ?_
  refine wp_getR dX4_judgeElement_5 fX4_34 (show KD[b]? = some (7, 19) from kdb_0 hbd) (by omega) ?_
  refine wp_topR (x' := (b + 34)) (grb_0_5 hbd) ?_
  refine wp_iload_n dX4_judgeElement_8 rfl rfl ?_
  have c0 := h.1
  replace h := h.2
  refine wp_iald dX4_judgeElement_9 (kdb_34 hbd) (by omega) c0 ?_
  refine wp_cVq (n := 1) (mt' := mX5_specOf) (as := [vI (MI (b + 34) l2.toNat)]) (rest := []) _ dX4_judgeElement_10 lX4_79 kX5_specOf vX5_specOf (by decide) (by decide +kernel) rfl (Nat.le_of_ble_eq_true rfl) (by omega) (kdb_1 hbd) rfl rfl (Nat.le_of_ble_eq_true rfl) (fun hM hS => h) (fun r M' hq hM => ?_)
  obtain ⟨x10, m10, n10, rfl, rfl, h⟩ := rI_out hq
  refine wp_istore_n dX4_judgeElement_13 rfl (by decide) (wp_L (L' := [some (vR 11), some (vR b), some (vI l2), some (vI x10), none, none, none, none]) rfl ?_)
  refine wp_aload_n dX4_judgeElement_14 rfl rfl (by first | exact Or.inl (by decide) | exact Or.inl (by omega) | exact Or.inr (by decide) | exact Or.inr (by omega)) ?_
  refine wp_getR dX4_judgeElement_15 fX4_72 (show KD[b]? = some (7, 19) from kdb_0 hbd) (by omega) ?_
  refine wp_topR (x' := (b + 1)) (grb_0_0 hbd) ?_
  refine wp_aload_n dX4_judgeElement_18 rfl rfl (by first | exact Or.inl (by decide) | exact Or.inl (by omega) | exact Or.inr (by decide) | exact Or.inr (by omega)) ?_
  refine wp_getR dX4_judgeElement_19 fX4_34 (show KD[b]? = some (7, 19) from kdb_0 hbd) (by omega) ?_
  refine wp_topR (x' := (b + 34)) (grb_0_5 hbd) ?_
  refine wp_iload_n dX4_judgeElement_22 rfl rfl ?_
  refine wp_iald dX4_judgeElement_23 (kdb_34 hbd) (by omega) c0 ?_
  refine wp_pc (pc' := 24) rfl ?_
  refine wp_cVq (n := 1) (mt' := mX5_ruleOf) (as := [vI (m10 (b + 34) l2.toNat)]) (rest := []) _ dX4_judgeElement_24 lX4_117 kX5_ruleOf vX5_ruleOf (by decide) (by decide +kernel) rfl (Nat.le_of_ble_eq_true rfl) (by omega) (kdb_1 hbd) rfl rfl (Nat.le_of_ble_eq_true rfl) (fun hM hS => h) (fun r M' hq hM => ?_)
  obtain ⟨x24, m24, n24, rfl, rfl, h⟩ := rI_out hq
  refine wp_istore dX4_judgeElement_27 (by decide) (wp_L (L' := [some (vR 11), some (vR b), some (vI l2), some (vI x10), some (vI x24), none, none, none]) rfl ?_)
  refine wp_iload_n dX4_judgeElement_29 rfl rfl ?_
  refine wp_iconst dX4_judgeElement_30 (by decide) ?_
  refine wp_icmp_ne (tgt := 44) dX4_judgeElement_31 (by decide) (fun h31 => ?_) (fun h31 => ?_)
  · replace h := h.2 h31
    refine wp_aload_n dX4_judgeElement_44 rfl rfl (by first | exact Or.inl (by decide) | exact Or.inl (by omega) | exact Or.inr (by decide) | exact Or.inr (by omega)) ?_
    refine wp_aload_n dX4_judgeElement_45 rfl rfl (by first | exact Or.inl (by decide) | exact Or.inl (by omega) | exact Or.inr (by decide) | exact Or.inr (by omega)) ?_
    refine wp_iload_n dX4_judgeElement_46 rfl rfl ?_
    refine wp_iload_n dX4_judgeElement_47 rfl rfl ?_
    refine wp_cVq (n := 3) (mt' := mX4_fits) (as := [vR b, vI l2, vI x10]) (rest := []) _ dX4_judgeElement_48 lX4_157 kX4_fits vX4_fits (by decide) (by decide +kernel) rfl (Nat.le_of_ble_eq_true rfl) (by decide) rfl rfl rfl (Nat.le_of_ble_eq_true rfl) (fun hM hS => h) (fun r M' hq hM => ?_)
    obtain ⟨x48, m48, n48, rfl, rfl, h⟩ := rI_out hq
    refine wp_if_ne (tgt := 61) dX4_judgeElement_51 (by decide) (fun h51 => ?_) (fun h51 => ?_)
    · replace h := h.2 h51
      refine wp_iload_n dX4_judgeElement_61 rfl rfl ?_
      refine wp_iconst dX4_judgeElement_62 (by decide) ?_
      have c1 := h.1
      replace h := h.2
      refine wp_iaddr dX4_judgeElement_63 c1 ?_
      refine wp_istore dX4_judgeElement_64 (by decide) (wp_L (L' := [some (vR 11), some (vR b), some (vI l2), some (vI x10), some (vI x24), some (vI (l2 + 1)), none, none]) rfl ?_)
      exact h
    · replace h := h.1 h51
      refine wp_aload_n dX4_judgeElement_54 rfl rfl (by first | exact Or.inl (by decide) | exact Or.inl (by omega) | exact Or.inr (by decide) | exact Or.inr (by omega)) ?_
      refine wp_bipush dX4_judgeElement_55 (by decide +kernel) (by decide) ?_
      refine wp_iload_n dX4_judgeElement_57 rfl rfl ?_
      refine wp_cVq (n := 2) (mt' := mX4_report) (as := [vI 8, vI l2]) (rest := []) _ dX4_judgeElement_58 lX4_37 kX4_report vX4_report (by decide) (by decide +kernel) rfl (Nat.le_of_ble_eq_true rfl) (by decide) rfl rfl rfl (Nat.le_of_ble_eq_true rfl) (fun hM hS => h) (fun r M' hq hM => ?_)
      obtain ⟨m58, n58, rfl, rfl, h⟩ := rV_out hq
      refine wp_iload_n dX4_judgeElement_61 rfl rfl ?_
      refine wp_iconst dX4_judgeElement_62 (by decide) ?_
      have c1 := h.1
      replace h := h.2
      refine wp_iaddr dX4_judgeElement_63 c1 ?_
      refine wp_istore dX4_judgeElement_64 (by decide) (wp_L (L' := [some (vR 11), some (vR b), some (vI l2), some (vI x10), some (vI x24), some (vI (l2 + 1)), none, none]) rfl ?_)
      exact h
  · replace h := h.1 h31
    refine wp_aload_n dX4_judgeElement_34 rfl rfl (by first | exact Or.inl (by decide) | exact Or.inl (by omega) | exact Or.inr (by decide) | exact Or.inr (by omega)) ?_
    refine wp_bipush dX4_judgeElement_35 (by decide +kernel) (by decide) ?_
    refine wp_iload_n dX4_judgeElement_37 rfl rfl ?_
    refine wp_cVq (n := 2) (mt' := mX4_report) (as := [vI 7, vI l2]) (rest := []) _ dX4_judgeElement_38 lX4_37 kX4_report vX4_report (by decide) (by decide +kernel) rfl (Nat.le_of_ble_eq_true rfl) (by decide) rfl rfl rfl (Nat.le_of_ble_eq_true rfl) (fun hM hS => h) (fun r M' hq hM => ?_)
    obtain ⟨m38, n38, rfl, rfl, h⟩ := rV_out hq
    refine wp_goto (tgt := 61) dX4_judgeElement_41 (by decide) ?_
    refine wp_iload_n dX4_judgeElement_61 rfl rfl ?_
    refine wp_iconst dX4_judgeElement_62 (by decide) ?_
    have c1 := h.1
    replace h := h.2
    refine wp_iaddr dX4_judgeElement_63 c1 ?_
    refine wp_istore dX4_judgeElement_64 (by decide) (wp_L (L' := [some (vR 11), some (vR b), some (vI l2), some (vI x10), some (vI x24), some (vI (l2 + 1)), none, none]) rfl ?_)
    exact h
theorem v_X4_judgeElement_66 {cs : Cs} {Q : Option AV → Mm → Prop} {MI ML : Nat → Nat → Int} {b d e nw th x : Nat} {l2 l3 l4 l5 : Int} (hbd : b = 38 ∨ b = 81)
    (h : (0 ≤ l2 ∧ l2 < 600) ∧ (-2147483648 ≤ l2 + (MI (b + 35) l2.toNat) ∧ l2 + (MI (b + 35) l2.toNat) < 2147483648) ∧ (((l2 + (MI (b + 35) l2.toNat)) < l5 → wp cs mX4_judgeElement KD Q 127 [some (vR 11), some (vR b), some (vI l2), some (vI l3), some (vI l4), some (vI l4), some (vI 0), none] [] (KD, MI, ML, (GR d e nw th x))) ∧ (l5 ≤ (l2 + (MI (b + 35) l2.toNat)) → (0 ≤ l5 ∧ l5 < 600) ∧ (((i_and (MI (b + 37) l5.toNat) 1) = 0 → wp cs mX7_find KD (rI (GR d e nw th x) fun x108 m108 n108 => wp cs mX4_judgeAttribute KD (rV (GR d e nw th x) fun m111 n111 => (-2147483648 ≤ l5 + 1 ∧ l5 + 1 < 2147483648) ∧ wp cs mX4_judgeElement KD Q 66 [some (vR 11), some (vR b), some (vI l2), some (vI l3), some (vI l4), some (vI (l5 + 1)), none, none] [] (KD, m111, n111, (GR d e nw th x))) 0 (padL [vR 11, vR b, vI l5, vI x108] 5) [] (KD, m108, n108, (GR d e nw th x))) 0 (padL [vR (b + 20), vI l4, vI (MI (b + 34) l5.toNat)] 5) [] (KD, MI, ML, (GR d e nw th x))) ∧ ((i_and (MI (b + 37) l5.toNat) 1) ≠ 0 → (-2147483648 ≤ l5 + 1 ∧ l5 + 1 < 2147483648) ∧ wp cs mX4_judgeElement KD Q 66 [some (vR 11), some (vR b), some (vI l2), some (vI l3), some (vI l4), some (vI (l5 + 1)), none, none] [] (KD, MI, ML, (GR d e nw th x))))))) :
    wp cs mX4_judgeElement KD Q 66 [some (vR 11), some (vR b), some (vI l2), some (vI l3), some (vI l4), some (vI l5), none, none] [] (KD, MI, ML, (GR d e nw th x)) := by
  refine wp_iload dX4_judgeElement_66 rfl ?_
  refine wp_iload_n dX4_judgeElement_68 rfl rfl ?_
  refine wp_aload_n dX4_judgeElement_69 rfl rfl (by first | exact Or.inl (by decide) | exact Or.inl (by omega) | exact Or.inr (by decide) | exact Or.inr (by omega)) ?_
  refine wp_getR dX4_judgeElement_70 fX4_160 (show KD[b]? = some (7, 19) from kdb_0 hbd) (by omega) ?_
  refine wp_topR (x' := (b + 35)) (grb_0_6 hbd) ?_
  refine wp_iload_n dX4_judgeElement_73 rfl rfl ?_
  have c0 := h.1
  replace h := h.2
  refine wp_iald dX4_judgeElement_74 (kdb_35 hbd) (by omega) c0 ?_
  have c1 := h.1
  replace h := h.2
  refine wp_iaddr dX4_judgeElement_75 c1 ?_
  refine wp_pc (pc' := 76) rfl ?_
  refine wp_icmp_gt (tgt := 120) dX4_judgeElement_76 (by decide) (fun h76 => ?_) (fun h76 => ?_)
  · replace h := h.1 h76
    refine wp_iload dX4_judgeElement_120 rfl ?_
    refine wp_istore dX4_judgeElement_122 (by decide) (wp_L (L' := [some (vR 11), some (vR b), some (vI l2), some (vI l3), some (vI l4), some (vI l4), none, none]) rfl ?_)
    refine wp_iconst dX4_judgeElement_124 (by decide) ?_
    refine wp_istore dX4_judgeElement_125 (by decide) (wp_L (L' := [some (vR 11), some (vR b), some (vI l2), some (vI l3), some (vI l4), some (vI l4), some (vI 0), none]) rfl ?_)
    exact h
  · replace h := h.2 h76
    refine wp_aload_n dX4_judgeElement_79 rfl rfl (by first | exact Or.inl (by decide) | exact Or.inl (by omega) | exact Or.inr (by decide) | exact Or.inr (by omega)) ?_
    refine wp_getR dX4_judgeElement_80 fX4_163 (show KD[b]? = some (7, 19) from kdb_0 hbd) (by omega) ?_
    refine wp_topR (x' := (b + 37)) (grb_0_8 hbd) ?_
    refine wp_iload dX4_judgeElement_83 rfl ?_
    have c2 := h.1
    replace h := h.2
    refine wp_iald dX4_judgeElement_85 (kdb_37 hbd) (by omega) c2 ?_
    refine wp_iconst dX4_judgeElement_86 (by decide) ?_
    refine wp_iand dX4_judgeElement_87 ?_
    refine wp_if_ne (tgt := 114) dX4_judgeElement_88 (by decide) (fun h88 => ?_) (fun h88 => ?_)
    · replace h := h.2 h88
      have c3 := h.1
      replace h := h.2
      refine wp_iincr dX4_judgeElement_114 rfl (by decide) c3 (wp_L (L' := [some (vR 11), some (vR b), some (vI l2), some (vI l3), some (vI l4), some (vI (l5 + 1)), none, none]) rfl ?_)
      refine wp_goto (tgt := 66) dX4_judgeElement_117 (by decide) ?_
      exact h
    · replace h := h.1 h88
      refine wp_aload_n dX4_judgeElement_91 rfl rfl (by first | exact Or.inl (by decide) | exact Or.inl (by omega) | exact Or.inr (by decide) | exact Or.inr (by omega)) ?_
      refine wp_aload_n dX4_judgeElement_92 rfl rfl (by first | exact Or.inl (by decide) | exact Or.inl (by omega) | exact Or.inr (by decide) | exact Or.inr (by omega)) ?_
      refine wp_iload dX4_judgeElement_93 rfl ?_
      refine wp_aload_n dX4_judgeElement_95 rfl rfl (by first | exact Or.inl (by decide) | exact Or.inl (by omega) | exact Or.inr (by decide) | exact Or.inr (by omega)) ?_
      refine wp_getR dX4_judgeElement_96 fX4_65 (show KD[b]? = some (7, 19) from kdb_0 hbd) (by omega) ?_
      refine wp_topR (x' := (b + 20)) (grb_0_2 hbd) ?_
      refine wp_iload dX4_judgeElement_99 rfl ?_
      refine wp_aload_n dX4_judgeElement_101 rfl rfl (by first | exact Or.inl (by decide) | exact Or.inl (by omega) | exact Or.inr (by decide) | exact Or.inr (by omega)) ?_
      refine wp_pc (pc' := 102) rfl ?_
      refine wp_getR dX4_judgeElement_102 fX4_34 (show KD[b]? = some (7, 19) from kdb_0 hbd) (by omega) ?_
      refine wp_topR (x' := (b + 34)) (grb_0_5 hbd) ?_
      refine wp_iload dX4_judgeElement_105 rfl ?_
      refine wp_iald dX4_judgeElement_107 (kdb_34 hbd) (by omega) c2 ?_
      refine wp_cVq (n := 2) (mt' := mX7_find) (as := [vI l4, vI (MI (b + 34) l5.toNat)]) (rest := [vI l5, vR b, vR 11]) _ dX4_judgeElement_108 lX4_166 kX7_find vX7_find (by decide) (by decide +kernel) rfl (Nat.le_of_ble_eq_true rfl) (by omega) (kdb_20 hbd) rfl rfl (Nat.le_of_ble_eq_true rfl) (fun hM hS => h) (fun r M' hq hM => ?_)
      obtain ⟨x108, m108, n108, rfl, rfl, h⟩ := rI_out hq
      refine wp_cVq (n := 3) (mt' := mX4_judgeAttribute) (as := [vR b, vI l5, vI x108]) (rest := []) _ dX4_judgeElement_111 lX4_170 kX4_judgeAttribute vX4_judgeAttribute (by decide) (by decide +kernel) rfl (Nat.le_of_ble_eq_true rfl) (by decide) rfl rfl rfl (Nat.le_of_ble_eq_true rfl) (fun hM hS => h) (fun r M' hq hM => ?_)
      obtain ⟨m111, n111, rfl, rfl, h⟩ := rV_out hq
      have c3 := h.1
      replace h := h.2
      refine wp_iincr dX4_judgeElement_114 rfl (by decide) c3 (wp_L (L' := [some (vR 11), some (vR b), some (vI l2), some (vI l3), some (vI l4), some (vI (l5 + 1)), none, none]) rfl ?_)
      refine wp_goto (tgt := 66) dX4_judgeElement_117 (by decide) ?_
      exact h
theorem v_X4_judgeElement_127 {cs : Cs} {Q : Option AV → Mm → Prop} {MI ML : Nat → Nat → Int} {b d e nw th x : Nat} {l2 l3 l4 l5 l6 : Int} (hbd : b = 38 ∨ b = 81)
    (h : ((l6 < 10 → ((l5 = (-1) → Q none (MI, ML, (GR d e nw th x))) ∧ (l5 ≠ (-1) → (0 ≤ l5 ∧ l5 < 750) ∧ (((MI (b + 26) l5.toNat) = 1 → wp cs mX4_judgeElement KD Q 159 [some (vR 11), some (vR b), some (vI l2), some (vI l3), some (vI l4), some (vI l5), some (vI l6), none] [vI 1] (KD, MI, ML, (GR d e nw th x))) ∧ ((MI (b + 26) l5.toNat) ≠ 1 → wp cs mX4_judgeElement KD Q 159 [some (vR 11), some (vR b), some (vI l2), some (vI l3), some (vI l4), some (vI l5), some (vI l6), none] [vI 0] (KD, MI, ML, (GR d e nw th x))))))) ∧ (10 ≤ l6 → Q none (MI, ML, (GR d e nw th x))))) :
    wp cs mX4_judgeElement KD Q 127 [some (vR 11), some (vR b), some (vI l2), some (vI l3), some (vI l4), some (vI l5), some (vI l6), none] [] (KD, MI, ML, (GR d e nw th x)) := by
  refine wp_iload dX4_judgeElement_127 rfl ?_
  refine wp_bipush dX4_judgeElement_129 (by decide +kernel) (by decide) ?_
  refine wp_icmp_ge (tgt := 210) dX4_judgeElement_131 (by decide) (fun h131 => ?_) (fun h131 => ?_)
  · replace h := h.2 h131
    exact wp_vret dX4_judgeElement_210 rfl (fun _ => h)
  · replace h := h.1 h131
    refine wp_iload dX4_judgeElement_134 rfl ?_
    refine wp_iconst dX4_judgeElement_136 (by decide) ?_
    refine wp_icmp_eq (tgt := 210) dX4_judgeElement_137 (by decide) (fun h137 => ?_) (fun h137 => ?_)
    · replace h := h.1 h137
      exact wp_vret dX4_judgeElement_210 rfl (fun _ => h)
    · replace h := h.2 h137
      refine wp_aload_n dX4_judgeElement_140 rfl rfl (by first | exact Or.inl (by decide) | exact Or.inl (by omega) | exact Or.inr (by decide) | exact Or.inr (by omega)) ?_
      refine wp_getR dX4_judgeElement_141 fX4_65 (show KD[b]? = some (7, 19) from kdb_0 hbd) (by omega) ?_
      refine wp_topR (x' := (b + 20)) (grb_0_2 hbd) ?_
      refine wp_getR dX4_judgeElement_144 fX4_174 (kdb_20 hbd) (by omega) ?_
      refine wp_topR (x' := (b + 26)) (grb_20_5 hbd) ?_
      refine wp_iload dX4_judgeElement_147 rfl ?_
      have c0 := h.1
      replace h := h.2
      refine wp_iald dX4_judgeElement_149 (kdb_26 hbd) (by omega) c0 ?_
      refine wp_iconst dX4_judgeElement_150 (by decide) ?_
      refine wp_icmp_ne (tgt := 158) dX4_judgeElement_151 (by decide) (fun h151 => ?_) (fun h151 => ?_)
      · replace h := h.2 h151
        refine wp_iconst dX4_judgeElement_158 (by decide) ?_
        exact h
      · replace h := h.1 h151
        refine wp_iconst dX4_judgeElement_154 (by decide) ?_
        refine wp_goto (tgt := 159) dX4_judgeElement_155 (by decide) ?_
        exact h
theorem v_X4_judgeElement_159 {cs : Cs} {Q : Option AV → Mm → Prop} {MI ML : Nat → Nat → Int} {b d e nw th x : Nat} {l2 l3 l4 l5 l6 s0 : Int} (hbd : b = 38 ∨ b = 81)
    (h : ((s0 = 0 → wp cs mX4_judgeElement KD Q 192 [some (vR 11), some (vR b), some (vI l2), some (vI l3), some (vI l4), some (vI l5), some (vI l6), some (vI s0)] [] (KD, MI, ML, (GR d e nw th x))) ∧ (s0 ≠ 0 → (0 ≤ l5 ∧ l5 < 750) ∧ wp cs mX3_attributeOf KD (rI (GR d e nw th x) fun x178 m178 n178 => ((x178 = (-1) → wp cs mX4_report KD (rV (GR d e nw th x) fun m189 n189 => wp cs mX4_judgeElement KD Q 192 [some (vR 11), some (vR b), some (vI l2), some (vI l3), some (vI l4), some (vI l5), some (vI l6), some (vI s0)] [] (KD, m189, n189, (GR d e nw th x))) 0 (padL [vR 11, vI 12, vI l2] 3) [] (KD, m178, n178, (GR d e nw th x))) ∧ (x178 ≠ (-1) → wp cs mX4_judgeElement KD Q 192 [some (vR 11), some (vR b), some (vI l2), some (vI l3), some (vI l4), some (vI l5), some (vI l6), some (vI s0)] [] (KD, m178, n178, (GR d e nw th x))))) 0 (padL [vR b, vI l2, vI (MI (b + 21) l5.toNat)] 4) [] (KD, MI, ML, (GR d e nw th x))))) :
    wp cs mX4_judgeElement KD Q 159 [some (vR 11), some (vR b), some (vI l2), some (vI l3), some (vI l4), some (vI l5), some (vI l6), none] [vI s0] (KD, MI, ML, (GR d e nw th x)) := by
  refine wp_istore dX4_judgeElement_159 (by decide) (wp_L (L' := [some (vR 11), some (vR b), some (vI l2), some (vI l3), some (vI l4), some (vI l5), some (vI l6), some (vI s0)]) rfl ?_)
  refine wp_iload dX4_judgeElement_161 rfl ?_
  refine wp_if_eq (tgt := 192) dX4_judgeElement_163 (by decide) (fun h163 => ?_) (fun h163 => ?_)
  · replace h := h.1 h163
    exact h
  · replace h := h.2 h163
    refine wp_aload_n dX4_judgeElement_166 rfl rfl (by first | exact Or.inl (by decide) | exact Or.inl (by omega) | exact Or.inr (by decide) | exact Or.inr (by omega)) ?_
    refine wp_iload_n dX4_judgeElement_167 rfl rfl ?_
    refine wp_aload_n dX4_judgeElement_168 rfl rfl (by first | exact Or.inl (by decide) | exact Or.inl (by omega) | exact Or.inr (by decide) | exact Or.inr (by omega)) ?_
    refine wp_getR dX4_judgeElement_169 fX4_65 (show KD[b]? = some (7, 19) from kdb_0 hbd) (by omega) ?_
    refine wp_topR (x' := (b + 20)) (grb_0_2 hbd) ?_
    refine wp_getR dX4_judgeElement_172 fX4_177 (kdb_20 hbd) (by omega) ?_
    refine wp_topR (x' := (b + 21)) (grb_20_0 hbd) ?_
    refine wp_iload dX4_judgeElement_175 rfl ?_
    have c0 := h.1
    replace h := h.2
    refine wp_iald dX4_judgeElement_177 (kdb_21 hbd) (by omega) c0 ?_
    refine wp_pc (pc' := 178) rfl ?_
    refine wp_cVq (n := 2) (mt' := mX3_attributeOf) (as := [vI l2, vI (MI (b + 21) l5.toNat)]) (rest := []) _ dX4_judgeElement_178 lX4_180 kX3_attributeOf vX3_attributeOf (by decide) (by decide +kernel) rfl (Nat.le_of_ble_eq_true rfl) (by omega) (show KD[b]? = some (7, 19) from kdb_0 hbd) rfl rfl (Nat.le_of_ble_eq_true rfl) (fun hM hS => h) (fun r M' hq hM => ?_)
    obtain ⟨x178, m178, n178, rfl, rfl, h⟩ := rI_out hq
    refine wp_iconst dX4_judgeElement_181 (by decide) ?_
    refine wp_icmp_ne (tgt := 192) dX4_judgeElement_182 (by decide) (fun h182 => ?_) (fun h182 => ?_)
    · replace h := h.2 h182
      exact h
    · replace h := h.1 h182
      refine wp_aload_n dX4_judgeElement_185 rfl rfl (by first | exact Or.inl (by decide) | exact Or.inl (by omega) | exact Or.inr (by decide) | exact Or.inr (by omega)) ?_
      refine wp_bipush dX4_judgeElement_186 (by decide +kernel) (by decide) ?_
      refine wp_iload_n dX4_judgeElement_188 rfl rfl ?_
      refine wp_cVq (n := 2) (mt' := mX4_report) (as := [vI 12, vI l2]) (rest := []) _ dX4_judgeElement_189 lX4_37 kX4_report vX4_report (by decide) (by decide +kernel) rfl (Nat.le_of_ble_eq_true rfl) (by decide) rfl rfl rfl (Nat.le_of_ble_eq_true rfl) (fun hM hS => h) (fun r M' hq hM => ?_)
      obtain ⟨m189, n189, rfl, rfl, h⟩ := rV_out hq
      exact h
theorem v_X4_judgeElement_192 {cs : Cs} {Q : Option AV → Mm → Prop} {MI ML : Nat → Nat → Int} {b d e nw th x : Nat} {l2 l3 l4 l5 l6 l7 : Int} (hbd : b = 38 ∨ b = 81)
    (h : (0 ≤ l5 ∧ l5 < 750) ∧ (-2147483648 ≤ l6 + 1 ∧ l6 + 1 < 2147483648) ∧ wp cs mX4_judgeElement KD Q 127 [some (vR 11), some (vR b), some (vI l2), some (vI l3), some (vI l4), some (vI (MI (b + 29) l5.toNat)), some (vI (l6 + 1)), none] [] (KD, MI, ML, (GR d e nw th x))) :
    wp cs mX4_judgeElement KD Q 192 [some (vR 11), some (vR b), some (vI l2), some (vI l3), some (vI l4), some (vI l5), some (vI l6), some (vI l7)] [] (KD, MI, ML, (GR d e nw th x)) := by
  refine wp_aload_n dX4_judgeElement_192 rfl rfl (by first | exact Or.inl (by decide) | exact Or.inl (by omega) | exact Or.inr (by decide) | exact Or.inr (by omega)) ?_
  refine wp_getR dX4_judgeElement_193 fX4_65 (show KD[b]? = some (7, 19) from kdb_0 hbd) (by omega) ?_
  refine wp_topR (x' := (b + 20)) (grb_0_2 hbd) ?_
  refine wp_getR dX4_judgeElement_196 fX4_120 (kdb_20 hbd) (by omega) ?_
  refine wp_topR (x' := (b + 29)) (grb_20_8 hbd) ?_
  refine wp_iload dX4_judgeElement_199 rfl ?_
  have c0 := h.1
  replace h := h.2
  refine wp_iald dX4_judgeElement_201 (kdb_29 hbd) (by omega) c0 ?_
  refine wp_istore dX4_judgeElement_202 (by decide) (wp_L (L' := [some (vR 11), some (vR b), some (vI l2), some (vI l3), some (vI l4), some (vI (MI (b + 29) l5.toNat)), some (vI l6), some (vI l7)]) rfl ?_)
  have c1 := h.1
  replace h := h.2
  refine wp_iincr dX4_judgeElement_204 rfl (by decide) c1 (wp_L (L' := [some (vR 11), some (vR b), some (vI l2), some (vI l3), some (vI l4), some (vI (MI (b + 29) l5.toNat)), some (vI (l6 + 1)), some (vI l7)]) rfl ?_)
  refine wp_pc (pc' := 207) rfl ?_
  refine wp_goto (tgt := 127) dX4_judgeElement_207 (by decide) ?_
  refine wp_forget (L' := [some (vR 11), some (vR b), some (vI l2), some (vI l3), some (vI l4), some (vI (MI (b + 29) l5.toNat)), some (vI (l6 + 1)), none]) (by repeat' (first | exact trivial | refine ⟨rfl, ?_⟩)) ?_
  exact h
theorem dX4_judge_0 : decode cX4_judge 0 = .ok (.aload_n 0, 1) := by decide +kernel
theorem dX4_judge_1 : decode cX4_judge 1 = .ok (.iconst 0, 1) := by decide +kernel
theorem dX4_judge_2 : decode cX4_judge 2 = .ok (.putfield 22, 3) := by decide +kernel
theorem dX4_judge_5 : decode cX4_judge 5 = .ok (.aload_n 0, 1) := by decide +kernel
theorem dX4_judge_6 : decode cX4_judge 6 = .ok (.iconst 0, 1) := by decide +kernel
theorem dX4_judge_7 : decode cX4_judge 7 = .ok (.putfield 18, 3) := by decide +kernel
theorem dX4_judge_10 : decode cX4_judge 10 = .ok (.aload_n 1, 1) := by decide +kernel
theorem dX4_judge_11 : decode cX4_judge 11 = .ok (.getfield 25, 3) := by decide +kernel
theorem dX4_judge_14 : decode cX4_judge 14 = .ok (.iconst (-1), 1) := by decide +kernel
theorem dX4_judge_15 : decode cX4_judge 15 = .ok (.if_icmp .ne 4, 3) := by decide +kernel
theorem dX4_judge_18 : decode cX4_judge 18 = .ok (.return_, 1) := by decide +kernel
theorem dX4_judge_19 : decode cX4_judge 19 = .ok (.aload_n 0, 1) := by decide +kernel
theorem dX4_judge_20 : decode cX4_judge 20 = .ok (.aload_n 1, 1) := by decide +kernel
theorem dX4_judge_21 : decode cX4_judge 21 = .ok (.invokevirtual 30, 3) := by decide +kernel
theorem dX4_judge_24 : decode cX4_judge 24 = .ok (.aload_n 1, 1) := by decide +kernel
theorem dX4_judge_25 : decode cX4_judge 25 = .ok (.getfield 34, 3) := by decide +kernel
theorem dX4_judge_28 : decode cX4_judge 28 = .ok (.iconst 1, 1) := by decide +kernel
theorem dX4_judge_29 : decode cX4_judge 29 = .ok (.iaload, 1) := by decide +kernel
theorem dX4_judge_30 : decode cX4_judge 30 = .ok (.aload_n 1, 1) := by decide +kernel
theorem dX4_judge_31 : decode cX4_judge 31 = .ok (.getfield 25, 3) := by decide +kernel
theorem dX4_judge_34 : decode cX4_judge 34 = .ok (.if_icmp .eq 10, 3) := by decide +kernel
theorem dX4_judge_37 : decode cX4_judge 37 = .ok (.aload_n 0, 1) := by decide +kernel
theorem dX4_judge_38 : decode cX4_judge 38 = .ok (.bipush 6, 2) := by decide +kernel
theorem dX4_judge_40 : decode cX4_judge 40 = .ok (.iconst 1, 1) := by decide +kernel
theorem dX4_judge_41 : decode cX4_judge 41 = .ok (.invokevirtual 37, 3) := by decide +kernel
theorem dX4_judge_44 : decode cX4_judge 44 = .ok (.iconst 1, 1) := by decide +kernel
theorem dX4_judge_45 : decode cX4_judge 45 = .ok (.istore_n 2, 1) := by decide +kernel
theorem dX4_judge_46 : decode cX4_judge 46 = .ok (.iload_n 2, 1) := by decide +kernel
theorem dX4_judge_47 : decode cX4_judge 47 = .ok (.aload_n 1, 1) := by decide +kernel
theorem dX4_judge_48 : decode cX4_judge 48 = .ok (.getfield 41, 3) := by decide +kernel
theorem dX4_judge_51 : decode cX4_judge 51 = .ok (.if_icmp .ge 25, 3) := by decide +kernel
theorem dX4_judge_54 : decode cX4_judge 54 = .ok (.aload_n 1, 1) := by decide +kernel
theorem dX4_judge_55 : decode cX4_judge 55 = .ok (.getfield 42, 3) := by decide +kernel
theorem dX4_judge_58 : decode cX4_judge 58 = .ok (.iload_n 2, 1) := by decide +kernel
theorem dX4_judge_59 : decode cX4_judge 59 = .ok (.iaload, 1) := by decide +kernel
theorem dX4_judge_60 : decode cX4_judge 60 = .ok (.iconst 1, 1) := by decide +kernel
theorem dX4_judge_61 : decode cX4_judge 61 = .ok (.if_icmp .ne 9, 3) := by decide +kernel
theorem dX4_judge_64 : decode cX4_judge 64 = .ok (.aload_n 0, 1) := by decide +kernel
theorem dX4_judge_65 : decode cX4_judge 65 = .ok (.aload_n 1, 1) := by decide +kernel
theorem dX4_judge_66 : decode cX4_judge 66 = .ok (.iload_n 2, 1) := by decide +kernel
theorem dX4_judge_67 : decode cX4_judge 67 = .ok (.invokevirtual 45, 3) := by decide +kernel
theorem dX4_judge_70 : decode cX4_judge 70 = .ok (.iinc 2 1, 3) := by decide +kernel
theorem dX4_judge_73 : decode cX4_judge 73 = .ok (.goto (-27), 3) := by decide +kernel
theorem dX4_judge_76 : decode cX4_judge 76 = .ok (.return_, 1) := by decide +kernel
theorem v_X4_judge_0 {cs : Cs} {Q : Option AV → Mm → Prop} {MI ML : Nat → Nat → Int} {b d e nw th x : Nat} (hbd : b = 38 ∨ b = 81)
    (h : ∀ m2, m2 = up2 MI 11 3 0 → ∀ m7, m7 = up2 m2 11 2 0 → (((m7 b 17) = (-1) → Q none (m7, ML, (GR d e nw th x))) ∧ ((m7 b 17) ≠ (-1) → wp cs mX4_judgeDeclarations KD (rV (GR d e nw th x) fun m21 n21 => (((m21 (b + 34) 1) = (m21 b 17) → wp cs mX4_judge KD Q 46 [some (vR 11), some (vR b), some (vI 1)] [] (KD, m21, n21, (GR d e nw th x))) ∧ ((m21 (b + 34) 1) ≠ (m21 b 17) → wp cs mX4_report KD (rV (GR d e nw th x) fun m41 n41 => wp cs mX4_judge KD Q 46 [some (vR 11), some (vR b), some (vI 1)] [] (KD, m41, n41, (GR d e nw th x))) 0 (padL [vR 11, vI 6, vI 1] 3) [] (KD, m21, n21, (GR d e nw th x))))) 0 (padL [vR 11, vR b] 4) [] (KD, m7, ML, (GR d e nw th x))))) :
    wp cs mX4_judge KD Q 0 (padL [vR 11, vR b] 3) [] (KD, MI, ML, (GR d e nw th x)) := by
  refine wp_L (L' := [some (vR 11), some (vR b), none]) rfl ?_
  refine wp_aload_n dX4_judge_0 rfl rfl (by first | exact Or.inl (by decide) | exact Or.inl (by omega) | exact Or.inr (by decide) | exact Or.inr (by omega)) ?_
  refine wp_iconst dX4_judge_1 (by decide) ?_
  refine wp_putI dX4_judge_2 pX4_22 rfl (by decide) ?_
  refine wp_gI (fun m2 e2 => ?_)
  replace h := h m2 e2
  refine wp_aload_n dX4_judge_5 rfl rfl (by first | exact Or.inl (by decide) | exact Or.inl (by omega) | exact Or.inr (by decide) | exact Or.inr (by omega)) ?_
  refine wp_iconst dX4_judge_6 (by decide) ?_
  refine wp_putI dX4_judge_7 pX4_18 rfl (by decide) ?_
  refine wp_gI (fun m7 e7 => ?_)
  replace h := h m7 e7
  refine wp_aload_n dX4_judge_10 rfl rfl (by first | exact Or.inl (by decide) | exact Or.inl (by omega) | exact Or.inr (by decide) | exact Or.inr (by omega)) ?_
  refine wp_pc (pc' := 11) rfl ?_
  refine wp_getI dX4_judge_11 fX4_25 (show KD[b]? = some (7, 19) from kdb_0 hbd) (by omega) ?_
  refine wp_iconst dX4_judge_14 (by decide) ?_
  refine wp_icmp_ne (tgt := 19) dX4_judge_15 (by decide) (fun h15 => ?_) (fun h15 => ?_)
  · replace h := h.2 h15
    refine wp_aload_n dX4_judge_19 rfl rfl (by first | exact Or.inl (by decide) | exact Or.inl (by omega) | exact Or.inr (by decide) | exact Or.inr (by omega)) ?_
    refine wp_aload_n dX4_judge_20 rfl rfl (by first | exact Or.inl (by decide) | exact Or.inl (by omega) | exact Or.inr (by decide) | exact Or.inr (by omega)) ?_
    refine wp_cVq (n := 1) (mt' := mX4_judgeDeclarations) (as := [vR b]) (rest := []) _ dX4_judge_21 lX4_30 kX4_judgeDeclarations vX4_judgeDeclarations (by decide) (by decide +kernel) rfl (Nat.le_of_ble_eq_true rfl) (by decide) rfl rfl rfl (Nat.le_of_ble_eq_true rfl) (fun hM hS => h) (fun r M' hq hM => ?_)
    obtain ⟨m21, n21, rfl, rfl, h⟩ := rV_out hq
    refine wp_aload_n dX4_judge_24 rfl rfl (by first | exact Or.inl (by decide) | exact Or.inl (by omega) | exact Or.inr (by decide) | exact Or.inr (by omega)) ?_
    refine wp_getR dX4_judge_25 fX4_34 (show KD[b]? = some (7, 19) from kdb_0 hbd) (by omega) ?_
    refine wp_topR (x' := (b + 34)) (grb_0_5 hbd) ?_
    refine wp_iconst dX4_judge_28 (by decide) ?_
    refine wp_iald dX4_judge_29 (kdb_34 hbd) (by omega) (by decide) ?_
    refine wp_aload_n dX4_judge_30 rfl rfl (by first | exact Or.inl (by decide) | exact Or.inl (by omega) | exact Or.inr (by decide) | exact Or.inr (by omega)) ?_
    refine wp_getI dX4_judge_31 fX4_25 (show KD[b]? = some (7, 19) from kdb_0 hbd) (by omega) ?_
    refine wp_icmp_eq (tgt := 44) dX4_judge_34 (by decide) (fun h34 => ?_) (fun h34 => ?_)
    · replace h := h.1 h34
      refine wp_iconst dX4_judge_44 (by decide) ?_
      refine wp_istore_n dX4_judge_45 rfl (by decide) (wp_L (L' := [some (vR 11), some (vR b), some (vI 1)]) rfl ?_)
      exact h
    · replace h := h.2 h34
      refine wp_aload_n dX4_judge_37 rfl rfl (by first | exact Or.inl (by decide) | exact Or.inl (by omega) | exact Or.inr (by decide) | exact Or.inr (by omega)) ?_
      refine wp_bipush dX4_judge_38 (by decide +kernel) (by decide) ?_
      refine wp_iconst dX4_judge_40 (by decide) ?_
      refine wp_cVq (n := 2) (mt' := mX4_report) (as := [vI 6, vI 1]) (rest := []) _ dX4_judge_41 lX4_37 kX4_report vX4_report (by decide) (by decide +kernel) rfl (Nat.le_of_ble_eq_true rfl) (by decide) rfl rfl rfl (Nat.le_of_ble_eq_true rfl) (fun hM hS => h) (fun r M' hq hM => ?_)
      obtain ⟨m41, n41, rfl, rfl, h⟩ := rV_out hq
      refine wp_iconst dX4_judge_44 (by decide) ?_
      refine wp_istore_n dX4_judge_45 rfl (by decide) (wp_L (L' := [some (vR 11), some (vR b), some (vI 1)]) rfl ?_)
      exact h
  · replace h := h.1 h15
    exact wp_vret dX4_judge_18 rfl (fun _ => h)
theorem v_X4_judge_46 {cs : Cs} {Q : Option AV → Mm → Prop} {MI ML : Nat → Nat → Int} {b d e nw th x : Nat} {l2 : Int} (hbd : b = 38 ∨ b = 81)
    (h : ((l2 < (MI b 16) → (0 ≤ l2 ∧ l2 < 600) ∧ (((MI (b + 32) l2.toNat) = 1 → wp cs mX4_judgeElement KD (rV (GR d e nw th x) fun m67 n67 => (-2147483648 ≤ l2 + 1 ∧ l2 + 1 < 2147483648) ∧ wp cs mX4_judge KD Q 46 [some (vR 11), some (vR b), some (vI (l2 + 1))] [] (KD, m67, n67, (GR d e nw th x))) 0 (padL [vR 11, vR b, vI l2] 8) [] (KD, MI, ML, (GR d e nw th x))) ∧ ((MI (b + 32) l2.toNat) ≠ 1 → (-2147483648 ≤ l2 + 1 ∧ l2 + 1 < 2147483648) ∧ wp cs mX4_judge KD Q 46 [some (vR 11), some (vR b), some (vI (l2 + 1))] [] (KD, MI, ML, (GR d e nw th x))))) ∧ ((MI b 16) ≤ l2 → Q none (MI, ML, (GR d e nw th x))))) :
    wp cs mX4_judge KD Q 46 [some (vR 11), some (vR b), some (vI l2)] [] (KD, MI, ML, (GR d e nw th x)) := by
  refine wp_iload_n dX4_judge_46 rfl rfl ?_
  refine wp_aload_n dX4_judge_47 rfl rfl (by first | exact Or.inl (by decide) | exact Or.inl (by omega) | exact Or.inr (by decide) | exact Or.inr (by omega)) ?_
  refine wp_getI dX4_judge_48 fX4_41 (show KD[b]? = some (7, 19) from kdb_0 hbd) (by omega) ?_
  refine wp_icmp_ge (tgt := 76) dX4_judge_51 (by decide) (fun h51 => ?_) (fun h51 => ?_)
  · replace h := h.2 h51
    exact wp_vret dX4_judge_76 rfl (fun _ => h)
  · replace h := h.1 h51
    refine wp_aload_n dX4_judge_54 rfl rfl (by first | exact Or.inl (by decide) | exact Or.inl (by omega) | exact Or.inr (by decide) | exact Or.inr (by omega)) ?_
    refine wp_getR dX4_judge_55 fX4_42 (show KD[b]? = some (7, 19) from kdb_0 hbd) (by omega) ?_
    refine wp_topR (x' := (b + 32)) (grb_0_3 hbd) ?_
    refine wp_iload_n dX4_judge_58 rfl rfl ?_
    have c0 := h.1
    replace h := h.2
    refine wp_iald dX4_judge_59 (kdb_32 hbd) (by omega) c0 ?_
    refine wp_iconst dX4_judge_60 (by decide) ?_
    refine wp_icmp_ne (tgt := 70) dX4_judge_61 (by decide) (fun h61 => ?_) (fun h61 => ?_)
    · replace h := h.2 h61
      have c1 := h.1
      replace h := h.2
      refine wp_iincr dX4_judge_70 rfl (by decide) c1 (wp_L (L' := [some (vR 11), some (vR b), some (vI (l2 + 1))]) rfl ?_)
      refine wp_goto (tgt := 46) dX4_judge_73 (by decide) ?_
      exact h
    · replace h := h.1 h61
      refine wp_aload_n dX4_judge_64 rfl rfl (by first | exact Or.inl (by decide) | exact Or.inl (by omega) | exact Or.inr (by decide) | exact Or.inr (by omega)) ?_
      refine wp_aload_n dX4_judge_65 rfl rfl (by first | exact Or.inl (by decide) | exact Or.inl (by omega) | exact Or.inr (by decide) | exact Or.inr (by omega)) ?_
      refine wp_iload_n dX4_judge_66 rfl rfl ?_
      refine wp_cVq (n := 2) (mt' := mX4_judgeElement) (as := [vR b, vI l2]) (rest := []) _ dX4_judge_67 lX4_45 kX4_judgeElement vX4_judgeElement (by decide) (by decide +kernel) rfl (Nat.le_of_ble_eq_true rfl) (by decide) rfl rfl rfl (Nat.le_of_ble_eq_true rfl) (fun hM hS => h) (fun r M' hq hM => ?_)
      obtain ⟨m67, n67, rfl, rfl, h⟩ := rV_out hq
      have c1 := h.1
      replace h := h.2
      refine wp_iincr dX4_judge_70 rfl (by decide) c1 (wp_L (L' := [some (vR 11), some (vR b), some (vI (l2 + 1))]) rfl ?_)
      refine wp_goto (tgt := 46) dX4_judge_73 (by decide) ?_
      exact h
theorem dX8_forget_0 : decode cX8_forget 0 = .ok (.aload_n 0, 1) := by decide +kernel
theorem dX8_forget_1 : decode cX8_forget 1 = .ok (.iconst 0, 1) := by decide +kernel
theorem dX8_forget_2 : decode cX8_forget 2 = .ok (.putfield 15, 3) := by decide +kernel
theorem dX8_forget_5 : decode cX8_forget 5 = .ok (.return_, 1) := by decide +kernel
theorem v_X8_forget_0 {cs : Cs} {Q : Option AV → Mm → Prop} {MI ML : Nat → Nat → Int} {d e nw th : Nat}
    (h : ∀ m2, m2 = up2 MI 23 1 0 → Q none (m2, ML, (GR d e nw th 1))) :
    wp cs mX8_forget KD Q 0 (padL [vR 23] 1) [] (KD, MI, ML, (GR d e nw th 1)) := by
  refine wp_L (L' := [some (vR 23)]) rfl ?_
  refine wp_aload_n dX8_forget_0 rfl rfl (by first | exact Or.inl (by decide) | exact Or.inl (by omega) | exact Or.inr (by decide) | exact Or.inr (by omega)) ?_
  refine wp_iconst dX8_forget_1 (by decide) ?_
  refine wp_putI dX8_forget_2 pX8_15 rfl (by decide) ?_
  refine wp_gI (fun m2 e2 => ?_)
  replace h := h m2 e2
  exact wp_vret dX8_forget_5 rfl (fun _ => h)
theorem dX0_forget_0 : decode cX0_forget 0 = .ok (.aload_n 0, 1) := by decide +kernel
theorem dX0_forget_1 : decode cX0_forget 1 = .ok (.iconst 0, 1) := by decide +kernel
theorem dX0_forget_2 : decode cX0_forget 2 = .ok (.putfield 62, 3) := by decide +kernel
theorem dX0_forget_5 : decode cX0_forget 5 = .ok (.aload_n 0, 1) := by decide +kernel
theorem dX0_forget_6 : decode cX0_forget 6 = .ok (.iconst 0, 1) := by decide +kernel
theorem dX0_forget_7 : decode cX0_forget 7 = .ok (.putfield 65, 3) := by decide +kernel
theorem dX0_forget_10 : decode cX0_forget 10 = .ok (.return_, 1) := by decide +kernel
theorem v_X0_forget_0 {cs : Cs} {Q : Option AV → Mm → Prop} {MI ML : Nat → Nat → Int} {d e nw th x : Nat}
    (h : ∀ m2, m2 = up2 MI 28 16 0 → ∀ m7, m7 = up2 m2 28 17 0 → Q none (m7, ML, (GR d e nw th x))) :
    wp cs mX0_forget KD Q 0 (padL [vR 28] 1) [] (KD, MI, ML, (GR d e nw th x)) := by
  refine wp_L (L' := [some (vR 28)]) rfl ?_
  refine wp_aload_n dX0_forget_0 rfl rfl (by first | exact Or.inl (by decide) | exact Or.inl (by omega) | exact Or.inr (by decide) | exact Or.inr (by omega)) ?_
  refine wp_iconst dX0_forget_1 (by decide) ?_
  refine wp_putI dX0_forget_2 pX0_62 rfl (by decide) ?_
  refine wp_gI (fun m2 e2 => ?_)
  replace h := h m2 e2
  refine wp_aload_n dX0_forget_5 rfl rfl (by first | exact Or.inl (by decide) | exact Or.inl (by omega) | exact Or.inr (by decide) | exact Or.inr (by omega)) ?_
  refine wp_iconst dX0_forget_6 (by decide) ?_
  refine wp_putI dX0_forget_7 pX0_65 rfl (by decide) ?_
  refine wp_gI (fun m7 e7 => ?_)
  replace h := h m7 e7
  exact wp_vret dX0_forget_10 rfl (fun _ => h)
theorem dX11_read_0 : decode cX11_read 0 = .ok (.iload_n 1, 1) := by decide +kernel
theorem dX11_read_1 : decode cX11_read 1 = .ok (.ifCond .lt 11, 3) := by decide +kernel
theorem dX11_read_4 : decode cX11_read 4 = .ok (.iload_n 1, 1) := by decide +kernel
theorem dX11_read_5 : decode cX11_read 5 = .ok (.aload_n 0, 1) := by decide +kernel
theorem dX11_read_6 : decode cX11_read 6 = .ok (.getfield 74, 3) := by decide +kernel
theorem dX11_read_9 : decode cX11_read 9 = .ok (.if_icmp .le 5, 3) := by decide +kernel
theorem dX11_read_12 : decode cX11_read 12 = .ok (.iconst 0, 1) := by decide +kernel
theorem dX11_read_13 : decode cX11_read 13 = .ok (.ireturn, 1) := by decide +kernel
theorem dX11_read_14 : decode cX11_read 14 = .ok (.aload_n 0, 1) := by decide +kernel
theorem dX11_read_15 : decode cX11_read 15 = .ok (.iconst 0, 1) := by decide +kernel
theorem dX11_read_16 : decode cX11_read 16 = .ok (.putfield 74, 3) := by decide +kernel
theorem dX11_read_19 : decode cX11_read 19 = .ok (.aload_n 0, 1) := by decide +kernel
theorem dX11_read_20 : decode cX11_read 20 = .ok (.getfield 16, 3) := by decide +kernel
theorem dX11_read_23 : decode cX11_read 23 = .ok (.aload_n 0, 1) := by decide +kernel
theorem dX11_read_24 : decode cX11_read 24 = .ok (.getfield 9, 3) := by decide +kernel
theorem dX11_read_27 : decode cX11_read 27 = .ok (.iload_n 1, 1) := by decide +kernel
theorem dX11_read_28 : decode cX11_read 28 = .ok (.invokevirtual 85, 3) := by decide +kernel
theorem dX11_read_31 : decode cX11_read 31 = .ok (.aload_n 0, 1) := by decide +kernel
theorem dX11_read_32 : decode cX11_read 32 = .ok (.getfield 71, 3) := by decide +kernel
theorem dX11_read_35 : decode cX11_read 35 = .ok (.aload_n 0, 1) := by decide +kernel
theorem dX11_read_36 : decode cX11_read 36 = .ok (.getfield 9, 3) := by decide +kernel
theorem dX11_read_39 : decode cX11_read 39 = .ok (.iload_n 1, 1) := by decide +kernel
theorem dX11_read_40 : decode cX11_read 40 = .ok (.invokevirtual 89, 3) := by decide +kernel
theorem dX11_read_43 : decode cX11_read 43 = .ok (.aload_n 0, 1) := by decide +kernel
theorem dX11_read_44 : decode cX11_read 44 = .ok (.getfield 16, 3) := by decide +kernel
theorem dX11_read_47 : decode cX11_read 47 = .ok (.invokevirtual 90, 3) := by decide +kernel
theorem dX11_read_50 : decode cX11_read 50 = .ok (.ifCond .eq 55, 3) := by decide +kernel
theorem dX11_read_53 : decode cX11_read 53 = .ok (.aload_n 0, 1) := by decide +kernel
theorem dX11_read_54 : decode cX11_read 54 = .ok (.getfield 25, 3) := by decide +kernel
theorem dX11_read_57 : decode cX11_read 57 = .ok (.aload_n 0, 1) := by decide +kernel
theorem dX11_read_58 : decode cX11_read 58 = .ok (.getfield 71, 3) := by decide +kernel
theorem dX11_read_61 : decode cX11_read 61 = .ok (.invokevirtual 94, 3) := by decide +kernel
theorem dX11_read_64 : decode cX11_read 64 = .ok (.ifCond .eq 41, 3) := by decide +kernel
theorem dX11_read_67 : decode cX11_read 67 = .ok (.aload_n 0, 1) := by decide +kernel
theorem dX11_read_68 : decode cX11_read 68 = .ok (.getfield 32, 3) := by decide +kernel
theorem dX11_read_71 : decode cX11_read 71 = .ok (.aload_n 0, 1) := by decide +kernel
theorem dX11_read_72 : decode cX11_read 72 = .ok (.getfield 71, 3) := by decide +kernel
theorem dX11_read_75 : decode cX11_read 75 = .ok (.invokevirtual 98, 3) := by decide +kernel
theorem dX11_read_78 : decode cX11_read 78 = .ok (.ifCond .eq 27, 3) := by decide +kernel
theorem dX11_read_81 : decode cX11_read 81 = .ok (.aload_n 0, 1) := by decide +kernel
theorem dX11_read_82 : decode cX11_read 82 = .ok (.getfield 16, 3) := by decide +kernel
theorem dX11_read_85 : decode cX11_read 85 = .ok (.invokevirtual 90, 3) := by decide +kernel
theorem dX11_read_88 : decode cX11_read 88 = .ok (.ifCond .eq 17, 3) := by decide +kernel
theorem dX11_read_91 : decode cX11_read 91 = .ok (.aload_n 0, 1) := by decide +kernel
theorem dX11_read_92 : decode cX11_read 92 = .ok (.getfield 16, 3) := by decide +kernel
theorem dX11_read_95 : decode cX11_read 95 = .ok (.invokevirtual 101, 3) := by decide +kernel
theorem dX11_read_98 : decode cX11_read 98 = .ok (.ifCond .eq 7, 3) := by decide +kernel
theorem dX11_read_101 : decode cX11_read 101 = .ok (.iconst 1, 1) := by decide +kernel
theorem dX11_read_102 : decode cX11_read 102 = .ok (.goto 4, 3) := by decide +kernel
theorem dX11_read_105 : decode cX11_read 105 = .ok (.iconst 0, 1) := by decide +kernel
theorem dX11_read_106 : decode cX11_read 106 = .ok (.istore_n 2, 1) := by decide +kernel
theorem dX11_read_107 : decode cX11_read 107 = .ok (.aload_n 0, 1) := by decide +kernel
theorem dX11_read_108 : decode cX11_read 108 = .ok (.aload_n 0, 1) := by decide +kernel
theorem dX11_read_109 : decode cX11_read 109 = .ok (.getfield 16, 3) := by decide +kernel
theorem dX11_read_112 : decode cX11_read 112 = .ok (.getfield 104, 3) := by decide +kernel
theorem dX11_read_115 : decode cX11_read 115 = .ok (.putfield 78, 3) := by decide +kernel
theorem dX11_read_118 : decode cX11_read 118 = .ok (.iload_n 2, 1) := by decide +kernel
theorem dX11_read_119 : decode cX11_read 119 = .ok (.ifCond .ne 11, 3) := by decide +kernel
theorem dX11_read_122 : decode cX11_read 122 = .ok (.aload_n 0, 1) := by decide +kernel
theorem dX11_read_123 : decode cX11_read 123 = .ok (.getfield 16, 3) := by decide +kernel
theorem dX11_read_126 : decode cX11_read 126 = .ok (.getfield 107, 3) := by decide +kernel
theorem dX11_read_129 : decode cX11_read 129 = .ok (.ireturn, 1) := by decide +kernel
theorem dX11_read_130 : decode cX11_read 130 = .ok (.aload_n 0, 1) := by decide +kernel
theorem dX11_read_131 : decode cX11_read 131 = .ok (.getfield 67, 3) := by decide +kernel
theorem dX11_read_134 : decode cX11_read 134 = .ok (.astore_n 3, 1) := by decide +kernel
theorem dX11_read_135 : decode cX11_read 135 = .ok (.aload_n 0, 1) := by decide +kernel
theorem dX11_read_136 : decode cX11_read 136 = .ok (.aload_n 0, 1) := by decide +kernel
theorem dX11_read_137 : decode cX11_read 137 = .ok (.getfield 71, 3) := by decide +kernel
theorem dX11_read_140 : decode cX11_read 140 = .ok (.putfield 67, 3) := by decide +kernel
theorem dX11_read_143 : decode cX11_read 143 = .ok (.aload_n 0, 1) := by decide +kernel
theorem dX11_read_144 : decode cX11_read 144 = .ok (.aload_n 3, 1) := by decide +kernel
theorem dX11_read_145 : decode cX11_read 145 = .ok (.putfield 71, 3) := by decide +kernel
theorem dX11_read_148 : decode cX11_read 148 = .ok (.aload_n 0, 1) := by decide +kernel
theorem dX11_read_149 : decode cX11_read 149 = .ok (.getfield 39, 3) := by decide +kernel
theorem dX11_read_152 : decode cX11_read 152 = .ok (.aload_n 0, 1) := by decide +kernel
theorem dX11_read_153 : decode cX11_read 153 = .ok (.getfield 67, 3) := by decide +kernel
theorem dX11_read_156 : decode cX11_read 156 = .ok (.invokevirtual 110, 3) := by decide +kernel
theorem dX11_read_159 : decode cX11_read 159 = .ok (.aload_n 0, 1) := by decide +kernel
theorem dX11_read_160 : decode cX11_read 160 = .ok (.getfield 53, 3) := by decide +kernel
theorem dX11_read_163 : decode cX11_read 163 = .ok (.invokevirtual 113, 3) := by decide +kernel
theorem dX11_read_166 : decode cX11_read 166 = .ok (.aload_n 0, 1) := by decide +kernel
theorem dX11_read_167 : decode cX11_read 167 = .ok (.getfield 60, 3) := by decide +kernel
theorem dX11_read_170 : decode cX11_read 170 = .ok (.invokevirtual 116, 3) := by decide +kernel
theorem dX11_read_173 : decode cX11_read 173 = .ok (.aload_n 0, 1) := by decide +kernel
theorem dX11_read_174 : decode cX11_read 174 = .ok (.getfield 67, 3) := by decide +kernel
theorem dX11_read_177 : decode cX11_read 177 = .ok (.getfield 117, 3) := by decide +kernel
theorem dX11_read_180 : decode cX11_read 180 = .ok (.ireturn, 1) := by decide +kernel
theorem v_X11_read_0 {cs : Cs} {Q : Option AV → Mm → Prop} {MI ML : Nat → Nat → Int} {b d nw th x : Nat} {l1 : Int} (hbd : b = 38 ∨ b = 81) (hdd : d = 38 ∨ d = 81)
    (h : ((l1 < 0 → Q (some (vI 0)) (MI, ML, (GR d b nw th x))) ∧ (0 ≤ l1 → (((MI 0 10) < l1 → Q (some (vI 0)) (MI, ML, (GR d b nw th x))) ∧ (l1 ≤ (MI 0 10) → ∀ m16, m16 = up2 MI 0 10 0 → wp cs mX1_begin KD (rV (GR d b nw th 1) fun m28 n28 => wp cs mX3_begin KD (rV (GR d b nw th 1) fun m40 n40 => wp cs mX1_skipComments KD (rI (GR d b nw th 1) fun x47 m47 n47 => ((x47 = 0 → wp cs mX11_read KD Q 106 [some (vR 0), some (vI l1), none, none] [vI 0] (KD, m47, n47, (GR d b nw th 1))) ∧ (x47 ≠ 0 → wp cs mX2_readDoctype KD (rI (GR d b nw th 1) fun x61 m61 n61 => ((x61 = 0 → wp cs mX11_read KD Q 106 [some (vR 0), some (vI l1), none, none] [vI 0] (KD, m61, n61, (GR d b nw th 1))) ∧ (x61 ≠ 0 → wp cs mX10_readTree KD (rI (GR d b nw th 1) fun x75 m75 n75 => ((x75 = 0 → wp cs mX11_read KD Q 106 [some (vR 0), some (vI l1), none, none] [vI 0] (KD, m75, n75, (GR d b nw th 1))) ∧ (x75 ≠ 0 → wp cs mX1_skipComments KD (rI (GR d b nw th 1) fun x85 m85 n85 => ((x85 = 0 → wp cs mX11_read KD Q 106 [some (vR 0), some (vI l1), none, none] [vI 0] (KD, m85, n85, (GR d b nw th 1))) ∧ (x85 ≠ 0 → wp cs mX1_needEnd KD (rI (GR d b nw th 1) fun x95 m95 n95 => ((x95 = 0 → wp cs mX11_read KD Q 106 [some (vR 0), some (vI l1), none, none] [vI 0] (KD, m95, n95, (GR d b nw th 1))) ∧ (x95 ≠ 0 → wp cs mX11_read KD Q 106 [some (vR 0), some (vI l1), none, none] [vI 1] (KD, m95, n95, (GR d b nw th 1))))) 0 (padL [vR 2] 1) [] (KD, m85, n85, (GR d b nw th 1))))) 0 (padL [vR 2] 2) [] (KD, m75, n75, (GR d b nw th 1))))) 0 (padL [vR 10, vR b] 4) [] (KD, m61, n61, (GR d b nw th 1))))) 0 (padL [vR 4, vR b] 5) [] (KD, m47, n47, (GR d b nw th 1))))) 0 (padL [vR 2] 2) [] (KD, m40, n40, (GR d b nw th 1))) 0 (padL [vR b, vR 1, vI l1] 3) [] (KD, m28, n28, (GR d b nw th 1))) 0 (padL [vR 2, vR 1, vI l1] 3) [] (KD, m16, ML, (GR d b nw th x))))))) :
    wp cs mX11_read KD Q 0 (padL [vR 0, vI l1] 4) [] (KD, MI, ML, (GR d b nw th x)) := by
  refine wp_L (L' := [some (vR 0), some (vI l1), none, none]) rfl ?_
  refine wp_iload_n dX11_read_0 rfl rfl ?_
  refine wp_if_lt (tgt := 12) dX11_read_1 (by decide) (fun h1 => ?_) (fun h1 => ?_)
  · replace h := h.1 h1
    refine wp_iconst dX11_read_12 (by decide) ?_
    exact wp_iret dX11_read_13 rfl (fun _ => h)
  · replace h := h.2 h1
    refine wp_iload_n dX11_read_4 rfl rfl ?_
    refine wp_aload_n dX11_read_5 rfl rfl (by first | exact Or.inl (by decide) | exact Or.inl (by omega) | exact Or.inr (by decide) | exact Or.inr (by omega)) ?_
    refine wp_getI dX11_read_6 fX11_74 rfl (by decide) ?_
    refine wp_icmp_le (tgt := 14) dX11_read_9 (by decide) (fun h9 => ?_) (fun h9 => ?_)
    · replace h := h.2 h9
      refine wp_aload_n dX11_read_14 rfl rfl (by first | exact Or.inl (by decide) | exact Or.inl (by omega) | exact Or.inr (by decide) | exact Or.inr (by omega)) ?_
      refine wp_iconst dX11_read_15 (by decide) ?_
      refine wp_putI dX11_read_16 pX11_74 rfl (by decide) ?_
      refine wp_gI (fun m16 e16 => ?_)
      replace h := h m16 e16
      refine wp_aload_n dX11_read_19 rfl rfl (by first | exact Or.inl (by decide) | exact Or.inl (by omega) | exact Or.inr (by decide) | exact Or.inr (by omega)) ?_
      refine wp_getR dX11_read_20 fX11_16 rfl (by decide) ?_
      refine wp_topR (x' := 2) rfl ?_
      refine wp_aload_n dX11_read_23 rfl rfl (by first | exact Or.inl (by decide) | exact Or.inl (by omega) | exact Or.inr (by decide) | exact Or.inr (by omega)) ?_
      refine wp_getR dX11_read_24 fX11_9 rfl (by decide) ?_
      refine wp_topR (x' := 1) rfl ?_
      refine wp_pc (pc' := 27) rfl ?_
      refine wp_iload_n dX11_read_27 rfl rfl ?_
      refine wp_cVq (n := 2) (mt' := mX1_begin) (as := [vR 1, vI l1]) (rest := []) _ dX11_read_28 lX11_85 kX1_begin vX1_begin (by decide) (by decide +kernel) rfl (Nat.le_of_ble_eq_true rfl) (by decide) rfl rfl rfl (Nat.le_of_ble_eq_true rfl) (fun hM hS => h) (fun r M' hq hM => ?_)
      obtain ⟨m28, n28, rfl, rfl, h⟩ := rV_out hq
      refine wp_aload_n dX11_read_31 rfl rfl (by first | exact Or.inl (by decide) | exact Or.inl (by omega) | exact Or.inr (by decide) | exact Or.inr (by omega)) ?_
      refine wp_getR dX11_read_32 fX11_71 rfl (by decide) ?_
      refine wp_topR (x' := b) rfl ?_
      refine wp_aload_n dX11_read_35 rfl rfl (by first | exact Or.inl (by decide) | exact Or.inl (by omega) | exact Or.inr (by decide) | exact Or.inr (by omega)) ?_
      refine wp_getR dX11_read_36 fX11_9 rfl (by decide) ?_
      refine wp_topR (x' := 1) rfl ?_
      refine wp_iload_n dX11_read_39 rfl rfl ?_
      refine wp_cVq (n := 2) (mt' := mX3_begin) (as := [vR 1, vI l1]) (rest := []) _ dX11_read_40 lX11_89 kX3_begin vX3_begin (by decide) (by decide +kernel) rfl (Nat.le_of_ble_eq_true rfl) (by omega) (show KD[b]? = some (7, 19) from kdb_0 hbd) rfl rfl (Nat.le_of_ble_eq_true rfl) (fun hM hS => h) (fun r M' hq hM => ?_)
      obtain ⟨m40, n40, rfl, rfl, h⟩ := rV_out hq
      refine wp_aload_n dX11_read_43 rfl rfl (by first | exact Or.inl (by decide) | exact Or.inl (by omega) | exact Or.inr (by decide) | exact Or.inr (by omega)) ?_
      refine wp_getR dX11_read_44 fX11_16 rfl (by decide) ?_
      refine wp_topR (x' := 2) rfl ?_
      refine wp_cVq (n := 0) (mt' := mX1_skipComments) (as := []) (rest := []) _ dX11_read_47 lX11_90 kX1_skipComments vX1_skipComments (by decide) (by decide +kernel) rfl (Nat.le_of_ble_eq_true rfl) (by decide) rfl rfl rfl (Nat.le_of_ble_eq_true rfl) (fun hM hS => h) (fun r M' hq hM => ?_)
      obtain ⟨x47, m47, n47, rfl, rfl, h⟩ := rI_out hq
      refine wp_if_eq (tgt := 105) dX11_read_50 (by decide) (fun h50 => ?_) (fun h50 => ?_)
      · replace h := h.1 h50
        refine wp_iconst dX11_read_105 (by decide) ?_
        exact h
      · replace h := h.2 h50
        refine wp_aload_n dX11_read_53 rfl rfl (by first | exact Or.inl (by decide) | exact Or.inl (by omega) | exact Or.inr (by decide) | exact Or.inr (by omega)) ?_
        refine wp_getR dX11_read_54 fX11_25 rfl (by decide) ?_
        refine wp_topR (x' := 4) rfl ?_
        refine wp_aload_n dX11_read_57 rfl rfl (by first | exact Or.inl (by decide) | exact Or.inl (by omega) | exact Or.inr (by decide) | exact Or.inr (by omega)) ?_
        refine wp_getR dX11_read_58 fX11_71 rfl (by decide) ?_
        refine wp_topR (x' := b) rfl ?_
        refine wp_cVq (n := 1) (mt' := mX2_readDoctype) (as := [vR b]) (rest := []) _ dX11_read_61 lX11_94 kX2_readDoctype vX2_readDoctype (by decide) (by decide +kernel) rfl (Nat.le_of_ble_eq_true rfl) (by decide) rfl rfl rfl (Nat.le_of_ble_eq_true rfl) (fun hM hS => h) (fun r M' hq hM => ?_)
        obtain ⟨x61, m61, n61, rfl, rfl, h⟩ := rI_out hq
        refine wp_if_eq (tgt := 105) dX11_read_64 (by decide) (fun h64 => ?_) (fun h64 => ?_)
        · replace h := h.1 h64
          refine wp_iconst dX11_read_105 (by decide) ?_
          exact h
        · replace h := h.2 h64
          refine wp_aload_n dX11_read_67 rfl rfl (by first | exact Or.inl (by decide) | exact Or.inl (by omega) | exact Or.inr (by decide) | exact Or.inr (by omega)) ?_
          refine wp_getR dX11_read_68 fX11_32 rfl (by decide) ?_
          refine wp_topR (x' := 10) rfl ?_
          refine wp_aload_n dX11_read_71 rfl rfl (by first | exact Or.inl (by decide) | exact Or.inl (by omega) | exact Or.inr (by decide) | exact Or.inr (by omega)) ?_
          refine wp_getR dX11_read_72 fX11_71 rfl (by decide) ?_
          refine wp_topR (x' := b) rfl ?_
          refine wp_cVq (n := 1) (mt' := mX10_readTree) (as := [vR b]) (rest := []) _ dX11_read_75 lX11_98 kX10_readTree vX10_readTree (by decide) (by decide +kernel) rfl (Nat.le_of_ble_eq_true rfl) (by decide) rfl rfl rfl (Nat.le_of_ble_eq_true rfl) (fun hM hS => h) (fun r M' hq hM => ?_)
          obtain ⟨x75, m75, n75, rfl, rfl, h⟩ := rI_out hq
          refine wp_if_eq (tgt := 105) dX11_read_78 (by decide) (fun h78 => ?_) (fun h78 => ?_)
          · replace h := h.1 h78
            refine wp_iconst dX11_read_105 (by decide) ?_
            exact h
          · replace h := h.2 h78
            refine wp_aload_n dX11_read_81 rfl rfl (by first | exact Or.inl (by decide) | exact Or.inl (by omega) | exact Or.inr (by decide) | exact Or.inr (by omega)) ?_
            refine wp_getR dX11_read_82 fX11_16 rfl (by decide) ?_
            refine wp_topR (x' := 2) rfl ?_
            refine wp_cVq (n := 0) (mt' := mX1_skipComments) (as := []) (rest := []) _ dX11_read_85 lX11_90 kX1_skipComments vX1_skipComments (by decide) (by decide +kernel) rfl (Nat.le_of_ble_eq_true rfl) (by decide) rfl rfl rfl (Nat.le_of_ble_eq_true rfl) (fun hM hS => h) (fun r M' hq hM => ?_)
            obtain ⟨x85, m85, n85, rfl, rfl, h⟩ := rI_out hq
            refine wp_if_eq (tgt := 105) dX11_read_88 (by decide) (fun h88 => ?_) (fun h88 => ?_)
            · replace h := h.1 h88
              refine wp_iconst dX11_read_105 (by decide) ?_
              exact h
            · replace h := h.2 h88
              refine wp_aload_n dX11_read_91 rfl rfl (by first | exact Or.inl (by decide) | exact Or.inl (by omega) | exact Or.inr (by decide) | exact Or.inr (by omega)) ?_
              refine wp_getR dX11_read_92 fX11_16 rfl (by decide) ?_
              refine wp_topR (x' := 2) rfl ?_
              refine wp_cVq (n := 0) (mt' := mX1_needEnd) (as := []) (rest := []) _ dX11_read_95 lX11_101 kX1_needEnd vX1_needEnd (by decide) (by decide +kernel) rfl (Nat.le_of_ble_eq_true rfl) (by decide) rfl rfl rfl (Nat.le_of_ble_eq_true rfl) (fun hM hS => h) (fun r M' hq hM => ?_)
              obtain ⟨x95, m95, n95, rfl, rfl, h⟩ := rI_out hq
              refine wp_if_eq (tgt := 105) dX11_read_98 (by decide) (fun h98 => ?_) (fun h98 => ?_)
              · replace h := h.1 h98
                refine wp_iconst dX11_read_105 (by decide) ?_
                exact h
              · replace h := h.2 h98
                refine wp_iconst dX11_read_101 (by decide) ?_
                refine wp_goto (tgt := 106) dX11_read_102 (by decide) ?_
                exact h
    · replace h := h.1 h9
      refine wp_iconst dX11_read_12 (by decide) ?_
      exact wp_iret dX11_read_13 rfl (fun _ => h)
theorem v_X11_read_106 {cs : Cs} {Q : Option AV → Mm → Prop} {MI ML : Nat → Nat → Int} {b d nw th : Nat} {l1 s0 : Int} (hbd : b = 38 ∨ b = 81) (hdd : d = 38 ∨ d = 81)
    (h : ∀ m115, m115 = up2 MI 0 11 (MI 2 6) → ((s0 = 0 → Q (some (vI (m115 2 5))) (m115, ML, (GR d b nw th 1))) ∧ (s0 ≠ 0 → wp cs mX4_judge KD (rV (GR b d nw th 1) fun m156 n156 => wp cs mX8_forget KD (rV (GR b d nw th 1) fun m163 n163 => wp cs mX0_forget KD (rV (GR b d nw th 1) fun m170 n170 => Q (some (vI (m170 b 16))) (m170, n170, (GR b d nw th 1))) 0 (padL [vR 28] 1) [] (KD, m163, n163, (GR b d nw th 1))) 0 (padL [vR 23] 1) [] (KD, m156, n156, (GR b d nw th 1))) 0 (padL [vR 11, vR b] 3) [] (KD, m115, ML, (GR b d nw th 1))))) :
    wp cs mX11_read KD Q 106 [some (vR 0), some (vI l1), none, none] [vI s0] (KD, MI, ML, (GR d b nw th 1)) := by
  refine wp_istore_n dX11_read_106 rfl (by decide) (wp_L (L' := [some (vR 0), some (vI l1), some (vI s0), none]) rfl ?_)
  refine wp_aload_n dX11_read_107 rfl rfl (by first | exact Or.inl (by decide) | exact Or.inl (by omega) | exact Or.inr (by decide) | exact Or.inr (by omega)) ?_
  refine wp_aload_n dX11_read_108 rfl rfl (by first | exact Or.inl (by decide) | exact Or.inl (by omega) | exact Or.inr (by decide) | exact Or.inr (by omega)) ?_
  refine wp_getR dX11_read_109 fX11_16 rfl (by decide) ?_
  refine wp_topR (x' := 2) rfl ?_
  refine wp_getI dX11_read_112 fX11_104 rfl (by decide) ?_
  refine wp_putI dX11_read_115 pX11_78 rfl (by decide) ?_
  refine wp_gI (fun m115 e115 => ?_)
  replace h := h m115 e115
  refine wp_iload_n dX11_read_118 rfl rfl ?_
  refine wp_pc (pc' := 119) rfl ?_
  refine wp_if_ne (tgt := 130) dX11_read_119 (by decide) (fun h119 => ?_) (fun h119 => ?_)
  · replace h := h.2 h119
    refine wp_aload_n dX11_read_130 rfl rfl (by first | exact Or.inl (by decide) | exact Or.inl (by omega) | exact Or.inr (by decide) | exact Or.inr (by omega)) ?_
    refine wp_getR dX11_read_131 fX11_67 rfl (by decide) ?_
    refine wp_topR (x' := d) rfl ?_
    refine wp_astore_n dX11_read_134 rfl (by first | exact Or.inl (by decide) | exact Or.inl (by omega)) (by decide) (wp_L (L' := [some (vR 0), some (vI l1), some (vI s0), some (vR d)]) rfl ?_)
    refine wp_aload_n dX11_read_135 rfl rfl (by first | exact Or.inl (by decide) | exact Or.inl (by omega) | exact Or.inr (by decide) | exact Or.inr (by omega)) ?_
    refine wp_aload_n dX11_read_136 rfl rfl (by first | exact Or.inl (by decide) | exact Or.inl (by omega) | exact Or.inr (by decide) | exact Or.inr (by omega)) ?_
    refine wp_getR dX11_read_137 fX11_71 rfl (by decide) ?_
    refine wp_topR (x' := b) rfl ?_
    refine wp_putR dX11_read_140 pX11_67 (fun h => by first | rfl | cases h) rfl (by decide) (by first | exact Or.inl (by decide) | exact Or.inl (by omega)) (Or.inl ⟨_, rfl⟩) ?_
    refine wp_M (M' := (m115, ML, (GR b b nw th 1))) (by rw [gr_doc]) ?_
    refine wp_pc (pc' := 143) rfl ?_
    refine wp_aload_n dX11_read_143 rfl rfl (by first | exact Or.inl (by decide) | exact Or.inl (by omega) | exact Or.inr (by decide) | exact Or.inr (by omega)) ?_
    refine wp_aload_n dX11_read_144 rfl rfl (by first | exact Or.inl (by decide) | exact Or.inl (by omega) | exact Or.inr (by decide) | exact Or.inr (by omega)) ?_
    refine wp_putR dX11_read_145 pX11_71 (fun h => by first | rfl | cases h) rfl (by decide) (by first | exact Or.inl (by decide) | exact Or.inl (by omega)) (Or.inl ⟨_, rfl⟩) ?_
    refine wp_M (M' := (m115, ML, (GR b d nw th 1))) (by rw [gr_spare]) ?_
    refine wp_aload_n dX11_read_148 rfl rfl (by first | exact Or.inl (by decide) | exact Or.inl (by omega) | exact Or.inr (by decide) | exact Or.inr (by omega)) ?_
    refine wp_getR dX11_read_149 fX11_39 rfl (by decide) ?_
    refine wp_topR (x' := 11) rfl ?_
    refine wp_aload_n dX11_read_152 rfl rfl (by first | exact Or.inl (by decide) | exact Or.inl (by omega) | exact Or.inr (by decide) | exact Or.inr (by omega)) ?_
    refine wp_getR dX11_read_153 fX11_67 rfl (by decide) ?_
    refine wp_topR (x' := b) rfl ?_
    refine wp_cVq (n := 1) (mt' := mX4_judge) (as := [vR b]) (rest := []) _ dX11_read_156 lX11_110 kX4_judge vX4_judge (by decide) (by decide +kernel) rfl (Nat.le_of_ble_eq_true rfl) (by decide) rfl rfl rfl (Nat.le_of_ble_eq_true rfl) (fun hM hS => h) (fun r M' hq hM => ?_)
    obtain ⟨m156, n156, rfl, rfl, h⟩ := rV_out hq
    refine wp_aload_n dX11_read_159 rfl rfl (by first | exact Or.inl (by decide) | exact Or.inl (by omega) | exact Or.inr (by decide) | exact Or.inr (by omega)) ?_
    refine wp_getR dX11_read_160 fX11_53 rfl (by decide) ?_
    refine wp_topR (x' := 23) rfl ?_
    refine wp_cVq (n := 0) (mt' := mX8_forget) (as := []) (rest := []) _ dX11_read_163 lX11_113 kX8_forget vX8_forget (by decide) (by decide +kernel) rfl (Nat.le_of_ble_eq_true rfl) (by decide) rfl rfl rfl (Nat.le_of_ble_eq_true rfl) (fun hM hS => h) (fun r M' hq hM => ?_)
    obtain ⟨m163, n163, rfl, rfl, h⟩ := rV_out hq
    refine wp_aload_n dX11_read_166 rfl rfl (by first | exact Or.inl (by decide) | exact Or.inl (by omega) | exact Or.inr (by decide) | exact Or.inr (by omega)) ?_
    refine wp_getR dX11_read_167 fX11_60 rfl (by decide) ?_
    refine wp_topR (x' := 28) rfl ?_
    refine wp_cVq (n := 0) (mt' := mX0_forget) (as := []) (rest := []) _ dX11_read_170 lX11_116 kX0_forget vX0_forget (by decide) (by decide +kernel) rfl (Nat.le_of_ble_eq_true rfl) (by decide) rfl rfl rfl (Nat.le_of_ble_eq_true rfl) (fun hM hS => h) (fun r M' hq hM => ?_)
    obtain ⟨m170, n170, rfl, rfl, h⟩ := rV_out hq
    refine wp_aload_n dX11_read_173 rfl rfl (by first | exact Or.inl (by decide) | exact Or.inl (by omega) | exact Or.inr (by decide) | exact Or.inr (by omega)) ?_
    refine wp_getR dX11_read_174 fX11_67 rfl (by decide) ?_
    refine wp_topR (x' := b) rfl ?_
    refine wp_getI dX11_read_177 fX11_117 (show KD[b]? = some (7, 19) from kdb_0 hbd) (by omega) ?_
    exact wp_iret dX11_read_180 rfl (fun _ => h)
  · replace h := h.1 h119
    refine wp_aload_n dX11_read_122 rfl rfl (by first | exact Or.inl (by decide) | exact Or.inl (by omega) | exact Or.inr (by decide) | exact Or.inr (by omega)) ?_
    refine wp_getR dX11_read_123 fX11_16 rfl (by decide) ?_
    refine wp_topR (x' := 2) rfl ?_
    refine wp_getI dX11_read_126 fX11_107 rfl (by decide) ?_
    exact wp_iret dX11_read_129 rfl (fun _ => h)
theorem dX12_newNode_0 : decode cX12_newNode 0 = .ok (.aload_n 0, 1) := by decide +kernel
theorem dX12_newNode_1 : decode cX12_newNode 1 = .ok (.invokevirtual 289, 3) := by decide +kernel
theorem dX12_newNode_4 : decode cX12_newNode 4 = .ok (.ifCond .eq 25, 3) := by decide +kernel
theorem dX12_newNode_7 : decode cX12_newNode 7 = .ok (.aload_n 0, 1) := by decide +kernel
theorem dX12_newNode_8 : decode cX12_newNode 8 = .ok (.getfield 27, 3) := by decide +kernel
theorem dX12_newNode_11 : decode cX12_newNode 11 = .ok (.aload_n 0, 1) := by decide +kernel
theorem dX12_newNode_12 : decode cX12_newNode 12 = .ok (.getfield 328, 3) := by decide +kernel
theorem dX12_newNode_15 : decode cX12_newNode 15 = .ok (.iaload, 1) := by decide +kernel
theorem dX12_newNode_16 : decode cX12_newNode 16 = .ok (.sipush 600, 3) := by decide +kernel
theorem dX12_newNode_19 : decode cX12_newNode 19 = .ok (.if_icmp .ne 10, 3) := by decide +kernel
theorem dX12_newNode_22 : decode cX12_newNode 22 = .ok (.aload_n 0, 1) := by decide +kernel
theorem dX12_newNode_23 : decode cX12_newNode 23 = .ok (.bipush (-3), 2) := by decide +kernel
theorem dX12_newNode_25 : decode cX12_newNode 25 = .ok (.iload_n 2, 1) := by decide +kernel
theorem dX12_newNode_26 : decode cX12_newNode 26 = .ok (.invokevirtual 293, 3) := by decide +kernel
theorem dX12_newNode_29 : decode cX12_newNode 29 = .ok (.aload_n 0, 1) := by decide +kernel
theorem dX12_newNode_30 : decode cX12_newNode 30 = .ok (.invokevirtual 289, 3) := by decide +kernel
theorem dX12_newNode_33 : decode cX12_newNode 33 = .ok (.ifCond .ne 5, 3) := by decide +kernel
theorem dX12_newNode_36 : decode cX12_newNode 36 = .ok (.iconst (-1), 1) := by decide +kernel
theorem dX12_newNode_37 : decode cX12_newNode 37 = .ok (.ireturn, 1) := by decide +kernel
theorem dX12_newNode_38 : decode cX12_newNode 38 = .ok (.sipush 600, 3) := by decide +kernel
theorem dX12_newNode_41 : decode cX12_newNode 41 = .ok (.aload_n 0, 1) := by decide +kernel
theorem dX12_newNode_42 : decode cX12_newNode 42 = .ok (.getfield 328, 3) := by decide +kernel
theorem dX12_newNode_45 : decode cX12_newNode 45 = .ok (.imul, 1) := by decide +kernel
theorem dX12_newNode_46 : decode cX12_newNode 46 = .ok (.aload_n 0, 1) := by decide +kernel
theorem dX12_newNode_47 : decode cX12_newNode 47 = .ok (.getfield 27, 3) := by decide +kernel
theorem dX12_newNode_50 : decode cX12_newNode 50 = .ok (.aload_n 0, 1) := by decide +kernel
theorem dX12_newNode_51 : decode cX12_newNode 51 = .ok (.getfield 328, 3) := by decide +kernel
theorem dX12_newNode_54 : decode cX12_newNode 54 = .ok (.iaload, 1) := by decide +kernel
theorem dX12_newNode_55 : decode cX12_newNode 55 = .ok (.iadd, 1) := by decide +kernel
theorem dX12_newNode_56 : decode cX12_newNode 56 = .ok (.istore_n 3, 1) := by decide +kernel
theorem dX12_newNode_57 : decode cX12_newNode 57 = .ok (.aload_n 0, 1) := by decide +kernel
theorem dX12_newNode_58 : decode cX12_newNode 58 = .ok (.getfield 31, 3) := by decide +kernel
theorem dX12_newNode_61 : decode cX12_newNode 61 = .ok (.iload_n 3, 1) := by decide +kernel
theorem dX12_newNode_62 : decode cX12_newNode 62 = .ok (.iload_n 1, 1) := by decide +kernel
theorem dX12_newNode_63 : decode cX12_newNode 63 = .ok (.iastore, 1) := by decide +kernel
theorem dX12_newNode_64 : decode cX12_newNode 64 = .ok (.aload_n 0, 1) := by decide +kernel
theorem dX12_newNode_65 : decode cX12_newNode 65 = .ok (.getfield 34, 3) := by decide +kernel
theorem dX12_newNode_68 : decode cX12_newNode 68 = .ok (.iload_n 3, 1) := by decide +kernel
theorem dX12_newNode_69 : decode cX12_newNode 69 = .ok (.aload_n 0, 1) := by decide +kernel
theorem dX12_newNode_70 : decode cX12_newNode 70 = .ok (.getfield 443, 3) := by decide +kernel
theorem dX12_newNode_73 : decode cX12_newNode 73 = .ok (.ifCond .ne 15, 3) := by decide +kernel
theorem dX12_newNode_76 : decode cX12_newNode 76 = .ok (.iload_n 1, 1) := by decide +kernel
theorem dX12_newNode_77 : decode cX12_newNode 77 = .ok (.ifCond .ne 7, 3) := by decide +kernel
theorem dX12_newNode_80 : decode cX12_newNode 80 = .ok (.iconst (-1), 1) := by decide +kernel
theorem dX12_newNode_81 : decode cX12_newNode 81 = .ok (.goto 18, 3) := by decide +kernel
theorem dX12_newNode_84 : decode cX12_newNode 84 = .ok (.iconst 0, 1) := by decide +kernel
theorem dX12_newNode_85 : decode cX12_newNode 85 = .ok (.goto 14, 3) := by decide +kernel
theorem dX12_newNode_88 : decode cX12_newNode 88 = .ok (.aload_n 0, 1) := by decide +kernel
theorem dX12_newNode_89 : decode cX12_newNode 89 = .ok (.getfield 161, 3) := by decide +kernel
theorem dX12_newNode_92 : decode cX12_newNode 92 = .ok (.aload_n 0, 1) := by decide +kernel
theorem dX12_newNode_93 : decode cX12_newNode 93 = .ok (.getfield 443, 3) := by decide +kernel
theorem dX12_newNode_96 : decode cX12_newNode 96 = .ok (.iconst 1, 1) := by decide +kernel
theorem dX12_newNode_97 : decode cX12_newNode 97 = .ok (.isub, 1) := by decide +kernel
theorem dX12_newNode_98 : decode cX12_newNode 98 = .ok (.iaload, 1) := by decide +kernel
theorem dX12_newNode_99 : decode cX12_newNode 99 = .ok (.iastore, 1) := by decide +kernel
theorem dX12_newNode_100 : decode cX12_newNode 100 = .ok (.aload_n 0, 1) := by decide +kernel
theorem dX12_newNode_101 : decode cX12_newNode 101 = .ok (.getfield 37, 3) := by decide +kernel
theorem dX12_newNode_104 : decode cX12_newNode 104 = .ok (.iload_n 3, 1) := by decide +kernel
theorem dX12_newNode_105 : decode cX12_newNode 105 = .ok (.iconst 0, 1) := by decide +kernel
theorem dX12_newNode_106 : decode cX12_newNode 106 = .ok (.iastore, 1) := by decide +kernel
theorem dX12_newNode_107 : decode cX12_newNode 107 = .ok (.aload_n 0, 1) := by decide +kernel
theorem dX12_newNode_108 : decode cX12_newNode 108 = .ok (.getfield 40, 3) := by decide +kernel
theorem dX12_newNode_111 : decode cX12_newNode 111 = .ok (.iload_n 3, 1) := by decide +kernel
theorem dX12_newNode_112 : decode cX12_newNode 112 = .ok (.iconst 0, 1) := by decide +kernel
theorem dX12_newNode_113 : decode cX12_newNode 113 = .ok (.iastore, 1) := by decide +kernel
theorem dX12_newNode_114 : decode cX12_newNode 114 = .ok (.aload_n 0, 1) := by decide +kernel
theorem dX12_newNode_115 : decode cX12_newNode 115 = .ok (.getfield 43, 3) := by decide +kernel
theorem dX12_newNode_118 : decode cX12_newNode 118 = .ok (.iload_n 3, 1) := by decide +kernel
theorem dX12_newNode_119 : decode cX12_newNode 119 = .ok (.iconst 0, 1) := by decide +kernel
theorem dX12_newNode_120 : decode cX12_newNode 120 = .ok (.iastore, 1) := by decide +kernel
theorem dX12_newNode_121 : decode cX12_newNode 121 = .ok (.aload_n 0, 1) := by decide +kernel
theorem dX12_newNode_122 : decode cX12_newNode 122 = .ok (.getfield 46, 3) := by decide +kernel
theorem dX12_newNode_125 : decode cX12_newNode 125 = .ok (.iload_n 3, 1) := by decide +kernel
theorem dX12_newNode_126 : decode cX12_newNode 126 = .ok (.iconst 0, 1) := by decide +kernel
theorem dX12_newNode_127 : decode cX12_newNode 127 = .ok (.iastore, 1) := by decide +kernel
theorem dX12_newNode_128 : decode cX12_newNode 128 = .ok (.aload_n 0, 1) := by decide +kernel
theorem dX12_newNode_129 : decode cX12_newNode 129 = .ok (.getfield 49, 3) := by decide +kernel
theorem dX12_newNode_132 : decode cX12_newNode 132 = .ok (.iload_n 3, 1) := by decide +kernel
theorem dX12_newNode_133 : decode cX12_newNode 133 = .ok (.iconst 0, 1) := by decide +kernel
theorem dX12_newNode_134 : decode cX12_newNode 134 = .ok (.bastore, 1) := by decide +kernel
theorem dX12_newNode_135 : decode cX12_newNode 135 = .ok (.aload_n 0, 1) := by decide +kernel
theorem dX12_newNode_136 : decode cX12_newNode 136 = .ok (.getfield 52, 3) := by decide +kernel
theorem dX12_newNode_139 : decode cX12_newNode 139 = .ok (.iload_n 3, 1) := by decide +kernel
theorem dX12_newNode_140 : decode cX12_newNode 140 = .ok (.iconst 1, 1) := by decide +kernel
theorem dX12_newNode_141 : decode cX12_newNode 141 = .ok (.bastore, 1) := by decide +kernel
theorem dX12_newNode_142 : decode cX12_newNode 142 = .ok (.aload_n 0, 1) := by decide +kernel
theorem dX12_newNode_143 : decode cX12_newNode 143 = .ok (.getfield 27, 3) := by decide +kernel
theorem dX12_newNode_146 : decode cX12_newNode 146 = .ok (.aload_n 0, 1) := by decide +kernel
theorem dX12_newNode_147 : decode cX12_newNode 147 = .ok (.getfield 328, 3) := by decide +kernel
theorem dX12_newNode_150 : decode cX12_newNode 150 = .ok (.dup2, 1) := by decide +kernel
theorem dX12_newNode_151 : decode cX12_newNode 151 = .ok (.iaload, 1) := by decide +kernel
theorem dX12_newNode_152 : decode cX12_newNode 152 = .ok (.iconst 1, 1) := by decide +kernel
theorem dX12_newNode_153 : decode cX12_newNode 153 = .ok (.iadd, 1) := by decide +kernel
theorem dX12_newNode_154 : decode cX12_newNode 154 = .ok (.iastore, 1) := by decide +kernel
theorem dX12_newNode_155 : decode cX12_newNode 155 = .ok (.aload_n 0, 1) := by decide +kernel
theorem dX12_newNode_156 : decode cX12_newNode 156 = .ok (.getfield 27, 3) := by decide +kernel
theorem dX12_newNode_159 : decode cX12_newNode 159 = .ok (.aload_n 0, 1) := by decide +kernel
theorem dX12_newNode_160 : decode cX12_newNode 160 = .ok (.getfield 328, 3) := by decide +kernel
theorem dX12_newNode_163 : decode cX12_newNode 163 = .ok (.iaload, 1) := by decide +kernel
theorem dX12_newNode_164 : decode cX12_newNode 164 = .ok (.iconst 1, 1) := by decide +kernel
theorem dX12_newNode_165 : decode cX12_newNode 165 = .ok (.isub, 1) := by decide +kernel
theorem dX12_newNode_166 : decode cX12_newNode 166 = .ok (.ireturn, 1) := by decide +kernel
theorem v_X12_newNode_0 {cs : Cs} {Q : Option AV → Mm → Prop} {MI ML : Nat → Nat → Int} {d e nw th x : Nat} {l1 l2 : Int}
    (h : wp cs mX12_isGood KD (rI (GR d e nw th x) fun x1 m1 n1 => ((x1 = 0 → wp cs mX12_newNode KD Q 29 [some (vR 124), some (vI l1), some (vI l2), none] [] (KD, m1, n1, (GR d e nw th x))) ∧ (x1 ≠ 0 → (0 ≤ (m1 124 8) ∧ (m1 124 8) < 2) ∧ (((m1 129 (m1 124 8).toNat) = 600 → wp cs mX12_fail KD (rV (GR d e nw th x) fun m26 n26 => wp cs mX12_newNode KD Q 29 [some (vR 124), some (vI l1), some (vI l2), none] [] (KD, m26, n26, (GR d e nw th x))) 0 (padL [vR 124, vI (-3), vI l2] 3) [] (KD, m1, n1, (GR d e nw th x))) ∧ ((m1 129 (m1 124 8).toNat) ≠ 600 → wp cs mX12_newNode KD Q 29 [some (vR 124), some (vI l1), some (vI l2), none] [] (KD, m1, n1, (GR d e nw th x))))))) 0 (padL [vR 124] 1) [] (KD, MI, ML, (GR d e nw th x))) :
    wp cs mX12_newNode KD Q 0 (padL [vR 124, vI l1, vI l2] 4) [] (KD, MI, ML, (GR d e nw th x)) := by
  refine wp_L (L' := [some (vR 124), some (vI l1), some (vI l2), none]) rfl ?_
  refine wp_aload_n dX12_newNode_0 rfl rfl (by first | exact Or.inl (by decide) | exact Or.inl (by omega) | exact Or.inr (by decide) | exact Or.inr (by omega)) ?_
  refine wp_cVq (n := 0) (mt' := mX12_isGood) (as := []) (rest := []) _ dX12_newNode_1 lX12_289 kX12_isGood vX12_isGood (by decide) (by decide +kernel) rfl (Nat.le_of_ble_eq_true rfl) (by decide) rfl rfl rfl (Nat.le_of_ble_eq_true rfl) (fun hM hS => h) (fun r M' hq hM => ?_)
  obtain ⟨x1, m1, n1, rfl, rfl, h⟩ := rI_out hq
  refine wp_if_eq (tgt := 29) dX12_newNode_4 (by decide) (fun h4 => ?_) (fun h4 => ?_)
  · replace h := h.1 h4
    exact h
  · replace h := h.2 h4
    refine wp_aload_n dX12_newNode_7 rfl rfl (by first | exact Or.inl (by decide) | exact Or.inl (by omega) | exact Or.inr (by decide) | exact Or.inr (by omega)) ?_
    refine wp_getR dX12_newNode_8 fX12_27 rfl (by decide) ?_
    refine wp_topR (x' := 129) rfl ?_
    refine wp_aload_n dX12_newNode_11 rfl rfl (by first | exact Or.inl (by decide) | exact Or.inl (by omega) | exact Or.inr (by decide) | exact Or.inr (by omega)) ?_
    refine wp_getI dX12_newNode_12 fX12_328 rfl (by decide) ?_
    have c0 := h.1
    replace h := h.2
    refine wp_iald dX12_newNode_15 rfl (by decide) c0 ?_
    refine wp_sipush dX12_newNode_16 (by decide +kernel) (by decide) ?_
    refine wp_icmp_ne (tgt := 29) dX12_newNode_19 (by decide) (fun h19 => ?_) (fun h19 => ?_)
    · replace h := h.2 h19
      exact h
    · replace h := h.1 h19
      refine wp_aload_n dX12_newNode_22 rfl rfl (by first | exact Or.inl (by decide) | exact Or.inl (by omega) | exact Or.inr (by decide) | exact Or.inr (by omega)) ?_
      refine wp_bipush dX12_newNode_23 (by decide +kernel) (by decide) ?_
      refine wp_iload_n dX12_newNode_25 rfl rfl ?_
      refine wp_cVq (n := 2) (mt' := mX12_fail) (as := [vI (-3), vI l2]) (rest := []) _ dX12_newNode_26 lX12_293 kX12_fail vX12_fail (by decide) (by decide +kernel) rfl (Nat.le_of_ble_eq_true rfl) (by decide) rfl rfl rfl (Nat.le_of_ble_eq_true rfl) (fun hM hS => h) (fun r M' hq hM => ?_)
      obtain ⟨m26, n26, rfl, rfl, h⟩ := rV_out hq
      exact h
theorem v_X12_newNode_29 {cs : Cs} {Q : Option AV → Mm → Prop} {MI ML : Nat → Nat → Int} {d e nw th x : Nat} {l1 l2 : Int}
    (h : wp cs mX12_isGood KD (rI (GR d e nw th x) fun x30 m30 n30 => ((x30 = 0 → Q (some (vI (-1))) (m30, n30, (GR d e nw th x))) ∧ (x30 ≠ 0 → (-2147483648 ≤ 600 * (m30 124 8) ∧ 600 * (m30 124 8) < 2147483648) ∧ (0 ≤ (m30 124 8) ∧ (m30 124 8) < 2) ∧ (-2147483648 ≤ (600 * (m30 124 8)) + (m30 129 (m30 124 8).toNat) ∧ (600 * (m30 124 8)) + (m30 129 (m30 124 8).toNat) < 2147483648) ∧ (0 ≤ ((600 * (m30 124 8)) + (m30 129 (m30 124 8).toNat)) ∧ ((600 * (m30 124 8)) + (m30 129 (m30 124 8).toNat)) < 1200) ∧ ∀ m63, m63 = up2 m30 130 ((600 * (m30 124 8)) + (m30 129 (m30 124 8).toNat)).toNat l1 → (((m63 124 64) = 0 → ((l1 = 0 → wp cs mX12_newNode KD Q 99 [some (vR 124), some (vI l1), some (vI l2), some (vI ((600 * (m30 124 8)) + (m30 129 (m30 124 8).toNat)))] [vI (-1), vI ((600 * (m30 124 8)) + (m30 129 (m30 124 8).toNat)), vR 131] (KD, m63, n30, (GR d e nw th x))) ∧ (l1 ≠ 0 → wp cs mX12_newNode KD Q 99 [some (vR 124), some (vI l1), some (vI l2), some (vI ((600 * (m30 124 8)) + (m30 129 (m30 124 8).toNat)))] [vI 0, vI ((600 * (m30 124 8)) + (m30 129 (m30 124 8).toNat)), vR 131] (KD, m63, n30, (GR d e nw th x))))) ∧ ((m63 124 64) ≠ 0 → (-2147483648 ≤ (m63 124 64) - 1 ∧ (m63 124 64) - 1 < 2147483648) ∧ (0 ≤ ((m63 124 64) - 1) ∧ ((m63 124 64) - 1) < 31) ∧ wp cs mX12_newNode KD Q 99 [some (vR 124), some (vI l1), some (vI l2), some (vI ((600 * (m30 124 8)) + (m30 129 (m30 124 8).toNat)))] [vI (m63 173 ((m63 124 64) - 1).toNat), vI ((600 * (m30 124 8)) + (m30 129 (m30 124 8).toNat)), vR 131] (KD, m63, n30, (GR d e nw th x))))))) 0 (padL [vR 124] 1) [] (KD, MI, ML, (GR d e nw th x))) :
    wp cs mX12_newNode KD Q 29 [some (vR 124), some (vI l1), some (vI l2), none] [] (KD, MI, ML, (GR d e nw th x)) := by
  refine wp_aload_n dX12_newNode_29 rfl rfl (by first | exact Or.inl (by decide) | exact Or.inl (by omega) | exact Or.inr (by decide) | exact Or.inr (by omega)) ?_
  refine wp_cVq (n := 0) (mt' := mX12_isGood) (as := []) (rest := []) _ dX12_newNode_30 lX12_289 kX12_isGood vX12_isGood (by decide) (by decide +kernel) rfl (Nat.le_of_ble_eq_true rfl) (by decide) rfl rfl rfl (Nat.le_of_ble_eq_true rfl) (fun hM hS => h) (fun r M' hq hM => ?_)
  obtain ⟨x30, m30, n30, rfl, rfl, h⟩ := rI_out hq
  refine wp_if_ne (tgt := 38) dX12_newNode_33 (by decide) (fun h33 => ?_) (fun h33 => ?_)
  · replace h := h.2 h33
    refine wp_sipush dX12_newNode_38 (by decide +kernel) (by decide) ?_
    refine wp_aload_n dX12_newNode_41 rfl rfl (by first | exact Or.inl (by decide) | exact Or.inl (by omega) | exact Or.inr (by decide) | exact Or.inr (by omega)) ?_
    refine wp_getI dX12_newNode_42 fX12_328 rfl (by decide) ?_
    have c0 := h.1
    replace h := h.2
    refine wp_imulr dX12_newNode_45 c0 ?_
    refine wp_aload_n dX12_newNode_46 rfl rfl (by first | exact Or.inl (by decide) | exact Or.inl (by omega) | exact Or.inr (by decide) | exact Or.inr (by omega)) ?_
    refine wp_getR dX12_newNode_47 fX12_27 rfl (by decide) ?_
    refine wp_topR (x' := 129) rfl ?_
    refine wp_aload_n dX12_newNode_50 rfl rfl (by first | exact Or.inl (by decide) | exact Or.inl (by omega) | exact Or.inr (by decide) | exact Or.inr (by omega)) ?_
    refine wp_pc (pc' := 51) rfl ?_
    refine wp_getI dX12_newNode_51 fX12_328 rfl (by decide) ?_
    have c1 := h.1
    replace h := h.2
    refine wp_iald dX12_newNode_54 rfl (by decide) c1 ?_
    have c2 := h.1
    replace h := h.2
    refine wp_iaddr dX12_newNode_55 c2 ?_
    refine wp_istore_n dX12_newNode_56 rfl (by decide) (wp_L (L' := [some (vR 124), some (vI l1), some (vI l2), some (vI ((600 * (m30 124 8)) + (m30 129 (m30 124 8).toNat)))]) rfl ?_)
    refine wp_aload_n dX12_newNode_57 rfl rfl (by first | exact Or.inl (by decide) | exact Or.inl (by omega) | exact Or.inr (by decide) | exact Or.inr (by omega)) ?_
    refine wp_getR dX12_newNode_58 fX12_31 rfl (by decide) ?_
    refine wp_topR (x' := 130) rfl ?_
    refine wp_iload_n dX12_newNode_61 rfl rfl ?_
    refine wp_iload_n dX12_newNode_62 rfl rfl ?_
    refine wp_pc (pc' := 63) rfl ?_
    have c3 := h.1
    replace h := h.2
    refine wp_iast dX12_newNode_63 rfl (by decide) c3 ?_
    refine wp_gI (fun m63 e63 => ?_)
    replace h := h m63 e63
    refine wp_aload_n dX12_newNode_64 rfl rfl (by first | exact Or.inl (by decide) | exact Or.inl (by omega) | exact Or.inr (by decide) | exact Or.inr (by omega)) ?_
    refine wp_getR dX12_newNode_65 fX12_34 rfl (by decide) ?_
    refine wp_topR (x' := 131) rfl ?_
    refine wp_iload_n dX12_newNode_68 rfl rfl ?_
    refine wp_aload_n dX12_newNode_69 rfl rfl (by first | exact Or.inl (by decide) | exact Or.inl (by omega) | exact Or.inr (by decide) | exact Or.inr (by omega)) ?_
    refine wp_getI dX12_newNode_70 fX12_443 rfl (by decide) ?_
    refine wp_if_ne (tgt := 88) dX12_newNode_73 (by decide) (fun h73 => ?_) (fun h73 => ?_)
    · replace h := h.2 h73
      refine wp_aload_n dX12_newNode_88 rfl rfl (by first | exact Or.inl (by decide) | exact Or.inl (by omega) | exact Or.inr (by decide) | exact Or.inr (by omega)) ?_
      refine wp_getR dX12_newNode_89 fX12_161 rfl (by decide) ?_
      refine wp_topR (x' := 173) rfl ?_
      refine wp_aload_n dX12_newNode_92 rfl rfl (by first | exact Or.inl (by decide) | exact Or.inl (by omega) | exact Or.inr (by decide) | exact Or.inr (by omega)) ?_
      refine wp_getI dX12_newNode_93 fX12_443 rfl (by decide) ?_
      refine wp_iconst dX12_newNode_96 (by decide) ?_
      have c4 := h.1
      replace h := h.2
      refine wp_isubr dX12_newNode_97 c4 ?_
      have c5 := h.1
      replace h := h.2
      refine wp_iald dX12_newNode_98 rfl (by decide) c5 ?_
      exact h
    · replace h := h.1 h73
      refine wp_iload_n dX12_newNode_76 rfl rfl ?_
      refine wp_if_ne (tgt := 84) dX12_newNode_77 (by decide) (fun h77 => ?_) (fun h77 => ?_)
      · replace h := h.2 h77
        refine wp_iconst dX12_newNode_84 (by decide) ?_
        refine wp_goto (tgt := 99) dX12_newNode_85 (by decide) ?_
        exact h
      · replace h := h.1 h77
        refine wp_iconst dX12_newNode_80 (by decide) ?_
        refine wp_goto (tgt := 99) dX12_newNode_81 (by decide) ?_
        exact h
  · replace h := h.1 h33
    refine wp_iconst dX12_newNode_36 (by decide) ?_
    exact wp_iret dX12_newNode_37 rfl (fun _ => h)
theorem v_X12_newNode_99 {cs : Cs} {Q : Option AV → Mm → Prop} {MI ML : Nat → Nat → Int} {d e nw th x : Nat} {l1 l2 l3 s0 s1 : Int}
    (h : (0 ≤ s1 ∧ s1 < 1200) ∧ ∀ m99, m99 = up2 MI 131 s1.toNat s0 → (0 ≤ l3 ∧ l3 < 1200) ∧ ∀ m106, m106 = up2 m99 132 l3.toNat 0 → ∀ m113, m113 = up2 m106 133 l3.toNat 0 → ∀ m120, m120 = up2 m113 134 l3.toNat 0 → ∀ m127, m127 = up2 m120 135 l3.toNat 0 → ∀ m134, m134 = up2 m127 136 l3.toNat 0 → ∀ m141, m141 = up2 m134 137 l3.toNat 1 → (0 ≤ (m141 124 8) ∧ (m141 124 8) < 2) ∧ (-2147483648 ≤ (m141 129 (m141 124 8).toNat) + 1 ∧ (m141 129 (m141 124 8).toNat) + 1 < 2147483648) ∧ ∀ m154, m154 = up2 m141 129 (m141 124 8).toNat ((m141 129 (m141 124 8).toNat) + 1) → (0 ≤ (m154 124 8) ∧ (m154 124 8) < 2) ∧ (-2147483648 ≤ (m154 129 (m154 124 8).toNat) - 1 ∧ (m154 129 (m154 124 8).toNat) - 1 < 2147483648) ∧ Q (some (vI ((m154 129 (m154 124 8).toNat) - 1))) (m154, ML, (GR d e nw th x))) :
    wp cs mX12_newNode KD Q 99 [some (vR 124), some (vI l1), some (vI l2), some (vI l3)] [vI s0, vI s1, vR 131] (KD, MI, ML, (GR d e nw th x)) := by
  have c0 := h.1
  replace h := h.2
  refine wp_iast dX12_newNode_99 rfl (by decide) c0 ?_
  refine wp_gI (fun m99 e99 => ?_)
  replace h := h m99 e99
  refine wp_aload_n dX12_newNode_100 rfl rfl (by first | exact Or.inl (by decide) | exact Or.inl (by omega) | exact Or.inr (by decide) | exact Or.inr (by omega)) ?_
  refine wp_getR dX12_newNode_101 fX12_37 rfl (by decide) ?_
  refine wp_topR (x' := 132) rfl ?_
  refine wp_iload_n dX12_newNode_104 rfl rfl ?_
  refine wp_iconst dX12_newNode_105 (by decide) ?_
  have c1 := h.1
  replace h := h.2
  refine wp_iast dX12_newNode_106 rfl (by decide) c1 ?_
  refine wp_gI (fun m106 e106 => ?_)
  replace h := h m106 e106
  refine wp_aload_n dX12_newNode_107 rfl rfl (by first | exact Or.inl (by decide) | exact Or.inl (by omega) | exact Or.inr (by decide) | exact Or.inr (by omega)) ?_
  refine wp_pc (pc' := 108) rfl ?_
  refine wp_getR dX12_newNode_108 fX12_40 rfl (by decide) ?_
  refine wp_topR (x' := 133) rfl ?_
  refine wp_iload_n dX12_newNode_111 rfl rfl ?_
  refine wp_iconst dX12_newNode_112 (by decide) ?_
  refine wp_iast dX12_newNode_113 rfl (by decide) c1 ?_
  refine wp_gI (fun m113 e113 => ?_)
  replace h := h m113 e113
  refine wp_aload_n dX12_newNode_114 rfl rfl (by first | exact Or.inl (by decide) | exact Or.inl (by omega) | exact Or.inr (by decide) | exact Or.inr (by omega)) ?_
  refine wp_getR dX12_newNode_115 fX12_43 rfl (by decide) ?_
  refine wp_topR (x' := 134) rfl ?_
  refine wp_iload_n dX12_newNode_118 rfl rfl ?_
  refine wp_iconst dX12_newNode_119 (by decide) ?_
  refine wp_pc (pc' := 120) rfl ?_
  refine wp_iast dX12_newNode_120 rfl (by decide) c1 ?_
  refine wp_gI (fun m120 e120 => ?_)
  replace h := h m120 e120
  refine wp_aload_n dX12_newNode_121 rfl rfl (by first | exact Or.inl (by decide) | exact Or.inl (by omega) | exact Or.inr (by decide) | exact Or.inr (by omega)) ?_
  refine wp_getR dX12_newNode_122 fX12_46 rfl (by decide) ?_
  refine wp_topR (x' := 135) rfl ?_
  refine wp_iload_n dX12_newNode_125 rfl rfl ?_
  refine wp_iconst dX12_newNode_126 (by decide) ?_
  refine wp_iast dX12_newNode_127 rfl (by decide) c1 ?_
  refine wp_gI (fun m127 e127 => ?_)
  replace h := h m127 e127
  refine wp_aload_n dX12_newNode_128 rfl rfl (by first | exact Or.inl (by decide) | exact Or.inl (by omega) | exact Or.inr (by decide) | exact Or.inr (by omega)) ?_
  refine wp_getR dX12_newNode_129 fX12_49 rfl (by decide) ?_
  refine wp_topR (x' := 136) rfl ?_
  refine wp_pc (pc' := 132) rfl ?_
  refine wp_iload_n dX12_newNode_132 rfl rfl ?_
  refine wp_iconst dX12_newNode_133 (by decide) ?_
  refine wp_zast dX12_newNode_134 rfl (by decide) c1 (by decide) ?_
  refine wp_gI (fun m134 e134 => ?_)
  replace h := h m134 e134
  refine wp_aload_n dX12_newNode_135 rfl rfl (by first | exact Or.inl (by decide) | exact Or.inl (by omega) | exact Or.inr (by decide) | exact Or.inr (by omega)) ?_
  refine wp_getR dX12_newNode_136 fX12_52 rfl (by decide) ?_
  refine wp_topR (x' := 137) rfl ?_
  refine wp_iload_n dX12_newNode_139 rfl rfl ?_
  refine wp_iconst dX12_newNode_140 (by decide) ?_
  refine wp_zast dX12_newNode_141 rfl (by decide) c1 (by decide) ?_
  refine wp_gI (fun m141 e141 => ?_)
  replace h := h m141 e141
  refine wp_pc (pc' := 142) rfl ?_
  refine wp_aload_n dX12_newNode_142 rfl rfl (by first | exact Or.inl (by decide) | exact Or.inl (by omega) | exact Or.inr (by decide) | exact Or.inr (by omega)) ?_
  refine wp_getR dX12_newNode_143 fX12_27 rfl (by decide) ?_
  refine wp_topR (x' := 129) rfl ?_
  refine wp_aload_n dX12_newNode_146 rfl rfl (by first | exact Or.inl (by decide) | exact Or.inl (by omega) | exact Or.inr (by decide) | exact Or.inr (by omega)) ?_
  refine wp_getI dX12_newNode_147 fX12_328 rfl (by decide) ?_
  refine wp_dup2 dX12_newNode_150 (fun x e => by cases e) (fun x e => by cases e) ?_
  have c2 := h.1
  replace h := h.2
  refine wp_iald dX12_newNode_151 rfl (by decide) c2 ?_
  refine wp_iconst dX12_newNode_152 (by decide) ?_
  have c3 := h.1
  replace h := h.2
  refine wp_iaddr dX12_newNode_153 c3 ?_
  refine wp_pc (pc' := 154) rfl ?_
  refine wp_iast dX12_newNode_154 rfl (by decide) c2 ?_
  refine wp_gI (fun m154 e154 => ?_)
  replace h := h m154 e154
  refine wp_aload_n dX12_newNode_155 rfl rfl (by first | exact Or.inl (by decide) | exact Or.inl (by omega) | exact Or.inr (by decide) | exact Or.inr (by omega)) ?_
  refine wp_getR dX12_newNode_156 fX12_27 rfl (by decide) ?_
  refine wp_topR (x' := 129) rfl ?_
  refine wp_aload_n dX12_newNode_159 rfl rfl (by first | exact Or.inl (by decide) | exact Or.inl (by omega) | exact Or.inr (by decide) | exact Or.inr (by omega)) ?_
  refine wp_getI dX12_newNode_160 fX12_328 rfl (by decide) ?_
  have c4 := h.1
  replace h := h.2
  refine wp_iald dX12_newNode_163 rfl (by decide) c4 ?_
  refine wp_iconst dX12_newNode_164 (by decide) ?_
  have c5 := h.1
  replace h := h.2
  refine wp_isubr dX12_newNode_165 c5 ?_
  refine wp_pc (pc' := 166) rfl ?_
  exact wp_iret dX12_newNode_166 rfl (fun _ => h)
theorem dX12_stands2_0 : decode cX12_stands2 0 = .ok (.aload_n 0, 1) := by decide +kernel
theorem dX12_stands2_1 : decode cX12_stands2 1 = .ok (.lload_n 1, 1) := by decide +kernel
theorem dX12_stands2_2 : decode cX12_stands2 2 = .ok (.bipush 8, 2) := by decide +kernel
theorem dX12_stands2_4 : decode cX12_stands2 4 = .ok (.invokevirtual 285, 3) := by decide +kernel
theorem dX12_stands2_7 : decode cX12_stands2 7 = .ok (.istore 6, 2) := by decide +kernel
theorem dX12_stands2_9 : decode cX12_stands2 9 = .ok (.aload_n 0, 1) := by decide +kernel
theorem dX12_stands2_10 : decode cX12_stands2 10 = .ok (.dup, 1) := by decide +kernel
theorem dX12_stands2_11 : decode cX12_stands2 11 = .ok (.getfield 276, 3) := by decide +kernel
theorem dX12_stands2_14 : decode cX12_stands2 14 = .ok (.bipush 8, 2) := by decide +kernel
theorem dX12_stands2_16 : decode cX12_stands2 16 = .ok (.iadd, 1) := by decide +kernel
theorem dX12_stands2_17 : decode cX12_stands2 17 = .ok (.putfield 276, 3) := by decide +kernel
theorem dX12_stands2_20 : decode cX12_stands2 20 = .ok (.iload 6, 2) := by decide +kernel
theorem dX12_stands2_22 : decode cX12_stands2 22 = .ok (.ifCond .eq 17, 3) := by decide +kernel
theorem dX12_stands2_25 : decode cX12_stands2 25 = .ok (.aload_n 0, 1) := by decide +kernel
theorem dX12_stands2_26 : decode cX12_stands2 26 = .ok (.lload_n 3, 1) := by decide +kernel
theorem dX12_stands2_27 : decode cX12_stands2 27 = .ok (.iload 5, 2) := by decide +kernel
theorem dX12_stands2_29 : decode cX12_stands2 29 = .ok (.invokevirtual 285, 3) := by decide +kernel
theorem dX12_stands2_32 : decode cX12_stands2 32 = .ok (.ifCond .eq 7, 3) := by decide +kernel
theorem dX12_stands2_35 : decode cX12_stands2 35 = .ok (.iconst 1, 1) := by decide +kernel
theorem dX12_stands2_36 : decode cX12_stands2 36 = .ok (.goto 4, 3) := by decide +kernel
theorem dX12_stands2_39 : decode cX12_stands2 39 = .ok (.iconst 0, 1) := by decide +kernel
theorem dX12_stands2_40 : decode cX12_stands2 40 = .ok (.istore 6, 2) := by decide +kernel
theorem dX12_stands2_42 : decode cX12_stands2 42 = .ok (.aload_n 0, 1) := by decide +kernel
theorem dX12_stands2_43 : decode cX12_stands2 43 = .ok (.dup, 1) := by decide +kernel
theorem dX12_stands2_44 : decode cX12_stands2 44 = .ok (.getfield 276, 3) := by decide +kernel
theorem dX12_stands2_47 : decode cX12_stands2 47 = .ok (.bipush 8, 2) := by decide +kernel
theorem dX12_stands2_49 : decode cX12_stands2 49 = .ok (.isub, 1) := by decide +kernel
theorem dX12_stands2_50 : decode cX12_stands2 50 = .ok (.putfield 276, 3) := by decide +kernel
theorem dX12_stands2_53 : decode cX12_stands2 53 = .ok (.iload 6, 2) := by decide +kernel
theorem dX12_stands2_55 : decode cX12_stands2 55 = .ok (.ireturn, 1) := by decide +kernel
theorem v_X12_stands2_0 {cs : Cs} {Q : Option AV → Mm → Prop} {MI ML : Nat → Nat → Int} {d e nw th x : Nat} {l1 l3 l5 : Int}
    (h : wp cs mX12_stands KD (rI (GR d e nw th x) fun x4 m4 n4 => (-2147483648 ≤ (m4 124 4) + 8 ∧ (m4 124 4) + 8 < 2147483648) ∧ ∀ m17, m17 = up2 m4 124 4 ((m4 124 4) + 8) → ((x4 = 0 → (-2147483648 ≤ (m17 124 4) - 8 ∧ (m17 124 4) - 8 < 2147483648) ∧ ∀ m50, m50 = up2 m17 124 4 ((m17 124 4) - 8) → Q (some (vI 0)) (m50, n4, (GR d e nw th x))) ∧ (x4 ≠ 0 → wp cs mX12_stands KD (rI (GR d e nw th x) fun x29 m29 n29 => ((x29 = 0 → (-2147483648 ≤ (m29 124 4) - 8 ∧ (m29 124 4) - 8 < 2147483648) ∧ ∀ m50, m50 = up2 m29 124 4 ((m29 124 4) - 8) → Q (some (vI 0)) (m50, n29, (GR d e nw th x))) ∧ (x29 ≠ 0 → (-2147483648 ≤ (m29 124 4) - 8 ∧ (m29 124 4) - 8 < 2147483648) ∧ ∀ m50, m50 = up2 m29 124 4 ((m29 124 4) - 8) → Q (some (vI 1)) (m50, n29, (GR d e nw th x))))) 0 (padL [vR 124, vL l3, vI l5] 6) [] (KD, m17, n4, (GR d e nw th x))))) 0 (padL [vR 124, vL l1, vI 8] 6) [] (KD, MI, ML, (GR d e nw th x))) :
    wp cs mX12_stands2 KD Q 0 (padL [vR 124, vL l1, vL l3, vI l5] 7) [] (KD, MI, ML, (GR d e nw th x)) := by
  refine wp_L (L' := [some (vR 124), some (vL l1), none, some (vL l3), none, some (vI l5), none]) rfl ?_
  refine wp_aload_n dX12_stands2_0 rfl rfl (by first | exact Or.inl (by decide) | exact Or.inl (by omega) | exact Or.inr (by decide) | exact Or.inr (by omega)) ?_
  refine wp_lload_n dX12_stands2_1 rfl rfl ?_
  refine wp_bipush dX12_stands2_2 (by decide +kernel) (by decide) ?_
  refine wp_cVq (n := 2) (mt' := mX12_stands) (as := [vL l1, vI 8]) (rest := []) _ dX12_stands2_4 lX12_285 kX12_stands vX12_stands (by decide) (by decide +kernel) rfl (Nat.le_of_ble_eq_true rfl) (by decide) rfl rfl rfl (Nat.le_of_ble_eq_true rfl) (fun hM hS => h) (fun r M' hq hM => ?_)
  obtain ⟨x4, m4, n4, rfl, rfl, h⟩ := rI_out hq
  refine wp_istore dX12_stands2_7 (by decide) (wp_L (L' := [some (vR 124), some (vL l1), none, some (vL l3), none, some (vI l5), some (vI x4)]) rfl ?_)
  refine wp_aload_n dX12_stands2_9 rfl rfl (by first | exact Or.inl (by decide) | exact Or.inl (by omega) | exact Or.inr (by decide) | exact Or.inr (by omega)) ?_
  refine wp_dup dX12_stands2_10 (fun x e => by cases e) ?_
  refine wp_getI dX12_stands2_11 fX12_276 rfl (by decide) ?_
  refine wp_bipush dX12_stands2_14 (by decide +kernel) (by decide) ?_
  have c0 := h.1
  replace h := h.2
  refine wp_iaddr dX12_stands2_16 c0 ?_
  refine wp_putI dX12_stands2_17 pX12_276 rfl (by decide) ?_
  refine wp_gI (fun m17 e17 => ?_)
  replace h := h m17 e17
  refine wp_pc (pc' := 20) rfl ?_
  refine wp_iload dX12_stands2_20 rfl ?_
  refine wp_if_eq (tgt := 39) dX12_stands2_22 (by decide) (fun h22 => ?_) (fun h22 => ?_)
  · replace h := h.1 h22
    refine wp_iconst dX12_stands2_39 (by decide) ?_
    refine wp_istore dX12_stands2_40 (by decide) (wp_L (L' := [some (vR 124), some (vL l1), none, some (vL l3), none, some (vI l5), some (vI 0)]) rfl ?_)
    refine wp_aload_n dX12_stands2_42 rfl rfl (by first | exact Or.inl (by decide) | exact Or.inl (by omega) | exact Or.inr (by decide) | exact Or.inr (by omega)) ?_
    refine wp_dup dX12_stands2_43 (fun x e => by cases e) ?_
    refine wp_getI dX12_stands2_44 fX12_276 rfl (by decide) ?_
    refine wp_bipush dX12_stands2_47 (by decide +kernel) (by decide) ?_
    have c1 := h.1
    replace h := h.2
    refine wp_isubr dX12_stands2_49 c1 ?_
    refine wp_pc (pc' := 50) rfl ?_
    refine wp_putI dX12_stands2_50 pX12_276 rfl (by decide) ?_
    refine wp_gI (fun m50 e50 => ?_)
    replace h := h m50 e50
    refine wp_iload dX12_stands2_53 rfl ?_
    exact wp_zret dX12_stands2_55 rfl (by decide) (fun _ => h)
  · replace h := h.2 h22
    refine wp_aload_n dX12_stands2_25 rfl rfl (by first | exact Or.inl (by decide) | exact Or.inl (by omega) | exact Or.inr (by decide) | exact Or.inr (by omega)) ?_
    refine wp_lload_n dX12_stands2_26 rfl rfl ?_
    refine wp_iload dX12_stands2_27 rfl ?_
    refine wp_cVq (n := 2) (mt' := mX12_stands) (as := [vL l3, vI l5]) (rest := []) _ dX12_stands2_29 lX12_285 kX12_stands vX12_stands (by decide) (by decide +kernel) rfl (Nat.le_of_ble_eq_true rfl) (by decide) rfl rfl rfl (Nat.le_of_ble_eq_true rfl) (fun hM hS => h) (fun r M' hq hM => ?_)
    obtain ⟨x29, m29, n29, rfl, rfl, h⟩ := rI_out hq
    refine wp_if_eq (tgt := 39) dX12_stands2_32 (by decide) (fun h32 => ?_) (fun h32 => ?_)
    · replace h := h.1 h32
      refine wp_iconst dX12_stands2_39 (by decide) ?_
      refine wp_istore dX12_stands2_40 (by decide) (wp_L (L' := [some (vR 124), some (vL l1), none, some (vL l3), none, some (vI l5), some (vI 0)]) rfl ?_)
      refine wp_aload_n dX12_stands2_42 rfl rfl (by first | exact Or.inl (by decide) | exact Or.inl (by omega) | exact Or.inr (by decide) | exact Or.inr (by omega)) ?_
      refine wp_dup dX12_stands2_43 (fun x e => by cases e) ?_
      refine wp_getI dX12_stands2_44 fX12_276 rfl (by decide) ?_
      refine wp_bipush dX12_stands2_47 (by decide +kernel) (by decide) ?_
      have c1 := h.1
      replace h := h.2
      refine wp_isubr dX12_stands2_49 c1 ?_
      refine wp_pc (pc' := 50) rfl ?_
      refine wp_putI dX12_stands2_50 pX12_276 rfl (by decide) ?_
      refine wp_gI (fun m50 e50 => ?_)
      replace h := h m50 e50
      refine wp_iload dX12_stands2_53 rfl ?_
      exact wp_zret dX12_stands2_55 rfl (by decide) (fun _ => h)
    · replace h := h.2 h32
      refine wp_iconst dX12_stands2_35 (by decide) ?_
      refine wp_goto (tgt := 40) dX12_stands2_36 (by decide) ?_
      refine wp_istore dX12_stands2_40 (by decide) (wp_L (L' := [some (vR 124), some (vL l1), none, some (vL l3), none, some (vI l5), some (vI 1)]) rfl ?_)
      refine wp_aload_n dX12_stands2_42 rfl rfl (by first | exact Or.inl (by decide) | exact Or.inl (by omega) | exact Or.inr (by decide) | exact Or.inr (by omega)) ?_
      refine wp_dup dX12_stands2_43 (fun x e => by cases e) ?_
      refine wp_getI dX12_stands2_44 fX12_276 rfl (by decide) ?_
      refine wp_bipush dX12_stands2_47 (by decide +kernel) (by decide) ?_
      refine wp_pc (pc' := 49) rfl ?_
      have c1 := h.1
      replace h := h.2
      refine wp_isubr dX12_stands2_49 c1 ?_
      refine wp_putI dX12_stands2_50 pX12_276 rfl (by decide) ?_
      refine wp_gI (fun m50 e50 => ?_)
      replace h := h m50 e50
      refine wp_iload dX12_stands2_53 rfl ?_
      exact wp_zret dX12_stands2_55 rfl (by decide) (fun _ => h)
theorem dX12_specName_0 : decode cX12_specName 0 = .ok (.aload_n 0, 1) := by decide +kernel
theorem dX12_specName_1 : decode cX12_specName 1 = .ok (.invokevirtual 351, 3) := by decide +kernel
theorem dX12_specName_4 : decode cX12_specName 4 = .ok (.istore_n 2, 1) := by decide +kernel
theorem dX12_specName_5 : decode cX12_specName 5 = .ok (.aload_n 0, 1) := by decide +kernel
theorem dX12_specName_6 : decode cX12_specName 6 = .ok (.invokevirtual 289, 3) := by decide +kernel
theorem dX12_specName_9 : decode cX12_specName 9 = .ok (.ifCond .eq 21, 3) := by decide +kernel
theorem dX12_specName_12 : decode cX12_specName 12 = .ok (.aload_n 0, 1) := by decide +kernel
theorem dX12_specName_13 : decode cX12_specName 13 = .ok (.getfield 82, 3) := by decide +kernel
theorem dX12_specName_16 : decode cX12_specName 16 = .ok (.iload_n 1, 1) := by decide +kernel
theorem dX12_specName_17 : decode cX12_specName 17 = .ok (.iaload, 1) := by decide +kernel
theorem dX12_specName_18 : decode cX12_specName 18 = .ok (.bipush 40, 2) := by decide +kernel
theorem dX12_specName_20 : decode cX12_specName 20 = .ok (.if_icmp .ne 10, 3) := by decide +kernel
theorem dX12_specName_23 : decode cX12_specName 23 = .ok (.aload_n 0, 1) := by decide +kernel
theorem dX12_specName_24 : decode cX12_specName 24 = .ok (.bipush (-3), 2) := by decide +kernel
theorem dX12_specName_26 : decode cX12_specName 26 = .ok (.iload_n 2, 1) := by decide +kernel
theorem dX12_specName_27 : decode cX12_specName 27 = .ok (.invokevirtual 293, 3) := by decide +kernel
theorem dX12_specName_30 : decode cX12_specName 30 = .ok (.aload_n 0, 1) := by decide +kernel
theorem dX12_specName_31 : decode cX12_specName 31 = .ok (.invokevirtual 289, 3) := by decide +kernel
theorem dX12_specName_34 : decode cX12_specName 34 = .ok (.ifCond .ne 5, 3) := by decide +kernel
theorem dX12_specName_37 : decode cX12_specName 37 = .ok (.iconst 0, 1) := by decide +kernel
theorem dX12_specName_38 : decode cX12_specName 38 = .ok (.ireturn, 1) := by decide +kernel
theorem dX12_specName_39 : decode cX12_specName 39 = .ok (.aload_n 0, 1) := by decide +kernel
theorem dX12_specName_40 : decode cX12_specName 40 = .ok (.getfield 82, 3) := by decide +kernel
theorem dX12_specName_43 : decode cX12_specName 43 = .ok (.iload_n 1, 1) := by decide +kernel
theorem dX12_specName_44 : decode cX12_specName 44 = .ok (.iaload, 1) := by decide +kernel
theorem dX12_specName_45 : decode cX12_specName 45 = .ok (.istore_n 3, 1) := by decide +kernel
theorem dX12_specName_46 : decode cX12_specName 46 = .ok (.aload_n 0, 1) := by decide +kernel
theorem dX12_specName_47 : decode cX12_specName 47 = .ok (.getfield 85, 3) := by decide +kernel
theorem dX12_specName_50 : decode cX12_specName 50 = .ok (.bipush 40, 2) := by decide +kernel
theorem dX12_specName_52 : decode cX12_specName 52 = .ok (.iload_n 1, 1) := by decide +kernel
theorem dX12_specName_53 : decode cX12_specName 53 = .ok (.imul, 1) := by decide +kernel
theorem dX12_specName_54 : decode cX12_specName 54 = .ok (.iload_n 3, 1) := by decide +kernel
theorem dX12_specName_55 : decode cX12_specName 55 = .ok (.iadd, 1) := by decide +kernel
theorem dX12_specName_56 : decode cX12_specName 56 = .ok (.sipush 6000, 3) := by decide +kernel
theorem dX12_specName_59 : decode cX12_specName 59 = .ok (.aload_n 0, 1) := by decide +kernel
theorem dX12_specName_60 : decode cX12_specName 60 = .ok (.getfield 328, 3) := by decide +kernel
theorem dX12_specName_63 : decode cX12_specName 63 = .ok (.imul, 1) := by decide +kernel
theorem dX12_specName_64 : decode cX12_specName 64 = .ok (.iload_n 2, 1) := by decide +kernel
theorem dX12_specName_65 : decode cX12_specName 65 = .ok (.iadd, 1) := by decide +kernel
theorem dX12_specName_66 : decode cX12_specName 66 = .ok (.iastore, 1) := by decide +kernel
theorem dX12_specName_67 : decode cX12_specName 67 = .ok (.aload_n 0, 1) := by decide +kernel
theorem dX12_specName_68 : decode cX12_specName 68 = .ok (.getfield 88, 3) := by decide +kernel
theorem dX12_specName_71 : decode cX12_specName 71 = .ok (.bipush 40, 2) := by decide +kernel
theorem dX12_specName_73 : decode cX12_specName 73 = .ok (.iload_n 1, 1) := by decide +kernel
theorem dX12_specName_74 : decode cX12_specName 74 = .ok (.imul, 1) := by decide +kernel
theorem dX12_specName_75 : decode cX12_specName 75 = .ok (.iload_n 3, 1) := by decide +kernel
theorem dX12_specName_76 : decode cX12_specName 76 = .ok (.iadd, 1) := by decide +kernel
theorem dX12_specName_77 : decode cX12_specName 77 = .ok (.aload_n 0, 1) := by decide +kernel
theorem dX12_specName_78 : decode cX12_specName 78 = .ok (.getfield 306, 3) := by decide +kernel
theorem dX12_specName_81 : decode cX12_specName 81 = .ok (.iastore, 1) := by decide +kernel
theorem dX12_specName_82 : decode cX12_specName 82 = .ok (.aload_n 0, 1) := by decide +kernel
theorem dX12_specName_83 : decode cX12_specName 83 = .ok (.getfield 101, 3) := by decide +kernel
theorem dX12_specName_86 : decode cX12_specName 86 = .ok (.bipush 40, 2) := by decide +kernel
theorem dX12_specName_88 : decode cX12_specName 88 = .ok (.iload_n 1, 1) := by decide +kernel
theorem dX12_specName_89 : decode cX12_specName 89 = .ok (.imul, 1) := by decide +kernel
theorem dX12_specName_90 : decode cX12_specName 90 = .ok (.iload_n 3, 1) := by decide +kernel
theorem dX12_specName_91 : decode cX12_specName 91 = .ok (.iadd, 1) := by decide +kernel
theorem dX12_specName_92 : decode cX12_specName 92 = .ok (.lconst 0, 1) := by decide +kernel
theorem dX12_specName_93 : decode cX12_specName 93 = .ok (.lastore, 1) := by decide +kernel
theorem dX12_specName_94 : decode cX12_specName 94 = .ok (.aload_n 0, 1) := by decide +kernel
theorem dX12_specName_95 : decode cX12_specName 95 = .ok (.getfield 82, 3) := by decide +kernel
theorem dX12_specName_98 : decode cX12_specName 98 = .ok (.iload_n 1, 1) := by decide +kernel
theorem dX12_specName_99 : decode cX12_specName 99 = .ok (.dup2, 1) := by decide +kernel
theorem dX12_specName_100 : decode cX12_specName 100 = .ok (.iaload, 1) := by decide +kernel
theorem dX12_specName_101 : decode cX12_specName 101 = .ok (.iconst 1, 1) := by decide +kernel
theorem dX12_specName_102 : decode cX12_specName 102 = .ok (.iadd, 1) := by decide +kernel
theorem dX12_specName_103 : decode cX12_specName 103 = .ok (.iastore, 1) := by decide +kernel
theorem dX12_specName_104 : decode cX12_specName 104 = .ok (.iload_n 3, 1) := by decide +kernel
theorem dX12_specName_105 : decode cX12_specName 105 = .ok (.ireturn, 1) := by decide +kernel
theorem v_X12_specName_0 {cs : Cs} {Q : Option AV → Mm → Prop} {MI ML : Nat → Nat → Int} {d e nw th x : Nat} {l1 : Int}
    (h : wp cs mX12_takeName KD (rI (GR d e nw th x) fun x1 m1 n1 => wp cs mX12_isGood KD (rI (GR d e nw th x) fun x6 m6 n6 => ((x6 = 0 → wp cs mX12_specName KD Q 30 [some (vR 124), some (vI l1), some (vI x1), none] [] (KD, m6, n6, (GR d e nw th x))) ∧ (x6 ≠ 0 → (0 ≤ l1 ∧ l1 < 60) ∧ (((m6 147 l1.toNat) = 40 → wp cs mX12_fail KD (rV (GR d e nw th x) fun m27 n27 => wp cs mX12_specName KD Q 30 [some (vR 124), some (vI l1), some (vI x1), none] [] (KD, m27, n27, (GR d e nw th x))) 0 (padL [vR 124, vI (-3), vI x1] 3) [] (KD, m6, n6, (GR d e nw th x))) ∧ ((m6 147 l1.toNat) ≠ 40 → wp cs mX12_specName KD Q 30 [some (vR 124), some (vI l1), some (vI x1), none] [] (KD, m6, n6, (GR d e nw th x))))))) 0 (padL [vR 124] 1) [] (KD, m1, n1, (GR d e nw th x))) 0 (padL [vR 124] 2) [] (KD, MI, ML, (GR d e nw th x))) :
    wp cs mX12_specName KD Q 0 (padL [vR 124, vI l1] 4) [] (KD, MI, ML, (GR d e nw th x)) := by
  refine wp_L (L' := [some (vR 124), some (vI l1), none, none]) rfl ?_
  refine wp_aload_n dX12_specName_0 rfl rfl (by first | exact Or.inl (by decide) | exact Or.inl (by omega) | exact Or.inr (by decide) | exact Or.inr (by omega)) ?_
  refine wp_cVq (n := 0) (mt' := mX12_takeName) (as := []) (rest := []) _ dX12_specName_1 lX12_351 kX12_takeName vX12_takeName (by decide) (by decide +kernel) rfl (Nat.le_of_ble_eq_true rfl) (by decide) rfl rfl rfl (Nat.le_of_ble_eq_true rfl) (fun hM hS => h) (fun r M' hq hM => ?_)
  obtain ⟨x1, m1, n1, rfl, rfl, h⟩ := rI_out hq
  refine wp_istore_n dX12_specName_4 rfl (by decide) (wp_L (L' := [some (vR 124), some (vI l1), some (vI x1), none]) rfl ?_)
  refine wp_aload_n dX12_specName_5 rfl rfl (by first | exact Or.inl (by decide) | exact Or.inl (by omega) | exact Or.inr (by decide) | exact Or.inr (by omega)) ?_
  refine wp_cVq (n := 0) (mt' := mX12_isGood) (as := []) (rest := []) _ dX12_specName_6 lX12_289 kX12_isGood vX12_isGood (by decide) (by decide +kernel) rfl (Nat.le_of_ble_eq_true rfl) (by decide) rfl rfl rfl (Nat.le_of_ble_eq_true rfl) (fun hM hS => h) (fun r M' hq hM => ?_)
  obtain ⟨x6, m6, n6, rfl, rfl, h⟩ := rI_out hq
  refine wp_if_eq (tgt := 30) dX12_specName_9 (by decide) (fun h9 => ?_) (fun h9 => ?_)
  · replace h := h.1 h9
    exact h
  · replace h := h.2 h9
    refine wp_aload_n dX12_specName_12 rfl rfl (by first | exact Or.inl (by decide) | exact Or.inl (by omega) | exact Or.inr (by decide) | exact Or.inr (by omega)) ?_
    refine wp_getR dX12_specName_13 fX12_82 rfl (by decide) ?_
    refine wp_topR (x' := 147) rfl ?_
    refine wp_iload_n dX12_specName_16 rfl rfl ?_
    have c0 := h.1
    replace h := h.2
    refine wp_iald dX12_specName_17 rfl (by decide) c0 ?_
    refine wp_bipush dX12_specName_18 (by decide +kernel) (by decide) ?_
    refine wp_icmp_ne (tgt := 30) dX12_specName_20 (by decide) (fun h20 => ?_) (fun h20 => ?_)
    · replace h := h.2 h20
      exact h
    · replace h := h.1 h20
      refine wp_aload_n dX12_specName_23 rfl rfl (by first | exact Or.inl (by decide) | exact Or.inl (by omega) | exact Or.inr (by decide) | exact Or.inr (by omega)) ?_
      refine wp_bipush dX12_specName_24 (by decide +kernel) (by decide) ?_
      refine wp_iload_n dX12_specName_26 rfl rfl ?_
      refine wp_cVq (n := 2) (mt' := mX12_fail) (as := [vI (-3), vI x1]) (rest := []) _ dX12_specName_27 lX12_293 kX12_fail vX12_fail (by decide) (by decide +kernel) rfl (Nat.le_of_ble_eq_true rfl) (by decide) rfl rfl rfl (Nat.le_of_ble_eq_true rfl) (fun hM hS => h) (fun r M' hq hM => ?_)
      obtain ⟨m27, n27, rfl, rfl, h⟩ := rV_out hq
      exact h
theorem v_X12_specName_30 {cs : Cs} {Q : Option AV → Mm → Prop} {MI ML : Nat → Nat → Int} {d e nw th x : Nat} {l1 l2 : Int}
    (h : wp cs mX12_isGood KD (rI (GR d e nw th x) fun x31 m31 n31 => ((x31 = 0 → Q (some (vI 0)) (m31, n31, (GR d e nw th x))) ∧ (x31 ≠ 0 → (0 ≤ l1 ∧ l1 < 60) ∧ (-2147483648 ≤ 40 * l1 ∧ 40 * l1 < 2147483648) ∧ (-2147483648 ≤ (40 * l1) + (m31 147 l1.toNat) ∧ (40 * l1) + (m31 147 l1.toNat) < 2147483648) ∧ (-2147483648 ≤ 6000 * (m31 124 8) ∧ 6000 * (m31 124 8) < 2147483648) ∧ (-2147483648 ≤ (6000 * (m31 124 8)) + l2 ∧ (6000 * (m31 124 8)) + l2 < 2147483648) ∧ (0 ≤ ((40 * l1) + (m31 147 l1.toNat)) ∧ ((40 * l1) + (m31 147 l1.toNat)) < 2400) ∧ ∀ m66, m66 = up2 m31 148 ((40 * l1) + (m31 147 l1.toNat)).toNat ((6000 * (m31 124 8)) + l2) → ∀ m81, m81 = up2 m66 149 ((40 * l1) + (m31 147 l1.toNat)).toNat (m66 124 51) → ∀ n93, n93 = up2 n31 153 ((40 * l1) + (m31 147 l1.toNat)).toNat 0 → (-2147483648 ≤ (m81 147 l1.toNat) + 1 ∧ (m81 147 l1.toNat) + 1 < 2147483648) ∧ ∀ m103, m103 = up2 m81 147 l1.toNat ((m81 147 l1.toNat) + 1) → Q (some (vI (m31 147 l1.toNat))) (m103, n93, (GR d e nw th x))))) 0 (padL [vR 124] 1) [] (KD, MI, ML, (GR d e nw th x))) :
    wp cs mX12_specName KD Q 30 [some (vR 124), some (vI l1), some (vI l2), none] [] (KD, MI, ML, (GR d e nw th x)) := by
  refine wp_aload_n dX12_specName_30 rfl rfl (by first | exact Or.inl (by decide) | exact Or.inl (by omega) | exact Or.inr (by decide) | exact Or.inr (by omega)) ?_
  refine wp_cVq (n := 0) (mt' := mX12_isGood) (as := []) (rest := []) _ dX12_specName_31 lX12_289 kX12_isGood vX12_isGood (by decide) (by decide +kernel) rfl (Nat.le_of_ble_eq_true rfl) (by decide) rfl rfl rfl (Nat.le_of_ble_eq_true rfl) (fun hM hS => h) (fun r M' hq hM => ?_)
  obtain ⟨x31, m31, n31, rfl, rfl, h⟩ := rI_out hq
  refine wp_if_ne (tgt := 39) dX12_specName_34 (by decide) (fun h34 => ?_) (fun h34 => ?_)
  · replace h := h.2 h34
    refine wp_aload_n dX12_specName_39 rfl rfl (by first | exact Or.inl (by decide) | exact Or.inl (by omega) | exact Or.inr (by decide) | exact Or.inr (by omega)) ?_
    refine wp_getR dX12_specName_40 fX12_82 rfl (by decide) ?_
    refine wp_topR (x' := 147) rfl ?_
    refine wp_iload_n dX12_specName_43 rfl rfl ?_
    have c0 := h.1
    replace h := h.2
    refine wp_iald dX12_specName_44 rfl (by decide) c0 ?_
    refine wp_istore_n dX12_specName_45 rfl (by decide) (wp_L (L' := [some (vR 124), some (vI l1), some (vI l2), some (vI (m31 147 l1.toNat))]) rfl ?_)
    refine wp_aload_n dX12_specName_46 rfl rfl (by first | exact Or.inl (by decide) | exact Or.inl (by omega) | exact Or.inr (by decide) | exact Or.inr (by omega)) ?_
    refine wp_getR dX12_specName_47 fX12_85 rfl (by decide) ?_
    refine wp_topR (x' := 148) rfl ?_
    refine wp_pc (pc' := 50) rfl ?_
    refine wp_bipush dX12_specName_50 (by decide +kernel) (by decide) ?_
    refine wp_iload_n dX12_specName_52 rfl rfl ?_
    have c1 := h.1
    replace h := h.2
    refine wp_imulr dX12_specName_53 c1 ?_
    refine wp_iload_n dX12_specName_54 rfl rfl ?_
    have c2 := h.1
    replace h := h.2
    refine wp_iaddr dX12_specName_55 c2 ?_
    refine wp_sipush dX12_specName_56 (by decide +kernel) (by decide) ?_
    refine wp_aload_n dX12_specName_59 rfl rfl (by first | exact Or.inl (by decide) | exact Or.inl (by omega) | exact Or.inr (by decide) | exact Or.inr (by omega)) ?_
    refine wp_getI dX12_specName_60 fX12_328 rfl (by decide) ?_
    refine wp_pc (pc' := 63) rfl ?_
    have c3 := h.1
    replace h := h.2
    refine wp_imulr dX12_specName_63 c3 ?_
    refine wp_iload_n dX12_specName_64 rfl rfl ?_
    have c4 := h.1
    replace h := h.2
    refine wp_iaddr dX12_specName_65 c4 ?_
    have c5 := h.1
    replace h := h.2
    refine wp_iast dX12_specName_66 rfl (by decide) c5 ?_
    refine wp_gI (fun m66 e66 => ?_)
    replace h := h m66 e66
    refine wp_aload_n dX12_specName_67 rfl rfl (by first | exact Or.inl (by decide) | exact Or.inl (by omega) | exact Or.inr (by decide) | exact Or.inr (by omega)) ?_
    refine wp_getR dX12_specName_68 fX12_88 rfl (by decide) ?_
    refine wp_topR (x' := 149) rfl ?_
    refine wp_bipush dX12_specName_71 (by decide +kernel) (by decide) ?_
    refine wp_iload_n dX12_specName_73 rfl rfl ?_
    refine wp_pc (pc' := 74) rfl ?_
    refine wp_imulr dX12_specName_74 c1 ?_
    refine wp_iload_n dX12_specName_75 rfl rfl ?_
    refine wp_iaddr dX12_specName_76 c2 ?_
    refine wp_aload_n dX12_specName_77 rfl rfl (by first | exact Or.inl (by decide) | exact Or.inl (by omega) | exact Or.inr (by decide) | exact Or.inr (by omega)) ?_
    refine wp_getI dX12_specName_78 fX12_306 rfl (by decide) ?_
    refine wp_iast dX12_specName_81 rfl (by decide) c5 ?_
    refine wp_gI (fun m81 e81 => ?_)
    replace h := h m81 e81
    refine wp_aload_n dX12_specName_82 rfl rfl (by first | exact Or.inl (by decide) | exact Or.inl (by omega) | exact Or.inr (by decide) | exact Or.inr (by omega)) ?_
    refine wp_getR dX12_specName_83 fX12_101 rfl (by decide) ?_
    refine wp_topR (x' := 153) rfl ?_
    refine wp_pc (pc' := 86) rfl ?_
    refine wp_bipush dX12_specName_86 (by decide +kernel) (by decide) ?_
    refine wp_iload_n dX12_specName_88 rfl rfl ?_
    refine wp_imulr dX12_specName_89 c1 ?_
    refine wp_iload_n dX12_specName_90 rfl rfl ?_
    refine wp_iaddr dX12_specName_91 c2 ?_
    refine wp_lconst (z := 0) dX12_specName_92 (by decide +kernel) (by decide) ?_
    refine wp_last dX12_specName_93 rfl (by decide) c5 ?_
    refine wp_gL (fun n93 e93 => ?_)
    replace h := h n93 e93
    refine wp_aload_n dX12_specName_94 rfl rfl (by first | exact Or.inl (by decide) | exact Or.inl (by omega) | exact Or.inr (by decide) | exact Or.inr (by omega)) ?_
    refine wp_pc (pc' := 95) rfl ?_
    refine wp_getR dX12_specName_95 fX12_82 rfl (by decide) ?_
    refine wp_topR (x' := 147) rfl ?_
    refine wp_iload_n dX12_specName_98 rfl rfl ?_
    refine wp_dup2 dX12_specName_99 (fun x e => by cases e) (fun x e => by cases e) ?_
    refine wp_iald dX12_specName_100 rfl (by decide) c0 ?_
    refine wp_iconst dX12_specName_101 (by decide) ?_
    have c6 := h.1
    replace h := h.2
    refine wp_iaddr dX12_specName_102 c6 ?_
    refine wp_iast dX12_specName_103 rfl (by decide) c0 ?_
    refine wp_gI (fun m103 e103 => ?_)
    replace h := h m103 e103
    refine wp_iload_n dX12_specName_104 rfl rfl ?_
    refine wp_pc (pc' := 105) rfl ?_
    exact wp_iret dX12_specName_105 rfl (fun _ => h)
  · replace h := h.1 h34
    refine wp_iconst dX12_specName_37 (by decide) ?_
    exact wp_iret dX12_specName_38 rfl (fun _ => h)
theorem dX12_mixed_0 : decode cX12_mixed 0 = .ok (.aload_n 0, 1) := by decide +kernel
theorem dX12_mixed_1 : decode cX12_mixed 1 = .ok (.getfield 79, 3) := by decide +kernel
theorem dX12_mixed_4 : decode cX12_mixed 4 = .ok (.iload_n 1, 1) := by decide +kernel
theorem dX12_mixed_5 : decode cX12_mixed 5 = .ok (.iconst 2, 1) := by decide +kernel
theorem dX12_mixed_6 : decode cX12_mixed 6 = .ok (.iastore, 1) := by decide +kernel
theorem dX12_mixed_7 : decode cX12_mixed 7 = .ok (.aload_n 0, 1) := by decide +kernel
theorem dX12_mixed_8 : decode cX12_mixed 8 = .ok (.dup, 1) := by decide +kernel
theorem dX12_mixed_9 : decode cX12_mixed 9 = .ok (.getfield 276, 3) := by decide +kernel
theorem dX12_mixed_12 : decode cX12_mixed 12 = .ok (.bipush 7, 2) := by decide +kernel
theorem dX12_mixed_14 : decode cX12_mixed 14 = .ok (.iadd, 1) := by decide +kernel
theorem dX12_mixed_15 : decode cX12_mixed 15 = .ok (.putfield 276, 3) := by decide +kernel
theorem dX12_mixed_18 : decode cX12_mixed 18 = .ok (.aload_n 0, 1) := by decide +kernel
theorem dX12_mixed_19 : decode cX12_mixed 19 = .ok (.invokevirtual 300, 3) := by decide +kernel
theorem dX12_mixed_22 : decode cX12_mixed 22 = .ok (.aload_n 0, 1) := by decide +kernel
theorem dX12_mixed_23 : decode cX12_mixed 23 = .ok (.invokevirtual 289, 3) := by decide +kernel
theorem dX12_mixed_26 : decode cX12_mixed 26 = .ok (.ifCond .eq 43, 3) := by decide +kernel
theorem dX12_mixed_29 : decode cX12_mixed 29 = .ok (.aload_n 0, 1) := by decide +kernel
theorem dX12_mixed_30 : decode cX12_mixed 30 = .ok (.aload_n 0, 1) := by decide +kernel
theorem dX12_mixed_31 : decode cX12_mixed 31 = .ok (.getfield 276, 3) := by decide +kernel
theorem dX12_mixed_34 : decode cX12_mixed 34 = .ok (.invokevirtual 279, 3) := by decide +kernel
theorem dX12_mixed_37 : decode cX12_mixed 37 = .ok (.bipush 124, 2) := by decide +kernel
theorem dX12_mixed_39 : decode cX12_mixed 39 = .ok (.if_icmp .ne 30, 3) := by decide +kernel
theorem dX12_mixed_42 : decode cX12_mixed 42 = .ok (.aload_n 0, 1) := by decide +kernel
theorem dX12_mixed_43 : decode cX12_mixed 43 = .ok (.dup, 1) := by decide +kernel
theorem dX12_mixed_44 : decode cX12_mixed 44 = .ok (.getfield 276, 3) := by decide +kernel
theorem dX12_mixed_47 : decode cX12_mixed 47 = .ok (.iconst 1, 1) := by decide +kernel
theorem dX12_mixed_48 : decode cX12_mixed 48 = .ok (.iadd, 1) := by decide +kernel
theorem dX12_mixed_49 : decode cX12_mixed 49 = .ok (.putfield 276, 3) := by decide +kernel
theorem dX12_mixed_52 : decode cX12_mixed 52 = .ok (.aload_n 0, 1) := by decide +kernel
theorem dX12_mixed_53 : decode cX12_mixed 53 = .ok (.invokevirtual 300, 3) := by decide +kernel
theorem dX12_mixed_56 : decode cX12_mixed 56 = .ok (.aload_n 0, 1) := by decide +kernel
theorem dX12_mixed_57 : decode cX12_mixed 57 = .ok (.iload_n 1, 1) := by decide +kernel
theorem dX12_mixed_58 : decode cX12_mixed 58 = .ok (.invokevirtual 383, 3) := by decide +kernel
theorem dX12_mixed_61 : decode cX12_mixed 61 = .ok (.istore_n 2, 1) := by decide +kernel
theorem dX12_mixed_62 : decode cX12_mixed 62 = .ok (.aload_n 0, 1) := by decide +kernel
theorem dX12_mixed_63 : decode cX12_mixed 63 = .ok (.invokevirtual 300, 3) := by decide +kernel
theorem dX12_mixed_66 : decode cX12_mixed 66 = .ok (.goto (-44), 3) := by decide +kernel
theorem dX12_mixed_69 : decode cX12_mixed 69 = .ok (.aload_n 0, 1) := by decide +kernel
theorem dX12_mixed_70 : decode cX12_mixed 70 = .ok (.bipush 41, 2) := by decide +kernel
theorem dX12_mixed_72 : decode cX12_mixed 72 = .ok (.invokevirtual 340, 3) := by decide +kernel
theorem dX12_mixed_75 : decode cX12_mixed 75 = .ok (.istore_n 2, 1) := by decide +kernel
theorem dX12_mixed_76 : decode cX12_mixed 76 = .ok (.aload_n 0, 1) := by decide +kernel
theorem dX12_mixed_77 : decode cX12_mixed 77 = .ok (.invokevirtual 289, 3) := by decide +kernel
theorem dX12_mixed_80 : decode cX12_mixed 80 = .ok (.ifCond .eq 32, 3) := by decide +kernel
theorem dX12_mixed_83 : decode cX12_mixed 83 = .ok (.aload_n 0, 1) := by decide +kernel
theorem dX12_mixed_84 : decode cX12_mixed 84 = .ok (.getfield 82, 3) := by decide +kernel
theorem dX12_mixed_87 : decode cX12_mixed 87 = .ok (.iload_n 1, 1) := by decide +kernel
theorem dX12_mixed_88 : decode cX12_mixed 88 = .ok (.iaload, 1) := by decide +kernel
theorem dX12_mixed_89 : decode cX12_mixed 89 = .ok (.ifCond .gt 16, 3) := by decide +kernel
theorem dX12_mixed_92 : decode cX12_mixed 92 = .ok (.aload_n 0, 1) := by decide +kernel
theorem dX12_mixed_93 : decode cX12_mixed 93 = .ok (.aload_n 0, 1) := by decide +kernel
theorem dX12_mixed_94 : decode cX12_mixed 94 = .ok (.getfield 276, 3) := by decide +kernel
theorem dX12_mixed_97 : decode cX12_mixed 97 = .ok (.invokevirtual 279, 3) := by decide +kernel
theorem dX12_mixed_100 : decode cX12_mixed 100 = .ok (.bipush 42, 2) := by decide +kernel
theorem dX12_mixed_102 : decode cX12_mixed 102 = .ok (.if_icmp .ne 10, 3) := by decide +kernel
theorem dX12_mixed_105 : decode cX12_mixed 105 = .ok (.aload_n 0, 1) := by decide +kernel
theorem dX12_mixed_106 : decode cX12_mixed 106 = .ok (.bipush 42, 2) := by decide +kernel
theorem dX12_mixed_108 : decode cX12_mixed 108 = .ok (.invokevirtual 340, 3) := by decide +kernel
theorem dX12_mixed_111 : decode cX12_mixed 111 = .ok (.istore_n 2, 1) := by decide +kernel
theorem dX12_mixed_112 : decode cX12_mixed 112 = .ok (.return_, 1) := by decide +kernel
theorem v_X12_mixed_0 {cs : Cs} {Q : Option AV → Mm → Prop} {MI ML : Nat → Nat → Int} {d e nw th x : Nat} {l1 : Int}
    (h : (0 ≤ l1 ∧ l1 < 60) ∧ ∀ m6, m6 = up2 MI 146 l1.toNat 2 → (-2147483648 ≤ (m6 124 4) + 7 ∧ (m6 124 4) + 7 < 2147483648) ∧ ∀ m15, m15 = up2 m6 124 4 ((m6 124 4) + 7) → wp cs mX12_maybeS KD (rV (GR d e nw th x) fun m19 n19 => wp cs mX12_mixed KD Q 22 [some (vR 124), some (vI l1), none] [] (KD, m19, n19, (GR d e nw th x))) 0 (padL [vR 124] 1) [] (KD, m15, ML, (GR d e nw th x))) :
    wp cs mX12_mixed KD Q 0 (padL [vR 124, vI l1] 3) [] (KD, MI, ML, (GR d e nw th x)) := by
  refine wp_L (L' := [some (vR 124), some (vI l1), none]) rfl ?_
  refine wp_aload_n dX12_mixed_0 rfl rfl (by first | exact Or.inl (by decide) | exact Or.inl (by omega) | exact Or.inr (by decide) | exact Or.inr (by omega)) ?_
  refine wp_getR dX12_mixed_1 fX12_79 rfl (by decide) ?_
  refine wp_topR (x' := 146) rfl ?_
  refine wp_iload_n dX12_mixed_4 rfl rfl ?_
  refine wp_iconst dX12_mixed_5 (by decide) ?_
  have c0 := h.1
  replace h := h.2
  refine wp_iast dX12_mixed_6 rfl (by decide) c0 ?_
  refine wp_gI (fun m6 e6 => ?_)
  replace h := h m6 e6
  refine wp_aload_n dX12_mixed_7 rfl rfl (by first | exact Or.inl (by decide) | exact Or.inl (by omega) | exact Or.inr (by decide) | exact Or.inr (by omega)) ?_
  refine wp_dup dX12_mixed_8 (fun x e => by cases e) ?_
  refine wp_pc (pc' := 9) rfl ?_
  refine wp_getI dX12_mixed_9 fX12_276 rfl (by decide) ?_
  refine wp_bipush dX12_mixed_12 (by decide +kernel) (by decide) ?_
  have c1 := h.1
  replace h := h.2
  refine wp_iaddr dX12_mixed_14 c1 ?_
  refine wp_putI dX12_mixed_15 pX12_276 rfl (by decide) ?_
  refine wp_gI (fun m15 e15 => ?_)
  replace h := h m15 e15
  refine wp_aload_n dX12_mixed_18 rfl rfl (by first | exact Or.inl (by decide) | exact Or.inl (by omega) | exact Or.inr (by decide) | exact Or.inr (by omega)) ?_
  refine wp_cVq (n := 0) (mt' := mX12_maybeS) (as := []) (rest := []) _ dX12_mixed_19 lX12_300 kX12_maybeS vX12_maybeS (by decide) (by decide +kernel) rfl (Nat.le_of_ble_eq_true rfl) (by decide) rfl rfl rfl (Nat.le_of_ble_eq_true rfl) (fun hM hS => h) (fun r M' hq hM => ?_)
  obtain ⟨m19, n19, rfl, rfl, h⟩ := rV_out hq
  exact h
theorem v_X12_mixed_22 {cs : Cs} {Q : Option AV → Mm → Prop} {MI ML : Nat → Nat → Int} {d e nw th x : Nat} {l1 : Int}
    (h : wp cs mX12_isGood KD (rI (GR d e nw th x) fun x23 m23 n23 => ((x23 = 0 → wp cs mX12_mixed KD Q 69 [some (vR 124), some (vI l1), none] [] (KD, m23, n23, (GR d e nw th x))) ∧ (x23 ≠ 0 → wp cs mX12_octet KD (rI (GR d e nw th x) fun x34 m34 n34 => ((x34 = 124 → (-2147483648 ≤ (m34 124 4) + 1 ∧ (m34 124 4) + 1 < 2147483648) ∧ ∀ m49, m49 = up2 m34 124 4 ((m34 124 4) + 1) → wp cs mX12_maybeS KD (rV (GR d e nw th x) fun m53 n53 => wp cs mX12_specName KD (rI (GR d e nw th x) fun x58 m58 n58 => wp cs mX12_maybeS KD (rV (GR d e nw th x) fun m63 n63 => wp cs mX12_mixed KD Q 22 [some (vR 124), some (vI l1), none] [] (KD, m63, n63, (GR d e nw th x))) 0 (padL [vR 124] 1) [] (KD, m58, n58, (GR d e nw th x))) 0 (padL [vR 124, vI l1] 4) [] (KD, m53, n53, (GR d e nw th x))) 0 (padL [vR 124] 1) [] (KD, m49, n34, (GR d e nw th x))) ∧ (x34 ≠ 124 → wp cs mX12_mixed KD Q 69 [some (vR 124), some (vI l1), none] [] (KD, m34, n34, (GR d e nw th x))))) 0 (padL [vR 124, vI (m23 124 4)] 2) [] (KD, m23, n23, (GR d e nw th x))))) 0 (padL [vR 124] 1) [] (KD, MI, ML, (GR d e nw th x))) :
    wp cs mX12_mixed KD Q 22 [some (vR 124), some (vI l1), none] [] (KD, MI, ML, (GR d e nw th x)) := by
  refine wp_aload_n dX12_mixed_22 rfl rfl (by first | exact Or.inl (by decide) | exact Or.inl (by omega) | exact Or.inr (by decide) | exact Or.inr (by omega)) ?_
  refine wp_cVq (n := 0) (mt' := mX12_isGood) (as := []) (rest := []) _ dX12_mixed_23 lX12_289 kX12_isGood vX12_isGood (by decide) (by decide +kernel) rfl (Nat.le_of_ble_eq_true rfl) (by decide) rfl rfl rfl (Nat.le_of_ble_eq_true rfl) (fun hM hS => h) (fun r M' hq hM => ?_)
  obtain ⟨x23, m23, n23, rfl, rfl, h⟩ := rI_out hq
  refine wp_if_eq (tgt := 69) dX12_mixed_26 (by decide) (fun h26 => ?_) (fun h26 => ?_)
  · replace h := h.1 h26
    exact h
  · replace h := h.2 h26
    refine wp_aload_n dX12_mixed_29 rfl rfl (by first | exact Or.inl (by decide) | exact Or.inl (by omega) | exact Or.inr (by decide) | exact Or.inr (by omega)) ?_
    refine wp_aload_n dX12_mixed_30 rfl rfl (by first | exact Or.inl (by decide) | exact Or.inl (by omega) | exact Or.inr (by decide) | exact Or.inr (by omega)) ?_
    refine wp_getI dX12_mixed_31 fX12_276 rfl (by decide) ?_
    refine wp_cVq (n := 1) (mt' := mX12_octet) (as := [vI (m23 124 4)]) (rest := []) _ dX12_mixed_34 lX12_279 kX12_octet vX12_octet (by decide) (by decide +kernel) rfl (Nat.le_of_ble_eq_true rfl) (by decide) rfl rfl rfl (Nat.le_of_ble_eq_true rfl) (fun hM hS => h) (fun r M' hq hM => ?_)
    obtain ⟨x34, m34, n34, rfl, rfl, h⟩ := rI_out hq
    refine wp_bipush dX12_mixed_37 (by decide +kernel) (by decide) ?_
    refine wp_icmp_ne (tgt := 69) dX12_mixed_39 (by decide) (fun h39 => ?_) (fun h39 => ?_)
    · replace h := h.2 h39
      exact h
    · replace h := h.1 h39
      refine wp_aload_n dX12_mixed_42 rfl rfl (by first | exact Or.inl (by decide) | exact Or.inl (by omega) | exact Or.inr (by decide) | exact Or.inr (by omega)) ?_
      refine wp_dup dX12_mixed_43 (fun x e => by cases e) ?_
      refine wp_getI dX12_mixed_44 fX12_276 rfl (by decide) ?_
      refine wp_iconst dX12_mixed_47 (by decide) ?_
      have c0 := h.1
      replace h := h.2
      refine wp_iaddr dX12_mixed_48 c0 ?_
      refine wp_putI dX12_mixed_49 pX12_276 rfl (by decide) ?_
      refine wp_gI (fun m49 e49 => ?_)
      replace h := h m49 e49
      refine wp_aload_n dX12_mixed_52 rfl rfl (by first | exact Or.inl (by decide) | exact Or.inl (by omega) | exact Or.inr (by decide) | exact Or.inr (by omega)) ?_
      refine wp_pc (pc' := 53) rfl ?_
      refine wp_cVq (n := 0) (mt' := mX12_maybeS) (as := []) (rest := []) _ dX12_mixed_53 lX12_300 kX12_maybeS vX12_maybeS (by decide) (by decide +kernel) rfl (Nat.le_of_ble_eq_true rfl) (by decide) rfl rfl rfl (Nat.le_of_ble_eq_true rfl) (fun hM hS => h) (fun r M' hq hM => ?_)
      obtain ⟨m53, n53, rfl, rfl, h⟩ := rV_out hq
      refine wp_aload_n dX12_mixed_56 rfl rfl (by first | exact Or.inl (by decide) | exact Or.inl (by omega) | exact Or.inr (by decide) | exact Or.inr (by omega)) ?_
      refine wp_iload_n dX12_mixed_57 rfl rfl ?_
      refine wp_cVq (n := 1) (mt' := mX12_specName) (as := [vI l1]) (rest := []) _ dX12_mixed_58 lX12_383 kX12_specName vX12_specName (by decide) (by decide +kernel) rfl (Nat.le_of_ble_eq_true rfl) (by decide) rfl rfl rfl (Nat.le_of_ble_eq_true rfl) (fun hM hS => h) (fun r M' hq hM => ?_)
      obtain ⟨x58, m58, n58, rfl, rfl, h⟩ := rI_out hq
      refine wp_istore_n dX12_mixed_61 rfl (by decide) (wp_L (L' := [some (vR 124), some (vI l1), some (vI x58)]) rfl ?_)
      refine wp_aload_n dX12_mixed_62 rfl rfl (by first | exact Or.inl (by decide) | exact Or.inl (by omega) | exact Or.inr (by decide) | exact Or.inr (by omega)) ?_
      refine wp_cVq (n := 0) (mt' := mX12_maybeS) (as := []) (rest := []) _ dX12_mixed_63 lX12_300 kX12_maybeS vX12_maybeS (by decide) (by decide +kernel) rfl (Nat.le_of_ble_eq_true rfl) (by decide) rfl rfl rfl (Nat.le_of_ble_eq_true rfl) (fun hM hS => h) (fun r M' hq hM => ?_)
      obtain ⟨m63, n63, rfl, rfl, h⟩ := rV_out hq
      refine wp_goto (tgt := 22) dX12_mixed_66 (by decide) ?_
      refine wp_forget (L' := [some (vR 124), some (vI l1), none]) (by repeat' (first | exact trivial | refine ⟨rfl, ?_⟩)) ?_
      exact h
theorem v_X12_mixed_69 {cs : Cs} {Q : Option AV → Mm → Prop} {MI ML : Nat → Nat → Int} {d e nw th x : Nat} {l1 : Int}
    (h : wp cs mX12_passes KD (rI (GR d e nw th x) fun x72 m72 n72 => wp cs mX12_isGood KD (rI (GR d e nw th x) fun x77 m77 n77 => ((x77 = 0 → Q none (m77, n77, (GR d e nw th x))) ∧ (x77 ≠ 0 → (0 ≤ l1 ∧ l1 < 60) ∧ ((0 < (m77 147 l1.toNat) → wp cs mX12_passes KD (rI (GR d e nw th x) fun x108 m108 n108 => Q none (m108, n108, (GR d e nw th x))) 0 (padL [vR 124, vI 42] 2) [] (KD, m77, n77, (GR d e nw th x))) ∧ ((m77 147 l1.toNat) ≤ 0 → wp cs mX12_octet KD (rI (GR d e nw th x) fun x97 m97 n97 => ((x97 = 42 → wp cs mX12_passes KD (rI (GR d e nw th x) fun x108 m108 n108 => Q none (m108, n108, (GR d e nw th x))) 0 (padL [vR 124, vI 42] 2) [] (KD, m97, n97, (GR d e nw th x))) ∧ (x97 ≠ 42 → Q none (m97, n97, (GR d e nw th x))))) 0 (padL [vR 124, vI (m77 124 4)] 2) [] (KD, m77, n77, (GR d e nw th x))))))) 0 (padL [vR 124] 1) [] (KD, m72, n72, (GR d e nw th x))) 0 (padL [vR 124, vI 41] 2) [] (KD, MI, ML, (GR d e nw th x))) :
    wp cs mX12_mixed KD Q 69 [some (vR 124), some (vI l1), none] [] (KD, MI, ML, (GR d e nw th x)) := by
  refine wp_aload_n dX12_mixed_69 rfl rfl (by first | exact Or.inl (by decide) | exact Or.inl (by omega) | exact Or.inr (by decide) | exact Or.inr (by omega)) ?_
  refine wp_bipush dX12_mixed_70 (by decide +kernel) (by decide) ?_
  refine wp_cVq (n := 1) (mt' := mX12_passes) (as := [vI 41]) (rest := []) _ dX12_mixed_72 lX12_340 kX12_passes vX12_passes (by decide) (by decide +kernel) rfl (Nat.le_of_ble_eq_true rfl) (by decide) rfl rfl rfl (Nat.le_of_ble_eq_true rfl) (fun hM hS => h) (fun r M' hq hM => ?_)
  obtain ⟨x72, m72, n72, rfl, rfl, h⟩ := rI_out hq
  refine wp_istore_n dX12_mixed_75 rfl (by decide) (wp_L (L' := [some (vR 124), some (vI l1), some (vI x72)]) rfl ?_)
  refine wp_aload_n dX12_mixed_76 rfl rfl (by first | exact Or.inl (by decide) | exact Or.inl (by omega) | exact Or.inr (by decide) | exact Or.inr (by omega)) ?_
  refine wp_cVq (n := 0) (mt' := mX12_isGood) (as := []) (rest := []) _ dX12_mixed_77 lX12_289 kX12_isGood vX12_isGood (by decide) (by decide +kernel) rfl (Nat.le_of_ble_eq_true rfl) (by decide) rfl rfl rfl (Nat.le_of_ble_eq_true rfl) (fun hM hS => h) (fun r M' hq hM => ?_)
  obtain ⟨x77, m77, n77, rfl, rfl, h⟩ := rI_out hq
  refine wp_if_eq (tgt := 112) dX12_mixed_80 (by decide) (fun h80 => ?_) (fun h80 => ?_)
  · replace h := h.1 h80
    exact wp_vret dX12_mixed_112 rfl (fun _ => h)
  · replace h := h.2 h80
    refine wp_aload_n dX12_mixed_83 rfl rfl (by first | exact Or.inl (by decide) | exact Or.inl (by omega) | exact Or.inr (by decide) | exact Or.inr (by omega)) ?_
    refine wp_getR dX12_mixed_84 fX12_82 rfl (by decide) ?_
    refine wp_topR (x' := 147) rfl ?_
    refine wp_iload_n dX12_mixed_87 rfl rfl ?_
    have c0 := h.1
    replace h := h.2
    refine wp_iald dX12_mixed_88 rfl (by decide) c0 ?_
    refine wp_if_gt (tgt := 105) dX12_mixed_89 (by decide) (fun h89 => ?_) (fun h89 => ?_)
    · replace h := h.1 h89
      refine wp_aload_n dX12_mixed_105 rfl rfl (by first | exact Or.inl (by decide) | exact Or.inl (by omega) | exact Or.inr (by decide) | exact Or.inr (by omega)) ?_
      refine wp_bipush dX12_mixed_106 (by decide +kernel) (by decide) ?_
      refine wp_cVq (n := 1) (mt' := mX12_passes) (as := [vI 42]) (rest := []) _ dX12_mixed_108 lX12_340 kX12_passes vX12_passes (by decide) (by decide +kernel) rfl (Nat.le_of_ble_eq_true rfl) (by decide) rfl rfl rfl (Nat.le_of_ble_eq_true rfl) (fun hM hS => h) (fun r M' hq hM => ?_)
      obtain ⟨x108, m108, n108, rfl, rfl, h⟩ := rI_out hq
      refine wp_istore_n dX12_mixed_111 rfl (by decide) (wp_L (L' := [some (vR 124), some (vI l1), some (vI x108)]) rfl ?_)
      exact wp_vret dX12_mixed_112 rfl (fun _ => h)
    · replace h := h.2 h89
      refine wp_aload_n dX12_mixed_92 rfl rfl (by first | exact Or.inl (by decide) | exact Or.inl (by omega) | exact Or.inr (by decide) | exact Or.inr (by omega)) ?_
      refine wp_aload_n dX12_mixed_93 rfl rfl (by first | exact Or.inl (by decide) | exact Or.inl (by omega) | exact Or.inr (by decide) | exact Or.inr (by omega)) ?_
      refine wp_getI dX12_mixed_94 fX12_276 rfl (by decide) ?_
      refine wp_cVq (n := 1) (mt' := mX12_octet) (as := [vI (m77 124 4)]) (rest := []) _ dX12_mixed_97 lX12_279 kX12_octet vX12_octet (by decide) (by decide +kernel) rfl (Nat.le_of_ble_eq_true rfl) (by decide) rfl rfl rfl (Nat.le_of_ble_eq_true rfl) (fun hM hS => h) (fun r M' hq hM => ?_)
      obtain ⟨x97, m97, n97, rfl, rfl, h⟩ := rI_out hq
      refine wp_bipush dX12_mixed_100 (by decide +kernel) (by decide) ?_
      refine wp_icmp_ne (tgt := 112) dX12_mixed_102 (by decide) (fun h102 => ?_) (fun h102 => ?_)
      · replace h := h.2 h102
        exact wp_vret dX12_mixed_112 rfl (fun _ => h)
      · replace h := h.1 h102
        refine wp_aload_n dX12_mixed_105 rfl rfl (by first | exact Or.inl (by decide) | exact Or.inl (by omega) | exact Or.inr (by decide) | exact Or.inr (by omega)) ?_
        refine wp_bipush dX12_mixed_106 (by decide +kernel) (by decide) ?_
        refine wp_cVq (n := 1) (mt' := mX12_passes) (as := [vI 42]) (rest := []) _ dX12_mixed_108 lX12_340 kX12_passes vX12_passes (by decide) (by decide +kernel) rfl (Nat.le_of_ble_eq_true rfl) (by decide) rfl rfl rfl (Nat.le_of_ble_eq_true rfl) (fun hM hS => h) (fun r M' hq hM => ?_)
        obtain ⟨x108, m108, n108, rfl, rfl, h⟩ := rI_out hq
        refine wp_istore_n dX12_mixed_111 rfl (by decide) (wp_L (L' := [some (vR 124), some (vI l1), some (vI x108)]) rfl ?_)
        exact wp_vret dX12_mixed_112 rfl (fun _ => h)
theorem dX12_openGroup_0 : decode cX12_openGroup 0 = .ok (.aload_n 0, 1) := by decide +kernel
theorem dX12_openGroup_1 : decode cX12_openGroup 1 = .ok (.getfield 146, 3) := by decide +kernel
theorem dX12_openGroup_4 : decode cX12_openGroup 4 = .ok (.iload_n 1, 1) := by decide +kernel
theorem dX12_openGroup_5 : decode cX12_openGroup 5 = .ok (.iconst 0, 1) := by decide +kernel
theorem dX12_openGroup_6 : decode cX12_openGroup 6 = .ok (.iastore, 1) := by decide +kernel
theorem dX12_openGroup_7 : decode cX12_openGroup 7 = .ok (.aload_n 0, 1) := by decide +kernel
theorem dX12_openGroup_8 : decode cX12_openGroup 8 = .ok (.getfield 149, 3) := by decide +kernel
theorem dX12_openGroup_11 : decode cX12_openGroup 11 = .ok (.iload_n 1, 1) := by decide +kernel
theorem dX12_openGroup_12 : decode cX12_openGroup 12 = .ok (.iconst 0, 1) := by decide +kernel
theorem dX12_openGroup_13 : decode cX12_openGroup 13 = .ok (.bastore, 1) := by decide +kernel
theorem dX12_openGroup_14 : decode cX12_openGroup 14 = .ok (.return_, 1) := by decide +kernel
theorem v_X12_openGroup_0 {cs : Cs} {Q : Option AV → Mm → Prop} {MI ML : Nat → Nat → Int} {d e nw th x : Nat} {l1 : Int}
    (h : (0 ≤ l1 ∧ l1 < 8) ∧ ∀ m6, m6 = up2 MI 168 l1.toNat 0 → ∀ m13, m13 = up2 m6 169 l1.toNat 0 → Q none (m13, ML, (GR d e nw th x))) :
    wp cs mX12_openGroup KD Q 0 (padL [vR 124, vI l1] 2) [] (KD, MI, ML, (GR d e nw th x)) := by
  refine wp_L (L' := [some (vR 124), some (vI l1)]) rfl ?_
  refine wp_aload_n dX12_openGroup_0 rfl rfl (by first | exact Or.inl (by decide) | exact Or.inl (by omega) | exact Or.inr (by decide) | exact Or.inr (by omega)) ?_
  refine wp_getR dX12_openGroup_1 fX12_146 rfl (by decide) ?_
  refine wp_topR (x' := 168) rfl ?_
  refine wp_iload_n dX12_openGroup_4 rfl rfl ?_
  refine wp_iconst dX12_openGroup_5 (by decide) ?_
  have c0 := h.1
  replace h := h.2
  refine wp_iast dX12_openGroup_6 rfl (by decide) c0 ?_
  refine wp_gI (fun m6 e6 => ?_)
  replace h := h m6 e6
  refine wp_aload_n dX12_openGroup_7 rfl rfl (by first | exact Or.inl (by decide) | exact Or.inl (by omega) | exact Or.inr (by decide) | exact Or.inr (by omega)) ?_
  refine wp_getR dX12_openGroup_8 fX12_149 rfl (by decide) ?_
  refine wp_topR (x' := 169) rfl ?_
  refine wp_pc (pc' := 11) rfl ?_
  refine wp_iload_n dX12_openGroup_11 rfl rfl ?_
  refine wp_iconst dX12_openGroup_12 (by decide) ?_
  refine wp_zast dX12_openGroup_13 rfl (by decide) c0 (by decide) ?_
  refine wp_gI (fun m13 e13 => ?_)
  replace h := h m13 e13
  exact wp_vret dX12_openGroup_14 rfl (fun _ => h)
theorem dX12_joinFollows_0 : decode cX12_joinFollows 0 = .ok (.iconst 0, 1) := by decide +kernel
theorem dX12_joinFollows_1 : decode cX12_joinFollows 1 = .ok (.istore 6, 2) := by decide +kernel
theorem dX12_joinFollows_3 : decode cX12_joinFollows 3 = .ok (.iload 6, 2) := by decide +kernel
theorem dX12_joinFollows_5 : decode cX12_joinFollows 5 = .ok (.bipush 40, 2) := by decide +kernel
theorem dX12_joinFollows_7 : decode cX12_joinFollows 7 = .ok (.if_icmp .ge 37, 3) := by decide +kernel
theorem dX12_joinFollows_10 : decode cX12_joinFollows 10 = .ok (.lload_n 2, 1) := by decide +kernel
theorem dX12_joinFollows_11 : decode cX12_joinFollows 11 = .ok (.iload 6, 2) := by decide +kernel
theorem dX12_joinFollows_13 : decode cX12_joinFollows 13 = .ok (.lshr, 1) := by decide +kernel
theorem dX12_joinFollows_14 : decode cX12_joinFollows 14 = .ok (.lconst 1, 1) := by decide +kernel
theorem dX12_joinFollows_15 : decode cX12_joinFollows 15 = .ok (.land, 1) := by decide +kernel
theorem dX12_joinFollows_16 : decode cX12_joinFollows 16 = .ok (.lconst 1, 1) := by decide +kernel
theorem dX12_joinFollows_17 : decode cX12_joinFollows 17 = .ok (.lcmp, 1) := by decide +kernel
theorem dX12_joinFollows_18 : decode cX12_joinFollows 18 = .ok (.ifCond .ne 20, 3) := by decide +kernel
theorem dX12_joinFollows_21 : decode cX12_joinFollows 21 = .ok (.aload_n 0, 1) := by decide +kernel
theorem dX12_joinFollows_22 : decode cX12_joinFollows 22 = .ok (.getfield 101, 3) := by decide +kernel
theorem dX12_joinFollows_25 : decode cX12_joinFollows 25 = .ok (.bipush 40, 2) := by decide +kernel
theorem dX12_joinFollows_27 : decode cX12_joinFollows 27 = .ok (.iload_n 1, 1) := by decide +kernel
theorem dX12_joinFollows_28 : decode cX12_joinFollows 28 = .ok (.imul, 1) := by decide +kernel
theorem dX12_joinFollows_29 : decode cX12_joinFollows 29 = .ok (.iload 6, 2) := by decide +kernel
theorem dX12_joinFollows_31 : decode cX12_joinFollows 31 = .ok (.iadd, 1) := by decide +kernel
theorem dX12_joinFollows_32 : decode cX12_joinFollows 32 = .ok (.dup2, 1) := by decide +kernel
theorem dX12_joinFollows_33 : decode cX12_joinFollows 33 = .ok (.laload, 1) := by decide +kernel
theorem dX12_joinFollows_34 : decode cX12_joinFollows 34 = .ok (.lload 4, 2) := by decide +kernel
theorem dX12_joinFollows_36 : decode cX12_joinFollows 36 = .ok (.lor, 1) := by decide +kernel
theorem dX12_joinFollows_37 : decode cX12_joinFollows 37 = .ok (.lastore, 1) := by decide +kernel
theorem dX12_joinFollows_38 : decode cX12_joinFollows 38 = .ok (.iinc 6 1, 3) := by decide +kernel
theorem dX12_joinFollows_41 : decode cX12_joinFollows 41 = .ok (.goto (-38), 3) := by decide +kernel
theorem dX12_joinFollows_44 : decode cX12_joinFollows 44 = .ok (.return_, 1) := by decide +kernel
theorem v_X12_joinFollows_0 {cs : Cs} {Q : Option AV → Mm → Prop} {MI ML : Nat → Nat → Int} {d e nw th x : Nat} {l1 l2 l4 : Int}
    (h : wp cs mX12_joinFollows KD Q 3 [some (vR 124), some (vI l1), some (vL l2), none, some (vL l4), none, some (vI 0)] [] (KD, MI, ML, (GR d e nw th x))) :
    wp cs mX12_joinFollows KD Q 0 (padL [vR 124, vI l1, vL l2, vL l4] 7) [] (KD, MI, ML, (GR d e nw th x)) := by
  refine wp_L (L' := [some (vR 124), some (vI l1), some (vL l2), none, some (vL l4), none, none]) rfl ?_
  refine wp_iconst dX12_joinFollows_0 (by decide) ?_
  refine wp_istore dX12_joinFollows_1 (by decide) (wp_L (L' := [some (vR 124), some (vI l1), some (vL l2), none, some (vL l4), none, some (vI 0)]) rfl ?_)
  exact h
theorem v_X12_joinFollows_3 {cs : Cs} {Q : Option AV → Mm → Prop} {MI ML : Nat → Nat → Int} {d e nw th x : Nat} {l1 l2 l4 l6 : Int}
    (h : ((l6 < 40 → (((l_and (l_shr l2 l6) 1) = 1 → (-2147483648 ≤ 40 * l1 ∧ 40 * l1 < 2147483648) ∧ (-2147483648 ≤ (40 * l1) + l6 ∧ (40 * l1) + l6 < 2147483648) ∧ (0 ≤ ((40 * l1) + l6) ∧ ((40 * l1) + l6) < 2400) ∧ ∀ n37, n37 = up2 ML 153 ((40 * l1) + l6).toNat (l_or (ML 153 ((40 * l1) + l6).toNat) l4) → (-2147483648 ≤ l6 + 1 ∧ l6 + 1 < 2147483648) ∧ wp cs mX12_joinFollows KD Q 3 [some (vR 124), some (vI l1), some (vL l2), none, some (vL l4), none, some (vI (l6 + 1))] [] (KD, MI, n37, (GR d e nw th x))) ∧ ((l_and (l_shr l2 l6) 1) ≠ 1 → (-2147483648 ≤ l6 + 1 ∧ l6 + 1 < 2147483648) ∧ wp cs mX12_joinFollows KD Q 3 [some (vR 124), some (vI l1), some (vL l2), none, some (vL l4), none, some (vI (l6 + 1))] [] (KD, MI, ML, (GR d e nw th x))))) ∧ (40 ≤ l6 → Q none (MI, ML, (GR d e nw th x))))) :
    wp cs mX12_joinFollows KD Q 3 [some (vR 124), some (vI l1), some (vL l2), none, some (vL l4), none, some (vI l6)] [] (KD, MI, ML, (GR d e nw th x)) := by
  refine wp_iload dX12_joinFollows_3 rfl ?_
  refine wp_bipush dX12_joinFollows_5 (by decide +kernel) (by decide) ?_
  refine wp_icmp_ge (tgt := 44) dX12_joinFollows_7 (by decide) (fun h7 => ?_) (fun h7 => ?_)
  · replace h := h.2 h7
    exact wp_vret dX12_joinFollows_44 rfl (fun _ => h)
  · replace h := h.1 h7
    refine wp_lload_n dX12_joinFollows_10 rfl rfl ?_
    refine wp_iload dX12_joinFollows_11 rfl ?_
    refine wp_lshr dX12_joinFollows_13 ?_
    refine wp_lconst (z := 1) dX12_joinFollows_14 (by decide +kernel) (by decide) ?_
    refine wp_land dX12_joinFollows_15 ?_
    refine wp_lconst (z := 1) dX12_joinFollows_16 (by decide +kernel) (by decide) ?_
    refine wp_lcmp dX12_joinFollows_17 ?_
    refine wp_pc (pc' := 18) rfl ?_
    refine wp_if_ne (tgt := 38) dX12_joinFollows_18 (by decide) (fun h18 => ?_) (fun h18 => ?_)
    · replace h := h.2 (l_cmp_nz h18)
      have c0 := h.1
      replace h := h.2
      refine wp_iincr dX12_joinFollows_38 rfl (by decide) c0 (wp_L (L' := [some (vR 124), some (vI l1), some (vL l2), none, some (vL l4), none, some (vI (l6 + 1))]) rfl ?_)
      refine wp_goto (tgt := 3) dX12_joinFollows_41 (by decide) ?_
      exact h
    · replace h := h.1 (l_cmp_z h18)
      refine wp_aload_n dX12_joinFollows_21 rfl rfl (by first | exact Or.inl (by decide) | exact Or.inl (by omega) | exact Or.inr (by decide) | exact Or.inr (by omega)) ?_
      refine wp_getR dX12_joinFollows_22 fX12_101 rfl (by decide) ?_
      refine wp_topR (x' := 153) rfl ?_
      refine wp_bipush dX12_joinFollows_25 (by decide +kernel) (by decide) ?_
      refine wp_iload_n dX12_joinFollows_27 rfl rfl ?_
      have c0 := h.1
      replace h := h.2
      refine wp_imulr dX12_joinFollows_28 c0 ?_
      refine wp_iload dX12_joinFollows_29 rfl ?_
      have c1 := h.1
      replace h := h.2
      refine wp_iaddr dX12_joinFollows_31 c1 ?_
      refine wp_pc (pc' := 32) rfl ?_
      refine wp_dup2 dX12_joinFollows_32 (fun x e => by cases e) (fun x e => by cases e) ?_
      have c2 := h.1
      replace h := h.2
      refine wp_lald dX12_joinFollows_33 rfl (by decide) c2 ?_
      refine wp_lload dX12_joinFollows_34 rfl ?_
      refine wp_lor dX12_joinFollows_36 ?_
      refine wp_last dX12_joinFollows_37 rfl (by decide) c2 ?_
      refine wp_gL (fun n37 e37 => ?_)
      replace h := h n37 e37
      have c3 := h.1
      replace h := h.2
      refine wp_iincr dX12_joinFollows_38 rfl (by decide) c3 (wp_L (L' := [some (vR 124), some (vI l1), some (vL l2), none, some (vL l4), none, some (vI (l6 + 1))]) rfl ?_)
      refine wp_goto (tgt := 3) dX12_joinFollows_41 (by decide) ?_
      exact h
theorem dX12_mark_0 : decode cX12_mark 0 = .ok (.aload_n 0, 1) := by decide +kernel
theorem dX12_mark_1 : decode cX12_mark 1 = .ok (.aload_n 0, 1) := by decide +kernel
theorem dX12_mark_2 : decode cX12_mark 2 = .ok (.getfield 276, 3) := by decide +kernel
theorem dX12_mark_5 : decode cX12_mark 5 = .ok (.invokevirtual 279, 3) := by decide +kernel
theorem dX12_mark_8 : decode cX12_mark 8 = .ok (.istore_n 2, 1) := by decide +kernel
theorem dX12_mark_9 : decode cX12_mark 9 = .ok (.aload_n 0, 1) := by decide +kernel
theorem dX12_mark_10 : decode cX12_mark 10 = .ok (.invokevirtual 289, 3) := by decide +kernel
theorem dX12_mark_13 : decode cX12_mark 13 = .ok (.ifCond .eq 21, 3) := by decide +kernel
theorem dX12_mark_16 : decode cX12_mark 16 = .ok (.iload_n 2, 1) := by decide +kernel
theorem dX12_mark_17 : decode cX12_mark 17 = .ok (.bipush 63, 2) := by decide +kernel
theorem dX12_mark_19 : decode cX12_mark 19 = .ok (.if_icmp .eq 16, 3) := by decide +kernel
theorem dX12_mark_22 : decode cX12_mark 22 = .ok (.iload_n 2, 1) := by decide +kernel
theorem dX12_mark_23 : decode cX12_mark 23 = .ok (.bipush 42, 2) := by decide +kernel
theorem dX12_mark_25 : decode cX12_mark 25 = .ok (.if_icmp .eq 10, 3) := by decide +kernel
theorem dX12_mark_28 : decode cX12_mark 28 = .ok (.iload_n 2, 1) := by decide +kernel
theorem dX12_mark_29 : decode cX12_mark 29 = .ok (.bipush 43, 2) := by decide +kernel
theorem dX12_mark_31 : decode cX12_mark 31 = .ok (.if_icmp .eq 4, 3) := by decide +kernel
theorem dX12_mark_34 : decode cX12_mark 34 = .ok (.return_, 1) := by decide +kernel
theorem dX12_mark_35 : decode cX12_mark 35 = .ok (.aload_n 0, 1) := by decide +kernel
theorem dX12_mark_36 : decode cX12_mark 36 = .ok (.dup, 1) := by decide +kernel
theorem dX12_mark_37 : decode cX12_mark 37 = .ok (.getfield 276, 3) := by decide +kernel
theorem dX12_mark_40 : decode cX12_mark 40 = .ok (.iconst 1, 1) := by decide +kernel
theorem dX12_mark_41 : decode cX12_mark 41 = .ok (.iadd, 1) := by decide +kernel
theorem dX12_mark_42 : decode cX12_mark 42 = .ok (.putfield 276, 3) := by decide +kernel
theorem dX12_mark_45 : decode cX12_mark 45 = .ok (.iload_n 2, 1) := by decide +kernel
theorem dX12_mark_46 : decode cX12_mark 46 = .ok (.bipush 63, 2) := by decide +kernel
theorem dX12_mark_48 : decode cX12_mark 48 = .ok (.if_icmp .eq 16, 3) := by decide +kernel
theorem dX12_mark_51 : decode cX12_mark 51 = .ok (.aload_n 0, 1) := by decide +kernel
theorem dX12_mark_52 : decode cX12_mark 52 = .ok (.iload_n 1, 1) := by decide +kernel
theorem dX12_mark_53 : decode cX12_mark 53 = .ok (.aload_n 0, 1) := by decide +kernel
theorem dX12_mark_54 : decode cX12_mark 54 = .ok (.getfield 386, 3) := by decide +kernel
theorem dX12_mark_57 : decode cX12_mark 57 = .ok (.aload_n 0, 1) := by decide +kernel
theorem dX12_mark_58 : decode cX12_mark 58 = .ok (.getfield 390, 3) := by decide +kernel
theorem dX12_mark_61 : decode cX12_mark 61 = .ok (.invokevirtual 393, 3) := by decide +kernel
theorem dX12_mark_64 : decode cX12_mark 64 = .ok (.aload_n 0, 1) := by decide +kernel
theorem dX12_mark_65 : decode cX12_mark 65 = .ok (.aload_n 0, 1) := by decide +kernel
theorem dX12_mark_66 : decode cX12_mark 66 = .ok (.getfield 397, 3) := by decide +kernel
theorem dX12_mark_69 : decode cX12_mark 69 = .ok (.ifCond .ne 9, 3) := by decide +kernel
theorem dX12_mark_72 : decode cX12_mark 72 = .ok (.iload_n 2, 1) := by decide +kernel
theorem dX12_mark_73 : decode cX12_mark 73 = .ok (.bipush 43, 2) := by decide +kernel
theorem dX12_mark_75 : decode cX12_mark 75 = .ok (.if_icmp .eq 7, 3) := by decide +kernel
theorem dX12_mark_78 : decode cX12_mark 78 = .ok (.iconst 1, 1) := by decide +kernel
theorem dX12_mark_79 : decode cX12_mark 79 = .ok (.goto 4, 3) := by decide +kernel
theorem dX12_mark_82 : decode cX12_mark 82 = .ok (.iconst 0, 1) := by decide +kernel
theorem dX12_mark_83 : decode cX12_mark 83 = .ok (.putfield 397, 3) := by decide +kernel
theorem dX12_mark_86 : decode cX12_mark 86 = .ok (.return_, 1) := by decide +kernel
theorem v_X12_mark_0 {cs : Cs} {Q : Option AV → Mm → Prop} {MI ML : Nat → Nat → Int} {d e nw th x : Nat} {l1 : Int}
    (h : wp cs mX12_octet KD (rI (GR d e nw th x) fun x5 m5 n5 => wp cs mX12_isGood KD (rI (GR d e nw th x) fun x10 m10 n10 => ((x10 = 0 → Q none (m10, n10, (GR d e nw th x))) ∧ (x10 ≠ 0 → ((x5 = 63 → wp cs mX12_mark KD Q 35 [some (vR 124), some (vI l1), some (vI x5)] [] (KD, m10, n10, (GR d e nw th x))) ∧ (x5 ≠ 63 → ((x5 = 42 → wp cs mX12_mark KD Q 35 [some (vR 124), some (vI l1), some (vI x5)] [] (KD, m10, n10, (GR d e nw th x))) ∧ (x5 ≠ 42 → ((x5 = 43 → wp cs mX12_mark KD Q 35 [some (vR 124), some (vI l1), some (vI x5)] [] (KD, m10, n10, (GR d e nw th x))) ∧ (x5 ≠ 43 → Q none (m10, n10, (GR d e nw th x))))))))))) 0 (padL [vR 124] 1) [] (KD, m5, n5, (GR d e nw th x))) 0 (padL [vR 124, vI (MI 124 4)] 2) [] (KD, MI, ML, (GR d e nw th x))) :
    wp cs mX12_mark KD Q 0 (padL [vR 124, vI l1] 3) [] (KD, MI, ML, (GR d e nw th x)) := by
  refine wp_L (L' := [some (vR 124), some (vI l1), none]) rfl ?_
  refine wp_aload_n dX12_mark_0 rfl rfl (by first | exact Or.inl (by decide) | exact Or.inl (by omega) | exact Or.inr (by decide) | exact Or.inr (by omega)) ?_
  refine wp_aload_n dX12_mark_1 rfl rfl (by first | exact Or.inl (by decide) | exact Or.inl (by omega) | exact Or.inr (by decide) | exact Or.inr (by omega)) ?_
  refine wp_getI dX12_mark_2 fX12_276 rfl (by decide) ?_
  refine wp_cVq (n := 1) (mt' := mX12_octet) (as := [vI (MI 124 4)]) (rest := []) _ dX12_mark_5 lX12_279 kX12_octet vX12_octet (by decide) (by decide +kernel) rfl (Nat.le_of_ble_eq_true rfl) (by decide) rfl rfl rfl (Nat.le_of_ble_eq_true rfl) (fun hM hS => h) (fun r M' hq hM => ?_)
  obtain ⟨x5, m5, n5, rfl, rfl, h⟩ := rI_out hq
  refine wp_istore_n dX12_mark_8 rfl (by decide) (wp_L (L' := [some (vR 124), some (vI l1), some (vI x5)]) rfl ?_)
  refine wp_aload_n dX12_mark_9 rfl rfl (by first | exact Or.inl (by decide) | exact Or.inl (by omega) | exact Or.inr (by decide) | exact Or.inr (by omega)) ?_
  refine wp_cVq (n := 0) (mt' := mX12_isGood) (as := []) (rest := []) _ dX12_mark_10 lX12_289 kX12_isGood vX12_isGood (by decide) (by decide +kernel) rfl (Nat.le_of_ble_eq_true rfl) (by decide) rfl rfl rfl (Nat.le_of_ble_eq_true rfl) (fun hM hS => h) (fun r M' hq hM => ?_)
  obtain ⟨x10, m10, n10, rfl, rfl, h⟩ := rI_out hq
  refine wp_if_eq (tgt := 34) dX12_mark_13 (by decide) (fun h13 => ?_) (fun h13 => ?_)
  · replace h := h.1 h13
    exact wp_vret dX12_mark_34 rfl (fun _ => h)
  · replace h := h.2 h13
    refine wp_iload_n dX12_mark_16 rfl rfl ?_
    refine wp_bipush dX12_mark_17 (by decide +kernel) (by decide) ?_
    refine wp_icmp_eq (tgt := 35) dX12_mark_19 (by decide) (fun h19 => ?_) (fun h19 => ?_)
    · replace h := h.1 h19
      exact h
    · replace h := h.2 h19
      refine wp_iload_n dX12_mark_22 rfl rfl ?_
      refine wp_bipush dX12_mark_23 (by decide +kernel) (by decide) ?_
      refine wp_icmp_eq (tgt := 35) dX12_mark_25 (by decide) (fun h25 => ?_) (fun h25 => ?_)
      · replace h := h.1 h25
        exact h
      · replace h := h.2 h25
        refine wp_iload_n dX12_mark_28 rfl rfl ?_
        refine wp_bipush dX12_mark_29 (by decide +kernel) (by decide) ?_
        refine wp_icmp_eq (tgt := 35) dX12_mark_31 (by decide) (fun h31 => ?_) (fun h31 => ?_)
        · replace h := h.1 h31
          exact h
        · replace h := h.2 h31
          exact wp_vret dX12_mark_34 rfl (fun _ => h)
theorem v_X12_mark_35 {cs : Cs} {Q : Option AV → Mm → Prop} {MI ML : Nat → Nat → Int} {d e nw th x : Nat} {l1 l2 : Int}
    (h : (-2147483648 ≤ (MI 124 4) + 1 ∧ (MI 124 4) + 1 < 2147483648) ∧ ∀ m42, m42 = up2 MI 124 4 ((MI 124 4) + 1) → ((l2 = 63 → wp cs mX12_mark KD Q 64 [some (vR 124), some (vI l1), some (vI l2)] [] (KD, m42, ML, (GR d e nw th x))) ∧ (l2 ≠ 63 → wp cs mX12_joinFollows KD (rV (GR d e nw th x) fun m61 n61 => wp cs mX12_mark KD Q 64 [some (vR 124), some (vI l1), some (vI l2)] [] (KD, m61, n61, (GR d e nw th x))) 0 (padL [vR 124, vI l1, vL (ML 124 61), vL (ML 124 60)] 7) [] (KD, m42, ML, (GR d e nw th x))))) :
    wp cs mX12_mark KD Q 35 [some (vR 124), some (vI l1), some (vI l2)] [] (KD, MI, ML, (GR d e nw th x)) := by
  refine wp_aload_n dX12_mark_35 rfl rfl (by first | exact Or.inl (by decide) | exact Or.inl (by omega) | exact Or.inr (by decide) | exact Or.inr (by omega)) ?_
  refine wp_dup dX12_mark_36 (fun x e => by cases e) ?_
  refine wp_getI dX12_mark_37 fX12_276 rfl (by decide) ?_
  refine wp_iconst dX12_mark_40 (by decide) ?_
  have c0 := h.1
  replace h := h.2
  refine wp_iaddr dX12_mark_41 c0 ?_
  refine wp_putI dX12_mark_42 pX12_276 rfl (by decide) ?_
  refine wp_gI (fun m42 e42 => ?_)
  replace h := h m42 e42
  refine wp_iload_n dX12_mark_45 rfl rfl ?_
  refine wp_pc (pc' := 46) rfl ?_
  refine wp_bipush dX12_mark_46 (by decide +kernel) (by decide) ?_
  refine wp_icmp_eq (tgt := 64) dX12_mark_48 (by decide) (fun h48 => ?_) (fun h48 => ?_)
  · replace h := h.1 h48
    exact h
  · replace h := h.2 h48
    refine wp_aload_n dX12_mark_51 rfl rfl (by first | exact Or.inl (by decide) | exact Or.inl (by omega) | exact Or.inr (by decide) | exact Or.inr (by omega)) ?_
    refine wp_iload_n dX12_mark_52 rfl rfl ?_
    refine wp_aload_n dX12_mark_53 rfl rfl (by first | exact Or.inl (by decide) | exact Or.inl (by omega) | exact Or.inr (by decide) | exact Or.inr (by omega)) ?_
    refine wp_getL dX12_mark_54 fX12_386 rfl (by decide) ?_
    refine wp_aload_n dX12_mark_57 rfl rfl (by first | exact Or.inl (by decide) | exact Or.inl (by omega) | exact Or.inr (by decide) | exact Or.inr (by omega)) ?_
    refine wp_getL dX12_mark_58 fX12_390 rfl (by decide) ?_
    refine wp_cVq (n := 3) (mt' := mX12_joinFollows) (as := [vI l1, vL (ML 124 61), vL (ML 124 60)]) (rest := []) _ dX12_mark_61 lX12_393 kX12_joinFollows vX12_joinFollows (by decide) (by decide +kernel) rfl (Nat.le_of_ble_eq_true rfl) (by decide) rfl rfl rfl (Nat.le_of_ble_eq_true rfl) (fun hM hS => h) (fun r M' hq hM => ?_)
    obtain ⟨m61, n61, rfl, rfl, h⟩ := rV_out hq
    exact h
theorem v_X12_mark_64 {cs : Cs} {Q : Option AV → Mm → Prop} {MI ML : Nat → Nat → Int} {d e nw th x : Nat} {l1 l2 : Int}
    (h : (((MI 124 59) = 0 → ((l2 = 43 → ∀ m83, m83 = up2 MI 124 59 0 → Q none (m83, ML, (GR d e nw th x))) ∧ (l2 ≠ 43 → ∀ m83, m83 = up2 MI 124 59 1 → Q none (m83, ML, (GR d e nw th x))))) ∧ ((MI 124 59) ≠ 0 → ∀ m83, m83 = up2 MI 124 59 1 → Q none (m83, ML, (GR d e nw th x))))) :
    wp cs mX12_mark KD Q 64 [some (vR 124), some (vI l1), some (vI l2)] [] (KD, MI, ML, (GR d e nw th x)) := by
  refine wp_aload_n dX12_mark_64 rfl rfl (by first | exact Or.inl (by decide) | exact Or.inl (by omega) | exact Or.inr (by decide) | exact Or.inr (by omega)) ?_
  refine wp_aload_n dX12_mark_65 rfl rfl (by first | exact Or.inl (by decide) | exact Or.inl (by omega) | exact Or.inr (by decide) | exact Or.inr (by omega)) ?_
  refine wp_getI dX12_mark_66 fX12_397 rfl (by decide) ?_
  refine wp_if_ne (tgt := 78) dX12_mark_69 (by decide) (fun h69 => ?_) (fun h69 => ?_)
  · replace h := h.2 h69
    refine wp_iconst dX12_mark_78 (by decide) ?_
    refine wp_goto (tgt := 83) dX12_mark_79 (by decide) ?_
    refine wp_putZ dX12_mark_83 pX12_397 rfl (by decide) (by decide) ?_
    refine wp_gI (fun m83 e83 => ?_)
    replace h := h m83 e83
    exact wp_vret dX12_mark_86 rfl (fun _ => h)
  · replace h := h.1 h69
    refine wp_iload_n dX12_mark_72 rfl rfl ?_
    refine wp_bipush dX12_mark_73 (by decide +kernel) (by decide) ?_
    refine wp_icmp_eq (tgt := 82) dX12_mark_75 (by decide) (fun h75 => ?_) (fun h75 => ?_)
    · replace h := h.1 h75
      refine wp_iconst dX12_mark_82 (by decide) ?_
      refine wp_putZ dX12_mark_83 pX12_397 rfl (by decide) (by decide) ?_
      refine wp_gI (fun m83 e83 => ?_)
      replace h := h m83 e83
      exact wp_vret dX12_mark_86 rfl (fun _ => h)
    · replace h := h.2 h75
      refine wp_iconst dX12_mark_78 (by decide) ?_
      refine wp_goto (tgt := 83) dX12_mark_79 (by decide) ?_
      refine wp_putZ dX12_mark_83 pX12_397 rfl (by decide) (by decide) ?_
      refine wp_gI (fun m83 e83 => ?_)
      replace h := h m83 e83
      exact wp_vret dX12_mark_86 rfl (fun _ => h)
