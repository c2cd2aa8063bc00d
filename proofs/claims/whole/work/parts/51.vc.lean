theorem dX6_parse_0 : decode cX6_parse 0 = .ok (.aload_n 0, 1) := by decide +kernel
theorem dX6_parse_1 : decode cX6_parse 1 = .ok (.iconst 0, 1) := by decide +kernel
theorem dX6_parse_2 : decode cX6_parse 2 = .ok (.putfield 37, 3) := by decide +kernel
theorem dX6_parse_5 : decode cX6_parse 5 = .ok (.aload_n 0, 1) := by decide +kernel
theorem dX6_parse_6 : decode cX6_parse 6 = .ok (.getfield 45, 3) := by decide +kernel
theorem dX6_parse_9 : decode cX6_parse 9 = .ok (.ldc 54, 2) := by decide +kernel
theorem dX6_parse_11 : decode cX6_parse 11 = .ok (.invokevirtual 56, 3) := by decide +kernel
theorem dX6_parse_14 : decode cX6_parse 14 = .ok (.istore_n 2, 1) := by decide +kernel
theorem dX6_parse_15 : decode cX6_parse 15 = .ok (.aload_n 0, 1) := by decide +kernel
theorem dX6_parse_16 : decode cX6_parse 16 = .ok (.iload_n 2, 1) := by decide +kernel
theorem dX6_parse_17 : decode cX6_parse 17 = .ok (.ifCond .ne 15, 3) := by decide +kernel
theorem dX6_parse_20 : decode cX6_parse 20 = .ok (.aload_n 0, 1) := by decide +kernel
theorem dX6_parse_21 : decode cX6_parse 21 = .ok (.getfield 45, 3) := by decide +kernel
theorem dX6_parse_24 : decode cX6_parse 24 = .ok (.ldc 60, 2) := by decide +kernel
theorem dX6_parse_26 : decode cX6_parse 26 = .ok (.invokevirtual 56, 3) := by decide +kernel
theorem dX6_parse_29 : decode cX6_parse 29 = .ok (.ifCond .eq 7, 3) := by decide +kernel
theorem dX6_parse_32 : decode cX6_parse 32 = .ok (.iconst 1, 1) := by decide +kernel
theorem dX6_parse_33 : decode cX6_parse 33 = .ok (.goto 4, 3) := by decide +kernel
theorem dX6_parse_36 : decode cX6_parse 36 = .ok (.iconst 0, 1) := by decide +kernel
theorem dX6_parse_37 : decode cX6_parse 37 = .ok (.putfield 41, 3) := by decide +kernel
theorem dX6_parse_40 : decode cX6_parse 40 = .ok (.aload_n 0, 1) := by decide +kernel
theorem dX6_parse_41 : decode cX6_parse 41 = .ok (.getfield 41, 3) := by decide +kernel
theorem dX6_parse_44 : decode cX6_parse 44 = .ok (.ifCond .eq 20, 3) := by decide +kernel
theorem dX6_parse_47 : decode cX6_parse 47 = .ok (.iload_n 2, 1) := by decide +kernel
theorem dX6_parse_48 : decode cX6_parse 48 = .ok (.ifCond .ne 16, 3) := by decide +kernel
theorem dX6_parse_51 : decode cX6_parse 51 = .ok (.aload_n 0, 1) := by decide +kernel
theorem dX6_parse_52 : decode cX6_parse 52 = .ok (.getfield 45, 3) := by decide +kernel
theorem dX6_parse_55 : decode cX6_parse 55 = .ok (.invokevirtual 62, 3) := by decide +kernel
theorem dX6_parse_58 : decode cX6_parse 58 = .ok (.iconst (-1), 1) := by decide +kernel
theorem dX6_parse_59 : decode cX6_parse 59 = .ok (.if_icmp .ne 5, 3) := by decide +kernel
theorem dX6_parse_62 : decode cX6_parse 62 = .ok (.iconst 1, 1) := by decide +kernel
theorem dX6_parse_63 : decode cX6_parse 63 = .ok (.ireturn, 1) := by decide +kernel
theorem dX6_parse_64 : decode cX6_parse 64 = .ok (.iconst 0, 1) := by decide +kernel
theorem dX6_parse_65 : decode cX6_parse 65 = .ok (.istore_n 3, 1) := by decide +kernel
theorem dX6_parse_66 : decode cX6_parse 66 = .ok (.iload_n 3, 1) := by decide +kernel
theorem dX6_parse_67 : decode cX6_parse 67 = .ok (.bipush 12, 2) := by decide +kernel
theorem dX6_parse_69 : decode cX6_parse 69 = .ok (.if_icmp .gt 61, 3) := by decide +kernel
theorem dX6_parse_72 : decode cX6_parse 72 = .ok (.aload_n 0, 1) := by decide +kernel
theorem dX6_parse_73 : decode cX6_parse 73 = .ok (.aload_n 1, 1) := by decide +kernel
theorem dX6_parse_74 : decode cX6_parse 74 = .ok (.iload_n 2, 1) := by decide +kernel
theorem dX6_parse_75 : decode cX6_parse 75 = .ok (.invokevirtual 66, 3) := by decide +kernel
theorem dX6_parse_78 : decode cX6_parse 78 = .ok (.ifCond .ne 5, 3) := by decide +kernel
theorem dX6_parse_81 : decode cX6_parse 81 = .ok (.iconst 0, 1) := by decide +kernel
theorem dX6_parse_82 : decode cX6_parse 82 = .ok (.ireturn, 1) := by decide +kernel
theorem dX6_parse_83 : decode cX6_parse 83 = .ok (.aload_n 0, 1) := by decide +kernel
theorem dX6_parse_84 : decode cX6_parse 84 = .ok (.getfield 45, 3) := by decide +kernel
theorem dX6_parse_87 : decode cX6_parse 87 = .ok (.invokevirtual 62, 3) := by decide +kernel
theorem dX6_parse_90 : decode cX6_parse 90 = .ok (.iconst (-1), 1) := by decide +kernel
theorem dX6_parse_91 : decode cX6_parse 91 = .ok (.if_icmp .ne 5, 3) := by decide +kernel
theorem dX6_parse_94 : decode cX6_parse 94 = .ok (.iconst 1, 1) := by decide +kernel
theorem dX6_parse_95 : decode cX6_parse 95 = .ok (.ireturn, 1) := by decide +kernel
theorem dX6_parse_96 : decode cX6_parse 96 = .ok (.aload_n 0, 1) := by decide +kernel
theorem dX6_parse_97 : decode cX6_parse 97 = .ok (.getfield 45, 3) := by decide +kernel
theorem dX6_parse_100 : decode cX6_parse 100 = .ok (.ldc 54, 2) := by decide +kernel
theorem dX6_parse_102 : decode cX6_parse 102 = .ok (.invokevirtual 56, 3) := by decide +kernel
theorem dX6_parse_105 : decode cX6_parse 105 = .ok (.istore_n 2, 1) := by decide +kernel
theorem dX6_parse_106 : decode cX6_parse 106 = .ok (.iload_n 2, 1) := by decide +kernel
theorem dX6_parse_107 : decode cX6_parse 107 = .ok (.ifCond .ne 17, 3) := by decide +kernel
theorem dX6_parse_110 : decode cX6_parse 110 = .ok (.aload_n 0, 1) := by decide +kernel
theorem dX6_parse_111 : decode cX6_parse 111 = .ok (.getfield 45, 3) := by decide +kernel
theorem dX6_parse_114 : decode cX6_parse 114 = .ok (.ldc 60, 2) := by decide +kernel
theorem dX6_parse_116 : decode cX6_parse 116 = .ok (.invokevirtual 70, 3) := by decide +kernel
theorem dX6_parse_119 : decode cX6_parse 119 = .ok (.ifCond .ne 5, 3) := by decide +kernel
theorem dX6_parse_122 : decode cX6_parse 122 = .ok (.iconst 0, 1) := by decide +kernel
theorem dX6_parse_123 : decode cX6_parse 123 = .ok (.ireturn, 1) := by decide +kernel
theorem dX6_parse_124 : decode cX6_parse 124 = .ok (.iinc 3 1, 3) := by decide +kernel
theorem dX6_parse_127 : decode cX6_parse 127 = .ok (.goto (-61), 3) := by decide +kernel
theorem dX6_parse_130 : decode cX6_parse 130 = .ok (.iconst 0, 1) := by decide +kernel
theorem dX6_parse_131 : decode cX6_parse 131 = .ok (.ireturn, 1) := by decide +kernel
theorem v_X6_parse_0 {cs : Cs} {Q : Option AV → Mm → Prop} {MI ML : Nat → Nat → Int} {b d e nw th : Nat} (hbd : b = 38 ∨ b = 81)
    (h : ∀ m2, m2 = up2 MI 14 9 0 → wp cs mX1_takeIf KD (rI (GR d e nw th 1) fun x11 m11 n11 => ((x11 = 0 → wp cs mX1_takeIf KD (rI (GR d e nw th 1) fun x26 m26 n26 => ((x26 = 0 → wp cs mX6_parse KD Q 37 [some (vR 14), some (vR (b + 1)), some (vI x11), none] [vI 0, vR 14] (KD, m26, n26, (GR d e nw th 1))) ∧ (x26 ≠ 0 → wp cs mX6_parse KD Q 37 [some (vR 14), some (vR (b + 1)), some (vI x11), none] [vI 1, vR 14] (KD, m26, n26, (GR d e nw th 1))))) 0 (padL [vR 2, vR 1000035] 4) [] (KD, m11, n11, (GR d e nw th 1))) ∧ (x11 ≠ 0 → wp cs mX6_parse KD Q 37 [some (vR 14), some (vR (b + 1)), some (vI x11), none] [vI 1, vR 14] (KD, m11, n11, (GR d e nw th 1))))) 0 (padL [vR 2, vR 1000034] 4) [] (KD, m2, ML, (GR d e nw th 1))) :
    wp cs mX6_parse KD Q 0 (padL [vR 14, vR (b + 1)] 4) [] (KD, MI, ML, (GR d e nw th 1)) := by
  refine wp_L (L' := [some (vR 14), some (vR (b + 1)), none, none]) rfl ?_
  refine wp_aload_n dX6_parse_0 rfl rfl (by first | exact Or.inl (by decide) | exact Or.inl (by omega) | exact Or.inr (by decide) | exact Or.inr (by omega)) ?_
  refine wp_iconst dX6_parse_1 (by decide) ?_
  refine wp_putI dX6_parse_2 pX6_37 rfl (by decide) ?_
  refine wp_gI (fun m2 e2 => ?_)
  replace h := h m2 e2
  refine wp_aload_n dX6_parse_5 rfl rfl (by first | exact Or.inl (by decide) | exact Or.inl (by omega) | exact Or.inr (by decide) | exact Or.inr (by omega)) ?_
  refine wp_getR dX6_parse_6 fX6_45 rfl (by decide) ?_
  refine wp_topR (x' := 2) rfl ?_
  refine wp_ldcS (k := 31) dX6_parse_9 cX6_54 ?_
  refine wp_cVq (n := 1) (mt' := mX1_takeIf) (as := [vR 1000034]) (rest := []) _ dX6_parse_11 lX6_56 kX1_takeIf vX1_takeIf (by decide) (by decide +kernel) rfl (Nat.le_of_ble_eq_true rfl) (by decide) rfl rfl rfl (Nat.le_of_ble_eq_true rfl) (fun hM hS => h) (fun r M' hq hM => ?_)
  obtain ⟨x11, m11, n11, rfl, rfl, h⟩ := rI_out hq
  refine wp_istore_n dX6_parse_14 rfl (by decide) (wp_L (L' := [some (vR 14), some (vR (b + 1)), some (vI x11), none]) rfl ?_)
  refine wp_aload_n dX6_parse_15 rfl rfl (by first | exact Or.inl (by decide) | exact Or.inl (by omega) | exact Or.inr (by decide) | exact Or.inr (by omega)) ?_
  refine wp_iload_n dX6_parse_16 rfl rfl ?_
  refine wp_if_ne (tgt := 32) dX6_parse_17 (by decide) (fun h17 => ?_) (fun h17 => ?_)
  · replace h := h.2 h17
    refine wp_iconst dX6_parse_32 (by decide) ?_
    refine wp_goto (tgt := 37) dX6_parse_33 (by decide) ?_
    exact h
  · replace h := h.1 h17
    refine wp_aload_n dX6_parse_20 rfl rfl (by first | exact Or.inl (by decide) | exact Or.inl (by omega) | exact Or.inr (by decide) | exact Or.inr (by omega)) ?_
    refine wp_getR dX6_parse_21 fX6_45 rfl (by decide) ?_
    refine wp_topR (x' := 2) rfl ?_
    refine wp_ldcS (k := 32) dX6_parse_24 cX6_60 ?_
    refine wp_cVq (n := 1) (mt' := mX1_takeIf) (as := [vR 1000035]) (rest := [vR 14]) _ dX6_parse_26 lX6_56 kX1_takeIf vX1_takeIf (by decide) (by decide +kernel) rfl (Nat.le_of_ble_eq_true rfl) (by decide) rfl rfl rfl (Nat.le_of_ble_eq_true rfl) (fun hM hS => h) (fun r M' hq hM => ?_)
    obtain ⟨x26, m26, n26, rfl, rfl, h⟩ := rI_out hq
    refine wp_if_eq (tgt := 36) dX6_parse_29 (by decide) (fun h29 => ?_) (fun h29 => ?_)
    · replace h := h.1 h29
      refine wp_iconst dX6_parse_36 (by decide) ?_
      exact h
    · replace h := h.2 h29
      refine wp_iconst dX6_parse_32 (by decide) ?_
      refine wp_goto (tgt := 37) dX6_parse_33 (by decide) ?_
      exact h
theorem v_X6_parse_37 {cs : Cs} {Q : Option AV → Mm → Prop} {MI ML : Nat → Nat → Int} {b d e nw th : Nat} {l2 s0 : Int} (hbd : b = 38 ∨ b = 81)
    (h : (s0 = 0 ∨ s0 = 1) ∧ ∀ m37, m37 = up2 MI 14 10 s0 → (((m37 14 10) = 0 → wp cs mX6_parse KD Q 66 [some (vR 14), some (vR (b + 1)), some (vI l2), some (vI 0)] [] (KD, m37, ML, (GR d e nw th 1))) ∧ ((m37 14 10) ≠ 0 → ((l2 = 0 → wp cs mX1_peek KD (rI (GR d e nw th 1) fun x55 m55 n55 => ((x55 = (-1) → Q (some (vI 1)) (m55, n55, (GR d e nw th 1))) ∧ (x55 ≠ (-1) → wp cs mX6_parse KD Q 66 [some (vR 14), some (vR (b + 1)), some (vI l2), some (vI 0)] [] (KD, m55, n55, (GR d e nw th 1))))) 0 (padL [vR 2] 1) [] (KD, m37, ML, (GR d e nw th 1))) ∧ (l2 ≠ 0 → wp cs mX6_parse KD Q 66 [some (vR 14), some (vR (b + 1)), some (vI l2), some (vI 0)] [] (KD, m37, ML, (GR d e nw th 1))))))) :
    wp cs mX6_parse KD Q 37 [some (vR 14), some (vR (b + 1)), some (vI l2), none] [vI s0, vR 14] (KD, MI, ML, (GR d e nw th 1)) := by
  refine wp_putZ dX6_parse_37 pX6_41 rfl (by decide) h.1 ?_
  replace h := h.2
  refine wp_gI (fun m37 e37 => ?_)
  replace h := h m37 e37
  refine wp_aload_n dX6_parse_40 rfl rfl (by first | exact Or.inl (by decide) | exact Or.inl (by omega) | exact Or.inr (by decide) | exact Or.inr (by omega)) ?_
  refine wp_getI dX6_parse_41 fX6_41 rfl (by decide) ?_
  refine wp_if_eq (tgt := 64) dX6_parse_44 (by decide) (fun h44 => ?_) (fun h44 => ?_)
  · replace h := h.1 h44
    refine wp_iconst dX6_parse_64 (by decide) ?_
    refine wp_istore_n dX6_parse_65 rfl (by decide) (wp_L (L' := [some (vR 14), some (vR (b + 1)), some (vI l2), some (vI 0)]) rfl ?_)
    exact h
  · replace h := h.2 h44
    refine wp_iload_n dX6_parse_47 rfl rfl ?_
    refine wp_if_ne (tgt := 64) dX6_parse_48 (by decide) (fun h48 => ?_) (fun h48 => ?_)
    · replace h := h.2 h48
      refine wp_iconst dX6_parse_64 (by decide) ?_
      refine wp_istore_n dX6_parse_65 rfl (by decide) (wp_L (L' := [some (vR 14), some (vR (b + 1)), some (vI l2), some (vI 0)]) rfl ?_)
      exact h
    · replace h := h.1 h48
      refine wp_aload_n dX6_parse_51 rfl rfl (by first | exact Or.inl (by decide) | exact Or.inl (by omega) | exact Or.inr (by decide) | exact Or.inr (by omega)) ?_
      refine wp_getR dX6_parse_52 fX6_45 rfl (by decide) ?_
      refine wp_topR (x' := 2) rfl ?_
      refine wp_cVq (n := 0) (mt' := mX1_peek) (as := []) (rest := []) _ dX6_parse_55 lX6_62 kX1_peek vX1_peek (by decide) (by decide +kernel) rfl (Nat.le_of_ble_eq_true rfl) (by decide) rfl rfl rfl (Nat.le_of_ble_eq_true rfl) (fun hM hS => h) (fun r M' hq hM => ?_)
      obtain ⟨x55, m55, n55, rfl, rfl, h⟩ := rI_out hq
      refine wp_iconst dX6_parse_58 (by decide) ?_
      refine wp_icmp_ne (tgt := 64) dX6_parse_59 (by decide) (fun h59 => ?_) (fun h59 => ?_)
      · replace h := h.2 h59
        refine wp_iconst dX6_parse_64 (by decide) ?_
        refine wp_istore_n dX6_parse_65 rfl (by decide) (wp_L (L' := [some (vR 14), some (vR (b + 1)), some (vI l2), some (vI 0)]) rfl ?_)
        exact h
      · replace h := h.1 h59
        refine wp_iconst dX6_parse_62 (by decide) ?_
        exact wp_zret dX6_parse_63 rfl (by decide) (fun _ => h)
theorem v_X6_parse_66 {cs : Cs} {Q : Option AV → Mm → Prop} {MI ML : Nat → Nat → Int} {b d e nw th : Nat} {l2 l3 : Int} (hbd : b = 38 ∨ b = 81)
    (h : ((12 < l3 → Q (some (vI 0)) (MI, ML, (GR d e nw th 1))) ∧ (l3 ≤ 12 → wp cs mX6_readStep KD (rI (GR d e nw th 1) fun x75 m75 n75 => ((x75 = 0 → Q (some (vI 0)) (m75, n75, (GR d e nw th 1))) ∧ (x75 ≠ 0 → wp cs mX1_peek KD (rI (GR d e nw th 1) fun x87 m87 n87 => ((x87 = (-1) → Q (some (vI 1)) (m87, n87, (GR d e nw th 1))) ∧ (x87 ≠ (-1) → wp cs mX1_takeIf KD (rI (GR d e nw th 1) fun x102 m102 n102 => ((x102 = 0 → wp cs mX1_take KD (rI (GR d e nw th 1) fun x116 m116 n116 => ((x116 = 0 → Q (some (vI 0)) (m116, n116, (GR d e nw th 1))) ∧ (x116 ≠ 0 → (-2147483648 ≤ l3 + 1 ∧ l3 + 1 < 2147483648) ∧ wp cs mX6_parse KD Q 66 [some (vR 14), some (vR (b + 1)), some (vI x102), some (vI (l3 + 1))] [] (KD, m116, n116, (GR d e nw th 1))))) 0 (padL [vR 2, vR 1000035] 2) [] (KD, m102, n102, (GR d e nw th 1))) ∧ (x102 ≠ 0 → (-2147483648 ≤ l3 + 1 ∧ l3 + 1 < 2147483648) ∧ wp cs mX6_parse KD Q 66 [some (vR 14), some (vR (b + 1)), some (vI x102), some (vI (l3 + 1))] [] (KD, m102, n102, (GR d e nw th 1))))) 0 (padL [vR 2, vR 1000034] 4) [] (KD, m87, n87, (GR d e nw th 1))))) 0 (padL [vR 2] 1) [] (KD, m75, n75, (GR d e nw th 1))))) 0 (padL [vR 14, vR (b + 1), vI l2] 5) [] (KD, MI, ML, (GR d e nw th 1))))) :
    wp cs mX6_parse KD Q 66 [some (vR 14), some (vR (b + 1)), some (vI l2), some (vI l3)] [] (KD, MI, ML, (GR d e nw th 1)) := by
  refine wp_iload_n dX6_parse_66 rfl rfl ?_
  refine wp_bipush dX6_parse_67 (by decide +kernel) (by decide) ?_
  refine wp_icmp_gt (tgt := 130) dX6_parse_69 (by decide) (fun h69 => ?_) (fun h69 => ?_)
  · replace h := h.1 h69
    refine wp_iconst dX6_parse_130 (by decide) ?_
    exact wp_zret dX6_parse_131 rfl (by decide) (fun _ => h)
  · replace h := h.2 h69
    refine wp_aload_n dX6_parse_72 rfl rfl (by first | exact Or.inl (by decide) | exact Or.inl (by omega) | exact Or.inr (by decide) | exact Or.inr (by omega)) ?_
    refine wp_aload_n dX6_parse_73 rfl rfl (by first | exact Or.inl (by decide) | exact Or.inl (by omega) | exact Or.inr (by decide) | exact Or.inr (by omega)) ?_
    refine wp_iload_n dX6_parse_74 rfl rfl ?_
    refine wp_cVq (n := 2) (mt' := mX6_readStep) (as := [vR (b + 1), vI l2]) (rest := []) _ dX6_parse_75 lX6_66 kX6_readStep vX6_readStep (by decide) (by decide +kernel) rfl (Nat.le_of_ble_eq_true rfl) (by decide) rfl rfl rfl (Nat.le_of_ble_eq_true rfl) (fun hM hS => h) (fun r M' hq hM => ?_)
    obtain ⟨x75, m75, n75, rfl, rfl, h⟩ := rI_out hq
    refine wp_if_ne (tgt := 83) dX6_parse_78 (by decide) (fun h78 => ?_) (fun h78 => ?_)
    · replace h := h.2 h78
      refine wp_aload_n dX6_parse_83 rfl rfl (by first | exact Or.inl (by decide) | exact Or.inl (by omega) | exact Or.inr (by decide) | exact Or.inr (by omega)) ?_
      refine wp_getR dX6_parse_84 fX6_45 rfl (by decide) ?_
      refine wp_topR (x' := 2) rfl ?_
      refine wp_cVq (n := 0) (mt' := mX1_peek) (as := []) (rest := []) _ dX6_parse_87 lX6_62 kX1_peek vX1_peek (by decide) (by decide +kernel) rfl (Nat.le_of_ble_eq_true rfl) (by decide) rfl rfl rfl (Nat.le_of_ble_eq_true rfl) (fun hM hS => h) (fun r M' hq hM => ?_)
      obtain ⟨x87, m87, n87, rfl, rfl, h⟩ := rI_out hq
      refine wp_iconst dX6_parse_90 (by decide) ?_
      refine wp_icmp_ne (tgt := 96) dX6_parse_91 (by decide) (fun h91 => ?_) (fun h91 => ?_)
      · replace h := h.2 h91
        refine wp_aload_n dX6_parse_96 rfl rfl (by first | exact Or.inl (by decide) | exact Or.inl (by omega) | exact Or.inr (by decide) | exact Or.inr (by omega)) ?_
        refine wp_getR dX6_parse_97 fX6_45 rfl (by decide) ?_
        refine wp_topR (x' := 2) rfl ?_
        refine wp_ldcS (k := 31) dX6_parse_100 cX6_54 ?_
        refine wp_cVq (n := 1) (mt' := mX1_takeIf) (as := [vR 1000034]) (rest := []) _ dX6_parse_102 lX6_56 kX1_takeIf vX1_takeIf (by decide) (by decide +kernel) rfl (Nat.le_of_ble_eq_true rfl) (by decide) rfl rfl rfl (Nat.le_of_ble_eq_true rfl) (fun hM hS => h) (fun r M' hq hM => ?_)
        obtain ⟨x102, m102, n102, rfl, rfl, h⟩ := rI_out hq
        refine wp_istore_n dX6_parse_105 rfl (by decide) (wp_L (L' := [some (vR 14), some (vR (b + 1)), some (vI x102), some (vI l3)]) rfl ?_)
        refine wp_iload_n dX6_parse_106 rfl rfl ?_
        refine wp_if_ne (tgt := 124) dX6_parse_107 (by decide) (fun h107 => ?_) (fun h107 => ?_)
        · replace h := h.2 h107
          have c0 := h.1
          replace h := h.2
          refine wp_iincr dX6_parse_124 rfl (by decide) c0 (wp_L (L' := [some (vR 14), some (vR (b + 1)), some (vI x102), some (vI (l3 + 1))]) rfl ?_)
          refine wp_goto (tgt := 66) dX6_parse_127 (by decide) ?_
          exact h
        · replace h := h.1 h107
          refine wp_aload_n dX6_parse_110 rfl rfl (by first | exact Or.inl (by decide) | exact Or.inl (by omega) | exact Or.inr (by decide) | exact Or.inr (by omega)) ?_
          refine wp_getR dX6_parse_111 fX6_45 rfl (by decide) ?_
          refine wp_topR (x' := 2) rfl ?_
          refine wp_ldcS (k := 32) dX6_parse_114 cX6_60 ?_
          refine wp_cVq (n := 1) (mt' := mX1_take) (as := [vR 1000035]) (rest := []) _ dX6_parse_116 lX6_70 kX1_take vX1_take (by decide) (by decide +kernel) rfl (Nat.le_of_ble_eq_true rfl) (by decide) rfl rfl rfl (Nat.le_of_ble_eq_true rfl) (fun hM hS => h) (fun r M' hq hM => ?_)
          obtain ⟨x116, m116, n116, rfl, rfl, h⟩ := rI_out hq
          refine wp_if_ne (tgt := 124) dX6_parse_119 (by decide) (fun h119 => ?_) (fun h119 => ?_)
          · replace h := h.2 h119
            have c0 := h.1
            replace h := h.2
            refine wp_iincr dX6_parse_124 rfl (by decide) c0 (wp_L (L' := [some (vR 14), some (vR (b + 1)), some (vI x102), some (vI (l3 + 1))]) rfl ?_)
            refine wp_goto (tgt := 66) dX6_parse_127 (by decide) ?_
            exact h
          · replace h := h.1 h119
            refine wp_iconst dX6_parse_122 (by decide) ?_
            exact wp_zret dX6_parse_123 rfl (by decide) (fun _ => h)
      · replace h := h.1 h91
        refine wp_iconst dX6_parse_94 (by decide) ?_
        exact wp_zret dX6_parse_95 rfl (by decide) (fun _ => h)
    · replace h := h.1 h78
      refine wp_iconst dX6_parse_81 (by decide) ?_
      exact wp_zret dX6_parse_82 rfl (by decide) (fun _ => h)
theorem dX8_spread_0 : decode cX8_spread 0 = .ok (.iconst 0, 1) := by decide +kernel
theorem dX8_spread_1 : decode cX8_spread 1 = .ok (.istore_n 2, 1) := by decide +kernel
theorem dX8_spread_2 : decode cX8_spread 2 = .ok (.iconst 0, 1) := by decide +kernel
theorem dX8_spread_3 : decode cX8_spread 3 = .ok (.istore_n 3, 1) := by decide +kernel
theorem dX8_spread_4 : decode cX8_spread 4 = .ok (.iload_n 3, 1) := by decide +kernel
theorem dX8_spread_5 : decode cX8_spread 5 = .ok (.aload_n 1, 1) := by decide +kernel
theorem dX8_spread_6 : decode cX8_spread 6 = .ok (.getfield 58, 3) := by decide +kernel
theorem dX8_spread_9 : decode cX8_spread 9 = .ok (.if_icmp .ge 54, 3) := by decide +kernel
theorem dX8_spread_12 : decode cX8_spread 12 = .ok (.aload_n 0, 1) := by decide +kernel
theorem dX8_spread_13 : decode cX8_spread 13 = .ok (.getfield 19, 3) := by decide +kernel
theorem dX8_spread_16 : decode cX8_spread 16 = .ok (.iload_n 3, 1) := by decide +kernel
theorem dX8_spread_17 : decode cX8_spread 17 = .ok (.baload, 1) := by decide +kernel
theorem dX8_spread_18 : decode cX8_spread 18 = .ok (.ifCond .eq 17, 3) := by decide +kernel
theorem dX8_spread_21 : decode cX8_spread 21 = .ok (.iload_n 2, 1) := by decide +kernel
theorem dX8_spread_22 : decode cX8_spread 22 = .ok (.aload_n 1, 1) := by decide +kernel
theorem dX8_spread_23 : decode cX8_spread 23 = .ok (.getfield 61, 3) := by decide +kernel
theorem dX8_spread_26 : decode cX8_spread 26 = .ok (.iload_n 3, 1) := by decide +kernel
theorem dX8_spread_27 : decode cX8_spread 27 = .ok (.iaload, 1) := by decide +kernel
theorem dX8_spread_28 : decode cX8_spread 28 = .ok (.invokestatic 64, 3) := by decide +kernel
theorem dX8_spread_31 : decode cX8_spread 31 = .ok (.istore_n 2, 1) := by decide +kernel
theorem dX8_spread_32 : decode cX8_spread 32 = .ok (.goto 25, 3) := by decide +kernel
theorem dX8_spread_35 : decode cX8_spread 35 = .ok (.iload_n 3, 1) := by decide +kernel
theorem dX8_spread_36 : decode cX8_spread 36 = .ok (.iload_n 2, 1) := by decide +kernel
theorem dX8_spread_37 : decode cX8_spread 37 = .ok (.if_icmp .ge 20, 3) := by decide +kernel
theorem dX8_spread_40 : decode cX8_spread 40 = .ok (.aload_n 1, 1) := by decide +kernel
theorem dX8_spread_41 : decode cX8_spread 41 = .ok (.getfield 70, 3) := by decide +kernel
theorem dX8_spread_44 : decode cX8_spread 44 = .ok (.iload_n 3, 1) := by decide +kernel
theorem dX8_spread_45 : decode cX8_spread 45 = .ok (.iaload, 1) := by decide +kernel
theorem dX8_spread_46 : decode cX8_spread 46 = .ok (.iconst 1, 1) := by decide +kernel
theorem dX8_spread_47 : decode cX8_spread 47 = .ok (.if_icmp .ne 10, 3) := by decide +kernel
theorem dX8_spread_50 : decode cX8_spread 50 = .ok (.aload_n 0, 1) := by decide +kernel
theorem dX8_spread_51 : decode cX8_spread 51 = .ok (.getfield 19, 3) := by decide +kernel
theorem dX8_spread_54 : decode cX8_spread 54 = .ok (.iload_n 3, 1) := by decide +kernel
theorem dX8_spread_55 : decode cX8_spread 55 = .ok (.iconst 1, 1) := by decide +kernel
theorem dX8_spread_56 : decode cX8_spread 56 = .ok (.bastore, 1) := by decide +kernel
theorem dX8_spread_57 : decode cX8_spread 57 = .ok (.iinc 3 1, 3) := by decide +kernel
theorem dX8_spread_60 : decode cX8_spread 60 = .ok (.goto (-56), 3) := by decide +kernel
theorem dX8_spread_63 : decode cX8_spread 63 = .ok (.return_, 1) := by decide +kernel
theorem v_X8_spread_0 {cs : Cs} {Q : Option AV → Mm → Prop} {MI ML : Nat → Nat → Int} {b d e nw th : Nat}
    (h : wp cs mX8_spread KD Q 4 [some (vR 23), some (vR b), some (vI 0), some (vI 0)] [] (KD, MI, ML, (GR d e nw th 1))) :
    wp cs mX8_spread KD Q 0 (padL [vR 23, vR b] 4) [] (KD, MI, ML, (GR d e nw th 1)) := by
  refine wp_L (L' := [some (vR 23), some (vR b), none, none]) rfl ?_
  refine wp_iconst dX8_spread_0 (by decide) ?_
  refine wp_istore_n dX8_spread_1 rfl (by decide) (wp_L (L' := [some (vR 23), some (vR b), some (vI 0), none]) rfl ?_)
  refine wp_iconst dX8_spread_2 (by decide) ?_
  refine wp_istore_n dX8_spread_3 rfl (by decide) (wp_L (L' := [some (vR 23), some (vR b), some (vI 0), some (vI 0)]) rfl ?_)
  exact h
theorem v_X8_spread_4 {cs : Cs} {Q : Option AV → Mm → Prop} {MI ML : Nat → Nat → Int} {b d e nw th : Nat} {l2 l3 : Int} (hbd : b = 38 ∨ b = 81) (hnw : nw = 25 ∨ nw = 26)
    (h : ((l3 < (MI b 16) → (0 ≤ l3 ∧ l3 < 600) ∧ (((MI nw l3.toNat) = 0 → ((l3 < l2 → (((MI (b + 32) l3.toNat) = 1 → ∀ m56, m56 = up2 MI nw l3.toNat 1 → (-2147483648 ≤ l3 + 1 ∧ l3 + 1 < 2147483648) ∧ wp cs mX8_spread KD Q 4 [some (vR 23), some (vR b), some (vI l2), some (vI (l3 + 1))] [] (KD, m56, ML, (GR d e nw th 1))) ∧ ((MI (b + 32) l3.toNat) ≠ 1 → (-2147483648 ≤ l3 + 1 ∧ l3 + 1 < 2147483648) ∧ wp cs mX8_spread KD Q 4 [some (vR 23), some (vR b), some (vI l2), some (vI (l3 + 1))] [] (KD, MI, ML, (GR d e nw th 1))))) ∧ (l2 ≤ l3 → (-2147483648 ≤ l3 + 1 ∧ l3 + 1 < 2147483648) ∧ wp cs mX8_spread KD Q 4 [some (vR 23), some (vR b), some (vI l2), some (vI (l3 + 1))] [] (KD, MI, ML, (GR d e nw th 1))))) ∧ ((MI nw l3.toNat) ≠ 0 → (-2147483648 ≤ l3 + 1 ∧ l3 + 1 < 2147483648) ∧ wp cs mX8_spread KD Q 4 [some (vR 23), some (vR b), some (vI (if l2 < (MI (b + 38) l3.toNat) then (MI (b + 38) l3.toNat) else l2)), some (vI (l3 + 1))] [] (KD, MI, ML, (GR d e nw th 1))))) ∧ ((MI b 16) ≤ l3 → Q none (MI, ML, (GR d e nw th 1))))) :
    wp cs mX8_spread KD Q 4 [some (vR 23), some (vR b), some (vI l2), some (vI l3)] [] (KD, MI, ML, (GR d e nw th 1)) := by
  refine wp_iload_n dX8_spread_4 rfl rfl ?_
  refine wp_aload_n dX8_spread_5 rfl rfl (by first | exact Or.inl (by decide) | exact Or.inl (by omega) | exact Or.inr (by decide) | exact Or.inr (by omega)) ?_
  refine wp_getI dX8_spread_6 fX8_58 (show KD[b]? = some (7, 19) from kdb_0 hbd) (by omega) ?_
  refine wp_icmp_ge (tgt := 63) dX8_spread_9 (by decide) (fun h9 => ?_) (fun h9 => ?_)
  · replace h := h.2 h9
    exact wp_vret dX8_spread_63 rfl (fun _ => h)
  · replace h := h.1 h9
    refine wp_aload_n dX8_spread_12 rfl rfl (by first | exact Or.inl (by decide) | exact Or.inl (by omega) | exact Or.inr (by decide) | exact Or.inr (by omega)) ?_
    refine wp_getR dX8_spread_13 fX8_19 rfl (by decide) ?_
    refine wp_topR (x' := nw) rfl ?_
    refine wp_iload_n dX8_spread_16 rfl rfl ?_
    have c0 := h.1
    replace h := h.2
    refine wp_bald dX8_spread_17 (kd_nt hnw) (by omega) c0 ?_
    refine wp_if_eq (tgt := 35) dX8_spread_18 (by decide) (fun h18 => ?_) (fun h18 => ?_)
    · replace h := h.1 h18
      refine wp_iload_n dX8_spread_35 rfl rfl ?_
      refine wp_iload_n dX8_spread_36 rfl rfl ?_
      refine wp_icmp_ge (tgt := 57) dX8_spread_37 (by decide) (fun h37 => ?_) (fun h37 => ?_)
      · replace h := h.2 h37
        have c1 := h.1
        replace h := h.2
        refine wp_iincr dX8_spread_57 rfl (by decide) c1 (wp_L (L' := [some (vR 23), some (vR b), some (vI l2), some (vI (l3 + 1))]) rfl ?_)
        refine wp_goto (tgt := 4) dX8_spread_60 (by decide) ?_
        exact h
      · replace h := h.1 h37
        refine wp_aload_n dX8_spread_40 rfl rfl (by first | exact Or.inl (by decide) | exact Or.inl (by omega) | exact Or.inr (by decide) | exact Or.inr (by omega)) ?_
        refine wp_getR dX8_spread_41 fX8_70 (show KD[b]? = some (7, 19) from kdb_0 hbd) (by omega) ?_
        refine wp_topR (x' := (b + 32)) (grb_0_3 hbd) ?_
        refine wp_iload_n dX8_spread_44 rfl rfl ?_
        refine wp_iald dX8_spread_45 (kdb_32 hbd) (by omega) c0 ?_
        refine wp_iconst dX8_spread_46 (by decide) ?_
        refine wp_icmp_ne (tgt := 57) dX8_spread_47 (by decide) (fun h47 => ?_) (fun h47 => ?_)
        · replace h := h.2 h47
          have c1 := h.1
          replace h := h.2
          refine wp_iincr dX8_spread_57 rfl (by decide) c1 (wp_L (L' := [some (vR 23), some (vR b), some (vI l2), some (vI (l3 + 1))]) rfl ?_)
          refine wp_goto (tgt := 4) dX8_spread_60 (by decide) ?_
          exact h
        · replace h := h.1 h47
          refine wp_aload_n dX8_spread_50 rfl rfl (by first | exact Or.inl (by decide) | exact Or.inl (by omega) | exact Or.inr (by decide) | exact Or.inr (by omega)) ?_
          refine wp_getR dX8_spread_51 fX8_19 rfl (by decide) ?_
          refine wp_topR (x' := nw) rfl ?_
          refine wp_iload_n dX8_spread_54 rfl rfl ?_
          refine wp_iconst dX8_spread_55 (by decide) ?_
          refine wp_bast dX8_spread_56 (kd_nt hnw) (by omega) c0 (by decide) ?_
          refine wp_gI (fun m56 e56 => ?_)
          replace h := h m56 e56
          have c1 := h.1
          replace h := h.2
          refine wp_iincr dX8_spread_57 rfl (by decide) c1 (wp_L (L' := [some (vR 23), some (vR b), some (vI l2), some (vI (l3 + 1))]) rfl ?_)
          refine wp_goto (tgt := 4) dX8_spread_60 (by decide) ?_
          exact h
    · replace h := h.2 h18
      refine wp_iload_n dX8_spread_21 rfl rfl ?_
      refine wp_aload_n dX8_spread_22 rfl rfl (by first | exact Or.inl (by decide) | exact Or.inl (by omega) | exact Or.inr (by decide) | exact Or.inr (by omega)) ?_
      refine wp_getR dX8_spread_23 fX8_61 (show KD[b]? = some (7, 19) from kdb_0 hbd) (by omega) ?_
      refine wp_topR (x' := (b + 38)) (grb_0_9 hbd) ?_
      refine wp_iload_n dX8_spread_26 rfl rfl ?_
      refine wp_iald dX8_spread_27 (kdb_38 hbd) (by omega) c0 ?_
      refine wp_mmax dX8_spread_28 lX8_64 (Nat.le_of_ble_eq_true rfl) (by decide) (by decide) ⟨Nat.le_refl _, Nat.le_refl _⟩ ?_
      refine wp_istore_n dX8_spread_31 rfl (by decide) (wp_L (L' := [some (vR 23), some (vR b), some (vI (if l2 < (MI (b + 38) l3.toNat) then (MI (b + 38) l3.toNat) else l2)), some (vI l3)]) rfl ?_)
      refine wp_pc (pc' := 32) rfl ?_
      refine wp_goto (tgt := 57) dX8_spread_32 (by decide) ?_
      have c1 := h.1
      replace h := h.2
      refine wp_iincr dX8_spread_57 rfl (by decide) c1 (wp_L (L' := [some (vR 23), some (vR b), some (vI (if l2 < (MI (b + 38) l3.toNat) then (MI (b + 38) l3.toNat) else l2)), some (vI (l3 + 1))]) rfl ?_)
      refine wp_goto (tgt := 4) dX8_spread_60 (by decide) ?_
      exact h
theorem dX8_push_0 : decode cX8_push 0 = .ok (.aload_n 0, 1) := by decide +kernel
theorem dX8_push_1 : decode cX8_push 1 = .ok (.getfield 29, 3) := by decide +kernel
theorem dX8_push_4 : decode cX8_push 4 = .ok (.sipush 600, 3) := by decide +kernel
theorem dX8_push_7 : decode cX8_push 7 = .ok (.if_icmp .ge 23, 3) := by decide +kernel
theorem dX8_push_10 : decode cX8_push 10 = .ok (.aload_n 0, 1) := by decide +kernel
theorem dX8_push_11 : decode cX8_push 11 = .ok (.getfield 26, 3) := by decide +kernel
theorem dX8_push_14 : decode cX8_push 14 = .ok (.aload_n 0, 1) := by decide +kernel
theorem dX8_push_15 : decode cX8_push 15 = .ok (.getfield 29, 3) := by decide +kernel
theorem dX8_push_18 : decode cX8_push 18 = .ok (.iload_n 1, 1) := by decide +kernel
theorem dX8_push_19 : decode cX8_push 19 = .ok (.iastore, 1) := by decide +kernel
theorem dX8_push_20 : decode cX8_push 20 = .ok (.aload_n 0, 1) := by decide +kernel
theorem dX8_push_21 : decode cX8_push 21 = .ok (.dup, 1) := by decide +kernel
theorem dX8_push_22 : decode cX8_push 22 = .ok (.getfield 29, 3) := by decide +kernel
theorem dX8_push_25 : decode cX8_push 25 = .ok (.iconst 1, 1) := by decide +kernel
theorem dX8_push_26 : decode cX8_push 26 = .ok (.iadd, 1) := by decide +kernel
theorem dX8_push_27 : decode cX8_push 27 = .ok (.putfield 29, 3) := by decide +kernel
theorem dX8_push_30 : decode cX8_push 30 = .ok (.return_, 1) := by decide +kernel
theorem v_X8_push_0 {cs : Cs} {Q : Option AV → Mm → Prop} {MI ML : Nat → Nat → Int} {d e nw th : Nat} {l1 : Int}
    (h : (((MI 23 5) < 600 → (0 ≤ (MI 23 5) ∧ (MI 23 5) < 600) ∧ ∀ m19, m19 = up2 MI 27 (MI 23 5).toNat l1 → (-2147483648 ≤ (m19 23 5) + 1 ∧ (m19 23 5) + 1 < 2147483648) ∧ ∀ m27, m27 = up2 m19 23 5 ((m19 23 5) + 1) → Q none (m27, ML, (GR d e nw th 1))) ∧ (600 ≤ (MI 23 5) → Q none (MI, ML, (GR d e nw th 1))))) :
    wp cs mX8_push KD Q 0 (padL [vR 23, vI l1] 2) [] (KD, MI, ML, (GR d e nw th 1)) := by
  refine wp_L (L' := [some (vR 23), some (vI l1)]) rfl ?_
  refine wp_aload_n dX8_push_0 rfl rfl (by first | exact Or.inl (by decide) | exact Or.inl (by omega) | exact Or.inr (by decide) | exact Or.inr (by omega)) ?_
  refine wp_getI dX8_push_1 fX8_29 rfl (by decide) ?_
  refine wp_sipush dX8_push_4 (by decide +kernel) (by decide) ?_
  refine wp_icmp_ge (tgt := 30) dX8_push_7 (by decide) (fun h7 => ?_) (fun h7 => ?_)
  · replace h := h.2 h7
    exact wp_vret dX8_push_30 rfl (fun _ => h)
  · replace h := h.1 h7
    refine wp_aload_n dX8_push_10 rfl rfl (by first | exact Or.inl (by decide) | exact Or.inl (by omega) | exact Or.inr (by decide) | exact Or.inr (by omega)) ?_
    refine wp_getR dX8_push_11 fX8_26 rfl (by decide) ?_
    refine wp_topR (x' := 27) rfl ?_
    refine wp_aload_n dX8_push_14 rfl rfl (by first | exact Or.inl (by decide) | exact Or.inl (by omega) | exact Or.inr (by decide) | exact Or.inr (by omega)) ?_
    refine wp_getI dX8_push_15 fX8_29 rfl (by decide) ?_
    refine wp_iload_n dX8_push_18 rfl rfl ?_
    have c0 := h.1
    replace h := h.2
    refine wp_iast dX8_push_19 rfl (by decide) c0 ?_
    refine wp_gI (fun m19 e19 => ?_)
    replace h := h m19 e19
    refine wp_aload_n dX8_push_20 rfl rfl (by first | exact Or.inl (by decide) | exact Or.inl (by omega) | exact Or.inr (by decide) | exact Or.inr (by omega)) ?_
    refine wp_pc (pc' := 21) rfl ?_
    refine wp_dup dX8_push_21 (fun x e => by cases e) ?_
    refine wp_getI dX8_push_22 fX8_29 rfl (by decide) ?_
    refine wp_iconst dX8_push_25 (by decide) ?_
    have c1 := h.1
    replace h := h.2
    refine wp_iaddr dX8_push_26 c1 ?_
    refine wp_putI dX8_push_27 pX8_29 rfl (by decide) ?_
    refine wp_gI (fun m27 e27 => ?_)
    replace h := h m27 e27
    exact wp_vret dX8_push_30 rfl (fun _ => h)
theorem dX8_leadInto_0 : decode cX8_leadInto 0 = .ok (.aload_n 1, 1) := by decide +kernel
theorem dX8_leadInto_1 : decode cX8_leadInto 1 = .ok (.iload_n 2, 1) := by decide +kernel
theorem dX8_leadInto_2 : decode cX8_leadInto 2 = .ok (.invokevirtual 104, 3) := by decide +kernel
theorem dX8_leadInto_5 : decode cX8_leadInto 5 = .ok (.istore 5, 2) := by decide +kernel
theorem dX8_leadInto_7 : decode cX8_leadInto 7 = .ok (.iload 5, 2) := by decide +kernel
theorem dX8_leadInto_9 : decode cX8_leadInto 9 = .ok (.aload_n 1, 1) := by decide +kernel
theorem dX8_leadInto_10 : decode cX8_leadInto 10 = .ok (.getfield 61, 3) := by decide +kernel
theorem dX8_leadInto_13 : decode cX8_leadInto 13 = .ok (.iload_n 2, 1) := by decide +kernel
theorem dX8_leadInto_14 : decode cX8_leadInto 14 = .ok (.iaload, 1) := by decide +kernel
theorem dX8_leadInto_15 : decode cX8_leadInto 15 = .ok (.if_icmp .ge 58, 3) := by decide +kernel
theorem dX8_leadInto_18 : decode cX8_leadInto 18 = .ok (.aload_n 1, 1) := by decide +kernel
theorem dX8_leadInto_19 : decode cX8_leadInto 19 = .ok (.getfield 70, 3) := by decide +kernel
theorem dX8_leadInto_22 : decode cX8_leadInto 22 = .ok (.iload 5, 2) := by decide +kernel
theorem dX8_leadInto_24 : decode cX8_leadInto 24 = .ok (.iaload, 1) := by decide +kernel
theorem dX8_leadInto_25 : decode cX8_leadInto 25 = .ok (.iload_n 3, 1) := by decide +kernel
theorem dX8_leadInto_26 : decode cX8_leadInto 26 = .ok (.if_icmp .ne 28, 3) := by decide +kernel
theorem dX8_leadInto_29 : decode cX8_leadInto 29 = .ok (.iload 4, 2) := by decide +kernel
theorem dX8_leadInto_31 : decode cX8_leadInto 31 = .ok (.bipush (-2), 2) := by decide +kernel
theorem dX8_leadInto_33 : decode cX8_leadInto 33 = .ok (.if_icmp .eq 15, 3) := by decide +kernel
theorem dX8_leadInto_36 : decode cX8_leadInto 36 = .ok (.aload_n 1, 1) := by decide +kernel
theorem dX8_leadInto_37 : decode cX8_leadInto 37 = .ok (.getfield 97, 3) := by decide +kernel
theorem dX8_leadInto_40 : decode cX8_leadInto 40 = .ok (.iload 5, 2) := by decide +kernel
theorem dX8_leadInto_42 : decode cX8_leadInto 42 = .ok (.iaload, 1) := by decide +kernel
theorem dX8_leadInto_43 : decode cX8_leadInto 43 = .ok (.iload 4, 2) := by decide +kernel
theorem dX8_leadInto_45 : decode cX8_leadInto 45 = .ok (.if_icmp .ne 9, 3) := by decide +kernel
theorem dX8_leadInto_48 : decode cX8_leadInto 48 = .ok (.aload_n 0, 1) := by decide +kernel
theorem dX8_leadInto_49 : decode cX8_leadInto 49 = .ok (.iload 5, 2) := by decide +kernel
theorem dX8_leadInto_51 : decode cX8_leadInto 51 = .ok (.invokevirtual 87, 3) := by decide +kernel
theorem dX8_leadInto_54 : decode cX8_leadInto 54 = .ok (.iload 5, 2) := by decide +kernel
theorem dX8_leadInto_56 : decode cX8_leadInto 56 = .ok (.iconst 1, 1) := by decide +kernel
theorem dX8_leadInto_57 : decode cX8_leadInto 57 = .ok (.iadd, 1) := by decide +kernel
theorem dX8_leadInto_58 : decode cX8_leadInto 58 = .ok (.aload_n 1, 1) := by decide +kernel
theorem dX8_leadInto_59 : decode cX8_leadInto 59 = .ok (.getfield 61, 3) := by decide +kernel
theorem dX8_leadInto_62 : decode cX8_leadInto 62 = .ok (.iload 5, 2) := by decide +kernel
theorem dX8_leadInto_64 : decode cX8_leadInto 64 = .ok (.iaload, 1) := by decide +kernel
theorem dX8_leadInto_65 : decode cX8_leadInto 65 = .ok (.invokestatic 64, 3) := by decide +kernel
theorem dX8_leadInto_68 : decode cX8_leadInto 68 = .ok (.istore 5, 2) := by decide +kernel
theorem dX8_leadInto_70 : decode cX8_leadInto 70 = .ok (.goto (-63), 3) := by decide +kernel
theorem dX8_leadInto_73 : decode cX8_leadInto 73 = .ok (.return_, 1) := by decide +kernel
theorem v_X8_leadInto_0 {cs : Cs} {Q : Option AV → Mm → Prop} {MI ML : Nat → Nat → Int} {b d e nw th : Nat} {l2 l3 l4 : Int} (hbd : b = 38 ∨ b = 81)
    (h : wp cs mX3_firstIn KD (rI (GR d e nw th 1) fun x2 m2 n2 => wp cs mX8_leadInto KD Q 7 [some (vR 23), some (vR b), some (vI l2), some (vI l3), some (vI l4), some (vI x2)] [] (KD, m2, n2, (GR d e nw th 1))) 0 (padL [vR b, vI l2] 2) [] (KD, MI, ML, (GR d e nw th 1))) :
    wp cs mX8_leadInto KD Q 0 (padL [vR 23, vR b, vI l2, vI l3, vI l4] 6) [] (KD, MI, ML, (GR d e nw th 1)) := by
  refine wp_L (L' := [some (vR 23), some (vR b), some (vI l2), some (vI l3), some (vI l4), none]) rfl ?_
  refine wp_aload_n dX8_leadInto_0 rfl rfl (by first | exact Or.inl (by decide) | exact Or.inl (by omega) | exact Or.inr (by decide) | exact Or.inr (by omega)) ?_
  refine wp_iload_n dX8_leadInto_1 rfl rfl ?_
  refine wp_cVq (n := 1) (mt' := mX3_firstIn) (as := [vI l2]) (rest := []) _ dX8_leadInto_2 lX8_104 kX3_firstIn vX3_firstIn (by decide) (by decide +kernel) rfl (Nat.le_of_ble_eq_true rfl) (by omega) (show KD[b]? = some (7, 19) from kdb_0 hbd) rfl rfl (Nat.le_of_ble_eq_true rfl) (fun hM hS => h) (fun r M' hq hM => ?_)
  obtain ⟨x2, m2, n2, rfl, rfl, h⟩ := rI_out hq
  refine wp_istore dX8_leadInto_5 (by decide) (wp_L (L' := [some (vR 23), some (vR b), some (vI l2), some (vI l3), some (vI l4), some (vI x2)]) rfl ?_)
  exact h
theorem v_X8_leadInto_7 {cs : Cs} {Q : Option AV → Mm → Prop} {MI ML : Nat → Nat → Int} {b d e nw th : Nat} {l2 l3 l4 l5 : Int} (hbd : b = 38 ∨ b = 81)
    (h : (0 ≤ l2 ∧ l2 < 600) ∧ ((l5 < (MI (b + 38) l2.toNat) → (0 ≤ l5 ∧ l5 < 600) ∧ (((MI (b + 32) l5.toNat) = l3 → ((l4 = (-2) → wp cs mX8_push KD (rV (GR d e nw th 1) fun m51 n51 => wp cs mX8_leadInto KD Q 54 [some (vR 23), some (vR b), some (vI l2), some (vI l3), some (vI l4), some (vI l5)] [] (KD, m51, n51, (GR d e nw th 1))) 0 (padL [vR 23, vI l5] 2) [] (KD, MI, ML, (GR d e nw th 1))) ∧ (l4 ≠ (-2) → (((MI (b + 34) l5.toNat) = l4 → wp cs mX8_push KD (rV (GR d e nw th 1) fun m51 n51 => wp cs mX8_leadInto KD Q 54 [some (vR 23), some (vR b), some (vI l2), some (vI l3), some (vI l4), some (vI l5)] [] (KD, m51, n51, (GR d e nw th 1))) 0 (padL [vR 23, vI l5] 2) [] (KD, MI, ML, (GR d e nw th 1))) ∧ ((MI (b + 34) l5.toNat) ≠ l4 → wp cs mX8_leadInto KD Q 54 [some (vR 23), some (vR b), some (vI l2), some (vI l3), some (vI l4), some (vI l5)] [] (KD, MI, ML, (GR d e nw th 1))))))) ∧ ((MI (b + 32) l5.toNat) ≠ l3 → wp cs mX8_leadInto KD Q 54 [some (vR 23), some (vR b), some (vI l2), some (vI l3), some (vI l4), some (vI l5)] [] (KD, MI, ML, (GR d e nw th 1))))) ∧ ((MI (b + 38) l2.toNat) ≤ l5 → Q none (MI, ML, (GR d e nw th 1))))) :
    wp cs mX8_leadInto KD Q 7 [some (vR 23), some (vR b), some (vI l2), some (vI l3), some (vI l4), some (vI l5)] [] (KD, MI, ML, (GR d e nw th 1)) := by
  refine wp_iload dX8_leadInto_7 rfl ?_
  refine wp_aload_n dX8_leadInto_9 rfl rfl (by first | exact Or.inl (by decide) | exact Or.inl (by omega) | exact Or.inr (by decide) | exact Or.inr (by omega)) ?_
  refine wp_getR dX8_leadInto_10 fX8_61 (show KD[b]? = some (7, 19) from kdb_0 hbd) (by omega) ?_
  refine wp_topR (x' := (b + 38)) (grb_0_9 hbd) ?_
  refine wp_iload_n dX8_leadInto_13 rfl rfl ?_
  have c0 := h.1
  replace h := h.2
  refine wp_iald dX8_leadInto_14 (kdb_38 hbd) (by omega) c0 ?_
  refine wp_icmp_ge (tgt := 73) dX8_leadInto_15 (by decide) (fun h15 => ?_) (fun h15 => ?_)
  · replace h := h.2 h15
    exact wp_vret dX8_leadInto_73 rfl (fun _ => h)
  · replace h := h.1 h15
    refine wp_aload_n dX8_leadInto_18 rfl rfl (by first | exact Or.inl (by decide) | exact Or.inl (by omega) | exact Or.inr (by decide) | exact Or.inr (by omega)) ?_
    refine wp_getR dX8_leadInto_19 fX8_70 (show KD[b]? = some (7, 19) from kdb_0 hbd) (by omega) ?_
    refine wp_topR (x' := (b + 32)) (grb_0_3 hbd) ?_
    refine wp_iload dX8_leadInto_22 rfl ?_
    have c1 := h.1
    replace h := h.2
    refine wp_iald dX8_leadInto_24 (kdb_32 hbd) (by omega) c1 ?_
    refine wp_iload_n dX8_leadInto_25 rfl rfl ?_
    refine wp_icmp_ne (tgt := 54) dX8_leadInto_26 (by decide) (fun h26 => ?_) (fun h26 => ?_)
    · replace h := h.2 h26
      exact h
    · replace h := h.1 h26
      refine wp_iload dX8_leadInto_29 rfl ?_
      refine wp_bipush dX8_leadInto_31 (by decide +kernel) (by decide) ?_
      refine wp_icmp_eq (tgt := 48) dX8_leadInto_33 (by decide) (fun h33 => ?_) (fun h33 => ?_)
      · replace h := h.1 h33
        refine wp_aload_n dX8_leadInto_48 rfl rfl (by first | exact Or.inl (by decide) | exact Or.inl (by omega) | exact Or.inr (by decide) | exact Or.inr (by omega)) ?_
        refine wp_iload dX8_leadInto_49 rfl ?_
        refine wp_cVq (n := 1) (mt' := mX8_push) (as := [vI l5]) (rest := []) _ dX8_leadInto_51 lX8_87 kX8_push vX8_push (by decide) (by decide +kernel) rfl (Nat.le_of_ble_eq_true rfl) (by decide) rfl rfl rfl (Nat.le_of_ble_eq_true rfl) (fun hM hS => h) (fun r M' hq hM => ?_)
        obtain ⟨m51, n51, rfl, rfl, h⟩ := rV_out hq
        exact h
      · replace h := h.2 h33
        refine wp_aload_n dX8_leadInto_36 rfl rfl (by first | exact Or.inl (by decide) | exact Or.inl (by omega) | exact Or.inr (by decide) | exact Or.inr (by omega)) ?_
        refine wp_getR dX8_leadInto_37 fX8_97 (show KD[b]? = some (7, 19) from kdb_0 hbd) (by omega) ?_
        refine wp_topR (x' := (b + 34)) (grb_0_5 hbd) ?_
        refine wp_iload dX8_leadInto_40 rfl ?_
        refine wp_iald dX8_leadInto_42 (kdb_34 hbd) (by omega) c1 ?_
        refine wp_iload dX8_leadInto_43 rfl ?_
        refine wp_icmp_ne (tgt := 54) dX8_leadInto_45 (by decide) (fun h45 => ?_) (fun h45 => ?_)
        · replace h := h.2 h45
          exact h
        · replace h := h.1 h45
          refine wp_aload_n dX8_leadInto_48 rfl rfl (by first | exact Or.inl (by decide) | exact Or.inl (by omega) | exact Or.inr (by decide) | exact Or.inr (by omega)) ?_
          refine wp_iload dX8_leadInto_49 rfl ?_
          refine wp_cVq (n := 1) (mt' := mX8_push) (as := [vI l5]) (rest := []) _ dX8_leadInto_51 lX8_87 kX8_push vX8_push (by decide) (by decide +kernel) rfl (Nat.le_of_ble_eq_true rfl) (by decide) rfl rfl rfl (Nat.le_of_ble_eq_true rfl) (fun hM hS => h) (fun r M' hq hM => ?_)
          obtain ⟨m51, n51, rfl, rfl, h⟩ := rV_out hq
          exact h
theorem v_X8_leadInto_54 {cs : Cs} {Q : Option AV → Mm → Prop} {MI ML : Nat → Nat → Int} {b d e nw th : Nat} {l2 l3 l4 l5 : Int} (hbd : b = 38 ∨ b = 81)
    (h : (-2147483648 ≤ l5 + 1 ∧ l5 + 1 < 2147483648) ∧ (0 ≤ l5 ∧ l5 < 600) ∧ wp cs mX8_leadInto KD Q 7 [some (vR 23), some (vR b), some (vI l2), some (vI l3), some (vI l4), some (vI (if (l5 + 1) < (MI (b + 38) l5.toNat) then (MI (b + 38) l5.toNat) else (l5 + 1)))] [] (KD, MI, ML, (GR d e nw th 1))) :
    wp cs mX8_leadInto KD Q 54 [some (vR 23), some (vR b), some (vI l2), some (vI l3), some (vI l4), some (vI l5)] [] (KD, MI, ML, (GR d e nw th 1)) := by
  refine wp_iload dX8_leadInto_54 rfl ?_
  refine wp_iconst dX8_leadInto_56 (by decide) ?_
  have c0 := h.1
  replace h := h.2
  refine wp_iaddr dX8_leadInto_57 c0 ?_
  refine wp_aload_n dX8_leadInto_58 rfl rfl (by first | exact Or.inl (by decide) | exact Or.inl (by omega) | exact Or.inr (by decide) | exact Or.inr (by omega)) ?_
  refine wp_getR dX8_leadInto_59 fX8_61 (show KD[b]? = some (7, 19) from kdb_0 hbd) (by omega) ?_
  refine wp_topR (x' := (b + 38)) (grb_0_9 hbd) ?_
  refine wp_iload dX8_leadInto_62 rfl ?_
  have c1 := h.1
  replace h := h.2
  refine wp_iald dX8_leadInto_64 (kdb_38 hbd) (by omega) c1 ?_
  refine wp_pc (pc' := 65) rfl ?_
  refine wp_mmax dX8_leadInto_65 lX8_64 (Nat.le_of_ble_eq_true rfl) (by decide) (by decide) ⟨Nat.le_refl _, Nat.le_refl _⟩ ?_
  refine wp_istore dX8_leadInto_68 (by decide) (wp_L (L' := [some (vR 23), some (vR b), some (vI l2), some (vI l3), some (vI l4), some (vI (if (l5 + 1) < (MI (b + 38) l5.toNat) then (MI (b + 38) l5.toNat) else (l5 + 1)))]) rfl ?_)
  refine wp_goto (tgt := 7) dX8_leadInto_70 (by decide) ?_
  exact h
theorem dX8_lead_0 : decode cX8_lead 0 = .ok (.aload_n 2, 1) := by decide +kernel
theorem dX8_lead_1 : decode cX8_lead 1 = .ok (.getfield 83, 3) := by decide +kernel
theorem dX8_lead_4 : decode cX8_lead 4 = .ok (.iload_n 3, 1) := by decide +kernel
theorem dX8_lead_5 : decode cX8_lead 5 = .ok (.iaload, 1) := by decide +kernel
theorem dX8_lead_6 : decode cX8_lead 6 = .ok (.istore 5, 2) := by decide +kernel
theorem dX8_lead_8 : decode cX8_lead 8 = .ok (.aload_n 0, 1) := by decide +kernel
theorem dX8_lead_9 : decode cX8_lead 9 = .ok (.iconst 0, 1) := by decide +kernel
theorem dX8_lead_10 : decode cX8_lead 10 = .ok (.putfield 29, 3) := by decide +kernel
theorem dX8_lead_13 : decode cX8_lead 13 = .ok (.aload_n 2, 1) := by decide +kernel
theorem dX8_lead_14 : decode cX8_lead 14 = .ok (.getfield 86, 3) := by decide +kernel
theorem dX8_lead_17 : decode cX8_lead 17 = .ok (.iload_n 3, 1) := by decide +kernel
theorem dX8_lead_18 : decode cX8_lead 18 = .ok (.iaload, 1) := by decide +kernel
theorem dX8_lead_19 : decode cX8_lead 19 = .ok (.tableswitch 118 0 3 #[29, 38, 118, 63], 29) := by decide +kernel
theorem dX8_lead_48 : decode cX8_lead 48 = .ok (.aload_n 0, 1) := by decide +kernel
theorem dX8_lead_49 : decode cX8_lead 49 = .ok (.iload 4, 2) := by decide +kernel
theorem dX8_lead_51 : decode cX8_lead 51 = .ok (.invokevirtual 87, 3) := by decide +kernel
theorem dX8_lead_54 : decode cX8_lead 54 = .ok (.goto 107, 3) := by decide +kernel
theorem dX8_lead_57 : decode cX8_lead 57 = .ok (.aload_n 1, 1) := by decide +kernel
theorem dX8_lead_58 : decode cX8_lead 58 = .ok (.getfield 91, 3) := by decide +kernel
theorem dX8_lead_61 : decode cX8_lead 61 = .ok (.iload 4, 2) := by decide +kernel
theorem dX8_lead_63 : decode cX8_lead 63 = .ok (.iaload, 1) := by decide +kernel
theorem dX8_lead_64 : decode cX8_lead 64 = .ok (.iconst (-1), 1) := by decide +kernel
theorem dX8_lead_65 : decode cX8_lead 65 = .ok (.if_icmp .eq 96, 3) := by decide +kernel
theorem dX8_lead_68 : decode cX8_lead 68 = .ok (.aload_n 0, 1) := by decide +kernel
theorem dX8_lead_69 : decode cX8_lead 69 = .ok (.aload_n 1, 1) := by decide +kernel
theorem dX8_lead_70 : decode cX8_lead 70 = .ok (.getfield 91, 3) := by decide +kernel
theorem dX8_lead_73 : decode cX8_lead 73 = .ok (.iload 4, 2) := by decide +kernel
theorem dX8_lead_75 : decode cX8_lead 75 = .ok (.iaload, 1) := by decide +kernel
theorem dX8_lead_76 : decode cX8_lead 76 = .ok (.invokevirtual 87, 3) := by decide +kernel
theorem dX8_lead_79 : decode cX8_lead 79 = .ok (.goto 82, 3) := by decide +kernel
theorem dX8_lead_82 : decode cX8_lead 82 = .ok (.iload 4, 2) := by decide +kernel
theorem dX8_lead_84 : decode cX8_lead 84 = .ok (.iconst 1, 1) := by decide +kernel
theorem dX8_lead_85 : decode cX8_lead 85 = .ok (.iadd, 1) := by decide +kernel
theorem dX8_lead_86 : decode cX8_lead 86 = .ok (.istore 6, 2) := by decide +kernel
theorem dX8_lead_88 : decode cX8_lead 88 = .ok (.iload 6, 2) := by decide +kernel
theorem dX8_lead_90 : decode cX8_lead 90 = .ok (.iload 4, 2) := by decide +kernel
theorem dX8_lead_92 : decode cX8_lead 92 = .ok (.aload_n 1, 1) := by decide +kernel
theorem dX8_lead_93 : decode cX8_lead 93 = .ok (.getfield 94, 3) := by decide +kernel
theorem dX8_lead_96 : decode cX8_lead 96 = .ok (.iload 4, 2) := by decide +kernel
theorem dX8_lead_98 : decode cX8_lead 98 = .ok (.iaload, 1) := by decide +kernel
theorem dX8_lead_99 : decode cX8_lead 99 = .ok (.iadd, 1) := by decide +kernel
theorem dX8_lead_100 : decode cX8_lead 100 = .ok (.if_icmp .gt 34, 3) := by decide +kernel
theorem dX8_lead_103 : decode cX8_lead 103 = .ok (.iload 5, 2) := by decide +kernel
theorem dX8_lead_105 : decode cX8_lead 105 = .ok (.bipush (-2), 2) := by decide +kernel
theorem dX8_lead_107 : decode cX8_lead 107 = .ok (.if_icmp .eq 15, 3) := by decide +kernel
theorem dX8_lead_110 : decode cX8_lead 110 = .ok (.aload_n 1, 1) := by decide +kernel
theorem dX8_lead_111 : decode cX8_lead 111 = .ok (.getfield 97, 3) := by decide +kernel
theorem dX8_lead_114 : decode cX8_lead 114 = .ok (.iload 6, 2) := by decide +kernel
theorem dX8_lead_116 : decode cX8_lead 116 = .ok (.iaload, 1) := by decide +kernel
theorem dX8_lead_117 : decode cX8_lead 117 = .ok (.iload 5, 2) := by decide +kernel
theorem dX8_lead_119 : decode cX8_lead 119 = .ok (.if_icmp .ne 9, 3) := by decide +kernel
theorem dX8_lead_122 : decode cX8_lead 122 = .ok (.aload_n 0, 1) := by decide +kernel
theorem dX8_lead_123 : decode cX8_lead 123 = .ok (.iload 6, 2) := by decide +kernel
theorem dX8_lead_125 : decode cX8_lead 125 = .ok (.invokevirtual 87, 3) := by decide +kernel
theorem dX8_lead_128 : decode cX8_lead 128 = .ok (.iinc 6 1, 3) := by decide +kernel
theorem dX8_lead_131 : decode cX8_lead 131 = .ok (.goto (-43), 3) := by decide +kernel
theorem dX8_lead_134 : decode cX8_lead 134 = .ok (.goto 27, 3) := by decide +kernel
theorem dX8_lead_137 : decode cX8_lead 137 = .ok (.aload_n 0, 1) := by decide +kernel
theorem dX8_lead_138 : decode cX8_lead 138 = .ok (.aload_n 1, 1) := by decide +kernel
theorem dX8_lead_139 : decode cX8_lead 139 = .ok (.iload 4, 2) := by decide +kernel
theorem dX8_lead_141 : decode cX8_lead 141 = .ok (.aload_n 2, 1) := by decide +kernel
theorem dX8_lead_142 : decode cX8_lead 142 = .ok (.getfield 86, 3) := by decide +kernel
theorem dX8_lead_145 : decode cX8_lead 145 = .ok (.iload_n 3, 1) := by decide +kernel
theorem dX8_lead_146 : decode cX8_lead 146 = .ok (.iaload, 1) := by decide +kernel
theorem dX8_lead_147 : decode cX8_lead 147 = .ok (.iconst 2, 1) := by decide +kernel
theorem dX8_lead_148 : decode cX8_lead 148 = .ok (.if_icmp .ne 7, 3) := by decide +kernel
theorem dX8_lead_151 : decode cX8_lead 151 = .ok (.iconst 3, 1) := by decide +kernel
theorem dX8_lead_152 : decode cX8_lead 152 = .ok (.goto 4, 3) := by decide +kernel
theorem dX8_lead_155 : decode cX8_lead 155 = .ok (.iconst 1, 1) := by decide +kernel
theorem dX8_lead_156 : decode cX8_lead 156 = .ok (.iload 5, 2) := by decide +kernel
theorem dX8_lead_158 : decode cX8_lead 158 = .ok (.invokevirtual 100, 3) := by decide +kernel
theorem dX8_lead_161 : decode cX8_lead 161 = .ok (.return_, 1) := by decide +kernel
theorem v_X8_lead_0 {cs : Cs} {Q : Option AV → Mm → Prop} {MI ML : Nat → Nat → Int} {b d e nw th : Nat} {l3 l4 : Int} (hbd : b = 38 ∨ b = 81)
    (h : (0 ≤ l3 ∧ l3 < 12) ∧ ∀ m10, m10 = up2 MI 23 5 0 → (((m10 15 l3.toNat) = 0 → wp cs mX8_push KD (rV (GR d e nw th 1) fun m51 n51 => Q none (m51, n51, (GR d e nw th 1))) 0 (padL [vR 23, vI l4] 2) [] (KD, m10, ML, (GR d e nw th 1))) ∧ ((m10 15 l3.toNat) = 1 → (0 ≤ l4 ∧ l4 < 600) ∧ (((m10 (b + 33) l4.toNat) = (-1) → Q none (m10, ML, (GR d e nw th 1))) ∧ ((m10 (b + 33) l4.toNat) ≠ (-1) → wp cs mX8_push KD (rV (GR d e nw th 1) fun m76 n76 => Q none (m76, n76, (GR d e nw th 1))) 0 (padL [vR 23, vI (m10 (b + 33) l4.toNat)] 2) [] (KD, m10, ML, (GR d e nw th 1))))) ∧ ((m10 15 l3.toNat) = 2 → (((m10 15 l3.toNat) = 2 → wp cs mX8_lead KD Q 156 [some (vR 23), some (vR b), some (vR 14), some (vI l3), some (vI l4), some (vI (MI 16 l3.toNat)), none] [vI 3, vI l4, vR b, vR 23] (KD, m10, ML, (GR d e nw th 1))) ∧ ((m10 15 l3.toNat) ≠ 2 → wp cs mX8_lead KD Q 156 [some (vR 23), some (vR b), some (vR 14), some (vI l3), some (vI l4), some (vI (MI 16 l3.toNat)), none] [vI 1, vI l4, vR b, vR 23] (KD, m10, ML, (GR d e nw th 1))))) ∧ ((m10 15 l3.toNat) = 3 → (-2147483648 ≤ l4 + 1 ∧ l4 + 1 < 2147483648) ∧ wp cs mX8_lead KD Q 88 [some (vR 23), some (vR b), some (vR 14), some (vI l3), some (vI l4), some (vI (MI 16 l3.toNat)), some (vI (l4 + 1))] [] (KD, m10, ML, (GR d e nw th 1))) ∧ ((m10 15 l3.toNat) < 0 ∨ 3 < (m10 15 l3.toNat) → (((m10 15 l3.toNat) = 2 → wp cs mX8_lead KD Q 156 [some (vR 23), some (vR b), some (vR 14), some (vI l3), some (vI l4), some (vI (MI 16 l3.toNat)), none] [vI 3, vI l4, vR b, vR 23] (KD, m10, ML, (GR d e nw th 1))) ∧ ((m10 15 l3.toNat) ≠ 2 → wp cs mX8_lead KD Q 156 [some (vR 23), some (vR b), some (vR 14), some (vI l3), some (vI l4), some (vI (MI 16 l3.toNat)), none] [vI 1, vI l4, vR b, vR 23] (KD, m10, ML, (GR d e nw th 1))))))) :
    wp cs mX8_lead KD Q 0 (padL [vR 23, vR b, vR 14, vI l3, vI l4] 7) [] (KD, MI, ML, (GR d e nw th 1)) := by
  refine wp_L (L' := [some (vR 23), some (vR b), some (vR 14), some (vI l3), some (vI l4), none, none]) rfl ?_
  refine wp_aload_n dX8_lead_0 rfl rfl (by first | exact Or.inl (by decide) | exact Or.inl (by omega) | exact Or.inr (by decide) | exact Or.inr (by omega)) ?_
  refine wp_getR dX8_lead_1 fX8_83 rfl (by decide) ?_
  refine wp_topR (x' := 16) rfl ?_
  refine wp_iload_n dX8_lead_4 rfl rfl ?_
  have c0 := h.1
  replace h := h.2
  refine wp_iald dX8_lead_5 rfl (by decide) c0 ?_
  refine wp_istore dX8_lead_6 (by decide) (wp_L (L' := [some (vR 23), some (vR b), some (vR 14), some (vI l3), some (vI l4), some (vI (MI 16 l3.toNat)), none]) rfl ?_)
  refine wp_aload_n dX8_lead_8 rfl rfl (by first | exact Or.inl (by decide) | exact Or.inl (by omega) | exact Or.inr (by decide) | exact Or.inr (by omega)) ?_
  refine wp_iconst dX8_lead_9 (by decide) ?_
  refine wp_pc (pc' := 10) rfl ?_
  refine wp_putI dX8_lead_10 pX8_29 rfl (by decide) ?_
  refine wp_gI (fun m10 e10 => ?_)
  replace h := h m10 e10
  refine wp_aload_n dX8_lead_13 rfl rfl (by first | exact Or.inl (by decide) | exact Or.inl (by omega) | exact Or.inr (by decide) | exact Or.inr (by omega)) ?_
  refine wp_getR dX8_lead_14 fX8_86 rfl (by decide) ?_
  refine wp_topR (x' := 15) rfl ?_
  refine wp_iload_n dX8_lead_17 rfl rfl ?_
  refine wp_iald dX8_lead_18 rfl (by decide) c0 ?_
  by_cases hsw : 0 ≤ (m10 15 l3.toNat) ∧ (m10 15 l3.toNat) ≤ 3
  · rcases (by omega : (m10 15 l3.toNat) = 0 ∨ (m10 15 l3.toNat) = 1 ∨ (m10 15 l3.toNat) = 2 ∨ (m10 15 l3.toNat) = 3) with q | q | q | q
    · refine wp_topI (x' := 0) q ?_
      refine wp_tableIn (tgt := 48) dX8_lead_19 (by decide) rfl (by decide) ?_
      replace h := h.1 q
      refine wp_aload_n dX8_lead_48 rfl rfl (by first | exact Or.inl (by decide) | exact Or.inl (by omega) | exact Or.inr (by decide) | exact Or.inr (by omega)) ?_
      refine wp_iload dX8_lead_49 rfl ?_
      refine wp_cVq (n := 1) (mt' := mX8_push) (as := [vI l4]) (rest := []) _ dX8_lead_51 lX8_87 kX8_push vX8_push (by decide) (by decide +kernel) rfl (Nat.le_of_ble_eq_true rfl) (by decide) rfl rfl rfl (Nat.le_of_ble_eq_true rfl) (fun hM hS => h) (fun r M' hq hM => ?_)
      obtain ⟨m51, n51, rfl, rfl, h⟩ := rV_out hq
      refine wp_goto (tgt := 161) dX8_lead_54 (by decide) ?_
      exact wp_vret dX8_lead_161 rfl (fun _ => h)
    · refine wp_topI (x' := 1) q ?_
      refine wp_tableIn (tgt := 57) dX8_lead_19 (by decide) rfl (by decide) ?_
      replace h := h.2.1 q
      refine wp_aload_n dX8_lead_57 rfl rfl (by first | exact Or.inl (by decide) | exact Or.inl (by omega) | exact Or.inr (by decide) | exact Or.inr (by omega)) ?_
      refine wp_getR dX8_lead_58 fX8_91 (show KD[b]? = some (7, 19) from kdb_0 hbd) (by omega) ?_
      refine wp_topR (x' := (b + 33)) (grb_0_4 hbd) ?_
      refine wp_iload dX8_lead_61 rfl ?_
      have c1 := h.1
      replace h := h.2
      refine wp_iald dX8_lead_63 (kdb_33 hbd) (by omega) c1 ?_
      refine wp_iconst dX8_lead_64 (by decide) ?_
      refine wp_icmp_eq (tgt := 161) dX8_lead_65 (by decide) (fun h65 => ?_) (fun h65 => ?_)
      · replace h := h.1 h65
        exact wp_vret dX8_lead_161 rfl (fun _ => h)
      · replace h := h.2 h65
        refine wp_aload_n dX8_lead_68 rfl rfl (by first | exact Or.inl (by decide) | exact Or.inl (by omega) | exact Or.inr (by decide) | exact Or.inr (by omega)) ?_
        refine wp_aload_n dX8_lead_69 rfl rfl (by first | exact Or.inl (by decide) | exact Or.inl (by omega) | exact Or.inr (by decide) | exact Or.inr (by omega)) ?_
        refine wp_getR dX8_lead_70 fX8_91 (show KD[b]? = some (7, 19) from kdb_0 hbd) (by omega) ?_
        refine wp_topR (x' := (b + 33)) (grb_0_4 hbd) ?_
        refine wp_iload dX8_lead_73 rfl ?_
        refine wp_iald dX8_lead_75 (kdb_33 hbd) (by omega) c1 ?_
        refine wp_cVq (n := 1) (mt' := mX8_push) (as := [vI (m10 (b + 33) l4.toNat)]) (rest := []) _ dX8_lead_76 lX8_87 kX8_push vX8_push (by decide) (by decide +kernel) rfl (Nat.le_of_ble_eq_true rfl) (by decide) rfl rfl rfl (Nat.le_of_ble_eq_true rfl) (fun hM hS => h) (fun r M' hq hM => ?_)
        obtain ⟨m76, n76, rfl, rfl, h⟩ := rV_out hq
        refine wp_goto (tgt := 161) dX8_lead_79 (by decide) ?_
        exact wp_vret dX8_lead_161 rfl (fun _ => h)
    · refine wp_topI (x' := 2) q ?_
      refine wp_tableIn (tgt := 137) dX8_lead_19 (by decide) rfl (by decide) ?_
      replace h := h.2.2.1 q
      refine wp_aload_n dX8_lead_137 rfl rfl (by first | exact Or.inl (by decide) | exact Or.inl (by omega) | exact Or.inr (by decide) | exact Or.inr (by omega)) ?_
      refine wp_aload_n dX8_lead_138 rfl rfl (by first | exact Or.inl (by decide) | exact Or.inl (by omega) | exact Or.inr (by decide) | exact Or.inr (by omega)) ?_
      refine wp_iload dX8_lead_139 rfl ?_
      refine wp_aload_n dX8_lead_141 rfl rfl (by first | exact Or.inl (by decide) | exact Or.inl (by omega) | exact Or.inr (by decide) | exact Or.inr (by omega)) ?_
      refine wp_getR dX8_lead_142 fX8_86 rfl (by decide) ?_
      refine wp_topR (x' := 15) rfl ?_
      refine wp_iload_n dX8_lead_145 rfl rfl ?_
      refine wp_iald dX8_lead_146 rfl (by decide) c0 ?_
      refine wp_pc (pc' := 147) rfl ?_
      refine wp_iconst dX8_lead_147 (by decide) ?_
      refine wp_icmp_ne (tgt := 155) dX8_lead_148 (by decide) (fun h148 => ?_) (fun h148 => ?_)
      · replace h := h.2 h148
        refine wp_iconst dX8_lead_155 (by decide) ?_
        exact h
      · replace h := h.1 h148
        refine wp_iconst dX8_lead_151 (by decide) ?_
        refine wp_goto (tgt := 156) dX8_lead_152 (by decide) ?_
        exact h
    · refine wp_topI (x' := 3) q ?_
      refine wp_tableIn (tgt := 82) dX8_lead_19 (by decide) rfl (by decide) ?_
      replace h := h.2.2.2.1 q
      refine wp_iload dX8_lead_82 rfl ?_
      refine wp_iconst dX8_lead_84 (by decide) ?_
      have c1 := h.1
      replace h := h.2
      refine wp_iaddr dX8_lead_85 c1 ?_
      refine wp_istore dX8_lead_86 (by decide) (wp_L (L' := [some (vR 23), some (vR b), some (vR 14), some (vI l3), some (vI l4), some (vI (MI 16 l3.toNat)), some (vI (l4 + 1))]) rfl ?_)
      exact h
  · refine wp_tableOut (tgt := 137) dX8_lead_19 (by omega) (by decide) ?_
    replace h := h.2.2.2.2 (by omega)
    refine wp_aload_n dX8_lead_137 rfl rfl (by first | exact Or.inl (by decide) | exact Or.inl (by omega) | exact Or.inr (by decide) | exact Or.inr (by omega)) ?_
    refine wp_aload_n dX8_lead_138 rfl rfl (by first | exact Or.inl (by decide) | exact Or.inl (by omega) | exact Or.inr (by decide) | exact Or.inr (by omega)) ?_
    refine wp_iload dX8_lead_139 rfl ?_
    refine wp_aload_n dX8_lead_141 rfl rfl (by first | exact Or.inl (by decide) | exact Or.inl (by omega) | exact Or.inr (by decide) | exact Or.inr (by omega)) ?_
    refine wp_getR dX8_lead_142 fX8_86 rfl (by decide) ?_
    refine wp_topR (x' := 15) rfl ?_
    refine wp_iload_n dX8_lead_145 rfl rfl ?_
    refine wp_iald dX8_lead_146 rfl (by decide) c0 ?_
    refine wp_pc (pc' := 147) rfl ?_
    refine wp_iconst dX8_lead_147 (by decide) ?_
    refine wp_icmp_ne (tgt := 155) dX8_lead_148 (by decide) (fun h148 => ?_) (fun h148 => ?_)
    · replace h := h.2 h148
      refine wp_iconst dX8_lead_155 (by decide) ?_
      exact h
    · replace h := h.1 h148
      refine wp_iconst dX8_lead_151 (by decide) ?_
      refine wp_goto (tgt := 156) dX8_lead_152 (by decide) ?_
      exact h
theorem v_X8_lead_88 {cs : Cs} {Q : Option AV → Mm → Prop} {MI ML : Nat → Nat → Int} {b d e nw th : Nat} {l3 l4 l5 l6 : Int} (hbd : b = 38 ∨ b = 81)
    (h : (0 ≤ l4 ∧ l4 < 600) ∧ (-2147483648 ≤ l4 + (MI (b + 35) l4.toNat) ∧ l4 + (MI (b + 35) l4.toNat) < 2147483648) ∧ (((l4 + (MI (b + 35) l4.toNat)) < l6 → Q none (MI, ML, (GR d e nw th 1))) ∧ (l6 ≤ (l4 + (MI (b + 35) l4.toNat)) → ((l5 = (-2) → wp cs mX8_lead KD Q 122 [some (vR 23), some (vR b), some (vR 14), some (vI l3), some (vI l4), some (vI l5), some (vI l6)] [] (KD, MI, ML, (GR d e nw th 1))) ∧ (l5 ≠ (-2) → (0 ≤ l6 ∧ l6 < 600) ∧ (((MI (b + 34) l6.toNat) = l5 → wp cs mX8_lead KD Q 122 [some (vR 23), some (vR b), some (vR 14), some (vI l3), some (vI l4), some (vI l5), some (vI l6)] [] (KD, MI, ML, (GR d e nw th 1))) ∧ ((MI (b + 34) l6.toNat) ≠ l5 → (-2147483648 ≤ l6 + 1 ∧ l6 + 1 < 2147483648) ∧ wp cs mX8_lead KD Q 88 [some (vR 23), some (vR b), some (vR 14), some (vI l3), some (vI l4), some (vI l5), some (vI (l6 + 1))] [] (KD, MI, ML, (GR d e nw th 1))))))))) :
    wp cs mX8_lead KD Q 88 [some (vR 23), some (vR b), some (vR 14), some (vI l3), some (vI l4), some (vI l5), some (vI l6)] [] (KD, MI, ML, (GR d e nw th 1)) := by
  refine wp_iload dX8_lead_88 rfl ?_
  refine wp_iload dX8_lead_90 rfl ?_
  refine wp_aload_n dX8_lead_92 rfl rfl (by first | exact Or.inl (by decide) | exact Or.inl (by omega) | exact Or.inr (by decide) | exact Or.inr (by omega)) ?_
  refine wp_getR dX8_lead_93 fX8_94 (show KD[b]? = some (7, 19) from kdb_0 hbd) (by omega) ?_
  refine wp_topR (x' := (b + 35)) (grb_0_6 hbd) ?_
  refine wp_iload dX8_lead_96 rfl ?_
  have c0 := h.1
  replace h := h.2
  refine wp_iald dX8_lead_98 (kdb_35 hbd) (by omega) c0 ?_
  have c1 := h.1
  replace h := h.2
  refine wp_iaddr dX8_lead_99 c1 ?_
  refine wp_pc (pc' := 100) rfl ?_
  refine wp_icmp_gt (tgt := 134) dX8_lead_100 (by decide) (fun h100 => ?_) (fun h100 => ?_)
  · replace h := h.1 h100
    refine wp_goto (tgt := 161) dX8_lead_134 (by decide) ?_
    exact wp_vret dX8_lead_161 rfl (fun _ => h)
  · replace h := h.2 h100
    refine wp_iload dX8_lead_103 rfl ?_
    refine wp_bipush dX8_lead_105 (by decide +kernel) (by decide) ?_
    refine wp_icmp_eq (tgt := 122) dX8_lead_107 (by decide) (fun h107 => ?_) (fun h107 => ?_)
    · replace h := h.1 h107
      exact h
    · replace h := h.2 h107
      refine wp_aload_n dX8_lead_110 rfl rfl (by first | exact Or.inl (by decide) | exact Or.inl (by omega) | exact Or.inr (by decide) | exact Or.inr (by omega)) ?_
      refine wp_getR dX8_lead_111 fX8_97 (show KD[b]? = some (7, 19) from kdb_0 hbd) (by omega) ?_
      refine wp_topR (x' := (b + 34)) (grb_0_5 hbd) ?_
      refine wp_iload dX8_lead_114 rfl ?_
      have c2 := h.1
      replace h := h.2
      refine wp_iald dX8_lead_116 (kdb_34 hbd) (by omega) c2 ?_
      refine wp_iload dX8_lead_117 rfl ?_
      refine wp_icmp_ne (tgt := 128) dX8_lead_119 (by decide) (fun h119 => ?_) (fun h119 => ?_)
      · replace h := h.2 h119
        have c3 := h.1
        replace h := h.2
        refine wp_iincr dX8_lead_128 rfl (by decide) c3 (wp_L (L' := [some (vR 23), some (vR b), some (vR 14), some (vI l3), some (vI l4), some (vI l5), some (vI (l6 + 1))]) rfl ?_)
        refine wp_goto (tgt := 88) dX8_lead_131 (by decide) ?_
        exact h
      · replace h := h.1 h119
        exact h
theorem v_X8_lead_122 {cs : Cs} {Q : Option AV → Mm → Prop} {MI ML : Nat → Nat → Int} {b d e nw th : Nat} {l3 l4 l5 l6 : Int} (hbd : b = 38 ∨ b = 81)
    (h : wp cs mX8_push KD (rV (GR d e nw th 1) fun m125 n125 => (-2147483648 ≤ l6 + 1 ∧ l6 + 1 < 2147483648) ∧ wp cs mX8_lead KD Q 88 [some (vR 23), some (vR b), some (vR 14), some (vI l3), some (vI l4), some (vI l5), some (vI (l6 + 1))] [] (KD, m125, n125, (GR d e nw th 1))) 0 (padL [vR 23, vI l6] 2) [] (KD, MI, ML, (GR d e nw th 1))) :
    wp cs mX8_lead KD Q 122 [some (vR 23), some (vR b), some (vR 14), some (vI l3), some (vI l4), some (vI l5), some (vI l6)] [] (KD, MI, ML, (GR d e nw th 1)) := by
  refine wp_aload_n dX8_lead_122 rfl rfl (by first | exact Or.inl (by decide) | exact Or.inl (by omega) | exact Or.inr (by decide) | exact Or.inr (by omega)) ?_
  refine wp_iload dX8_lead_123 rfl ?_
  refine wp_cVq (n := 1) (mt' := mX8_push) (as := [vI l6]) (rest := []) _ dX8_lead_125 lX8_87 kX8_push vX8_push (by decide) (by decide +kernel) rfl (Nat.le_of_ble_eq_true rfl) (by decide) rfl rfl rfl (Nat.le_of_ble_eq_true rfl) (fun hM hS => h) (fun r M' hq hM => ?_)
  obtain ⟨m125, n125, rfl, rfl, h⟩ := rV_out hq
  have c0 := h.1
  replace h := h.2
  refine wp_iincr dX8_lead_128 rfl (by decide) c0 (wp_L (L' := [some (vR 23), some (vR b), some (vR 14), some (vI l3), some (vI l4), some (vI l5), some (vI (l6 + 1))]) rfl ?_)
  refine wp_goto (tgt := 88) dX8_lead_131 (by decide) ?_
  exact h
theorem v_X8_lead_156 {cs : Cs} {Q : Option AV → Mm → Prop} {MI ML : Nat → Nat → Int} {b d e nw th : Nat} {l3 l4 l5 s0 s1 : Int}
    (h : wp cs mX8_leadInto KD (rV (GR d e nw th 1) fun m158 n158 => Q none (m158, n158, (GR d e nw th 1))) 0 (padL [vR 23, vR b, vI s1, vI s0, vI l5] 6) [] (KD, MI, ML, (GR d e nw th 1))) :
    wp cs mX8_lead KD Q 156 [some (vR 23), some (vR b), some (vR 14), some (vI l3), some (vI l4), some (vI l5), none] [vI s0, vI s1, vR b, vR 23] (KD, MI, ML, (GR d e nw th 1)) := by
  refine wp_iload dX8_lead_156 rfl ?_
  refine wp_cVq (n := 4) (mt' := mX8_leadInto) (as := [vR b, vI s1, vI s0, vI l5]) (rest := []) _ dX8_lead_158 lX8_100 kX8_leadInto vX8_leadInto (by decide) (by decide +kernel) rfl (Nat.le_of_ble_eq_true rfl) (by decide) rfl rfl rfl (Nat.le_of_ble_eq_true rfl) (fun hM hS => h) (fun r M' hq hM => ?_)
  obtain ⟨m158, n158, rfl, rfl, h⟩ := rV_out hq
  exact wp_vret dX8_lead_161 rfl (fun _ => h)
theorem dX6_quotedBytes_0 : decode cX6_quotedBytes 0 = .ok (.aload_n 0, 1) := by decide +kernel
theorem dX6_quotedBytes_1 : decode cX6_quotedBytes 1 = .ok (.getfield 45, 3) := by decide +kernel
theorem dX6_quotedBytes_4 : decode cX6_quotedBytes 4 = .ok (.getfield 49, 3) := by decide +kernel
theorem dX6_quotedBytes_7 : decode cX6_quotedBytes 7 = .ok (.areturn, 1) := by decide +kernel
theorem v_X6_quotedBytes_0 {cs : Cs} {Q : Option AV → Mm → Prop} {MI ML : Nat → Nat → Int} {d e nw th : Nat}
    (h : Q (some (vR 1)) (MI, ML, (GR d e nw th 1))) :
    wp cs mX6_quotedBytes KD Q 0 (padL [vR 14] 1) [] (KD, MI, ML, (GR d e nw th 1)) := by
  refine wp_L (L' := [some (vR 14)]) rfl ?_
  refine wp_aload_n dX6_quotedBytes_0 rfl rfl (by first | exact Or.inl (by decide) | exact Or.inl (by omega) | exact Or.inr (by decide) | exact Or.inr (by omega)) ?_
  refine wp_getR dX6_quotedBytes_1 fX6_45 rfl (by decide) ?_
  refine wp_topR (x' := 2) rfl ?_
  refine wp_getR dX6_quotedBytes_4 fX6_49 rfl (by decide) ?_
  refine wp_topR (x' := 1) rfl ?_
  exact wp_aret dX6_quotedBytes_7 rfl (Or.inr ⟨_, rfl⟩) (by first | exact Or.inl (by decide) | exact Or.inl (by omega)) (fun _ => h)
theorem dX8_isQuoted_0 : decode cX8_isQuoted 0 = .ok (.aload_n 2, 1) := by decide +kernel
theorem dX8_isQuoted_1 : decode cX8_isQuoted 1 = .ok (.getfield 124, 3) := by decide +kernel
theorem dX8_isQuoted_4 : decode cX8_isQuoted 4 = .ok (.iload_n 3, 1) := by decide +kernel
theorem dX8_isQuoted_5 : decode cX8_isQuoted 5 = .ok (.iaload, 1) := by decide +kernel
theorem dX8_isQuoted_6 : decode cX8_isQuoted 6 = .ok (.istore 5, 2) := by decide +kernel
theorem dX8_isQuoted_8 : decode cX8_isQuoted 8 = .ok (.iload 5, 2) := by decide +kernel
theorem dX8_isQuoted_10 : decode cX8_isQuoted 10 = .ok (.iconst (-1), 1) := by decide +kernel
theorem dX8_isQuoted_11 : decode cX8_isQuoted 11 = .ok (.if_icmp .ne 5, 3) := by decide +kernel
theorem dX8_isQuoted_14 : decode cX8_isQuoted 14 = .ok (.iconst 1, 1) := by decide +kernel
theorem dX8_isQuoted_15 : decode cX8_isQuoted 15 = .ok (.ireturn, 1) := by decide +kernel
theorem dX8_isQuoted_16 : decode cX8_isQuoted 16 = .ok (.aload_n 1, 1) := by decide +kernel
theorem dX8_isQuoted_17 : decode cX8_isQuoted 17 = .ok (.getfield 127, 3) := by decide +kernel
theorem dX8_isQuoted_20 : decode cX8_isQuoted 20 = .ok (.iload 4, 2) := by decide +kernel
theorem dX8_isQuoted_22 : decode cX8_isQuoted 22 = .ok (.iaload, 1) := by decide +kernel
theorem dX8_isQuoted_23 : decode cX8_isQuoted 23 = .ok (.aload_n 1, 1) := by decide +kernel
theorem dX8_isQuoted_24 : decode cX8_isQuoted 24 = .ok (.getfield 130, 3) := by decide +kernel
theorem dX8_isQuoted_27 : decode cX8_isQuoted 27 = .ok (.iload 4, 2) := by decide +kernel
theorem dX8_isQuoted_29 : decode cX8_isQuoted 29 = .ok (.iaload, 1) := by decide +kernel
theorem dX8_isQuoted_30 : decode cX8_isQuoted 30 = .ok (.isub, 1) := by decide +kernel
theorem dX8_isQuoted_31 : decode cX8_isQuoted 31 = .ok (.iload 5, 2) := by decide +kernel
theorem dX8_isQuoted_33 : decode cX8_isQuoted 33 = .ok (.if_icmp .ne 26, 3) := by decide +kernel
theorem dX8_isQuoted_36 : decode cX8_isQuoted 36 = .ok (.aload_n 1, 1) := by decide +kernel
theorem dX8_isQuoted_37 : decode cX8_isQuoted 37 = .ok (.iload 4, 2) := by decide +kernel
theorem dX8_isQuoted_39 : decode cX8_isQuoted 39 = .ok (.aload_n 2, 1) := by decide +kernel
theorem dX8_isQuoted_40 : decode cX8_isQuoted 40 = .ok (.invokevirtual 133, 3) := by decide +kernel
theorem dX8_isQuoted_43 : decode cX8_isQuoted 43 = .ok (.aload_n 2, 1) := by decide +kernel
theorem dX8_isQuoted_44 : decode cX8_isQuoted 44 = .ok (.getfield 137, 3) := by decide +kernel
theorem dX8_isQuoted_47 : decode cX8_isQuoted 47 = .ok (.iload_n 3, 1) := by decide +kernel
theorem dX8_isQuoted_48 : decode cX8_isQuoted 48 = .ok (.iaload, 1) := by decide +kernel
theorem dX8_isQuoted_49 : decode cX8_isQuoted 49 = .ok (.invokevirtual 140, 3) := by decide +kernel
theorem dX8_isQuoted_52 : decode cX8_isQuoted 52 = .ok (.ifCond .eq 7, 3) := by decide +kernel
theorem dX8_isQuoted_55 : decode cX8_isQuoted 55 = .ok (.iconst 1, 1) := by decide +kernel
theorem dX8_isQuoted_56 : decode cX8_isQuoted 56 = .ok (.goto 4, 3) := by decide +kernel
theorem dX8_isQuoted_59 : decode cX8_isQuoted 59 = .ok (.iconst 0, 1) := by decide +kernel
theorem dX8_isQuoted_60 : decode cX8_isQuoted 60 = .ok (.ireturn, 1) := by decide +kernel
theorem v_X8_isQuoted_0 {cs : Cs} {Q : Option AV → Mm → Prop} {MI ML : Nat → Nat → Int} {b d e nw th : Nat} {l3 l4 : Int} (hbd : b = 38 ∨ b = 81)
    (h : (0 ≤ l3 ∧ l3 < 48) ∧ (((MI 22 l3.toNat) = (-1) → Q (some (vI 1)) (MI, ML, (GR d e nw th 1))) ∧ ((MI 22 l3.toNat) ≠ (-1) → (0 ≤ l4 ∧ l4 < 600) ∧ (-2147483648 ≤ (MI (b + 40) l4.toNat) - (MI (b + 39) l4.toNat) ∧ (MI (b + 40) l4.toNat) - (MI (b + 39) l4.toNat) < 2147483648) ∧ ((((MI (b + 40) l4.toNat) - (MI (b + 39) l4.toNat)) = (MI 22 l3.toNat) → wp cs mX6_quotedBytes KD (rR 1 (GR d e nw th 1) fun m40 n40 => wp cs mX3_hasBytes KD (rI (GR d e nw th 1) fun x49 m49 n49 => ((x49 = 0 → Q (some (vI 0)) (m49, n49, (GR d e nw th 1))) ∧ (x49 ≠ 0 → Q (some (vI 1)) (m49, n49, (GR d e nw th 1))))) 0 (padL [vR b, vI l4, vR 1, vI (m40 21 l3.toNat)] 7) [] (KD, m40, n40, (GR d e nw th 1))) 0 (padL [vR 14] 1) [] (KD, MI, ML, (GR d e nw th 1))) ∧ (((MI (b + 40) l4.toNat) - (MI (b + 39) l4.toNat)) ≠ (MI 22 l3.toNat) → Q (some (vI 0)) (MI, ML, (GR d e nw th 1))))))) :
    wp cs mX8_isQuoted KD Q 0 (padL [vR 23, vR b, vR 14, vI l3, vI l4] 6) [] (KD, MI, ML, (GR d e nw th 1)) := by
  refine wp_L (L' := [some (vR 23), some (vR b), some (vR 14), some (vI l3), some (vI l4), none]) rfl ?_
  refine wp_aload_n dX8_isQuoted_0 rfl rfl (by first | exact Or.inl (by decide) | exact Or.inl (by omega) | exact Or.inr (by decide) | exact Or.inr (by omega)) ?_
  refine wp_getR dX8_isQuoted_1 fX8_124 rfl (by decide) ?_
  refine wp_topR (x' := 22) rfl ?_
  refine wp_iload_n dX8_isQuoted_4 rfl rfl ?_
  have c0 := h.1
  replace h := h.2
  refine wp_iald dX8_isQuoted_5 rfl (by decide) c0 ?_
  refine wp_istore dX8_isQuoted_6 (by decide) (wp_L (L' := [some (vR 23), some (vR b), some (vR 14), some (vI l3), some (vI l4), some (vI (MI 22 l3.toNat))]) rfl ?_)
  refine wp_iload dX8_isQuoted_8 rfl ?_
  refine wp_iconst dX8_isQuoted_10 (by decide) ?_
  refine wp_pc (pc' := 11) rfl ?_
  refine wp_icmp_ne (tgt := 16) dX8_isQuoted_11 (by decide) (fun h11 => ?_) (fun h11 => ?_)
  · replace h := h.2 h11
    refine wp_aload_n dX8_isQuoted_16 rfl rfl (by first | exact Or.inl (by decide) | exact Or.inl (by omega) | exact Or.inr (by decide) | exact Or.inr (by omega)) ?_
    refine wp_getR dX8_isQuoted_17 fX8_127 (show KD[b]? = some (7, 19) from kdb_0 hbd) (by omega) ?_
    refine wp_topR (x' := (b + 40)) (grb_0_11 hbd) ?_
    refine wp_iload dX8_isQuoted_20 rfl ?_
    have c1 := h.1
    replace h := h.2
    refine wp_iald dX8_isQuoted_22 (kdb_40 hbd) (by omega) c1 ?_
    refine wp_aload_n dX8_isQuoted_23 rfl rfl (by first | exact Or.inl (by decide) | exact Or.inl (by omega) | exact Or.inr (by decide) | exact Or.inr (by omega)) ?_
    refine wp_getR dX8_isQuoted_24 fX8_130 (show KD[b]? = some (7, 19) from kdb_0 hbd) (by omega) ?_
    refine wp_topR (x' := (b + 39)) (grb_0_10 hbd) ?_
    refine wp_iload dX8_isQuoted_27 rfl ?_
    refine wp_pc (pc' := 29) rfl ?_
    refine wp_iald dX8_isQuoted_29 (kdb_39 hbd) (by omega) c1 ?_
    have c2 := h.1
    replace h := h.2
    refine wp_isubr dX8_isQuoted_30 c2 ?_
    refine wp_iload dX8_isQuoted_31 rfl ?_
    refine wp_icmp_ne (tgt := 59) dX8_isQuoted_33 (by decide) (fun h33 => ?_) (fun h33 => ?_)
    · replace h := h.2 h33
      refine wp_iconst dX8_isQuoted_59 (by decide) ?_
      exact wp_zret dX8_isQuoted_60 rfl (by decide) (fun _ => h)
    · replace h := h.1 h33
      refine wp_aload_n dX8_isQuoted_36 rfl rfl (by first | exact Or.inl (by decide) | exact Or.inl (by omega) | exact Or.inr (by decide) | exact Or.inr (by omega)) ?_
      refine wp_iload dX8_isQuoted_37 rfl ?_
      refine wp_aload_n dX8_isQuoted_39 rfl rfl (by first | exact Or.inl (by decide) | exact Or.inl (by omega) | exact Or.inr (by decide) | exact Or.inr (by omega)) ?_
      refine wp_cVq (n := 0) (mt' := mX6_quotedBytes) (as := []) (rest := [vI l4, vR b]) _ dX8_isQuoted_40 lX8_133 kX6_quotedBytes vX6_quotedBytes (by decide) (by decide +kernel) rfl (Nat.le_of_ble_eq_true rfl) (by decide) rfl rfl rfl (Nat.le_of_ble_eq_true rfl) (fun hM hS => h) (fun r M' hq hM => ?_)
      obtain ⟨m40, n40, rfl, rfl, h⟩ := rR_out hq
      refine wp_aload_n dX8_isQuoted_43 rfl rfl (by first | exact Or.inl (by decide) | exact Or.inl (by omega) | exact Or.inr (by decide) | exact Or.inr (by omega)) ?_
      refine wp_getR dX8_isQuoted_44 fX8_137 rfl (by decide) ?_
      refine wp_topR (x' := 21) rfl ?_
      refine wp_iload_n dX8_isQuoted_47 rfl rfl ?_
      refine wp_iald dX8_isQuoted_48 rfl (by decide) c0 ?_
      refine wp_cVq (n := 3) (mt' := mX3_hasBytes) (as := [vI l4, vR 1, vI (m40 21 l3.toNat)]) (rest := []) _ dX8_isQuoted_49 lX8_140 kX3_hasBytes vX3_hasBytes (by decide) (by decide +kernel) rfl (Nat.le_of_ble_eq_true rfl) (by omega) (show KD[b]? = some (7, 19) from kdb_0 hbd) rfl rfl (Nat.le_of_ble_eq_true rfl) (fun hM hS => h) (fun r M' hq hM => ?_)
      obtain ⟨x49, m49, n49, rfl, rfl, h⟩ := rI_out hq
      refine wp_if_eq (tgt := 59) dX8_isQuoted_52 (by decide) (fun h52 => ?_) (fun h52 => ?_)
      · replace h := h.1 h52
        refine wp_iconst dX8_isQuoted_59 (by decide) ?_
        exact wp_zret dX8_isQuoted_60 rfl (by decide) (fun _ => h)
      · replace h := h.2 h52
        refine wp_iconst dX8_isQuoted_55 (by decide) ?_
        refine wp_goto (tgt := 60) dX8_isQuoted_56 (by decide) ?_
        exact wp_zret dX8_isQuoted_60 rfl (by decide) (fun _ => h)
  · replace h := h.1 h11
    refine wp_iconst dX8_isQuoted_14 (by decide) ?_
    exact wp_zret dX8_isQuoted_15 rfl (by decide) (fun _ => h)
theorem dX8_passes_0 : decode cX8_passes 0 = .ok (.aload_n 2, 1) := by decide +kernel
theorem dX8_passes_1 : decode cX8_passes 1 = .ok (.getfield 111, 3) := by decide +kernel
theorem dX8_passes_4 : decode cX8_passes 4 = .ok (.iload_n 3, 1) := by decide +kernel
theorem dX8_passes_5 : decode cX8_passes 5 = .ok (.iaload, 1) := by decide +kernel
theorem dX8_passes_6 : decode cX8_passes 6 = .ok (.istore 5, 2) := by decide +kernel
theorem dX8_passes_8 : decode cX8_passes 8 = .ok (.aload_n 2, 1) := by decide +kernel
theorem dX8_passes_9 : decode cX8_passes 9 = .ok (.getfield 108, 3) := by decide +kernel
theorem dX8_passes_12 : decode cX8_passes 12 = .ok (.iload_n 3, 1) := by decide +kernel
theorem dX8_passes_13 : decode cX8_passes 13 = .ok (.iaload, 1) := by decide +kernel
theorem dX8_passes_14 : decode cX8_passes 14 = .ok (.iconst 2, 1) := by decide +kernel
theorem dX8_passes_15 : decode cX8_passes 15 = .ok (.if_icmp .ne 13, 3) := by decide +kernel
theorem dX8_passes_18 : decode cX8_passes 18 = .ok (.aload_n 0, 1) := by decide +kernel
theorem dX8_passes_19 : decode cX8_passes 19 = .ok (.aload_n 1, 1) := by decide +kernel
theorem dX8_passes_20 : decode cX8_passes 20 = .ok (.aload_n 2, 1) := by decide +kernel
theorem dX8_passes_21 : decode cX8_passes 21 = .ok (.iload_n 3, 1) := by decide +kernel
theorem dX8_passes_22 : decode cX8_passes 22 = .ok (.iload 4, 2) := by decide +kernel
theorem dX8_passes_24 : decode cX8_passes 24 = .ok (.invokevirtual 118, 3) := by decide +kernel
theorem dX8_passes_27 : decode cX8_passes 27 = .ok (.ireturn, 1) := by decide +kernel
theorem dX8_passes_28 : decode cX8_passes 28 = .ok (.aload_n 2, 1) := by decide +kernel
theorem dX8_passes_29 : decode cX8_passes 29 = .ok (.getfield 108, 3) := by decide +kernel
theorem dX8_passes_32 : decode cX8_passes 32 = .ok (.iload_n 3, 1) := by decide +kernel
theorem dX8_passes_33 : decode cX8_passes 33 = .ok (.iaload, 1) := by decide +kernel
theorem dX8_passes_34 : decode cX8_passes 34 = .ok (.iconst 3, 1) := by decide +kernel
theorem dX8_passes_35 : decode cX8_passes 35 = .ok (.if_icmp .ne 37, 3) := by decide +kernel
theorem dX8_passes_38 : decode cX8_passes 38 = .ok (.aload_n 1, 1) := by decide +kernel
theorem dX8_passes_39 : decode cX8_passes 39 = .ok (.iload 4, 2) := by decide +kernel
theorem dX8_passes_41 : decode cX8_passes 41 = .ok (.iload 5, 2) := by decide +kernel
theorem dX8_passes_43 : decode cX8_passes 43 = .ok (.invokevirtual 121, 3) := by decide +kernel
theorem dX8_passes_46 : decode cX8_passes 46 = .ok (.istore 6, 2) := by decide +kernel
theorem dX8_passes_48 : decode cX8_passes 48 = .ok (.iload 6, 2) := by decide +kernel
theorem dX8_passes_50 : decode cX8_passes 50 = .ok (.iconst (-1), 1) := by decide +kernel
theorem dX8_passes_51 : decode cX8_passes 51 = .ok (.if_icmp .eq 19, 3) := by decide +kernel
theorem dX8_passes_54 : decode cX8_passes 54 = .ok (.aload_n 0, 1) := by decide +kernel
theorem dX8_passes_55 : decode cX8_passes 55 = .ok (.aload_n 1, 1) := by decide +kernel
theorem dX8_passes_56 : decode cX8_passes 56 = .ok (.aload_n 2, 1) := by decide +kernel
theorem dX8_passes_57 : decode cX8_passes 57 = .ok (.iload_n 3, 1) := by decide +kernel
theorem dX8_passes_58 : decode cX8_passes 58 = .ok (.iload 6, 2) := by decide +kernel
theorem dX8_passes_60 : decode cX8_passes 60 = .ok (.invokevirtual 118, 3) := by decide +kernel
theorem dX8_passes_63 : decode cX8_passes 63 = .ok (.ifCond .eq 7, 3) := by decide +kernel
theorem dX8_passes_66 : decode cX8_passes 66 = .ok (.iconst 1, 1) := by decide +kernel
theorem dX8_passes_67 : decode cX8_passes 67 = .ok (.goto 4, 3) := by decide +kernel
theorem dX8_passes_70 : decode cX8_passes 70 = .ok (.iconst 0, 1) := by decide +kernel
theorem dX8_passes_71 : decode cX8_passes 71 = .ok (.ireturn, 1) := by decide +kernel
theorem dX8_passes_72 : decode cX8_passes 72 = .ok (.aload_n 1, 1) := by decide +kernel
theorem dX8_passes_73 : decode cX8_passes 73 = .ok (.iload 4, 2) := by decide +kernel
theorem dX8_passes_75 : decode cX8_passes 75 = .ok (.invokevirtual 104, 3) := by decide +kernel
theorem dX8_passes_78 : decode cX8_passes 78 = .ok (.istore 6, 2) := by decide +kernel
theorem dX8_passes_80 : decode cX8_passes 80 = .ok (.iload 6, 2) := by decide +kernel
theorem dX8_passes_82 : decode cX8_passes 82 = .ok (.aload_n 1, 1) := by decide +kernel
theorem dX8_passes_83 : decode cX8_passes 83 = .ok (.getfield 61, 3) := by decide +kernel
theorem dX8_passes_86 : decode cX8_passes 86 = .ok (.iload 4, 2) := by decide +kernel
theorem dX8_passes_88 : decode cX8_passes 88 = .ok (.iaload, 1) := by decide +kernel
theorem dX8_passes_89 : decode cX8_passes 89 = .ok (.if_icmp .ge 59, 3) := by decide +kernel
theorem dX8_passes_92 : decode cX8_passes 92 = .ok (.aload_n 1, 1) := by decide +kernel
theorem dX8_passes_93 : decode cX8_passes 93 = .ok (.getfield 70, 3) := by decide +kernel
theorem dX8_passes_96 : decode cX8_passes 96 = .ok (.iload 6, 2) := by decide +kernel
theorem dX8_passes_98 : decode cX8_passes 98 = .ok (.iaload, 1) := by decide +kernel
theorem dX8_passes_99 : decode cX8_passes 99 = .ok (.iconst 1, 1) := by decide +kernel
theorem dX8_passes_100 : decode cX8_passes 100 = .ok (.if_icmp .ne 29, 3) := by decide +kernel
theorem dX8_passes_103 : decode cX8_passes 103 = .ok (.aload_n 1, 1) := by decide +kernel
theorem dX8_passes_104 : decode cX8_passes 104 = .ok (.getfield 97, 3) := by decide +kernel
theorem dX8_passes_107 : decode cX8_passes 107 = .ok (.iload 6, 2) := by decide +kernel
theorem dX8_passes_109 : decode cX8_passes 109 = .ok (.iaload, 1) := by decide +kernel
theorem dX8_passes_110 : decode cX8_passes 110 = .ok (.iload 5, 2) := by decide +kernel
theorem dX8_passes_112 : decode cX8_passes 112 = .ok (.if_icmp .ne 17, 3) := by decide +kernel
theorem dX8_passes_115 : decode cX8_passes 115 = .ok (.aload_n 0, 1) := by decide +kernel
theorem dX8_passes_116 : decode cX8_passes 116 = .ok (.aload_n 1, 1) := by decide +kernel
theorem dX8_passes_117 : decode cX8_passes 117 = .ok (.aload_n 2, 1) := by decide +kernel
theorem dX8_passes_118 : decode cX8_passes 118 = .ok (.iload_n 3, 1) := by decide +kernel
theorem dX8_passes_119 : decode cX8_passes 119 = .ok (.iload 6, 2) := by decide +kernel
theorem dX8_passes_121 : decode cX8_passes 121 = .ok (.invokevirtual 118, 3) := by decide +kernel
theorem dX8_passes_124 : decode cX8_passes 124 = .ok (.ifCond .eq 5, 3) := by decide +kernel
theorem dX8_passes_127 : decode cX8_passes 127 = .ok (.iconst 1, 1) := by decide +kernel
theorem dX8_passes_128 : decode cX8_passes 128 = .ok (.ireturn, 1) := by decide +kernel
theorem dX8_passes_129 : decode cX8_passes 129 = .ok (.iload 6, 2) := by decide +kernel
theorem dX8_passes_131 : decode cX8_passes 131 = .ok (.iconst 1, 1) := by decide +kernel
theorem dX8_passes_132 : decode cX8_passes 132 = .ok (.iadd, 1) := by decide +kernel
theorem dX8_passes_133 : decode cX8_passes 133 = .ok (.aload_n 1, 1) := by decide +kernel
theorem dX8_passes_134 : decode cX8_passes 134 = .ok (.getfield 61, 3) := by decide +kernel
theorem dX8_passes_137 : decode cX8_passes 137 = .ok (.iload 6, 2) := by decide +kernel
theorem dX8_passes_139 : decode cX8_passes 139 = .ok (.iaload, 1) := by decide +kernel
theorem dX8_passes_140 : decode cX8_passes 140 = .ok (.invokestatic 64, 3) := by decide +kernel
theorem dX8_passes_143 : decode cX8_passes 143 = .ok (.istore 6, 2) := by decide +kernel
theorem dX8_passes_145 : decode cX8_passes 145 = .ok (.goto (-65), 3) := by decide +kernel
theorem dX8_passes_148 : decode cX8_passes 148 = .ok (.iconst 0, 1) := by decide +kernel
theorem dX8_passes_149 : decode cX8_passes 149 = .ok (.ireturn, 1) := by decide +kernel
theorem v_X8_passes_0 {cs : Cs} {Q : Option AV → Mm → Prop} {MI ML : Nat → Nat → Int} {b d e nw th : Nat} {l3 l4 : Int} (hbd : b = 38 ∨ b = 81)
    (h : (0 ≤ l3 ∧ l3 < 48) ∧ (((MI 19 l3.toNat) = 2 → wp cs mX8_isQuoted KD (rI (GR d e nw th 1) fun x24 m24 n24 => (x24 = 0 ∨ x24 = 1) ∧ Q (some (vI x24)) (m24, n24, (GR d e nw th 1))) 0 (padL [vR 23, vR b, vR 14, vI l3, vI l4] 6) [] (KD, MI, ML, (GR d e nw th 1))) ∧ ((MI 19 l3.toNat) ≠ 2 → (((MI 19 l3.toNat) = 3 → wp cs mX3_attributeOf KD (rI (GR d e nw th 1) fun x43 m43 n43 => ((x43 = (-1) → Q (some (vI 0)) (m43, n43, (GR d e nw th 1))) ∧ (x43 ≠ (-1) → wp cs mX8_isQuoted KD (rI (GR d e nw th 1) fun x60 m60 n60 => ((x60 = 0 → Q (some (vI 0)) (m60, n60, (GR d e nw th 1))) ∧ (x60 ≠ 0 → Q (some (vI 1)) (m60, n60, (GR d e nw th 1))))) 0 (padL [vR 23, vR b, vR 14, vI l3, vI x43] 6) [] (KD, m43, n43, (GR d e nw th 1))))) 0 (padL [vR b, vI l4, vI (MI 20 l3.toNat)] 4) [] (KD, MI, ML, (GR d e nw th 1))) ∧ ((MI 19 l3.toNat) ≠ 3 → wp cs mX3_firstIn KD (rI (GR d e nw th 1) fun x75 m75 n75 => wp cs mX8_passes KD Q 80 [some (vR 23), some (vR b), some (vR 14), some (vI l3), some (vI l4), some (vI (MI 20 l3.toNat)), some (vI x75)] [] (KD, m75, n75, (GR d e nw th 1))) 0 (padL [vR b, vI l4] 2) [] (KD, MI, ML, (GR d e nw th 1))))))) :
    wp cs mX8_passes KD Q 0 (padL [vR 23, vR b, vR 14, vI l3, vI l4] 7) [] (KD, MI, ML, (GR d e nw th 1)) := by
  refine wp_L (L' := [some (vR 23), some (vR b), some (vR 14), some (vI l3), some (vI l4), none, none]) rfl ?_
  refine wp_aload_n dX8_passes_0 rfl rfl (by first | exact Or.inl (by decide) | exact Or.inl (by omega) | exact Or.inr (by decide) | exact Or.inr (by omega)) ?_
  refine wp_getR dX8_passes_1 fX8_111 rfl (by decide) ?_
  refine wp_topR (x' := 20) rfl ?_
  refine wp_iload_n dX8_passes_4 rfl rfl ?_
  have c0 := h.1
  replace h := h.2
  refine wp_iald dX8_passes_5 rfl (by decide) c0 ?_
  refine wp_istore dX8_passes_6 (by decide) (wp_L (L' := [some (vR 23), some (vR b), some (vR 14), some (vI l3), some (vI l4), some (vI (MI 20 l3.toNat)), none]) rfl ?_)
  refine wp_aload_n dX8_passes_8 rfl rfl (by first | exact Or.inl (by decide) | exact Or.inl (by omega) | exact Or.inr (by decide) | exact Or.inr (by omega)) ?_
  refine wp_getR dX8_passes_9 fX8_108 rfl (by decide) ?_
  refine wp_topR (x' := 19) rfl ?_
  refine wp_pc (pc' := 12) rfl ?_
  refine wp_iload_n dX8_passes_12 rfl rfl ?_
  refine wp_iald dX8_passes_13 rfl (by decide) c0 ?_
  refine wp_iconst dX8_passes_14 (by decide) ?_
  refine wp_icmp_ne (tgt := 28) dX8_passes_15 (by decide) (fun h15 => ?_) (fun h15 => ?_)
  · replace h := h.2 h15
    refine wp_aload_n dX8_passes_28 rfl rfl (by first | exact Or.inl (by decide) | exact Or.inl (by omega) | exact Or.inr (by decide) | exact Or.inr (by omega)) ?_
    refine wp_getR dX8_passes_29 fX8_108 rfl (by decide) ?_
    refine wp_topR (x' := 19) rfl ?_
    refine wp_iload_n dX8_passes_32 rfl rfl ?_
    refine wp_iald dX8_passes_33 rfl (by decide) c0 ?_
    refine wp_iconst dX8_passes_34 (by decide) ?_
    refine wp_icmp_ne (tgt := 72) dX8_passes_35 (by decide) (fun h35 => ?_) (fun h35 => ?_)
    · replace h := h.2 h35
      refine wp_aload_n dX8_passes_72 rfl rfl (by first | exact Or.inl (by decide) | exact Or.inl (by omega) | exact Or.inr (by decide) | exact Or.inr (by omega)) ?_
      refine wp_iload dX8_passes_73 rfl ?_
      refine wp_cVq (n := 1) (mt' := mX3_firstIn) (as := [vI l4]) (rest := []) _ dX8_passes_75 lX8_104 kX3_firstIn vX3_firstIn (by decide) (by decide +kernel) rfl (Nat.le_of_ble_eq_true rfl) (by omega) (show KD[b]? = some (7, 19) from kdb_0 hbd) rfl rfl (Nat.le_of_ble_eq_true rfl) (fun hM hS => h) (fun r M' hq hM => ?_)
      obtain ⟨x75, m75, n75, rfl, rfl, h⟩ := rI_out hq
      refine wp_istore dX8_passes_78 (by decide) (wp_L (L' := [some (vR 23), some (vR b), some (vR 14), some (vI l3), some (vI l4), some (vI (MI 20 l3.toNat)), some (vI x75)]) rfl ?_)
      exact h
    · replace h := h.1 h35
      refine wp_aload_n dX8_passes_38 rfl rfl (by first | exact Or.inl (by decide) | exact Or.inl (by omega) | exact Or.inr (by decide) | exact Or.inr (by omega)) ?_
      refine wp_iload dX8_passes_39 rfl ?_
      refine wp_iload dX8_passes_41 rfl ?_
      refine wp_cVq (n := 2) (mt' := mX3_attributeOf) (as := [vI l4, vI (MI 20 l3.toNat)]) (rest := []) _ dX8_passes_43 lX8_121 kX3_attributeOf vX3_attributeOf (by decide) (by decide +kernel) rfl (Nat.le_of_ble_eq_true rfl) (by omega) (show KD[b]? = some (7, 19) from kdb_0 hbd) rfl rfl (Nat.le_of_ble_eq_true rfl) (fun hM hS => h) (fun r M' hq hM => ?_)
      obtain ⟨x43, m43, n43, rfl, rfl, h⟩ := rI_out hq
      refine wp_istore dX8_passes_46 (by decide) (wp_L (L' := [some (vR 23), some (vR b), some (vR 14), some (vI l3), some (vI l4), some (vI (MI 20 l3.toNat)), some (vI x43)]) rfl ?_)
      refine wp_iload dX8_passes_48 rfl ?_
      refine wp_iconst dX8_passes_50 (by decide) ?_
      refine wp_icmp_eq (tgt := 70) dX8_passes_51 (by decide) (fun h51 => ?_) (fun h51 => ?_)
      · replace h := h.1 h51
        refine wp_iconst dX8_passes_70 (by decide) ?_
        exact wp_zret dX8_passes_71 rfl (by decide) (fun _ => h)
      · replace h := h.2 h51
        refine wp_aload_n dX8_passes_54 rfl rfl (by first | exact Or.inl (by decide) | exact Or.inl (by omega) | exact Or.inr (by decide) | exact Or.inr (by omega)) ?_
        refine wp_aload_n dX8_passes_55 rfl rfl (by first | exact Or.inl (by decide) | exact Or.inl (by omega) | exact Or.inr (by decide) | exact Or.inr (by omega)) ?_
        refine wp_aload_n dX8_passes_56 rfl rfl (by first | exact Or.inl (by decide) | exact Or.inl (by omega) | exact Or.inr (by decide) | exact Or.inr (by omega)) ?_
        refine wp_iload_n dX8_passes_57 rfl rfl ?_
        refine wp_iload dX8_passes_58 rfl ?_
        refine wp_cVq (n := 4) (mt' := mX8_isQuoted) (as := [vR b, vR 14, vI l3, vI x43]) (rest := []) _ dX8_passes_60 lX8_118 kX8_isQuoted vX8_isQuoted (by decide) (by decide +kernel) rfl (Nat.le_of_ble_eq_true rfl) (by decide) rfl rfl rfl (Nat.le_of_ble_eq_true rfl) (fun hM hS => h) (fun r M' hq hM => ?_)
        obtain ⟨x60, m60, n60, rfl, rfl, h⟩ := rI_out hq
        refine wp_if_eq (tgt := 70) dX8_passes_63 (by decide) (fun h63 => ?_) (fun h63 => ?_)
        · replace h := h.1 h63
          refine wp_iconst dX8_passes_70 (by decide) ?_
          exact wp_zret dX8_passes_71 rfl (by decide) (fun _ => h)
        · replace h := h.2 h63
          refine wp_iconst dX8_passes_66 (by decide) ?_
          refine wp_goto (tgt := 71) dX8_passes_67 (by decide) ?_
          exact wp_zret dX8_passes_71 rfl (by decide) (fun _ => h)
  · replace h := h.1 h15
    refine wp_aload_n dX8_passes_18 rfl rfl (by first | exact Or.inl (by decide) | exact Or.inl (by omega) | exact Or.inr (by decide) | exact Or.inr (by omega)) ?_
    refine wp_aload_n dX8_passes_19 rfl rfl (by first | exact Or.inl (by decide) | exact Or.inl (by omega) | exact Or.inr (by decide) | exact Or.inr (by omega)) ?_
    refine wp_aload_n dX8_passes_20 rfl rfl (by first | exact Or.inl (by decide) | exact Or.inl (by omega) | exact Or.inr (by decide) | exact Or.inr (by omega)) ?_
    refine wp_iload_n dX8_passes_21 rfl rfl ?_
    refine wp_iload dX8_passes_22 rfl ?_
    refine wp_cVq (n := 4) (mt' := mX8_isQuoted) (as := [vR b, vR 14, vI l3, vI l4]) (rest := []) _ dX8_passes_24 lX8_118 kX8_isQuoted vX8_isQuoted (by decide) (by decide +kernel) rfl (Nat.le_of_ble_eq_true rfl) (by decide) rfl rfl rfl (Nat.le_of_ble_eq_true rfl) (fun hM hS => h) (fun r M' hq hM => ?_)
    obtain ⟨x24, m24, n24, rfl, rfl, h⟩ := rI_out hq
    exact wp_zret dX8_passes_27 rfl h.1 (fun _ => h.2)
theorem v_X8_passes_80 {cs : Cs} {Q : Option AV → Mm → Prop} {MI ML : Nat → Nat → Int} {b d e nw th : Nat} {l3 l4 l5 l6 : Int} (hbd : b = 38 ∨ b = 81)
    (h : (0 ≤ l4 ∧ l4 < 600) ∧ ((l6 < (MI (b + 38) l4.toNat) → (0 ≤ l6 ∧ l6 < 600) ∧ (((MI (b + 32) l6.toNat) = 1 → (((MI (b + 34) l6.toNat) = l5 → wp cs mX8_isQuoted KD (rI (GR d e nw th 1) fun x121 m121 n121 => ((x121 = 0 → (-2147483648 ≤ l6 + 1 ∧ l6 + 1 < 2147483648) ∧ wp cs mX8_passes KD Q 80 [some (vR 23), some (vR b), some (vR 14), some (vI l3), some (vI l4), some (vI l5), some (vI (if (l6 + 1) < (m121 (b + 38) l6.toNat) then (m121 (b + 38) l6.toNat) else (l6 + 1)))] [] (KD, m121, n121, (GR d e nw th 1))) ∧ (x121 ≠ 0 → Q (some (vI 1)) (m121, n121, (GR d e nw th 1))))) 0 (padL [vR 23, vR b, vR 14, vI l3, vI l6] 6) [] (KD, MI, ML, (GR d e nw th 1))) ∧ ((MI (b + 34) l6.toNat) ≠ l5 → (-2147483648 ≤ l6 + 1 ∧ l6 + 1 < 2147483648) ∧ wp cs mX8_passes KD Q 80 [some (vR 23), some (vR b), some (vR 14), some (vI l3), some (vI l4), some (vI l5), some (vI (if (l6 + 1) < (MI (b + 38) l6.toNat) then (MI (b + 38) l6.toNat) else (l6 + 1)))] [] (KD, MI, ML, (GR d e nw th 1))))) ∧ ((MI (b + 32) l6.toNat) ≠ 1 → (-2147483648 ≤ l6 + 1 ∧ l6 + 1 < 2147483648) ∧ wp cs mX8_passes KD Q 80 [some (vR 23), some (vR b), some (vR 14), some (vI l3), some (vI l4), some (vI l5), some (vI (if (l6 + 1) < (MI (b + 38) l6.toNat) then (MI (b + 38) l6.toNat) else (l6 + 1)))] [] (KD, MI, ML, (GR d e nw th 1))))) ∧ ((MI (b + 38) l4.toNat) ≤ l6 → Q (some (vI 0)) (MI, ML, (GR d e nw th 1))))) :
    wp cs mX8_passes KD Q 80 [some (vR 23), some (vR b), some (vR 14), some (vI l3), some (vI l4), some (vI l5), some (vI l6)] [] (KD, MI, ML, (GR d e nw th 1)) := by
  refine wp_iload dX8_passes_80 rfl ?_
  refine wp_aload_n dX8_passes_82 rfl rfl (by first | exact Or.inl (by decide) | exact Or.inl (by omega) | exact Or.inr (by decide) | exact Or.inr (by omega)) ?_
  refine wp_getR dX8_passes_83 fX8_61 (show KD[b]? = some (7, 19) from kdb_0 hbd) (by omega) ?_
  refine wp_topR (x' := (b + 38)) (grb_0_9 hbd) ?_
  refine wp_iload dX8_passes_86 rfl ?_
  have c0 := h.1
  replace h := h.2
  refine wp_iald dX8_passes_88 (kdb_38 hbd) (by omega) c0 ?_
  refine wp_icmp_ge (tgt := 148) dX8_passes_89 (by decide) (fun h89 => ?_) (fun h89 => ?_)
  · replace h := h.2 h89
    refine wp_iconst dX8_passes_148 (by decide) ?_
    exact wp_zret dX8_passes_149 rfl (by decide) (fun _ => h)
  · replace h := h.1 h89
    refine wp_aload_n dX8_passes_92 rfl rfl (by first | exact Or.inl (by decide) | exact Or.inl (by omega) | exact Or.inr (by decide) | exact Or.inr (by omega)) ?_
    refine wp_getR dX8_passes_93 fX8_70 (show KD[b]? = some (7, 19) from kdb_0 hbd) (by omega) ?_
    refine wp_topR (x' := (b + 32)) (grb_0_3 hbd) ?_
    refine wp_iload dX8_passes_96 rfl ?_
    have c1 := h.1
    replace h := h.2
    refine wp_iald dX8_passes_98 (kdb_32 hbd) (by omega) c1 ?_
    refine wp_iconst dX8_passes_99 (by decide) ?_
    refine wp_icmp_ne (tgt := 129) dX8_passes_100 (by decide) (fun h100 => ?_) (fun h100 => ?_)
    · replace h := h.2 h100
      refine wp_iload dX8_passes_129 rfl ?_
      refine wp_iconst dX8_passes_131 (by decide) ?_
      have c2 := h.1
      replace h := h.2
      refine wp_iaddr dX8_passes_132 c2 ?_
      refine wp_aload_n dX8_passes_133 rfl rfl (by first | exact Or.inl (by decide) | exact Or.inl (by omega) | exact Or.inr (by decide) | exact Or.inr (by omega)) ?_
      refine wp_getR dX8_passes_134 fX8_61 (show KD[b]? = some (7, 19) from kdb_0 hbd) (by omega) ?_
      refine wp_topR (x' := (b + 38)) (grb_0_9 hbd) ?_
      refine wp_iload dX8_passes_137 rfl ?_
      refine wp_iald dX8_passes_139 (kdb_38 hbd) (by omega) c1 ?_
      refine wp_pc (pc' := 140) rfl ?_
      refine wp_mmax dX8_passes_140 lX8_64 (Nat.le_of_ble_eq_true rfl) (by decide) (by decide) ⟨Nat.le_refl _, Nat.le_refl _⟩ ?_
      refine wp_istore dX8_passes_143 (by decide) (wp_L (L' := [some (vR 23), some (vR b), some (vR 14), some (vI l3), some (vI l4), some (vI l5), some (vI (if (l6 + 1) < (MI (b + 38) l6.toNat) then (MI (b + 38) l6.toNat) else (l6 + 1)))]) rfl ?_)
      refine wp_goto (tgt := 80) dX8_passes_145 (by decide) ?_
      exact h
    · replace h := h.1 h100
      refine wp_aload_n dX8_passes_103 rfl rfl (by first | exact Or.inl (by decide) | exact Or.inl (by omega) | exact Or.inr (by decide) | exact Or.inr (by omega)) ?_
      refine wp_getR dX8_passes_104 fX8_97 (show KD[b]? = some (7, 19) from kdb_0 hbd) (by omega) ?_
      refine wp_topR (x' := (b + 34)) (grb_0_5 hbd) ?_
      refine wp_iload dX8_passes_107 rfl ?_
      refine wp_iald dX8_passes_109 (kdb_34 hbd) (by omega) c1 ?_
      refine wp_iload dX8_passes_110 rfl ?_
      refine wp_icmp_ne (tgt := 129) dX8_passes_112 (by decide) (fun h112 => ?_) (fun h112 => ?_)
      · replace h := h.2 h112
        refine wp_iload dX8_passes_129 rfl ?_
        refine wp_iconst dX8_passes_131 (by decide) ?_
        have c2 := h.1
        replace h := h.2
        refine wp_iaddr dX8_passes_132 c2 ?_
        refine wp_aload_n dX8_passes_133 rfl rfl (by first | exact Or.inl (by decide) | exact Or.inl (by omega) | exact Or.inr (by decide) | exact Or.inr (by omega)) ?_
        refine wp_getR dX8_passes_134 fX8_61 (show KD[b]? = some (7, 19) from kdb_0 hbd) (by omega) ?_
        refine wp_topR (x' := (b + 38)) (grb_0_9 hbd) ?_
        refine wp_iload dX8_passes_137 rfl ?_
        refine wp_iald dX8_passes_139 (kdb_38 hbd) (by omega) c1 ?_
        refine wp_pc (pc' := 140) rfl ?_
        refine wp_mmax dX8_passes_140 lX8_64 (Nat.le_of_ble_eq_true rfl) (by decide) (by decide) ⟨Nat.le_refl _, Nat.le_refl _⟩ ?_
        refine wp_istore dX8_passes_143 (by decide) (wp_L (L' := [some (vR 23), some (vR b), some (vR 14), some (vI l3), some (vI l4), some (vI l5), some (vI (if (l6 + 1) < (MI (b + 38) l6.toNat) then (MI (b + 38) l6.toNat) else (l6 + 1)))]) rfl ?_)
        refine wp_goto (tgt := 80) dX8_passes_145 (by decide) ?_
        exact h
      · replace h := h.1 h112
        refine wp_aload_n dX8_passes_115 rfl rfl (by first | exact Or.inl (by decide) | exact Or.inl (by omega) | exact Or.inr (by decide) | exact Or.inr (by omega)) ?_
        refine wp_aload_n dX8_passes_116 rfl rfl (by first | exact Or.inl (by decide) | exact Or.inl (by omega) | exact Or.inr (by decide) | exact Or.inr (by omega)) ?_
        refine wp_aload_n dX8_passes_117 rfl rfl (by first | exact Or.inl (by decide) | exact Or.inl (by omega) | exact Or.inr (by decide) | exact Or.inr (by omega)) ?_
        refine wp_iload_n dX8_passes_118 rfl rfl ?_
        refine wp_iload dX8_passes_119 rfl ?_
        refine wp_cVq (n := 4) (mt' := mX8_isQuoted) (as := [vR b, vR 14, vI l3, vI l6]) (rest := []) _ dX8_passes_121 lX8_118 kX8_isQuoted vX8_isQuoted (by decide) (by decide +kernel) rfl (Nat.le_of_ble_eq_true rfl) (by decide) rfl rfl rfl (Nat.le_of_ble_eq_true rfl) (fun hM hS => h) (fun r M' hq hM => ?_)
        obtain ⟨x121, m121, n121, rfl, rfl, h⟩ := rI_out hq
        refine wp_if_eq (tgt := 129) dX8_passes_124 (by decide) (fun h124 => ?_) (fun h124 => ?_)
        · replace h := h.1 h124
          refine wp_iload dX8_passes_129 rfl ?_
          refine wp_iconst dX8_passes_131 (by decide) ?_
          have c2 := h.1
          replace h := h.2
          refine wp_iaddr dX8_passes_132 c2 ?_
          refine wp_aload_n dX8_passes_133 rfl rfl (by first | exact Or.inl (by decide) | exact Or.inl (by omega) | exact Or.inr (by decide) | exact Or.inr (by omega)) ?_
          refine wp_getR dX8_passes_134 fX8_61 (show KD[b]? = some (7, 19) from kdb_0 hbd) (by omega) ?_
          refine wp_topR (x' := (b + 38)) (grb_0_9 hbd) ?_
          refine wp_iload dX8_passes_137 rfl ?_
          refine wp_iald dX8_passes_139 (kdb_38 hbd) (by omega) c1 ?_
          refine wp_pc (pc' := 140) rfl ?_
          refine wp_mmax dX8_passes_140 lX8_64 (Nat.le_of_ble_eq_true rfl) (by decide) (by decide) ⟨Nat.le_refl _, Nat.le_refl _⟩ ?_
          refine wp_istore dX8_passes_143 (by decide) (wp_L (L' := [some (vR 23), some (vR b), some (vR 14), some (vI l3), some (vI l4), some (vI l5), some (vI (if (l6 + 1) < (m121 (b + 38) l6.toNat) then (m121 (b + 38) l6.toNat) else (l6 + 1)))]) rfl ?_)
          refine wp_goto (tgt := 80) dX8_passes_145 (by decide) ?_
          exact h
        · replace h := h.2 h124
          refine wp_iconst dX8_passes_127 (by decide) ?_
          exact wp_zret dX8_passes_128 rfl (by decide) (fun _ => h)
theorem dX8_sift_0 : decode cX8_sift 0 = .ok (.aload_n 0, 1) := by decide +kernel
theorem dX8_sift_1 : decode cX8_sift 1 = .ok (.getfield 29, 3) := by decide +kernel
theorem dX8_sift_4 : decode cX8_sift 4 = .ok (.istore 4, 2) := by decide +kernel
theorem dX8_sift_6 : decode cX8_sift 6 = .ok (.aload_n 2, 1) := by decide +kernel
theorem dX8_sift_7 : decode cX8_sift 7 = .ok (.getfield 108, 3) := by decide +kernel
theorem dX8_sift_10 : decode cX8_sift 10 = .ok (.iload_n 3, 1) := by decide +kernel
theorem dX8_sift_11 : decode cX8_sift 11 = .ok (.iaload, 1) := by decide +kernel
theorem dX8_sift_12 : decode cX8_sift 12 = .ok (.iconst 1, 1) := by decide +kernel
theorem dX8_sift_13 : decode cX8_sift 13 = .ok (.if_icmp .ne 8, 3) := by decide +kernel
theorem dX8_sift_16 : decode cX8_sift 16 = .ok (.iload 4, 2) := by decide +kernel
theorem dX8_sift_18 : decode cX8_sift 18 = .ok (.goto 9, 3) := by decide +kernel
theorem dX8_sift_21 : decode cX8_sift 21 = .ok (.aload_n 2, 1) := by decide +kernel
theorem dX8_sift_22 : decode cX8_sift 22 = .ok (.getfield 111, 3) := by decide +kernel
theorem dX8_sift_25 : decode cX8_sift 25 = .ok (.iload_n 3, 1) := by decide +kernel
theorem dX8_sift_26 : decode cX8_sift 26 = .ok (.iaload, 1) := by decide +kernel
theorem dX8_sift_27 : decode cX8_sift 27 = .ok (.istore 5, 2) := by decide +kernel
theorem dX8_sift_29 : decode cX8_sift 29 = .ok (.aload_n 2, 1) := by decide +kernel
theorem dX8_sift_30 : decode cX8_sift 30 = .ok (.getfield 108, 3) := by decide +kernel
theorem dX8_sift_33 : decode cX8_sift 33 = .ok (.iload_n 3, 1) := by decide +kernel
theorem dX8_sift_34 : decode cX8_sift 34 = .ok (.iaload, 1) := by decide +kernel
theorem dX8_sift_35 : decode cX8_sift 35 = .ok (.iconst 1, 1) := by decide +kernel
theorem dX8_sift_36 : decode cX8_sift 36 = .ok (.if_icmp .eq 12, 3) := by decide +kernel
theorem dX8_sift_39 : decode cX8_sift 39 = .ok (.aload_n 2, 1) := by decide +kernel
theorem dX8_sift_40 : decode cX8_sift 40 = .ok (.getfield 108, 3) := by decide +kernel
theorem dX8_sift_43 : decode cX8_sift 43 = .ok (.iload_n 3, 1) := by decide +kernel
theorem dX8_sift_44 : decode cX8_sift 44 = .ok (.iaload, 1) := by decide +kernel
theorem dX8_sift_45 : decode cX8_sift 45 = .ok (.ifCond .ne 7, 3) := by decide +kernel
theorem dX8_sift_48 : decode cX8_sift 48 = .ok (.iconst 1, 1) := by decide +kernel
theorem dX8_sift_49 : decode cX8_sift 49 = .ok (.goto 4, 3) := by decide +kernel
theorem dX8_sift_52 : decode cX8_sift 52 = .ok (.iconst 0, 1) := by decide +kernel
theorem dX8_sift_53 : decode cX8_sift 53 = .ok (.istore 6, 2) := by decide +kernel
theorem dX8_sift_55 : decode cX8_sift 55 = .ok (.aload_n 0, 1) := by decide +kernel
theorem dX8_sift_56 : decode cX8_sift 56 = .ok (.iconst 0, 1) := by decide +kernel
theorem dX8_sift_57 : decode cX8_sift 57 = .ok (.putfield 29, 3) := by decide +kernel
theorem dX8_sift_60 : decode cX8_sift 60 = .ok (.iconst 0, 1) := by decide +kernel
theorem dX8_sift_61 : decode cX8_sift 61 = .ok (.istore 7, 2) := by decide +kernel
theorem dX8_sift_63 : decode cX8_sift 63 = .ok (.iload 7, 2) := by decide +kernel
theorem dX8_sift_65 : decode cX8_sift 65 = .ok (.iload 4, 2) := by decide +kernel
theorem dX8_sift_67 : decode cX8_sift 67 = .ok (.if_icmp .ge 54, 3) := by decide +kernel
theorem dX8_sift_70 : decode cX8_sift 70 = .ok (.iload 6, 2) := by decide +kernel
theorem dX8_sift_72 : decode cX8_sift 72 = .ok (.ifCond .eq 15, 3) := by decide +kernel
theorem dX8_sift_75 : decode cX8_sift 75 = .ok (.iload 7, 2) := by decide +kernel
theorem dX8_sift_77 : decode cX8_sift 77 = .ok (.iconst 1, 1) := by decide +kernel
theorem dX8_sift_78 : decode cX8_sift 78 = .ok (.iadd, 1) := by decide +kernel
theorem dX8_sift_79 : decode cX8_sift 79 = .ok (.iload 5, 2) := by decide +kernel
theorem dX8_sift_81 : decode cX8_sift 81 = .ok (.if_icmp .ne 34, 3) := by decide +kernel
theorem dX8_sift_84 : decode cX8_sift 84 = .ok (.goto 20, 3) := by decide +kernel
theorem dX8_sift_87 : decode cX8_sift 87 = .ok (.aload_n 0, 1) := by decide +kernel
theorem dX8_sift_88 : decode cX8_sift 88 = .ok (.aload_n 1, 1) := by decide +kernel
theorem dX8_sift_89 : decode cX8_sift 89 = .ok (.aload_n 2, 1) := by decide +kernel
theorem dX8_sift_90 : decode cX8_sift 90 = .ok (.iload_n 3, 1) := by decide +kernel
theorem dX8_sift_91 : decode cX8_sift 91 = .ok (.aload_n 0, 1) := by decide +kernel
theorem dX8_sift_92 : decode cX8_sift 92 = .ok (.getfield 26, 3) := by decide +kernel
theorem dX8_sift_95 : decode cX8_sift 95 = .ok (.iload 7, 2) := by decide +kernel
theorem dX8_sift_97 : decode cX8_sift 97 = .ok (.iaload, 1) := by decide +kernel
theorem dX8_sift_98 : decode cX8_sift 98 = .ok (.invokevirtual 114, 3) := by decide +kernel
theorem dX8_sift_101 : decode cX8_sift 101 = .ok (.ifCond .eq 14, 3) := by decide +kernel
theorem dX8_sift_104 : decode cX8_sift 104 = .ok (.aload_n 0, 1) := by decide +kernel
theorem dX8_sift_105 : decode cX8_sift 105 = .ok (.aload_n 0, 1) := by decide +kernel
theorem dX8_sift_106 : decode cX8_sift 106 = .ok (.getfield 26, 3) := by decide +kernel
theorem dX8_sift_109 : decode cX8_sift 109 = .ok (.iload 7, 2) := by decide +kernel
theorem dX8_sift_111 : decode cX8_sift 111 = .ok (.iaload, 1) := by decide +kernel
theorem dX8_sift_112 : decode cX8_sift 112 = .ok (.invokevirtual 87, 3) := by decide +kernel
theorem dX8_sift_115 : decode cX8_sift 115 = .ok (.iinc 7 1, 3) := by decide +kernel
theorem dX8_sift_118 : decode cX8_sift 118 = .ok (.goto (-55), 3) := by decide +kernel
theorem dX8_sift_121 : decode cX8_sift 121 = .ok (.return_, 1) := by decide +kernel
theorem v_X8_sift_0 {cs : Cs} {Q : Option AV → Mm → Prop} {MI ML : Nat → Nat → Int} {b d e nw th : Nat} {l3 : Int} (hbd : b = 38 ∨ b = 81)
    (h : (0 ≤ l3 ∧ l3 < 48) ∧ (((MI 19 l3.toNat) = 1 → wp cs mX8_sift KD Q 27 [some (vR 23), some (vR b), some (vR 14), some (vI l3), some (vI (MI 23 5)), none, none, none] [vI (MI 23 5)] (KD, MI, ML, (GR d e nw th 1))) ∧ ((MI 19 l3.toNat) ≠ 1 → wp cs mX8_sift KD Q 27 [some (vR 23), some (vR b), some (vR 14), some (vI l3), some (vI (MI 23 5)), none, none, none] [vI (MI 20 l3.toNat)] (KD, MI, ML, (GR d e nw th 1))))) :
    wp cs mX8_sift KD Q 0 (padL [vR 23, vR b, vR 14, vI l3] 8) [] (KD, MI, ML, (GR d e nw th 1)) := by
  refine wp_L (L' := [some (vR 23), some (vR b), some (vR 14), some (vI l3), none, none, none, none]) rfl ?_
  refine wp_aload_n dX8_sift_0 rfl rfl (by first | exact Or.inl (by decide) | exact Or.inl (by omega) | exact Or.inr (by decide) | exact Or.inr (by omega)) ?_
  refine wp_getI dX8_sift_1 fX8_29 rfl (by decide) ?_
  refine wp_istore dX8_sift_4 (by decide) (wp_L (L' := [some (vR 23), some (vR b), some (vR 14), some (vI l3), some (vI (MI 23 5)), none, none, none]) rfl ?_)
  refine wp_aload_n dX8_sift_6 rfl rfl (by first | exact Or.inl (by decide) | exact Or.inl (by omega) | exact Or.inr (by decide) | exact Or.inr (by omega)) ?_
  refine wp_getR dX8_sift_7 fX8_108 rfl (by decide) ?_
  refine wp_topR (x' := 19) rfl ?_
  refine wp_iload_n dX8_sift_10 rfl rfl ?_
  have c0 := h.1
  replace h := h.2
  refine wp_iald dX8_sift_11 rfl (by decide) c0 ?_
  refine wp_pc (pc' := 12) rfl ?_
  refine wp_iconst dX8_sift_12 (by decide) ?_
  refine wp_icmp_ne (tgt := 21) dX8_sift_13 (by decide) (fun h13 => ?_) (fun h13 => ?_)
  · replace h := h.2 h13
    refine wp_aload_n dX8_sift_21 rfl rfl (by first | exact Or.inl (by decide) | exact Or.inl (by omega) | exact Or.inr (by decide) | exact Or.inr (by omega)) ?_
    refine wp_getR dX8_sift_22 fX8_111 rfl (by decide) ?_
    refine wp_topR (x' := 20) rfl ?_
    refine wp_iload_n dX8_sift_25 rfl rfl ?_
    refine wp_iald dX8_sift_26 rfl (by decide) c0 ?_
    exact h
  · replace h := h.1 h13
    refine wp_iload dX8_sift_16 rfl ?_
    refine wp_goto (tgt := 27) dX8_sift_18 (by decide) ?_
    exact h
theorem v_X8_sift_27 {cs : Cs} {Q : Option AV → Mm → Prop} {MI ML : Nat → Nat → Int} {b d e nw th : Nat} {l3 l4 s0 : Int} (hbd : b = 38 ∨ b = 81)
    (h : (0 ≤ l3 ∧ l3 < 48) ∧ (((MI 19 l3.toNat) = 1 → wp cs mX8_sift KD Q 53 [some (vR 23), some (vR b), some (vR 14), some (vI l3), some (vI l4), some (vI s0), none, none] [vI 1] (KD, MI, ML, (GR d e nw th 1))) ∧ ((MI 19 l3.toNat) ≠ 1 → (((MI 19 l3.toNat) = 0 → wp cs mX8_sift KD Q 53 [some (vR 23), some (vR b), some (vR 14), some (vI l3), some (vI l4), some (vI s0), none, none] [vI 1] (KD, MI, ML, (GR d e nw th 1))) ∧ ((MI 19 l3.toNat) ≠ 0 → wp cs mX8_sift KD Q 53 [some (vR 23), some (vR b), some (vR 14), some (vI l3), some (vI l4), some (vI s0), none, none] [vI 0] (KD, MI, ML, (GR d e nw th 1))))))) :
    wp cs mX8_sift KD Q 27 [some (vR 23), some (vR b), some (vR 14), some (vI l3), some (vI l4), none, none, none] [vI s0] (KD, MI, ML, (GR d e nw th 1)) := by
  refine wp_istore dX8_sift_27 (by decide) (wp_L (L' := [some (vR 23), some (vR b), some (vR 14), some (vI l3), some (vI l4), some (vI s0), none, none]) rfl ?_)
  refine wp_aload_n dX8_sift_29 rfl rfl (by first | exact Or.inl (by decide) | exact Or.inl (by omega) | exact Or.inr (by decide) | exact Or.inr (by omega)) ?_
  refine wp_getR dX8_sift_30 fX8_108 rfl (by decide) ?_
  refine wp_topR (x' := 19) rfl ?_
  refine wp_iload_n dX8_sift_33 rfl rfl ?_
  have c0 := h.1
  replace h := h.2
  refine wp_iald dX8_sift_34 rfl (by decide) c0 ?_
  refine wp_iconst dX8_sift_35 (by decide) ?_
  refine wp_icmp_eq (tgt := 48) dX8_sift_36 (by decide) (fun h36 => ?_) (fun h36 => ?_)
  · replace h := h.1 h36
    refine wp_iconst dX8_sift_48 (by decide) ?_
    refine wp_goto (tgt := 53) dX8_sift_49 (by decide) ?_
    exact h
  · replace h := h.2 h36
    refine wp_aload_n dX8_sift_39 rfl rfl (by first | exact Or.inl (by decide) | exact Or.inl (by omega) | exact Or.inr (by decide) | exact Or.inr (by omega)) ?_
    refine wp_getR dX8_sift_40 fX8_108 rfl (by decide) ?_
    refine wp_topR (x' := 19) rfl ?_
    refine wp_iload_n dX8_sift_43 rfl rfl ?_
    refine wp_iald dX8_sift_44 rfl (by decide) c0 ?_
    refine wp_if_ne (tgt := 52) dX8_sift_45 (by decide) (fun h45 => ?_) (fun h45 => ?_)
    · replace h := h.2 h45
      refine wp_iconst dX8_sift_52 (by decide) ?_
      exact h
    · replace h := h.1 h45
      refine wp_iconst dX8_sift_48 (by decide) ?_
      refine wp_goto (tgt := 53) dX8_sift_49 (by decide) ?_
      exact h
theorem v_X8_sift_53 {cs : Cs} {Q : Option AV → Mm → Prop} {MI ML : Nat → Nat → Int} {b d e nw th : Nat} {l3 l4 l5 s0 : Int} (hbd : b = 38 ∨ b = 81)
    (h : ∀ m57, m57 = up2 MI 23 5 0 → wp cs mX8_sift KD Q 63 [some (vR 23), some (vR b), some (vR 14), some (vI l3), some (vI l4), some (vI l5), some (vI s0), some (vI 0)] [] (KD, m57, ML, (GR d e nw th 1))) :
    wp cs mX8_sift KD Q 53 [some (vR 23), some (vR b), some (vR 14), some (vI l3), some (vI l4), some (vI l5), none, none] [vI s0] (KD, MI, ML, (GR d e nw th 1)) := by
  refine wp_istore dX8_sift_53 (by decide) (wp_L (L' := [some (vR 23), some (vR b), some (vR 14), some (vI l3), some (vI l4), some (vI l5), some (vI s0), none]) rfl ?_)
  refine wp_aload_n dX8_sift_55 rfl rfl (by first | exact Or.inl (by decide) | exact Or.inl (by omega) | exact Or.inr (by decide) | exact Or.inr (by omega)) ?_
  refine wp_iconst dX8_sift_56 (by decide) ?_
  refine wp_putI dX8_sift_57 pX8_29 rfl (by decide) ?_
  refine wp_gI (fun m57 e57 => ?_)
  replace h := h m57 e57
  refine wp_iconst dX8_sift_60 (by decide) ?_
  refine wp_istore dX8_sift_61 (by decide) (wp_L (L' := [some (vR 23), some (vR b), some (vR 14), some (vI l3), some (vI l4), some (vI l5), some (vI s0), some (vI 0)]) rfl ?_)
  exact h
theorem v_X8_sift_63 {cs : Cs} {Q : Option AV → Mm → Prop} {MI ML : Nat → Nat → Int} {b d e nw th : Nat} {l3 l4 l5 l6 l7 : Int} (hbd : b = 38 ∨ b = 81)
    (h : ((l7 < l4 → ((l6 = 0 → (0 ≤ l7 ∧ l7 < 600) ∧ wp cs mX8_passes KD (rI (GR d e nw th 1) fun x98 m98 n98 => ((x98 = 0 → (-2147483648 ≤ l7 + 1 ∧ l7 + 1 < 2147483648) ∧ wp cs mX8_sift KD Q 63 [some (vR 23), some (vR b), some (vR 14), some (vI l3), some (vI l4), some (vI l5), some (vI l6), some (vI (l7 + 1))] [] (KD, m98, n98, (GR d e nw th 1))) ∧ (x98 ≠ 0 → wp cs mX8_push KD (rV (GR d e nw th 1) fun m112 n112 => (-2147483648 ≤ l7 + 1 ∧ l7 + 1 < 2147483648) ∧ wp cs mX8_sift KD Q 63 [some (vR 23), some (vR b), some (vR 14), some (vI l3), some (vI l4), some (vI l5), some (vI l6), some (vI (l7 + 1))] [] (KD, m112, n112, (GR d e nw th 1))) 0 (padL [vR 23, vI (m98 27 l7.toNat)] 2) [] (KD, m98, n98, (GR d e nw th 1))))) 0 (padL [vR 23, vR b, vR 14, vI l3, vI (MI 27 l7.toNat)] 7) [] (KD, MI, ML, (GR d e nw th 1))) ∧ (l6 ≠ 0 → (-2147483648 ≤ l7 + 1 ∧ l7 + 1 < 2147483648) ∧ (((l7 + 1) = l5 → (0 ≤ l7 ∧ l7 < 600) ∧ wp cs mX8_push KD (rV (GR d e nw th 1) fun m112 n112 => wp cs mX8_sift KD Q 63 [some (vR 23), some (vR b), some (vR 14), some (vI l3), some (vI l4), some (vI l5), some (vI l6), some (vI (l7 + 1))] [] (KD, m112, n112, (GR d e nw th 1))) 0 (padL [vR 23, vI (MI 27 l7.toNat)] 2) [] (KD, MI, ML, (GR d e nw th 1))) ∧ ((l7 + 1) ≠ l5 → wp cs mX8_sift KD Q 63 [some (vR 23), some (vR b), some (vR 14), some (vI l3), some (vI l4), some (vI l5), some (vI l6), some (vI (l7 + 1))] [] (KD, MI, ML, (GR d e nw th 1))))))) ∧ (l4 ≤ l7 → Q none (MI, ML, (GR d e nw th 1))))) :
    wp cs mX8_sift KD Q 63 [some (vR 23), some (vR b), some (vR 14), some (vI l3), some (vI l4), some (vI l5), some (vI l6), some (vI l7)] [] (KD, MI, ML, (GR d e nw th 1)) := by
  refine wp_iload dX8_sift_63 rfl ?_
  refine wp_iload dX8_sift_65 rfl ?_
  refine wp_icmp_ge (tgt := 121) dX8_sift_67 (by decide) (fun h67 => ?_) (fun h67 => ?_)
  · replace h := h.2 h67
    exact wp_vret dX8_sift_121 rfl (fun _ => h)
  · replace h := h.1 h67
    refine wp_iload dX8_sift_70 rfl ?_
    refine wp_if_eq (tgt := 87) dX8_sift_72 (by decide) (fun h72 => ?_) (fun h72 => ?_)
    · replace h := h.1 h72
      refine wp_aload_n dX8_sift_87 rfl rfl (by first | exact Or.inl (by decide) | exact Or.inl (by omega) | exact Or.inr (by decide) | exact Or.inr (by omega)) ?_
      refine wp_aload_n dX8_sift_88 rfl rfl (by first | exact Or.inl (by decide) | exact Or.inl (by omega) | exact Or.inr (by decide) | exact Or.inr (by omega)) ?_
      refine wp_aload_n dX8_sift_89 rfl rfl (by first | exact Or.inl (by decide) | exact Or.inl (by omega) | exact Or.inr (by decide) | exact Or.inr (by omega)) ?_
      refine wp_iload_n dX8_sift_90 rfl rfl ?_
      refine wp_aload_n dX8_sift_91 rfl rfl (by first | exact Or.inl (by decide) | exact Or.inl (by omega) | exact Or.inr (by decide) | exact Or.inr (by omega)) ?_
      refine wp_getR dX8_sift_92 fX8_26 rfl (by decide) ?_
      refine wp_topR (x' := 27) rfl ?_
      refine wp_iload dX8_sift_95 rfl ?_
      refine wp_pc (pc' := 97) rfl ?_
      have c0 := h.1
      replace h := h.2
      refine wp_iald dX8_sift_97 rfl (by decide) c0 ?_
      refine wp_cVq (n := 4) (mt' := mX8_passes) (as := [vR b, vR 14, vI l3, vI (MI 27 l7.toNat)]) (rest := []) _ dX8_sift_98 lX8_114 kX8_passes vX8_passes (by decide) (by decide +kernel) rfl (Nat.le_of_ble_eq_true rfl) (by decide) rfl rfl rfl (Nat.le_of_ble_eq_true rfl) (fun hM hS => h) (fun r M' hq hM => ?_)
      obtain ⟨x98, m98, n98, rfl, rfl, h⟩ := rI_out hq
      refine wp_if_eq (tgt := 115) dX8_sift_101 (by decide) (fun h101 => ?_) (fun h101 => ?_)
      · replace h := h.1 h101
        have c1 := h.1
        replace h := h.2
        refine wp_iincr dX8_sift_115 rfl (by decide) c1 (wp_L (L' := [some (vR 23), some (vR b), some (vR 14), some (vI l3), some (vI l4), some (vI l5), some (vI l6), some (vI (l7 + 1))]) rfl ?_)
        refine wp_goto (tgt := 63) dX8_sift_118 (by decide) ?_
        exact h
      · replace h := h.2 h101
        refine wp_aload_n dX8_sift_104 rfl rfl (by first | exact Or.inl (by decide) | exact Or.inl (by omega) | exact Or.inr (by decide) | exact Or.inr (by omega)) ?_
        refine wp_aload_n dX8_sift_105 rfl rfl (by first | exact Or.inl (by decide) | exact Or.inl (by omega) | exact Or.inr (by decide) | exact Or.inr (by omega)) ?_
        refine wp_getR dX8_sift_106 fX8_26 rfl (by decide) ?_
        refine wp_topR (x' := 27) rfl ?_
        refine wp_iload dX8_sift_109 rfl ?_
        refine wp_iald dX8_sift_111 rfl (by decide) c0 ?_
        refine wp_cVq (n := 1) (mt' := mX8_push) (as := [vI (m98 27 l7.toNat)]) (rest := []) _ dX8_sift_112 lX8_87 kX8_push vX8_push (by decide) (by decide +kernel) rfl (Nat.le_of_ble_eq_true rfl) (by decide) rfl rfl rfl (Nat.le_of_ble_eq_true rfl) (fun hM hS => h) (fun r M' hq hM => ?_)
        obtain ⟨m112, n112, rfl, rfl, h⟩ := rV_out hq
        have c1 := h.1
        replace h := h.2
        refine wp_iincr dX8_sift_115 rfl (by decide) c1 (wp_L (L' := [some (vR 23), some (vR b), some (vR 14), some (vI l3), some (vI l4), some (vI l5), some (vI l6), some (vI (l7 + 1))]) rfl ?_)
        refine wp_goto (tgt := 63) dX8_sift_118 (by decide) ?_
        exact h
    · replace h := h.2 h72
      refine wp_iload dX8_sift_75 rfl ?_
      refine wp_iconst dX8_sift_77 (by decide) ?_
      have c0 := h.1
      replace h := h.2
      refine wp_iaddr dX8_sift_78 c0 ?_
      refine wp_iload dX8_sift_79 rfl ?_
      refine wp_icmp_ne (tgt := 115) dX8_sift_81 (by decide) (fun h81 => ?_) (fun h81 => ?_)
      · replace h := h.2 h81
        refine wp_iincr dX8_sift_115 rfl (by decide) c0 (wp_L (L' := [some (vR 23), some (vR b), some (vR 14), some (vI l3), some (vI l4), some (vI l5), some (vI l6), some (vI (l7 + 1))]) rfl ?_)
        refine wp_goto (tgt := 63) dX8_sift_118 (by decide) ?_
        exact h
      · replace h := h.1 h81
        refine wp_goto (tgt := 104) dX8_sift_84 (by decide) ?_
        refine wp_aload_n dX8_sift_104 rfl rfl (by first | exact Or.inl (by decide) | exact Or.inl (by omega) | exact Or.inr (by decide) | exact Or.inr (by omega)) ?_
        refine wp_aload_n dX8_sift_105 rfl rfl (by first | exact Or.inl (by decide) | exact Or.inl (by omega) | exact Or.inr (by decide) | exact Or.inr (by omega)) ?_
        refine wp_getR dX8_sift_106 fX8_26 rfl (by decide) ?_
        refine wp_topR (x' := 27) rfl ?_
        refine wp_iload dX8_sift_109 rfl ?_
        have c1 := h.1
        replace h := h.2
        refine wp_iald dX8_sift_111 rfl (by decide) c1 ?_
        refine wp_cVq (n := 1) (mt' := mX8_push) (as := [vI (MI 27 l7.toNat)]) (rest := []) _ dX8_sift_112 lX8_87 kX8_push vX8_push (by decide) (by decide +kernel) rfl (Nat.le_of_ble_eq_true rfl) (by decide) rfl rfl rfl (Nat.le_of_ble_eq_true rfl) (fun hM hS => h) (fun r M' hq hM => ?_)
        obtain ⟨m112, n112, rfl, rfl, h⟩ := rV_out hq
        refine wp_iincr dX8_sift_115 rfl (by decide) c0 (wp_L (L' := [some (vR 23), some (vR b), some (vR 14), some (vI l3), some (vI l4), some (vI l5), some (vI l6), some (vI (l7 + 1))]) rfl ?_)
        refine wp_goto (tgt := 63) dX8_sift_118 (by decide) ?_
        exact h
theorem dX8_takeStep_0 : decode cX8_takeStep 0 = .ok (.aload_n 0, 1) := by decide +kernel
theorem dX8_takeStep_1 : decode cX8_takeStep 1 = .ok (.getfield 23, 3) := by decide +kernel
theorem dX8_takeStep_4 : decode cX8_takeStep 4 = .ok (.iconst 0, 1) := by decide +kernel
theorem dX8_takeStep_5 : decode cX8_takeStep 5 = .ok (.invokestatic 32, 3) := by decide +kernel
theorem dX8_takeStep_8 : decode cX8_takeStep 8 = .ok (.iconst 0, 1) := by decide +kernel
theorem dX8_takeStep_9 : decode cX8_takeStep 9 = .ok (.istore 4, 2) := by decide +kernel
theorem dX8_takeStep_11 : decode cX8_takeStep 11 = .ok (.iload 4, 2) := by decide +kernel
theorem dX8_takeStep_13 : decode cX8_takeStep 13 = .ok (.aload_n 1, 1) := by decide +kernel
theorem dX8_takeStep_14 : decode cX8_takeStep 14 = .ok (.getfield 58, 3) := by decide +kernel
theorem dX8_takeStep_17 : decode cX8_takeStep 17 = .ok (.if_icmp .ge 91, 3) := by decide +kernel
theorem dX8_takeStep_20 : decode cX8_takeStep 20 = .ok (.aload_n 0, 1) := by decide +kernel
theorem dX8_takeStep_21 : decode cX8_takeStep 21 = .ok (.getfield 19, 3) := by decide +kernel
theorem dX8_takeStep_24 : decode cX8_takeStep 24 = .ok (.iload 4, 2) := by decide +kernel
theorem dX8_takeStep_26 : decode cX8_takeStep 26 = .ok (.baload, 1) := by decide +kernel
theorem dX8_takeStep_27 : decode cX8_takeStep 27 = .ok (.ifCond .eq 75, 3) := by decide +kernel
theorem dX8_takeStep_30 : decode cX8_takeStep 30 = .ok (.aload_n 0, 1) := by decide +kernel
theorem dX8_takeStep_31 : decode cX8_takeStep 31 = .ok (.aload_n 1, 1) := by decide +kernel
theorem dX8_takeStep_32 : decode cX8_takeStep 32 = .ok (.aload_n 2, 1) := by decide +kernel
theorem dX8_takeStep_33 : decode cX8_takeStep 33 = .ok (.iload_n 3, 1) := by decide +kernel
theorem dX8_takeStep_34 : decode cX8_takeStep 34 = .ok (.iload 4, 2) := by decide +kernel
theorem dX8_takeStep_36 : decode cX8_takeStep 36 = .ok (.invokevirtual 73, 3) := by decide +kernel
theorem dX8_takeStep_39 : decode cX8_takeStep 39 = .ok (.iconst 0, 1) := by decide +kernel
theorem dX8_takeStep_40 : decode cX8_takeStep 40 = .ok (.istore 5, 2) := by decide +kernel
theorem dX8_takeStep_42 : decode cX8_takeStep 42 = .ok (.iload 5, 2) := by decide +kernel
theorem dX8_takeStep_44 : decode cX8_takeStep 44 = .ok (.aload_n 2, 1) := by decide +kernel
theorem dX8_takeStep_45 : decode cX8_takeStep 45 = .ok (.getfield 77, 3) := by decide +kernel
theorem dX8_takeStep_48 : decode cX8_takeStep 48 = .ok (.iload_n 3, 1) := by decide +kernel
theorem dX8_takeStep_49 : decode cX8_takeStep 49 = .ok (.iaload, 1) := by decide +kernel
theorem dX8_takeStep_50 : decode cX8_takeStep 50 = .ok (.if_icmp .ge 21, 3) := by decide +kernel
theorem dX8_takeStep_53 : decode cX8_takeStep 53 = .ok (.aload_n 0, 1) := by decide +kernel
theorem dX8_takeStep_54 : decode cX8_takeStep 54 = .ok (.aload_n 1, 1) := by decide +kernel
theorem dX8_takeStep_55 : decode cX8_takeStep 55 = .ok (.aload_n 2, 1) := by decide +kernel
theorem dX8_takeStep_56 : decode cX8_takeStep 56 = .ok (.iload_n 3, 1) := by decide +kernel
theorem dX8_takeStep_57 : decode cX8_takeStep 57 = .ok (.iconst 4, 1) := by decide +kernel
theorem dX8_takeStep_58 : decode cX8_takeStep 58 = .ok (.imul, 1) := by decide +kernel
theorem dX8_takeStep_59 : decode cX8_takeStep 59 = .ok (.iload 5, 2) := by decide +kernel
theorem dX8_takeStep_61 : decode cX8_takeStep 61 = .ok (.iadd, 1) := by decide +kernel
theorem dX8_takeStep_62 : decode cX8_takeStep 62 = .ok (.invokevirtual 80, 3) := by decide +kernel
theorem dX8_takeStep_65 : decode cX8_takeStep 65 = .ok (.iinc 5 1, 3) := by decide +kernel
theorem dX8_takeStep_68 : decode cX8_takeStep 68 = .ok (.goto (-26), 3) := by decide +kernel
theorem dX8_takeStep_71 : decode cX8_takeStep 71 = .ok (.iconst 0, 1) := by decide +kernel
theorem dX8_takeStep_72 : decode cX8_takeStep 72 = .ok (.istore 5, 2) := by decide +kernel
theorem dX8_takeStep_74 : decode cX8_takeStep 74 = .ok (.iload 5, 2) := by decide +kernel
theorem dX8_takeStep_76 : decode cX8_takeStep 76 = .ok (.aload_n 0, 1) := by decide +kernel
theorem dX8_takeStep_77 : decode cX8_takeStep 77 = .ok (.getfield 29, 3) := by decide +kernel
theorem dX8_takeStep_80 : decode cX8_takeStep 80 = .ok (.if_icmp .ge 22, 3) := by decide +kernel
theorem dX8_takeStep_83 : decode cX8_takeStep 83 = .ok (.aload_n 0, 1) := by decide +kernel
theorem dX8_takeStep_84 : decode cX8_takeStep 84 = .ok (.getfield 23, 3) := by decide +kernel
theorem dX8_takeStep_87 : decode cX8_takeStep 87 = .ok (.aload_n 0, 1) := by decide +kernel
theorem dX8_takeStep_88 : decode cX8_takeStep 88 = .ok (.getfield 26, 3) := by decide +kernel
theorem dX8_takeStep_91 : decode cX8_takeStep 91 = .ok (.iload 5, 2) := by decide +kernel
theorem dX8_takeStep_93 : decode cX8_takeStep 93 = .ok (.iaload, 1) := by decide +kernel
theorem dX8_takeStep_94 : decode cX8_takeStep 94 = .ok (.iconst 1, 1) := by decide +kernel
theorem dX8_takeStep_95 : decode cX8_takeStep 95 = .ok (.bastore, 1) := by decide +kernel
theorem dX8_takeStep_96 : decode cX8_takeStep 96 = .ok (.iinc 5 1, 3) := by decide +kernel
theorem dX8_takeStep_99 : decode cX8_takeStep 99 = .ok (.goto (-25), 3) := by decide +kernel
theorem dX8_takeStep_102 : decode cX8_takeStep 102 = .ok (.iinc 4 1, 3) := by decide +kernel
theorem dX8_takeStep_105 : decode cX8_takeStep 105 = .ok (.goto (-94), 3) := by decide +kernel
theorem dX8_takeStep_108 : decode cX8_takeStep 108 = .ok (.aload_n 0, 1) := by decide +kernel
theorem dX8_takeStep_109 : decode cX8_takeStep 109 = .ok (.getfield 19, 3) := by decide +kernel
theorem dX8_takeStep_112 : decode cX8_takeStep 112 = .ok (.astore 4, 2) := by decide +kernel
theorem dX8_takeStep_114 : decode cX8_takeStep 114 = .ok (.aload_n 0, 1) := by decide +kernel
theorem dX8_takeStep_115 : decode cX8_takeStep 115 = .ok (.aload_n 0, 1) := by decide +kernel
theorem dX8_takeStep_116 : decode cX8_takeStep 116 = .ok (.getfield 23, 3) := by decide +kernel
theorem dX8_takeStep_119 : decode cX8_takeStep 119 = .ok (.putfield 19, 3) := by decide +kernel
theorem dX8_takeStep_122 : decode cX8_takeStep 122 = .ok (.aload_n 0, 1) := by decide +kernel
theorem dX8_takeStep_123 : decode cX8_takeStep 123 = .ok (.aload 4, 2) := by decide +kernel
theorem dX8_takeStep_125 : decode cX8_takeStep 125 = .ok (.putfield 23, 3) := by decide +kernel
theorem dX8_takeStep_128 : decode cX8_takeStep 128 = .ok (.return_, 1) := by decide +kernel
theorem v_X8_takeStep_0 {cs : Cs} {Q : Option AV → Mm → Prop} {MI ML : Nat → Nat → Int} {b d e nw th : Nat} {l3 : Int} (hbd : b = 38 ∨ b = 81) (hnw : nw = 25 ∨ nw = 26) (hth : th = 25 ∨ th = 26)
    (h : wp cs mJ7_fill_031fb KD (rV (GR d e nw th 1) fun m5 n5 => wp cs mX8_takeStep KD Q 11 [some (vR 23), some (vR b), some (vR 14), some (vI l3), some (vI 0), none] [] (KD, m5, n5, (GR d e nw th 1))) 0 (padL [vR th, vI 0] 4) [] (KD, MI, ML, (GR d e nw th 1))) :
    wp cs mX8_takeStep KD Q 0 (padL [vR 23, vR b, vR 14, vI l3] 6) [] (KD, MI, ML, (GR d e nw th 1)) := by
  refine wp_L (L' := [some (vR 23), some (vR b), some (vR 14), some (vI l3), none, none]) rfl ?_
  refine wp_aload_n dX8_takeStep_0 rfl rfl (by first | exact Or.inl (by decide) | exact Or.inl (by omega) | exact Or.inr (by decide) | exact Or.inr (by omega)) ?_
  refine wp_getR dX8_takeStep_1 fX8_23 rfl (by decide) ?_
  refine wp_topR (x' := th) rfl ?_
  refine wp_iconst dX8_takeStep_4 (by decide) ?_
  refine wp_cSq (n := 2) (mt' := mJ7_fill_031fb) (as := [vR th, vI 0]) (rest := []) _ dX8_takeStep_5 lX8_32 kJ7_fill_031fb vJ7_fill_031fb (by decide) (by decide +kernel) rfl (Nat.le_of_ble_eq_true rfl) rfl (Nat.le_of_ble_eq_true rfl) (fun hM hS => h) (fun r M' hq hM => ?_)
  obtain ⟨m5, n5, rfl, rfl, h⟩ := rV_out hq
  refine wp_iconst dX8_takeStep_8 (by decide) ?_
  refine wp_istore dX8_takeStep_9 (by decide) (wp_L (L' := [some (vR 23), some (vR b), some (vR 14), some (vI l3), some (vI 0), none]) rfl ?_)
  exact h
theorem v_X8_takeStep_11 {cs : Cs} {Q : Option AV → Mm → Prop} {MI ML : Nat → Nat → Int} {b d e nw th : Nat} {l3 l4 : Int} (hbd : b = 38 ∨ b = 81) (hnw : nw = 25 ∨ nw = 26) (hth : th = 25 ∨ th = 26)
    (h : ((l4 < (MI b 16) → (0 ≤ l4 ∧ l4 < 600) ∧ (((MI nw l4.toNat) = 0 → (-2147483648 ≤ l4 + 1 ∧ l4 + 1 < 2147483648) ∧ wp cs mX8_takeStep KD Q 11 [some (vR 23), some (vR b), some (vR 14), some (vI l3), some (vI (l4 + 1)), none] [] (KD, MI, ML, (GR d e nw th 1))) ∧ ((MI nw l4.toNat) ≠ 0 → wp cs mX8_lead KD (rV (GR d e nw th 1) fun m36 n36 => wp cs mX8_takeStep KD Q 42 [some (vR 23), some (vR b), some (vR 14), some (vI l3), some (vI l4), some (vI 0)] [] (KD, m36, n36, (GR d e nw th 1))) 0 (padL [vR 23, vR b, vR 14, vI l3, vI l4] 7) [] (KD, MI, ML, (GR d e nw th 1))))) ∧ ((MI b 16) ≤ l4 → Q none (MI, ML, (GR d e th nw 1))))) :
    wp cs mX8_takeStep KD Q 11 [some (vR 23), some (vR b), some (vR 14), some (vI l3), some (vI l4), none] [] (KD, MI, ML, (GR d e nw th 1)) := by
  refine wp_iload dX8_takeStep_11 rfl ?_
  refine wp_aload_n dX8_takeStep_13 rfl rfl (by first | exact Or.inl (by decide) | exact Or.inl (by omega) | exact Or.inr (by decide) | exact Or.inr (by omega)) ?_
  refine wp_getI dX8_takeStep_14 fX8_58 (show KD[b]? = some (7, 19) from kdb_0 hbd) (by omega) ?_
  refine wp_icmp_ge (tgt := 108) dX8_takeStep_17 (by decide) (fun h17 => ?_) (fun h17 => ?_)
  · replace h := h.2 h17
    refine wp_aload_n dX8_takeStep_108 rfl rfl (by first | exact Or.inl (by decide) | exact Or.inl (by omega) | exact Or.inr (by decide) | exact Or.inr (by omega)) ?_
    refine wp_getR dX8_takeStep_109 fX8_19 rfl (by decide) ?_
    refine wp_topR (x' := nw) rfl ?_
    refine wp_astore dX8_takeStep_112 (by first | exact Or.inl (by decide) | exact Or.inl (by omega)) (by decide) (wp_L (L' := [some (vR 23), some (vR b), some (vR 14), some (vI l3), some (vR nw), none]) rfl ?_)
    refine wp_aload_n dX8_takeStep_114 rfl rfl (by first | exact Or.inl (by decide) | exact Or.inl (by omega) | exact Or.inr (by decide) | exact Or.inr (by omega)) ?_
    refine wp_aload_n dX8_takeStep_115 rfl rfl (by first | exact Or.inl (by decide) | exact Or.inl (by omega) | exact Or.inr (by decide) | exact Or.inr (by omega)) ?_
    refine wp_getR dX8_takeStep_116 fX8_23 rfl (by decide) ?_
    refine wp_topR (x' := th) rfl ?_
    refine wp_putR dX8_takeStep_119 pX8_19 (fun h => by first | rfl | cases h) rfl (by decide) (by first | exact Or.inl (by decide) | exact Or.inl (by omega)) (Or.inr ⟨_, rfl⟩) ?_
    refine wp_M (M' := (MI, ML, (GR d e th th 1))) (by rw [gr_now]) ?_
    refine wp_pc (pc' := 122) rfl ?_
    refine wp_aload_n dX8_takeStep_122 rfl rfl (by first | exact Or.inl (by decide) | exact Or.inl (by omega) | exact Or.inr (by decide) | exact Or.inr (by omega)) ?_
    refine wp_aload dX8_takeStep_123 rfl (by first | exact Or.inl (by decide) | exact Or.inl (by omega) | exact Or.inr (by decide) | exact Or.inr (by omega)) ?_
    refine wp_putR dX8_takeStep_125 pX8_23 (fun h => by first | rfl | cases h) rfl (by decide) (by first | exact Or.inl (by decide) | exact Or.inl (by omega)) (Or.inr ⟨_, rfl⟩) ?_
    refine wp_M (M' := (MI, ML, (GR d e th nw 1))) (by rw [gr_then]) ?_
    exact wp_vret dX8_takeStep_128 rfl (fun _ => h)
  · replace h := h.1 h17
    refine wp_aload_n dX8_takeStep_20 rfl rfl (by first | exact Or.inl (by decide) | exact Or.inl (by omega) | exact Or.inr (by decide) | exact Or.inr (by omega)) ?_
    refine wp_getR dX8_takeStep_21 fX8_19 rfl (by decide) ?_
    refine wp_topR (x' := nw) rfl ?_
    refine wp_iload dX8_takeStep_24 rfl ?_
    have c0 := h.1
    replace h := h.2
    refine wp_bald dX8_takeStep_26 (kd_nt hnw) (by omega) c0 ?_
    refine wp_if_eq (tgt := 102) dX8_takeStep_27 (by decide) (fun h27 => ?_) (fun h27 => ?_)
    · replace h := h.1 h27
      have c1 := h.1
      replace h := h.2
      refine wp_iincr dX8_takeStep_102 rfl (by decide) c1 (wp_L (L' := [some (vR 23), some (vR b), some (vR 14), some (vI l3), some (vI (l4 + 1)), none]) rfl ?_)
      refine wp_goto (tgt := 11) dX8_takeStep_105 (by decide) ?_
      exact h
    · replace h := h.2 h27
      refine wp_aload_n dX8_takeStep_30 rfl rfl (by first | exact Or.inl (by decide) | exact Or.inl (by omega) | exact Or.inr (by decide) | exact Or.inr (by omega)) ?_
      refine wp_aload_n dX8_takeStep_31 rfl rfl (by first | exact Or.inl (by decide) | exact Or.inl (by omega) | exact Or.inr (by decide) | exact Or.inr (by omega)) ?_
      refine wp_aload_n dX8_takeStep_32 rfl rfl (by first | exact Or.inl (by decide) | exact Or.inl (by omega) | exact Or.inr (by decide) | exact Or.inr (by omega)) ?_
      refine wp_iload_n dX8_takeStep_33 rfl rfl ?_
      refine wp_iload dX8_takeStep_34 rfl ?_
      refine wp_cVq (n := 4) (mt' := mX8_lead) (as := [vR b, vR 14, vI l3, vI l4]) (rest := []) _ dX8_takeStep_36 lX8_73 kX8_lead vX8_lead (by decide) (by decide +kernel) rfl (Nat.le_of_ble_eq_true rfl) (by decide) rfl rfl rfl (Nat.le_of_ble_eq_true rfl) (fun hM hS => h) (fun r M' hq hM => ?_)
      obtain ⟨m36, n36, rfl, rfl, h⟩ := rV_out hq
      refine wp_iconst dX8_takeStep_39 (by decide) ?_
      refine wp_istore dX8_takeStep_40 (by decide) (wp_L (L' := [some (vR 23), some (vR b), some (vR 14), some (vI l3), some (vI l4), some (vI 0)]) rfl ?_)
      exact h
theorem v_X8_takeStep_42 {cs : Cs} {Q : Option AV → Mm → Prop} {MI ML : Nat → Nat → Int} {b d e nw th : Nat} {l3 l4 l5 : Int} (hbd : b = 38 ∨ b = 81) (hnw : nw = 25 ∨ nw = 26) (hth : th = 25 ∨ th = 26)
    (h : (0 ≤ l3 ∧ l3 < 12) ∧ ((l5 < (MI 18 l3.toNat) → (-2147483648 ≤ l3 * 4 ∧ l3 * 4 < 2147483648) ∧ (-2147483648 ≤ (l3 * 4) + l5 ∧ (l3 * 4) + l5 < 2147483648) ∧ wp cs mX8_sift KD (rV (GR d e nw th 1) fun m62 n62 => (-2147483648 ≤ l5 + 1 ∧ l5 + 1 < 2147483648) ∧ wp cs mX8_takeStep KD Q 42 [some (vR 23), some (vR b), some (vR 14), some (vI l3), some (vI l4), some (vI (l5 + 1))] [] (KD, m62, n62, (GR d e nw th 1))) 0 (padL [vR 23, vR b, vR 14, vI ((l3 * 4) + l5)] 8) [] (KD, MI, ML, (GR d e nw th 1))) ∧ ((MI 18 l3.toNat) ≤ l5 → wp cs mX8_takeStep KD Q 74 [some (vR 23), some (vR b), some (vR 14), some (vI l3), some (vI l4), some (vI 0)] [] (KD, MI, ML, (GR d e nw th 1))))) :
    wp cs mX8_takeStep KD Q 42 [some (vR 23), some (vR b), some (vR 14), some (vI l3), some (vI l4), some (vI l5)] [] (KD, MI, ML, (GR d e nw th 1)) := by
  refine wp_iload dX8_takeStep_42 rfl ?_
  refine wp_aload_n dX8_takeStep_44 rfl rfl (by first | exact Or.inl (by decide) | exact Or.inl (by omega) | exact Or.inr (by decide) | exact Or.inr (by omega)) ?_
  refine wp_getR dX8_takeStep_45 fX8_77 rfl (by decide) ?_
  refine wp_topR (x' := 18) rfl ?_
  refine wp_iload_n dX8_takeStep_48 rfl rfl ?_
  have c0 := h.1
  replace h := h.2
  refine wp_iald dX8_takeStep_49 rfl (by decide) c0 ?_
  refine wp_icmp_ge (tgt := 71) dX8_takeStep_50 (by decide) (fun h50 => ?_) (fun h50 => ?_)
  · replace h := h.2 h50
    refine wp_iconst dX8_takeStep_71 (by decide) ?_
    refine wp_istore dX8_takeStep_72 (by decide) (wp_L (L' := [some (vR 23), some (vR b), some (vR 14), some (vI l3), some (vI l4), some (vI 0)]) rfl ?_)
    exact h
  · replace h := h.1 h50
    refine wp_aload_n dX8_takeStep_53 rfl rfl (by first | exact Or.inl (by decide) | exact Or.inl (by omega) | exact Or.inr (by decide) | exact Or.inr (by omega)) ?_
    refine wp_aload_n dX8_takeStep_54 rfl rfl (by first | exact Or.inl (by decide) | exact Or.inl (by omega) | exact Or.inr (by decide) | exact Or.inr (by omega)) ?_
    refine wp_aload_n dX8_takeStep_55 rfl rfl (by first | exact Or.inl (by decide) | exact Or.inl (by omega) | exact Or.inr (by decide) | exact Or.inr (by omega)) ?_
    refine wp_iload_n dX8_takeStep_56 rfl rfl ?_
    refine wp_iconst dX8_takeStep_57 (by decide) ?_
    have c1 := h.1
    replace h := h.2
    refine wp_imulr dX8_takeStep_58 c1 ?_
    refine wp_iload dX8_takeStep_59 rfl ?_
    refine wp_pc (pc' := 61) rfl ?_
    have c2 := h.1
    replace h := h.2
    refine wp_iaddr dX8_takeStep_61 c2 ?_
    refine wp_cVq (n := 3) (mt' := mX8_sift) (as := [vR b, vR 14, vI ((l3 * 4) + l5)]) (rest := []) _ dX8_takeStep_62 lX8_80 kX8_sift vX8_sift (by decide) (by decide +kernel) rfl (Nat.le_of_ble_eq_true rfl) (by decide) rfl rfl rfl (Nat.le_of_ble_eq_true rfl) (fun hM hS => h) (fun r M' hq hM => ?_)
    obtain ⟨m62, n62, rfl, rfl, h⟩ := rV_out hq
    have c3 := h.1
    replace h := h.2
    refine wp_iincr dX8_takeStep_65 rfl (by decide) c3 (wp_L (L' := [some (vR 23), some (vR b), some (vR 14), some (vI l3), some (vI l4), some (vI (l5 + 1))]) rfl ?_)
    refine wp_goto (tgt := 42) dX8_takeStep_68 (by decide) ?_
    exact h
theorem v_X8_takeStep_74 {cs : Cs} {Q : Option AV → Mm → Prop} {MI ML : Nat → Nat → Int} {b d e nw th : Nat} {l3 l4 l5 : Int} (hbd : b = 38 ∨ b = 81) (hnw : nw = 25 ∨ nw = 26) (hth : th = 25 ∨ th = 26)
    (h : ((l5 < (MI 23 5) → (0 ≤ l5 ∧ l5 < 600) ∧ (0 ≤ (MI 27 l5.toNat) ∧ (MI 27 l5.toNat) < 600) ∧ ∀ m95, m95 = up2 MI th (MI 27 l5.toNat).toNat 1 → (-2147483648 ≤ l5 + 1 ∧ l5 + 1 < 2147483648) ∧ wp cs mX8_takeStep KD Q 74 [some (vR 23), some (vR b), some (vR 14), some (vI l3), some (vI l4), some (vI (l5 + 1))] [] (KD, m95, ML, (GR d e nw th 1))) ∧ ((MI 23 5) ≤ l5 → (-2147483648 ≤ l4 + 1 ∧ l4 + 1 < 2147483648) ∧ wp cs mX8_takeStep KD Q 11 [some (vR 23), some (vR b), some (vR 14), some (vI l3), some (vI (l4 + 1)), none] [] (KD, MI, ML, (GR d e nw th 1))))) :
    wp cs mX8_takeStep KD Q 74 [some (vR 23), some (vR b), some (vR 14), some (vI l3), some (vI l4), some (vI l5)] [] (KD, MI, ML, (GR d e nw th 1)) := by
  refine wp_iload dX8_takeStep_74 rfl ?_
  refine wp_aload_n dX8_takeStep_76 rfl rfl (by first | exact Or.inl (by decide) | exact Or.inl (by omega) | exact Or.inr (by decide) | exact Or.inr (by omega)) ?_
  refine wp_getI dX8_takeStep_77 fX8_29 rfl (by decide) ?_
  refine wp_icmp_ge (tgt := 102) dX8_takeStep_80 (by decide) (fun h80 => ?_) (fun h80 => ?_)
  · replace h := h.2 h80
    have c0 := h.1
    replace h := h.2
    refine wp_iincr dX8_takeStep_102 rfl (by decide) c0 (wp_L (L' := [some (vR 23), some (vR b), some (vR 14), some (vI l3), some (vI (l4 + 1)), some (vI l5)]) rfl ?_)
    refine wp_goto (tgt := 11) dX8_takeStep_105 (by decide) ?_
    refine wp_forget (L' := [some (vR 23), some (vR b), some (vR 14), some (vI l3), some (vI (l4 + 1)), none]) (by repeat' (first | exact trivial | refine ⟨rfl, ?_⟩)) ?_
    exact h
  · replace h := h.1 h80
    refine wp_aload_n dX8_takeStep_83 rfl rfl (by first | exact Or.inl (by decide) | exact Or.inl (by omega) | exact Or.inr (by decide) | exact Or.inr (by omega)) ?_
    refine wp_getR dX8_takeStep_84 fX8_23 rfl (by decide) ?_
    refine wp_topR (x' := th) rfl ?_
    refine wp_aload_n dX8_takeStep_87 rfl rfl (by first | exact Or.inl (by decide) | exact Or.inl (by omega) | exact Or.inr (by decide) | exact Or.inr (by omega)) ?_
    refine wp_getR dX8_takeStep_88 fX8_26 rfl (by decide) ?_
    refine wp_topR (x' := 27) rfl ?_
    refine wp_iload dX8_takeStep_91 rfl ?_
    have c0 := h.1
    replace h := h.2
    refine wp_iald dX8_takeStep_93 rfl (by decide) c0 ?_
    refine wp_iconst dX8_takeStep_94 (by decide) ?_
    refine wp_pc (pc' := 95) rfl ?_
    have c1 := h.1
    replace h := h.2
    refine wp_bast dX8_takeStep_95 (kd_nt hth) (by omega) c1 (by decide) ?_
    refine wp_gI (fun m95 e95 => ?_)
    replace h := h m95 e95
    have c2 := h.1
    replace h := h.2
    refine wp_iincr dX8_takeStep_96 rfl (by decide) c2 (wp_L (L' := [some (vR 23), some (vR b), some (vR 14), some (vI l3), some (vI l4), some (vI (l5 + 1))]) rfl ?_)
    refine wp_goto (tgt := 74) dX8_takeStep_99 (by decide) ?_
    exact h
theorem dX8_follow_0 : decode cX8_follow 0 = .ok (.aload_n 0, 1) := by decide +kernel
theorem dX8_follow_1 : decode cX8_follow 1 = .ok (.getfield 19, 3) := by decide +kernel
theorem dX8_follow_4 : decode cX8_follow 4 = .ok (.iconst 0, 1) := by decide +kernel
theorem dX8_follow_5 : decode cX8_follow 5 = .ok (.invokestatic 32, 3) := by decide +kernel
theorem dX8_follow_8 : decode cX8_follow 8 = .ok (.aload_n 0, 1) := by decide +kernel
theorem dX8_follow_9 : decode cX8_follow 9 = .ok (.getfield 19, 3) := by decide +kernel
theorem dX8_follow_12 : decode cX8_follow 12 = .ok (.aload_n 2, 1) := by decide +kernel
theorem dX8_follow_13 : decode cX8_follow 13 = .ok (.getfield 38, 3) := by decide +kernel
theorem dX8_follow_16 : decode cX8_follow 16 = .ok (.ifCond .eq 7, 3) := by decide +kernel
theorem dX8_follow_19 : decode cX8_follow 19 = .ok (.iconst 0, 1) := by decide +kernel
theorem dX8_follow_20 : decode cX8_follow 20 = .ok (.goto 4, 3) := by decide +kernel
theorem dX8_follow_23 : decode cX8_follow 23 = .ok (.iload_n 3, 1) := by decide +kernel
theorem dX8_follow_24 : decode cX8_follow 24 = .ok (.iconst 1, 1) := by decide +kernel
theorem dX8_follow_25 : decode cX8_follow 25 = .ok (.bastore, 1) := by decide +kernel
theorem dX8_follow_26 : decode cX8_follow 26 = .ok (.iconst 0, 1) := by decide +kernel
theorem dX8_follow_27 : decode cX8_follow 27 = .ok (.istore 4, 2) := by decide +kernel
theorem dX8_follow_29 : decode cX8_follow 29 = .ok (.iload 4, 2) := by decide +kernel
theorem dX8_follow_31 : decode cX8_follow 31 = .ok (.aload_n 2, 1) := by decide +kernel
theorem dX8_follow_32 : decode cX8_follow 32 = .ok (.getfield 44, 3) := by decide +kernel
theorem dX8_follow_35 : decode cX8_follow 35 = .ok (.if_icmp .ge 32, 3) := by decide +kernel
theorem dX8_follow_38 : decode cX8_follow 38 = .ok (.aload_n 2, 1) := by decide +kernel
theorem dX8_follow_39 : decode cX8_follow 39 = .ok (.getfield 47, 3) := by decide +kernel
theorem dX8_follow_42 : decode cX8_follow 42 = .ok (.iload 4, 2) := by decide +kernel
theorem dX8_follow_44 : decode cX8_follow 44 = .ok (.baload, 1) := by decide +kernel
theorem dX8_follow_45 : decode cX8_follow 45 = .ok (.ifCond .eq 8, 3) := by decide +kernel
theorem dX8_follow_48 : decode cX8_follow 48 = .ok (.aload_n 0, 1) := by decide +kernel
theorem dX8_follow_49 : decode cX8_follow 49 = .ok (.aload_n 1, 1) := by decide +kernel
theorem dX8_follow_50 : decode cX8_follow 50 = .ok (.invokevirtual 50, 3) := by decide +kernel
theorem dX8_follow_53 : decode cX8_follow 53 = .ok (.aload_n 0, 1) := by decide +kernel
theorem dX8_follow_54 : decode cX8_follow 54 = .ok (.aload_n 1, 1) := by decide +kernel
theorem dX8_follow_55 : decode cX8_follow 55 = .ok (.aload_n 2, 1) := by decide +kernel
theorem dX8_follow_56 : decode cX8_follow 56 = .ok (.iload 4, 2) := by decide +kernel
theorem dX8_follow_58 : decode cX8_follow 58 = .ok (.invokevirtual 54, 3) := by decide +kernel
theorem dX8_follow_61 : decode cX8_follow 61 = .ok (.iinc 4 1, 3) := by decide +kernel
theorem dX8_follow_64 : decode cX8_follow 64 = .ok (.goto (-35), 3) := by decide +kernel
theorem dX8_follow_67 : decode cX8_follow 67 = .ok (.aload_n 0, 1) := by decide +kernel
theorem dX8_follow_68 : decode cX8_follow 68 = .ok (.iconst 0, 1) := by decide +kernel
theorem dX8_follow_69 : decode cX8_follow 69 = .ok (.putfield 15, 3) := by decide +kernel
theorem dX8_follow_72 : decode cX8_follow 72 = .ok (.iconst 0, 1) := by decide +kernel
theorem dX8_follow_73 : decode cX8_follow 73 = .ok (.istore 4, 2) := by decide +kernel
theorem dX8_follow_75 : decode cX8_follow 75 = .ok (.iload 4, 2) := by decide +kernel
theorem dX8_follow_77 : decode cX8_follow 77 = .ok (.aload_n 1, 1) := by decide +kernel
theorem dX8_follow_78 : decode cX8_follow 78 = .ok (.getfield 58, 3) := by decide +kernel
theorem dX8_follow_81 : decode cX8_follow 81 = .ok (.if_icmp .ge 40, 3) := by decide +kernel
theorem dX8_follow_84 : decode cX8_follow 84 = .ok (.aload_n 0, 1) := by decide +kernel
theorem dX8_follow_85 : decode cX8_follow 85 = .ok (.getfield 19, 3) := by decide +kernel
theorem dX8_follow_88 : decode cX8_follow 88 = .ok (.iload 4, 2) := by decide +kernel
theorem dX8_follow_90 : decode cX8_follow 90 = .ok (.baload, 1) := by decide +kernel
theorem dX8_follow_91 : decode cX8_follow 91 = .ok (.ifCond .eq 24, 3) := by decide +kernel
theorem dX8_follow_94 : decode cX8_follow 94 = .ok (.aload_n 0, 1) := by decide +kernel
theorem dX8_follow_95 : decode cX8_follow 95 = .ok (.getfield 9, 3) := by decide +kernel
theorem dX8_follow_98 : decode cX8_follow 98 = .ok (.aload_n 0, 1) := by decide +kernel
theorem dX8_follow_99 : decode cX8_follow 99 = .ok (.getfield 15, 3) := by decide +kernel
theorem dX8_follow_102 : decode cX8_follow 102 = .ok (.iload 4, 2) := by decide +kernel
theorem dX8_follow_104 : decode cX8_follow 104 = .ok (.iastore, 1) := by decide +kernel
theorem dX8_follow_105 : decode cX8_follow 105 = .ok (.aload_n 0, 1) := by decide +kernel
theorem dX8_follow_106 : decode cX8_follow 106 = .ok (.dup, 1) := by decide +kernel
theorem dX8_follow_107 : decode cX8_follow 107 = .ok (.getfield 15, 3) := by decide +kernel
theorem dX8_follow_110 : decode cX8_follow 110 = .ok (.iconst 1, 1) := by decide +kernel
theorem dX8_follow_111 : decode cX8_follow 111 = .ok (.iadd, 1) := by decide +kernel
theorem dX8_follow_112 : decode cX8_follow 112 = .ok (.putfield 15, 3) := by decide +kernel
theorem dX8_follow_115 : decode cX8_follow 115 = .ok (.iinc 4 1, 3) := by decide +kernel
theorem dX8_follow_118 : decode cX8_follow 118 = .ok (.goto (-43), 3) := by decide +kernel
theorem dX8_follow_121 : decode cX8_follow 121 = .ok (.return_, 1) := by decide +kernel
theorem v_X8_follow_0 {cs : Cs} {Q : Option AV → Mm → Prop} {MI ML : Nat → Nat → Int} {b d e nw th : Nat} {l3 : Int} (hbd : b = 38 ∨ b = 81) (hnw : nw = 25 ∨ nw = 26)
    (h : wp cs mJ7_fill_031fb KD (rV (GR d e nw th 1) fun m5 n5 => (((m5 14 10) = 0 → (0 ≤ l3 ∧ l3 < 600) ∧ ∀ m25, m25 = up2 m5 nw l3.toNat 1 → wp cs mX8_follow KD Q 29 [some (vR 23), some (vR b), some (vR 14), some (vI l3), some (vI 0)] [] (KD, m25, n5, (GR d e nw th 1))) ∧ ((m5 14 10) ≠ 0 → ∀ m25, m25 = up2 m5 nw 0 1 → wp cs mX8_follow KD Q 29 [some (vR 23), some (vR b), some (vR 14), some (vI l3), some (vI 0)] [] (KD, m25, n5, (GR d e nw th 1))))) 0 (padL [vR nw, vI 0] 4) [] (KD, MI, ML, (GR d e nw th 1))) :
    wp cs mX8_follow KD Q 0 (padL [vR 23, vR b, vR 14, vI l3] 5) [] (KD, MI, ML, (GR d e nw th 1)) := by
  refine wp_L (L' := [some (vR 23), some (vR b), some (vR 14), some (vI l3), none]) rfl ?_
  refine wp_aload_n dX8_follow_0 rfl rfl (by first | exact Or.inl (by decide) | exact Or.inl (by omega) | exact Or.inr (by decide) | exact Or.inr (by omega)) ?_
  refine wp_getR dX8_follow_1 fX8_19 rfl (by decide) ?_
  refine wp_topR (x' := nw) rfl ?_
  refine wp_iconst dX8_follow_4 (by decide) ?_
  refine wp_cSq (n := 2) (mt' := mJ7_fill_031fb) (as := [vR nw, vI 0]) (rest := []) _ dX8_follow_5 lX8_32 kJ7_fill_031fb vJ7_fill_031fb (by decide) (by decide +kernel) rfl (Nat.le_of_ble_eq_true rfl) rfl (Nat.le_of_ble_eq_true rfl) (fun hM hS => h) (fun r M' hq hM => ?_)
  obtain ⟨m5, n5, rfl, rfl, h⟩ := rV_out hq
  refine wp_aload_n dX8_follow_8 rfl rfl (by first | exact Or.inl (by decide) | exact Or.inl (by omega) | exact Or.inr (by decide) | exact Or.inr (by omega)) ?_
  refine wp_getR dX8_follow_9 fX8_19 rfl (by decide) ?_
  refine wp_topR (x' := nw) rfl ?_
  refine wp_aload_n dX8_follow_12 rfl rfl (by first | exact Or.inl (by decide) | exact Or.inl (by omega) | exact Or.inr (by decide) | exact Or.inr (by omega)) ?_
  refine wp_getI dX8_follow_13 fX8_38 rfl (by decide) ?_
  refine wp_if_eq (tgt := 23) dX8_follow_16 (by decide) (fun h16 => ?_) (fun h16 => ?_)
  · replace h := h.1 h16
    refine wp_iload_n dX8_follow_23 rfl rfl ?_
    refine wp_iconst dX8_follow_24 (by decide) ?_
    have c0 := h.1
    replace h := h.2
    refine wp_bast dX8_follow_25 (kd_nt hnw) (by omega) c0 (by decide) ?_
    refine wp_gI (fun m25 e25 => ?_)
    replace h := h m25 e25
    refine wp_iconst dX8_follow_26 (by decide) ?_
    refine wp_istore dX8_follow_27 (by decide) (wp_L (L' := [some (vR 23), some (vR b), some (vR 14), some (vI l3), some (vI 0)]) rfl ?_)
    exact h
  · replace h := h.2 h16
    refine wp_iconst dX8_follow_19 (by decide) ?_
    refine wp_goto (tgt := 24) dX8_follow_20 (by decide) ?_
    refine wp_iconst dX8_follow_24 (by decide) ?_
    refine wp_bast dX8_follow_25 (kd_nt hnw) (by omega) (by decide) (by decide) ?_
    refine wp_gI (fun m25 e25 => ?_)
    replace h := h m25 e25
    refine wp_iconst dX8_follow_26 (by decide) ?_
    refine wp_istore dX8_follow_27 (by decide) (wp_L (L' := [some (vR 23), some (vR b), some (vR 14), some (vI l3), some (vI 0)]) rfl ?_)
    exact h
theorem v_X8_follow_29 {cs : Cs} {Q : Option AV → Mm → Prop} {MI ML : Nat → Nat → Int} {b d e nw th : Nat} {l3 l4 : Int} (hbd : b = 38 ∨ b = 81)
    (h : ((l4 < (MI 14 9) → (0 ≤ l4 ∧ l4 < 12) ∧ (((MI 17 l4.toNat) = 0 → wp cs mX8_takeStep KD (rV (GR d e th nw 1) fun m58 n58 => (-2147483648 ≤ l4 + 1 ∧ l4 + 1 < 2147483648) ∧ wp cs mX8_follow KD Q 29 [some (vR 23), some (vR b), some (vR 14), some (vI l3), some (vI (l4 + 1))] [] (KD, m58, n58, (GR d e th nw 1))) 0 (padL [vR 23, vR b, vR 14, vI l4] 6) [] (KD, MI, ML, (GR d e nw th 1))) ∧ ((MI 17 l4.toNat) ≠ 0 → wp cs mX8_spread KD (rV (GR d e nw th 1) fun m50 n50 => wp cs mX8_takeStep KD (rV (GR d e th nw 1) fun m58 n58 => (-2147483648 ≤ l4 + 1 ∧ l4 + 1 < 2147483648) ∧ wp cs mX8_follow KD Q 29 [some (vR 23), some (vR b), some (vR 14), some (vI l3), some (vI (l4 + 1))] [] (KD, m58, n58, (GR d e th nw 1))) 0 (padL [vR 23, vR b, vR 14, vI l4] 6) [] (KD, m50, n50, (GR d e nw th 1))) 0 (padL [vR 23, vR b] 4) [] (KD, MI, ML, (GR d e nw th 1))))) ∧ ((MI 14 9) ≤ l4 → ∀ m69, m69 = up2 MI 23 1 0 → wp cs mX8_follow KD Q 75 [some (vR 23), some (vR b), some (vR 14), some (vI l3), some (vI 0)] [] (KD, m69, ML, (GR d e nw th 1))))) :
    wp cs mX8_follow KD Q 29 [some (vR 23), some (vR b), some (vR 14), some (vI l3), some (vI l4)] [] (KD, MI, ML, (GR d e nw th 1)) := by
  refine wp_iload dX8_follow_29 rfl ?_
  refine wp_aload_n dX8_follow_31 rfl rfl (by first | exact Or.inl (by decide) | exact Or.inl (by omega) | exact Or.inr (by decide) | exact Or.inr (by omega)) ?_
  refine wp_getI dX8_follow_32 fX8_44 rfl (by decide) ?_
  refine wp_icmp_ge (tgt := 67) dX8_follow_35 (by decide) (fun h35 => ?_) (fun h35 => ?_)
  · replace h := h.2 h35
    refine wp_aload_n dX8_follow_67 rfl rfl (by first | exact Or.inl (by decide) | exact Or.inl (by omega) | exact Or.inr (by decide) | exact Or.inr (by omega)) ?_
    refine wp_iconst dX8_follow_68 (by decide) ?_
    refine wp_putI dX8_follow_69 pX8_15 rfl (by decide) ?_
    refine wp_gI (fun m69 e69 => ?_)
    replace h := h m69 e69
    refine wp_iconst dX8_follow_72 (by decide) ?_
    refine wp_istore dX8_follow_73 (by decide) (wp_L (L' := [some (vR 23), some (vR b), some (vR 14), some (vI l3), some (vI 0)]) rfl ?_)
    exact h
  · replace h := h.1 h35
    refine wp_aload_n dX8_follow_38 rfl rfl (by first | exact Or.inl (by decide) | exact Or.inl (by omega) | exact Or.inr (by decide) | exact Or.inr (by omega)) ?_
    refine wp_getR dX8_follow_39 fX8_47 rfl (by decide) ?_
    refine wp_topR (x' := 17) rfl ?_
    refine wp_iload dX8_follow_42 rfl ?_
    have c0 := h.1
    replace h := h.2
    refine wp_bald dX8_follow_44 rfl (by decide) c0 ?_
    refine wp_if_eq (tgt := 53) dX8_follow_45 (by decide) (fun h45 => ?_) (fun h45 => ?_)
    · replace h := h.1 h45
      refine wp_aload_n dX8_follow_53 rfl rfl (by first | exact Or.inl (by decide) | exact Or.inl (by omega) | exact Or.inr (by decide) | exact Or.inr (by omega)) ?_
      refine wp_aload_n dX8_follow_54 rfl rfl (by first | exact Or.inl (by decide) | exact Or.inl (by omega) | exact Or.inr (by decide) | exact Or.inr (by omega)) ?_
      refine wp_aload_n dX8_follow_55 rfl rfl (by first | exact Or.inl (by decide) | exact Or.inl (by omega) | exact Or.inr (by decide) | exact Or.inr (by omega)) ?_
      refine wp_iload dX8_follow_56 rfl ?_
      refine wp_cVq (n := 3) (mt' := mX8_takeStep) (as := [vR b, vR 14, vI l4]) (rest := []) _ dX8_follow_58 lX8_54 kX8_takeStep vX8_takeStep (by decide) (by decide +kernel) rfl (Nat.le_of_ble_eq_true rfl) (by decide) rfl rfl rfl (Nat.le_of_ble_eq_true rfl) (fun hM hS => h) (fun r M' hq hM => ?_)
      obtain ⟨m58, n58, rfl, rfl, h⟩ := rV_out hq
      have c1 := h.1
      replace h := h.2
      refine wp_iincr dX8_follow_61 rfl (by decide) c1 (wp_L (L' := [some (vR 23), some (vR b), some (vR 14), some (vI l3), some (vI (l4 + 1))]) rfl ?_)
      refine wp_goto (tgt := 29) dX8_follow_64 (by decide) ?_
      exact h
    · replace h := h.2 h45
      refine wp_aload_n dX8_follow_48 rfl rfl (by first | exact Or.inl (by decide) | exact Or.inl (by omega) | exact Or.inr (by decide) | exact Or.inr (by omega)) ?_
      refine wp_aload_n dX8_follow_49 rfl rfl (by first | exact Or.inl (by decide) | exact Or.inl (by omega) | exact Or.inr (by decide) | exact Or.inr (by omega)) ?_
      refine wp_cVq (n := 1) (mt' := mX8_spread) (as := [vR b]) (rest := []) _ dX8_follow_50 lX8_50 kX8_spread vX8_spread (by decide) (by decide +kernel) rfl (Nat.le_of_ble_eq_true rfl) (by decide) rfl rfl rfl (Nat.le_of_ble_eq_true rfl) (fun hM hS => h) (fun r M' hq hM => ?_)
      obtain ⟨m50, n50, rfl, rfl, h⟩ := rV_out hq
      refine wp_aload_n dX8_follow_53 rfl rfl (by first | exact Or.inl (by decide) | exact Or.inl (by omega) | exact Or.inr (by decide) | exact Or.inr (by omega)) ?_
      refine wp_aload_n dX8_follow_54 rfl rfl (by first | exact Or.inl (by decide) | exact Or.inl (by omega) | exact Or.inr (by decide) | exact Or.inr (by omega)) ?_
      refine wp_aload_n dX8_follow_55 rfl rfl (by first | exact Or.inl (by decide) | exact Or.inl (by omega) | exact Or.inr (by decide) | exact Or.inr (by omega)) ?_
      refine wp_iload dX8_follow_56 rfl ?_
      refine wp_cVq (n := 3) (mt' := mX8_takeStep) (as := [vR b, vR 14, vI l4]) (rest := []) _ dX8_follow_58 lX8_54 kX8_takeStep vX8_takeStep (by decide) (by decide +kernel) rfl (Nat.le_of_ble_eq_true rfl) (by decide) rfl rfl rfl (Nat.le_of_ble_eq_true rfl) (fun hM hS => h) (fun r M' hq hM => ?_)
      obtain ⟨m58, n58, rfl, rfl, h⟩ := rV_out hq
      have c1 := h.1
      replace h := h.2
      refine wp_iincr dX8_follow_61 rfl (by decide) c1 (wp_L (L' := [some (vR 23), some (vR b), some (vR 14), some (vI l3), some (vI (l4 + 1))]) rfl ?_)
      refine wp_goto (tgt := 29) dX8_follow_64 (by decide) ?_
      exact h
theorem v_X8_follow_75 {cs : Cs} {Q : Option AV → Mm → Prop} {MI ML : Nat → Nat → Int} {b d e nw th : Nat} {l3 l4 : Int} (hbd : b = 38 ∨ b = 81) (hnw : nw = 25 ∨ nw = 26)
    (h : ((l4 < (MI b 16) → (0 ≤ l4 ∧ l4 < 600) ∧ (((MI nw l4.toNat) = 0 → (-2147483648 ≤ l4 + 1 ∧ l4 + 1 < 2147483648) ∧ wp cs mX8_follow KD Q 75 [some (vR 23), some (vR b), some (vR 14), some (vI l3), some (vI (l4 + 1))] [] (KD, MI, ML, (GR d e nw th 1))) ∧ ((MI nw l4.toNat) ≠ 0 → (0 ≤ (MI 23 1) ∧ (MI 23 1) < 600) ∧ ∀ m104, m104 = up2 MI 24 (MI 23 1).toNat l4 → (-2147483648 ≤ (m104 23 1) + 1 ∧ (m104 23 1) + 1 < 2147483648) ∧ ∀ m112, m112 = up2 m104 23 1 ((m104 23 1) + 1) → (-2147483648 ≤ l4 + 1 ∧ l4 + 1 < 2147483648) ∧ wp cs mX8_follow KD Q 75 [some (vR 23), some (vR b), some (vR 14), some (vI l3), some (vI (l4 + 1))] [] (KD, m112, ML, (GR d e nw th 1))))) ∧ ((MI b 16) ≤ l4 → Q none (MI, ML, (GR d e nw th 1))))) :
    wp cs mX8_follow KD Q 75 [some (vR 23), some (vR b), some (vR 14), some (vI l3), some (vI l4)] [] (KD, MI, ML, (GR d e nw th 1)) := by
  refine wp_iload dX8_follow_75 rfl ?_
  refine wp_aload_n dX8_follow_77 rfl rfl (by first | exact Or.inl (by decide) | exact Or.inl (by omega) | exact Or.inr (by decide) | exact Or.inr (by omega)) ?_
  refine wp_getI dX8_follow_78 fX8_58 (show KD[b]? = some (7, 19) from kdb_0 hbd) (by omega) ?_
  refine wp_icmp_ge (tgt := 121) dX8_follow_81 (by decide) (fun h81 => ?_) (fun h81 => ?_)
  · replace h := h.2 h81
    exact wp_vret dX8_follow_121 rfl (fun _ => h)
  · replace h := h.1 h81
    refine wp_aload_n dX8_follow_84 rfl rfl (by first | exact Or.inl (by decide) | exact Or.inl (by omega) | exact Or.inr (by decide) | exact Or.inr (by omega)) ?_
    refine wp_getR dX8_follow_85 fX8_19 rfl (by decide) ?_
    refine wp_topR (x' := nw) rfl ?_
    refine wp_iload dX8_follow_88 rfl ?_
    have c0 := h.1
    replace h := h.2
    refine wp_bald dX8_follow_90 (kd_nt hnw) (by omega) c0 ?_
    refine wp_if_eq (tgt := 115) dX8_follow_91 (by decide) (fun h91 => ?_) (fun h91 => ?_)
    · replace h := h.1 h91
      have c1 := h.1
      replace h := h.2
      refine wp_iincr dX8_follow_115 rfl (by decide) c1 (wp_L (L' := [some (vR 23), some (vR b), some (vR 14), some (vI l3), some (vI (l4 + 1))]) rfl ?_)
      refine wp_goto (tgt := 75) dX8_follow_118 (by decide) ?_
      exact h
    · replace h := h.2 h91
      refine wp_aload_n dX8_follow_94 rfl rfl (by first | exact Or.inl (by decide) | exact Or.inl (by omega) | exact Or.inr (by decide) | exact Or.inr (by omega)) ?_
      refine wp_getR dX8_follow_95 fX8_9 rfl (by decide) ?_
      refine wp_topR (x' := 24) rfl ?_
      refine wp_aload_n dX8_follow_98 rfl rfl (by first | exact Or.inl (by decide) | exact Or.inl (by omega) | exact Or.inr (by decide) | exact Or.inr (by omega)) ?_
      refine wp_getI dX8_follow_99 fX8_15 rfl (by decide) ?_
      refine wp_iload dX8_follow_102 rfl ?_
      have c1 := h.1
      replace h := h.2
      refine wp_iast dX8_follow_104 rfl (by decide) c1 ?_
      refine wp_gI (fun m104 e104 => ?_)
      replace h := h m104 e104
      refine wp_aload_n dX8_follow_105 rfl rfl (by first | exact Or.inl (by decide) | exact Or.inl (by omega) | exact Or.inr (by decide) | exact Or.inr (by omega)) ?_
      refine wp_pc (pc' := 106) rfl ?_
      refine wp_dup dX8_follow_106 (fun x e => by cases e) ?_
      refine wp_getI dX8_follow_107 fX8_15 rfl (by decide) ?_
      refine wp_iconst dX8_follow_110 (by decide) ?_
      have c2 := h.1
      replace h := h.2
      refine wp_iaddr dX8_follow_111 c2 ?_
      refine wp_putI dX8_follow_112 pX8_15 rfl (by decide) ?_
      refine wp_gI (fun m112 e112 => ?_)
      replace h := h m112 e112
      have c3 := h.1
      replace h := h.2
      refine wp_iincr dX8_follow_115 rfl (by decide) c3 (wp_L (L' := [some (vR 23), some (vR b), some (vR 14), some (vI l3), some (vI (l4 + 1))]) rfl ?_)
      refine wp_goto (tgt := 75) dX8_follow_118 (by decide) ?_
      exact h
theorem dX11_select_0 : decode cX11_select 0 = .ok (.aload_n 0, 1) := by decide +kernel
theorem dX11_select_1 : decode cX11_select 1 = .ok (.getfield 67, 3) := by decide +kernel
theorem dX11_select_4 : decode cX11_select 4 = .ok (.iload_n 1, 1) := by decide +kernel
theorem dX11_select_5 : decode cX11_select 5 = .ok (.invokevirtual 120, 3) := by decide +kernel
theorem dX11_select_8 : decode cX11_select 8 = .ok (.ifCond .eq 15, 3) := by decide +kernel
theorem dX11_select_11 : decode cX11_select 11 = .ok (.iload_n 2, 1) := by decide +kernel
theorem dX11_select_12 : decode cX11_select 12 = .ok (.ifCond .lt 11, 3) := by decide +kernel
theorem dX11_select_15 : decode cX11_select 15 = .ok (.iload_n 2, 1) := by decide +kernel
theorem dX11_select_16 : decode cX11_select 16 = .ok (.aload_n 0, 1) := by decide +kernel
theorem dX11_select_17 : decode cX11_select 17 = .ok (.getfield 74, 3) := by decide +kernel
theorem dX11_select_20 : decode cX11_select 20 = .ok (.if_icmp .le 6, 3) := by decide +kernel
theorem dX11_select_23 : decode cX11_select 23 = .ok (.bipush (-9), 2) := by decide +kernel
theorem dX11_select_25 : decode cX11_select 25 = .ok (.ireturn, 1) := by decide +kernel
theorem dX11_select_26 : decode cX11_select 26 = .ok (.aload_n 0, 1) := by decide +kernel
theorem dX11_select_27 : decode cX11_select 27 = .ok (.iconst 0, 1) := by decide +kernel
theorem dX11_select_28 : decode cX11_select 28 = .ok (.putfield 74, 3) := by decide +kernel
theorem dX11_select_31 : decode cX11_select 31 = .ok (.aload_n 0, 1) := by decide +kernel
theorem dX11_select_32 : decode cX11_select 32 = .ok (.getfield 16, 3) := by decide +kernel
theorem dX11_select_35 : decode cX11_select 35 = .ok (.aload_n 0, 1) := by decide +kernel
theorem dX11_select_36 : decode cX11_select 36 = .ok (.getfield 9, 3) := by decide +kernel
theorem dX11_select_39 : decode cX11_select 39 = .ok (.iload_n 2, 1) := by decide +kernel
theorem dX11_select_40 : decode cX11_select 40 = .ok (.invokevirtual 85, 3) := by decide +kernel
theorem dX11_select_43 : decode cX11_select 43 = .ok (.aload_n 0, 1) := by decide +kernel
theorem dX11_select_44 : decode cX11_select 44 = .ok (.getfield 46, 3) := by decide +kernel
theorem dX11_select_47 : decode cX11_select 47 = .ok (.aload_n 0, 1) := by decide +kernel
theorem dX11_select_48 : decode cX11_select 48 = .ok (.getfield 67, 3) := by decide +kernel
theorem dX11_select_51 : decode cX11_select 51 = .ok (.getfield 128, 3) := by decide +kernel
theorem dX11_select_54 : decode cX11_select 54 = .ok (.invokevirtual 155, 3) := by decide +kernel
theorem dX11_select_57 : decode cX11_select 57 = .ok (.istore_n 3, 1) := by decide +kernel
theorem dX11_select_58 : decode cX11_select 58 = .ok (.aload_n 0, 1) := by decide +kernel
theorem dX11_select_59 : decode cX11_select 59 = .ok (.aload_n 0, 1) := by decide +kernel
theorem dX11_select_60 : decode cX11_select 60 = .ok (.getfield 16, 3) := by decide +kernel
theorem dX11_select_63 : decode cX11_select 63 = .ok (.getfield 104, 3) := by decide +kernel
theorem dX11_select_66 : decode cX11_select 66 = .ok (.putfield 78, 3) := by decide +kernel
theorem dX11_select_69 : decode cX11_select 69 = .ok (.iload_n 3, 1) := by decide +kernel
theorem dX11_select_70 : decode cX11_select 70 = .ok (.ifCond .ne 11, 3) := by decide +kernel
theorem dX11_select_73 : decode cX11_select 73 = .ok (.aload_n 0, 1) := by decide +kernel
theorem dX11_select_74 : decode cX11_select 74 = .ok (.getfield 16, 3) := by decide +kernel
theorem dX11_select_77 : decode cX11_select 77 = .ok (.getfield 107, 3) := by decide +kernel
theorem dX11_select_80 : decode cX11_select 80 = .ok (.ireturn, 1) := by decide +kernel
theorem dX11_select_81 : decode cX11_select 81 = .ok (.aload_n 0, 1) := by decide +kernel
theorem dX11_select_82 : decode cX11_select 82 = .ok (.getfield 53, 3) := by decide +kernel
theorem dX11_select_85 : decode cX11_select 85 = .ok (.aload_n 0, 1) := by decide +kernel
theorem dX11_select_86 : decode cX11_select 86 = .ok (.getfield 67, 3) := by decide +kernel
theorem dX11_select_89 : decode cX11_select 89 = .ok (.aload_n 0, 1) := by decide +kernel
theorem dX11_select_90 : decode cX11_select 90 = .ok (.getfield 46, 3) := by decide +kernel
theorem dX11_select_93 : decode cX11_select 93 = .ok (.iload_n 1, 1) := by decide +kernel
theorem dX11_select_94 : decode cX11_select 94 = .ok (.invokevirtual 159, 3) := by decide +kernel
theorem dX11_select_97 : decode cX11_select 97 = .ok (.aload_n 0, 1) := by decide +kernel
theorem dX11_select_98 : decode cX11_select 98 = .ok (.getfield 53, 3) := by decide +kernel
theorem dX11_select_101 : decode cX11_select 101 = .ok (.getfield 163, 3) := by decide +kernel
theorem dX11_select_104 : decode cX11_select 104 = .ok (.ireturn, 1) := by decide +kernel
theorem v_X11_select_0 {cs : Cs} {Q : Option AV → Mm → Prop} {MI ML : Nat → Nat → Int} {b e nw th x : Nat} {l1 l2 : Int} (hbd : b = 38 ∨ b = 81) (hnw : nw = 25 ∨ nw = 26)
    (h : wp cs mX3_has KD (rI (GR b e nw th x) fun x5 m5 n5 => ((x5 = 0 → Q (some (vI (-9))) (m5, n5, (GR b e nw th x))) ∧ (x5 ≠ 0 → ((l2 < 0 → Q (some (vI (-9))) (m5, n5, (GR b e nw th x))) ∧ (0 ≤ l2 → (((m5 0 10) < l2 → Q (some (vI (-9))) (m5, n5, (GR b e nw th x))) ∧ (l2 ≤ (m5 0 10) → ∀ m28, m28 = up2 m5 0 10 0 → wp cs mX1_begin KD (rV (GR b e nw th 1) fun m40 n40 => wp cs mX6_parse KD (rI (GR b e nw th 1) fun x54 m54 n54 => ∀ m66, m66 = up2 m54 0 11 (m54 2 6) → ((x54 = 0 → Q (some (vI (m66 2 5))) (m66, n54, (GR b e nw th 1))) ∧ (x54 ≠ 0 → wp cs mX8_follow KD (rW (fun nw th => GR b e nw th 1) fun nw th m94 n94 => Q (some (vI (m94 23 1))) (m94, n94, (GR b e nw th 1))) 0 (padL [vR 23, vR b, vR 14, vI l1] 5) [] (KD, m66, n54, (GR b e nw th 1))))) 0 (padL [vR 14, vR (b + 1)] 4) [] (KD, m40, n40, (GR b e nw th 1))) 0 (padL [vR 2, vR 1, vI l2] 3) [] (KD, m28, n5, (GR b e nw th x))))))))) 0 (padL [vR b, vI l1] 2) [] (KD, MI, ML, (GR b e nw th x))) :
    wp cs mX11_select KD Q 0 (padL [vR 0, vI l1, vI l2] 4) [] (KD, MI, ML, (GR b e nw th x)) := by
  refine wp_L (L' := [some (vR 0), some (vI l1), some (vI l2), none]) rfl ?_
  refine wp_aload_n dX11_select_0 rfl rfl (by first | exact Or.inl (by decide) | exact Or.inl (by omega) | exact Or.inr (by decide) | exact Or.inr (by omega)) ?_
  refine wp_getR dX11_select_1 fX11_67 rfl (by decide) ?_
  refine wp_topR (x' := b) rfl ?_
  refine wp_iload_n dX11_select_4 rfl rfl ?_
  refine wp_cVq (n := 1) (mt' := mX3_has) (as := [vI l1]) (rest := []) _ dX11_select_5 lX11_120 kX3_has vX3_has (by decide) (by decide +kernel) rfl (Nat.le_of_ble_eq_true rfl) (by omega) (show KD[b]? = some (7, 19) from kdb_0 hbd) rfl rfl (Nat.le_of_ble_eq_true rfl) (fun hM hS => h) (fun r M' hq hM => ?_)
  obtain ⟨x5, m5, n5, rfl, rfl, h⟩ := rI_out hq
  refine wp_if_eq (tgt := 23) dX11_select_8 (by decide) (fun h8 => ?_) (fun h8 => ?_)
  · replace h := h.1 h8
    refine wp_bipush dX11_select_23 (by decide +kernel) (by decide) ?_
    exact wp_iret dX11_select_25 rfl (fun _ => h)
  · replace h := h.2 h8
    refine wp_iload_n dX11_select_11 rfl rfl ?_
    refine wp_if_lt (tgt := 23) dX11_select_12 (by decide) (fun h12 => ?_) (fun h12 => ?_)
    · replace h := h.1 h12
      refine wp_bipush dX11_select_23 (by decide +kernel) (by decide) ?_
      exact wp_iret dX11_select_25 rfl (fun _ => h)
    · replace h := h.2 h12
      refine wp_iload_n dX11_select_15 rfl rfl ?_
      refine wp_aload_n dX11_select_16 rfl rfl (by first | exact Or.inl (by decide) | exact Or.inl (by omega) | exact Or.inr (by decide) | exact Or.inr (by omega)) ?_
      refine wp_getI dX11_select_17 fX11_74 rfl (by decide) ?_
      refine wp_icmp_le (tgt := 26) dX11_select_20 (by decide) (fun h20 => ?_) (fun h20 => ?_)
      · replace h := h.2 h20
        refine wp_aload_n dX11_select_26 rfl rfl (by first | exact Or.inl (by decide) | exact Or.inl (by omega) | exact Or.inr (by decide) | exact Or.inr (by omega)) ?_
        refine wp_iconst dX11_select_27 (by decide) ?_
        refine wp_putI dX11_select_28 pX11_74 rfl (by decide) ?_
        refine wp_gI (fun m28 e28 => ?_)
        replace h := h m28 e28
        refine wp_aload_n dX11_select_31 rfl rfl (by first | exact Or.inl (by decide) | exact Or.inl (by omega) | exact Or.inr (by decide) | exact Or.inr (by omega)) ?_
        refine wp_getR dX11_select_32 fX11_16 rfl (by decide) ?_
        refine wp_topR (x' := 2) rfl ?_
        refine wp_aload_n dX11_select_35 rfl rfl (by first | exact Or.inl (by decide) | exact Or.inl (by omega) | exact Or.inr (by decide) | exact Or.inr (by omega)) ?_
        refine wp_getR dX11_select_36 fX11_9 rfl (by decide) ?_
        refine wp_topR (x' := 1) rfl ?_
        refine wp_pc (pc' := 39) rfl ?_
        refine wp_iload_n dX11_select_39 rfl rfl ?_
        refine wp_cVq (n := 2) (mt' := mX1_begin) (as := [vR 1, vI l2]) (rest := []) _ dX11_select_40 lX11_85 kX1_begin vX1_begin (by decide) (by decide +kernel) rfl (Nat.le_of_ble_eq_true rfl) (by decide) rfl rfl rfl (Nat.le_of_ble_eq_true rfl) (fun hM hS => h) (fun r M' hq hM => ?_)
        obtain ⟨m40, n40, rfl, rfl, h⟩ := rV_out hq
        refine wp_aload_n dX11_select_43 rfl rfl (by first | exact Or.inl (by decide) | exact Or.inl (by omega) | exact Or.inr (by decide) | exact Or.inr (by omega)) ?_
        refine wp_getR dX11_select_44 fX11_46 rfl (by decide) ?_
        refine wp_topR (x' := 14) rfl ?_
        refine wp_aload_n dX11_select_47 rfl rfl (by first | exact Or.inl (by decide) | exact Or.inl (by omega) | exact Or.inr (by decide) | exact Or.inr (by omega)) ?_
        refine wp_getR dX11_select_48 fX11_67 rfl (by decide) ?_
        refine wp_topR (x' := b) rfl ?_
        refine wp_getR dX11_select_51 fX11_128 (show KD[b]? = some (7, 19) from kdb_0 hbd) (by omega) ?_
        refine wp_topR (x' := (b + 1)) (grb_0_0 hbd) ?_
        refine wp_cVq (n := 1) (mt' := mX6_parse) (as := [vR (b + 1)]) (rest := []) _ dX11_select_54 lX11_155 kX6_parse vX6_parse (by decide) (by decide +kernel) rfl (Nat.le_of_ble_eq_true rfl) (by decide) rfl rfl rfl (Nat.le_of_ble_eq_true rfl) (fun hM hS => h) (fun r M' hq hM => ?_)
        obtain ⟨x54, m54, n54, rfl, rfl, h⟩ := rI_out hq
        refine wp_istore_n dX11_select_57 rfl (by decide) (wp_L (L' := [some (vR 0), some (vI l1), some (vI l2), some (vI x54)]) rfl ?_)
        refine wp_aload_n dX11_select_58 rfl rfl (by first | exact Or.inl (by decide) | exact Or.inl (by omega) | exact Or.inr (by decide) | exact Or.inr (by omega)) ?_
        refine wp_aload_n dX11_select_59 rfl rfl (by first | exact Or.inl (by decide) | exact Or.inl (by omega) | exact Or.inr (by decide) | exact Or.inr (by omega)) ?_
        refine wp_getR dX11_select_60 fX11_16 rfl (by decide) ?_
        refine wp_topR (x' := 2) rfl ?_
        refine wp_getI dX11_select_63 fX11_104 rfl (by decide) ?_
        refine wp_putI dX11_select_66 pX11_78 rfl (by decide) ?_
        refine wp_gI (fun m66 e66 => ?_)
        replace h := h m66 e66
        refine wp_iload_n dX11_select_69 rfl rfl ?_
        refine wp_pc (pc' := 70) rfl ?_
        refine wp_if_ne (tgt := 81) dX11_select_70 (by decide) (fun h70 => ?_) (fun h70 => ?_)
        · replace h := h.2 h70
          refine wp_aload_n dX11_select_81 rfl rfl (by first | exact Or.inl (by decide) | exact Or.inl (by omega) | exact Or.inr (by decide) | exact Or.inr (by omega)) ?_
          refine wp_getR dX11_select_82 fX11_53 rfl (by decide) ?_
          refine wp_topR (x' := 23) rfl ?_
          refine wp_aload_n dX11_select_85 rfl rfl (by first | exact Or.inl (by decide) | exact Or.inl (by omega) | exact Or.inr (by decide) | exact Or.inr (by omega)) ?_
          refine wp_getR dX11_select_86 fX11_67 rfl (by decide) ?_
          refine wp_topR (x' := b) rfl ?_
          refine wp_aload_n dX11_select_89 rfl rfl (by first | exact Or.inl (by decide) | exact Or.inl (by omega) | exact Or.inr (by decide) | exact Or.inr (by omega)) ?_
          refine wp_getR dX11_select_90 fX11_46 rfl (by decide) ?_
          refine wp_topR (x' := 14) rfl ?_
          refine wp_iload_n dX11_select_93 rfl rfl ?_
          refine wp_pc (pc' := 94) rfl ?_
          refine wp_cVq (n := 3) (mt' := mX8_follow) (as := [vR b, vR 14, vI l1]) (rest := []) _ dX11_select_94 lX11_159 kX8_follow vX8_follow (by decide) (by decide +kernel) rfl (Nat.le_of_ble_eq_true rfl) (by decide) rfl rfl rfl (Nat.le_of_ble_eq_true rfl) (fun hM hS => h) (fun r M' hq hM => ?_)
          obtain ⟨nw, th, hnw, m94, n94, rfl, rfl, h⟩ := rW_out hq
          refine wp_aload_n dX11_select_97 rfl rfl (by first | exact Or.inl (by decide) | exact Or.inl (by omega) | exact Or.inr (by decide) | exact Or.inr (by omega)) ?_
          refine wp_getR dX11_select_98 fX11_53 rfl (by decide) ?_
          refine wp_topR (x' := 23) rfl ?_
          refine wp_getI dX11_select_101 fX11_163 rfl (by decide) ?_
          exact wp_iret dX11_select_104 rfl (fun _ => h)
        · replace h := h.1 h70
          refine wp_aload_n dX11_select_73 rfl rfl (by first | exact Or.inl (by decide) | exact Or.inl (by omega) | exact Or.inr (by decide) | exact Or.inr (by omega)) ?_
          refine wp_getR dX11_select_74 fX11_16 rfl (by decide) ?_
          refine wp_topR (x' := 2) rfl ?_
          refine wp_getI dX11_select_77 fX11_107 rfl (by decide) ?_
          exact wp_iret dX11_select_80 rfl (fun _ => h)
      · replace h := h.1 h20
        refine wp_bipush dX11_select_23 (by decide +kernel) (by decide) ?_
        exact wp_iret dX11_select_25 rfl (fun _ => h)
theorem dX12_quoted_0 : decode cX12_quoted 0 = .ok (.aload_n 0, 1) := by decide +kernel
theorem dX12_quoted_1 : decode cX12_quoted 1 = .ok (.aload_n 0, 1) := by decide +kernel
theorem dX12_quoted_2 : decode cX12_quoted 2 = .ok (.getfield 276, 3) := by decide +kernel
theorem dX12_quoted_5 : decode cX12_quoted 5 = .ok (.invokevirtual 279, 3) := by decide +kernel
theorem dX12_quoted_8 : decode cX12_quoted 8 = .ok (.istore_n 2, 1) := by decide +kernel
theorem dX12_quoted_9 : decode cX12_quoted 9 = .ok (.aload_n 0, 1) := by decide +kernel
theorem dX12_quoted_10 : decode cX12_quoted 10 = .ok (.invokevirtual 289, 3) := by decide +kernel
theorem dX12_quoted_13 : decode cX12_quoted 13 = .ok (.ifCond .eq 24, 3) := by decide +kernel
theorem dX12_quoted_16 : decode cX12_quoted 16 = .ok (.iload_n 2, 1) := by decide +kernel
theorem dX12_quoted_17 : decode cX12_quoted 17 = .ok (.bipush 34, 2) := by decide +kernel
theorem dX12_quoted_19 : decode cX12_quoted 19 = .ok (.if_icmp .eq 18, 3) := by decide +kernel
theorem dX12_quoted_22 : decode cX12_quoted 22 = .ok (.iload_n 2, 1) := by decide +kernel
theorem dX12_quoted_23 : decode cX12_quoted 23 = .ok (.bipush 39, 2) := by decide +kernel
theorem dX12_quoted_25 : decode cX12_quoted 25 = .ok (.if_icmp .eq 12, 3) := by decide +kernel
theorem dX12_quoted_28 : decode cX12_quoted 28 = .ok (.aload_n 0, 1) := by decide +kernel
theorem dX12_quoted_29 : decode cX12_quoted 29 = .ok (.iconst (-1), 1) := by decide +kernel
theorem dX12_quoted_30 : decode cX12_quoted 30 = .ok (.aload_n 0, 1) := by decide +kernel
theorem dX12_quoted_31 : decode cX12_quoted 31 = .ok (.getfield 276, 3) := by decide +kernel
theorem dX12_quoted_34 : decode cX12_quoted 34 = .ok (.invokevirtual 293, 3) := by decide +kernel
theorem dX12_quoted_37 : decode cX12_quoted 37 = .ok (.aload_n 0, 1) := by decide +kernel
theorem dX12_quoted_38 : decode cX12_quoted 38 = .ok (.dup, 1) := by decide +kernel
theorem dX12_quoted_39 : decode cX12_quoted 39 = .ok (.getfield 276, 3) := by decide +kernel
theorem dX12_quoted_42 : decode cX12_quoted 42 = .ok (.iconst 1, 1) := by decide +kernel
theorem dX12_quoted_43 : decode cX12_quoted 43 = .ok (.iadd, 1) := by decide +kernel
theorem dX12_quoted_44 : decode cX12_quoted 44 = .ok (.putfield 276, 3) := by decide +kernel
theorem dX12_quoted_47 : decode cX12_quoted 47 = .ok (.aload_n 0, 1) := by decide +kernel
theorem dX12_quoted_48 : decode cX12_quoted 48 = .ok (.getfield 209, 3) := by decide +kernel
theorem dX12_quoted_51 : decode cX12_quoted 51 = .ok (.iload_n 1, 1) := by decide +kernel
theorem dX12_quoted_52 : decode cX12_quoted 52 = .ok (.aload_n 0, 1) := by decide +kernel
theorem dX12_quoted_53 : decode cX12_quoted 53 = .ok (.getfield 276, 3) := by decide +kernel
theorem dX12_quoted_56 : decode cX12_quoted 56 = .ok (.iastore, 1) := by decide +kernel
theorem dX12_quoted_57 : decode cX12_quoted 57 = .ok (.aload_n 0, 1) := by decide +kernel
theorem dX12_quoted_58 : decode cX12_quoted 58 = .ok (.invokevirtual 289, 3) := by decide +kernel
theorem dX12_quoted_61 : decode cX12_quoted 61 = .ok (.ifCond .eq 51, 3) := by decide +kernel
theorem dX12_quoted_64 : decode cX12_quoted 64 = .ok (.aload_n 0, 1) := by decide +kernel
theorem dX12_quoted_65 : decode cX12_quoted 65 = .ok (.aload_n 0, 1) := by decide +kernel
theorem dX12_quoted_66 : decode cX12_quoted 66 = .ok (.getfield 276, 3) := by decide +kernel
theorem dX12_quoted_69 : decode cX12_quoted 69 = .ok (.invokevirtual 279, 3) := by decide +kernel
theorem dX12_quoted_72 : decode cX12_quoted 72 = .ok (.iload_n 2, 1) := by decide +kernel
theorem dX12_quoted_73 : decode cX12_quoted 73 = .ok (.if_icmp .eq 39, 3) := by decide +kernel
theorem dX12_quoted_76 : decode cX12_quoted 76 = .ok (.aload_n 0, 1) := by decide +kernel
theorem dX12_quoted_77 : decode cX12_quoted 77 = .ok (.aload_n 0, 1) := by decide +kernel
theorem dX12_quoted_78 : decode cX12_quoted 78 = .ok (.getfield 276, 3) := by decide +kernel
theorem dX12_quoted_81 : decode cX12_quoted 81 = .ok (.invokevirtual 279, 3) := by decide +kernel
theorem dX12_quoted_84 : decode cX12_quoted 84 = .ok (.invokestatic 313, 3) := by decide +kernel
theorem dX12_quoted_87 : decode cX12_quoted 87 = .ok (.ifCond .ne 12, 3) := by decide +kernel
theorem dX12_quoted_90 : decode cX12_quoted 90 = .ok (.aload_n 0, 1) := by decide +kernel
theorem dX12_quoted_91 : decode cX12_quoted 91 = .ok (.iconst (-1), 1) := by decide +kernel
theorem dX12_quoted_92 : decode cX12_quoted 92 = .ok (.aload_n 0, 1) := by decide +kernel
theorem dX12_quoted_93 : decode cX12_quoted 93 = .ok (.getfield 276, 3) := by decide +kernel
theorem dX12_quoted_96 : decode cX12_quoted 96 = .ok (.invokevirtual 293, 3) := by decide +kernel
theorem dX12_quoted_99 : decode cX12_quoted 99 = .ok (.aload_n 0, 1) := by decide +kernel
theorem dX12_quoted_100 : decode cX12_quoted 100 = .ok (.dup, 1) := by decide +kernel
theorem dX12_quoted_101 : decode cX12_quoted 101 = .ok (.getfield 276, 3) := by decide +kernel
theorem dX12_quoted_104 : decode cX12_quoted 104 = .ok (.iconst 1, 1) := by decide +kernel
theorem dX12_quoted_105 : decode cX12_quoted 105 = .ok (.iadd, 1) := by decide +kernel
theorem dX12_quoted_106 : decode cX12_quoted 106 = .ok (.putfield 276, 3) := by decide +kernel
theorem dX12_quoted_109 : decode cX12_quoted 109 = .ok (.goto (-52), 3) := by decide +kernel
theorem dX12_quoted_112 : decode cX12_quoted 112 = .ok (.aload_n 0, 1) := by decide +kernel
theorem dX12_quoted_113 : decode cX12_quoted 113 = .ok (.getfield 212, 3) := by decide +kernel
theorem dX12_quoted_116 : decode cX12_quoted 116 = .ok (.iload_n 1, 1) := by decide +kernel
theorem dX12_quoted_117 : decode cX12_quoted 117 = .ok (.aload_n 0, 1) := by decide +kernel
theorem dX12_quoted_118 : decode cX12_quoted 118 = .ok (.getfield 276, 3) := by decide +kernel
theorem dX12_quoted_121 : decode cX12_quoted 121 = .ok (.aload_n 0, 1) := by decide +kernel
theorem dX12_quoted_122 : decode cX12_quoted 122 = .ok (.getfield 209, 3) := by decide +kernel
theorem dX12_quoted_125 : decode cX12_quoted 125 = .ok (.iload_n 1, 1) := by decide +kernel
theorem dX12_quoted_126 : decode cX12_quoted 126 = .ok (.iaload, 1) := by decide +kernel
theorem dX12_quoted_127 : decode cX12_quoted 127 = .ok (.isub, 1) := by decide +kernel
theorem dX12_quoted_128 : decode cX12_quoted 128 = .ok (.iastore, 1) := by decide +kernel
theorem dX12_quoted_129 : decode cX12_quoted 129 = .ok (.aload_n 0, 1) := by decide +kernel
theorem dX12_quoted_130 : decode cX12_quoted 130 = .ok (.dup, 1) := by decide +kernel
theorem dX12_quoted_131 : decode cX12_quoted 131 = .ok (.getfield 276, 3) := by decide +kernel
theorem dX12_quoted_134 : decode cX12_quoted 134 = .ok (.iconst 1, 1) := by decide +kernel
theorem dX12_quoted_135 : decode cX12_quoted 135 = .ok (.iadd, 1) := by decide +kernel
theorem dX12_quoted_136 : decode cX12_quoted 136 = .ok (.putfield 276, 3) := by decide +kernel
theorem dX12_quoted_139 : decode cX12_quoted 139 = .ok (.return_, 1) := by decide +kernel
theorem v_X12_quoted_0 {cs : Cs} {Q : Option AV → Mm → Prop} {MI ML : Nat → Nat → Int} {d e nw th x : Nat} {l1 : Int}
    (h : wp cs mX12_octet KD (rI (GR d e nw th x) fun x5 m5 n5 => wp cs mX12_isGood KD (rI (GR d e nw th x) fun x10 m10 n10 => ((x10 = 0 → wp cs mX12_quoted KD Q 37 [some (vR 124), some (vI l1), some (vI x5)] [] (KD, m10, n10, (GR d e nw th x))) ∧ (x10 ≠ 0 → ((x5 = 34 → wp cs mX12_quoted KD Q 37 [some (vR 124), some (vI l1), some (vI x5)] [] (KD, m10, n10, (GR d e nw th x))) ∧ (x5 ≠ 34 → ((x5 = 39 → wp cs mX12_quoted KD Q 37 [some (vR 124), some (vI l1), some (vI x5)] [] (KD, m10, n10, (GR d e nw th x))) ∧ (x5 ≠ 39 → wp cs mX12_fail KD (rV (GR d e nw th x) fun m34 n34 => wp cs mX12_quoted KD Q 37 [some (vR 124), some (vI l1), some (vI x5)] [] (KD, m34, n34, (GR d e nw th x))) 0 (padL [vR 124, vI (-1), vI (m10 124 4)] 3) [] (KD, m10, n10, (GR d e nw th x))))))))) 0 (padL [vR 124] 1) [] (KD, m5, n5, (GR d e nw th x))) 0 (padL [vR 124, vI (MI 124 4)] 2) [] (KD, MI, ML, (GR d e nw th x))) :
    wp cs mX12_quoted KD Q 0 (padL [vR 124, vI l1] 3) [] (KD, MI, ML, (GR d e nw th x)) := by
  refine wp_L (L' := [some (vR 124), some (vI l1), none]) rfl ?_
  refine wp_aload_n dX12_quoted_0 rfl rfl (by first | exact Or.inl (by decide) | exact Or.inl (by omega) | exact Or.inr (by decide) | exact Or.inr (by omega)) ?_
  refine wp_aload_n dX12_quoted_1 rfl rfl (by first | exact Or.inl (by decide) | exact Or.inl (by omega) | exact Or.inr (by decide) | exact Or.inr (by omega)) ?_
  refine wp_getI dX12_quoted_2 fX12_276 rfl (by decide) ?_
  refine wp_cVq (n := 1) (mt' := mX12_octet) (as := [vI (MI 124 4)]) (rest := []) _ dX12_quoted_5 lX12_279 kX12_octet vX12_octet (by decide) (by decide +kernel) rfl (Nat.le_of_ble_eq_true rfl) (by decide) rfl rfl rfl (Nat.le_of_ble_eq_true rfl) (fun hM hS => h) (fun r M' hq hM => ?_)
  obtain ⟨x5, m5, n5, rfl, rfl, h⟩ := rI_out hq
  refine wp_istore_n dX12_quoted_8 rfl (by decide) (wp_L (L' := [some (vR 124), some (vI l1), some (vI x5)]) rfl ?_)
  refine wp_aload_n dX12_quoted_9 rfl rfl (by first | exact Or.inl (by decide) | exact Or.inl (by omega) | exact Or.inr (by decide) | exact Or.inr (by omega)) ?_
  refine wp_cVq (n := 0) (mt' := mX12_isGood) (as := []) (rest := []) _ dX12_quoted_10 lX12_289 kX12_isGood vX12_isGood (by decide) (by decide +kernel) rfl (Nat.le_of_ble_eq_true rfl) (by decide) rfl rfl rfl (Nat.le_of_ble_eq_true rfl) (fun hM hS => h) (fun r M' hq hM => ?_)
  obtain ⟨x10, m10, n10, rfl, rfl, h⟩ := rI_out hq
  refine wp_if_eq (tgt := 37) dX12_quoted_13 (by decide) (fun h13 => ?_) (fun h13 => ?_)
  · replace h := h.1 h13
    exact h
  · replace h := h.2 h13
    refine wp_iload_n dX12_quoted_16 rfl rfl ?_
    refine wp_bipush dX12_quoted_17 (by decide +kernel) (by decide) ?_
    refine wp_icmp_eq (tgt := 37) dX12_quoted_19 (by decide) (fun h19 => ?_) (fun h19 => ?_)
    · replace h := h.1 h19
      exact h
    · replace h := h.2 h19
      refine wp_iload_n dX12_quoted_22 rfl rfl ?_
      refine wp_bipush dX12_quoted_23 (by decide +kernel) (by decide) ?_
      refine wp_icmp_eq (tgt := 37) dX12_quoted_25 (by decide) (fun h25 => ?_) (fun h25 => ?_)
      · replace h := h.1 h25
        exact h
      · replace h := h.2 h25
        refine wp_aload_n dX12_quoted_28 rfl rfl (by first | exact Or.inl (by decide) | exact Or.inl (by omega) | exact Or.inr (by decide) | exact Or.inr (by omega)) ?_
        refine wp_iconst dX12_quoted_29 (by decide) ?_
        refine wp_aload_n dX12_quoted_30 rfl rfl (by first | exact Or.inl (by decide) | exact Or.inl (by omega) | exact Or.inr (by decide) | exact Or.inr (by omega)) ?_
        refine wp_getI dX12_quoted_31 fX12_276 rfl (by decide) ?_
        refine wp_cVq (n := 2) (mt' := mX12_fail) (as := [vI (-1), vI (m10 124 4)]) (rest := []) _ dX12_quoted_34 lX12_293 kX12_fail vX12_fail (by decide) (by decide +kernel) rfl (Nat.le_of_ble_eq_true rfl) (by decide) rfl rfl rfl (Nat.le_of_ble_eq_true rfl) (fun hM hS => h) (fun r M' hq hM => ?_)
        obtain ⟨m34, n34, rfl, rfl, h⟩ := rV_out hq
        exact h
theorem v_X12_quoted_37 {cs : Cs} {Q : Option AV → Mm → Prop} {MI ML : Nat → Nat → Int} {d e nw th x : Nat} {l1 l2 : Int}
    (h : (-2147483648 ≤ (MI 124 4) + 1 ∧ (MI 124 4) + 1 < 2147483648) ∧ ∀ m44, m44 = up2 MI 124 4 ((MI 124 4) + 1) → (0 ≤ l1 ∧ l1 < 48) ∧ ∀ m56, m56 = up2 m44 189 l1.toNat (m44 124 4) → wp cs mX12_quoted KD Q 57 [some (vR 124), some (vI l1), some (vI l2)] [] (KD, m56, ML, (GR d e nw th x))) :
    wp cs mX12_quoted KD Q 37 [some (vR 124), some (vI l1), some (vI l2)] [] (KD, MI, ML, (GR d e nw th x)) := by
  refine wp_aload_n dX12_quoted_37 rfl rfl (by first | exact Or.inl (by decide) | exact Or.inl (by omega) | exact Or.inr (by decide) | exact Or.inr (by omega)) ?_
  refine wp_dup dX12_quoted_38 (fun x e => by cases e) ?_
  refine wp_getI dX12_quoted_39 fX12_276 rfl (by decide) ?_
  refine wp_iconst dX12_quoted_42 (by decide) ?_
  have c0 := h.1
  replace h := h.2
  refine wp_iaddr dX12_quoted_43 c0 ?_
  refine wp_putI dX12_quoted_44 pX12_276 rfl (by decide) ?_
  refine wp_gI (fun m44 e44 => ?_)
  replace h := h m44 e44
  refine wp_aload_n dX12_quoted_47 rfl rfl (by first | exact Or.inl (by decide) | exact Or.inl (by omega) | exact Or.inr (by decide) | exact Or.inr (by omega)) ?_
  refine wp_pc (pc' := 48) rfl ?_
  refine wp_getR dX12_quoted_48 fX12_209 rfl (by decide) ?_
  refine wp_topR (x' := 189) rfl ?_
  refine wp_iload_n dX12_quoted_51 rfl rfl ?_
  refine wp_aload_n dX12_quoted_52 rfl rfl (by first | exact Or.inl (by decide) | exact Or.inl (by omega) | exact Or.inr (by decide) | exact Or.inr (by omega)) ?_
  refine wp_getI dX12_quoted_53 fX12_276 rfl (by decide) ?_
  have c1 := h.1
  replace h := h.2
  refine wp_iast dX12_quoted_56 rfl (by decide) c1 ?_
  refine wp_gI (fun m56 e56 => ?_)
  replace h := h m56 e56
  exact h
theorem v_X12_quoted_57 {cs : Cs} {Q : Option AV → Mm → Prop} {MI ML : Nat → Nat → Int} {d e nw th x : Nat} {l1 l2 : Int}
    (h : wp cs mX12_isGood KD (rI (GR d e nw th x) fun x58 m58 n58 => ((x58 = 0 → wp cs mX12_quoted KD Q 112 [some (vR 124), some (vI l1), some (vI l2)] [] (KD, m58, n58, (GR d e nw th x))) ∧ (x58 ≠ 0 → wp cs mX12_octet KD (rI (GR d e nw th x) fun x69 m69 n69 => ((x69 = l2 → wp cs mX12_quoted KD Q 112 [some (vR 124), some (vI l1), some (vI l2)] [] (KD, m69, n69, (GR d e nw th x))) ∧ (x69 ≠ l2 → wp cs mX12_octet KD (rI (GR d e nw th x) fun x81 m81 n81 => wp cs mX12_isChar KD (rI (GR d e nw th x) fun x84 m84 n84 => ((x84 = 0 → wp cs mX12_fail KD (rV (GR d e nw th x) fun m96 n96 => (-2147483648 ≤ (m96 124 4) + 1 ∧ (m96 124 4) + 1 < 2147483648) ∧ ∀ m106, m106 = up2 m96 124 4 ((m96 124 4) + 1) → wp cs mX12_quoted KD Q 57 [some (vR 124), some (vI l1), some (vI l2)] [] (KD, m106, n96, (GR d e nw th x))) 0 (padL [vR 124, vI (-1), vI (m84 124 4)] 3) [] (KD, m84, n84, (GR d e nw th x))) ∧ (x84 ≠ 0 → (-2147483648 ≤ (m84 124 4) + 1 ∧ (m84 124 4) + 1 < 2147483648) ∧ ∀ m106, m106 = up2 m84 124 4 ((m84 124 4) + 1) → wp cs mX12_quoted KD Q 57 [some (vR 124), some (vI l1), some (vI l2)] [] (KD, m106, n84, (GR d e nw th x))))) 0 (padL [vI x81] 1) [] (KD, m81, n81, (GR d e nw th x))) 0 (padL [vR 124, vI (m69 124 4)] 2) [] (KD, m69, n69, (GR d e nw th x))))) 0 (padL [vR 124, vI (m58 124 4)] 2) [] (KD, m58, n58, (GR d e nw th x))))) 0 (padL [vR 124] 1) [] (KD, MI, ML, (GR d e nw th x))) :
    wp cs mX12_quoted KD Q 57 [some (vR 124), some (vI l1), some (vI l2)] [] (KD, MI, ML, (GR d e nw th x)) := by
  refine wp_aload_n dX12_quoted_57 rfl rfl (by first | exact Or.inl (by decide) | exact Or.inl (by omega) | exact Or.inr (by decide) | exact Or.inr (by omega)) ?_
  refine wp_cVq (n := 0) (mt' := mX12_isGood) (as := []) (rest := []) _ dX12_quoted_58 lX12_289 kX12_isGood vX12_isGood (by decide) (by decide +kernel) rfl (Nat.le_of_ble_eq_true rfl) (by decide) rfl rfl rfl (Nat.le_of_ble_eq_true rfl) (fun hM hS => h) (fun r M' hq hM => ?_)
  obtain ⟨x58, m58, n58, rfl, rfl, h⟩ := rI_out hq
  refine wp_if_eq (tgt := 112) dX12_quoted_61 (by decide) (fun h61 => ?_) (fun h61 => ?_)
  · replace h := h.1 h61
    exact h
  · replace h := h.2 h61
    refine wp_aload_n dX12_quoted_64 rfl rfl (by first | exact Or.inl (by decide) | exact Or.inl (by omega) | exact Or.inr (by decide) | exact Or.inr (by omega)) ?_
    refine wp_aload_n dX12_quoted_65 rfl rfl (by first | exact Or.inl (by decide) | exact Or.inl (by omega) | exact Or.inr (by decide) | exact Or.inr (by omega)) ?_
    refine wp_getI dX12_quoted_66 fX12_276 rfl (by decide) ?_
    refine wp_cVq (n := 1) (mt' := mX12_octet) (as := [vI (m58 124 4)]) (rest := []) _ dX12_quoted_69 lX12_279 kX12_octet vX12_octet (by decide) (by decide +kernel) rfl (Nat.le_of_ble_eq_true rfl) (by decide) rfl rfl rfl (Nat.le_of_ble_eq_true rfl) (fun hM hS => h) (fun r M' hq hM => ?_)
    obtain ⟨x69, m69, n69, rfl, rfl, h⟩ := rI_out hq
    refine wp_iload_n dX12_quoted_72 rfl rfl ?_
    refine wp_icmp_eq (tgt := 112) dX12_quoted_73 (by decide) (fun h73 => ?_) (fun h73 => ?_)
    · replace h := h.1 h73
      exact h
    · replace h := h.2 h73
      refine wp_aload_n dX12_quoted_76 rfl rfl (by first | exact Or.inl (by decide) | exact Or.inl (by omega) | exact Or.inr (by decide) | exact Or.inr (by omega)) ?_
      refine wp_aload_n dX12_quoted_77 rfl rfl (by first | exact Or.inl (by decide) | exact Or.inl (by omega) | exact Or.inr (by decide) | exact Or.inr (by omega)) ?_
      refine wp_getI dX12_quoted_78 fX12_276 rfl (by decide) ?_
      refine wp_cVq (n := 1) (mt' := mX12_octet) (as := [vI (m69 124 4)]) (rest := []) _ dX12_quoted_81 lX12_279 kX12_octet vX12_octet (by decide) (by decide +kernel) rfl (Nat.le_of_ble_eq_true rfl) (by decide) rfl rfl rfl (Nat.le_of_ble_eq_true rfl) (fun hM hS => h) (fun r M' hq hM => ?_)
      obtain ⟨x81, m81, n81, rfl, rfl, h⟩ := rI_out hq
      refine wp_cSq (n := 1) (mt' := mX12_isChar) (as := [vI x81]) (rest := []) _ dX12_quoted_84 lX12_313 kX12_isChar vX12_isChar (by decide) (by decide +kernel) rfl (Nat.le_of_ble_eq_true rfl) rfl (Nat.le_of_ble_eq_true rfl) (fun hM hS => h) (fun r M' hq hM => ?_)
      obtain ⟨x84, m84, n84, rfl, rfl, h⟩ := rI_out hq
      refine wp_if_ne (tgt := 99) dX12_quoted_87 (by decide) (fun h87 => ?_) (fun h87 => ?_)
      · replace h := h.2 h87
        refine wp_aload_n dX12_quoted_99 rfl rfl (by first | exact Or.inl (by decide) | exact Or.inl (by omega) | exact Or.inr (by decide) | exact Or.inr (by omega)) ?_
        refine wp_dup dX12_quoted_100 (fun x e => by cases e) ?_
        refine wp_getI dX12_quoted_101 fX12_276 rfl (by decide) ?_
        refine wp_iconst dX12_quoted_104 (by decide) ?_
        have c0 := h.1
        replace h := h.2
        refine wp_iaddr dX12_quoted_105 c0 ?_
        refine wp_putI dX12_quoted_106 pX12_276 rfl (by decide) ?_
        refine wp_gI (fun m106 e106 => ?_)
        replace h := h m106 e106
        refine wp_goto (tgt := 57) dX12_quoted_109 (by decide) ?_
        exact h
      · replace h := h.1 h87
        refine wp_aload_n dX12_quoted_90 rfl rfl (by first | exact Or.inl (by decide) | exact Or.inl (by omega) | exact Or.inr (by decide) | exact Or.inr (by omega)) ?_
        refine wp_iconst dX12_quoted_91 (by decide) ?_
        refine wp_aload_n dX12_quoted_92 rfl rfl (by first | exact Or.inl (by decide) | exact Or.inl (by omega) | exact Or.inr (by decide) | exact Or.inr (by omega)) ?_
        refine wp_getI dX12_quoted_93 fX12_276 rfl (by decide) ?_
        refine wp_cVq (n := 2) (mt' := mX12_fail) (as := [vI (-1), vI (m84 124 4)]) (rest := []) _ dX12_quoted_96 lX12_293 kX12_fail vX12_fail (by decide) (by decide +kernel) rfl (Nat.le_of_ble_eq_true rfl) (by decide) rfl rfl rfl (Nat.le_of_ble_eq_true rfl) (fun hM hS => h) (fun r M' hq hM => ?_)
        obtain ⟨m96, n96, rfl, rfl, h⟩ := rV_out hq
        refine wp_aload_n dX12_quoted_99 rfl rfl (by first | exact Or.inl (by decide) | exact Or.inl (by omega) | exact Or.inr (by decide) | exact Or.inr (by omega)) ?_
        refine wp_dup dX12_quoted_100 (fun x e => by cases e) ?_
        refine wp_getI dX12_quoted_101 fX12_276 rfl (by decide) ?_
        refine wp_iconst dX12_quoted_104 (by decide) ?_
        have c0 := h.1
        replace h := h.2
        refine wp_iaddr dX12_quoted_105 c0 ?_
        refine wp_putI dX12_quoted_106 pX12_276 rfl (by decide) ?_
        refine wp_gI (fun m106 e106 => ?_)
        replace h := h m106 e106
        refine wp_goto (tgt := 57) dX12_quoted_109 (by decide) ?_
        exact h
theorem v_X12_quoted_112 {cs : Cs} {Q : Option AV → Mm → Prop} {MI ML : Nat → Nat → Int} {d e nw th x : Nat} {l1 l2 : Int}
    (h : (0 ≤ l1 ∧ l1 < 48) ∧ (-2147483648 ≤ (MI 124 4) - (MI 189 l1.toNat) ∧ (MI 124 4) - (MI 189 l1.toNat) < 2147483648) ∧ ∀ m128, m128 = up2 MI 190 l1.toNat ((MI 124 4) - (MI 189 l1.toNat)) → (-2147483648 ≤ (m128 124 4) + 1 ∧ (m128 124 4) + 1 < 2147483648) ∧ ∀ m136, m136 = up2 m128 124 4 ((m128 124 4) + 1) → Q none (m136, ML, (GR d e nw th x))) :
    wp cs mX12_quoted KD Q 112 [some (vR 124), some (vI l1), some (vI l2)] [] (KD, MI, ML, (GR d e nw th x)) := by
  refine wp_aload_n dX12_quoted_112 rfl rfl (by first | exact Or.inl (by decide) | exact Or.inl (by omega) | exact Or.inr (by decide) | exact Or.inr (by omega)) ?_
  refine wp_getR dX12_quoted_113 fX12_212 rfl (by decide) ?_
  refine wp_topR (x' := 190) rfl ?_
  refine wp_iload_n dX12_quoted_116 rfl rfl ?_
  refine wp_aload_n dX12_quoted_117 rfl rfl (by first | exact Or.inl (by decide) | exact Or.inl (by omega) | exact Or.inr (by decide) | exact Or.inr (by omega)) ?_
  refine wp_getI dX12_quoted_118 fX12_276 rfl (by decide) ?_
  refine wp_aload_n dX12_quoted_121 rfl rfl (by first | exact Or.inl (by decide) | exact Or.inl (by omega) | exact Or.inr (by decide) | exact Or.inr (by omega)) ?_
  refine wp_getR dX12_quoted_122 fX12_209 rfl (by decide) ?_
  refine wp_topR (x' := 189) rfl ?_
  refine wp_pc (pc' := 125) rfl ?_
  refine wp_iload_n dX12_quoted_125 rfl rfl ?_
  have c0 := h.1
  replace h := h.2
  refine wp_iald dX12_quoted_126 rfl (by decide) c0 ?_
  have c1 := h.1
  replace h := h.2
  refine wp_isubr dX12_quoted_127 c1 ?_
  refine wp_iast dX12_quoted_128 rfl (by decide) c0 ?_
  refine wp_gI (fun m128 e128 => ?_)
  replace h := h m128 e128
  refine wp_aload_n dX12_quoted_129 rfl rfl (by first | exact Or.inl (by decide) | exact Or.inl (by omega) | exact Or.inr (by decide) | exact Or.inr (by omega)) ?_
  refine wp_dup dX12_quoted_130 (fun x e => by cases e) ?_
  refine wp_getI dX12_quoted_131 fX12_276 rfl (by decide) ?_
  refine wp_iconst dX12_quoted_134 (by decide) ?_
  refine wp_pc (pc' := 135) rfl ?_
  have c2 := h.1
  replace h := h.2
  refine wp_iaddr dX12_quoted_135 c2 ?_
  refine wp_putI dX12_quoted_136 pX12_276 rfl (by decide) ?_
  refine wp_gI (fun m136 e136 => ?_)
  replace h := h m136 e136
  exact wp_vret dX12_quoted_139 rfl (fun _ => h)
