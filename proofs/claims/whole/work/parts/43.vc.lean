theorem dX4_report_0 : decode cX4_report 0 = .ok (.aload_n 0, 1) := by decide +kernel
theorem dX4_report_1 : decode cX4_report 1 = .ok (.getfield 22, 3) := by decide +kernel
theorem dX4_report_4 : decode cX4_report 4 = .ok (.sipush 8200, 3) := by decide +kernel
theorem dX4_report_7 : decode cX4_report 7 = .ok (.if_icmp .ge 29, 3) := by decide +kernel
theorem dX4_report_10 : decode cX4_report 10 = .ok (.aload_n 0, 1) := by decide +kernel
theorem dX4_report_11 : decode cX4_report 11 = .ok (.getfield 11, 3) := by decide +kernel
theorem dX4_report_14 : decode cX4_report 14 = .ok (.aload_n 0, 1) := by decide +kernel
theorem dX4_report_15 : decode cX4_report 15 = .ok (.getfield 22, 3) := by decide +kernel
theorem dX4_report_18 : decode cX4_report 18 = .ok (.iload_n 1, 1) := by decide +kernel
theorem dX4_report_19 : decode cX4_report 19 = .ok (.sipush 1024, 3) := by decide +kernel
theorem dX4_report_22 : decode cX4_report 22 = .ok (.imul, 1) := by decide +kernel
theorem dX4_report_23 : decode cX4_report 23 = .ok (.iload_n 2, 1) := by decide +kernel
theorem dX4_report_24 : decode cX4_report 24 = .ok (.iadd, 1) := by decide +kernel
theorem dX4_report_25 : decode cX4_report 25 = .ok (.iastore, 1) := by decide +kernel
theorem dX4_report_26 : decode cX4_report 26 = .ok (.aload_n 0, 1) := by decide +kernel
theorem dX4_report_27 : decode cX4_report 27 = .ok (.dup, 1) := by decide +kernel
theorem dX4_report_28 : decode cX4_report 28 = .ok (.getfield 22, 3) := by decide +kernel
theorem dX4_report_31 : decode cX4_report 31 = .ok (.iconst 1, 1) := by decide +kernel
theorem dX4_report_32 : decode cX4_report 32 = .ok (.iadd, 1) := by decide +kernel
theorem dX4_report_33 : decode cX4_report 33 = .ok (.putfield 22, 3) := by decide +kernel
theorem dX4_report_36 : decode cX4_report 36 = .ok (.return_, 1) := by decide +kernel
theorem v_X4_report_0 {cs : Cs} {Q : Option AV → Mm → Prop} {MI ML : Nat → Nat → Int} {d e nw th x : Nat} {l1 l2 : Int}
    (h : (((MI 11 3) < 8200 → (-2147483648 ≤ l1 * 1024 ∧ l1 * 1024 < 2147483648) ∧ (-2147483648 ≤ (l1 * 1024) + l2 ∧ (l1 * 1024) + l2 < 2147483648) ∧ (0 ≤ (MI 11 3) ∧ (MI 11 3) < 8200) ∧ ∀ m25, m25 = up2 MI 12 (MI 11 3).toNat ((l1 * 1024) + l2) → (-2147483648 ≤ (m25 11 3) + 1 ∧ (m25 11 3) + 1 < 2147483648) ∧ ∀ m33, m33 = up2 m25 11 3 ((m25 11 3) + 1) → Q none (m33, ML, (GR d e nw th x))) ∧ (8200 ≤ (MI 11 3) → Q none (MI, ML, (GR d e nw th x))))) :
    wp cs mX4_report KD Q 0 (padL [vR 11, vI l1, vI l2] 3) [] (KD, MI, ML, (GR d e nw th x)) := by
  refine wp_L (L' := [some (vR 11), some (vI l1), some (vI l2)]) rfl ?_
  refine wp_aload_n dX4_report_0 rfl rfl (by first | exact Or.inl (by decide) | exact Or.inl (by omega) | exact Or.inr (by decide) | exact Or.inr (by omega)) ?_
  refine wp_getI dX4_report_1 fX4_22 rfl (by decide) ?_
  refine wp_sipush dX4_report_4 (by decide +kernel) (by decide) ?_
  refine wp_icmp_ge (tgt := 36) dX4_report_7 (by decide) (fun h7 => ?_) (fun h7 => ?_)
  · replace h := h.2 h7
    exact wp_vret dX4_report_36 rfl (fun _ => h)
  · replace h := h.1 h7
    refine wp_aload_n dX4_report_10 rfl rfl (by first | exact Or.inl (by decide) | exact Or.inl (by omega) | exact Or.inr (by decide) | exact Or.inr (by omega)) ?_
    refine wp_getR dX4_report_11 fX4_11 rfl (by decide) ?_
    refine wp_topR (x' := 12) rfl ?_
    refine wp_aload_n dX4_report_14 rfl rfl (by first | exact Or.inl (by decide) | exact Or.inl (by omega) | exact Or.inr (by decide) | exact Or.inr (by omega)) ?_
    refine wp_getI dX4_report_15 fX4_22 rfl (by decide) ?_
    refine wp_iload_n dX4_report_18 rfl rfl ?_
    refine wp_sipush dX4_report_19 (by decide +kernel) (by decide) ?_
    have c0 := h.1
    replace h := h.2
    refine wp_imulr dX4_report_22 c0 ?_
    refine wp_pc (pc' := 23) rfl ?_
    refine wp_iload_n dX4_report_23 rfl rfl ?_
    have c1 := h.1
    replace h := h.2
    refine wp_iaddr dX4_report_24 c1 ?_
    have c2 := h.1
    replace h := h.2
    refine wp_iast dX4_report_25 rfl (by decide) c2 ?_
    refine wp_gI (fun m25 e25 => ?_)
    replace h := h m25 e25
    refine wp_aload_n dX4_report_26 rfl rfl (by first | exact Or.inl (by decide) | exact Or.inl (by omega) | exact Or.inr (by decide) | exact Or.inr (by omega)) ?_
    refine wp_dup dX4_report_27 (fun x e => by cases e) ?_
    refine wp_getI dX4_report_28 fX4_22 rfl (by decide) ?_
    refine wp_iconst dX4_report_31 (by decide) ?_
    have c3 := h.1
    replace h := h.2
    refine wp_iaddr dX4_report_32 c3 ?_
    refine wp_pc (pc' := 33) rfl ?_
    refine wp_putI dX4_report_33 pX4_22 rfl (by decide) ?_
    refine wp_gI (fun m33 e33 => ?_)
    replace h := h m33 e33
    exact wp_vret dX4_report_36 rfl (fun _ => h)
theorem dX4_isName_0 : decode cX4_isName 0 = .ok (.iload_n 2, 1) := by decide +kernel
theorem dX4_isName_1 : decode cX4_isName 1 = .ok (.iload_n 3, 1) := by decide +kernel
theorem dX4_isName_2 : decode cX4_isName 2 = .ok (.if_icmp .ge 23, 3) := by decide +kernel
theorem dX4_isName_5 : decode cX4_isName 5 = .ok (.iload_n 3, 1) := by decide +kernel
theorem dX4_isName_6 : decode cX4_isName 6 = .ok (.iload_n 2, 1) := by decide +kernel
theorem dX4_isName_7 : decode cX4_isName 7 = .ok (.isub, 1) := by decide +kernel
theorem dX4_isName_8 : decode cX4_isName 8 = .ok (.bipush 20, 2) := by decide +kernel
theorem dX4_isName_10 : decode cX4_isName 10 = .ok (.if_icmp .gt 15, 3) := by decide +kernel
theorem dX4_isName_13 : decode cX4_isName 13 = .ok (.aload_n 1, 1) := by decide +kernel
theorem dX4_isName_14 : decode cX4_isName 14 = .ok (.getfield 132, 3) := by decide +kernel
theorem dX4_isName_17 : decode cX4_isName 17 = .ok (.iload_n 2, 1) := by decide +kernel
theorem dX4_isName_18 : decode cX4_isName 18 = .ok (.baload, 1) := by decide +kernel
theorem dX4_isName_19 : decode cX4_isName 19 = .ok (.invokestatic 136, 3) := by decide +kernel
theorem dX4_isName_22 : decode cX4_isName 22 = .ok (.ifCond .ne 5, 3) := by decide +kernel
theorem dX4_isName_25 : decode cX4_isName 25 = .ok (.iconst 0, 1) := by decide +kernel
theorem dX4_isName_26 : decode cX4_isName 26 = .ok (.ireturn, 1) := by decide +kernel
theorem dX4_isName_27 : decode cX4_isName 27 = .ok (.iload_n 2, 1) := by decide +kernel
theorem dX4_isName_28 : decode cX4_isName 28 = .ok (.istore 4, 2) := by decide +kernel
theorem dX4_isName_30 : decode cX4_isName 30 = .ok (.iload 4, 2) := by decide +kernel
theorem dX4_isName_32 : decode cX4_isName 32 = .ok (.iload_n 3, 1) := by decide +kernel
theorem dX4_isName_33 : decode cX4_isName 33 = .ok (.if_icmp .ge 24, 3) := by decide +kernel
theorem dX4_isName_36 : decode cX4_isName 36 = .ok (.aload_n 1, 1) := by decide +kernel
theorem dX4_isName_37 : decode cX4_isName 37 = .ok (.getfield 132, 3) := by decide +kernel
theorem dX4_isName_40 : decode cX4_isName 40 = .ok (.iload 4, 2) := by decide +kernel
theorem dX4_isName_42 : decode cX4_isName 42 = .ok (.baload, 1) := by decide +kernel
theorem dX4_isName_43 : decode cX4_isName 43 = .ok (.invokestatic 139, 3) := by decide +kernel
theorem dX4_isName_46 : decode cX4_isName 46 = .ok (.ifCond .ne 5, 3) := by decide +kernel
theorem dX4_isName_49 : decode cX4_isName 49 = .ok (.iconst 0, 1) := by decide +kernel
theorem dX4_isName_50 : decode cX4_isName 50 = .ok (.ireturn, 1) := by decide +kernel
theorem dX4_isName_51 : decode cX4_isName 51 = .ok (.iinc 4 1, 3) := by decide +kernel
theorem dX4_isName_54 : decode cX4_isName 54 = .ok (.goto (-24), 3) := by decide +kernel
theorem dX4_isName_57 : decode cX4_isName 57 = .ok (.iconst 1, 1) := by decide +kernel
theorem dX4_isName_58 : decode cX4_isName 58 = .ok (.ireturn, 1) := by decide +kernel
theorem v_X4_isName_0 {cs : Cs} {Q : Option AV → Mm → Prop} {MI ML : Nat → Nat → Int} {b d e nw th x : Nat} {l2 l3 : Int} (hbd : b = 38 ∨ b = 81)
    (h : ((l2 < l3 → (-2147483648 ≤ l3 - l2 ∧ l3 - l2 < 2147483648) ∧ ((20 < (l3 - l2) → Q (some (vI 0)) (MI, ML, (GR d e nw th x))) ∧ ((l3 - l2) ≤ 20 → (0 ≤ l2 ∧ l2 < 2000) ∧ wp cs mX1_startsName KD (rI (GR d e nw th x) fun x19 m19 n19 => ((x19 = 0 → Q (some (vI 0)) (m19, n19, (GR d e nw th x))) ∧ (x19 ≠ 0 → wp cs mX4_isName KD Q 30 [some (vR 11), some (vR b), some (vI l2), some (vI l3), some (vI l2)] [] (KD, m19, n19, (GR d e nw th x))))) 0 (padL [vI (MI (b + 41) l2.toNat)] 1) [] (KD, MI, ML, (GR d e nw th x))))) ∧ (l3 ≤ l2 → Q (some (vI 0)) (MI, ML, (GR d e nw th x))))) :
    wp cs mX4_isName KD Q 0 (padL [vR 11, vR b, vI l2, vI l3] 5) [] (KD, MI, ML, (GR d e nw th x)) := by
  refine wp_L (L' := [some (vR 11), some (vR b), some (vI l2), some (vI l3), none]) rfl ?_
  refine wp_iload_n dX4_isName_0 rfl rfl ?_
  refine wp_iload_n dX4_isName_1 rfl rfl ?_
  refine wp_icmp_ge (tgt := 25) dX4_isName_2 (by decide) (fun h2 => ?_) (fun h2 => ?_)
  · replace h := h.2 h2
    refine wp_iconst dX4_isName_25 (by decide) ?_
    exact wp_zret dX4_isName_26 rfl (by decide) (fun _ => h)
  · replace h := h.1 h2
    refine wp_iload_n dX4_isName_5 rfl rfl ?_
    refine wp_iload_n dX4_isName_6 rfl rfl ?_
    have c0 := h.1
    replace h := h.2
    refine wp_isubr dX4_isName_7 c0 ?_
    refine wp_bipush dX4_isName_8 (by decide +kernel) (by decide) ?_
    refine wp_icmp_gt (tgt := 25) dX4_isName_10 (by decide) (fun h10 => ?_) (fun h10 => ?_)
    · replace h := h.1 h10
      refine wp_iconst dX4_isName_25 (by decide) ?_
      exact wp_zret dX4_isName_26 rfl (by decide) (fun _ => h)
    · replace h := h.2 h10
      refine wp_aload_n dX4_isName_13 rfl rfl (by first | exact Or.inl (by decide) | exact Or.inl (by omega) | exact Or.inr (by decide) | exact Or.inr (by omega)) ?_
      refine wp_getR dX4_isName_14 fX4_132 (show KD[b]? = some (7, 19) from kdb_0 hbd) (by omega) ?_
      refine wp_topR (x' := (b + 41)) (grb_0_12 hbd) ?_
      refine wp_iload_n dX4_isName_17 rfl rfl ?_
      have c1 := h.1
      replace h := h.2
      refine wp_bald dX4_isName_18 (kdb_41 hbd) (by omega) c1 ?_
      refine wp_cSq (n := 1) (mt' := mX1_startsName) (as := [vI (MI (b + 41) l2.toNat)]) (rest := []) _ dX4_isName_19 lX4_136 kX1_startsName vX1_startsName (by decide) (by decide +kernel) rfl (Nat.le_of_ble_eq_true rfl) rfl (Nat.le_of_ble_eq_true rfl) (fun hM hS => h) (fun r M' hq hM => ?_)
      obtain ⟨x19, m19, n19, rfl, rfl, h⟩ := rI_out hq
      refine wp_if_ne (tgt := 27) dX4_isName_22 (by decide) (fun h22 => ?_) (fun h22 => ?_)
      · replace h := h.2 h22
        refine wp_iload_n dX4_isName_27 rfl rfl ?_
        refine wp_istore dX4_isName_28 (by decide) (wp_L (L' := [some (vR 11), some (vR b), some (vI l2), some (vI l3), some (vI l2)]) rfl ?_)
        exact h
      · replace h := h.1 h22
        refine wp_iconst dX4_isName_25 (by decide) ?_
        exact wp_zret dX4_isName_26 rfl (by decide) (fun _ => h)
theorem v_X4_isName_30 {cs : Cs} {Q : Option AV → Mm → Prop} {MI ML : Nat → Nat → Int} {b d e nw th x : Nat} {l2 l3 l4 : Int} (hbd : b = 38 ∨ b = 81)
    (h : ((l4 < l3 → (0 ≤ l4 ∧ l4 < 2000) ∧ wp cs mX1_isNameByte KD (rI (GR d e nw th x) fun x43 m43 n43 => ((x43 = 0 → Q (some (vI 0)) (m43, n43, (GR d e nw th x))) ∧ (x43 ≠ 0 → (-2147483648 ≤ l4 + 1 ∧ l4 + 1 < 2147483648) ∧ wp cs mX4_isName KD Q 30 [some (vR 11), some (vR b), some (vI l2), some (vI l3), some (vI (l4 + 1))] [] (KD, m43, n43, (GR d e nw th x))))) 0 (padL [vI (MI (b + 41) l4.toNat)] 1) [] (KD, MI, ML, (GR d e nw th x))) ∧ (l3 ≤ l4 → Q (some (vI 1)) (MI, ML, (GR d e nw th x))))) :
    wp cs mX4_isName KD Q 30 [some (vR 11), some (vR b), some (vI l2), some (vI l3), some (vI l4)] [] (KD, MI, ML, (GR d e nw th x)) := by
  refine wp_iload dX4_isName_30 rfl ?_
  refine wp_iload_n dX4_isName_32 rfl rfl ?_
  refine wp_icmp_ge (tgt := 57) dX4_isName_33 (by decide) (fun h33 => ?_) (fun h33 => ?_)
  · replace h := h.2 h33
    refine wp_iconst dX4_isName_57 (by decide) ?_
    exact wp_zret dX4_isName_58 rfl (by decide) (fun _ => h)
  · replace h := h.1 h33
    refine wp_aload_n dX4_isName_36 rfl rfl (by first | exact Or.inl (by decide) | exact Or.inl (by omega) | exact Or.inr (by decide) | exact Or.inr (by omega)) ?_
    refine wp_getR dX4_isName_37 fX4_132 (show KD[b]? = some (7, 19) from kdb_0 hbd) (by omega) ?_
    refine wp_topR (x' := (b + 41)) (grb_0_12 hbd) ?_
    refine wp_iload dX4_isName_40 rfl ?_
    have c0 := h.1
    replace h := h.2
    refine wp_bald dX4_isName_42 (kdb_41 hbd) (by omega) c0 ?_
    refine wp_cSq (n := 1) (mt' := mX1_isNameByte) (as := [vI (MI (b + 41) l4.toNat)]) (rest := []) _ dX4_isName_43 lX4_139 kX1_isNameByte vX1_isNameByte (by decide) (by decide +kernel) rfl (Nat.le_of_ble_eq_true rfl) rfl (Nat.le_of_ble_eq_true rfl) (fun hM hS => h) (fun r M' hq hM => ?_)
    obtain ⟨x43, m43, n43, rfl, rfl, h⟩ := rI_out hq
    refine wp_if_ne (tgt := 51) dX4_isName_46 (by decide) (fun h46 => ?_) (fun h46 => ?_)
    · replace h := h.2 h46
      have c1 := h.1
      replace h := h.2
      refine wp_iincr dX4_isName_51 rfl (by decide) c1 (wp_L (L' := [some (vR 11), some (vR b), some (vI l2), some (vI l3), some (vI (l4 + 1))]) rfl ?_)
      refine wp_goto (tgt := 30) dX4_isName_54 (by decide) ?_
      exact h
    · replace h := h.1 h46
      refine wp_iconst dX4_isName_49 (by decide) ?_
      exact wp_zret dX4_isName_50 rfl (by decide) (fun _ => h)
theorem dX4_isToken_0 : decode cX4_isToken 0 = .ok (.aload_n 1, 1) := by decide +kernel
theorem dX4_isToken_1 : decode cX4_isToken 1 = .ok (.getfield 65, 3) := by decide +kernel
theorem dX4_isToken_4 : decode cX4_isToken 4 = .ok (.getfield 142, 3) := by decide +kernel
theorem dX4_isToken_7 : decode cX4_isToken 7 = .ok (.iload_n 2, 1) := by decide +kernel
theorem dX4_isToken_8 : decode cX4_isToken 8 = .ok (.iaload, 1) := by decide +kernel
theorem dX4_isToken_9 : decode cX4_isToken 9 = .ok (.istore 5, 2) := by decide +kernel
theorem dX4_isToken_11 : decode cX4_isToken 11 = .ok (.iload 5, 2) := by decide +kernel
theorem dX4_isToken_13 : decode cX4_isToken 13 = .ok (.istore 6, 2) := by decide +kernel
theorem dX4_isToken_15 : decode cX4_isToken 15 = .ok (.iload 6, 2) := by decide +kernel
theorem dX4_isToken_17 : decode cX4_isToken 17 = .ok (.iload 5, 2) := by decide +kernel
theorem dX4_isToken_19 : decode cX4_isToken 19 = .ok (.aload_n 1, 1) := by decide +kernel
theorem dX4_isToken_20 : decode cX4_isToken 20 = .ok (.getfield 65, 3) := by decide +kernel
theorem dX4_isToken_23 : decode cX4_isToken 23 = .ok (.getfield 145, 3) := by decide +kernel
theorem dX4_isToken_26 : decode cX4_isToken 26 = .ok (.iload_n 2, 1) := by decide +kernel
theorem dX4_isToken_27 : decode cX4_isToken 27 = .ok (.iaload, 1) := by decide +kernel
theorem dX4_isToken_28 : decode cX4_isToken 28 = .ok (.iadd, 1) := by decide +kernel
theorem dX4_isToken_29 : decode cX4_isToken 29 = .ok (.if_icmp .ge 103, 3) := by decide +kernel
theorem dX4_isToken_32 : decode cX4_isToken 32 = .ok (.aload_n 1, 1) := by decide +kernel
theorem dX4_isToken_33 : decode cX4_isToken 33 = .ok (.getfield 65, 3) := by decide +kernel
theorem dX4_isToken_36 : decode cX4_isToken 36 = .ok (.getfield 148, 3) := by decide +kernel
theorem dX4_isToken_39 : decode cX4_isToken 39 = .ok (.iload 6, 2) := by decide +kernel
theorem dX4_isToken_41 : decode cX4_isToken 41 = .ok (.iaload, 1) := by decide +kernel
theorem dX4_isToken_42 : decode cX4_isToken 42 = .ok (.iload 4, 2) := by decide +kernel
theorem dX4_isToken_44 : decode cX4_isToken 44 = .ok (.iload_n 3, 1) := by decide +kernel
theorem dX4_isToken_45 : decode cX4_isToken 45 = .ok (.isub, 1) := by decide +kernel
theorem dX4_isToken_46 : decode cX4_isToken 46 = .ok (.if_icmp .ne 7, 3) := by decide +kernel
theorem dX4_isToken_49 : decode cX4_isToken 49 = .ok (.iconst 1, 1) := by decide +kernel
theorem dX4_isToken_50 : decode cX4_isToken 50 = .ok (.goto 4, 3) := by decide +kernel
theorem dX4_isToken_53 : decode cX4_isToken 53 = .ok (.iconst 0, 1) := by decide +kernel
theorem dX4_isToken_54 : decode cX4_isToken 54 = .ok (.istore 7, 2) := by decide +kernel
theorem dX4_isToken_56 : decode cX4_isToken 56 = .ok (.iconst 0, 1) := by decide +kernel
theorem dX4_isToken_57 : decode cX4_isToken 57 = .ok (.istore 8, 2) := by decide +kernel
theorem dX4_isToken_59 : decode cX4_isToken 59 = .ok (.iload 7, 2) := by decide +kernel
theorem dX4_isToken_61 : decode cX4_isToken 61 = .ok (.ifCond .eq 58, 3) := by decide +kernel
theorem dX4_isToken_64 : decode cX4_isToken 64 = .ok (.iload 8, 2) := by decide +kernel
theorem dX4_isToken_66 : decode cX4_isToken 66 = .ok (.iload 4, 2) := by decide +kernel
theorem dX4_isToken_68 : decode cX4_isToken 68 = .ok (.iload_n 3, 1) := by decide +kernel
theorem dX4_isToken_69 : decode cX4_isToken 69 = .ok (.isub, 1) := by decide +kernel
theorem dX4_isToken_70 : decode cX4_isToken 70 = .ok (.if_icmp .ge 49, 3) := by decide +kernel
theorem dX4_isToken_73 : decode cX4_isToken 73 = .ok (.aload_n 1, 1) := by decide +kernel
theorem dX4_isToken_74 : decode cX4_isToken 74 = .ok (.getfield 72, 3) := by decide +kernel
theorem dX4_isToken_77 : decode cX4_isToken 77 = .ok (.getfield 151, 3) := by decide +kernel
theorem dX4_isToken_80 : decode cX4_isToken 80 = .ok (.aload_n 1, 1) := by decide +kernel
theorem dX4_isToken_81 : decode cX4_isToken 81 = .ok (.getfield 65, 3) := by decide +kernel
theorem dX4_isToken_84 : decode cX4_isToken 84 = .ok (.getfield 154, 3) := by decide +kernel
theorem dX4_isToken_87 : decode cX4_isToken 87 = .ok (.iload 6, 2) := by decide +kernel
theorem dX4_isToken_89 : decode cX4_isToken 89 = .ok (.iaload, 1) := by decide +kernel
theorem dX4_isToken_90 : decode cX4_isToken 90 = .ok (.iload 8, 2) := by decide +kernel
theorem dX4_isToken_92 : decode cX4_isToken 92 = .ok (.iadd, 1) := by decide +kernel
theorem dX4_isToken_93 : decode cX4_isToken 93 = .ok (.baload, 1) := by decide +kernel
theorem dX4_isToken_94 : decode cX4_isToken 94 = .ok (.aload_n 1, 1) := by decide +kernel
theorem dX4_isToken_95 : decode cX4_isToken 95 = .ok (.getfield 132, 3) := by decide +kernel
theorem dX4_isToken_98 : decode cX4_isToken 98 = .ok (.iload_n 3, 1) := by decide +kernel
theorem dX4_isToken_99 : decode cX4_isToken 99 = .ok (.iload 8, 2) := by decide +kernel
theorem dX4_isToken_101 : decode cX4_isToken 101 = .ok (.iadd, 1) := by decide +kernel
theorem dX4_isToken_102 : decode cX4_isToken 102 = .ok (.baload, 1) := by decide +kernel
theorem dX4_isToken_103 : decode cX4_isToken 103 = .ok (.if_icmp .ne 7, 3) := by decide +kernel
theorem dX4_isToken_106 : decode cX4_isToken 106 = .ok (.iconst 1, 1) := by decide +kernel
theorem dX4_isToken_107 : decode cX4_isToken 107 = .ok (.goto 4, 3) := by decide +kernel
theorem dX4_isToken_110 : decode cX4_isToken 110 = .ok (.iconst 0, 1) := by decide +kernel
theorem dX4_isToken_111 : decode cX4_isToken 111 = .ok (.istore 7, 2) := by decide +kernel
theorem dX4_isToken_113 : decode cX4_isToken 113 = .ok (.iinc 8 1, 3) := by decide +kernel
theorem dX4_isToken_116 : decode cX4_isToken 116 = .ok (.goto (-57), 3) := by decide +kernel
theorem dX4_isToken_119 : decode cX4_isToken 119 = .ok (.iload 7, 2) := by decide +kernel
theorem dX4_isToken_121 : decode cX4_isToken 121 = .ok (.ifCond .eq 5, 3) := by decide +kernel
theorem dX4_isToken_124 : decode cX4_isToken 124 = .ok (.iconst 1, 1) := by decide +kernel
theorem dX4_isToken_125 : decode cX4_isToken 125 = .ok (.ireturn, 1) := by decide +kernel
theorem dX4_isToken_126 : decode cX4_isToken 126 = .ok (.iinc 6 1, 3) := by decide +kernel
theorem dX4_isToken_129 : decode cX4_isToken 129 = .ok (.goto (-114), 3) := by decide +kernel
theorem dX4_isToken_132 : decode cX4_isToken 132 = .ok (.iconst 0, 1) := by decide +kernel
theorem dX4_isToken_133 : decode cX4_isToken 133 = .ok (.ireturn, 1) := by decide +kernel
theorem v_X4_isToken_0 {cs : Cs} {Q : Option AV → Mm → Prop} {MI ML : Nat → Nat → Int} {b d e nw th x : Nat} {l2 l3 l4 : Int} (hbd : b = 38 ∨ b = 81)
    (h : (0 ≤ l2 ∧ l2 < 750) ∧ wp cs mX4_isToken KD Q 15 [some (vR 11), some (vR b), some (vI l2), some (vI l3), some (vI l4), some (vI (MI (b + 24) l2.toNat)), some (vI (MI (b + 24) l2.toNat)), none, none] [] (KD, MI, ML, (GR d e nw th x))) :
    wp cs mX4_isToken KD Q 0 (padL [vR 11, vR b, vI l2, vI l3, vI l4] 9) [] (KD, MI, ML, (GR d e nw th x)) := by
  refine wp_L (L' := [some (vR 11), some (vR b), some (vI l2), some (vI l3), some (vI l4), none, none, none, none]) rfl ?_
  refine wp_aload_n dX4_isToken_0 rfl rfl (by first | exact Or.inl (by decide) | exact Or.inl (by omega) | exact Or.inr (by decide) | exact Or.inr (by omega)) ?_
  refine wp_getR dX4_isToken_1 fX4_65 (show KD[b]? = some (7, 19) from kdb_0 hbd) (by omega) ?_
  refine wp_topR (x' := (b + 20)) (grb_0_2 hbd) ?_
  refine wp_getR dX4_isToken_4 fX4_142 (kdb_20 hbd) (by omega) ?_
  refine wp_topR (x' := (b + 24)) (grb_20_3 hbd) ?_
  refine wp_iload_n dX4_isToken_7 rfl rfl ?_
  have c0 := h.1
  replace h := h.2
  refine wp_iald dX4_isToken_8 (kdb_24 hbd) (by omega) c0 ?_
  refine wp_istore dX4_isToken_9 (by decide) (wp_L (L' := [some (vR 11), some (vR b), some (vI l2), some (vI l3), some (vI l4), some (vI (MI (b + 24) l2.toNat)), none, none, none]) rfl ?_)
  refine wp_iload dX4_isToken_11 rfl ?_
  refine wp_pc (pc' := 13) rfl ?_
  refine wp_istore dX4_isToken_13 (by decide) (wp_L (L' := [some (vR 11), some (vR b), some (vI l2), some (vI l3), some (vI l4), some (vI (MI (b + 24) l2.toNat)), some (vI (MI (b + 24) l2.toNat)), none, none]) rfl ?_)
  exact h
theorem v_X4_isToken_15 {cs : Cs} {Q : Option AV → Mm → Prop} {MI ML : Nat → Nat → Int} {b d e nw th x : Nat} {l2 l3 l4 l5 l6 : Int} (hbd : b = 38 ∨ b = 81)
    (h : (0 ≤ l2 ∧ l2 < 750) ∧ (-2147483648 ≤ l5 + (MI (b + 25) l2.toNat) ∧ l5 + (MI (b + 25) l2.toNat) < 2147483648) ∧ ((l6 < (l5 + (MI (b + 25) l2.toNat)) → (0 ≤ l6 ∧ l6 < 3000) ∧ (-2147483648 ≤ l4 - l3 ∧ l4 - l3 < 2147483648) ∧ (((MI (b + 31) l6.toNat) = (l4 - l3) → wp cs mX4_isToken KD Q 59 [some (vR 11), some (vR b), some (vI l2), some (vI l3), some (vI l4), some (vI l5), some (vI l6), some (vI 1), some (vI 0)] [] (KD, MI, ML, (GR d e nw th x))) ∧ ((MI (b + 31) l6.toNat) ≠ (l4 - l3) → wp cs mX4_isToken KD Q 59 [some (vR 11), some (vR b), some (vI l2), some (vI l3), some (vI l4), some (vI l5), some (vI l6), some (vI 0), some (vI 0)] [] (KD, MI, ML, (GR d e nw th x))))) ∧ ((l5 + (MI (b + 25) l2.toNat)) ≤ l6 → Q (some (vI 0)) (MI, ML, (GR d e nw th x))))) :
    wp cs mX4_isToken KD Q 15 [some (vR 11), some (vR b), some (vI l2), some (vI l3), some (vI l4), some (vI l5), some (vI l6), none, none] [] (KD, MI, ML, (GR d e nw th x)) := by
  refine wp_iload dX4_isToken_15 rfl ?_
  refine wp_iload dX4_isToken_17 rfl ?_
  refine wp_aload_n dX4_isToken_19 rfl rfl (by first | exact Or.inl (by decide) | exact Or.inl (by omega) | exact Or.inr (by decide) | exact Or.inr (by omega)) ?_
  refine wp_getR dX4_isToken_20 fX4_65 (show KD[b]? = some (7, 19) from kdb_0 hbd) (by omega) ?_
  refine wp_topR (x' := (b + 20)) (grb_0_2 hbd) ?_
  refine wp_getR dX4_isToken_23 fX4_145 (kdb_20 hbd) (by omega) ?_
  refine wp_topR (x' := (b + 25)) (grb_20_4 hbd) ?_
  refine wp_iload_n dX4_isToken_26 rfl rfl ?_
  have c0 := h.1
  replace h := h.2
  refine wp_iald dX4_isToken_27 (kdb_25 hbd) (by omega) c0 ?_
  refine wp_pc (pc' := 28) rfl ?_
  have c1 := h.1
  replace h := h.2
  refine wp_iaddr dX4_isToken_28 c1 ?_
  refine wp_icmp_ge (tgt := 132) dX4_isToken_29 (by decide) (fun h29 => ?_) (fun h29 => ?_)
  · replace h := h.2 h29
    refine wp_iconst dX4_isToken_132 (by decide) ?_
    exact wp_zret dX4_isToken_133 rfl (by decide) (fun _ => h)
  · replace h := h.1 h29
    refine wp_aload_n dX4_isToken_32 rfl rfl (by first | exact Or.inl (by decide) | exact Or.inl (by omega) | exact Or.inr (by decide) | exact Or.inr (by omega)) ?_
    refine wp_getR dX4_isToken_33 fX4_65 (show KD[b]? = some (7, 19) from kdb_0 hbd) (by omega) ?_
    refine wp_topR (x' := (b + 20)) (grb_0_2 hbd) ?_
    refine wp_getR dX4_isToken_36 fX4_148 (kdb_20 hbd) (by omega) ?_
    refine wp_topR (x' := (b + 31)) (grb_20_10 hbd) ?_
    refine wp_iload dX4_isToken_39 rfl ?_
    have c2 := h.1
    replace h := h.2
    refine wp_iald dX4_isToken_41 (kdb_31 hbd) (by omega) c2 ?_
    refine wp_iload dX4_isToken_42 rfl ?_
    refine wp_iload_n dX4_isToken_44 rfl rfl ?_
    refine wp_pc (pc' := 45) rfl ?_
    have c3 := h.1
    replace h := h.2
    refine wp_isubr dX4_isToken_45 c3 ?_
    refine wp_icmp_ne (tgt := 53) dX4_isToken_46 (by decide) (fun h46 => ?_) (fun h46 => ?_)
    · replace h := h.2 h46
      refine wp_iconst dX4_isToken_53 (by decide) ?_
      refine wp_istore dX4_isToken_54 (by decide) (wp_L (L' := [some (vR 11), some (vR b), some (vI l2), some (vI l3), some (vI l4), some (vI l5), some (vI l6), some (vI 0), none]) rfl ?_)
      refine wp_iconst dX4_isToken_56 (by decide) ?_
      refine wp_istore dX4_isToken_57 (by decide) (wp_L (L' := [some (vR 11), some (vR b), some (vI l2), some (vI l3), some (vI l4), some (vI l5), some (vI l6), some (vI 0), some (vI 0)]) rfl ?_)
      exact h
    · replace h := h.1 h46
      refine wp_iconst dX4_isToken_49 (by decide) ?_
      refine wp_goto (tgt := 54) dX4_isToken_50 (by decide) ?_
      refine wp_istore dX4_isToken_54 (by decide) (wp_L (L' := [some (vR 11), some (vR b), some (vI l2), some (vI l3), some (vI l4), some (vI l5), some (vI l6), some (vI 1), none]) rfl ?_)
      refine wp_iconst dX4_isToken_56 (by decide) ?_
      refine wp_istore dX4_isToken_57 (by decide) (wp_L (L' := [some (vR 11), some (vR b), some (vI l2), some (vI l3), some (vI l4), some (vI l5), some (vI l6), some (vI 1), some (vI 0)]) rfl ?_)
      exact h
theorem v_X4_isToken_59 {cs : Cs} {Q : Option AV → Mm → Prop} {MI ML : Nat → Nat → Int} {b d e nw th x : Nat} {l2 l3 l4 l5 l6 l7 l8 : Int} (hbd : b = 38 ∨ b = 81)
    (h : ((l7 = 0 → ((l7 = 0 → (-2147483648 ≤ l6 + 1 ∧ l6 + 1 < 2147483648) ∧ wp cs mX4_isToken KD Q 15 [some (vR 11), some (vR b), some (vI l2), some (vI l3), some (vI l4), some (vI l5), some (vI (l6 + 1)), none, none] [] (KD, MI, ML, (GR d e nw th x))) ∧ (l7 ≠ 0 → Q (some (vI 1)) (MI, ML, (GR d e nw th x))))) ∧ (l7 ≠ 0 → (-2147483648 ≤ l4 - l3 ∧ l4 - l3 < 2147483648) ∧ ((l8 < (l4 - l3) → (0 ≤ l6 ∧ l6 < 3000) ∧ (-2147483648 ≤ (MI (b + 30) l6.toNat) + l8 ∧ (MI (b + 30) l6.toNat) + l8 < 2147483648) ∧ (0 ≤ ((MI (b + 30) l6.toNat) + l8) ∧ ((MI (b + 30) l6.toNat) + l8) < 6000) ∧ (-2147483648 ≤ l3 + l8 ∧ l3 + l8 < 2147483648) ∧ (0 ≤ (l3 + l8) ∧ (l3 + l8) < 2000) ∧ (((MI (b + 2) ((MI (b + 30) l6.toNat) + l8).toNat) = (MI (b + 41) (l3 + l8).toNat) → (-2147483648 ≤ l8 + 1 ∧ l8 + 1 < 2147483648) ∧ wp cs mX4_isToken KD Q 59 [some (vR 11), some (vR b), some (vI l2), some (vI l3), some (vI l4), some (vI l5), some (vI l6), some (vI 1), some (vI (l8 + 1))] [] (KD, MI, ML, (GR d e nw th x))) ∧ ((MI (b + 2) ((MI (b + 30) l6.toNat) + l8).toNat) ≠ (MI (b + 41) (l3 + l8).toNat) → (-2147483648 ≤ l8 + 1 ∧ l8 + 1 < 2147483648) ∧ wp cs mX4_isToken KD Q 59 [some (vR 11), some (vR b), some (vI l2), some (vI l3), some (vI l4), some (vI l5), some (vI l6), some (vI 0), some (vI (l8 + 1))] [] (KD, MI, ML, (GR d e nw th x))))) ∧ ((l4 - l3) ≤ l8 → ((l7 = 0 → (-2147483648 ≤ l6 + 1 ∧ l6 + 1 < 2147483648) ∧ wp cs mX4_isToken KD Q 15 [some (vR 11), some (vR b), some (vI l2), some (vI l3), some (vI l4), some (vI l5), some (vI (l6 + 1)), none, none] [] (KD, MI, ML, (GR d e nw th x))) ∧ (l7 ≠ 0 → Q (some (vI 1)) (MI, ML, (GR d e nw th x))))))))) :
    wp cs mX4_isToken KD Q 59 [some (vR 11), some (vR b), some (vI l2), some (vI l3), some (vI l4), some (vI l5), some (vI l6), some (vI l7), some (vI l8)] [] (KD, MI, ML, (GR d e nw th x)) := by
  refine wp_iload dX4_isToken_59 rfl ?_
  refine wp_if_eq (tgt := 119) dX4_isToken_61 (by decide) (fun h61 => ?_) (fun h61 => ?_)
  · replace h := h.1 h61
    refine wp_iload dX4_isToken_119 rfl ?_
    refine wp_if_eq (tgt := 126) dX4_isToken_121 (by decide) (fun h121 => ?_) (fun h121 => ?_)
    · replace h := h.1 h121
      have c0 := h.1
      replace h := h.2
      refine wp_iincr dX4_isToken_126 rfl (by decide) c0 (wp_L (L' := [some (vR 11), some (vR b), some (vI l2), some (vI l3), some (vI l4), some (vI l5), some (vI (l6 + 1)), some (vI l7), some (vI l8)]) rfl ?_)
      refine wp_goto (tgt := 15) dX4_isToken_129 (by decide) ?_
      refine wp_forget (L' := [some (vR 11), some (vR b), some (vI l2), some (vI l3), some (vI l4), some (vI l5), some (vI (l6 + 1)), none, none]) (by repeat' (first | exact trivial | refine ⟨rfl, ?_⟩)) ?_
      exact h
    · replace h := h.2 h121
      refine wp_iconst dX4_isToken_124 (by decide) ?_
      exact wp_zret dX4_isToken_125 rfl (by decide) (fun _ => h)
  · replace h := h.2 h61
    refine wp_iload dX4_isToken_64 rfl ?_
    refine wp_iload dX4_isToken_66 rfl ?_
    refine wp_iload_n dX4_isToken_68 rfl rfl ?_
    have c0 := h.1
    replace h := h.2
    refine wp_isubr dX4_isToken_69 c0 ?_
    refine wp_icmp_ge (tgt := 119) dX4_isToken_70 (by decide) (fun h70 => ?_) (fun h70 => ?_)
    · replace h := h.2 h70
      refine wp_iload dX4_isToken_119 rfl ?_
      refine wp_if_eq (tgt := 126) dX4_isToken_121 (by decide) (fun h121 => ?_) (fun h121 => ?_)
      · replace h := h.1 h121
        have c1 := h.1
        replace h := h.2
        refine wp_iincr dX4_isToken_126 rfl (by decide) c1 (wp_L (L' := [some (vR 11), some (vR b), some (vI l2), some (vI l3), some (vI l4), some (vI l5), some (vI (l6 + 1)), some (vI l7), some (vI l8)]) rfl ?_)
        refine wp_goto (tgt := 15) dX4_isToken_129 (by decide) ?_
        refine wp_forget (L' := [some (vR 11), some (vR b), some (vI l2), some (vI l3), some (vI l4), some (vI l5), some (vI (l6 + 1)), none, none]) (by repeat' (first | exact trivial | refine ⟨rfl, ?_⟩)) ?_
        exact h
      · replace h := h.2 h121
        refine wp_iconst dX4_isToken_124 (by decide) ?_
        exact wp_zret dX4_isToken_125 rfl (by decide) (fun _ => h)
    · replace h := h.1 h70
      refine wp_aload_n dX4_isToken_73 rfl rfl (by first | exact Or.inl (by decide) | exact Or.inl (by omega) | exact Or.inr (by decide) | exact Or.inr (by omega)) ?_
      refine wp_getR dX4_isToken_74 fX4_72 (show KD[b]? = some (7, 19) from kdb_0 hbd) (by omega) ?_
      refine wp_topR (x' := (b + 1)) (grb_0_0 hbd) ?_
      refine wp_getR dX4_isToken_77 fX4_151 (kdb_1 hbd) (by omega) ?_
      refine wp_topR (x' := (b + 2)) (grb_1_0 hbd) ?_
      refine wp_aload_n dX4_isToken_80 rfl rfl (by first | exact Or.inl (by decide) | exact Or.inl (by omega) | exact Or.inr (by decide) | exact Or.inr (by omega)) ?_
      refine wp_getR dX4_isToken_81 fX4_65 (show KD[b]? = some (7, 19) from kdb_0 hbd) (by omega) ?_
      refine wp_topR (x' := (b + 20)) (grb_0_2 hbd) ?_
      refine wp_getR dX4_isToken_84 fX4_154 (kdb_20 hbd) (by omega) ?_
      refine wp_topR (x' := (b + 30)) (grb_20_9 hbd) ?_
      refine wp_iload dX4_isToken_87 rfl ?_
      refine wp_pc (pc' := 89) rfl ?_
      have c1 := h.1
      replace h := h.2
      refine wp_iald dX4_isToken_89 (kdb_30 hbd) (by omega) c1 ?_
      refine wp_iload dX4_isToken_90 rfl ?_
      have c2 := h.1
      replace h := h.2
      refine wp_iaddr dX4_isToken_92 c2 ?_
      have c3 := h.1
      replace h := h.2
      refine wp_bald dX4_isToken_93 (kdb_2 hbd) (by omega) c3 ?_
      refine wp_aload_n dX4_isToken_94 rfl rfl (by first | exact Or.inl (by decide) | exact Or.inl (by omega) | exact Or.inr (by decide) | exact Or.inr (by omega)) ?_
      refine wp_getR dX4_isToken_95 fX4_132 (show KD[b]? = some (7, 19) from kdb_0 hbd) (by omega) ?_
      refine wp_topR (x' := (b + 41)) (grb_0_12 hbd) ?_
      refine wp_iload_n dX4_isToken_98 rfl rfl ?_
      refine wp_iload dX4_isToken_99 rfl ?_
      refine wp_pc (pc' := 101) rfl ?_
      have c4 := h.1
      replace h := h.2
      refine wp_iaddr dX4_isToken_101 c4 ?_
      have c5 := h.1
      replace h := h.2
      refine wp_bald dX4_isToken_102 (kdb_41 hbd) (by omega) c5 ?_
      refine wp_icmp_ne (tgt := 110) dX4_isToken_103 (by decide) (fun h103 => ?_) (fun h103 => ?_)
      · replace h := h.2 h103
        refine wp_iconst dX4_isToken_110 (by decide) ?_
        refine wp_istore dX4_isToken_111 (by decide) (wp_L (L' := [some (vR 11), some (vR b), some (vI l2), some (vI l3), some (vI l4), some (vI l5), some (vI l6), some (vI 0), some (vI l8)]) rfl ?_)
        have c6 := h.1
        replace h := h.2
        refine wp_iincr dX4_isToken_113 rfl (by decide) c6 (wp_L (L' := [some (vR 11), some (vR b), some (vI l2), some (vI l3), some (vI l4), some (vI l5), some (vI l6), some (vI 0), some (vI (l8 + 1))]) rfl ?_)
        refine wp_goto (tgt := 59) dX4_isToken_116 (by decide) ?_
        exact h
      · replace h := h.1 h103
        refine wp_iconst dX4_isToken_106 (by decide) ?_
        refine wp_goto (tgt := 111) dX4_isToken_107 (by decide) ?_
        refine wp_istore dX4_isToken_111 (by decide) (wp_L (L' := [some (vR 11), some (vR b), some (vI l2), some (vI l3), some (vI l4), some (vI l5), some (vI l6), some (vI 1), some (vI l8)]) rfl ?_)
        have c6 := h.1
        replace h := h.2
        refine wp_iincr dX4_isToken_113 rfl (by decide) c6 (wp_L (L' := [some (vR 11), some (vR b), some (vI l2), some (vI l3), some (vI l4), some (vI l5), some (vI l6), some (vI 1), some (vI (l8 + 1))]) rfl ?_)
        refine wp_goto (tgt := 59) dX4_isToken_116 (by decide) ?_
        exact h
theorem dX4_isOfType_0 : decode cX4_isOfType 0 = .ok (.aload_n 1, 1) := by decide +kernel
theorem dX4_isOfType_1 : decode cX4_isOfType 1 = .ok (.getfield 65, 3) := by decide +kernel
theorem dX4_isOfType_4 : decode cX4_isOfType 4 = .ok (.getfield 96, 3) := by decide +kernel
theorem dX4_isOfType_7 : decode cX4_isOfType 7 = .ok (.iload_n 2, 1) := by decide +kernel
theorem dX4_isOfType_8 : decode cX4_isOfType 8 = .ok (.iaload, 1) := by decide +kernel
theorem dX4_isOfType_9 : decode cX4_isOfType 9 = .ok (.iconst 1, 1) := by decide +kernel
theorem dX4_isOfType_10 : decode cX4_isOfType 10 = .ok (.if_icmp .ne 12, 3) := by decide +kernel
theorem dX4_isOfType_13 : decode cX4_isOfType 13 = .ok (.aload_n 0, 1) := by decide +kernel
theorem dX4_isOfType_14 : decode cX4_isOfType 14 = .ok (.aload_n 1, 1) := by decide +kernel
theorem dX4_isOfType_15 : decode cX4_isOfType 15 = .ok (.iload_n 3, 1) := by decide +kernel
theorem dX4_isOfType_16 : decode cX4_isOfType 16 = .ok (.iload 4, 2) := by decide +kernel
theorem dX4_isOfType_18 : decode cX4_isOfType 18 = .ok (.invokevirtual 123, 3) := by decide +kernel
theorem dX4_isOfType_21 : decode cX4_isOfType 21 = .ok (.ireturn, 1) := by decide +kernel
theorem dX4_isOfType_22 : decode cX4_isOfType 22 = .ok (.aload_n 1, 1) := by decide +kernel
theorem dX4_isOfType_23 : decode cX4_isOfType 23 = .ok (.getfield 65, 3) := by decide +kernel
theorem dX4_isOfType_26 : decode cX4_isOfType 26 = .ok (.getfield 96, 3) := by decide +kernel
theorem dX4_isOfType_29 : decode cX4_isOfType 29 = .ok (.iload_n 2, 1) := by decide +kernel
theorem dX4_isOfType_30 : decode cX4_isOfType 30 = .ok (.iaload, 1) := by decide +kernel
theorem dX4_isOfType_31 : decode cX4_isOfType 31 = .ok (.ifCond .eq 15, 3) := by decide +kernel
theorem dX4_isOfType_34 : decode cX4_isOfType 34 = .ok (.aload_n 0, 1) := by decide +kernel
theorem dX4_isOfType_35 : decode cX4_isOfType 35 = .ok (.aload_n 1, 1) := by decide +kernel
theorem dX4_isOfType_36 : decode cX4_isOfType 36 = .ok (.iload_n 2, 1) := by decide +kernel
theorem dX4_isOfType_37 : decode cX4_isOfType 37 = .ok (.iload_n 3, 1) := by decide +kernel
theorem dX4_isOfType_38 : decode cX4_isOfType 38 = .ok (.iload 4, 2) := by decide +kernel
theorem dX4_isOfType_40 : decode cX4_isOfType 40 = .ok (.invokevirtual 127, 3) := by decide +kernel
theorem dX4_isOfType_43 : decode cX4_isOfType 43 = .ok (.ifCond .eq 7, 3) := by decide +kernel
theorem dX4_isOfType_46 : decode cX4_isOfType 46 = .ok (.iconst 1, 1) := by decide +kernel
theorem dX4_isOfType_47 : decode cX4_isOfType 47 = .ok (.goto 4, 3) := by decide +kernel
theorem dX4_isOfType_50 : decode cX4_isOfType 50 = .ok (.iconst 0, 1) := by decide +kernel
theorem dX4_isOfType_51 : decode cX4_isOfType 51 = .ok (.ireturn, 1) := by decide +kernel
theorem v_X4_isOfType_0 {cs : Cs} {Q : Option AV → Mm → Prop} {MI ML : Nat → Nat → Int} {b d e nw th x : Nat} {l2 l3 l4 : Int} (hbd : b = 38 ∨ b = 81)
    (h : (0 ≤ l2 ∧ l2 < 750) ∧ (((MI (b + 23) l2.toNat) = 1 → wp cs mX4_isName KD (rI (GR d e nw th x) fun x18 m18 n18 => (x18 = 0 ∨ x18 = 1) ∧ Q (some (vI x18)) (m18, n18, (GR d e nw th x))) 0 (padL [vR 11, vR b, vI l3, vI l4] 5) [] (KD, MI, ML, (GR d e nw th x))) ∧ ((MI (b + 23) l2.toNat) ≠ 1 → (((MI (b + 23) l2.toNat) = 0 → Q (some (vI 1)) (MI, ML, (GR d e nw th x))) ∧ ((MI (b + 23) l2.toNat) ≠ 0 → wp cs mX4_isToken KD (rI (GR d e nw th x) fun x40 m40 n40 => ((x40 = 0 → Q (some (vI 0)) (m40, n40, (GR d e nw th x))) ∧ (x40 ≠ 0 → Q (some (vI 1)) (m40, n40, (GR d e nw th x))))) 0 (padL [vR 11, vR b, vI l2, vI l3, vI l4] 9) [] (KD, MI, ML, (GR d e nw th x))))))) :
    wp cs mX4_isOfType KD Q 0 (padL [vR 11, vR b, vI l2, vI l3, vI l4] 5) [] (KD, MI, ML, (GR d e nw th x)) := by
  refine wp_L (L' := [some (vR 11), some (vR b), some (vI l2), some (vI l3), some (vI l4)]) rfl ?_
  refine wp_aload_n dX4_isOfType_0 rfl rfl (by first | exact Or.inl (by decide) | exact Or.inl (by omega) | exact Or.inr (by decide) | exact Or.inr (by omega)) ?_
  refine wp_getR dX4_isOfType_1 fX4_65 (show KD[b]? = some (7, 19) from kdb_0 hbd) (by omega) ?_
  refine wp_topR (x' := (b + 20)) (grb_0_2 hbd) ?_
  refine wp_getR dX4_isOfType_4 fX4_96 (kdb_20 hbd) (by omega) ?_
  refine wp_topR (x' := (b + 23)) (grb_20_2 hbd) ?_
  refine wp_iload_n dX4_isOfType_7 rfl rfl ?_
  have c0 := h.1
  replace h := h.2
  refine wp_iald dX4_isOfType_8 (kdb_23 hbd) (by omega) c0 ?_
  refine wp_iconst dX4_isOfType_9 (by decide) ?_
  refine wp_icmp_ne (tgt := 22) dX4_isOfType_10 (by decide) (fun h10 => ?_) (fun h10 => ?_)
  · replace h := h.2 h10
    refine wp_aload_n dX4_isOfType_22 rfl rfl (by first | exact Or.inl (by decide) | exact Or.inl (by omega) | exact Or.inr (by decide) | exact Or.inr (by omega)) ?_
    refine wp_getR dX4_isOfType_23 fX4_65 (show KD[b]? = some (7, 19) from kdb_0 hbd) (by omega) ?_
    refine wp_topR (x' := (b + 20)) (grb_0_2 hbd) ?_
    refine wp_getR dX4_isOfType_26 fX4_96 (kdb_20 hbd) (by omega) ?_
    refine wp_topR (x' := (b + 23)) (grb_20_2 hbd) ?_
    refine wp_iload_n dX4_isOfType_29 rfl rfl ?_
    refine wp_iald dX4_isOfType_30 (kdb_23 hbd) (by omega) c0 ?_
    refine wp_if_eq (tgt := 46) dX4_isOfType_31 (by decide) (fun h31 => ?_) (fun h31 => ?_)
    · replace h := h.1 h31
      refine wp_iconst dX4_isOfType_46 (by decide) ?_
      refine wp_goto (tgt := 51) dX4_isOfType_47 (by decide) ?_
      exact wp_zret dX4_isOfType_51 rfl (by decide) (fun _ => h)
    · replace h := h.2 h31
      refine wp_aload_n dX4_isOfType_34 rfl rfl (by first | exact Or.inl (by decide) | exact Or.inl (by omega) | exact Or.inr (by decide) | exact Or.inr (by omega)) ?_
      refine wp_aload_n dX4_isOfType_35 rfl rfl (by first | exact Or.inl (by decide) | exact Or.inl (by omega) | exact Or.inr (by decide) | exact Or.inr (by omega)) ?_
      refine wp_iload_n dX4_isOfType_36 rfl rfl ?_
      refine wp_iload_n dX4_isOfType_37 rfl rfl ?_
      refine wp_iload dX4_isOfType_38 rfl ?_
      refine wp_cVq (n := 4) (mt' := mX4_isToken) (as := [vR b, vI l2, vI l3, vI l4]) (rest := []) _ dX4_isOfType_40 lX4_127 kX4_isToken vX4_isToken (by decide) (by decide +kernel) rfl (Nat.le_of_ble_eq_true rfl) (by decide) rfl rfl rfl (Nat.le_of_ble_eq_true rfl) (fun hM hS => h) (fun r M' hq hM => ?_)
      obtain ⟨x40, m40, n40, rfl, rfl, h⟩ := rI_out hq
      refine wp_if_eq (tgt := 50) dX4_isOfType_43 (by decide) (fun h43 => ?_) (fun h43 => ?_)
      · replace h := h.1 h43
        refine wp_iconst dX4_isOfType_50 (by decide) ?_
        exact wp_zret dX4_isOfType_51 rfl (by decide) (fun _ => h)
      · replace h := h.2 h43
        refine wp_iconst dX4_isOfType_46 (by decide) ?_
        refine wp_goto (tgt := 51) dX4_isOfType_47 (by decide) ?_
        exact wp_zret dX4_isOfType_51 rfl (by decide) (fun _ => h)
  · replace h := h.1 h10
    refine wp_aload_n dX4_isOfType_13 rfl rfl (by first | exact Or.inl (by decide) | exact Or.inl (by omega) | exact Or.inr (by decide) | exact Or.inr (by omega)) ?_
    refine wp_aload_n dX4_isOfType_14 rfl rfl (by first | exact Or.inl (by decide) | exact Or.inl (by omega) | exact Or.inr (by decide) | exact Or.inr (by omega)) ?_
    refine wp_iload_n dX4_isOfType_15 rfl rfl ?_
    refine wp_iload dX4_isOfType_16 rfl ?_
    refine wp_cVq (n := 3) (mt' := mX4_isName) (as := [vR b, vI l3, vI l4]) (rest := []) _ dX4_isOfType_18 lX4_123 kX4_isName vX4_isName (by decide) (by decide +kernel) rfl (Nat.le_of_ble_eq_true rfl) (by decide) rfl rfl rfl (Nat.le_of_ble_eq_true rfl) (fun hM hS => h) (fun r M' hq hM => ?_)
    obtain ⟨x18, m18, n18, rfl, rfl, h⟩ := rI_out hq
    exact wp_zret dX4_isOfType_21 rfl h.1 (fun _ => h.2)
theorem dX4_judgeRule_0 : decode cX4_judgeRule 0 = .ok (.aload_n 1, 1) := by decide +kernel
theorem dX4_judgeRule_1 : decode cX4_judgeRule 1 = .ok (.getfield 65, 3) := by decide +kernel
theorem dX4_judgeRule_4 : decode cX4_judgeRule 4 = .ok (.astore_n 3, 1) := by decide +kernel
theorem dX4_judgeRule_5 : decode cX4_judgeRule 5 = .ok (.aload_n 3, 1) := by decide +kernel
theorem dX4_judgeRule_6 : decode cX4_judgeRule 6 = .ok (.getfield 96, 3) := by decide +kernel
theorem dX4_judgeRule_9 : decode cX4_judgeRule 9 = .ok (.iload_n 2, 1) := by decide +kernel
theorem dX4_judgeRule_10 : decode cX4_judgeRule 10 = .ok (.iaload, 1) := by decide +kernel
theorem dX4_judgeRule_11 : decode cX4_judgeRule 11 = .ok (.iconst 1, 1) := by decide +kernel
theorem dX4_judgeRule_12 : decode cX4_judgeRule 12 = .ok (.if_icmp .ne 26, 3) := by decide +kernel
theorem dX4_judgeRule_15 : decode cX4_judgeRule 15 = .ok (.aload_n 3, 1) := by decide +kernel
theorem dX4_judgeRule_16 : decode cX4_judgeRule 16 = .ok (.iload_n 2, 1) := by decide +kernel
theorem dX4_judgeRule_17 : decode cX4_judgeRule 17 = .ok (.invokevirtual 99, 3) := by decide +kernel
theorem dX4_judgeRule_20 : decode cX4_judgeRule 20 = .ok (.ifCond .ne 12, 3) := by decide +kernel
theorem dX4_judgeRule_23 : decode cX4_judgeRule 23 = .ok (.aload_n 0, 1) := by decide +kernel
theorem dX4_judgeRule_24 : decode cX4_judgeRule 24 = .ok (.aload_n 1, 1) := by decide +kernel
theorem dX4_judgeRule_25 : decode cX4_judgeRule 25 = .ok (.iload_n 2, 1) := by decide +kernel
theorem dX4_judgeRule_26 : decode cX4_judgeRule 26 = .ok (.invokevirtual 102, 3) := by decide +kernel
theorem dX4_judgeRule_29 : decode cX4_judgeRule 29 = .ok (.ifCond .eq 9, 3) := by decide +kernel
theorem dX4_judgeRule_32 : decode cX4_judgeRule 32 = .ok (.aload_n 0, 1) := by decide +kernel
theorem dX4_judgeRule_33 : decode cX4_judgeRule 33 = .ok (.iconst 4, 1) := by decide +kernel
theorem dX4_judgeRule_34 : decode cX4_judgeRule 34 = .ok (.iload_n 2, 1) := by decide +kernel
theorem dX4_judgeRule_35 : decode cX4_judgeRule 35 = .ok (.invokevirtual 37, 3) := by decide +kernel
theorem dX4_judgeRule_38 : decode cX4_judgeRule 38 = .ok (.aload_n 3, 1) := by decide +kernel
theorem dX4_judgeRule_39 : decode cX4_judgeRule 39 = .ok (.iload_n 2, 1) := by decide +kernel
theorem dX4_judgeRule_40 : decode cX4_judgeRule 40 = .ok (.invokevirtual 99, 3) := by decide +kernel
theorem dX4_judgeRule_43 : decode cX4_judgeRule 43 = .ok (.ifCond .eq 30, 3) := by decide +kernel
theorem dX4_judgeRule_46 : decode cX4_judgeRule 46 = .ok (.aload_n 0, 1) := by decide +kernel
theorem dX4_judgeRule_47 : decode cX4_judgeRule 47 = .ok (.aload_n 1, 1) := by decide +kernel
theorem dX4_judgeRule_48 : decode cX4_judgeRule 48 = .ok (.iload_n 2, 1) := by decide +kernel
theorem dX4_judgeRule_49 : decode cX4_judgeRule 49 = .ok (.aload_n 3, 1) := by decide +kernel
theorem dX4_judgeRule_50 : decode cX4_judgeRule 50 = .ok (.getfield 106, 3) := by decide +kernel
theorem dX4_judgeRule_53 : decode cX4_judgeRule 53 = .ok (.iload_n 2, 1) := by decide +kernel
theorem dX4_judgeRule_54 : decode cX4_judgeRule 54 = .ok (.iaload, 1) := by decide +kernel
theorem dX4_judgeRule_55 : decode cX4_judgeRule 55 = .ok (.aload_n 3, 1) := by decide +kernel
theorem dX4_judgeRule_56 : decode cX4_judgeRule 56 = .ok (.getfield 109, 3) := by decide +kernel
theorem dX4_judgeRule_59 : decode cX4_judgeRule 59 = .ok (.iload_n 2, 1) := by decide +kernel
theorem dX4_judgeRule_60 : decode cX4_judgeRule 60 = .ok (.iaload, 1) := by decide +kernel
theorem dX4_judgeRule_61 : decode cX4_judgeRule 61 = .ok (.invokevirtual 112, 3) := by decide +kernel
theorem dX4_judgeRule_64 : decode cX4_judgeRule 64 = .ok (.ifCond .ne 9, 3) := by decide +kernel
theorem dX4_judgeRule_67 : decode cX4_judgeRule 67 = .ok (.aload_n 0, 1) := by decide +kernel
theorem dX4_judgeRule_68 : decode cX4_judgeRule 68 = .ok (.iconst 5, 1) := by decide +kernel
theorem dX4_judgeRule_69 : decode cX4_judgeRule 69 = .ok (.iload_n 2, 1) := by decide +kernel
theorem dX4_judgeRule_70 : decode cX4_judgeRule 70 = .ok (.invokevirtual 37, 3) := by decide +kernel
theorem dX4_judgeRule_73 : decode cX4_judgeRule 73 = .ok (.return_, 1) := by decide +kernel
theorem v_X4_judgeRule_0 {cs : Cs} {Q : Option AV → Mm → Prop} {MI ML : Nat → Nat → Int} {b d e nw th x : Nat} {l2 : Int} (hbd : b = 38 ∨ b = 81)
    (h : (0 ≤ l2 ∧ l2 < 750) ∧ (((MI (b + 23) l2.toNat) = 1 → wp cs mX7_hasValue KD (rI (GR d e nw th x) fun x17 m17 n17 => ((x17 = 0 → wp cs mX4_hasEarlierId KD (rI (GR d e nw th x) fun x26 m26 n26 => ((x26 = 0 → wp cs mX4_judgeRule KD Q 38 [some (vR 11), some (vR b), some (vI l2), some (vR (b + 20))] [] (KD, m26, n26, (GR d e nw th x))) ∧ (x26 ≠ 0 → wp cs mX4_report KD (rV (GR d e nw th x) fun m35 n35 => wp cs mX4_judgeRule KD Q 38 [some (vR 11), some (vR b), some (vI l2), some (vR (b + 20))] [] (KD, m35, n35, (GR d e nw th x))) 0 (padL [vR 11, vI 4, vI l2] 3) [] (KD, m26, n26, (GR d e nw th x))))) 0 (padL [vR 11, vR b, vI l2] 5) [] (KD, m17, n17, (GR d e nw th x))) ∧ (x17 ≠ 0 → wp cs mX4_report KD (rV (GR d e nw th x) fun m35 n35 => wp cs mX4_judgeRule KD Q 38 [some (vR 11), some (vR b), some (vI l2), some (vR (b + 20))] [] (KD, m35, n35, (GR d e nw th x))) 0 (padL [vR 11, vI 4, vI l2] 3) [] (KD, m17, n17, (GR d e nw th x))))) 0 (padL [vR (b + 20), vI l2] 2) [] (KD, MI, ML, (GR d e nw th x))) ∧ ((MI (b + 23) l2.toNat) ≠ 1 → wp cs mX4_judgeRule KD Q 38 [some (vR 11), some (vR b), some (vI l2), some (vR (b + 20))] [] (KD, MI, ML, (GR d e nw th x))))) :
    wp cs mX4_judgeRule KD Q 0 (padL [vR 11, vR b, vI l2] 4) [] (KD, MI, ML, (GR d e nw th x)) := by
  refine wp_L (L' := [some (vR 11), some (vR b), some (vI l2), none]) rfl ?_
  refine wp_aload_n dX4_judgeRule_0 rfl rfl (by first | exact Or.inl (by decide) | exact Or.inl (by omega) | exact Or.inr (by decide) | exact Or.inr (by omega)) ?_
  refine wp_getR dX4_judgeRule_1 fX4_65 (show KD[b]? = some (7, 19) from kdb_0 hbd) (by omega) ?_
  refine wp_topR (x' := (b + 20)) (grb_0_2 hbd) ?_
  refine wp_astore_n dX4_judgeRule_4 rfl (by first | exact Or.inl (by decide) | exact Or.inl (by omega)) (by decide) (wp_L (L' := [some (vR 11), some (vR b), some (vI l2), some (vR (b + 20))]) rfl ?_)
  refine wp_aload_n dX4_judgeRule_5 rfl rfl (by first | exact Or.inl (by decide) | exact Or.inl (by omega) | exact Or.inr (by decide) | exact Or.inr (by omega)) ?_
  refine wp_getR dX4_judgeRule_6 fX4_96 (kdb_20 hbd) (by omega) ?_
  refine wp_topR (x' := (b + 23)) (grb_20_2 hbd) ?_
  refine wp_iload_n dX4_judgeRule_9 rfl rfl ?_
  have c0 := h.1
  replace h := h.2
  refine wp_iald dX4_judgeRule_10 (kdb_23 hbd) (by omega) c0 ?_
  refine wp_pc (pc' := 11) rfl ?_
  refine wp_iconst dX4_judgeRule_11 (by decide) ?_
  refine wp_icmp_ne (tgt := 38) dX4_judgeRule_12 (by decide) (fun h12 => ?_) (fun h12 => ?_)
  · replace h := h.2 h12
    exact h
  · replace h := h.1 h12
    refine wp_aload_n dX4_judgeRule_15 rfl rfl (by first | exact Or.inl (by decide) | exact Or.inl (by omega) | exact Or.inr (by decide) | exact Or.inr (by omega)) ?_
    refine wp_iload_n dX4_judgeRule_16 rfl rfl ?_
    refine wp_cVq (n := 1) (mt' := mX7_hasValue) (as := [vI l2]) (rest := []) _ dX4_judgeRule_17 lX4_99 kX7_hasValue vX7_hasValue (by decide) (by decide +kernel) rfl (Nat.le_of_ble_eq_true rfl) (by omega) (kdb_20 hbd) rfl rfl (Nat.le_of_ble_eq_true rfl) (fun hM hS => h) (fun r M' hq hM => ?_)
    obtain ⟨x17, m17, n17, rfl, rfl, h⟩ := rI_out hq
    refine wp_if_ne (tgt := 32) dX4_judgeRule_20 (by decide) (fun h20 => ?_) (fun h20 => ?_)
    · replace h := h.2 h20
      refine wp_aload_n dX4_judgeRule_32 rfl rfl (by first | exact Or.inl (by decide) | exact Or.inl (by omega) | exact Or.inr (by decide) | exact Or.inr (by omega)) ?_
      refine wp_iconst dX4_judgeRule_33 (by decide) ?_
      refine wp_iload_n dX4_judgeRule_34 rfl rfl ?_
      refine wp_cVq (n := 2) (mt' := mX4_report) (as := [vI 4, vI l2]) (rest := []) _ dX4_judgeRule_35 lX4_37 kX4_report vX4_report (by decide) (by decide +kernel) rfl (Nat.le_of_ble_eq_true rfl) (by decide) rfl rfl rfl (Nat.le_of_ble_eq_true rfl) (fun hM hS => h) (fun r M' hq hM => ?_)
      obtain ⟨m35, n35, rfl, rfl, h⟩ := rV_out hq
      exact h
    · replace h := h.1 h20
      refine wp_aload_n dX4_judgeRule_23 rfl rfl (by first | exact Or.inl (by decide) | exact Or.inl (by omega) | exact Or.inr (by decide) | exact Or.inr (by omega)) ?_
      refine wp_aload_n dX4_judgeRule_24 rfl rfl (by first | exact Or.inl (by decide) | exact Or.inl (by omega) | exact Or.inr (by decide) | exact Or.inr (by omega)) ?_
      refine wp_iload_n dX4_judgeRule_25 rfl rfl ?_
      refine wp_cVq (n := 2) (mt' := mX4_hasEarlierId) (as := [vR b, vI l2]) (rest := []) _ dX4_judgeRule_26 lX4_102 kX4_hasEarlierId vX4_hasEarlierId (by decide) (by decide +kernel) rfl (Nat.le_of_ble_eq_true rfl) (by decide) rfl rfl rfl (Nat.le_of_ble_eq_true rfl) (fun hM hS => h) (fun r M' hq hM => ?_)
      obtain ⟨x26, m26, n26, rfl, rfl, h⟩ := rI_out hq
      refine wp_if_eq (tgt := 38) dX4_judgeRule_29 (by decide) (fun h29 => ?_) (fun h29 => ?_)
      · replace h := h.1 h29
        exact h
      · replace h := h.2 h29
        refine wp_aload_n dX4_judgeRule_32 rfl rfl (by first | exact Or.inl (by decide) | exact Or.inl (by omega) | exact Or.inr (by decide) | exact Or.inr (by omega)) ?_
        refine wp_iconst dX4_judgeRule_33 (by decide) ?_
        refine wp_iload_n dX4_judgeRule_34 rfl rfl ?_
        refine wp_cVq (n := 2) (mt' := mX4_report) (as := [vI 4, vI l2]) (rest := []) _ dX4_judgeRule_35 lX4_37 kX4_report vX4_report (by decide) (by decide +kernel) rfl (Nat.le_of_ble_eq_true rfl) (by decide) rfl rfl rfl (Nat.le_of_ble_eq_true rfl) (fun hM hS => h) (fun r M' hq hM => ?_)
        obtain ⟨m35, n35, rfl, rfl, h⟩ := rV_out hq
        exact h
theorem v_X4_judgeRule_38 {cs : Cs} {Q : Option AV → Mm → Prop} {MI ML : Nat → Nat → Int} {b d e nw th x : Nat} {l2 : Int} (hbd : b = 38 ∨ b = 81)
    (h : wp cs mX7_hasValue KD (rI (GR d e nw th x) fun x40 m40 n40 => ((x40 = 0 → Q none (m40, n40, (GR d e nw th x))) ∧ (x40 ≠ 0 → (0 ≤ l2 ∧ l2 < 750) ∧ wp cs mX4_isOfType KD (rI (GR d e nw th x) fun x61 m61 n61 => ((x61 = 0 → wp cs mX4_report KD (rV (GR d e nw th x) fun m70 n70 => Q none (m70, n70, (GR d e nw th x))) 0 (padL [vR 11, vI 5, vI l2] 3) [] (KD, m61, n61, (GR d e nw th x))) ∧ (x61 ≠ 0 → Q none (m61, n61, (GR d e nw th x))))) 0 (padL [vR 11, vR b, vI l2, vI (m40 (b + 27) l2.toNat), vI (m40 (b + 28) l2.toNat)] 5) [] (KD, m40, n40, (GR d e nw th x))))) 0 (padL [vR (b + 20), vI l2] 2) [] (KD, MI, ML, (GR d e nw th x))) :
    wp cs mX4_judgeRule KD Q 38 [some (vR 11), some (vR b), some (vI l2), some (vR (b + 20))] [] (KD, MI, ML, (GR d e nw th x)) := by
  refine wp_aload_n dX4_judgeRule_38 rfl rfl (by first | exact Or.inl (by decide) | exact Or.inl (by omega) | exact Or.inr (by decide) | exact Or.inr (by omega)) ?_
  refine wp_iload_n dX4_judgeRule_39 rfl rfl ?_
  refine wp_cVq (n := 1) (mt' := mX7_hasValue) (as := [vI l2]) (rest := []) _ dX4_judgeRule_40 lX4_99 kX7_hasValue vX7_hasValue (by decide) (by decide +kernel) rfl (Nat.le_of_ble_eq_true rfl) (by omega) (kdb_20 hbd) rfl rfl (Nat.le_of_ble_eq_true rfl) (fun hM hS => h) (fun r M' hq hM => ?_)
  obtain ⟨x40, m40, n40, rfl, rfl, h⟩ := rI_out hq
  refine wp_if_eq (tgt := 73) dX4_judgeRule_43 (by decide) (fun h43 => ?_) (fun h43 => ?_)
  · replace h := h.1 h43
    exact wp_vret dX4_judgeRule_73 rfl (fun _ => h)
  · replace h := h.2 h43
    refine wp_aload_n dX4_judgeRule_46 rfl rfl (by first | exact Or.inl (by decide) | exact Or.inl (by omega) | exact Or.inr (by decide) | exact Or.inr (by omega)) ?_
    refine wp_aload_n dX4_judgeRule_47 rfl rfl (by first | exact Or.inl (by decide) | exact Or.inl (by omega) | exact Or.inr (by decide) | exact Or.inr (by omega)) ?_
    refine wp_iload_n dX4_judgeRule_48 rfl rfl ?_
    refine wp_aload_n dX4_judgeRule_49 rfl rfl (by first | exact Or.inl (by decide) | exact Or.inl (by omega) | exact Or.inr (by decide) | exact Or.inr (by omega)) ?_
    refine wp_getR dX4_judgeRule_50 fX4_106 (kdb_20 hbd) (by omega) ?_
    refine wp_topR (x' := (b + 27)) (grb_20_6 hbd) ?_
    refine wp_iload_n dX4_judgeRule_53 rfl rfl ?_
    have c0 := h.1
    replace h := h.2
    refine wp_iald dX4_judgeRule_54 (kdb_27 hbd) (by omega) c0 ?_
    refine wp_pc (pc' := 55) rfl ?_
    refine wp_aload_n dX4_judgeRule_55 rfl rfl (by first | exact Or.inl (by decide) | exact Or.inl (by omega) | exact Or.inr (by decide) | exact Or.inr (by omega)) ?_
    refine wp_getR dX4_judgeRule_56 fX4_109 (kdb_20 hbd) (by omega) ?_
    refine wp_topR (x' := (b + 28)) (grb_20_7 hbd) ?_
    refine wp_iload_n dX4_judgeRule_59 rfl rfl ?_
    refine wp_iald dX4_judgeRule_60 (kdb_28 hbd) (by omega) c0 ?_
    refine wp_cVq (n := 4) (mt' := mX4_isOfType) (as := [vR b, vI l2, vI (m40 (b + 27) l2.toNat), vI (m40 (b + 28) l2.toNat)]) (rest := []) _ dX4_judgeRule_61 lX4_112 kX4_isOfType vX4_isOfType (by decide) (by decide +kernel) rfl (Nat.le_of_ble_eq_true rfl) (by decide) rfl rfl rfl (Nat.le_of_ble_eq_true rfl) (fun hM hS => h) (fun r M' hq hM => ?_)
    obtain ⟨x61, m61, n61, rfl, rfl, h⟩ := rI_out hq
    refine wp_if_ne (tgt := 73) dX4_judgeRule_64 (by decide) (fun h64 => ?_) (fun h64 => ?_)
    · replace h := h.2 h64
      exact wp_vret dX4_judgeRule_73 rfl (fun _ => h)
    · replace h := h.1 h64
      refine wp_aload_n dX4_judgeRule_67 rfl rfl (by first | exact Or.inl (by decide) | exact Or.inl (by omega) | exact Or.inr (by decide) | exact Or.inr (by omega)) ?_
      refine wp_iconst dX4_judgeRule_68 (by decide) ?_
      refine wp_iload_n dX4_judgeRule_69 rfl rfl ?_
      refine wp_cVq (n := 2) (mt' := mX4_report) (as := [vI 5, vI l2]) (rest := []) _ dX4_judgeRule_70 lX4_37 kX4_report vX4_report (by decide) (by decide +kernel) rfl (Nat.le_of_ble_eq_true rfl) (by decide) rfl rfl rfl (Nat.le_of_ble_eq_true rfl) (fun hM hS => h) (fun r M' hq hM => ?_)
      obtain ⟨m70, n70, rfl, rfl, h⟩ := rV_out hq
      exact wp_vret dX4_judgeRule_73 rfl (fun _ => h)
theorem dX9_repeats_0 : decode cX9_repeats 0 = .ok (.iconst 0, 1) := by decide +kernel
theorem dX9_repeats_1 : decode cX9_repeats 1 = .ok (.istore 4, 2) := by decide +kernel
theorem dX9_repeats_3 : decode cX9_repeats 3 = .ok (.iload 4, 2) := by decide +kernel
theorem dX9_repeats_5 : decode cX9_repeats 5 = .ok (.aload_n 0, 1) := by decide +kernel
theorem dX9_repeats_6 : decode cX9_repeats 6 = .ok (.getfield 21, 3) := by decide +kernel
theorem dX9_repeats_9 : decode cX9_repeats 9 = .ok (.iload_n 1, 1) := by decide +kernel
theorem dX9_repeats_10 : decode cX9_repeats 10 = .ok (.iaload, 1) := by decide +kernel
theorem dX9_repeats_11 : decode cX9_repeats 11 = .ok (.if_icmp .ge 41, 3) := by decide +kernel
theorem dX9_repeats_14 : decode cX9_repeats 14 = .ok (.lload_n 2, 1) := by decide +kernel
theorem dX9_repeats_15 : decode cX9_repeats 15 = .ok (.iload 4, 2) := by decide +kernel
theorem dX9_repeats_17 : decode cX9_repeats 17 = .ok (.lushr, 1) := by decide +kernel
theorem dX9_repeats_18 : decode cX9_repeats 18 = .ok (.lconst 1, 1) := by decide +kernel
theorem dX9_repeats_19 : decode cX9_repeats 19 = .ok (.land, 1) := by decide +kernel
theorem dX9_repeats_20 : decode cX9_repeats 20 = .ok (.lconst 0, 1) := by decide +kernel
theorem dX9_repeats_21 : decode cX9_repeats 21 = .ok (.lcmp, 1) := by decide +kernel
theorem dX9_repeats_22 : decode cX9_repeats 22 = .ok (.ifCond .eq 24, 3) := by decide +kernel
theorem dX9_repeats_25 : decode cX9_repeats 25 = .ok (.lload_n 2, 1) := by decide +kernel
theorem dX9_repeats_26 : decode cX9_repeats 26 = .ok (.aload_n 0, 1) := by decide +kernel
theorem dX9_repeats_27 : decode cX9_repeats 27 = .ok (.getfield 31, 3) := by decide +kernel
theorem dX9_repeats_30 : decode cX9_repeats 30 = .ok (.iload_n 1, 1) := by decide +kernel
theorem dX9_repeats_31 : decode cX9_repeats 31 = .ok (.bipush 40, 2) := by decide +kernel
theorem dX9_repeats_33 : decode cX9_repeats 33 = .ok (.imul, 1) := by decide +kernel
theorem dX9_repeats_34 : decode cX9_repeats 34 = .ok (.iload 4, 2) := by decide +kernel
theorem dX9_repeats_36 : decode cX9_repeats 36 = .ok (.iadd, 1) := by decide +kernel
theorem dX9_repeats_37 : decode cX9_repeats 37 = .ok (.laload, 1) := by decide +kernel
theorem dX9_repeats_38 : decode cX9_repeats 38 = .ok (.land, 1) := by decide +kernel
theorem dX9_repeats_39 : decode cX9_repeats 39 = .ok (.lconst 0, 1) := by decide +kernel
theorem dX9_repeats_40 : decode cX9_repeats 40 = .ok (.lcmp, 1) := by decide +kernel
theorem dX9_repeats_41 : decode cX9_repeats 41 = .ok (.ifCond .eq 5, 3) := by decide +kernel
theorem dX9_repeats_44 : decode cX9_repeats 44 = .ok (.iconst 1, 1) := by decide +kernel
theorem dX9_repeats_45 : decode cX9_repeats 45 = .ok (.ireturn, 1) := by decide +kernel
theorem dX9_repeats_46 : decode cX9_repeats 46 = .ok (.iinc 4 1, 3) := by decide +kernel
theorem dX9_repeats_49 : decode cX9_repeats 49 = .ok (.goto (-46), 3) := by decide +kernel
theorem dX9_repeats_52 : decode cX9_repeats 52 = .ok (.iconst 0, 1) := by decide +kernel
theorem dX9_repeats_53 : decode cX9_repeats 53 = .ok (.ireturn, 1) := by decide +kernel
theorem v_X9_repeats_0 {cs : Cs} {Q : Option AV → Mm → Prop} {MI ML : Nat → Nat → Int} {b d e nw th x : Nat} {l1 l2 : Int}
    (h : wp cs mX9_repeats KD Q 3 [some (vR (b + 9)), some (vI l1), some (vL l2), none, some (vI 0)] [] (KD, MI, ML, (GR d e nw th x))) :
    wp cs mX9_repeats KD Q 0 (padL [vR (b + 9), vI l1, vL l2] 5) [] (KD, MI, ML, (GR d e nw th x)) := by
  refine wp_L (L' := [some (vR (b + 9)), some (vI l1), some (vL l2), none, none]) rfl ?_
  refine wp_iconst dX9_repeats_0 (by decide) ?_
  refine wp_istore dX9_repeats_1 (by decide) (wp_L (L' := [some (vR (b + 9)), some (vI l1), some (vL l2), none, some (vI 0)]) rfl ?_)
  exact h
theorem v_X9_repeats_3 {cs : Cs} {Q : Option AV → Mm → Prop} {MI ML : Nat → Nat → Int} {b d e nw th x : Nat} {l1 l2 l4 : Int} (hbd : b = 38 ∨ b = 81)
    (h : (0 ≤ l1 ∧ l1 < 30) ∧ ((l4 < (MI (b + 13) l1.toNat) → (((l_and (l_ushr l2 l4) 1) = 0 → (-2147483648 ≤ l4 + 1 ∧ l4 + 1 < 2147483648) ∧ wp cs mX9_repeats KD Q 3 [some (vR (b + 9)), some (vI l1), some (vL l2), none, some (vI (l4 + 1))] [] (KD, MI, ML, (GR d e nw th x))) ∧ ((l_and (l_ushr l2 l4) 1) ≠ 0 → (-2147483648 ≤ l1 * 40 ∧ l1 * 40 < 2147483648) ∧ (-2147483648 ≤ (l1 * 40) + l4 ∧ (l1 * 40) + l4 < 2147483648) ∧ (0 ≤ ((l1 * 40) + l4) ∧ ((l1 * 40) + l4) < 1200) ∧ (((l_and l2 (ML (b + 16) ((l1 * 40) + l4).toNat)) = 0 → (-2147483648 ≤ l4 + 1 ∧ l4 + 1 < 2147483648) ∧ wp cs mX9_repeats KD Q 3 [some (vR (b + 9)), some (vI l1), some (vL l2), none, some (vI (l4 + 1))] [] (KD, MI, ML, (GR d e nw th x))) ∧ ((l_and l2 (ML (b + 16) ((l1 * 40) + l4).toNat)) ≠ 0 → Q (some (vI 1)) (MI, ML, (GR d e nw th x))))))) ∧ ((MI (b + 13) l1.toNat) ≤ l4 → Q (some (vI 0)) (MI, ML, (GR d e nw th x))))) :
    wp cs mX9_repeats KD Q 3 [some (vR (b + 9)), some (vI l1), some (vL l2), none, some (vI l4)] [] (KD, MI, ML, (GR d e nw th x)) := by
  refine wp_iload dX9_repeats_3 rfl ?_
  refine wp_aload_n dX9_repeats_5 rfl rfl (by first | exact Or.inl (by decide) | exact Or.inl (by omega) | exact Or.inr (by decide) | exact Or.inr (by omega)) ?_
  refine wp_getR dX9_repeats_6 fX9_21 (kdb_9 hbd) (by omega) ?_
  refine wp_topR (x' := (b + 13)) (grb_9_3 hbd) ?_
  refine wp_iload_n dX9_repeats_9 rfl rfl ?_
  have c0 := h.1
  replace h := h.2
  refine wp_iald dX9_repeats_10 (kdb_13 hbd) (by omega) c0 ?_
  refine wp_icmp_ge (tgt := 52) dX9_repeats_11 (by decide) (fun h11 => ?_) (fun h11 => ?_)
  · replace h := h.2 h11
    refine wp_iconst dX9_repeats_52 (by decide) ?_
    exact wp_zret dX9_repeats_53 rfl (by decide) (fun _ => h)
  · replace h := h.1 h11
    refine wp_lload_n dX9_repeats_14 rfl rfl ?_
    refine wp_iload dX9_repeats_15 rfl ?_
    refine wp_lushr dX9_repeats_17 ?_
    refine wp_lconst (z := 1) dX9_repeats_18 (by decide +kernel) (by decide) ?_
    refine wp_land dX9_repeats_19 ?_
    refine wp_lconst (z := 0) dX9_repeats_20 (by decide +kernel) (by decide) ?_
    refine wp_lcmp dX9_repeats_21 ?_
    refine wp_pc (pc' := 22) rfl ?_
    refine wp_if_eq (tgt := 46) dX9_repeats_22 (by decide) (fun h22 => ?_) (fun h22 => ?_)
    · replace h := h.1 (l_cmp_z h22)
      have c1 := h.1
      replace h := h.2
      refine wp_iincr dX9_repeats_46 rfl (by decide) c1 (wp_L (L' := [some (vR (b + 9)), some (vI l1), some (vL l2), none, some (vI (l4 + 1))]) rfl ?_)
      refine wp_goto (tgt := 3) dX9_repeats_49 (by decide) ?_
      exact h
    · replace h := h.2 (l_cmp_nz h22)
      refine wp_lload_n dX9_repeats_25 rfl rfl ?_
      refine wp_aload_n dX9_repeats_26 rfl rfl (by first | exact Or.inl (by decide) | exact Or.inl (by omega) | exact Or.inr (by decide) | exact Or.inr (by omega)) ?_
      refine wp_getR dX9_repeats_27 fX9_31 (kdb_9 hbd) (by omega) ?_
      refine wp_topR (x' := (b + 16)) (grb_9_6 hbd) ?_
      refine wp_iload_n dX9_repeats_30 rfl rfl ?_
      refine wp_bipush dX9_repeats_31 (by decide +kernel) (by decide) ?_
      have c1 := h.1
      replace h := h.2
      refine wp_imulr dX9_repeats_33 c1 ?_
      refine wp_iload dX9_repeats_34 rfl ?_
      refine wp_pc (pc' := 36) rfl ?_
      have c2 := h.1
      replace h := h.2
      refine wp_iaddr dX9_repeats_36 c2 ?_
      have c3 := h.1
      replace h := h.2
      refine wp_lald dX9_repeats_37 (kdb_16 hbd) (by omega) c3 ?_
      refine wp_land dX9_repeats_38 ?_
      refine wp_lconst (z := 0) dX9_repeats_39 (by decide +kernel) (by decide) ?_
      refine wp_lcmp dX9_repeats_40 ?_
      refine wp_if_eq (tgt := 46) dX9_repeats_41 (by decide) (fun h41 => ?_) (fun h41 => ?_)
      · replace h := h.1 (l_cmp_z h41)
        have c4 := h.1
        replace h := h.2
        refine wp_iincr dX9_repeats_46 rfl (by decide) c4 (wp_L (L' := [some (vR (b + 9)), some (vI l1), some (vL l2), none, some (vI (l4 + 1))]) rfl ?_)
        refine wp_goto (tgt := 3) dX9_repeats_49 (by decide) ?_
        exact h
      · replace h := h.2 (l_cmp_nz h41)
        refine wp_iconst dX9_repeats_44 (by decide) ?_
        exact wp_zret dX9_repeats_45 rfl (by decide) (fun _ => h)
theorem dX9_isDeterministic_0 : decode cX9_isDeterministic 0 = .ok (.aload_n 0, 1) := by decide +kernel
theorem dX9_isDeterministic_1 : decode cX9_isDeterministic 1 = .ok (.iload_n 1, 1) := by decide +kernel
theorem dX9_isDeterministic_2 : decode cX9_isDeterministic 2 = .ok (.aload_n 0, 1) := by decide +kernel
theorem dX9_isDeterministic_3 : decode cX9_isDeterministic 3 = .ok (.getfield 34, 3) := by decide +kernel
theorem dX9_isDeterministic_6 : decode cX9_isDeterministic 6 = .ok (.iload_n 1, 1) := by decide +kernel
theorem dX9_isDeterministic_7 : decode cX9_isDeterministic 7 = .ok (.laload, 1) := by decide +kernel
theorem dX9_isDeterministic_8 : decode cX9_isDeterministic 8 = .ok (.invokevirtual 54, 3) := by decide +kernel
theorem dX9_isDeterministic_11 : decode cX9_isDeterministic 11 = .ok (.ifCond .eq 5, 3) := by decide +kernel
theorem dX9_isDeterministic_14 : decode cX9_isDeterministic 14 = .ok (.iconst 0, 1) := by decide +kernel
theorem dX9_isDeterministic_15 : decode cX9_isDeterministic 15 = .ok (.ireturn, 1) := by decide +kernel
theorem dX9_isDeterministic_16 : decode cX9_isDeterministic 16 = .ok (.iconst 0, 1) := by decide +kernel
theorem dX9_isDeterministic_17 : decode cX9_isDeterministic 17 = .ok (.istore_n 2, 1) := by decide +kernel
theorem dX9_isDeterministic_18 : decode cX9_isDeterministic 18 = .ok (.iload_n 2, 1) := by decide +kernel
theorem dX9_isDeterministic_19 : decode cX9_isDeterministic 19 = .ok (.aload_n 0, 1) := by decide +kernel
theorem dX9_isDeterministic_20 : decode cX9_isDeterministic 20 = .ok (.getfield 21, 3) := by decide +kernel
theorem dX9_isDeterministic_23 : decode cX9_isDeterministic 23 = .ok (.iload_n 1, 1) := by decide +kernel
theorem dX9_isDeterministic_24 : decode cX9_isDeterministic 24 = .ok (.iaload, 1) := by decide +kernel
theorem dX9_isDeterministic_25 : decode cX9_isDeterministic 25 = .ok (.if_icmp .ge 30, 3) := by decide +kernel
theorem dX9_isDeterministic_28 : decode cX9_isDeterministic 28 = .ok (.aload_n 0, 1) := by decide +kernel
theorem dX9_isDeterministic_29 : decode cX9_isDeterministic 29 = .ok (.iload_n 1, 1) := by decide +kernel
theorem dX9_isDeterministic_30 : decode cX9_isDeterministic 30 = .ok (.aload_n 0, 1) := by decide +kernel
theorem dX9_isDeterministic_31 : decode cX9_isDeterministic 31 = .ok (.getfield 27, 3) := by decide +kernel
theorem dX9_isDeterministic_34 : decode cX9_isDeterministic 34 = .ok (.iload_n 1, 1) := by decide +kernel
theorem dX9_isDeterministic_35 : decode cX9_isDeterministic 35 = .ok (.bipush 40, 2) := by decide +kernel
theorem dX9_isDeterministic_37 : decode cX9_isDeterministic 37 = .ok (.imul, 1) := by decide +kernel
theorem dX9_isDeterministic_38 : decode cX9_isDeterministic 38 = .ok (.iload_n 2, 1) := by decide +kernel
theorem dX9_isDeterministic_39 : decode cX9_isDeterministic 39 = .ok (.iadd, 1) := by decide +kernel
theorem dX9_isDeterministic_40 : decode cX9_isDeterministic 40 = .ok (.laload, 1) := by decide +kernel
theorem dX9_isDeterministic_41 : decode cX9_isDeterministic 41 = .ok (.invokevirtual 54, 3) := by decide +kernel
theorem dX9_isDeterministic_44 : decode cX9_isDeterministic 44 = .ok (.ifCond .eq 5, 3) := by decide +kernel
theorem dX9_isDeterministic_47 : decode cX9_isDeterministic 47 = .ok (.iconst 0, 1) := by decide +kernel
theorem dX9_isDeterministic_48 : decode cX9_isDeterministic 48 = .ok (.ireturn, 1) := by decide +kernel
theorem dX9_isDeterministic_49 : decode cX9_isDeterministic 49 = .ok (.iinc 2 1, 3) := by decide +kernel
theorem dX9_isDeterministic_52 : decode cX9_isDeterministic 52 = .ok (.goto (-34), 3) := by decide +kernel
theorem dX9_isDeterministic_55 : decode cX9_isDeterministic 55 = .ok (.iconst 1, 1) := by decide +kernel
theorem dX9_isDeterministic_56 : decode cX9_isDeterministic 56 = .ok (.ireturn, 1) := by decide +kernel
theorem v_X9_isDeterministic_0 {cs : Cs} {Q : Option AV → Mm → Prop} {MI ML : Nat → Nat → Int} {b d e nw th x : Nat} {l1 : Int} (hbd : b = 38 ∨ b = 81)
    (h : (0 ≤ l1 ∧ l1 < 30) ∧ wp cs mX9_repeats KD (rI (GR d e nw th x) fun x8 m8 n8 => ((x8 = 0 → wp cs mX9_isDeterministic KD Q 18 [some (vR (b + 9)), some (vI l1), some (vI 0)] [] (KD, m8, n8, (GR d e nw th x))) ∧ (x8 ≠ 0 → Q (some (vI 0)) (m8, n8, (GR d e nw th x))))) 0 (padL [vR (b + 9), vI l1, vL (ML (b + 17) l1.toNat)] 5) [] (KD, MI, ML, (GR d e nw th x))) :
    wp cs mX9_isDeterministic KD Q 0 (padL [vR (b + 9), vI l1] 3) [] (KD, MI, ML, (GR d e nw th x)) := by
  refine wp_L (L' := [some (vR (b + 9)), some (vI l1), none]) rfl ?_
  refine wp_aload_n dX9_isDeterministic_0 rfl rfl (by first | exact Or.inl (by decide) | exact Or.inl (by omega) | exact Or.inr (by decide) | exact Or.inr (by omega)) ?_
  refine wp_iload_n dX9_isDeterministic_1 rfl rfl ?_
  refine wp_aload_n dX9_isDeterministic_2 rfl rfl (by first | exact Or.inl (by decide) | exact Or.inl (by omega) | exact Or.inr (by decide) | exact Or.inr (by omega)) ?_
  refine wp_getR dX9_isDeterministic_3 fX9_34 (kdb_9 hbd) (by omega) ?_
  refine wp_topR (x' := (b + 17)) (grb_9_7 hbd) ?_
  refine wp_iload_n dX9_isDeterministic_6 rfl rfl ?_
  have c0 := h.1
  replace h := h.2
  refine wp_lald dX9_isDeterministic_7 (kdb_17 hbd) (by omega) c0 ?_
  refine wp_cVq (n := 2) (mt' := mX9_repeats) (as := [vI l1, vL (ML (b + 17) l1.toNat)]) (rest := []) _ dX9_isDeterministic_8 lX9_54 kX9_repeats vX9_repeats (by decide) (by decide +kernel) rfl (Nat.le_of_ble_eq_true rfl) (by omega) (kdb_9 hbd) rfl rfl (Nat.le_of_ble_eq_true rfl) (fun hM hS => h) (fun r M' hq hM => ?_)
  obtain ⟨x8, m8, n8, rfl, rfl, h⟩ := rI_out hq
  refine wp_if_eq (tgt := 16) dX9_isDeterministic_11 (by decide) (fun h11 => ?_) (fun h11 => ?_)
  · replace h := h.1 h11
    refine wp_iconst dX9_isDeterministic_16 (by decide) ?_
    refine wp_istore_n dX9_isDeterministic_17 rfl (by decide) (wp_L (L' := [some (vR (b + 9)), some (vI l1), some (vI 0)]) rfl ?_)
    exact h
  · replace h := h.2 h11
    refine wp_iconst dX9_isDeterministic_14 (by decide) ?_
    exact wp_zret dX9_isDeterministic_15 rfl (by decide) (fun _ => h)
theorem v_X9_isDeterministic_18 {cs : Cs} {Q : Option AV → Mm → Prop} {MI ML : Nat → Nat → Int} {b d e nw th x : Nat} {l1 l2 : Int} (hbd : b = 38 ∨ b = 81)
    (h : (0 ≤ l1 ∧ l1 < 30) ∧ ((l2 < (MI (b + 13) l1.toNat) → (-2147483648 ≤ l1 * 40 ∧ l1 * 40 < 2147483648) ∧ (-2147483648 ≤ (l1 * 40) + l2 ∧ (l1 * 40) + l2 < 2147483648) ∧ (0 ≤ ((l1 * 40) + l2) ∧ ((l1 * 40) + l2) < 1200) ∧ wp cs mX9_repeats KD (rI (GR d e nw th x) fun x41 m41 n41 => ((x41 = 0 → (-2147483648 ≤ l2 + 1 ∧ l2 + 1 < 2147483648) ∧ wp cs mX9_isDeterministic KD Q 18 [some (vR (b + 9)), some (vI l1), some (vI (l2 + 1))] [] (KD, m41, n41, (GR d e nw th x))) ∧ (x41 ≠ 0 → Q (some (vI 0)) (m41, n41, (GR d e nw th x))))) 0 (padL [vR (b + 9), vI l1, vL (ML (b + 15) ((l1 * 40) + l2).toNat)] 5) [] (KD, MI, ML, (GR d e nw th x))) ∧ ((MI (b + 13) l1.toNat) ≤ l2 → Q (some (vI 1)) (MI, ML, (GR d e nw th x))))) :
    wp cs mX9_isDeterministic KD Q 18 [some (vR (b + 9)), some (vI l1), some (vI l2)] [] (KD, MI, ML, (GR d e nw th x)) := by
  refine wp_iload_n dX9_isDeterministic_18 rfl rfl ?_
  refine wp_aload_n dX9_isDeterministic_19 rfl rfl (by first | exact Or.inl (by decide) | exact Or.inl (by omega) | exact Or.inr (by decide) | exact Or.inr (by omega)) ?_
  refine wp_getR dX9_isDeterministic_20 fX9_21 (kdb_9 hbd) (by omega) ?_
  refine wp_topR (x' := (b + 13)) (grb_9_3 hbd) ?_
  refine wp_iload_n dX9_isDeterministic_23 rfl rfl ?_
  have c0 := h.1
  replace h := h.2
  refine wp_iald dX9_isDeterministic_24 (kdb_13 hbd) (by omega) c0 ?_
  refine wp_icmp_ge (tgt := 55) dX9_isDeterministic_25 (by decide) (fun h25 => ?_) (fun h25 => ?_)
  · replace h := h.2 h25
    refine wp_iconst dX9_isDeterministic_55 (by decide) ?_
    exact wp_zret dX9_isDeterministic_56 rfl (by decide) (fun _ => h)
  · replace h := h.1 h25
    refine wp_aload_n dX9_isDeterministic_28 rfl rfl (by first | exact Or.inl (by decide) | exact Or.inl (by omega) | exact Or.inr (by decide) | exact Or.inr (by omega)) ?_
    refine wp_iload_n dX9_isDeterministic_29 rfl rfl ?_
    refine wp_aload_n dX9_isDeterministic_30 rfl rfl (by first | exact Or.inl (by decide) | exact Or.inl (by omega) | exact Or.inr (by decide) | exact Or.inr (by omega)) ?_
    refine wp_getR dX9_isDeterministic_31 fX9_27 (kdb_9 hbd) (by omega) ?_
    refine wp_topR (x' := (b + 15)) (grb_9_5 hbd) ?_
    refine wp_iload_n dX9_isDeterministic_34 rfl rfl ?_
    refine wp_bipush dX9_isDeterministic_35 (by decide +kernel) (by decide) ?_
    have c1 := h.1
    replace h := h.2
    refine wp_imulr dX9_isDeterministic_37 c1 ?_
    refine wp_pc (pc' := 38) rfl ?_
    refine wp_iload_n dX9_isDeterministic_38 rfl rfl ?_
    have c2 := h.1
    replace h := h.2
    refine wp_iaddr dX9_isDeterministic_39 c2 ?_
    have c3 := h.1
    replace h := h.2
    refine wp_lald dX9_isDeterministic_40 (kdb_15 hbd) (by omega) c3 ?_
    refine wp_cVq (n := 2) (mt' := mX9_repeats) (as := [vI l1, vL (ML (b + 15) ((l1 * 40) + l2).toNat)]) (rest := []) _ dX9_isDeterministic_41 lX9_54 kX9_repeats vX9_repeats (by decide) (by decide +kernel) rfl (Nat.le_of_ble_eq_true rfl) (by omega) (kdb_9 hbd) rfl rfl (Nat.le_of_ble_eq_true rfl) (fun hM hS => h) (fun r M' hq hM => ?_)
    obtain ⟨x41, m41, n41, rfl, rfl, h⟩ := rI_out hq
    refine wp_if_eq (tgt := 49) dX9_isDeterministic_44 (by decide) (fun h44 => ?_) (fun h44 => ?_)
    · replace h := h.1 h44
      have c4 := h.1
      replace h := h.2
      refine wp_iincr dX9_isDeterministic_49 rfl (by decide) c4 (wp_L (L' := [some (vR (b + 9)), some (vI l1), some (vI (l2 + 1))]) rfl ?_)
      refine wp_goto (tgt := 18) dX9_isDeterministic_52 (by decide) ?_
      exact h
    · replace h := h.2 h44
      refine wp_iconst dX9_isDeterministic_47 (by decide) ?_
      exact wp_zret dX9_isDeterministic_48 rfl (by decide) (fun _ => h)
theorem dX4_judgeSpec_0 : decode cX4_judgeSpec 0 = .ok (.aload_n 1, 1) := by decide +kernel
theorem dX4_judgeSpec_1 : decode cX4_judgeSpec 1 = .ok (.getfield 49, 3) := by decide +kernel
theorem dX4_judgeSpec_4 : decode cX4_judgeSpec 4 = .ok (.astore_n 3, 1) := by decide +kernel
theorem dX4_judgeSpec_5 : decode cX4_judgeSpec 5 = .ok (.aload_n 1, 1) := by decide +kernel
theorem dX4_judgeSpec_6 : decode cX4_judgeSpec 6 = .ok (.getfield 72, 3) := by decide +kernel
theorem dX4_judgeSpec_9 : decode cX4_judgeSpec 9 = .ok (.aload_n 3, 1) := by decide +kernel
theorem dX4_judgeSpec_10 : decode cX4_judgeSpec 10 = .ok (.getfield 76, 3) := by decide +kernel
theorem dX4_judgeSpec_13 : decode cX4_judgeSpec 13 = .ok (.iload_n 2, 1) := by decide +kernel
theorem dX4_judgeSpec_14 : decode cX4_judgeSpec 14 = .ok (.iaload, 1) := by decide +kernel
theorem dX4_judgeSpec_15 : decode cX4_judgeSpec 15 = .ok (.invokevirtual 79, 3) := by decide +kernel
theorem dX4_judgeSpec_18 : decode cX4_judgeSpec 18 = .ok (.iload_n 2, 1) := by decide +kernel
theorem dX4_judgeSpec_19 : decode cX4_judgeSpec 19 = .ok (.if_icmp .eq 9, 3) := by decide +kernel
theorem dX4_judgeSpec_22 : decode cX4_judgeSpec 22 = .ok (.aload_n 0, 1) := by decide +kernel
theorem dX4_judgeSpec_23 : decode cX4_judgeSpec 23 = .ok (.iconst 1, 1) := by decide +kernel
theorem dX4_judgeSpec_24 : decode cX4_judgeSpec 24 = .ok (.iload_n 2, 1) := by decide +kernel
theorem dX4_judgeSpec_25 : decode cX4_judgeSpec 25 = .ok (.invokevirtual 37, 3) := by decide +kernel
theorem dX4_judgeSpec_28 : decode cX4_judgeSpec 28 = .ok (.aload_n 3, 1) := by decide +kernel
theorem dX4_judgeSpec_29 : decode cX4_judgeSpec 29 = .ok (.getfield 85, 3) := by decide +kernel
theorem dX4_judgeSpec_32 : decode cX4_judgeSpec 32 = .ok (.iload_n 2, 1) := by decide +kernel
theorem dX4_judgeSpec_33 : decode cX4_judgeSpec 33 = .ok (.iaload, 1) := by decide +kernel
theorem dX4_judgeSpec_34 : decode cX4_judgeSpec 34 = .ok (.iconst 3, 1) := by decide +kernel
theorem dX4_judgeSpec_35 : decode cX4_judgeSpec 35 = .ok (.if_icmp .ne 17, 3) := by decide +kernel
theorem dX4_judgeSpec_38 : decode cX4_judgeSpec 38 = .ok (.aload_n 3, 1) := by decide +kernel
theorem dX4_judgeSpec_39 : decode cX4_judgeSpec 39 = .ok (.iload_n 2, 1) := by decide +kernel
theorem dX4_judgeSpec_40 : decode cX4_judgeSpec 40 = .ok (.invokevirtual 86, 3) := by decide +kernel
theorem dX4_judgeSpec_43 : decode cX4_judgeSpec 43 = .ok (.ifCond .ne 9, 3) := by decide +kernel
theorem dX4_judgeSpec_46 : decode cX4_judgeSpec 46 = .ok (.aload_n 0, 1) := by decide +kernel
theorem dX4_judgeSpec_47 : decode cX4_judgeSpec 47 = .ok (.iconst 2, 1) := by decide +kernel
theorem dX4_judgeSpec_48 : decode cX4_judgeSpec 48 = .ok (.iload_n 2, 1) := by decide +kernel
theorem dX4_judgeSpec_49 : decode cX4_judgeSpec 49 = .ok (.invokevirtual 37, 3) := by decide +kernel
theorem dX4_judgeSpec_52 : decode cX4_judgeSpec 52 = .ok (.aload_n 3, 1) := by decide +kernel
theorem dX4_judgeSpec_53 : decode cX4_judgeSpec 53 = .ok (.getfield 85, 3) := by decide +kernel
theorem dX4_judgeSpec_56 : decode cX4_judgeSpec 56 = .ok (.iload_n 2, 1) := by decide +kernel
theorem dX4_judgeSpec_57 : decode cX4_judgeSpec 57 = .ok (.iaload, 1) := by decide +kernel
theorem dX4_judgeSpec_58 : decode cX4_judgeSpec 58 = .ok (.iconst 2, 1) := by decide +kernel
theorem dX4_judgeSpec_59 : decode cX4_judgeSpec 59 = .ok (.if_icmp .ne 20, 3) := by decide +kernel
theorem dX4_judgeSpec_62 : decode cX4_judgeSpec 62 = .ok (.aload_n 3, 1) := by decide +kernel
theorem dX4_judgeSpec_63 : decode cX4_judgeSpec 63 = .ok (.iload_n 2, 1) := by decide +kernel
theorem dX4_judgeSpec_64 : decode cX4_judgeSpec 64 = .ok (.ldc2_w 90, 3) := by decide +kernel
theorem dX4_judgeSpec_67 : decode cX4_judgeSpec 67 = .ok (.invokevirtual 92, 3) := by decide +kernel
theorem dX4_judgeSpec_70 : decode cX4_judgeSpec 70 = .ok (.ifCond .eq 9, 3) := by decide +kernel
theorem dX4_judgeSpec_73 : decode cX4_judgeSpec 73 = .ok (.aload_n 0, 1) := by decide +kernel
theorem dX4_judgeSpec_74 : decode cX4_judgeSpec 74 = .ok (.iconst 3, 1) := by decide +kernel
theorem dX4_judgeSpec_75 : decode cX4_judgeSpec 75 = .ok (.iload_n 2, 1) := by decide +kernel
theorem dX4_judgeSpec_76 : decode cX4_judgeSpec 76 = .ok (.invokevirtual 37, 3) := by decide +kernel
theorem dX4_judgeSpec_79 : decode cX4_judgeSpec 79 = .ok (.return_, 1) := by decide +kernel
theorem v_X4_judgeSpec_0 {cs : Cs} {Q : Option AV → Mm → Prop} {MI ML : Nat → Nat → Int} {b d e nw th x : Nat} {l2 : Int} (hbd : b = 38 ∨ b = 81)
    (h : (0 ≤ l2 ∧ l2 < 30) ∧ wp cs mX5_specOf KD (rI (GR d e nw th x) fun x15 m15 n15 => ((x15 = l2 → (((m15 (b + 10) l2.toNat) = 3 → wp cs mX9_isDeterministic KD (rI (GR d e nw th x) fun x40 m40 n40 => ((x40 = 0 → wp cs mX4_report KD (rV (GR d e nw th x) fun m49 n49 => wp cs mX4_judgeSpec KD Q 52 [some (vR 11), some (vR b), some (vI l2), some (vR (b + 9))] [] (KD, m49, n49, (GR d e nw th x))) 0 (padL [vR 11, vI 2, vI l2] 3) [] (KD, m40, n40, (GR d e nw th x))) ∧ (x40 ≠ 0 → wp cs mX4_judgeSpec KD Q 52 [some (vR 11), some (vR b), some (vI l2), some (vR (b + 9))] [] (KD, m40, n40, (GR d e nw th x))))) 0 (padL [vR (b + 9), vI l2] 3) [] (KD, m15, n15, (GR d e nw th x))) ∧ ((m15 (b + 10) l2.toNat) ≠ 3 → wp cs mX4_judgeSpec KD Q 52 [some (vR 11), some (vR b), some (vI l2), some (vR (b + 9))] [] (KD, m15, n15, (GR d e nw th x))))) ∧ (x15 ≠ l2 → wp cs mX4_report KD (rV (GR d e nw th x) fun m25 n25 => (((m25 (b + 10) l2.toNat) = 3 → wp cs mX9_isDeterministic KD (rI (GR d e nw th x) fun x40 m40 n40 => ((x40 = 0 → wp cs mX4_report KD (rV (GR d e nw th x) fun m49 n49 => wp cs mX4_judgeSpec KD Q 52 [some (vR 11), some (vR b), some (vI l2), some (vR (b + 9))] [] (KD, m49, n49, (GR d e nw th x))) 0 (padL [vR 11, vI 2, vI l2] 3) [] (KD, m40, n40, (GR d e nw th x))) ∧ (x40 ≠ 0 → wp cs mX4_judgeSpec KD Q 52 [some (vR 11), some (vR b), some (vI l2), some (vR (b + 9))] [] (KD, m40, n40, (GR d e nw th x))))) 0 (padL [vR (b + 9), vI l2] 3) [] (KD, m25, n25, (GR d e nw th x))) ∧ ((m25 (b + 10) l2.toNat) ≠ 3 → wp cs mX4_judgeSpec KD Q 52 [some (vR 11), some (vR b), some (vI l2), some (vR (b + 9))] [] (KD, m25, n25, (GR d e nw th x))))) 0 (padL [vR 11, vI 1, vI l2] 3) [] (KD, m15, n15, (GR d e nw th x))))) 0 (padL [vR (b + 1), vI (MI (b + 11) l2.toNat)] 2) [] (KD, MI, ML, (GR d e nw th x))) :
    wp cs mX4_judgeSpec KD Q 0 (padL [vR 11, vR b, vI l2] 4) [] (KD, MI, ML, (GR d e nw th x)) := by
  refine wp_L (L' := [some (vR 11), some (vR b), some (vI l2), none]) rfl ?_
  refine wp_aload_n dX4_judgeSpec_0 rfl rfl (by first | exact Or.inl (by decide) | exact Or.inl (by omega) | exact Or.inr (by decide) | exact Or.inr (by omega)) ?_
  refine wp_getR dX4_judgeSpec_1 fX4_49 (show KD[b]? = some (7, 19) from kdb_0 hbd) (by omega) ?_
  refine wp_topR (x' := (b + 9)) (grb_0_1 hbd) ?_
  refine wp_astore_n dX4_judgeSpec_4 rfl (by first | exact Or.inl (by decide) | exact Or.inl (by omega)) (by decide) (wp_L (L' := [some (vR 11), some (vR b), some (vI l2), some (vR (b + 9))]) rfl ?_)
  refine wp_aload_n dX4_judgeSpec_5 rfl rfl (by first | exact Or.inl (by decide) | exact Or.inl (by omega) | exact Or.inr (by decide) | exact Or.inr (by omega)) ?_
  refine wp_getR dX4_judgeSpec_6 fX4_72 (show KD[b]? = some (7, 19) from kdb_0 hbd) (by omega) ?_
  refine wp_topR (x' := (b + 1)) (grb_0_0 hbd) ?_
  refine wp_aload_n dX4_judgeSpec_9 rfl rfl (by first | exact Or.inl (by decide) | exact Or.inl (by omega) | exact Or.inr (by decide) | exact Or.inr (by omega)) ?_
  refine wp_getR dX4_judgeSpec_10 fX4_76 (kdb_9 hbd) (by omega) ?_
  refine wp_topR (x' := (b + 11)) (grb_9_1 hbd) ?_
  refine wp_pc (pc' := 13) rfl ?_
  refine wp_iload_n dX4_judgeSpec_13 rfl rfl ?_
  have c0 := h.1
  replace h := h.2
  refine wp_iald dX4_judgeSpec_14 (kdb_11 hbd) (by omega) c0 ?_
  refine wp_cVq (n := 1) (mt' := mX5_specOf) (as := [vI (MI (b + 11) l2.toNat)]) (rest := []) _ dX4_judgeSpec_15 lX4_79 kX5_specOf vX5_specOf (by decide) (by decide +kernel) rfl (Nat.le_of_ble_eq_true rfl) (by omega) (kdb_1 hbd) rfl rfl (Nat.le_of_ble_eq_true rfl) (fun hM hS => h) (fun r M' hq hM => ?_)
  obtain ⟨x15, m15, n15, rfl, rfl, h⟩ := rI_out hq
  refine wp_iload_n dX4_judgeSpec_18 rfl rfl ?_
  refine wp_icmp_eq (tgt := 28) dX4_judgeSpec_19 (by decide) (fun h19 => ?_) (fun h19 => ?_)
  · replace h := h.1 h19
    refine wp_aload_n dX4_judgeSpec_28 rfl rfl (by first | exact Or.inl (by decide) | exact Or.inl (by omega) | exact Or.inr (by decide) | exact Or.inr (by omega)) ?_
    refine wp_getR dX4_judgeSpec_29 fX4_85 (kdb_9 hbd) (by omega) ?_
    refine wp_topR (x' := (b + 10)) (grb_9_0 hbd) ?_
    refine wp_iload_n dX4_judgeSpec_32 rfl rfl ?_
    refine wp_iald dX4_judgeSpec_33 (kdb_10 hbd) (by omega) c0 ?_
    refine wp_iconst dX4_judgeSpec_34 (by decide) ?_
    refine wp_icmp_ne (tgt := 52) dX4_judgeSpec_35 (by decide) (fun h35 => ?_) (fun h35 => ?_)
    · replace h := h.2 h35
      exact h
    · replace h := h.1 h35
      refine wp_aload_n dX4_judgeSpec_38 rfl rfl (by first | exact Or.inl (by decide) | exact Or.inl (by omega) | exact Or.inr (by decide) | exact Or.inr (by omega)) ?_
      refine wp_iload_n dX4_judgeSpec_39 rfl rfl ?_
      refine wp_cVq (n := 1) (mt' := mX9_isDeterministic) (as := [vI l2]) (rest := []) _ dX4_judgeSpec_40 lX4_86 kX9_isDeterministic vX9_isDeterministic (by decide) (by decide +kernel) rfl (Nat.le_of_ble_eq_true rfl) (by omega) (kdb_9 hbd) rfl rfl (Nat.le_of_ble_eq_true rfl) (fun hM hS => h) (fun r M' hq hM => ?_)
      obtain ⟨x40, m40, n40, rfl, rfl, h⟩ := rI_out hq
      refine wp_if_ne (tgt := 52) dX4_judgeSpec_43 (by decide) (fun h43 => ?_) (fun h43 => ?_)
      · replace h := h.2 h43
        exact h
      · replace h := h.1 h43
        refine wp_aload_n dX4_judgeSpec_46 rfl rfl (by first | exact Or.inl (by decide) | exact Or.inl (by omega) | exact Or.inr (by decide) | exact Or.inr (by omega)) ?_
        refine wp_iconst dX4_judgeSpec_47 (by decide) ?_
        refine wp_iload_n dX4_judgeSpec_48 rfl rfl ?_
        refine wp_cVq (n := 2) (mt' := mX4_report) (as := [vI 2, vI l2]) (rest := []) _ dX4_judgeSpec_49 lX4_37 kX4_report vX4_report (by decide) (by decide +kernel) rfl (Nat.le_of_ble_eq_true rfl) (by decide) rfl rfl rfl (Nat.le_of_ble_eq_true rfl) (fun hM hS => h) (fun r M' hq hM => ?_)
        obtain ⟨m49, n49, rfl, rfl, h⟩ := rV_out hq
        exact h
  · replace h := h.2 h19
    refine wp_aload_n dX4_judgeSpec_22 rfl rfl (by first | exact Or.inl (by decide) | exact Or.inl (by omega) | exact Or.inr (by decide) | exact Or.inr (by omega)) ?_
    refine wp_iconst dX4_judgeSpec_23 (by decide) ?_
    refine wp_iload_n dX4_judgeSpec_24 rfl rfl ?_
    refine wp_cVq (n := 2) (mt' := mX4_report) (as := [vI 1, vI l2]) (rest := []) _ dX4_judgeSpec_25 lX4_37 kX4_report vX4_report (by decide) (by decide +kernel) rfl (Nat.le_of_ble_eq_true rfl) (by decide) rfl rfl rfl (Nat.le_of_ble_eq_true rfl) (fun hM hS => h) (fun r M' hq hM => ?_)
    obtain ⟨m25, n25, rfl, rfl, h⟩ := rV_out hq
    refine wp_aload_n dX4_judgeSpec_28 rfl rfl (by first | exact Or.inl (by decide) | exact Or.inl (by omega) | exact Or.inr (by decide) | exact Or.inr (by omega)) ?_
    refine wp_getR dX4_judgeSpec_29 fX4_85 (kdb_9 hbd) (by omega) ?_
    refine wp_topR (x' := (b + 10)) (grb_9_0 hbd) ?_
    refine wp_iload_n dX4_judgeSpec_32 rfl rfl ?_
    refine wp_iald dX4_judgeSpec_33 (kdb_10 hbd) (by omega) c0 ?_
    refine wp_iconst dX4_judgeSpec_34 (by decide) ?_
    refine wp_icmp_ne (tgt := 52) dX4_judgeSpec_35 (by decide) (fun h35 => ?_) (fun h35 => ?_)
    · replace h := h.2 h35
      exact h
    · replace h := h.1 h35
      refine wp_aload_n dX4_judgeSpec_38 rfl rfl (by first | exact Or.inl (by decide) | exact Or.inl (by omega) | exact Or.inr (by decide) | exact Or.inr (by omega)) ?_
      refine wp_iload_n dX4_judgeSpec_39 rfl rfl ?_
      refine wp_cVq (n := 1) (mt' := mX9_isDeterministic) (as := [vI l2]) (rest := []) _ dX4_judgeSpec_40 lX4_86 kX9_isDeterministic vX9_isDeterministic (by decide) (by decide +kernel) rfl (Nat.le_of_ble_eq_true rfl) (by omega) (kdb_9 hbd) rfl rfl (Nat.le_of_ble_eq_true rfl) (fun hM hS => h) (fun r M' hq hM => ?_)
      obtain ⟨x40, m40, n40, rfl, rfl, h⟩ := rI_out hq
      refine wp_if_ne (tgt := 52) dX4_judgeSpec_43 (by decide) (fun h43 => ?_) (fun h43 => ?_)
      · replace h := h.2 h43
        exact h
      · replace h := h.1 h43
        refine wp_aload_n dX4_judgeSpec_46 rfl rfl (by first | exact Or.inl (by decide) | exact Or.inl (by omega) | exact Or.inr (by decide) | exact Or.inr (by omega)) ?_
        refine wp_iconst dX4_judgeSpec_47 (by decide) ?_
        refine wp_iload_n dX4_judgeSpec_48 rfl rfl ?_
        refine wp_cVq (n := 2) (mt' := mX4_report) (as := [vI 2, vI l2]) (rest := []) _ dX4_judgeSpec_49 lX4_37 kX4_report vX4_report (by decide) (by decide +kernel) rfl (Nat.le_of_ble_eq_true rfl) (by decide) rfl rfl rfl (Nat.le_of_ble_eq_true rfl) (fun hM hS => h) (fun r M' hq hM => ?_)
        obtain ⟨m49, n49, rfl, rfl, h⟩ := rV_out hq
        exact h
theorem v_X4_judgeSpec_52 {cs : Cs} {Q : Option AV → Mm → Prop} {MI ML : Nat → Nat → Int} {b d e nw th x : Nat} {l2 : Int} (hbd : b = 38 ∨ b = 81)
    (h : (0 ≤ l2 ∧ l2 < 30) ∧ (((MI (b + 10) l2.toNat) = 2 → wp cs mX9_repeats KD (rI (GR d e nw th x) fun x67 m67 n67 => ((x67 = 0 → Q none (m67, n67, (GR d e nw th x))) ∧ (x67 ≠ 0 → wp cs mX4_report KD (rV (GR d e nw th x) fun m76 n76 => Q none (m76, n76, (GR d e nw th x))) 0 (padL [vR 11, vI 3, vI l2] 3) [] (KD, m67, n67, (GR d e nw th x))))) 0 (padL [vR (b + 9), vI l2, vL (-1)] 5) [] (KD, MI, ML, (GR d e nw th x))) ∧ ((MI (b + 10) l2.toNat) ≠ 2 → Q none (MI, ML, (GR d e nw th x))))) :
    wp cs mX4_judgeSpec KD Q 52 [some (vR 11), some (vR b), some (vI l2), some (vR (b + 9))] [] (KD, MI, ML, (GR d e nw th x)) := by
  refine wp_aload_n dX4_judgeSpec_52 rfl rfl (by first | exact Or.inl (by decide) | exact Or.inl (by omega) | exact Or.inr (by decide) | exact Or.inr (by omega)) ?_
  refine wp_getR dX4_judgeSpec_53 fX4_85 (kdb_9 hbd) (by omega) ?_
  refine wp_topR (x' := (b + 10)) (grb_9_0 hbd) ?_
  refine wp_iload_n dX4_judgeSpec_56 rfl rfl ?_
  have c0 := h.1
  replace h := h.2
  refine wp_iald dX4_judgeSpec_57 (kdb_10 hbd) (by omega) c0 ?_
  refine wp_iconst dX4_judgeSpec_58 (by decide) ?_
  refine wp_icmp_ne (tgt := 79) dX4_judgeSpec_59 (by decide) (fun h59 => ?_) (fun h59 => ?_)
  · replace h := h.2 h59
    exact wp_vret dX4_judgeSpec_79 rfl (fun _ => h)
  · replace h := h.1 h59
    refine wp_aload_n dX4_judgeSpec_62 rfl rfl (by first | exact Or.inl (by decide) | exact Or.inl (by omega) | exact Or.inr (by decide) | exact Or.inr (by omega)) ?_
    refine wp_iload_n dX4_judgeSpec_63 rfl rfl ?_
    refine wp_ldc2 (x := (-1)) dX4_judgeSpec_64 cX4_90 (by decide) ?_
    refine wp_cVq (n := 2) (mt' := mX9_repeats) (as := [vI l2, vL (-1)]) (rest := []) _ dX4_judgeSpec_67 lX4_92 kX9_repeats vX9_repeats (by decide) (by decide +kernel) rfl (Nat.le_of_ble_eq_true rfl) (by omega) (kdb_9 hbd) rfl rfl (Nat.le_of_ble_eq_true rfl) (fun hM hS => h) (fun r M' hq hM => ?_)
    obtain ⟨x67, m67, n67, rfl, rfl, h⟩ := rI_out hq
    refine wp_if_eq (tgt := 79) dX4_judgeSpec_70 (by decide) (fun h70 => ?_) (fun h70 => ?_)
    · replace h := h.1 h70
      exact wp_vret dX4_judgeSpec_79 rfl (fun _ => h)
    · replace h := h.2 h70
      refine wp_aload_n dX4_judgeSpec_73 rfl rfl (by first | exact Or.inl (by decide) | exact Or.inl (by omega) | exact Or.inr (by decide) | exact Or.inr (by omega)) ?_
      refine wp_iconst dX4_judgeSpec_74 (by decide) ?_
      refine wp_iload_n dX4_judgeSpec_75 rfl rfl ?_
      refine wp_cVq (n := 2) (mt' := mX4_report) (as := [vI 3, vI l2]) (rest := []) _ dX4_judgeSpec_76 lX4_37 kX4_report vX4_report (by decide) (by decide +kernel) rfl (Nat.le_of_ble_eq_true rfl) (by decide) rfl rfl rfl (Nat.le_of_ble_eq_true rfl) (fun hM hS => h) (fun r M' hq hM => ?_)
      obtain ⟨m76, n76, rfl, rfl, h⟩ := rV_out hq
      exact wp_vret dX4_judgeSpec_79 rfl (fun _ => h)
theorem dX4_judgeDeclarations_0 : decode cX4_judgeDeclarations 0 = .ok (.iconst 0, 1) := by decide +kernel
theorem dX4_judgeDeclarations_1 : decode cX4_judgeDeclarations 1 = .ok (.istore_n 2, 1) := by decide +kernel
theorem dX4_judgeDeclarations_2 : decode cX4_judgeDeclarations 2 = .ok (.iconst 0, 1) := by decide +kernel
theorem dX4_judgeDeclarations_3 : decode cX4_judgeDeclarations 3 = .ok (.istore_n 3, 1) := by decide +kernel
theorem dX4_judgeDeclarations_4 : decode cX4_judgeDeclarations 4 = .ok (.iload_n 3, 1) := by decide +kernel
theorem dX4_judgeDeclarations_5 : decode cX4_judgeDeclarations 5 = .ok (.aload_n 1, 1) := by decide +kernel
theorem dX4_judgeDeclarations_6 : decode cX4_judgeDeclarations 6 = .ok (.getfield 49, 3) := by decide +kernel
theorem dX4_judgeDeclarations_9 : decode cX4_judgeDeclarations 9 = .ok (.getfield 53, 3) := by decide +kernel
theorem dX4_judgeDeclarations_12 : decode cX4_judgeDeclarations 12 = .ok (.if_icmp .ge 40, 3) := by decide +kernel
theorem dX4_judgeDeclarations_15 : decode cX4_judgeDeclarations 15 = .ok (.iload_n 2, 1) := by decide +kernel
theorem dX4_judgeDeclarations_16 : decode cX4_judgeDeclarations 16 = .ok (.aload_n 1, 1) := by decide +kernel
theorem dX4_judgeDeclarations_17 : decode cX4_judgeDeclarations 17 = .ok (.getfield 49, 3) := by decide +kernel
theorem dX4_judgeDeclarations_20 : decode cX4_judgeDeclarations 20 = .ok (.getfield 56, 3) := by decide +kernel
theorem dX4_judgeDeclarations_23 : decode cX4_judgeDeclarations 23 = .ok (.iload_n 3, 1) := by decide +kernel
theorem dX4_judgeDeclarations_24 : decode cX4_judgeDeclarations 24 = .ok (.iaload, 1) := by decide +kernel
theorem dX4_judgeDeclarations_25 : decode cX4_judgeDeclarations 25 = .ok (.if_icmp .ge 15, 3) := by decide +kernel
theorem dX4_judgeDeclarations_28 : decode cX4_judgeDeclarations 28 = .ok (.aload_n 0, 1) := by decide +kernel
theorem dX4_judgeDeclarations_29 : decode cX4_judgeDeclarations 29 = .ok (.aload_n 1, 1) := by decide +kernel
theorem dX4_judgeDeclarations_30 : decode cX4_judgeDeclarations 30 = .ok (.iload_n 2, 1) := by decide +kernel
theorem dX4_judgeDeclarations_31 : decode cX4_judgeDeclarations 31 = .ok (.invokevirtual 59, 3) := by decide +kernel
theorem dX4_judgeDeclarations_34 : decode cX4_judgeDeclarations 34 = .ok (.iinc 2 1, 3) := by decide +kernel
theorem dX4_judgeDeclarations_37 : decode cX4_judgeDeclarations 37 = .ok (.goto (-22), 3) := by decide +kernel
theorem dX4_judgeDeclarations_40 : decode cX4_judgeDeclarations 40 = .ok (.aload_n 0, 1) := by decide +kernel
theorem dX4_judgeDeclarations_41 : decode cX4_judgeDeclarations 41 = .ok (.aload_n 1, 1) := by decide +kernel
theorem dX4_judgeDeclarations_42 : decode cX4_judgeDeclarations 42 = .ok (.iload_n 3, 1) := by decide +kernel
theorem dX4_judgeDeclarations_43 : decode cX4_judgeDeclarations 43 = .ok (.invokevirtual 62, 3) := by decide +kernel
theorem dX4_judgeDeclarations_46 : decode cX4_judgeDeclarations 46 = .ok (.iinc 3 1, 3) := by decide +kernel
theorem dX4_judgeDeclarations_49 : decode cX4_judgeDeclarations 49 = .ok (.goto (-45), 3) := by decide +kernel
theorem dX4_judgeDeclarations_52 : decode cX4_judgeDeclarations 52 = .ok (.iload_n 2, 1) := by decide +kernel
theorem dX4_judgeDeclarations_53 : decode cX4_judgeDeclarations 53 = .ok (.aload_n 1, 1) := by decide +kernel
theorem dX4_judgeDeclarations_54 : decode cX4_judgeDeclarations 54 = .ok (.getfield 65, 3) := by decide +kernel
theorem dX4_judgeDeclarations_57 : decode cX4_judgeDeclarations 57 = .ok (.getfield 69, 3) := by decide +kernel
theorem dX4_judgeDeclarations_60 : decode cX4_judgeDeclarations 60 = .ok (.if_icmp .ge 15, 3) := by decide +kernel
theorem dX4_judgeDeclarations_63 : decode cX4_judgeDeclarations 63 = .ok (.aload_n 0, 1) := by decide +kernel
theorem dX4_judgeDeclarations_64 : decode cX4_judgeDeclarations 64 = .ok (.aload_n 1, 1) := by decide +kernel
theorem dX4_judgeDeclarations_65 : decode cX4_judgeDeclarations 65 = .ok (.iload_n 2, 1) := by decide +kernel
theorem dX4_judgeDeclarations_66 : decode cX4_judgeDeclarations 66 = .ok (.invokevirtual 59, 3) := by decide +kernel
theorem dX4_judgeDeclarations_69 : decode cX4_judgeDeclarations 69 = .ok (.iinc 2 1, 3) := by decide +kernel
theorem dX4_judgeDeclarations_72 : decode cX4_judgeDeclarations 72 = .ok (.goto (-20), 3) := by decide +kernel
theorem dX4_judgeDeclarations_75 : decode cX4_judgeDeclarations 75 = .ok (.return_, 1) := by decide +kernel
theorem v_X4_judgeDeclarations_0 {cs : Cs} {Q : Option AV → Mm → Prop} {MI ML : Nat → Nat → Int} {b d e nw th x : Nat}
    (h : wp cs mX4_judgeDeclarations KD Q 4 [some (vR 11), some (vR b), some (vI 0), some (vI 0)] [] (KD, MI, ML, (GR d e nw th x))) :
    wp cs mX4_judgeDeclarations KD Q 0 (padL [vR 11, vR b] 4) [] (KD, MI, ML, (GR d e nw th x)) := by
  refine wp_L (L' := [some (vR 11), some (vR b), none, none]) rfl ?_
  refine wp_iconst dX4_judgeDeclarations_0 (by decide) ?_
  refine wp_istore_n dX4_judgeDeclarations_1 rfl (by decide) (wp_L (L' := [some (vR 11), some (vR b), some (vI 0), none]) rfl ?_)
  refine wp_iconst dX4_judgeDeclarations_2 (by decide) ?_
  refine wp_istore_n dX4_judgeDeclarations_3 rfl (by decide) (wp_L (L' := [some (vR 11), some (vR b), some (vI 0), some (vI 0)]) rfl ?_)
  exact h
theorem v_X4_judgeDeclarations_4 {cs : Cs} {Q : Option AV → Mm → Prop} {MI ML : Nat → Nat → Int} {b d e nw th x : Nat} {l2 l3 : Int} (hbd : b = 38 ∨ b = 81)
    (h : ((l3 < (MI (b + 9) 10) → wp cs mX4_judgeDeclarations KD Q 15 [some (vR 11), some (vR b), some (vI l2), some (vI l3)] [] (KD, MI, ML, (GR d e nw th x))) ∧ ((MI (b + 9) 10) ≤ l3 → wp cs mX4_judgeDeclarations KD Q 52 [some (vR 11), some (vR b), some (vI l2), some (vI l3)] [] (KD, MI, ML, (GR d e nw th x))))) :
    wp cs mX4_judgeDeclarations KD Q 4 [some (vR 11), some (vR b), some (vI l2), some (vI l3)] [] (KD, MI, ML, (GR d e nw th x)) := by
  refine wp_iload_n dX4_judgeDeclarations_4 rfl rfl ?_
  refine wp_aload_n dX4_judgeDeclarations_5 rfl rfl (by first | exact Or.inl (by decide) | exact Or.inl (by omega) | exact Or.inr (by decide) | exact Or.inr (by omega)) ?_
  refine wp_getR dX4_judgeDeclarations_6 fX4_49 (show KD[b]? = some (7, 19) from kdb_0 hbd) (by omega) ?_
  refine wp_topR (x' := (b + 9)) (grb_0_1 hbd) ?_
  refine wp_getI dX4_judgeDeclarations_9 fX4_53 (kdb_9 hbd) (by omega) ?_
  refine wp_icmp_ge (tgt := 52) dX4_judgeDeclarations_12 (by decide) (fun h12 => ?_) (fun h12 => ?_)
  · replace h := h.2 h12
    exact h
  · replace h := h.1 h12
    exact h
theorem v_X4_judgeDeclarations_15 {cs : Cs} {Q : Option AV → Mm → Prop} {MI ML : Nat → Nat → Int} {b d e nw th x : Nat} {l2 l3 : Int} (hbd : b = 38 ∨ b = 81)
    (h : (0 ≤ l3 ∧ l3 < 30) ∧ ((l2 < (MI (b + 12) l3.toNat) → wp cs mX4_judgeRule KD (rV (GR d e nw th x) fun m31 n31 => (-2147483648 ≤ l2 + 1 ∧ l2 + 1 < 2147483648) ∧ wp cs mX4_judgeDeclarations KD Q 15 [some (vR 11), some (vR b), some (vI (l2 + 1)), some (vI l3)] [] (KD, m31, n31, (GR d e nw th x))) 0 (padL [vR 11, vR b, vI l2] 4) [] (KD, MI, ML, (GR d e nw th x))) ∧ ((MI (b + 12) l3.toNat) ≤ l2 → wp cs mX4_judgeSpec KD (rV (GR d e nw th x) fun m43 n43 => (-2147483648 ≤ l3 + 1 ∧ l3 + 1 < 2147483648) ∧ wp cs mX4_judgeDeclarations KD Q 4 [some (vR 11), some (vR b), some (vI l2), some (vI (l3 + 1))] [] (KD, m43, n43, (GR d e nw th x))) 0 (padL [vR 11, vR b, vI l3] 4) [] (KD, MI, ML, (GR d e nw th x))))) :
    wp cs mX4_judgeDeclarations KD Q 15 [some (vR 11), some (vR b), some (vI l2), some (vI l3)] [] (KD, MI, ML, (GR d e nw th x)) := by
  refine wp_iload_n dX4_judgeDeclarations_15 rfl rfl ?_
  refine wp_aload_n dX4_judgeDeclarations_16 rfl rfl (by first | exact Or.inl (by decide) | exact Or.inl (by omega) | exact Or.inr (by decide) | exact Or.inr (by omega)) ?_
  refine wp_getR dX4_judgeDeclarations_17 fX4_49 (show KD[b]? = some (7, 19) from kdb_0 hbd) (by omega) ?_
  refine wp_topR (x' := (b + 9)) (grb_0_1 hbd) ?_
  refine wp_getR dX4_judgeDeclarations_20 fX4_56 (kdb_9 hbd) (by omega) ?_
  refine wp_topR (x' := (b + 12)) (grb_9_2 hbd) ?_
  refine wp_iload_n dX4_judgeDeclarations_23 rfl rfl ?_
  have c0 := h.1
  replace h := h.2
  refine wp_iald dX4_judgeDeclarations_24 (kdb_12 hbd) (by omega) c0 ?_
  refine wp_icmp_ge (tgt := 40) dX4_judgeDeclarations_25 (by decide) (fun h25 => ?_) (fun h25 => ?_)
  · replace h := h.2 h25
    refine wp_aload_n dX4_judgeDeclarations_40 rfl rfl (by first | exact Or.inl (by decide) | exact Or.inl (by omega) | exact Or.inr (by decide) | exact Or.inr (by omega)) ?_
    refine wp_aload_n dX4_judgeDeclarations_41 rfl rfl (by first | exact Or.inl (by decide) | exact Or.inl (by omega) | exact Or.inr (by decide) | exact Or.inr (by omega)) ?_
    refine wp_iload_n dX4_judgeDeclarations_42 rfl rfl ?_
    refine wp_cVq (n := 2) (mt' := mX4_judgeSpec) (as := [vR b, vI l3]) (rest := []) _ dX4_judgeDeclarations_43 lX4_62 kX4_judgeSpec vX4_judgeSpec (by decide) (by decide +kernel) rfl (Nat.le_of_ble_eq_true rfl) (by decide) rfl rfl rfl (Nat.le_of_ble_eq_true rfl) (fun hM hS => h) (fun r M' hq hM => ?_)
    obtain ⟨m43, n43, rfl, rfl, h⟩ := rV_out hq
    have c1 := h.1
    replace h := h.2
    refine wp_iincr dX4_judgeDeclarations_46 rfl (by decide) c1 (wp_L (L' := [some (vR 11), some (vR b), some (vI l2), some (vI (l3 + 1))]) rfl ?_)
    refine wp_goto (tgt := 4) dX4_judgeDeclarations_49 (by decide) ?_
    exact h
  · replace h := h.1 h25
    refine wp_aload_n dX4_judgeDeclarations_28 rfl rfl (by first | exact Or.inl (by decide) | exact Or.inl (by omega) | exact Or.inr (by decide) | exact Or.inr (by omega)) ?_
    refine wp_aload_n dX4_judgeDeclarations_29 rfl rfl (by first | exact Or.inl (by decide) | exact Or.inl (by omega) | exact Or.inr (by decide) | exact Or.inr (by omega)) ?_
    refine wp_iload_n dX4_judgeDeclarations_30 rfl rfl ?_
    refine wp_cVq (n := 2) (mt' := mX4_judgeRule) (as := [vR b, vI l2]) (rest := []) _ dX4_judgeDeclarations_31 lX4_59 kX4_judgeRule vX4_judgeRule (by decide) (by decide +kernel) rfl (Nat.le_of_ble_eq_true rfl) (by decide) rfl rfl rfl (Nat.le_of_ble_eq_true rfl) (fun hM hS => h) (fun r M' hq hM => ?_)
    obtain ⟨m31, n31, rfl, rfl, h⟩ := rV_out hq
    have c1 := h.1
    replace h := h.2
    refine wp_iincr dX4_judgeDeclarations_34 rfl (by decide) c1 (wp_L (L' := [some (vR 11), some (vR b), some (vI (l2 + 1)), some (vI l3)]) rfl ?_)
    refine wp_goto (tgt := 15) dX4_judgeDeclarations_37 (by decide) ?_
    exact h
theorem v_X4_judgeDeclarations_52 {cs : Cs} {Q : Option AV → Mm → Prop} {MI ML : Nat → Nat → Int} {b d e nw th x : Nat} {l2 l3 : Int} (hbd : b = 38 ∨ b = 81)
    (h : ((l2 < (MI (b + 20) 11) → wp cs mX4_judgeRule KD (rV (GR d e nw th x) fun m66 n66 => (-2147483648 ≤ l2 + 1 ∧ l2 + 1 < 2147483648) ∧ wp cs mX4_judgeDeclarations KD Q 52 [some (vR 11), some (vR b), some (vI (l2 + 1)), some (vI l3)] [] (KD, m66, n66, (GR d e nw th x))) 0 (padL [vR 11, vR b, vI l2] 4) [] (KD, MI, ML, (GR d e nw th x))) ∧ ((MI (b + 20) 11) ≤ l2 → Q none (MI, ML, (GR d e nw th x))))) :
    wp cs mX4_judgeDeclarations KD Q 52 [some (vR 11), some (vR b), some (vI l2), some (vI l3)] [] (KD, MI, ML, (GR d e nw th x)) := by
  refine wp_iload_n dX4_judgeDeclarations_52 rfl rfl ?_
  refine wp_aload_n dX4_judgeDeclarations_53 rfl rfl (by first | exact Or.inl (by decide) | exact Or.inl (by omega) | exact Or.inr (by decide) | exact Or.inr (by omega)) ?_
  refine wp_getR dX4_judgeDeclarations_54 fX4_65 (show KD[b]? = some (7, 19) from kdb_0 hbd) (by omega) ?_
  refine wp_topR (x' := (b + 20)) (grb_0_2 hbd) ?_
  refine wp_getI dX4_judgeDeclarations_57 fX4_69 (kdb_20 hbd) (by omega) ?_
  refine wp_icmp_ge (tgt := 75) dX4_judgeDeclarations_60 (by decide) (fun h60 => ?_) (fun h60 => ?_)
  · replace h := h.2 h60
    exact wp_vret dX4_judgeDeclarations_75 rfl (fun _ => h)
  · replace h := h.1 h60
    refine wp_aload_n dX4_judgeDeclarations_63 rfl rfl (by first | exact Or.inl (by decide) | exact Or.inl (by omega) | exact Or.inr (by decide) | exact Or.inr (by omega)) ?_
    refine wp_aload_n dX4_judgeDeclarations_64 rfl rfl (by first | exact Or.inl (by decide) | exact Or.inl (by omega) | exact Or.inr (by decide) | exact Or.inr (by omega)) ?_
    refine wp_iload_n dX4_judgeDeclarations_65 rfl rfl ?_
    refine wp_cVq (n := 2) (mt' := mX4_judgeRule) (as := [vR b, vI l2]) (rest := []) _ dX4_judgeDeclarations_66 lX4_59 kX4_judgeRule vX4_judgeRule (by decide) (by decide +kernel) rfl (Nat.le_of_ble_eq_true rfl) (by decide) rfl rfl rfl (Nat.le_of_ble_eq_true rfl) (fun hM hS => h) (fun r M' hq hM => ?_)
    obtain ⟨m66, n66, rfl, rfl, h⟩ := rV_out hq
    have c0 := h.1
    replace h := h.2
    refine wp_iincr dX4_judgeDeclarations_69 rfl (by decide) c0 (wp_L (L' := [some (vR 11), some (vR b), some (vI (l2 + 1)), some (vI l3)]) rfl ?_)
    refine wp_goto (tgt := 52) dX4_judgeDeclarations_72 (by decide) ?_
    exact h
theorem dX9_behind_0 : decode cX9_behind 0 = .ok (.lconst 0, 1) := by decide +kernel
theorem dX9_behind_1 : decode cX9_behind 1 = .ok (.lstore 4, 2) := by decide +kernel
theorem dX9_behind_3 : decode cX9_behind 3 = .ok (.iconst 0, 1) := by decide +kernel
theorem dX9_behind_4 : decode cX9_behind 4 = .ok (.istore 6, 2) := by decide +kernel
theorem dX9_behind_6 : decode cX9_behind 6 = .ok (.iload 6, 2) := by decide +kernel
theorem dX9_behind_8 : decode cX9_behind 8 = .ok (.aload_n 0, 1) := by decide +kernel
theorem dX9_behind_9 : decode cX9_behind 9 = .ok (.getfield 21, 3) := by decide +kernel
theorem dX9_behind_12 : decode cX9_behind 12 = .ok (.iload_n 1, 1) := by decide +kernel
theorem dX9_behind_13 : decode cX9_behind 13 = .ok (.iaload, 1) := by decide +kernel
theorem dX9_behind_14 : decode cX9_behind 14 = .ok (.if_icmp .ge 37, 3) := by decide +kernel
theorem dX9_behind_17 : decode cX9_behind 17 = .ok (.lload_n 2, 1) := by decide +kernel
theorem dX9_behind_18 : decode cX9_behind 18 = .ok (.iload 6, 2) := by decide +kernel
theorem dX9_behind_20 : decode cX9_behind 20 = .ok (.lushr, 1) := by decide +kernel
theorem dX9_behind_21 : decode cX9_behind 21 = .ok (.lconst 1, 1) := by decide +kernel
theorem dX9_behind_22 : decode cX9_behind 22 = .ok (.land, 1) := by decide +kernel
theorem dX9_behind_23 : decode cX9_behind 23 = .ok (.lconst 0, 1) := by decide +kernel
theorem dX9_behind_24 : decode cX9_behind 24 = .ok (.lcmp, 1) := by decide +kernel
theorem dX9_behind_25 : decode cX9_behind 25 = .ok (.ifCond .eq 20, 3) := by decide +kernel
theorem dX9_behind_28 : decode cX9_behind 28 = .ok (.lload 4, 2) := by decide +kernel
theorem dX9_behind_30 : decode cX9_behind 30 = .ok (.aload_n 0, 1) := by decide +kernel
theorem dX9_behind_31 : decode cX9_behind 31 = .ok (.getfield 27, 3) := by decide +kernel
theorem dX9_behind_34 : decode cX9_behind 34 = .ok (.iload_n 1, 1) := by decide +kernel
theorem dX9_behind_35 : decode cX9_behind 35 = .ok (.bipush 40, 2) := by decide +kernel
theorem dX9_behind_37 : decode cX9_behind 37 = .ok (.imul, 1) := by decide +kernel
theorem dX9_behind_38 : decode cX9_behind 38 = .ok (.iload 6, 2) := by decide +kernel
theorem dX9_behind_40 : decode cX9_behind 40 = .ok (.iadd, 1) := by decide +kernel
theorem dX9_behind_41 : decode cX9_behind 41 = .ok (.laload, 1) := by decide +kernel
theorem dX9_behind_42 : decode cX9_behind 42 = .ok (.lor, 1) := by decide +kernel
theorem dX9_behind_43 : decode cX9_behind 43 = .ok (.lstore 4, 2) := by decide +kernel
theorem dX9_behind_45 : decode cX9_behind 45 = .ok (.iinc 6 1, 3) := by decide +kernel
theorem dX9_behind_48 : decode cX9_behind 48 = .ok (.goto (-42), 3) := by decide +kernel
theorem dX9_behind_51 : decode cX9_behind 51 = .ok (.lload 4, 2) := by decide +kernel
theorem dX9_behind_53 : decode cX9_behind 53 = .ok (.lreturn, 1) := by decide +kernel
theorem v_X9_behind_0 {cs : Cs} {Q : Option AV → Mm → Prop} {MI ML : Nat → Nat → Int} {b d e nw th x : Nat} {l1 l2 : Int}
    (h : wp cs mX9_behind KD Q 6 [some (vR (b + 9)), some (vI l1), some (vL l2), none, some (vL 0), none, some (vI 0)] [] (KD, MI, ML, (GR d e nw th x))) :
    wp cs mX9_behind KD Q 0 (padL [vR (b + 9), vI l1, vL l2] 7) [] (KD, MI, ML, (GR d e nw th x)) := by
  refine wp_L (L' := [some (vR (b + 9)), some (vI l1), some (vL l2), none, none, none, none]) rfl ?_
  refine wp_lconst (z := 0) dX9_behind_0 (by decide +kernel) (by decide) ?_
  refine wp_lstore dX9_behind_1 (by decide) (wp_L (L' := [some (vR (b + 9)), some (vI l1), some (vL l2), none, some (vL 0), none, none]) rfl ?_)
  refine wp_iconst dX9_behind_3 (by decide) ?_
  refine wp_istore dX9_behind_4 (by decide) (wp_L (L' := [some (vR (b + 9)), some (vI l1), some (vL l2), none, some (vL 0), none, some (vI 0)]) rfl ?_)
  exact h
theorem v_X9_behind_6 {cs : Cs} {Q : Option AV → Mm → Prop} {MI ML : Nat → Nat → Int} {b d e nw th x : Nat} {l1 l2 l4 l6 : Int} (hbd : b = 38 ∨ b = 81)
    (h : (0 ≤ l1 ∧ l1 < 30) ∧ ((l6 < (MI (b + 13) l1.toNat) → (((l_and (l_ushr l2 l6) 1) = 0 → (-2147483648 ≤ l6 + 1 ∧ l6 + 1 < 2147483648) ∧ wp cs mX9_behind KD Q 6 [some (vR (b + 9)), some (vI l1), some (vL l2), none, some (vL l4), none, some (vI (l6 + 1))] [] (KD, MI, ML, (GR d e nw th x))) ∧ ((l_and (l_ushr l2 l6) 1) ≠ 0 → (-2147483648 ≤ l1 * 40 ∧ l1 * 40 < 2147483648) ∧ (-2147483648 ≤ (l1 * 40) + l6 ∧ (l1 * 40) + l6 < 2147483648) ∧ (0 ≤ ((l1 * 40) + l6) ∧ ((l1 * 40) + l6) < 1200) ∧ (-2147483648 ≤ l6 + 1 ∧ l6 + 1 < 2147483648) ∧ wp cs mX9_behind KD Q 6 [some (vR (b + 9)), some (vI l1), some (vL l2), none, some (vL (l_or l4 (ML (b + 15) ((l1 * 40) + l6).toNat))), none, some (vI (l6 + 1))] [] (KD, MI, ML, (GR d e nw th x))))) ∧ ((MI (b + 13) l1.toNat) ≤ l6 → Q (some (vL l4)) (MI, ML, (GR d e nw th x))))) :
    wp cs mX9_behind KD Q 6 [some (vR (b + 9)), some (vI l1), some (vL l2), none, some (vL l4), none, some (vI l6)] [] (KD, MI, ML, (GR d e nw th x)) := by
  refine wp_iload dX9_behind_6 rfl ?_
  refine wp_aload_n dX9_behind_8 rfl rfl (by first | exact Or.inl (by decide) | exact Or.inl (by omega) | exact Or.inr (by decide) | exact Or.inr (by omega)) ?_
  refine wp_getR dX9_behind_9 fX9_21 (kdb_9 hbd) (by omega) ?_
  refine wp_topR (x' := (b + 13)) (grb_9_3 hbd) ?_
  refine wp_iload_n dX9_behind_12 rfl rfl ?_
  have c0 := h.1
  replace h := h.2
  refine wp_iald dX9_behind_13 (kdb_13 hbd) (by omega) c0 ?_
  refine wp_icmp_ge (tgt := 51) dX9_behind_14 (by decide) (fun h14 => ?_) (fun h14 => ?_)
  · replace h := h.2 h14
    refine wp_lload dX9_behind_51 rfl ?_
    exact wp_lret dX9_behind_53 rfl (fun _ => h)
  · replace h := h.1 h14
    refine wp_lload_n dX9_behind_17 rfl rfl ?_
    refine wp_iload dX9_behind_18 rfl ?_
    refine wp_lushr dX9_behind_20 ?_
    refine wp_lconst (z := 1) dX9_behind_21 (by decide +kernel) (by decide) ?_
    refine wp_land dX9_behind_22 ?_
    refine wp_lconst (z := 0) dX9_behind_23 (by decide +kernel) (by decide) ?_
    refine wp_lcmp dX9_behind_24 ?_
    refine wp_pc (pc' := 25) rfl ?_
    refine wp_if_eq (tgt := 45) dX9_behind_25 (by decide) (fun h25 => ?_) (fun h25 => ?_)
    · replace h := h.1 (l_cmp_z h25)
      have c1 := h.1
      replace h := h.2
      refine wp_iincr dX9_behind_45 rfl (by decide) c1 (wp_L (L' := [some (vR (b + 9)), some (vI l1), some (vL l2), none, some (vL l4), none, some (vI (l6 + 1))]) rfl ?_)
      refine wp_goto (tgt := 6) dX9_behind_48 (by decide) ?_
      exact h
    · replace h := h.2 (l_cmp_nz h25)
      refine wp_lload dX9_behind_28 rfl ?_
      refine wp_aload_n dX9_behind_30 rfl rfl (by first | exact Or.inl (by decide) | exact Or.inl (by omega) | exact Or.inr (by decide) | exact Or.inr (by omega)) ?_
      refine wp_getR dX9_behind_31 fX9_27 (kdb_9 hbd) (by omega) ?_
      refine wp_topR (x' := (b + 15)) (grb_9_5 hbd) ?_
      refine wp_iload_n dX9_behind_34 rfl rfl ?_
      refine wp_bipush dX9_behind_35 (by decide +kernel) (by decide) ?_
      have c1 := h.1
      replace h := h.2
      refine wp_imulr dX9_behind_37 c1 ?_
      refine wp_iload dX9_behind_38 rfl ?_
      refine wp_pc (pc' := 40) rfl ?_
      have c2 := h.1
      replace h := h.2
      refine wp_iaddr dX9_behind_40 c2 ?_
      have c3 := h.1
      replace h := h.2
      refine wp_lald dX9_behind_41 (kdb_15 hbd) (by omega) c3 ?_
      refine wp_lor dX9_behind_42 ?_
      refine wp_lstore dX9_behind_43 (by decide) (wp_L (L' := [some (vR (b + 9)), some (vI l1), some (vL l2), none, some (vL (l_or l4 (ML (b + 15) ((l1 * 40) + l6).toNat))), none, some (vI l6)]) rfl ?_)
      have c4 := h.1
      replace h := h.2
      refine wp_iincr dX9_behind_45 rfl (by decide) c4 (wp_L (L' := [some (vR (b + 9)), some (vI l1), some (vL l2), none, some (vL (l_or l4 (ML (b + 15) ((l1 * 40) + l6).toNat))), none, some (vI (l6 + 1))]) rfl ?_)
      refine wp_goto (tgt := 6) dX9_behind_48 (by decide) ?_
      exact h
theorem dX4_fitsGroup_0 : decode cX4_fitsGroup 0 = .ok (.aload_n 1, 1) := by decide +kernel
theorem dX4_fitsGroup_1 : decode cX4_fitsGroup 1 = .ok (.getfield 49, 3) := by decide +kernel
theorem dX4_fitsGroup_4 : decode cX4_fitsGroup 4 = .ok (.astore 4, 2) := by decide +kernel
theorem dX4_fitsGroup_6 : decode cX4_fitsGroup 6 = .ok (.aload 4, 2) := by decide +kernel
theorem dX4_fitsGroup_8 : decode cX4_fitsGroup 8 = .ok (.getfield 226, 3) := by decide +kernel
theorem dX4_fitsGroup_11 : decode cX4_fitsGroup 11 = .ok (.iload_n 3, 1) := by decide +kernel
theorem dX4_fitsGroup_12 : decode cX4_fitsGroup 12 = .ok (.laload, 1) := by decide +kernel
theorem dX4_fitsGroup_13 : decode cX4_fitsGroup 13 = .ok (.lstore 5, 2) := by decide +kernel
theorem dX4_fitsGroup_15 : decode cX4_fitsGroup 15 = .ok (.aload 4, 2) := by decide +kernel
theorem dX4_fitsGroup_17 : decode cX4_fitsGroup 17 = .ok (.getfield 230, 3) := by decide +kernel
theorem dX4_fitsGroup_20 : decode cX4_fitsGroup 20 = .ok (.iload_n 3, 1) := by decide +kernel
theorem dX4_fitsGroup_21 : decode cX4_fitsGroup 21 = .ok (.baload, 1) := by decide +kernel
theorem dX4_fitsGroup_22 : decode cX4_fitsGroup 22 = .ok (.ifCond .eq 7, 3) := by decide +kernel
theorem dX4_fitsGroup_25 : decode cX4_fitsGroup 25 = .ok (.iconst 1, 1) := by decide +kernel
theorem dX4_fitsGroup_26 : decode cX4_fitsGroup 26 = .ok (.goto 4, 3) := by decide +kernel
theorem dX4_fitsGroup_29 : decode cX4_fitsGroup 29 = .ok (.iconst 0, 1) := by decide +kernel
theorem dX4_fitsGroup_30 : decode cX4_fitsGroup 30 = .ok (.istore 7, 2) := by decide +kernel
theorem dX4_fitsGroup_32 : decode cX4_fitsGroup 32 = .ok (.aload_n 1, 1) := by decide +kernel
theorem dX4_fitsGroup_33 : decode cX4_fitsGroup 33 = .ok (.iload_n 2, 1) := by decide +kernel
theorem dX4_fitsGroup_34 : decode cX4_fitsGroup 34 = .ok (.invokevirtual 211, 3) := by decide +kernel
theorem dX4_fitsGroup_37 : decode cX4_fitsGroup 37 = .ok (.istore 8, 2) := by decide +kernel
theorem dX4_fitsGroup_39 : decode cX4_fitsGroup 39 = .ok (.iload 8, 2) := by decide +kernel
theorem dX4_fitsGroup_41 : decode cX4_fitsGroup 41 = .ok (.aload_n 1, 1) := by decide +kernel
theorem dX4_fitsGroup_42 : decode cX4_fitsGroup 42 = .ok (.getfield 214, 3) := by decide +kernel
theorem dX4_fitsGroup_45 : decode cX4_fitsGroup 45 = .ok (.iload_n 2, 1) := by decide +kernel
theorem dX4_fitsGroup_46 : decode cX4_fitsGroup 46 = .ok (.iaload, 1) := by decide +kernel
theorem dX4_fitsGroup_47 : decode cX4_fitsGroup 47 = .ok (.if_icmp .ge 108, 3) := by decide +kernel
theorem dX4_fitsGroup_50 : decode cX4_fitsGroup 50 = .ok (.aload_n 1, 1) := by decide +kernel
theorem dX4_fitsGroup_51 : decode cX4_fitsGroup 51 = .ok (.getfield 42, 3) := by decide +kernel
theorem dX4_fitsGroup_54 : decode cX4_fitsGroup 54 = .ok (.iload 8, 2) := by decide +kernel
theorem dX4_fitsGroup_56 : decode cX4_fitsGroup 56 = .ok (.iaload, 1) := by decide +kernel
theorem dX4_fitsGroup_57 : decode cX4_fitsGroup 57 = .ok (.iconst 1, 1) := by decide +kernel
theorem dX4_fitsGroup_58 : decode cX4_fitsGroup 58 = .ok (.if_icmp .ne 64, 3) := by decide +kernel
theorem dX4_fitsGroup_61 : decode cX4_fitsGroup 61 = .ok (.aload 4, 2) := by decide +kernel
theorem dX4_fitsGroup_63 : decode cX4_fitsGroup 63 = .ok (.iload_n 3, 1) := by decide +kernel
theorem dX4_fitsGroup_64 : decode cX4_fitsGroup 64 = .ok (.lload 5, 2) := by decide +kernel
theorem dX4_fitsGroup_66 : decode cX4_fitsGroup 66 = .ok (.aload_n 1, 1) := by decide +kernel
theorem dX4_fitsGroup_67 : decode cX4_fitsGroup 67 = .ok (.getfield 34, 3) := by decide +kernel
theorem dX4_fitsGroup_70 : decode cX4_fitsGroup 70 = .ok (.iload 8, 2) := by decide +kernel
theorem dX4_fitsGroup_72 : decode cX4_fitsGroup 72 = .ok (.iaload, 1) := by decide +kernel
theorem dX4_fitsGroup_73 : decode cX4_fitsGroup 73 = .ok (.invokevirtual 217, 3) := by decide +kernel
theorem dX4_fitsGroup_76 : decode cX4_fitsGroup 76 = .ok (.lstore 9, 2) := by decide +kernel
theorem dX4_fitsGroup_78 : decode cX4_fitsGroup 78 = .ok (.lload 9, 2) := by decide +kernel
theorem dX4_fitsGroup_80 : decode cX4_fitsGroup 80 = .ok (.lconst 0, 1) := by decide +kernel
theorem dX4_fitsGroup_81 : decode cX4_fitsGroup 81 = .ok (.lcmp, 1) := by decide +kernel
theorem dX4_fitsGroup_82 : decode cX4_fitsGroup 82 = .ok (.ifCond .ne 5, 3) := by decide +kernel
theorem dX4_fitsGroup_85 : decode cX4_fitsGroup 85 = .ok (.iconst 0, 1) := by decide +kernel
theorem dX4_fitsGroup_86 : decode cX4_fitsGroup 86 = .ok (.ireturn, 1) := by decide +kernel
theorem dX4_fitsGroup_87 : decode cX4_fitsGroup 87 = .ok (.aload 4, 2) := by decide +kernel
theorem dX4_fitsGroup_89 : decode cX4_fitsGroup 89 = .ok (.iload_n 3, 1) := by decide +kernel
theorem dX4_fitsGroup_90 : decode cX4_fitsGroup 90 = .ok (.lload 9, 2) := by decide +kernel
theorem dX4_fitsGroup_92 : decode cX4_fitsGroup 92 = .ok (.invokevirtual 233, 3) := by decide +kernel
theorem dX4_fitsGroup_95 : decode cX4_fitsGroup 95 = .ok (.lstore 5, 2) := by decide +kernel
theorem dX4_fitsGroup_97 : decode cX4_fitsGroup 97 = .ok (.lload 9, 2) := by decide +kernel
theorem dX4_fitsGroup_99 : decode cX4_fitsGroup 99 = .ok (.aload 4, 2) := by decide +kernel
theorem dX4_fitsGroup_101 : decode cX4_fitsGroup 101 = .ok (.getfield 237, 3) := by decide +kernel
theorem dX4_fitsGroup_104 : decode cX4_fitsGroup 104 = .ok (.iload_n 3, 1) := by decide +kernel
theorem dX4_fitsGroup_105 : decode cX4_fitsGroup 105 = .ok (.laload, 1) := by decide +kernel
theorem dX4_fitsGroup_106 : decode cX4_fitsGroup 106 = .ok (.land, 1) := by decide +kernel
theorem dX4_fitsGroup_107 : decode cX4_fitsGroup 107 = .ok (.lconst 0, 1) := by decide +kernel
theorem dX4_fitsGroup_108 : decode cX4_fitsGroup 108 = .ok (.lcmp, 1) := by decide +kernel
theorem dX4_fitsGroup_109 : decode cX4_fitsGroup 109 = .ok (.ifCond .eq 7, 3) := by decide +kernel
theorem dX4_fitsGroup_112 : decode cX4_fitsGroup 112 = .ok (.iconst 1, 1) := by decide +kernel
theorem dX4_fitsGroup_113 : decode cX4_fitsGroup 113 = .ok (.goto 4, 3) := by decide +kernel
theorem dX4_fitsGroup_116 : decode cX4_fitsGroup 116 = .ok (.iconst 0, 1) := by decide +kernel
theorem dX4_fitsGroup_117 : decode cX4_fitsGroup 117 = .ok (.istore 7, 2) := by decide +kernel
theorem dX4_fitsGroup_119 : decode cX4_fitsGroup 119 = .ok (.goto 17, 3) := by decide +kernel
theorem dX4_fitsGroup_122 : decode cX4_fitsGroup 122 = .ok (.aload_n 1, 1) := by decide +kernel
theorem dX4_fitsGroup_123 : decode cX4_fitsGroup 123 = .ok (.getfield 163, 3) := by decide +kernel
theorem dX4_fitsGroup_126 : decode cX4_fitsGroup 126 = .ok (.iload 8, 2) := by decide +kernel
theorem dX4_fitsGroup_128 : decode cX4_fitsGroup 128 = .ok (.iaload, 1) := by decide +kernel
theorem dX4_fitsGroup_129 : decode cX4_fitsGroup 129 = .ok (.iconst 2, 1) := by decide +kernel
theorem dX4_fitsGroup_130 : decode cX4_fitsGroup 130 = .ok (.iand, 1) := by decide +kernel
theorem dX4_fitsGroup_131 : decode cX4_fitsGroup 131 = .ok (.ifCond .eq 5, 3) := by decide +kernel
theorem dX4_fitsGroup_134 : decode cX4_fitsGroup 134 = .ok (.iconst 0, 1) := by decide +kernel
theorem dX4_fitsGroup_135 : decode cX4_fitsGroup 135 = .ok (.ireturn, 1) := by decide +kernel
theorem dX4_fitsGroup_136 : decode cX4_fitsGroup 136 = .ok (.iload 8, 2) := by decide +kernel
theorem dX4_fitsGroup_138 : decode cX4_fitsGroup 138 = .ok (.iconst 1, 1) := by decide +kernel
theorem dX4_fitsGroup_139 : decode cX4_fitsGroup 139 = .ok (.iadd, 1) := by decide +kernel
theorem dX4_fitsGroup_140 : decode cX4_fitsGroup 140 = .ok (.aload_n 1, 1) := by decide +kernel
theorem dX4_fitsGroup_141 : decode cX4_fitsGroup 141 = .ok (.getfield 214, 3) := by decide +kernel
theorem dX4_fitsGroup_144 : decode cX4_fitsGroup 144 = .ok (.iload 8, 2) := by decide +kernel
theorem dX4_fitsGroup_146 : decode cX4_fitsGroup 146 = .ok (.iaload, 1) := by decide +kernel
theorem dX4_fitsGroup_147 : decode cX4_fitsGroup 147 = .ok (.invokestatic 221, 3) := by decide +kernel
theorem dX4_fitsGroup_150 : decode cX4_fitsGroup 150 = .ok (.istore 8, 2) := by decide +kernel
theorem dX4_fitsGroup_152 : decode cX4_fitsGroup 152 = .ok (.goto (-113), 3) := by decide +kernel
theorem dX4_fitsGroup_155 : decode cX4_fitsGroup 155 = .ok (.iload 7, 2) := by decide +kernel
theorem dX4_fitsGroup_157 : decode cX4_fitsGroup 157 = .ok (.ireturn, 1) := by decide +kernel
theorem v_X4_fitsGroup_0 {cs : Cs} {Q : Option AV → Mm → Prop} {MI ML : Nat → Nat → Int} {b d e nw th x : Nat} {l2 l3 : Int} (hbd : b = 38 ∨ b = 81)
    (h : (0 ≤ l3 ∧ l3 < 30) ∧ (((MI (b + 19) l3.toNat) = 0 → wp cs mX3_firstIn KD (rI (GR d e nw th x) fun x34 m34 n34 => wp cs mX4_fitsGroup KD Q 39 [some (vR 11), some (vR b), some (vI l2), some (vI l3), some (vR (b + 9)), some (vL (ML (b + 17) l3.toNat)), none, some (vI 0), some (vI x34), none, none] [] (KD, m34, n34, (GR d e nw th x))) 0 (padL [vR b, vI l2] 2) [] (KD, MI, ML, (GR d e nw th x))) ∧ ((MI (b + 19) l3.toNat) ≠ 0 → wp cs mX3_firstIn KD (rI (GR d e nw th x) fun x34 m34 n34 => wp cs mX4_fitsGroup KD Q 39 [some (vR 11), some (vR b), some (vI l2), some (vI l3), some (vR (b + 9)), some (vL (ML (b + 17) l3.toNat)), none, some (vI 1), some (vI x34), none, none] [] (KD, m34, n34, (GR d e nw th x))) 0 (padL [vR b, vI l2] 2) [] (KD, MI, ML, (GR d e nw th x))))) :
    wp cs mX4_fitsGroup KD Q 0 (padL [vR 11, vR b, vI l2, vI l3] 11) [] (KD, MI, ML, (GR d e nw th x)) := by
  refine wp_L (L' := [some (vR 11), some (vR b), some (vI l2), some (vI l3), none, none, none, none, none, none, none]) rfl ?_
  refine wp_aload_n dX4_fitsGroup_0 rfl rfl (by first | exact Or.inl (by decide) | exact Or.inl (by omega) | exact Or.inr (by decide) | exact Or.inr (by omega)) ?_
  refine wp_getR dX4_fitsGroup_1 fX4_49 (show KD[b]? = some (7, 19) from kdb_0 hbd) (by omega) ?_
  refine wp_topR (x' := (b + 9)) (grb_0_1 hbd) ?_
  refine wp_astore dX4_fitsGroup_4 (by first | exact Or.inl (by decide) | exact Or.inl (by omega)) (by decide) (wp_L (L' := [some (vR 11), some (vR b), some (vI l2), some (vI l3), some (vR (b + 9)), none, none, none, none, none, none]) rfl ?_)
  refine wp_aload dX4_fitsGroup_6 rfl (by first | exact Or.inl (by decide) | exact Or.inl (by omega) | exact Or.inr (by decide) | exact Or.inr (by omega)) ?_
  refine wp_getR dX4_fitsGroup_8 fX4_226 (kdb_9 hbd) (by omega) ?_
  refine wp_topR (x' := (b + 17)) (grb_9_7 hbd) ?_
  refine wp_iload_n dX4_fitsGroup_11 rfl rfl ?_
  have c0 := h.1
  replace h := h.2
  refine wp_lald dX4_fitsGroup_12 (kdb_17 hbd) (by omega) c0 ?_
  refine wp_pc (pc' := 13) rfl ?_
  refine wp_lstore dX4_fitsGroup_13 (by decide) (wp_L (L' := [some (vR 11), some (vR b), some (vI l2), some (vI l3), some (vR (b + 9)), some (vL (ML (b + 17) l3.toNat)), none, none, none, none, none]) rfl ?_)
  refine wp_aload dX4_fitsGroup_15 rfl (by first | exact Or.inl (by decide) | exact Or.inl (by omega) | exact Or.inr (by decide) | exact Or.inr (by omega)) ?_
  refine wp_getR dX4_fitsGroup_17 fX4_230 (kdb_9 hbd) (by omega) ?_
  refine wp_topR (x' := (b + 19)) (grb_9_9 hbd) ?_
  refine wp_iload_n dX4_fitsGroup_20 rfl rfl ?_
  refine wp_bald dX4_fitsGroup_21 (kdb_19 hbd) (by omega) c0 ?_
  refine wp_if_eq (tgt := 29) dX4_fitsGroup_22 (by decide) (fun h22 => ?_) (fun h22 => ?_)
  · replace h := h.1 h22
    refine wp_iconst dX4_fitsGroup_29 (by decide) ?_
    refine wp_istore dX4_fitsGroup_30 (by decide) (wp_L (L' := [some (vR 11), some (vR b), some (vI l2), some (vI l3), some (vR (b + 9)), some (vL (ML (b + 17) l3.toNat)), none, some (vI 0), none, none, none]) rfl ?_)
    refine wp_aload_n dX4_fitsGroup_32 rfl rfl (by first | exact Or.inl (by decide) | exact Or.inl (by omega) | exact Or.inr (by decide) | exact Or.inr (by omega)) ?_
    refine wp_iload_n dX4_fitsGroup_33 rfl rfl ?_
    refine wp_cVq (n := 1) (mt' := mX3_firstIn) (as := [vI l2]) (rest := []) _ dX4_fitsGroup_34 lX4_211 kX3_firstIn vX3_firstIn (by decide) (by decide +kernel) rfl (Nat.le_of_ble_eq_true rfl) (by omega) (show KD[b]? = some (7, 19) from kdb_0 hbd) rfl rfl (Nat.le_of_ble_eq_true rfl) (fun hM hS => h) (fun r M' hq hM => ?_)
    obtain ⟨x34, m34, n34, rfl, rfl, h⟩ := rI_out hq
    refine wp_istore dX4_fitsGroup_37 (by decide) (wp_L (L' := [some (vR 11), some (vR b), some (vI l2), some (vI l3), some (vR (b + 9)), some (vL (ML (b + 17) l3.toNat)), none, some (vI 0), some (vI x34), none, none]) rfl ?_)
    exact h
  · replace h := h.2 h22
    refine wp_iconst dX4_fitsGroup_25 (by decide) ?_
    refine wp_goto (tgt := 30) dX4_fitsGroup_26 (by decide) ?_
    refine wp_istore dX4_fitsGroup_30 (by decide) (wp_L (L' := [some (vR 11), some (vR b), some (vI l2), some (vI l3), some (vR (b + 9)), some (vL (ML (b + 17) l3.toNat)), none, some (vI 1), none, none, none]) rfl ?_)
    refine wp_aload_n dX4_fitsGroup_32 rfl rfl (by first | exact Or.inl (by decide) | exact Or.inl (by omega) | exact Or.inr (by decide) | exact Or.inr (by omega)) ?_
    refine wp_iload_n dX4_fitsGroup_33 rfl rfl ?_
    refine wp_cVq (n := 1) (mt' := mX3_firstIn) (as := [vI l2]) (rest := []) _ dX4_fitsGroup_34 lX4_211 kX3_firstIn vX3_firstIn (by decide) (by decide +kernel) rfl (Nat.le_of_ble_eq_true rfl) (by omega) (show KD[b]? = some (7, 19) from kdb_0 hbd) rfl rfl (Nat.le_of_ble_eq_true rfl) (fun hM hS => h) (fun r M' hq hM => ?_)
    obtain ⟨x34, m34, n34, rfl, rfl, h⟩ := rI_out hq
    refine wp_istore dX4_fitsGroup_37 (by decide) (wp_L (L' := [some (vR 11), some (vR b), some (vI l2), some (vI l3), some (vR (b + 9)), some (vL (ML (b + 17) l3.toNat)), none, some (vI 1), some (vI x34), none, none]) rfl ?_)
    exact h
theorem v_X4_fitsGroup_39 {cs : Cs} {Q : Option AV → Mm → Prop} {MI ML : Nat → Nat → Int} {b d e nw th x : Nat} {l2 l3 l5 l7 l8 : Int} (hbd : b = 38 ∨ b = 81)
    (h : (0 ≤ l2 ∧ l2 < 600) ∧ ((l8 < (MI (b + 38) l2.toNat) → (0 ≤ l8 ∧ l8 < 600) ∧ (((MI (b + 32) l8.toNat) = 1 → wp cs mX9_named KD (rJ (GR d e nw th x) fun x73 m73 n73 => ((x73 = 0 → Q (some (vI 0)) (m73, n73, (GR d e nw th x))) ∧ (x73 ≠ 0 → wp cs mX9_behind KD (rJ (GR d e nw th x) fun x92 m92 n92 => (0 ≤ l3 ∧ l3 < 30) ∧ (((l_and x73 (n92 (b + 18) l3.toNat)) = 0 → (-2147483648 ≤ l8 + 1 ∧ l8 + 1 < 2147483648) ∧ wp cs mX4_fitsGroup KD Q 39 [some (vR 11), some (vR b), some (vI l2), some (vI l3), some (vR (b + 9)), some (vL x92), none, some (vI 0), some (vI (if (l8 + 1) < (m92 (b + 38) l8.toNat) then (m92 (b + 38) l8.toNat) else (l8 + 1))), none, none] [] (KD, m92, n92, (GR d e nw th x))) ∧ ((l_and x73 (n92 (b + 18) l3.toNat)) ≠ 0 → (-2147483648 ≤ l8 + 1 ∧ l8 + 1 < 2147483648) ∧ wp cs mX4_fitsGroup KD Q 39 [some (vR 11), some (vR b), some (vI l2), some (vI l3), some (vR (b + 9)), some (vL x92), none, some (vI 1), some (vI (if (l8 + 1) < (m92 (b + 38) l8.toNat) then (m92 (b + 38) l8.toNat) else (l8 + 1))), none, none] [] (KD, m92, n92, (GR d e nw th x))))) 0 (padL [vR (b + 9), vI l3, vL x73] 7) [] (KD, m73, n73, (GR d e nw th x))))) 0 (padL [vR (b + 9), vI l3, vL l5, vI (MI (b + 34) l8.toNat)] 8) [] (KD, MI, ML, (GR d e nw th x))) ∧ ((MI (b + 32) l8.toNat) ≠ 1 → (((i_and (MI (b + 37) l8.toNat) 2) = 0 → (-2147483648 ≤ l8 + 1 ∧ l8 + 1 < 2147483648) ∧ wp cs mX4_fitsGroup KD Q 39 [some (vR 11), some (vR b), some (vI l2), some (vI l3), some (vR (b + 9)), some (vL l5), none, some (vI l7), some (vI (if (l8 + 1) < (MI (b + 38) l8.toNat) then (MI (b + 38) l8.toNat) else (l8 + 1))), none, none] [] (KD, MI, ML, (GR d e nw th x))) ∧ ((i_and (MI (b + 37) l8.toNat) 2) ≠ 0 → Q (some (vI 0)) (MI, ML, (GR d e nw th x))))))) ∧ ((MI (b + 38) l2.toNat) ≤ l8 → (l7 = 0 ∨ l7 = 1) ∧ Q (some (vI l7)) (MI, ML, (GR d e nw th x))))) :
    wp cs mX4_fitsGroup KD Q 39 [some (vR 11), some (vR b), some (vI l2), some (vI l3), some (vR (b + 9)), some (vL l5), none, some (vI l7), some (vI l8), none, none] [] (KD, MI, ML, (GR d e nw th x)) := by
  refine wp_iload dX4_fitsGroup_39 rfl ?_
  refine wp_aload_n dX4_fitsGroup_41 rfl rfl (by first | exact Or.inl (by decide) | exact Or.inl (by omega) | exact Or.inr (by decide) | exact Or.inr (by omega)) ?_
  refine wp_getR dX4_fitsGroup_42 fX4_214 (show KD[b]? = some (7, 19) from kdb_0 hbd) (by omega) ?_
  refine wp_topR (x' := (b + 38)) (grb_0_9 hbd) ?_
  refine wp_iload_n dX4_fitsGroup_45 rfl rfl ?_
  have c0 := h.1
  replace h := h.2
  refine wp_iald dX4_fitsGroup_46 (kdb_38 hbd) (by omega) c0 ?_
  refine wp_icmp_ge (tgt := 155) dX4_fitsGroup_47 (by decide) (fun h47 => ?_) (fun h47 => ?_)
  · replace h := h.2 h47
    refine wp_iload dX4_fitsGroup_155 rfl ?_
    exact wp_zret dX4_fitsGroup_157 rfl h.1 (fun _ => h.2)
  · replace h := h.1 h47
    refine wp_aload_n dX4_fitsGroup_50 rfl rfl (by first | exact Or.inl (by decide) | exact Or.inl (by omega) | exact Or.inr (by decide) | exact Or.inr (by omega)) ?_
    refine wp_getR dX4_fitsGroup_51 fX4_42 (show KD[b]? = some (7, 19) from kdb_0 hbd) (by omega) ?_
    refine wp_topR (x' := (b + 32)) (grb_0_3 hbd) ?_
    refine wp_iload dX4_fitsGroup_54 rfl ?_
    have c1 := h.1
    replace h := h.2
    refine wp_iald dX4_fitsGroup_56 (kdb_32 hbd) (by omega) c1 ?_
    refine wp_iconst dX4_fitsGroup_57 (by decide) ?_
    refine wp_icmp_ne (tgt := 122) dX4_fitsGroup_58 (by decide) (fun h58 => ?_) (fun h58 => ?_)
    · replace h := h.2 h58
      refine wp_aload_n dX4_fitsGroup_122 rfl rfl (by first | exact Or.inl (by decide) | exact Or.inl (by omega) | exact Or.inr (by decide) | exact Or.inr (by omega)) ?_
      refine wp_getR dX4_fitsGroup_123 fX4_163 (show KD[b]? = some (7, 19) from kdb_0 hbd) (by omega) ?_
      refine wp_topR (x' := (b + 37)) (grb_0_8 hbd) ?_
      refine wp_iload dX4_fitsGroup_126 rfl ?_
      refine wp_iald dX4_fitsGroup_128 (kdb_37 hbd) (by omega) c1 ?_
      refine wp_iconst dX4_fitsGroup_129 (by decide) ?_
      refine wp_iand dX4_fitsGroup_130 ?_
      refine wp_if_eq (tgt := 136) dX4_fitsGroup_131 (by decide) (fun h131 => ?_) (fun h131 => ?_)
      · replace h := h.1 h131
        refine wp_iload dX4_fitsGroup_136 rfl ?_
        refine wp_iconst dX4_fitsGroup_138 (by decide) ?_
        have c2 := h.1
        replace h := h.2
        refine wp_iaddr dX4_fitsGroup_139 c2 ?_
        refine wp_aload_n dX4_fitsGroup_140 rfl rfl (by first | exact Or.inl (by decide) | exact Or.inl (by omega) | exact Or.inr (by decide) | exact Or.inr (by omega)) ?_
        refine wp_getR dX4_fitsGroup_141 fX4_214 (show KD[b]? = some (7, 19) from kdb_0 hbd) (by omega) ?_
        refine wp_topR (x' := (b + 38)) (grb_0_9 hbd) ?_
        refine wp_iload dX4_fitsGroup_144 rfl ?_
        refine wp_iald dX4_fitsGroup_146 (kdb_38 hbd) (by omega) c1 ?_
        refine wp_pc (pc' := 147) rfl ?_
        refine wp_mmax dX4_fitsGroup_147 lX4_221 (Nat.le_of_ble_eq_true rfl) (by decide) (by decide) ⟨Nat.le_refl _, Nat.le_refl _⟩ ?_
        refine wp_istore dX4_fitsGroup_150 (by decide) (wp_L (L' := [some (vR 11), some (vR b), some (vI l2), some (vI l3), some (vR (b + 9)), some (vL l5), none, some (vI l7), some (vI (if (l8 + 1) < (MI (b + 38) l8.toNat) then (MI (b + 38) l8.toNat) else (l8 + 1))), none, none]) rfl ?_)
        refine wp_goto (tgt := 39) dX4_fitsGroup_152 (by decide) ?_
        exact h
      · replace h := h.2 h131
        refine wp_iconst dX4_fitsGroup_134 (by decide) ?_
        exact wp_zret dX4_fitsGroup_135 rfl (by decide) (fun _ => h)
    · replace h := h.1 h58
      refine wp_aload dX4_fitsGroup_61 rfl (by first | exact Or.inl (by decide) | exact Or.inl (by omega) | exact Or.inr (by decide) | exact Or.inr (by omega)) ?_
      refine wp_iload_n dX4_fitsGroup_63 rfl rfl ?_
      refine wp_lload dX4_fitsGroup_64 rfl ?_
      refine wp_aload_n dX4_fitsGroup_66 rfl rfl (by first | exact Or.inl (by decide) | exact Or.inl (by omega) | exact Or.inr (by decide) | exact Or.inr (by omega)) ?_
      refine wp_getR dX4_fitsGroup_67 fX4_34 (show KD[b]? = some (7, 19) from kdb_0 hbd) (by omega) ?_
      refine wp_topR (x' := (b + 34)) (grb_0_5 hbd) ?_
      refine wp_iload dX4_fitsGroup_70 rfl ?_
      refine wp_iald dX4_fitsGroup_72 (kdb_34 hbd) (by omega) c1 ?_
      refine wp_pc (pc' := 73) rfl ?_
      refine wp_cVq (n := 3) (mt' := mX9_named) (as := [vI l3, vL l5, vI (MI (b + 34) l8.toNat)]) (rest := []) _ dX4_fitsGroup_73 lX4_217 kX9_named vX9_named (by decide) (by decide +kernel) rfl (Nat.le_of_ble_eq_true rfl) (by omega) (kdb_9 hbd) rfl rfl (Nat.le_of_ble_eq_true rfl) (fun hM hS => h) (fun r M' hq hM => ?_)
      obtain ⟨x73, m73, n73, rfl, rfl, h⟩ := rJ_out hq
      refine wp_lstore dX4_fitsGroup_76 (by decide) (wp_L (L' := [some (vR 11), some (vR b), some (vI l2), some (vI l3), some (vR (b + 9)), some (vL l5), none, some (vI l7), some (vI l8), some (vL x73), none]) rfl ?_)
      refine wp_lload dX4_fitsGroup_78 rfl ?_
      refine wp_lconst (z := 0) dX4_fitsGroup_80 (by decide +kernel) (by decide) ?_
      refine wp_lcmp dX4_fitsGroup_81 ?_
      refine wp_if_ne (tgt := 87) dX4_fitsGroup_82 (by decide) (fun h82 => ?_) (fun h82 => ?_)
      · replace h := h.2 (l_cmp_nz h82)
        refine wp_aload dX4_fitsGroup_87 rfl (by first | exact Or.inl (by decide) | exact Or.inl (by omega) | exact Or.inr (by decide) | exact Or.inr (by omega)) ?_
        refine wp_iload_n dX4_fitsGroup_89 rfl rfl ?_
        refine wp_lload dX4_fitsGroup_90 rfl ?_
        refine wp_cVq (n := 2) (mt' := mX9_behind) (as := [vI l3, vL x73]) (rest := []) _ dX4_fitsGroup_92 lX4_233 kX9_behind vX9_behind (by decide) (by decide +kernel) rfl (Nat.le_of_ble_eq_true rfl) (by omega) (kdb_9 hbd) rfl rfl (Nat.le_of_ble_eq_true rfl) (fun hM hS => h) (fun r M' hq hM => ?_)
        obtain ⟨x92, m92, n92, rfl, rfl, h⟩ := rJ_out hq
        refine wp_lstore dX4_fitsGroup_95 (by decide) (wp_L (L' := [some (vR 11), some (vR b), some (vI l2), some (vI l3), some (vR (b + 9)), some (vL x92), none, some (vI l7), some (vI l8), some (vL x73), none]) rfl ?_)
        refine wp_lload dX4_fitsGroup_97 rfl ?_
        refine wp_aload dX4_fitsGroup_99 rfl (by first | exact Or.inl (by decide) | exact Or.inl (by omega) | exact Or.inr (by decide) | exact Or.inr (by omega)) ?_
        refine wp_getR dX4_fitsGroup_101 fX4_237 (kdb_9 hbd) (by omega) ?_
        refine wp_topR (x' := (b + 18)) (grb_9_8 hbd) ?_
        refine wp_iload_n dX4_fitsGroup_104 rfl rfl ?_
        have c2 := h.1
        replace h := h.2
        refine wp_lald dX4_fitsGroup_105 (kdb_18 hbd) (by omega) c2 ?_
        refine wp_land dX4_fitsGroup_106 ?_
        refine wp_pc (pc' := 107) rfl ?_
        refine wp_lconst (z := 0) dX4_fitsGroup_107 (by decide +kernel) (by decide) ?_
        refine wp_lcmp dX4_fitsGroup_108 ?_
        refine wp_if_eq (tgt := 116) dX4_fitsGroup_109 (by decide) (fun h109 => ?_) (fun h109 => ?_)
        · replace h := h.1 (l_cmp_z h109)
          refine wp_iconst dX4_fitsGroup_116 (by decide) ?_
          refine wp_istore dX4_fitsGroup_117 (by decide) (wp_L (L' := [some (vR 11), some (vR b), some (vI l2), some (vI l3), some (vR (b + 9)), some (vL x92), none, some (vI 0), some (vI l8), some (vL x73), none]) rfl ?_)
          refine wp_goto (tgt := 136) dX4_fitsGroup_119 (by decide) ?_
          refine wp_iload dX4_fitsGroup_136 rfl ?_
          refine wp_iconst dX4_fitsGroup_138 (by decide) ?_
          have c3 := h.1
          replace h := h.2
          refine wp_iaddr dX4_fitsGroup_139 c3 ?_
          refine wp_aload_n dX4_fitsGroup_140 rfl rfl (by first | exact Or.inl (by decide) | exact Or.inl (by omega) | exact Or.inr (by decide) | exact Or.inr (by omega)) ?_
          refine wp_pc (pc' := 141) rfl ?_
          refine wp_getR dX4_fitsGroup_141 fX4_214 (show KD[b]? = some (7, 19) from kdb_0 hbd) (by omega) ?_
          refine wp_topR (x' := (b + 38)) (grb_0_9 hbd) ?_
          refine wp_iload dX4_fitsGroup_144 rfl ?_
          refine wp_iald dX4_fitsGroup_146 (kdb_38 hbd) (by omega) c1 ?_
          refine wp_mmax dX4_fitsGroup_147 lX4_221 (Nat.le_of_ble_eq_true rfl) (by decide) (by decide) ⟨Nat.le_refl _, Nat.le_refl _⟩ ?_
          refine wp_istore dX4_fitsGroup_150 (by decide) (wp_L (L' := [some (vR 11), some (vR b), some (vI l2), some (vI l3), some (vR (b + 9)), some (vL x92), none, some (vI 0), some (vI (if (l8 + 1) < (m92 (b + 38) l8.toNat) then (m92 (b + 38) l8.toNat) else (l8 + 1))), some (vL x73), none]) rfl ?_)
          refine wp_goto (tgt := 39) dX4_fitsGroup_152 (by decide) ?_
          refine wp_forget (L' := [some (vR 11), some (vR b), some (vI l2), some (vI l3), some (vR (b + 9)), some (vL x92), none, some (vI 0), some (vI (if (l8 + 1) < (m92 (b + 38) l8.toNat) then (m92 (b + 38) l8.toNat) else (l8 + 1))), none, none]) (by repeat' (first | exact trivial | refine ⟨rfl, ?_⟩)) ?_
          exact h
        · replace h := h.2 (l_cmp_nz h109)
          refine wp_iconst dX4_fitsGroup_112 (by decide) ?_
          refine wp_goto (tgt := 117) dX4_fitsGroup_113 (by decide) ?_
          refine wp_istore dX4_fitsGroup_117 (by decide) (wp_L (L' := [some (vR 11), some (vR b), some (vI l2), some (vI l3), some (vR (b + 9)), some (vL x92), none, some (vI 1), some (vI l8), some (vL x73), none]) rfl ?_)
          refine wp_goto (tgt := 136) dX4_fitsGroup_119 (by decide) ?_
          refine wp_iload dX4_fitsGroup_136 rfl ?_
          refine wp_iconst dX4_fitsGroup_138 (by decide) ?_
          have c3 := h.1
          replace h := h.2
          refine wp_iaddr dX4_fitsGroup_139 c3 ?_
          refine wp_pc (pc' := 140) rfl ?_
          refine wp_aload_n dX4_fitsGroup_140 rfl rfl (by first | exact Or.inl (by decide) | exact Or.inl (by omega) | exact Or.inr (by decide) | exact Or.inr (by omega)) ?_
          refine wp_getR dX4_fitsGroup_141 fX4_214 (show KD[b]? = some (7, 19) from kdb_0 hbd) (by omega) ?_
          refine wp_topR (x' := (b + 38)) (grb_0_9 hbd) ?_
          refine wp_iload dX4_fitsGroup_144 rfl ?_
          refine wp_iald dX4_fitsGroup_146 (kdb_38 hbd) (by omega) c1 ?_
          refine wp_mmax dX4_fitsGroup_147 lX4_221 (Nat.le_of_ble_eq_true rfl) (by decide) (by decide) ⟨Nat.le_refl _, Nat.le_refl _⟩ ?_
          refine wp_istore dX4_fitsGroup_150 (by decide) (wp_L (L' := [some (vR 11), some (vR b), some (vI l2), some (vI l3), some (vR (b + 9)), some (vL x92), none, some (vI 1), some (vI (if (l8 + 1) < (m92 (b + 38) l8.toNat) then (m92 (b + 38) l8.toNat) else (l8 + 1))), some (vL x73), none]) rfl ?_)
          refine wp_goto (tgt := 39) dX4_fitsGroup_152 (by decide) ?_
          refine wp_forget (L' := [some (vR 11), some (vR b), some (vI l2), some (vI l3), some (vR (b + 9)), some (vL x92), none, some (vI 1), some (vI (if (l8 + 1) < (m92 (b + 38) l8.toNat) then (m92 (b + 38) l8.toNat) else (l8 + 1))), none, none]) (by repeat' (first | exact trivial | refine ⟨rfl, ?_⟩)) ?_
          exact h
      · replace h := h.1 (l_cmp_z h82)
        refine wp_iconst dX4_fitsGroup_85 (by decide) ?_
        exact wp_zret dX4_fitsGroup_86 rfl (by decide) (fun _ => h)
theorem dX4_fitsLoosely_0 : decode cX4_fitsLoosely 0 = .ok (.aload_n 1, 1) := by decide +kernel
theorem dX4_fitsLoosely_1 : decode cX4_fitsLoosely 1 = .ok (.getfield 49, 3) := by decide +kernel
theorem dX4_fitsLoosely_4 : decode cX4_fitsLoosely 4 = .ok (.getfield 85, 3) := by decide +kernel
theorem dX4_fitsLoosely_7 : decode cX4_fitsLoosely 7 = .ok (.iload_n 3, 1) := by decide +kernel
theorem dX4_fitsLoosely_8 : decode cX4_fitsLoosely 8 = .ok (.iaload, 1) := by decide +kernel
theorem dX4_fitsLoosely_9 : decode cX4_fitsLoosely 9 = .ok (.iconst 1, 1) := by decide +kernel
theorem dX4_fitsLoosely_10 : decode cX4_fitsLoosely 10 = .ok (.if_icmp .ne 7, 3) := by decide +kernel
theorem dX4_fitsLoosely_13 : decode cX4_fitsLoosely 13 = .ok (.iconst 1, 1) := by decide +kernel
theorem dX4_fitsLoosely_14 : decode cX4_fitsLoosely 14 = .ok (.goto 4, 3) := by decide +kernel
theorem dX4_fitsLoosely_17 : decode cX4_fitsLoosely 17 = .ok (.iconst 0, 1) := by decide +kernel
theorem dX4_fitsLoosely_18 : decode cX4_fitsLoosely 18 = .ok (.istore 4, 2) := by decide +kernel
theorem dX4_fitsLoosely_20 : decode cX4_fitsLoosely 20 = .ok (.aload_n 1, 1) := by decide +kernel
theorem dX4_fitsLoosely_21 : decode cX4_fitsLoosely 21 = .ok (.iload_n 2, 1) := by decide +kernel
theorem dX4_fitsLoosely_22 : decode cX4_fitsLoosely 22 = .ok (.invokevirtual 211, 3) := by decide +kernel
theorem dX4_fitsLoosely_25 : decode cX4_fitsLoosely 25 = .ok (.istore 5, 2) := by decide +kernel
theorem dX4_fitsLoosely_27 : decode cX4_fitsLoosely 27 = .ok (.iload 5, 2) := by decide +kernel
theorem dX4_fitsLoosely_29 : decode cX4_fitsLoosely 29 = .ok (.aload_n 1, 1) := by decide +kernel
theorem dX4_fitsLoosely_30 : decode cX4_fitsLoosely 30 = .ok (.getfield 214, 3) := by decide +kernel
theorem dX4_fitsLoosely_33 : decode cX4_fitsLoosely 33 = .ok (.iload_n 2, 1) := by decide +kernel
theorem dX4_fitsLoosely_34 : decode cX4_fitsLoosely 34 = .ok (.iaload, 1) := by decide +kernel
theorem dX4_fitsLoosely_35 : decode cX4_fitsLoosely 35 = .ok (.if_icmp .ge 100, 3) := by decide +kernel
theorem dX4_fitsLoosely_38 : decode cX4_fitsLoosely 38 = .ok (.aload_n 1, 1) := by decide +kernel
theorem dX4_fitsLoosely_39 : decode cX4_fitsLoosely 39 = .ok (.getfield 42, 3) := by decide +kernel
theorem dX4_fitsLoosely_42 : decode cX4_fitsLoosely 42 = .ok (.iload 5, 2) := by decide +kernel
theorem dX4_fitsLoosely_44 : decode cX4_fitsLoosely 44 = .ok (.iaload, 1) := by decide +kernel
theorem dX4_fitsLoosely_45 : decode cX4_fitsLoosely 45 = .ok (.iconst 1, 1) := by decide +kernel
theorem dX4_fitsLoosely_46 : decode cX4_fitsLoosely 46 = .ok (.if_icmp .ne 70, 3) := by decide +kernel
theorem dX4_fitsLoosely_49 : decode cX4_fitsLoosely 49 = .ok (.aload_n 1, 1) := by decide +kernel
theorem dX4_fitsLoosely_50 : decode cX4_fitsLoosely 50 = .ok (.getfield 34, 3) := by decide +kernel
theorem dX4_fitsLoosely_53 : decode cX4_fitsLoosely 53 = .ok (.iload 5, 2) := by decide +kernel
theorem dX4_fitsLoosely_55 : decode cX4_fitsLoosely 55 = .ok (.iaload, 1) := by decide +kernel
theorem dX4_fitsLoosely_56 : decode cX4_fitsLoosely 56 = .ok (.istore 6, 2) := by decide +kernel
theorem dX4_fitsLoosely_58 : decode cX4_fitsLoosely 58 = .ok (.iload 4, 2) := by decide +kernel
theorem dX4_fitsLoosely_60 : decode cX4_fitsLoosely 60 = .ok (.ifCond .eq 24, 3) := by decide +kernel
theorem dX4_fitsLoosely_63 : decode cX4_fitsLoosely 63 = .ok (.aload_n 1, 1) := by decide +kernel
theorem dX4_fitsLoosely_64 : decode cX4_fitsLoosely 64 = .ok (.getfield 72, 3) := by decide +kernel
theorem dX4_fitsLoosely_67 : decode cX4_fitsLoosely 67 = .ok (.iload 6, 2) := by decide +kernel
theorem dX4_fitsLoosely_69 : decode cX4_fitsLoosely 69 = .ok (.invokevirtual 79, 3) := by decide +kernel
theorem dX4_fitsLoosely_72 : decode cX4_fitsLoosely 72 = .ok (.iconst (-1), 1) := by decide +kernel
theorem dX4_fitsLoosely_73 : decode cX4_fitsLoosely 73 = .ok (.if_icmp .eq 7, 3) := by decide +kernel
theorem dX4_fitsLoosely_76 : decode cX4_fitsLoosely 76 = .ok (.iconst 1, 1) := by decide +kernel
theorem dX4_fitsLoosely_77 : decode cX4_fitsLoosely 77 = .ok (.goto 30, 3) := by decide +kernel
theorem dX4_fitsLoosely_80 : decode cX4_fitsLoosely 80 = .ok (.iconst 0, 1) := by decide +kernel
theorem dX4_fitsLoosely_81 : decode cX4_fitsLoosely 81 = .ok (.goto 26, 3) := by decide +kernel
theorem dX4_fitsLoosely_84 : decode cX4_fitsLoosely 84 = .ok (.aload_n 1, 1) := by decide +kernel
theorem dX4_fitsLoosely_85 : decode cX4_fitsLoosely 85 = .ok (.getfield 49, 3) := by decide +kernel
theorem dX4_fitsLoosely_88 : decode cX4_fitsLoosely 88 = .ok (.iload_n 3, 1) := by decide +kernel
theorem dX4_fitsLoosely_89 : decode cX4_fitsLoosely 89 = .ok (.ldc2_w 90, 3) := by decide +kernel
theorem dX4_fitsLoosely_92 : decode cX4_fitsLoosely 92 = .ok (.iload 6, 2) := by decide +kernel
theorem dX4_fitsLoosely_94 : decode cX4_fitsLoosely 94 = .ok (.invokevirtual 217, 3) := by decide +kernel
theorem dX4_fitsLoosely_97 : decode cX4_fitsLoosely 97 = .ok (.lconst 0, 1) := by decide +kernel
theorem dX4_fitsLoosely_98 : decode cX4_fitsLoosely 98 = .ok (.lcmp, 1) := by decide +kernel
theorem dX4_fitsLoosely_99 : decode cX4_fitsLoosely 99 = .ok (.ifCond .eq 7, 3) := by decide +kernel
theorem dX4_fitsLoosely_102 : decode cX4_fitsLoosely 102 = .ok (.iconst 1, 1) := by decide +kernel
theorem dX4_fitsLoosely_103 : decode cX4_fitsLoosely 103 = .ok (.goto 4, 3) := by decide +kernel
theorem dX4_fitsLoosely_106 : decode cX4_fitsLoosely 106 = .ok (.iconst 0, 1) := by decide +kernel
theorem dX4_fitsLoosely_107 : decode cX4_fitsLoosely 107 = .ok (.istore 7, 2) := by decide +kernel
theorem dX4_fitsLoosely_109 : decode cX4_fitsLoosely 109 = .ok (.iload 7, 2) := by decide +kernel
theorem dX4_fitsLoosely_111 : decode cX4_fitsLoosely 111 = .ok (.ifCond .ne 5, 3) := by decide +kernel
theorem dX4_fitsLoosely_114 : decode cX4_fitsLoosely 114 = .ok (.iconst 0, 1) := by decide +kernel
theorem dX4_fitsLoosely_115 : decode cX4_fitsLoosely 115 = .ok (.ireturn, 1) := by decide +kernel
theorem dX4_fitsLoosely_116 : decode cX4_fitsLoosely 116 = .ok (.iload 5, 2) := by decide +kernel
theorem dX4_fitsLoosely_118 : decode cX4_fitsLoosely 118 = .ok (.iconst 1, 1) := by decide +kernel
theorem dX4_fitsLoosely_119 : decode cX4_fitsLoosely 119 = .ok (.iadd, 1) := by decide +kernel
theorem dX4_fitsLoosely_120 : decode cX4_fitsLoosely 120 = .ok (.aload_n 1, 1) := by decide +kernel
theorem dX4_fitsLoosely_121 : decode cX4_fitsLoosely 121 = .ok (.getfield 214, 3) := by decide +kernel
theorem dX4_fitsLoosely_124 : decode cX4_fitsLoosely 124 = .ok (.iload 5, 2) := by decide +kernel
theorem dX4_fitsLoosely_126 : decode cX4_fitsLoosely 126 = .ok (.iaload, 1) := by decide +kernel
theorem dX4_fitsLoosely_127 : decode cX4_fitsLoosely 127 = .ok (.invokestatic 221, 3) := by decide +kernel
theorem dX4_fitsLoosely_130 : decode cX4_fitsLoosely 130 = .ok (.istore 5, 2) := by decide +kernel
theorem dX4_fitsLoosely_132 : decode cX4_fitsLoosely 132 = .ok (.goto (-105), 3) := by decide +kernel
theorem dX4_fitsLoosely_135 : decode cX4_fitsLoosely 135 = .ok (.iconst 1, 1) := by decide +kernel
theorem dX4_fitsLoosely_136 : decode cX4_fitsLoosely 136 = .ok (.ireturn, 1) := by decide +kernel
theorem v_X4_fitsLoosely_0 {cs : Cs} {Q : Option AV → Mm → Prop} {MI ML : Nat → Nat → Int} {b d e nw th x : Nat} {l2 l3 : Int} (hbd : b = 38 ∨ b = 81)
    (h : (0 ≤ l3 ∧ l3 < 30) ∧ (((MI (b + 10) l3.toNat) = 1 → wp cs mX3_firstIn KD (rI (GR d e nw th x) fun x22 m22 n22 => wp cs mX4_fitsLoosely KD Q 27 [some (vR 11), some (vR b), some (vI l2), some (vI l3), some (vI 1), some (vI x22), none, none] [] (KD, m22, n22, (GR d e nw th x))) 0 (padL [vR b, vI l2] 2) [] (KD, MI, ML, (GR d e nw th x))) ∧ ((MI (b + 10) l3.toNat) ≠ 1 → wp cs mX3_firstIn KD (rI (GR d e nw th x) fun x22 m22 n22 => wp cs mX4_fitsLoosely KD Q 27 [some (vR 11), some (vR b), some (vI l2), some (vI l3), some (vI 0), some (vI x22), none, none] [] (KD, m22, n22, (GR d e nw th x))) 0 (padL [vR b, vI l2] 2) [] (KD, MI, ML, (GR d e nw th x))))) :
    wp cs mX4_fitsLoosely KD Q 0 (padL [vR 11, vR b, vI l2, vI l3] 8) [] (KD, MI, ML, (GR d e nw th x)) := by
  refine wp_L (L' := [some (vR 11), some (vR b), some (vI l2), some (vI l3), none, none, none, none]) rfl ?_
  refine wp_aload_n dX4_fitsLoosely_0 rfl rfl (by first | exact Or.inl (by decide) | exact Or.inl (by omega) | exact Or.inr (by decide) | exact Or.inr (by omega)) ?_
  refine wp_getR dX4_fitsLoosely_1 fX4_49 (show KD[b]? = some (7, 19) from kdb_0 hbd) (by omega) ?_
  refine wp_topR (x' := (b + 9)) (grb_0_1 hbd) ?_
  refine wp_getR dX4_fitsLoosely_4 fX4_85 (kdb_9 hbd) (by omega) ?_
  refine wp_topR (x' := (b + 10)) (grb_9_0 hbd) ?_
  refine wp_iload_n dX4_fitsLoosely_7 rfl rfl ?_
  have c0 := h.1
  replace h := h.2
  refine wp_iald dX4_fitsLoosely_8 (kdb_10 hbd) (by omega) c0 ?_
  refine wp_iconst dX4_fitsLoosely_9 (by decide) ?_
  refine wp_icmp_ne (tgt := 17) dX4_fitsLoosely_10 (by decide) (fun h10 => ?_) (fun h10 => ?_)
  · replace h := h.2 h10
    refine wp_iconst dX4_fitsLoosely_17 (by decide) ?_
    refine wp_istore dX4_fitsLoosely_18 (by decide) (wp_L (L' := [some (vR 11), some (vR b), some (vI l2), some (vI l3), some (vI 0), none, none, none]) rfl ?_)
    refine wp_aload_n dX4_fitsLoosely_20 rfl rfl (by first | exact Or.inl (by decide) | exact Or.inl (by omega) | exact Or.inr (by decide) | exact Or.inr (by omega)) ?_
    refine wp_iload_n dX4_fitsLoosely_21 rfl rfl ?_
    refine wp_cVq (n := 1) (mt' := mX3_firstIn) (as := [vI l2]) (rest := []) _ dX4_fitsLoosely_22 lX4_211 kX3_firstIn vX3_firstIn (by decide) (by decide +kernel) rfl (Nat.le_of_ble_eq_true rfl) (by omega) (show KD[b]? = some (7, 19) from kdb_0 hbd) rfl rfl (Nat.le_of_ble_eq_true rfl) (fun hM hS => h) (fun r M' hq hM => ?_)
    obtain ⟨x22, m22, n22, rfl, rfl, h⟩ := rI_out hq
    refine wp_istore dX4_fitsLoosely_25 (by decide) (wp_L (L' := [some (vR 11), some (vR b), some (vI l2), some (vI l3), some (vI 0), some (vI x22), none, none]) rfl ?_)
    exact h
  · replace h := h.1 h10
    refine wp_iconst dX4_fitsLoosely_13 (by decide) ?_
    refine wp_goto (tgt := 18) dX4_fitsLoosely_14 (by decide) ?_
    refine wp_istore dX4_fitsLoosely_18 (by decide) (wp_L (L' := [some (vR 11), some (vR b), some (vI l2), some (vI l3), some (vI 1), none, none, none]) rfl ?_)
    refine wp_aload_n dX4_fitsLoosely_20 rfl rfl (by first | exact Or.inl (by decide) | exact Or.inl (by omega) | exact Or.inr (by decide) | exact Or.inr (by omega)) ?_
    refine wp_iload_n dX4_fitsLoosely_21 rfl rfl ?_
    refine wp_cVq (n := 1) (mt' := mX3_firstIn) (as := [vI l2]) (rest := []) _ dX4_fitsLoosely_22 lX4_211 kX3_firstIn vX3_firstIn (by decide) (by decide +kernel) rfl (Nat.le_of_ble_eq_true rfl) (by omega) (show KD[b]? = some (7, 19) from kdb_0 hbd) rfl rfl (Nat.le_of_ble_eq_true rfl) (fun hM hS => h) (fun r M' hq hM => ?_)
    obtain ⟨x22, m22, n22, rfl, rfl, h⟩ := rI_out hq
    refine wp_istore dX4_fitsLoosely_25 (by decide) (wp_L (L' := [some (vR 11), some (vR b), some (vI l2), some (vI l3), some (vI 1), some (vI x22), none, none]) rfl ?_)
    exact h
theorem v_X4_fitsLoosely_27 {cs : Cs} {Q : Option AV → Mm → Prop} {MI ML : Nat → Nat → Int} {b d e nw th x : Nat} {l2 l3 l4 l5 : Int} (hbd : b = 38 ∨ b = 81)
    (h : (0 ≤ l2 ∧ l2 < 600) ∧ ((l5 < (MI (b + 38) l2.toNat) → (0 ≤ l5 ∧ l5 < 600) ∧ (((MI (b + 32) l5.toNat) = 1 → ((l4 = 0 → wp cs mX9_named KD (rJ (GR d e nw th x) fun x94 m94 n94 => ((x94 = 0 → wp cs mX4_fitsLoosely KD Q 107 [some (vR 11), some (vR b), some (vI l2), some (vI l3), some (vI l4), some (vI l5), some (vI (MI (b + 34) l5.toNat)), none] [vI 0] (KD, m94, n94, (GR d e nw th x))) ∧ (x94 ≠ 0 → wp cs mX4_fitsLoosely KD Q 107 [some (vR 11), some (vR b), some (vI l2), some (vI l3), some (vI l4), some (vI l5), some (vI (MI (b + 34) l5.toNat)), none] [vI 1] (KD, m94, n94, (GR d e nw th x))))) 0 (padL [vR (b + 9), vI l3, vL (-1), vI (MI (b + 34) l5.toNat)] 8) [] (KD, MI, ML, (GR d e nw th x))) ∧ (l4 ≠ 0 → wp cs mX5_specOf KD (rI (GR d e nw th x) fun x69 m69 n69 => ((x69 = (-1) → wp cs mX4_fitsLoosely KD Q 107 [some (vR 11), some (vR b), some (vI l2), some (vI l3), some (vI l4), some (vI l5), some (vI (MI (b + 34) l5.toNat)), none] [vI 0] (KD, m69, n69, (GR d e nw th x))) ∧ (x69 ≠ (-1) → wp cs mX4_fitsLoosely KD Q 107 [some (vR 11), some (vR b), some (vI l2), some (vI l3), some (vI l4), some (vI l5), some (vI (MI (b + 34) l5.toNat)), none] [vI 1] (KD, m69, n69, (GR d e nw th x))))) 0 (padL [vR (b + 1), vI (MI (b + 34) l5.toNat)] 2) [] (KD, MI, ML, (GR d e nw th x))))) ∧ ((MI (b + 32) l5.toNat) ≠ 1 → (-2147483648 ≤ l5 + 1 ∧ l5 + 1 < 2147483648) ∧ wp cs mX4_fitsLoosely KD Q 27 [some (vR 11), some (vR b), some (vI l2), some (vI l3), some (vI l4), some (vI (if (l5 + 1) < (MI (b + 38) l5.toNat) then (MI (b + 38) l5.toNat) else (l5 + 1))), none, none] [] (KD, MI, ML, (GR d e nw th x))))) ∧ ((MI (b + 38) l2.toNat) ≤ l5 → Q (some (vI 1)) (MI, ML, (GR d e nw th x))))) :
    wp cs mX4_fitsLoosely KD Q 27 [some (vR 11), some (vR b), some (vI l2), some (vI l3), some (vI l4), some (vI l5), none, none] [] (KD, MI, ML, (GR d e nw th x)) := by
  refine wp_iload dX4_fitsLoosely_27 rfl ?_
  refine wp_aload_n dX4_fitsLoosely_29 rfl rfl (by first | exact Or.inl (by decide) | exact Or.inl (by omega) | exact Or.inr (by decide) | exact Or.inr (by omega)) ?_
  refine wp_getR dX4_fitsLoosely_30 fX4_214 (show KD[b]? = some (7, 19) from kdb_0 hbd) (by omega) ?_
  refine wp_topR (x' := (b + 38)) (grb_0_9 hbd) ?_
  refine wp_iload_n dX4_fitsLoosely_33 rfl rfl ?_
  have c0 := h.1
  replace h := h.2
  refine wp_iald dX4_fitsLoosely_34 (kdb_38 hbd) (by omega) c0 ?_
  refine wp_icmp_ge (tgt := 135) dX4_fitsLoosely_35 (by decide) (fun h35 => ?_) (fun h35 => ?_)
  · replace h := h.2 h35
    refine wp_iconst dX4_fitsLoosely_135 (by decide) ?_
    exact wp_zret dX4_fitsLoosely_136 rfl (by decide) (fun _ => h)
  · replace h := h.1 h35
    refine wp_aload_n dX4_fitsLoosely_38 rfl rfl (by first | exact Or.inl (by decide) | exact Or.inl (by omega) | exact Or.inr (by decide) | exact Or.inr (by omega)) ?_
    refine wp_getR dX4_fitsLoosely_39 fX4_42 (show KD[b]? = some (7, 19) from kdb_0 hbd) (by omega) ?_
    refine wp_topR (x' := (b + 32)) (grb_0_3 hbd) ?_
    refine wp_iload dX4_fitsLoosely_42 rfl ?_
    have c1 := h.1
    replace h := h.2
    refine wp_iald dX4_fitsLoosely_44 (kdb_32 hbd) (by omega) c1 ?_
    refine wp_iconst dX4_fitsLoosely_45 (by decide) ?_
    refine wp_icmp_ne (tgt := 116) dX4_fitsLoosely_46 (by decide) (fun h46 => ?_) (fun h46 => ?_)
    · replace h := h.2 h46
      refine wp_iload dX4_fitsLoosely_116 rfl ?_
      refine wp_iconst dX4_fitsLoosely_118 (by decide) ?_
      have c2 := h.1
      replace h := h.2
      refine wp_iaddr dX4_fitsLoosely_119 c2 ?_
      refine wp_aload_n dX4_fitsLoosely_120 rfl rfl (by first | exact Or.inl (by decide) | exact Or.inl (by omega) | exact Or.inr (by decide) | exact Or.inr (by omega)) ?_
      refine wp_getR dX4_fitsLoosely_121 fX4_214 (show KD[b]? = some (7, 19) from kdb_0 hbd) (by omega) ?_
      refine wp_topR (x' := (b + 38)) (grb_0_9 hbd) ?_
      refine wp_iload dX4_fitsLoosely_124 rfl ?_
      refine wp_iald dX4_fitsLoosely_126 (kdb_38 hbd) (by omega) c1 ?_
      refine wp_pc (pc' := 127) rfl ?_
      refine wp_mmax dX4_fitsLoosely_127 lX4_221 (Nat.le_of_ble_eq_true rfl) (by decide) (by decide) ⟨Nat.le_refl _, Nat.le_refl _⟩ ?_
      refine wp_istore dX4_fitsLoosely_130 (by decide) (wp_L (L' := [some (vR 11), some (vR b), some (vI l2), some (vI l3), some (vI l4), some (vI (if (l5 + 1) < (MI (b + 38) l5.toNat) then (MI (b + 38) l5.toNat) else (l5 + 1))), none, none]) rfl ?_)
      refine wp_goto (tgt := 27) dX4_fitsLoosely_132 (by decide) ?_
      exact h
    · replace h := h.1 h46
      refine wp_aload_n dX4_fitsLoosely_49 rfl rfl (by first | exact Or.inl (by decide) | exact Or.inl (by omega) | exact Or.inr (by decide) | exact Or.inr (by omega)) ?_
      refine wp_getR dX4_fitsLoosely_50 fX4_34 (show KD[b]? = some (7, 19) from kdb_0 hbd) (by omega) ?_
      refine wp_topR (x' := (b + 34)) (grb_0_5 hbd) ?_
      refine wp_iload dX4_fitsLoosely_53 rfl ?_
      refine wp_iald dX4_fitsLoosely_55 (kdb_34 hbd) (by omega) c1 ?_
      refine wp_istore dX4_fitsLoosely_56 (by decide) (wp_L (L' := [some (vR 11), some (vR b), some (vI l2), some (vI l3), some (vI l4), some (vI l5), some (vI (MI (b + 34) l5.toNat)), none]) rfl ?_)
      refine wp_iload dX4_fitsLoosely_58 rfl ?_
      refine wp_if_eq (tgt := 84) dX4_fitsLoosely_60 (by decide) (fun h60 => ?_) (fun h60 => ?_)
      · replace h := h.1 h60
        refine wp_aload_n dX4_fitsLoosely_84 rfl rfl (by first | exact Or.inl (by decide) | exact Or.inl (by omega) | exact Or.inr (by decide) | exact Or.inr (by omega)) ?_
        refine wp_getR dX4_fitsLoosely_85 fX4_49 (show KD[b]? = some (7, 19) from kdb_0 hbd) (by omega) ?_
        refine wp_topR (x' := (b + 9)) (grb_0_1 hbd) ?_
        refine wp_iload_n dX4_fitsLoosely_88 rfl rfl ?_
        refine wp_ldc2 (x := (-1)) dX4_fitsLoosely_89 cX4_90 (by decide) ?_
        refine wp_iload dX4_fitsLoosely_92 rfl ?_
        refine wp_cVq (n := 3) (mt' := mX9_named) (as := [vI l3, vL (-1), vI (MI (b + 34) l5.toNat)]) (rest := []) _ dX4_fitsLoosely_94 lX4_217 kX9_named vX9_named (by decide) (by decide +kernel) rfl (Nat.le_of_ble_eq_true rfl) (by omega) (kdb_9 hbd) rfl rfl (Nat.le_of_ble_eq_true rfl) (fun hM hS => h) (fun r M' hq hM => ?_)
        obtain ⟨x94, m94, n94, rfl, rfl, h⟩ := rJ_out hq
        refine wp_lconst (z := 0) dX4_fitsLoosely_97 (by decide +kernel) (by decide) ?_
        refine wp_lcmp dX4_fitsLoosely_98 ?_
        refine wp_if_eq (tgt := 106) dX4_fitsLoosely_99 (by decide) (fun h99 => ?_) (fun h99 => ?_)
        · replace h := h.1 (l_cmp_z h99)
          refine wp_iconst dX4_fitsLoosely_106 (by decide) ?_
          exact h
        · replace h := h.2 (l_cmp_nz h99)
          refine wp_iconst dX4_fitsLoosely_102 (by decide) ?_
          refine wp_goto (tgt := 107) dX4_fitsLoosely_103 (by decide) ?_
          exact h
      · replace h := h.2 h60
        refine wp_aload_n dX4_fitsLoosely_63 rfl rfl (by first | exact Or.inl (by decide) | exact Or.inl (by omega) | exact Or.inr (by decide) | exact Or.inr (by omega)) ?_
        refine wp_getR dX4_fitsLoosely_64 fX4_72 (show KD[b]? = some (7, 19) from kdb_0 hbd) (by omega) ?_
        refine wp_topR (x' := (b + 1)) (grb_0_0 hbd) ?_
        refine wp_iload dX4_fitsLoosely_67 rfl ?_
        refine wp_cVq (n := 1) (mt' := mX5_specOf) (as := [vI (MI (b + 34) l5.toNat)]) (rest := []) _ dX4_fitsLoosely_69 lX4_79 kX5_specOf vX5_specOf (by decide) (by decide +kernel) rfl (Nat.le_of_ble_eq_true rfl) (by omega) (kdb_1 hbd) rfl rfl (Nat.le_of_ble_eq_true rfl) (fun hM hS => h) (fun r M' hq hM => ?_)
        obtain ⟨x69, m69, n69, rfl, rfl, h⟩ := rI_out hq
        refine wp_iconst dX4_fitsLoosely_72 (by decide) ?_
        refine wp_icmp_eq (tgt := 80) dX4_fitsLoosely_73 (by decide) (fun h73 => ?_) (fun h73 => ?_)
        · replace h := h.1 h73
          refine wp_iconst dX4_fitsLoosely_80 (by decide) ?_
          refine wp_goto (tgt := 107) dX4_fitsLoosely_81 (by decide) ?_
          exact h
        · replace h := h.2 h73
          refine wp_iconst dX4_fitsLoosely_76 (by decide) ?_
          refine wp_goto (tgt := 107) dX4_fitsLoosely_77 (by decide) ?_
          exact h
theorem v_X4_fitsLoosely_107 {cs : Cs} {Q : Option AV → Mm → Prop} {MI ML : Nat → Nat → Int} {b d e nw th x : Nat} {l2 l3 l4 l5 l6 s0 : Int} (hbd : b = 38 ∨ b = 81)
    (h : ((s0 = 0 → Q (some (vI 0)) (MI, ML, (GR d e nw th x))) ∧ (s0 ≠ 0 → (-2147483648 ≤ l5 + 1 ∧ l5 + 1 < 2147483648) ∧ (0 ≤ l5 ∧ l5 < 600) ∧ wp cs mX4_fitsLoosely KD Q 27 [some (vR 11), some (vR b), some (vI l2), some (vI l3), some (vI l4), some (vI (if (l5 + 1) < (MI (b + 38) l5.toNat) then (MI (b + 38) l5.toNat) else (l5 + 1))), none, none] [] (KD, MI, ML, (GR d e nw th x))))) :
    wp cs mX4_fitsLoosely KD Q 107 [some (vR 11), some (vR b), some (vI l2), some (vI l3), some (vI l4), some (vI l5), some (vI l6), none] [vI s0] (KD, MI, ML, (GR d e nw th x)) := by
  refine wp_istore dX4_fitsLoosely_107 (by decide) (wp_L (L' := [some (vR 11), some (vR b), some (vI l2), some (vI l3), some (vI l4), some (vI l5), some (vI l6), some (vI s0)]) rfl ?_)
  refine wp_iload dX4_fitsLoosely_109 rfl ?_
  refine wp_if_ne (tgt := 116) dX4_fitsLoosely_111 (by decide) (fun h111 => ?_) (fun h111 => ?_)
  · replace h := h.2 h111
    refine wp_iload dX4_fitsLoosely_116 rfl ?_
    refine wp_iconst dX4_fitsLoosely_118 (by decide) ?_
    have c0 := h.1
    replace h := h.2
    refine wp_iaddr dX4_fitsLoosely_119 c0 ?_
    refine wp_aload_n dX4_fitsLoosely_120 rfl rfl (by first | exact Or.inl (by decide) | exact Or.inl (by omega) | exact Or.inr (by decide) | exact Or.inr (by omega)) ?_
    refine wp_getR dX4_fitsLoosely_121 fX4_214 (show KD[b]? = some (7, 19) from kdb_0 hbd) (by omega) ?_
    refine wp_topR (x' := (b + 38)) (grb_0_9 hbd) ?_
    refine wp_iload dX4_fitsLoosely_124 rfl ?_
    have c1 := h.1
    replace h := h.2
    refine wp_iald dX4_fitsLoosely_126 (kdb_38 hbd) (by omega) c1 ?_
    refine wp_pc (pc' := 127) rfl ?_
    refine wp_mmax dX4_fitsLoosely_127 lX4_221 (Nat.le_of_ble_eq_true rfl) (by decide) (by decide) ⟨Nat.le_refl _, Nat.le_refl _⟩ ?_
    refine wp_istore dX4_fitsLoosely_130 (by decide) (wp_L (L' := [some (vR 11), some (vR b), some (vI l2), some (vI l3), some (vI l4), some (vI (if (l5 + 1) < (MI (b + 38) l5.toNat) then (MI (b + 38) l5.toNat) else (l5 + 1))), some (vI l6), some (vI s0)]) rfl ?_)
    refine wp_goto (tgt := 27) dX4_fitsLoosely_132 (by decide) ?_
    refine wp_forget (L' := [some (vR 11), some (vR b), some (vI l2), some (vI l3), some (vI l4), some (vI (if (l5 + 1) < (MI (b + 38) l5.toNat) then (MI (b + 38) l5.toNat) else (l5 + 1))), none, none]) (by repeat' (first | exact trivial | refine ⟨rfl, ?_⟩)) ?_
    exact h
  · replace h := h.1 h111
    refine wp_iconst dX4_fitsLoosely_114 (by decide) ?_
    exact wp_zret dX4_fitsLoosely_115 rfl (by decide) (fun _ => h)
theorem dX4_fits_0 : decode cX4_fits 0 = .ok (.aload_n 1, 1) := by decide +kernel
theorem dX4_fits_1 : decode cX4_fits 1 = .ok (.getfield 49, 3) := by decide +kernel
theorem dX4_fits_4 : decode cX4_fits 4 = .ok (.getfield 85, 3) := by decide +kernel
theorem dX4_fits_7 : decode cX4_fits 7 = .ok (.iload_n 3, 1) := by decide +kernel
theorem dX4_fits_8 : decode cX4_fits 8 = .ok (.iaload, 1) := by decide +kernel
theorem dX4_fits_9 : decode cX4_fits 9 = .ok (.lookupswitch 50 #[(0, 27), (3, 42)], 27) := by decide +kernel
theorem dX4_fits_36 : decode cX4_fits 36 = .ok (.aload_n 1, 1) := by decide +kernel
theorem dX4_fits_37 : decode cX4_fits 37 = .ok (.getfield 202, 3) := by decide +kernel
theorem dX4_fits_40 : decode cX4_fits 40 = .ok (.iload_n 2, 1) := by decide +kernel
theorem dX4_fits_41 : decode cX4_fits 41 = .ok (.iaload, 1) := by decide +kernel
theorem dX4_fits_42 : decode cX4_fits 42 = .ok (.ifCond .ne 7, 3) := by decide +kernel
theorem dX4_fits_45 : decode cX4_fits 45 = .ok (.iconst 1, 1) := by decide +kernel
theorem dX4_fits_46 : decode cX4_fits 46 = .ok (.goto 4, 3) := by decide +kernel
theorem dX4_fits_49 : decode cX4_fits 49 = .ok (.iconst 0, 1) := by decide +kernel
theorem dX4_fits_50 : decode cX4_fits 50 = .ok (.ireturn, 1) := by decide +kernel
theorem dX4_fits_51 : decode cX4_fits 51 = .ok (.aload_n 0, 1) := by decide +kernel
theorem dX4_fits_52 : decode cX4_fits 52 = .ok (.aload_n 1, 1) := by decide +kernel
theorem dX4_fits_53 : decode cX4_fits 53 = .ok (.iload_n 2, 1) := by decide +kernel
theorem dX4_fits_54 : decode cX4_fits 54 = .ok (.iload_n 3, 1) := by decide +kernel
theorem dX4_fits_55 : decode cX4_fits 55 = .ok (.invokevirtual 205, 3) := by decide +kernel
theorem dX4_fits_58 : decode cX4_fits 58 = .ok (.ireturn, 1) := by decide +kernel
theorem dX4_fits_59 : decode cX4_fits 59 = .ok (.aload_n 0, 1) := by decide +kernel
theorem dX4_fits_60 : decode cX4_fits 60 = .ok (.aload_n 1, 1) := by decide +kernel
theorem dX4_fits_61 : decode cX4_fits 61 = .ok (.iload_n 2, 1) := by decide +kernel
theorem dX4_fits_62 : decode cX4_fits 62 = .ok (.iload_n 3, 1) := by decide +kernel
theorem dX4_fits_63 : decode cX4_fits 63 = .ok (.invokevirtual 208, 3) := by decide +kernel
theorem dX4_fits_66 : decode cX4_fits 66 = .ok (.ireturn, 1) := by decide +kernel
theorem v_X4_fits_0 {cs : Cs} {Q : Option AV → Mm → Prop} {MI ML : Nat → Nat → Int} {b d e nw th x : Nat} {l2 l3 : Int} (hbd : b = 38 ∨ b = 81)
    (h : (0 ≤ l3 ∧ l3 < 30) ∧ (((MI (b + 10) l3.toNat) = 0 → (0 ≤ l2 ∧ l2 < 600) ∧ (((MI (b + 36) l2.toNat) = 0 → Q (some (vI 1)) (MI, ML, (GR d e nw th x))) ∧ ((MI (b + 36) l2.toNat) ≠ 0 → Q (some (vI 0)) (MI, ML, (GR d e nw th x))))) ∧ ((MI (b + 10) l3.toNat) = 3 → wp cs mX4_fitsGroup KD (rI (GR d e nw th x) fun x55 m55 n55 => (x55 = 0 ∨ x55 = 1) ∧ Q (some (vI x55)) (m55, n55, (GR d e nw th x))) 0 (padL [vR 11, vR b, vI l2, vI l3] 11) [] (KD, MI, ML, (GR d e nw th x))) ∧ ((MI (b + 10) l3.toNat) ≠ 0 ∧ (MI (b + 10) l3.toNat) ≠ 3 → wp cs mX4_fitsLoosely KD (rI (GR d e nw th x) fun x63 m63 n63 => (x63 = 0 ∨ x63 = 1) ∧ Q (some (vI x63)) (m63, n63, (GR d e nw th x))) 0 (padL [vR 11, vR b, vI l2, vI l3] 8) [] (KD, MI, ML, (GR d e nw th x))))) :
    wp cs mX4_fits KD Q 0 (padL [vR 11, vR b, vI l2, vI l3] 4) [] (KD, MI, ML, (GR d e nw th x)) := by
  refine wp_L (L' := [some (vR 11), some (vR b), some (vI l2), some (vI l3)]) rfl ?_
  refine wp_aload_n dX4_fits_0 rfl rfl (by first | exact Or.inl (by decide) | exact Or.inl (by omega) | exact Or.inr (by decide) | exact Or.inr (by omega)) ?_
  refine wp_getR dX4_fits_1 fX4_49 (show KD[b]? = some (7, 19) from kdb_0 hbd) (by omega) ?_
  refine wp_topR (x' := (b + 9)) (grb_0_1 hbd) ?_
  refine wp_getR dX4_fits_4 fX4_85 (kdb_9 hbd) (by omega) ?_
  refine wp_topR (x' := (b + 10)) (grb_9_0 hbd) ?_
  refine wp_iload_n dX4_fits_7 rfl rfl ?_
  have c0 := h.1
  replace h := h.2
  refine wp_iald dX4_fits_8 (kdb_10 hbd) (by omega) c0 ?_
  by_cases q0 : (MI (b + 10) l3.toNat) = 0
  · refine wp_topI (x' := 0) q0 ?_
    refine wp_lookup (off := 27) (tgt := 36) dX4_fits_9 (by decide) (by decide) (by decide) ?_
    replace h := h.1 q0
    refine wp_aload_n dX4_fits_36 rfl rfl (by first | exact Or.inl (by decide) | exact Or.inl (by omega) | exact Or.inr (by decide) | exact Or.inr (by omega)) ?_
    refine wp_getR dX4_fits_37 fX4_202 (show KD[b]? = some (7, 19) from kdb_0 hbd) (by omega) ?_
    refine wp_topR (x' := (b + 36)) (grb_0_7 hbd) ?_
    refine wp_iload_n dX4_fits_40 rfl rfl ?_
    have c1 := h.1
    replace h := h.2
    refine wp_iald dX4_fits_41 (kdb_36 hbd) (by omega) c1 ?_
    refine wp_if_ne (tgt := 49) dX4_fits_42 (by decide) (fun h42 => ?_) (fun h42 => ?_)
    · replace h := h.2 h42
      refine wp_iconst dX4_fits_49 (by decide) ?_
      exact wp_zret dX4_fits_50 rfl (by decide) (fun _ => h)
    · replace h := h.1 h42
      refine wp_iconst dX4_fits_45 (by decide) ?_
      refine wp_goto (tgt := 50) dX4_fits_46 (by decide) ?_
      exact wp_zret dX4_fits_50 rfl (by decide) (fun _ => h)
  by_cases q1 : (MI (b + 10) l3.toNat) = 3
  · refine wp_topI (x' := 3) q1 ?_
    refine wp_lookup (off := 42) (tgt := 51) dX4_fits_9 (by decide) (by decide) (by decide) ?_
    replace h := h.2.1 q1
    refine wp_aload_n dX4_fits_51 rfl rfl (by first | exact Or.inl (by decide) | exact Or.inl (by omega) | exact Or.inr (by decide) | exact Or.inr (by omega)) ?_
    refine wp_aload_n dX4_fits_52 rfl rfl (by first | exact Or.inl (by decide) | exact Or.inl (by omega) | exact Or.inr (by decide) | exact Or.inr (by omega)) ?_
    refine wp_iload_n dX4_fits_53 rfl rfl ?_
    refine wp_iload_n dX4_fits_54 rfl rfl ?_
    refine wp_cVq (n := 3) (mt' := mX4_fitsGroup) (as := [vR b, vI l2, vI l3]) (rest := []) _ dX4_fits_55 lX4_205 kX4_fitsGroup vX4_fitsGroup (by decide) (by decide +kernel) rfl (Nat.le_of_ble_eq_true rfl) (by decide) rfl rfl rfl (Nat.le_of_ble_eq_true rfl) (fun hM hS => h) (fun r M' hq hM => ?_)
    obtain ⟨x55, m55, n55, rfl, rfl, h⟩ := rI_out hq
    exact wp_zret dX4_fits_58 rfl h.1 (fun _ => h.2)
  refine wp_lookup (off := 50) (tgt := 59) dX4_fits_9 (by decide) (by simp [Op.lookupswitch.offset, Ne.symm q0, Ne.symm q1]) (by decide) ?_
  replace h := h.2.2 ⟨q0, q1⟩
  refine wp_aload_n dX4_fits_59 rfl rfl (by first | exact Or.inl (by decide) | exact Or.inl (by omega) | exact Or.inr (by decide) | exact Or.inr (by omega)) ?_
  refine wp_aload_n dX4_fits_60 rfl rfl (by first | exact Or.inl (by decide) | exact Or.inl (by omega) | exact Or.inr (by decide) | exact Or.inr (by omega)) ?_
  refine wp_iload_n dX4_fits_61 rfl rfl ?_
  refine wp_iload_n dX4_fits_62 rfl rfl ?_
  refine wp_cVq (n := 3) (mt' := mX4_fitsLoosely) (as := [vR b, vI l2, vI l3]) (rest := []) _ dX4_fits_63 lX4_208 kX4_fitsLoosely vX4_fitsLoosely (by decide) (by decide +kernel) rfl (Nat.le_of_ble_eq_true rfl) (by decide) rfl rfl rfl (Nat.le_of_ble_eq_true rfl) (fun hM hS => h) (fun r M' hq hM => ?_)
  obtain ⟨x63, m63, n63, rfl, rfl, h⟩ := rI_out hq
  exact wp_zret dX4_fits_66 rfl h.1 (fun _ => h.2)
theorem dX3_hasBytes_0 : decode cX3_hasBytes 0 = .ok (.aload_n 0, 1) := by decide +kernel
theorem dX3_hasBytes_1 : decode cX3_hasBytes 1 = .ok (.getfield 32, 3) := by decide +kernel
theorem dX3_hasBytes_4 : decode cX3_hasBytes 4 = .ok (.iload_n 1, 1) := by decide +kernel
theorem dX3_hasBytes_5 : decode cX3_hasBytes 5 = .ok (.iaload, 1) := by decide +kernel
theorem dX3_hasBytes_6 : decode cX3_hasBytes 6 = .ok (.iconst 2, 1) := by decide +kernel
theorem dX3_hasBytes_7 : decode cX3_hasBytes 7 = .ok (.if_icmp .ne 10, 3) := by decide +kernel
theorem dX3_hasBytes_10 : decode cX3_hasBytes 10 = .ok (.aload_n 0, 1) := by decide +kernel
theorem dX3_hasBytes_11 : decode cX3_hasBytes 11 = .ok (.getfield 60, 3) := by decide +kernel
theorem dX3_hasBytes_14 : decode cX3_hasBytes 14 = .ok (.goto 7, 3) := by decide +kernel
theorem dX3_hasBytes_17 : decode cX3_hasBytes 17 = .ok (.aload_n 0, 1) := by decide +kernel
theorem dX3_hasBytes_18 : decode cX3_hasBytes 18 = .ok (.getfield 64, 3) := by decide +kernel
theorem dX3_hasBytes_21 : decode cX3_hasBytes 21 = .ok (.astore 4, 2) := by decide +kernel
theorem dX3_hasBytes_23 : decode cX3_hasBytes 23 = .ok (.aload_n 0, 1) := by decide +kernel
theorem dX3_hasBytes_24 : decode cX3_hasBytes 24 = .ok (.getfield 57, 3) := by decide +kernel
theorem dX3_hasBytes_27 : decode cX3_hasBytes 27 = .ok (.iload_n 1, 1) := by decide +kernel
theorem dX3_hasBytes_28 : decode cX3_hasBytes 28 = .ok (.iaload, 1) := by decide +kernel
theorem dX3_hasBytes_29 : decode cX3_hasBytes 29 = .ok (.aload_n 0, 1) := by decide +kernel
theorem dX3_hasBytes_30 : decode cX3_hasBytes 30 = .ok (.getfield 54, 3) := by decide +kernel
theorem dX3_hasBytes_33 : decode cX3_hasBytes 33 = .ok (.iload_n 1, 1) := by decide +kernel
theorem dX3_hasBytes_34 : decode cX3_hasBytes 34 = .ok (.iaload, 1) := by decide +kernel
theorem dX3_hasBytes_35 : decode cX3_hasBytes 35 = .ok (.isub, 1) := by decide +kernel
theorem dX3_hasBytes_36 : decode cX3_hasBytes 36 = .ok (.istore 5, 2) := by decide +kernel
theorem dX3_hasBytes_38 : decode cX3_hasBytes 38 = .ok (.iload_n 3, 1) := by decide +kernel
theorem dX3_hasBytes_39 : decode cX3_hasBytes 39 = .ok (.ifCond .lt 12, 3) := by decide +kernel
theorem dX3_hasBytes_42 : decode cX3_hasBytes 42 = .ok (.iload 5, 2) := by decide +kernel
theorem dX3_hasBytes_44 : decode cX3_hasBytes 44 = .ok (.aload_n 2, 1) := by decide +kernel
theorem dX3_hasBytes_45 : decode cX3_hasBytes 45 = .ok (.arraylength, 1) := by decide +kernel
theorem dX3_hasBytes_46 : decode cX3_hasBytes 46 = .ok (.iload_n 3, 1) := by decide +kernel
theorem dX3_hasBytes_47 : decode cX3_hasBytes 47 = .ok (.isub, 1) := by decide +kernel
theorem dX3_hasBytes_48 : decode cX3_hasBytes 48 = .ok (.if_icmp .le 5, 3) := by decide +kernel
theorem dX3_hasBytes_51 : decode cX3_hasBytes 51 = .ok (.iconst 0, 1) := by decide +kernel
theorem dX3_hasBytes_52 : decode cX3_hasBytes 52 = .ok (.ireturn, 1) := by decide +kernel
theorem dX3_hasBytes_53 : decode cX3_hasBytes 53 = .ok (.iconst 0, 1) := by decide +kernel
theorem dX3_hasBytes_54 : decode cX3_hasBytes 54 = .ok (.istore 6, 2) := by decide +kernel
theorem dX3_hasBytes_56 : decode cX3_hasBytes 56 = .ok (.iload 6, 2) := by decide +kernel
theorem dX3_hasBytes_58 : decode cX3_hasBytes 58 = .ok (.iload 5, 2) := by decide +kernel
theorem dX3_hasBytes_60 : decode cX3_hasBytes 60 = .ok (.if_icmp .ge 32, 3) := by decide +kernel
theorem dX3_hasBytes_63 : decode cX3_hasBytes 63 = .ok (.aload 4, 2) := by decide +kernel
theorem dX3_hasBytes_65 : decode cX3_hasBytes 65 = .ok (.aload_n 0, 1) := by decide +kernel
theorem dX3_hasBytes_66 : decode cX3_hasBytes 66 = .ok (.getfield 54, 3) := by decide +kernel
theorem dX3_hasBytes_69 : decode cX3_hasBytes 69 = .ok (.iload_n 1, 1) := by decide +kernel
theorem dX3_hasBytes_70 : decode cX3_hasBytes 70 = .ok (.iaload, 1) := by decide +kernel
theorem dX3_hasBytes_71 : decode cX3_hasBytes 71 = .ok (.iload 6, 2) := by decide +kernel
theorem dX3_hasBytes_73 : decode cX3_hasBytes 73 = .ok (.iadd, 1) := by decide +kernel
theorem dX3_hasBytes_74 : decode cX3_hasBytes 74 = .ok (.baload, 1) := by decide +kernel
theorem dX3_hasBytes_75 : decode cX3_hasBytes 75 = .ok (.aload_n 2, 1) := by decide +kernel
theorem dX3_hasBytes_76 : decode cX3_hasBytes 76 = .ok (.iload_n 3, 1) := by decide +kernel
theorem dX3_hasBytes_77 : decode cX3_hasBytes 77 = .ok (.iload 6, 2) := by decide +kernel
theorem dX3_hasBytes_79 : decode cX3_hasBytes 79 = .ok (.iadd, 1) := by decide +kernel
theorem dX3_hasBytes_80 : decode cX3_hasBytes 80 = .ok (.baload, 1) := by decide +kernel
theorem dX3_hasBytes_81 : decode cX3_hasBytes 81 = .ok (.if_icmp .eq 5, 3) := by decide +kernel
theorem dX3_hasBytes_84 : decode cX3_hasBytes 84 = .ok (.iconst 0, 1) := by decide +kernel
theorem dX3_hasBytes_85 : decode cX3_hasBytes 85 = .ok (.ireturn, 1) := by decide +kernel
theorem dX3_hasBytes_86 : decode cX3_hasBytes 86 = .ok (.iinc 6 1, 3) := by decide +kernel
theorem dX3_hasBytes_89 : decode cX3_hasBytes 89 = .ok (.goto (-33), 3) := by decide +kernel
theorem dX3_hasBytes_92 : decode cX3_hasBytes 92 = .ok (.iconst 1, 1) := by decide +kernel
theorem dX3_hasBytes_93 : decode cX3_hasBytes 93 = .ok (.ireturn, 1) := by decide +kernel
theorem v_X3_hasBytes_0 {cs : Cs} {Q : Option AV → Mm → Prop} {MI ML : Nat → Nat → Int} {b d e nw th x : Nat} {l1 l3 : Int} (hbd : b = 38 ∨ b = 81) {wq sw : Nat} (hwq : KD[wq]? = some (1, sw)) (hwql : wq < 1000000) (hsw : sw < 2147483648)
    (h : (0 ≤ l1 ∧ l1 < 600) ∧ (((MI (b + 32) l1.toNat) = 2 → wp cs mX3_hasBytes KD Q 21 [some (vR b), some (vI l1), some (vR wq), some (vI l3), none, none, none] [vR (b + 41)] (KD, MI, ML, (GR d e nw th x))) ∧ ((MI (b + 32) l1.toNat) ≠ 2 → wp cs mX3_hasBytes KD Q 21 [some (vR b), some (vI l1), some (vR wq), some (vI l3), none, none, none] [vR (b + 42)] (KD, MI, ML, (GR d e nw th x))))) :
    wp cs mX3_hasBytes KD Q 0 (padL [vR b, vI l1, vR wq, vI l3] 7) [] (KD, MI, ML, (GR d e nw th x)) := by
  refine wp_L (L' := [some (vR b), some (vI l1), some (vR wq), some (vI l3), none, none, none]) rfl ?_
  refine wp_aload_n dX3_hasBytes_0 rfl rfl (by first | exact Or.inl (by decide) | exact Or.inl (by omega) | exact Or.inr (by decide) | exact Or.inr (by omega)) ?_
  refine wp_getR dX3_hasBytes_1 fX3_32 (show KD[b]? = some (7, 19) from kdb_0 hbd) (by omega) ?_
  refine wp_topR (x' := (b + 32)) (grb_0_3 hbd) ?_
  refine wp_iload_n dX3_hasBytes_4 rfl rfl ?_
  have c0 := h.1
  replace h := h.2
  refine wp_iald dX3_hasBytes_5 (kdb_32 hbd) (by omega) c0 ?_
  refine wp_iconst dX3_hasBytes_6 (by decide) ?_
  refine wp_icmp_ne (tgt := 17) dX3_hasBytes_7 (by decide) (fun h7 => ?_) (fun h7 => ?_)
  · replace h := h.2 h7
    refine wp_aload_n dX3_hasBytes_17 rfl rfl (by first | exact Or.inl (by decide) | exact Or.inl (by omega) | exact Or.inr (by decide) | exact Or.inr (by omega)) ?_
    refine wp_getR dX3_hasBytes_18 fX3_64 (show KD[b]? = some (7, 19) from kdb_0 hbd) (by omega) ?_
    refine wp_topR (x' := (b + 42)) (grb_0_13 hbd) ?_
    exact h
  · replace h := h.1 h7
    refine wp_aload_n dX3_hasBytes_10 rfl rfl (by first | exact Or.inl (by decide) | exact Or.inl (by omega) | exact Or.inr (by decide) | exact Or.inr (by omega)) ?_
    refine wp_getR dX3_hasBytes_11 fX3_60 (show KD[b]? = some (7, 19) from kdb_0 hbd) (by omega) ?_
    refine wp_topR (x' := (b + 41)) (grb_0_12 hbd) ?_
    refine wp_goto (tgt := 21) dX3_hasBytes_14 (by decide) ?_
    exact h
theorem v_X3_hasBytes_21 {cs : Cs} {Q : Option AV → Mm → Prop} {MI ML : Nat → Nat → Int} {b d e nw th x : Nat} {l1 l3 : Int} (hbd : b = 38 ∨ b = 81) {wq sw : Nat} (hwq : KD[wq]? = some (1, sw)) (hwql : wq < 1000000) (hsw : sw < 2147483648) {hq : Nat} (hhq : KD[hq]? = some (1, 2000)) (hhql : hq < 1000000)
    (h : (0 ≤ l1 ∧ l1 < 600) ∧ (-2147483648 ≤ (MI (b + 40) l1.toNat) - (MI (b + 39) l1.toNat) ∧ (MI (b + 40) l1.toNat) - (MI (b + 39) l1.toNat) < 2147483648) ∧ ((l3 < 0 → Q (some (vI 0)) (MI, ML, (GR d e nw th x))) ∧ (0 ≤ l3 → (-2147483648 ≤ (sw : Int) - l3 ∧ (sw : Int) - l3 < 2147483648) ∧ ((((sw : Int) - l3) < ((MI (b + 40) l1.toNat) - (MI (b + 39) l1.toNat)) → Q (some (vI 0)) (MI, ML, (GR d e nw th x))) ∧ (((MI (b + 40) l1.toNat) - (MI (b + 39) l1.toNat)) ≤ ((sw : Int) - l3) → wp cs mX3_hasBytes KD Q 56 [some (vR b), some (vI l1), some (vR wq), some (vI l3), some (vR hq), some (vI ((MI (b + 40) l1.toNat) - (MI (b + 39) l1.toNat))), some (vI 0)] [] (KD, MI, ML, (GR d e nw th x))))))) :
    wp cs mX3_hasBytes KD Q 21 [some (vR b), some (vI l1), some (vR wq), some (vI l3), none, none, none] [vR hq] (KD, MI, ML, (GR d e nw th x)) := by
  refine wp_astore dX3_hasBytes_21 (by first | exact Or.inl (by decide) | exact Or.inl (by omega)) (by decide) (wp_L (L' := [some (vR b), some (vI l1), some (vR wq), some (vI l3), some (vR hq), none, none]) rfl ?_)
  refine wp_aload_n dX3_hasBytes_23 rfl rfl (by first | exact Or.inl (by decide) | exact Or.inl (by omega) | exact Or.inr (by decide) | exact Or.inr (by omega)) ?_
  refine wp_getR dX3_hasBytes_24 fX3_57 (show KD[b]? = some (7, 19) from kdb_0 hbd) (by omega) ?_
  refine wp_topR (x' := (b + 40)) (grb_0_11 hbd) ?_
  refine wp_iload_n dX3_hasBytes_27 rfl rfl ?_
  have c0 := h.1
  replace h := h.2
  refine wp_iald dX3_hasBytes_28 (kdb_40 hbd) (by omega) c0 ?_
  refine wp_aload_n dX3_hasBytes_29 rfl rfl (by first | exact Or.inl (by decide) | exact Or.inl (by omega) | exact Or.inr (by decide) | exact Or.inr (by omega)) ?_
  refine wp_getR dX3_hasBytes_30 fX3_54 (show KD[b]? = some (7, 19) from kdb_0 hbd) (by omega) ?_
  refine wp_topR (x' := (b + 39)) (grb_0_10 hbd) ?_
  refine wp_pc (pc' := 33) rfl ?_
  refine wp_iload_n dX3_hasBytes_33 rfl rfl ?_
  refine wp_iald dX3_hasBytes_34 (kdb_39 hbd) (by omega) c0 ?_
  have c1 := h.1
  replace h := h.2
  refine wp_isubr dX3_hasBytes_35 c1 ?_
  refine wp_istore dX3_hasBytes_36 (by decide) (wp_L (L' := [some (vR b), some (vI l1), some (vR wq), some (vI l3), some (vR hq), some (vI ((MI (b + 40) l1.toNat) - (MI (b + 39) l1.toNat))), none]) rfl ?_)
  refine wp_iload_n dX3_hasBytes_38 rfl rfl ?_
  refine wp_if_lt (tgt := 51) dX3_hasBytes_39 (by decide) (fun h39 => ?_) (fun h39 => ?_)
  · replace h := h.1 h39
    refine wp_iconst dX3_hasBytes_51 (by decide) ?_
    exact wp_zret dX3_hasBytes_52 rfl (by decide) (fun _ => h)
  · replace h := h.2 h39
    refine wp_iload dX3_hasBytes_42 rfl ?_
    refine wp_aload_n dX3_hasBytes_44 rfl rfl (by first | exact Or.inl (by decide) | exact Or.inl (by omega) | exact Or.inr (by decide) | exact Or.inr (by omega)) ?_
    refine wp_alen dX3_hasBytes_45 hwq (by decide) (by omega) hsw ?_
    refine wp_iload_n dX3_hasBytes_46 rfl rfl ?_
    have c2 := h.1
    replace h := h.2
    refine wp_isubr dX3_hasBytes_47 c2 ?_
    refine wp_icmp_le (tgt := 53) dX3_hasBytes_48 (by decide) (fun h48 => ?_) (fun h48 => ?_)
    · replace h := h.2 h48
      refine wp_iconst dX3_hasBytes_53 (by decide) ?_
      refine wp_istore dX3_hasBytes_54 (by decide) (wp_L (L' := [some (vR b), some (vI l1), some (vR wq), some (vI l3), some (vR hq), some (vI ((MI (b + 40) l1.toNat) - (MI (b + 39) l1.toNat))), some (vI 0)]) rfl ?_)
      exact h
    · replace h := h.1 h48
      refine wp_iconst dX3_hasBytes_51 (by decide) ?_
      exact wp_zret dX3_hasBytes_52 rfl (by decide) (fun _ => h)
theorem v_X3_hasBytes_56 {cs : Cs} {Q : Option AV → Mm → Prop} {MI ML : Nat → Nat → Int} {b d e nw th x : Nat} {l1 l3 l5 l6 : Int} (hbd : b = 38 ∨ b = 81) {wq sw : Nat} (hwq : KD[wq]? = some (1, sw)) (hwql : wq < 1000000) (hsw : sw < 2147483648) {hq : Nat} (hhq : KD[hq]? = some (1, 2000)) (hhql : hq < 1000000)
    (h : ((l6 < l5 → (0 ≤ l1 ∧ l1 < 600) ∧ (-2147483648 ≤ (MI (b + 39) l1.toNat) + l6 ∧ (MI (b + 39) l1.toNat) + l6 < 2147483648) ∧ (0 ≤ ((MI (b + 39) l1.toNat) + l6) ∧ ((MI (b + 39) l1.toNat) + l6) < 2000) ∧ (-2147483648 ≤ l3 + l6 ∧ l3 + l6 < 2147483648) ∧ (0 ≤ (l3 + l6) ∧ (l3 + l6) < sw) ∧ (((MI hq ((MI (b + 39) l1.toNat) + l6).toNat) = (MI wq (l3 + l6).toNat) → (-2147483648 ≤ l6 + 1 ∧ l6 + 1 < 2147483648) ∧ wp cs mX3_hasBytes KD Q 56 [some (vR b), some (vI l1), some (vR wq), some (vI l3), some (vR hq), some (vI l5), some (vI (l6 + 1))] [] (KD, MI, ML, (GR d e nw th x))) ∧ ((MI hq ((MI (b + 39) l1.toNat) + l6).toNat) ≠ (MI wq (l3 + l6).toNat) → Q (some (vI 0)) (MI, ML, (GR d e nw th x))))) ∧ (l5 ≤ l6 → Q (some (vI 1)) (MI, ML, (GR d e nw th x))))) :
    wp cs mX3_hasBytes KD Q 56 [some (vR b), some (vI l1), some (vR wq), some (vI l3), some (vR hq), some (vI l5), some (vI l6)] [] (KD, MI, ML, (GR d e nw th x)) := by
  refine wp_iload dX3_hasBytes_56 rfl ?_
  refine wp_iload dX3_hasBytes_58 rfl ?_
  refine wp_icmp_ge (tgt := 92) dX3_hasBytes_60 (by decide) (fun h60 => ?_) (fun h60 => ?_)
  · replace h := h.2 h60
    refine wp_iconst dX3_hasBytes_92 (by decide) ?_
    exact wp_zret dX3_hasBytes_93 rfl (by decide) (fun _ => h)
  · replace h := h.1 h60
    refine wp_aload dX3_hasBytes_63 rfl (by first | exact Or.inl (by decide) | exact Or.inl (by omega) | exact Or.inr (by decide) | exact Or.inr (by omega)) ?_
    refine wp_aload_n dX3_hasBytes_65 rfl rfl (by first | exact Or.inl (by decide) | exact Or.inl (by omega) | exact Or.inr (by decide) | exact Or.inr (by omega)) ?_
    refine wp_getR dX3_hasBytes_66 fX3_54 (show KD[b]? = some (7, 19) from kdb_0 hbd) (by omega) ?_
    refine wp_topR (x' := (b + 39)) (grb_0_10 hbd) ?_
    refine wp_iload_n dX3_hasBytes_69 rfl rfl ?_
    have c0 := h.1
    replace h := h.2
    refine wp_iald dX3_hasBytes_70 (kdb_39 hbd) (by omega) c0 ?_
    refine wp_iload dX3_hasBytes_71 rfl ?_
    have c1 := h.1
    replace h := h.2
    refine wp_iaddr dX3_hasBytes_73 c1 ?_
    refine wp_pc (pc' := 74) rfl ?_
    have c2 := h.1
    replace h := h.2
    refine wp_bald dX3_hasBytes_74 hhq (by omega) c2 ?_
    refine wp_aload_n dX3_hasBytes_75 rfl rfl (by first | exact Or.inl (by decide) | exact Or.inl (by omega) | exact Or.inr (by decide) | exact Or.inr (by omega)) ?_
    refine wp_iload_n dX3_hasBytes_76 rfl rfl ?_
    refine wp_iload dX3_hasBytes_77 rfl ?_
    have c3 := h.1
    replace h := h.2
    refine wp_iaddr dX3_hasBytes_79 c3 ?_
    have c4 := h.1
    replace h := h.2
    refine wp_bald dX3_hasBytes_80 hwq (by omega) c4 ?_
    refine wp_icmp_eq (tgt := 86) dX3_hasBytes_81 (by decide) (fun h81 => ?_) (fun h81 => ?_)
    · replace h := h.1 h81
      have c5 := h.1
      replace h := h.2
      refine wp_iincr dX3_hasBytes_86 rfl (by decide) c5 (wp_L (L' := [some (vR b), some (vI l1), some (vR wq), some (vI l3), some (vR hq), some (vI l5), some (vI (l6 + 1))]) rfl ?_)
      refine wp_goto (tgt := 56) dX3_hasBytes_89 (by decide) ?_
      exact h
    · replace h := h.2 h81
      refine wp_iconst dX3_hasBytes_84 (by decide) ?_
      exact wp_zret dX3_hasBytes_85 rfl (by decide) (fun _ => h)
theorem dX4_sameValue_0 : decode cX4_sameValue 0 = .ok (.aload_n 1, 1) := by decide +kernel
theorem dX4_sameValue_1 : decode cX4_sameValue 1 = .ok (.getfield 186, 3) := by decide +kernel
theorem dX4_sameValue_4 : decode cX4_sameValue 4 = .ok (.iload_n 2, 1) := by decide +kernel
theorem dX4_sameValue_5 : decode cX4_sameValue 5 = .ok (.iaload, 1) := by decide +kernel
theorem dX4_sameValue_6 : decode cX4_sameValue 6 = .ok (.aload_n 1, 1) := by decide +kernel
theorem dX4_sameValue_7 : decode cX4_sameValue 7 = .ok (.getfield 183, 3) := by decide +kernel
theorem dX4_sameValue_10 : decode cX4_sameValue 10 = .ok (.iload_n 2, 1) := by decide +kernel
theorem dX4_sameValue_11 : decode cX4_sameValue 11 = .ok (.iaload, 1) := by decide +kernel
theorem dX4_sameValue_12 : decode cX4_sameValue 12 = .ok (.isub, 1) := by decide +kernel
theorem dX4_sameValue_13 : decode cX4_sameValue 13 = .ok (.iload 4, 2) := by decide +kernel
theorem dX4_sameValue_15 : decode cX4_sameValue 15 = .ok (.if_icmp .ne 20, 3) := by decide +kernel
theorem dX4_sameValue_18 : decode cX4_sameValue 18 = .ok (.aload_n 1, 1) := by decide +kernel
theorem dX4_sameValue_19 : decode cX4_sameValue 19 = .ok (.iload_n 2, 1) := by decide +kernel
theorem dX4_sameValue_20 : decode cX4_sameValue 20 = .ok (.aload_n 1, 1) := by decide +kernel
theorem dX4_sameValue_21 : decode cX4_sameValue 21 = .ok (.getfield 132, 3) := by decide +kernel
theorem dX4_sameValue_24 : decode cX4_sameValue 24 = .ok (.iload_n 3, 1) := by decide +kernel
theorem dX4_sameValue_25 : decode cX4_sameValue 25 = .ok (.invokevirtual 198, 3) := by decide +kernel
theorem dX4_sameValue_28 : decode cX4_sameValue 28 = .ok (.ifCond .eq 7, 3) := by decide +kernel
theorem dX4_sameValue_31 : decode cX4_sameValue 31 = .ok (.iconst 1, 1) := by decide +kernel
theorem dX4_sameValue_32 : decode cX4_sameValue 32 = .ok (.goto 4, 3) := by decide +kernel
theorem dX4_sameValue_35 : decode cX4_sameValue 35 = .ok (.iconst 0, 1) := by decide +kernel
theorem dX4_sameValue_36 : decode cX4_sameValue 36 = .ok (.ireturn, 1) := by decide +kernel
theorem v_X4_sameValue_0 {cs : Cs} {Q : Option AV → Mm → Prop} {MI ML : Nat → Nat → Int} {b d e nw th x : Nat} {l2 l3 l4 : Int} (hbd : b = 38 ∨ b = 81)
    (h : (0 ≤ l2 ∧ l2 < 600) ∧ (-2147483648 ≤ (MI (b + 40) l2.toNat) - (MI (b + 39) l2.toNat) ∧ (MI (b + 40) l2.toNat) - (MI (b + 39) l2.toNat) < 2147483648) ∧ ((((MI (b + 40) l2.toNat) - (MI (b + 39) l2.toNat)) = l4 → wp cs mX3_hasBytes KD (rI (GR d e nw th x) fun x25 m25 n25 => ((x25 = 0 → Q (some (vI 0)) (m25, n25, (GR d e nw th x))) ∧ (x25 ≠ 0 → Q (some (vI 1)) (m25, n25, (GR d e nw th x))))) 0 (padL [vR b, vI l2, vR (b + 41), vI l3] 7) [] (KD, MI, ML, (GR d e nw th x))) ∧ (((MI (b + 40) l2.toNat) - (MI (b + 39) l2.toNat)) ≠ l4 → Q (some (vI 0)) (MI, ML, (GR d e nw th x))))) :
    wp cs mX4_sameValue KD Q 0 (padL [vR 11, vR b, vI l2, vI l3, vI l4] 5) [] (KD, MI, ML, (GR d e nw th x)) := by
  refine wp_L (L' := [some (vR 11), some (vR b), some (vI l2), some (vI l3), some (vI l4)]) rfl ?_
  refine wp_aload_n dX4_sameValue_0 rfl rfl (by first | exact Or.inl (by decide) | exact Or.inl (by omega) | exact Or.inr (by decide) | exact Or.inr (by omega)) ?_
  refine wp_getR dX4_sameValue_1 fX4_186 (show KD[b]? = some (7, 19) from kdb_0 hbd) (by omega) ?_
  refine wp_topR (x' := (b + 40)) (grb_0_11 hbd) ?_
  refine wp_iload_n dX4_sameValue_4 rfl rfl ?_
  have c0 := h.1
  replace h := h.2
  refine wp_iald dX4_sameValue_5 (kdb_40 hbd) (by omega) c0 ?_
  refine wp_aload_n dX4_sameValue_6 rfl rfl (by first | exact Or.inl (by decide) | exact Or.inl (by omega) | exact Or.inr (by decide) | exact Or.inr (by omega)) ?_
  refine wp_getR dX4_sameValue_7 fX4_183 (show KD[b]? = some (7, 19) from kdb_0 hbd) (by omega) ?_
  refine wp_topR (x' := (b + 39)) (grb_0_10 hbd) ?_
  refine wp_iload_n dX4_sameValue_10 rfl rfl ?_
  refine wp_pc (pc' := 11) rfl ?_
  refine wp_iald dX4_sameValue_11 (kdb_39 hbd) (by omega) c0 ?_
  have c1 := h.1
  replace h := h.2
  refine wp_isubr dX4_sameValue_12 c1 ?_
  refine wp_iload dX4_sameValue_13 rfl ?_
  refine wp_icmp_ne (tgt := 35) dX4_sameValue_15 (by decide) (fun h15 => ?_) (fun h15 => ?_)
  · replace h := h.2 h15
    refine wp_iconst dX4_sameValue_35 (by decide) ?_
    exact wp_zret dX4_sameValue_36 rfl (by decide) (fun _ => h)
  · replace h := h.1 h15
    refine wp_aload_n dX4_sameValue_18 rfl rfl (by first | exact Or.inl (by decide) | exact Or.inl (by omega) | exact Or.inr (by decide) | exact Or.inr (by omega)) ?_
    refine wp_iload_n dX4_sameValue_19 rfl rfl ?_
    refine wp_aload_n dX4_sameValue_20 rfl rfl (by first | exact Or.inl (by decide) | exact Or.inl (by omega) | exact Or.inr (by decide) | exact Or.inr (by omega)) ?_
    refine wp_getR dX4_sameValue_21 fX4_132 (show KD[b]? = some (7, 19) from kdb_0 hbd) (by omega) ?_
    refine wp_topR (x' := (b + 41)) (grb_0_12 hbd) ?_
    refine wp_iload_n dX4_sameValue_24 rfl rfl ?_
    refine wp_cVq (n := 3) (mt' := mX3_hasBytes) (as := [vI l2, vR (b + 41), vI l3]) (rest := []) _ dX4_sameValue_25 lX4_198 kX3_hasBytes vX3_hasBytes (by decide) (by decide +kernel) rfl (Nat.le_of_ble_eq_true rfl) (by omega) (show KD[b]? = some (7, 19) from kdb_0 hbd) rfl rfl (Nat.le_of_ble_eq_true rfl) (fun hM hS => h) (fun r M' hq hM => ?_)
    obtain ⟨x25, m25, n25, rfl, rfl, h⟩ := rI_out hq
    refine wp_if_eq (tgt := 35) dX4_sameValue_28 (by decide) (fun h28 => ?_) (fun h28 => ?_)
    · replace h := h.1 h28
      refine wp_iconst dX4_sameValue_35 (by decide) ?_
      exact wp_zret dX4_sameValue_36 rfl (by decide) (fun _ => h)
    · replace h := h.2 h28
      refine wp_iconst dX4_sameValue_31 (by decide) ?_
      refine wp_goto (tgt := 36) dX4_sameValue_32 (by decide) ?_
      exact wp_zret dX4_sameValue_36 rfl (by decide) (fun _ => h)
theorem dX4_isAsFixed_0 : decode cX4_isAsFixed 0 = .ok (.aload_n 1, 1) := by decide +kernel
theorem dX4_isAsFixed_1 : decode cX4_isAsFixed 1 = .ok (.getfield 65, 3) := by decide +kernel
theorem dX4_isAsFixed_4 : decode cX4_isAsFixed 4 = .ok (.getfield 174, 3) := by decide +kernel
theorem dX4_isAsFixed_7 : decode cX4_isAsFixed 7 = .ok (.iload_n 3, 1) := by decide +kernel
theorem dX4_isAsFixed_8 : decode cX4_isAsFixed 8 = .ok (.iaload, 1) := by decide +kernel
theorem dX4_isAsFixed_9 : decode cX4_isAsFixed 9 = .ok (.iconst 2, 1) := by decide +kernel
theorem dX4_isAsFixed_10 : decode cX4_isAsFixed 10 = .ok (.if_icmp .eq 5, 3) := by decide +kernel
theorem dX4_isAsFixed_13 : decode cX4_isAsFixed 13 = .ok (.iconst 1, 1) := by decide +kernel
theorem dX4_isAsFixed_14 : decode cX4_isAsFixed 14 = .ok (.ireturn, 1) := by decide +kernel
theorem dX4_isAsFixed_15 : decode cX4_isAsFixed 15 = .ok (.aload_n 1, 1) := by decide +kernel
theorem dX4_isAsFixed_16 : decode cX4_isAsFixed 16 = .ok (.getfield 65, 3) := by decide +kernel
theorem dX4_isAsFixed_19 : decode cX4_isAsFixed 19 = .ok (.getfield 106, 3) := by decide +kernel
theorem dX4_isAsFixed_22 : decode cX4_isAsFixed 22 = .ok (.iload_n 3, 1) := by decide +kernel
theorem dX4_isAsFixed_23 : decode cX4_isAsFixed 23 = .ok (.iaload, 1) := by decide +kernel
theorem dX4_isAsFixed_24 : decode cX4_isAsFixed 24 = .ok (.istore 4, 2) := by decide +kernel
theorem dX4_isAsFixed_26 : decode cX4_isAsFixed 26 = .ok (.aload_n 0, 1) := by decide +kernel
theorem dX4_isAsFixed_27 : decode cX4_isAsFixed 27 = .ok (.aload_n 1, 1) := by decide +kernel
theorem dX4_isAsFixed_28 : decode cX4_isAsFixed 28 = .ok (.iload_n 2, 1) := by decide +kernel
theorem dX4_isAsFixed_29 : decode cX4_isAsFixed 29 = .ok (.iload 4, 2) := by decide +kernel
theorem dX4_isAsFixed_31 : decode cX4_isAsFixed 31 = .ok (.aload_n 1, 1) := by decide +kernel
theorem dX4_isAsFixed_32 : decode cX4_isAsFixed 32 = .ok (.getfield 65, 3) := by decide +kernel
theorem dX4_isAsFixed_35 : decode cX4_isAsFixed 35 = .ok (.getfield 109, 3) := by decide +kernel
theorem dX4_isAsFixed_38 : decode cX4_isAsFixed 38 = .ok (.iload_n 3, 1) := by decide +kernel
theorem dX4_isAsFixed_39 : decode cX4_isAsFixed 39 = .ok (.iaload, 1) := by decide +kernel
theorem dX4_isAsFixed_40 : decode cX4_isAsFixed 40 = .ok (.iload 4, 2) := by decide +kernel
theorem dX4_isAsFixed_42 : decode cX4_isAsFixed 42 = .ok (.isub, 1) := by decide +kernel
theorem dX4_isAsFixed_43 : decode cX4_isAsFixed 43 = .ok (.invokevirtual 195, 3) := by decide +kernel
theorem dX4_isAsFixed_46 : decode cX4_isAsFixed 46 = .ok (.ireturn, 1) := by decide +kernel
theorem v_X4_isAsFixed_0 {cs : Cs} {Q : Option AV → Mm → Prop} {MI ML : Nat → Nat → Int} {b d e nw th x : Nat} {l2 l3 : Int} (hbd : b = 38 ∨ b = 81)
    (h : (0 ≤ l3 ∧ l3 < 750) ∧ (((MI (b + 26) l3.toNat) = 2 → (-2147483648 ≤ (MI (b + 28) l3.toNat) - (MI (b + 27) l3.toNat) ∧ (MI (b + 28) l3.toNat) - (MI (b + 27) l3.toNat) < 2147483648) ∧ wp cs mX4_sameValue KD (rI (GR d e nw th x) fun x43 m43 n43 => (x43 = 0 ∨ x43 = 1) ∧ Q (some (vI x43)) (m43, n43, (GR d e nw th x))) 0 (padL [vR 11, vR b, vI l2, vI (MI (b + 27) l3.toNat), vI ((MI (b + 28) l3.toNat) - (MI (b + 27) l3.toNat))] 5) [] (KD, MI, ML, (GR d e nw th x))) ∧ ((MI (b + 26) l3.toNat) ≠ 2 → Q (some (vI 1)) (MI, ML, (GR d e nw th x))))) :
    wp cs mX4_isAsFixed KD Q 0 (padL [vR 11, vR b, vI l2, vI l3] 5) [] (KD, MI, ML, (GR d e nw th x)) := by
  refine wp_L (L' := [some (vR 11), some (vR b), some (vI l2), some (vI l3), none]) rfl ?_
  refine wp_aload_n dX4_isAsFixed_0 rfl rfl (by first | exact Or.inl (by decide) | exact Or.inl (by omega) | exact Or.inr (by decide) | exact Or.inr (by omega)) ?_
  refine wp_getR dX4_isAsFixed_1 fX4_65 (show KD[b]? = some (7, 19) from kdb_0 hbd) (by omega) ?_
  refine wp_topR (x' := (b + 20)) (grb_0_2 hbd) ?_
  refine wp_getR dX4_isAsFixed_4 fX4_174 (kdb_20 hbd) (by omega) ?_
  refine wp_topR (x' := (b + 26)) (grb_20_5 hbd) ?_
  refine wp_iload_n dX4_isAsFixed_7 rfl rfl ?_
  have c0 := h.1
  replace h := h.2
  refine wp_iald dX4_isAsFixed_8 (kdb_26 hbd) (by omega) c0 ?_
  refine wp_iconst dX4_isAsFixed_9 (by decide) ?_
  refine wp_icmp_eq (tgt := 15) dX4_isAsFixed_10 (by decide) (fun h10 => ?_) (fun h10 => ?_)
  · replace h := h.1 h10
    refine wp_aload_n dX4_isAsFixed_15 rfl rfl (by first | exact Or.inl (by decide) | exact Or.inl (by omega) | exact Or.inr (by decide) | exact Or.inr (by omega)) ?_
    refine wp_getR dX4_isAsFixed_16 fX4_65 (show KD[b]? = some (7, 19) from kdb_0 hbd) (by omega) ?_
    refine wp_topR (x' := (b + 20)) (grb_0_2 hbd) ?_
    refine wp_getR dX4_isAsFixed_19 fX4_106 (kdb_20 hbd) (by omega) ?_
    refine wp_topR (x' := (b + 27)) (grb_20_6 hbd) ?_
    refine wp_iload_n dX4_isAsFixed_22 rfl rfl ?_
    refine wp_iald dX4_isAsFixed_23 (kdb_27 hbd) (by omega) c0 ?_
    refine wp_istore dX4_isAsFixed_24 (by decide) (wp_L (L' := [some (vR 11), some (vR b), some (vI l2), some (vI l3), some (vI (MI (b + 27) l3.toNat))]) rfl ?_)
    refine wp_aload_n dX4_isAsFixed_26 rfl rfl (by first | exact Or.inl (by decide) | exact Or.inl (by omega) | exact Or.inr (by decide) | exact Or.inr (by omega)) ?_
    refine wp_pc (pc' := 27) rfl ?_
    refine wp_aload_n dX4_isAsFixed_27 rfl rfl (by first | exact Or.inl (by decide) | exact Or.inl (by omega) | exact Or.inr (by decide) | exact Or.inr (by omega)) ?_
    refine wp_iload_n dX4_isAsFixed_28 rfl rfl ?_
    refine wp_iload dX4_isAsFixed_29 rfl ?_
    refine wp_aload_n dX4_isAsFixed_31 rfl rfl (by first | exact Or.inl (by decide) | exact Or.inl (by omega) | exact Or.inr (by decide) | exact Or.inr (by omega)) ?_
    refine wp_getR dX4_isAsFixed_32 fX4_65 (show KD[b]? = some (7, 19) from kdb_0 hbd) (by omega) ?_
    refine wp_topR (x' := (b + 20)) (grb_0_2 hbd) ?_
    refine wp_getR dX4_isAsFixed_35 fX4_109 (kdb_20 hbd) (by omega) ?_
    refine wp_topR (x' := (b + 28)) (grb_20_7 hbd) ?_
    refine wp_iload_n dX4_isAsFixed_38 rfl rfl ?_
    refine wp_iald dX4_isAsFixed_39 (kdb_28 hbd) (by omega) c0 ?_
    refine wp_pc (pc' := 40) rfl ?_
    refine wp_iload dX4_isAsFixed_40 rfl ?_
    have c1 := h.1
    replace h := h.2
    refine wp_isubr dX4_isAsFixed_42 c1 ?_
    refine wp_cVq (n := 4) (mt' := mX4_sameValue) (as := [vR b, vI l2, vI (MI (b + 27) l3.toNat), vI ((MI (b + 28) l3.toNat) - (MI (b + 27) l3.toNat))]) (rest := []) _ dX4_isAsFixed_43 lX4_195 kX4_sameValue vX4_sameValue (by decide) (by decide +kernel) rfl (Nat.le_of_ble_eq_true rfl) (by decide) rfl rfl rfl (Nat.le_of_ble_eq_true rfl) (fun hM hS => h) (fun r M' hq hM => ?_)
    obtain ⟨x43, m43, n43, rfl, rfl, h⟩ := rI_out hq
    exact wp_zret dX4_isAsFixed_46 rfl h.1 (fun _ => h.2)
  · replace h := h.2 h10
    refine wp_iconst dX4_isAsFixed_13 (by decide) ?_
    exact wp_zret dX4_isAsFixed_14 rfl (by decide) (fun _ => h)
theorem dX4_isTaken_0 : decode cX4_isTaken 0 = .ok (.iconst 0, 1) := by decide +kernel
theorem dX4_isTaken_1 : decode cX4_isTaken 1 = .ok (.istore_n 3, 1) := by decide +kernel
theorem dX4_isTaken_2 : decode cX4_isTaken 2 = .ok (.iload_n 3, 1) := by decide +kernel
theorem dX4_isTaken_3 : decode cX4_isTaken 3 = .ok (.aload_n 0, 1) := by decide +kernel
theorem dX4_isTaken_4 : decode cX4_isTaken 4 = .ok (.getfield 18, 3) := by decide +kernel
theorem dX4_isTaken_7 : decode cX4_isTaken 7 = .ok (.if_icmp .ge 50, 3) := by decide +kernel
theorem dX4_isTaken_10 : decode cX4_isTaken 10 = .ok (.aload_n 0, 1) := by decide +kernel
theorem dX4_isTaken_11 : decode cX4_isTaken 11 = .ok (.getfield 15, 3) := by decide +kernel
theorem dX4_isTaken_14 : decode cX4_isTaken 14 = .ok (.iload_n 3, 1) := by decide +kernel
theorem dX4_isTaken_15 : decode cX4_isTaken 15 = .ok (.iaload, 1) := by decide +kernel
theorem dX4_isTaken_16 : decode cX4_isTaken 16 = .ok (.istore 4, 2) := by decide +kernel
theorem dX4_isTaken_18 : decode cX4_isTaken 18 = .ok (.aload_n 0, 1) := by decide +kernel
theorem dX4_isTaken_19 : decode cX4_isTaken 19 = .ok (.aload_n 1, 1) := by decide +kernel
theorem dX4_isTaken_20 : decode cX4_isTaken 20 = .ok (.iload_n 2, 1) := by decide +kernel
theorem dX4_isTaken_21 : decode cX4_isTaken 21 = .ok (.aload_n 1, 1) := by decide +kernel
theorem dX4_isTaken_22 : decode cX4_isTaken 22 = .ok (.getfield 183, 3) := by decide +kernel
theorem dX4_isTaken_25 : decode cX4_isTaken 25 = .ok (.iload 4, 2) := by decide +kernel
theorem dX4_isTaken_27 : decode cX4_isTaken 27 = .ok (.iaload, 1) := by decide +kernel
theorem dX4_isTaken_28 : decode cX4_isTaken 28 = .ok (.aload_n 1, 1) := by decide +kernel
theorem dX4_isTaken_29 : decode cX4_isTaken 29 = .ok (.getfield 186, 3) := by decide +kernel
theorem dX4_isTaken_32 : decode cX4_isTaken 32 = .ok (.iload 4, 2) := by decide +kernel
theorem dX4_isTaken_34 : decode cX4_isTaken 34 = .ok (.iaload, 1) := by decide +kernel
theorem dX4_isTaken_35 : decode cX4_isTaken 35 = .ok (.aload_n 1, 1) := by decide +kernel
theorem dX4_isTaken_36 : decode cX4_isTaken 36 = .ok (.getfield 183, 3) := by decide +kernel
theorem dX4_isTaken_39 : decode cX4_isTaken 39 = .ok (.iload 4, 2) := by decide +kernel
theorem dX4_isTaken_41 : decode cX4_isTaken 41 = .ok (.iaload, 1) := by decide +kernel
theorem dX4_isTaken_42 : decode cX4_isTaken 42 = .ok (.isub, 1) := by decide +kernel
theorem dX4_isTaken_43 : decode cX4_isTaken 43 = .ok (.invokevirtual 195, 3) := by decide +kernel
theorem dX4_isTaken_46 : decode cX4_isTaken 46 = .ok (.ifCond .eq 5, 3) := by decide +kernel
theorem dX4_isTaken_49 : decode cX4_isTaken 49 = .ok (.iconst 1, 1) := by decide +kernel
theorem dX4_isTaken_50 : decode cX4_isTaken 50 = .ok (.ireturn, 1) := by decide +kernel
theorem dX4_isTaken_51 : decode cX4_isTaken 51 = .ok (.iinc 3 1, 3) := by decide +kernel
theorem dX4_isTaken_54 : decode cX4_isTaken 54 = .ok (.goto (-52), 3) := by decide +kernel
theorem dX4_isTaken_57 : decode cX4_isTaken 57 = .ok (.iconst 0, 1) := by decide +kernel
theorem dX4_isTaken_58 : decode cX4_isTaken 58 = .ok (.ireturn, 1) := by decide +kernel
theorem v_X4_isTaken_0 {cs : Cs} {Q : Option AV → Mm → Prop} {MI ML : Nat → Nat → Int} {b d e nw th x : Nat} {l2 : Int}
    (h : wp cs mX4_isTaken KD Q 2 [some (vR 11), some (vR b), some (vI l2), some (vI 0), none] [] (KD, MI, ML, (GR d e nw th x))) :
    wp cs mX4_isTaken KD Q 0 (padL [vR 11, vR b, vI l2] 5) [] (KD, MI, ML, (GR d e nw th x)) := by
  refine wp_L (L' := [some (vR 11), some (vR b), some (vI l2), none, none]) rfl ?_
  refine wp_iconst dX4_isTaken_0 (by decide) ?_
  refine wp_istore_n dX4_isTaken_1 rfl (by decide) (wp_L (L' := [some (vR 11), some (vR b), some (vI l2), some (vI 0), none]) rfl ?_)
  exact h
theorem v_X4_isTaken_2 {cs : Cs} {Q : Option AV → Mm → Prop} {MI ML : Nat → Nat → Int} {b d e nw th x : Nat} {l2 l3 : Int} (hbd : b = 38 ∨ b = 81)
    (h : ((l3 < (MI 11 2) → (0 ≤ l3 ∧ l3 < 600) ∧ (0 ≤ (MI 13 l3.toNat) ∧ (MI 13 l3.toNat) < 600) ∧ (-2147483648 ≤ (MI (b + 40) (MI 13 l3.toNat).toNat) - (MI (b + 39) (MI 13 l3.toNat).toNat) ∧ (MI (b + 40) (MI 13 l3.toNat).toNat) - (MI (b + 39) (MI 13 l3.toNat).toNat) < 2147483648) ∧ wp cs mX4_sameValue KD (rI (GR d e nw th x) fun x43 m43 n43 => ((x43 = 0 → (-2147483648 ≤ l3 + 1 ∧ l3 + 1 < 2147483648) ∧ wp cs mX4_isTaken KD Q 2 [some (vR 11), some (vR b), some (vI l2), some (vI (l3 + 1)), none] [] (KD, m43, n43, (GR d e nw th x))) ∧ (x43 ≠ 0 → Q (some (vI 1)) (m43, n43, (GR d e nw th x))))) 0 (padL [vR 11, vR b, vI l2, vI (MI (b + 39) (MI 13 l3.toNat).toNat), vI ((MI (b + 40) (MI 13 l3.toNat).toNat) - (MI (b + 39) (MI 13 l3.toNat).toNat))] 5) [] (KD, MI, ML, (GR d e nw th x))) ∧ ((MI 11 2) ≤ l3 → Q (some (vI 0)) (MI, ML, (GR d e nw th x))))) :
    wp cs mX4_isTaken KD Q 2 [some (vR 11), some (vR b), some (vI l2), some (vI l3), none] [] (KD, MI, ML, (GR d e nw th x)) := by
  refine wp_iload_n dX4_isTaken_2 rfl rfl ?_
  refine wp_aload_n dX4_isTaken_3 rfl rfl (by first | exact Or.inl (by decide) | exact Or.inl (by omega) | exact Or.inr (by decide) | exact Or.inr (by omega)) ?_
  refine wp_getI dX4_isTaken_4 fX4_18 rfl (by decide) ?_
  refine wp_icmp_ge (tgt := 57) dX4_isTaken_7 (by decide) (fun h7 => ?_) (fun h7 => ?_)
  · replace h := h.2 h7
    refine wp_iconst dX4_isTaken_57 (by decide) ?_
    exact wp_zret dX4_isTaken_58 rfl (by decide) (fun _ => h)
  · replace h := h.1 h7
    refine wp_aload_n dX4_isTaken_10 rfl rfl (by first | exact Or.inl (by decide) | exact Or.inl (by omega) | exact Or.inr (by decide) | exact Or.inr (by omega)) ?_
    refine wp_getR dX4_isTaken_11 fX4_15 rfl (by decide) ?_
    refine wp_topR (x' := 13) rfl ?_
    refine wp_iload_n dX4_isTaken_14 rfl rfl ?_
    have c0 := h.1
    replace h := h.2
    refine wp_iald dX4_isTaken_15 rfl (by decide) c0 ?_
    refine wp_istore dX4_isTaken_16 (by decide) (wp_L (L' := [some (vR 11), some (vR b), some (vI l2), some (vI l3), some (vI (MI 13 l3.toNat))]) rfl ?_)
    refine wp_aload_n dX4_isTaken_18 rfl rfl (by first | exact Or.inl (by decide) | exact Or.inl (by omega) | exact Or.inr (by decide) | exact Or.inr (by omega)) ?_
    refine wp_aload_n dX4_isTaken_19 rfl rfl (by first | exact Or.inl (by decide) | exact Or.inl (by omega) | exact Or.inr (by decide) | exact Or.inr (by omega)) ?_
    refine wp_pc (pc' := 20) rfl ?_
    refine wp_iload_n dX4_isTaken_20 rfl rfl ?_
    refine wp_aload_n dX4_isTaken_21 rfl rfl (by first | exact Or.inl (by decide) | exact Or.inl (by omega) | exact Or.inr (by decide) | exact Or.inr (by omega)) ?_
    refine wp_getR dX4_isTaken_22 fX4_183 (show KD[b]? = some (7, 19) from kdb_0 hbd) (by omega) ?_
    refine wp_topR (x' := (b + 39)) (grb_0_10 hbd) ?_
    refine wp_iload dX4_isTaken_25 rfl ?_
    have c1 := h.1
    replace h := h.2
    refine wp_iald dX4_isTaken_27 (kdb_39 hbd) (by omega) c1 ?_
    refine wp_aload_n dX4_isTaken_28 rfl rfl (by first | exact Or.inl (by decide) | exact Or.inl (by omega) | exact Or.inr (by decide) | exact Or.inr (by omega)) ?_
    refine wp_getR dX4_isTaken_29 fX4_186 (show KD[b]? = some (7, 19) from kdb_0 hbd) (by omega) ?_
    refine wp_topR (x' := (b + 40)) (grb_0_11 hbd) ?_
    refine wp_iload dX4_isTaken_32 rfl ?_
    refine wp_pc (pc' := 34) rfl ?_
    refine wp_iald dX4_isTaken_34 (kdb_40 hbd) (by omega) c1 ?_
    refine wp_aload_n dX4_isTaken_35 rfl rfl (by first | exact Or.inl (by decide) | exact Or.inl (by omega) | exact Or.inr (by decide) | exact Or.inr (by omega)) ?_
    refine wp_getR dX4_isTaken_36 fX4_183 (show KD[b]? = some (7, 19) from kdb_0 hbd) (by omega) ?_
    refine wp_topR (x' := (b + 39)) (grb_0_10 hbd) ?_
    refine wp_iload dX4_isTaken_39 rfl ?_
    refine wp_iald dX4_isTaken_41 (kdb_39 hbd) (by omega) c1 ?_
    have c2 := h.1
    replace h := h.2
    refine wp_isubr dX4_isTaken_42 c2 ?_
    refine wp_cVq (n := 4) (mt' := mX4_sameValue) (as := [vR b, vI l2, vI (MI (b + 39) (MI 13 l3.toNat).toNat), vI ((MI (b + 40) (MI 13 l3.toNat).toNat) - (MI (b + 39) (MI 13 l3.toNat).toNat))]) (rest := []) _ dX4_isTaken_43 lX4_195 kX4_sameValue vX4_sameValue (by decide) (by decide +kernel) rfl (Nat.le_of_ble_eq_true rfl) (by decide) rfl rfl rfl (Nat.le_of_ble_eq_true rfl) (fun hM hS => h) (fun r M' hq hM => ?_)
    obtain ⟨x43, m43, n43, rfl, rfl, h⟩ := rI_out hq
    refine wp_if_eq (tgt := 51) dX4_isTaken_46 (by decide) (fun h46 => ?_) (fun h46 => ?_)
    · replace h := h.1 h46
      have c3 := h.1
      replace h := h.2
      refine wp_iincr dX4_isTaken_51 rfl (by decide) c3 (wp_L (L' := [some (vR 11), some (vR b), some (vI l2), some (vI (l3 + 1)), some (vI (MI 13 l3.toNat))]) rfl ?_)
      refine wp_goto (tgt := 2) dX4_isTaken_54 (by decide) ?_
      refine wp_forget (L' := [some (vR 11), some (vR b), some (vI l2), some (vI (l3 + 1)), none]) (by repeat' (first | exact trivial | refine ⟨rfl, ?_⟩)) ?_
      exact h
    · replace h := h.2 h46
      refine wp_iconst dX4_isTaken_49 (by decide) ?_
      exact wp_zret dX4_isTaken_50 rfl (by decide) (fun _ => h)
