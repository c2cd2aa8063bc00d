theorem dX12_setText_0 : decode cX12_setText 0 = .ok (.sipush 600, 3) := by decide +kernel
theorem dX12_setText_3 : decode cX12_setText 3 = .ok (.aload_n 0, 1) := by decide +kernel
theorem dX12_setText_4 : decode cX12_setText 4 = .ok (.getfield 482, 3) := by decide +kernel
theorem dX12_setText_7 : decode cX12_setText 7 = .ok (.imul, 1) := by decide +kernel
theorem dX12_setText_8 : decode cX12_setText 8 = .ok (.iload_n 1, 1) := by decide +kernel
theorem dX12_setText_9 : decode cX12_setText 9 = .ok (.iadd, 1) := by decide +kernel
theorem dX12_setText_10 : decode cX12_setText 10 = .ok (.istore_n 2, 1) := by decide +kernel
theorem dX12_setText_11 : decode cX12_setText 11 = .ok (.aload_n 0, 1) := by decide +kernel
theorem dX12_setText_12 : decode cX12_setText 12 = .ok (.getfield 43, 3) := by decide +kernel
theorem dX12_setText_15 : decode cX12_setText 15 = .ok (.iload_n 2, 1) := by decide +kernel
theorem dX12_setText_16 : decode cX12_setText 16 = .ok (.iaload, 1) := by decide +kernel
theorem dX12_setText_17 : decode cX12_setText 17 = .ok (.istore_n 3, 1) := by decide +kernel
theorem dX12_setText_18 : decode cX12_setText 18 = .ok (.iload_n 3, 1) := by decide +kernel
theorem dX12_setText_19 : decode cX12_setText 19 = .ok (.aload_n 0, 1) := by decide +kernel
theorem dX12_setText_20 : decode cX12_setText 20 = .ok (.getfield 43, 3) := by decide +kernel
theorem dX12_setText_23 : decode cX12_setText 23 = .ok (.iload_n 2, 1) := by decide +kernel
theorem dX12_setText_24 : decode cX12_setText 24 = .ok (.iaload, 1) := by decide +kernel
theorem dX12_setText_25 : decode cX12_setText 25 = .ok (.aload_n 0, 1) := by decide +kernel
theorem dX12_setText_26 : decode cX12_setText 26 = .ok (.getfield 46, 3) := by decide +kernel
theorem dX12_setText_29 : decode cX12_setText 29 = .ok (.iload_n 2, 1) := by decide +kernel
theorem dX12_setText_30 : decode cX12_setText 30 = .ok (.iaload, 1) := by decide +kernel
theorem dX12_setText_31 : decode cX12_setText 31 = .ok (.iadd, 1) := by decide +kernel
theorem dX12_setText_32 : decode cX12_setText 32 = .ok (.if_icmp .ge 63, 3) := by decide +kernel
theorem dX12_setText_35 : decode cX12_setText 35 = .ok (.aload_n 0, 1) := by decide +kernel
theorem dX12_setText_36 : decode cX12_setText 36 = .ok (.getfield 55, 3) := by decide +kernel
theorem dX12_setText_39 : decode cX12_setText 39 = .ok (.iload_n 3, 1) := by decide +kernel
theorem dX12_setText_40 : decode cX12_setText 40 = .ok (.baload, 1) := by decide +kernel
theorem dX12_setText_41 : decode cX12_setText 41 = .ok (.invokestatic 297, 3) := by decide +kernel
theorem dX12_setText_44 : decode cX12_setText 44 = .ok (.ifCond .eq 10, 3) := by decide +kernel
theorem dX12_setText_47 : decode cX12_setText 47 = .ok (.aload_n 0, 1) := by decide +kernel
theorem dX12_setText_48 : decode cX12_setText 48 = .ok (.invokevirtual 636, 3) := by decide +kernel
theorem dX12_setText_51 : decode cX12_setText 51 = .ok (.goto 38, 3) := by decide +kernel
theorem dX12_setText_54 : decode cX12_setText 54 = .ok (.aload_n 0, 1) := by decide +kernel
theorem dX12_setText_55 : decode cX12_setText 55 = .ok (.getfield 237, 3) := by decide +kernel
theorem dX12_setText_58 : decode cX12_setText 58 = .ok (.aload_n 0, 1) := by decide +kernel
theorem dX12_setText_59 : decode cX12_setText 59 = .ok (.getfield 621, 3) := by decide +kernel
theorem dX12_setText_62 : decode cX12_setText 62 = .ok (.aload_n 0, 1) := by decide +kernel
theorem dX12_setText_63 : decode cX12_setText 63 = .ok (.getfield 55, 3) := by decide +kernel
theorem dX12_setText_66 : decode cX12_setText 66 = .ok (.iload_n 3, 1) := by decide +kernel
theorem dX12_setText_67 : decode cX12_setText 67 = .ok (.baload, 1) := by decide +kernel
theorem dX12_setText_68 : decode cX12_setText 68 = .ok (.bastore, 1) := by decide +kernel
theorem dX12_setText_69 : decode cX12_setText 69 = .ok (.aload_n 0, 1) := by decide +kernel
theorem dX12_setText_70 : decode cX12_setText 70 = .ok (.getfield 240, 3) := by decide +kernel
theorem dX12_setText_73 : decode cX12_setText 73 = .ok (.aload_n 0, 1) := by decide +kernel
theorem dX12_setText_74 : decode cX12_setText 74 = .ok (.getfield 621, 3) := by decide +kernel
theorem dX12_setText_77 : decode cX12_setText 77 = .ok (.iload_n 1, 1) := by decide +kernel
theorem dX12_setText_78 : decode cX12_setText 78 = .ok (.iastore, 1) := by decide +kernel
theorem dX12_setText_79 : decode cX12_setText 79 = .ok (.aload_n 0, 1) := by decide +kernel
theorem dX12_setText_80 : decode cX12_setText 80 = .ok (.dup, 1) := by decide +kernel
theorem dX12_setText_81 : decode cX12_setText 81 = .ok (.getfield 621, 3) := by decide +kernel
theorem dX12_setText_84 : decode cX12_setText 84 = .ok (.iconst 1, 1) := by decide +kernel
theorem dX12_setText_85 : decode cX12_setText 85 = .ok (.iadd, 1) := by decide +kernel
theorem dX12_setText_86 : decode cX12_setText 86 = .ok (.putfield 621, 3) := by decide +kernel
theorem dX12_setText_89 : decode cX12_setText 89 = .ok (.iinc 3 1, 3) := by decide +kernel
theorem dX12_setText_92 : decode cX12_setText 92 = .ok (.goto (-74), 3) := by decide +kernel
theorem dX12_setText_95 : decode cX12_setText 95 = .ok (.return_, 1) := by decide +kernel
theorem v_X12_setText_0 {cs : Cs} {Q : Option AV → Mm → Prop} {MI ML : Nat → Nat → Int} {d e nw th x : Nat} {l1 : Int}
    (h : (-2147483648 ≤ 600 * (MI 124 7) ∧ 600 * (MI 124 7) < 2147483648) ∧ (-2147483648 ≤ (600 * (MI 124 7)) + l1 ∧ (600 * (MI 124 7)) + l1 < 2147483648) ∧ (0 ≤ ((600 * (MI 124 7)) + l1) ∧ ((600 * (MI 124 7)) + l1) < 1200) ∧ wp cs mX12_setText KD Q 18 [some (vR 124), some (vI l1), some (vI ((600 * (MI 124 7)) + l1)), some (vI (MI 134 ((600 * (MI 124 7)) + l1).toNat))] [] (KD, MI, ML, (GR d e nw th x))) :
    wp cs mX12_setText KD Q 0 (padL [vR 124, vI l1] 4) [] (KD, MI, ML, (GR d e nw th x)) := by
  refine wp_L (L' := [some (vR 124), some (vI l1), none, none]) rfl ?_
  refine wp_sipush dX12_setText_0 (by decide +kernel) (by decide) ?_
  refine wp_aload_n dX12_setText_3 rfl rfl (by first | exact Or.inl (by decide) | exact Or.inl (by omega) | exact Or.inr (by decide) | exact Or.inr (by omega)) ?_
  refine wp_getI dX12_setText_4 fX12_482 rfl (by decide) ?_
  have c0 := h.1
  replace h := h.2
  refine wp_imulr dX12_setText_7 c0 ?_
  refine wp_iload_n dX12_setText_8 rfl rfl ?_
  have c1 := h.1
  replace h := h.2
  refine wp_iaddr dX12_setText_9 c1 ?_
  refine wp_istore_n dX12_setText_10 rfl (by decide) (wp_L (L' := [some (vR 124), some (vI l1), some (vI ((600 * (MI 124 7)) + l1)), none]) rfl ?_)
  refine wp_pc (pc' := 11) rfl ?_
  refine wp_aload_n dX12_setText_11 rfl rfl (by first | exact Or.inl (by decide) | exact Or.inl (by omega) | exact Or.inr (by decide) | exact Or.inr (by omega)) ?_
  refine wp_getR dX12_setText_12 fX12_43 rfl (by decide) ?_
  refine wp_topR (x' := 134) rfl ?_
  refine wp_iload_n dX12_setText_15 rfl rfl ?_
  have c2 := h.1
  replace h := h.2
  refine wp_iald dX12_setText_16 rfl (by decide) c2 ?_
  refine wp_istore_n dX12_setText_17 rfl (by decide) (wp_L (L' := [some (vR 124), some (vI l1), some (vI ((600 * (MI 124 7)) + l1)), some (vI (MI 134 ((600 * (MI 124 7)) + l1).toNat))]) rfl ?_)
  exact h
theorem v_X12_setText_18 {cs : Cs} {Q : Option AV → Mm → Prop} {MI ML : Nat → Nat → Int} {d e nw th x : Nat} {l1 l2 l3 : Int}
    (h : (0 ≤ l2 ∧ l2 < 1200) ∧ (-2147483648 ≤ (MI 134 l2.toNat) + (MI 135 l2.toNat) ∧ (MI 134 l2.toNat) + (MI 135 l2.toNat) < 2147483648) ∧ ((l3 < ((MI 134 l2.toNat) + (MI 135 l2.toNat)) → (0 ≤ l3 ∧ l3 < 4000) ∧ wp cs mX12_isS KD (rI (GR d e nw th x) fun x41 m41 n41 => ((x41 = 0 → (0 ≤ (m41 124 98) ∧ (m41 124 98) < 2000) ∧ (-128 ≤ (m41 138 l3.toNat) ∧ (m41 138 l3.toNat) < 128) ∧ ∀ m68, m68 = up2 m41 198 (m41 124 98).toNat (m41 138 l3.toNat) → (0 ≤ (m68 124 98) ∧ (m68 124 98) < 2000) ∧ ∀ m78, m78 = up2 m68 199 (m68 124 98).toNat l1 → (-2147483648 ≤ (m78 124 98) + 1 ∧ (m78 124 98) + 1 < 2147483648) ∧ ∀ m86, m86 = up2 m78 124 98 ((m78 124 98) + 1) → (-2147483648 ≤ l3 + 1 ∧ l3 + 1 < 2147483648) ∧ wp cs mX12_setText KD Q 18 [some (vR 124), some (vI l1), some (vI l2), some (vI (l3 + 1))] [] (KD, m86, n41, (GR d e nw th x))) ∧ (x41 ≠ 0 → wp cs mX12_endWord KD (rV (GR d e nw th x) fun m48 n48 => (-2147483648 ≤ l3 + 1 ∧ l3 + 1 < 2147483648) ∧ wp cs mX12_setText KD Q 18 [some (vR 124), some (vI l1), some (vI l2), some (vI (l3 + 1))] [] (KD, m48, n48, (GR d e nw th x))) 0 (padL [vR 124] 2) [] (KD, m41, n41, (GR d e nw th x))))) 0 (padL [vI (MI 138 l3.toNat)] 1) [] (KD, MI, ML, (GR d e nw th x))) ∧ (((MI 134 l2.toNat) + (MI 135 l2.toNat)) ≤ l3 → Q none (MI, ML, (GR d e nw th x))))) :
    wp cs mX12_setText KD Q 18 [some (vR 124), some (vI l1), some (vI l2), some (vI l3)] [] (KD, MI, ML, (GR d e nw th x)) := by
  refine wp_iload_n dX12_setText_18 rfl rfl ?_
  refine wp_aload_n dX12_setText_19 rfl rfl (by first | exact Or.inl (by decide) | exact Or.inl (by omega) | exact Or.inr (by decide) | exact Or.inr (by omega)) ?_
  refine wp_getR dX12_setText_20 fX12_43 rfl (by decide) ?_
  refine wp_topR (x' := 134) rfl ?_
  refine wp_iload_n dX12_setText_23 rfl rfl ?_
  have c0 := h.1
  replace h := h.2
  refine wp_iald dX12_setText_24 rfl (by decide) c0 ?_
  refine wp_aload_n dX12_setText_25 rfl rfl (by first | exact Or.inl (by decide) | exact Or.inl (by omega) | exact Or.inr (by decide) | exact Or.inr (by omega)) ?_
  refine wp_getR dX12_setText_26 fX12_46 rfl (by decide) ?_
  refine wp_topR (x' := 135) rfl ?_
  refine wp_pc (pc' := 29) rfl ?_
  refine wp_iload_n dX12_setText_29 rfl rfl ?_
  refine wp_iald dX12_setText_30 rfl (by decide) c0 ?_
  have c1 := h.1
  replace h := h.2
  refine wp_iaddr dX12_setText_31 c1 ?_
  refine wp_icmp_ge (tgt := 95) dX12_setText_32 (by decide) (fun h32 => ?_) (fun h32 => ?_)
  · replace h := h.2 h32
    exact wp_vret dX12_setText_95 rfl (fun _ => h)
  · replace h := h.1 h32
    refine wp_aload_n dX12_setText_35 rfl rfl (by first | exact Or.inl (by decide) | exact Or.inl (by omega) | exact Or.inr (by decide) | exact Or.inr (by omega)) ?_
    refine wp_getR dX12_setText_36 fX12_55 rfl (by decide) ?_
    refine wp_topR (x' := 138) rfl ?_
    refine wp_iload_n dX12_setText_39 rfl rfl ?_
    have c2 := h.1
    replace h := h.2
    refine wp_bald dX12_setText_40 rfl (by decide) c2 ?_
    refine wp_cSq (n := 1) (mt' := mX12_isS) (as := [vI (MI 138 l3.toNat)]) (rest := []) _ dX12_setText_41 lX12_297 kX12_isS vX12_isS (by decide) (by decide +kernel) rfl (Nat.le_of_ble_eq_true rfl) rfl (Nat.le_of_ble_eq_true rfl) (fun hM hS => h) (fun r M' hq hM => ?_)
    obtain ⟨x41, m41, n41, rfl, rfl, h⟩ := rI_out hq
    refine wp_if_eq (tgt := 54) dX12_setText_44 (by decide) (fun h44 => ?_) (fun h44 => ?_)
    · replace h := h.1 h44
      refine wp_aload_n dX12_setText_54 rfl rfl (by first | exact Or.inl (by decide) | exact Or.inl (by omega) | exact Or.inr (by decide) | exact Or.inr (by omega)) ?_
      refine wp_getR dX12_setText_55 fX12_237 rfl (by decide) ?_
      refine wp_topR (x' := 198) rfl ?_
      refine wp_aload_n dX12_setText_58 rfl rfl (by first | exact Or.inl (by decide) | exact Or.inl (by omega) | exact Or.inr (by decide) | exact Or.inr (by omega)) ?_
      refine wp_getI dX12_setText_59 fX12_621 rfl (by decide) ?_
      refine wp_aload_n dX12_setText_62 rfl rfl (by first | exact Or.inl (by decide) | exact Or.inl (by omega) | exact Or.inr (by decide) | exact Or.inr (by omega)) ?_
      refine wp_getR dX12_setText_63 fX12_55 rfl (by decide) ?_
      refine wp_topR (x' := 138) rfl ?_
      refine wp_iload_n dX12_setText_66 rfl rfl ?_
      refine wp_pc (pc' := 67) rfl ?_
      refine wp_bald dX12_setText_67 rfl (by decide) c2 ?_
      have c3 := h.1
      replace h := h.2
      have c4 := h.1
      replace h := h.2
      refine wp_bast dX12_setText_68 rfl (by decide) c3 c4 ?_
      refine wp_gI (fun m68 e68 => ?_)
      replace h := h m68 e68
      refine wp_aload_n dX12_setText_69 rfl rfl (by first | exact Or.inl (by decide) | exact Or.inl (by omega) | exact Or.inr (by decide) | exact Or.inr (by omega)) ?_
      refine wp_getR dX12_setText_70 fX12_240 rfl (by decide) ?_
      refine wp_topR (x' := 199) rfl ?_
      refine wp_aload_n dX12_setText_73 rfl rfl (by first | exact Or.inl (by decide) | exact Or.inl (by omega) | exact Or.inr (by decide) | exact Or.inr (by omega)) ?_
      refine wp_getI dX12_setText_74 fX12_621 rfl (by decide) ?_
      refine wp_iload_n dX12_setText_77 rfl rfl ?_
      have c5 := h.1
      replace h := h.2
      refine wp_iast dX12_setText_78 rfl (by decide) c5 ?_
      refine wp_gI (fun m78 e78 => ?_)
      replace h := h m78 e78
      refine wp_pc (pc' := 79) rfl ?_
      refine wp_aload_n dX12_setText_79 rfl rfl (by first | exact Or.inl (by decide) | exact Or.inl (by omega) | exact Or.inr (by decide) | exact Or.inr (by omega)) ?_
      refine wp_dup dX12_setText_80 (fun x e => by cases e) ?_
      refine wp_getI dX12_setText_81 fX12_621 rfl (by decide) ?_
      refine wp_iconst dX12_setText_84 (by decide) ?_
      have c6 := h.1
      replace h := h.2
      refine wp_iaddr dX12_setText_85 c6 ?_
      refine wp_putI dX12_setText_86 pX12_621 rfl (by decide) ?_
      refine wp_gI (fun m86 e86 => ?_)
      replace h := h m86 e86
      have c7 := h.1
      replace h := h.2
      refine wp_iincr dX12_setText_89 rfl (by decide) c7 (wp_L (L' := [some (vR 124), some (vI l1), some (vI l2), some (vI (l3 + 1))]) rfl ?_)
      refine wp_goto (tgt := 18) dX12_setText_92 (by decide) ?_
      exact h
    · replace h := h.2 h44
      refine wp_aload_n dX12_setText_47 rfl rfl (by first | exact Or.inl (by decide) | exact Or.inl (by omega) | exact Or.inr (by decide) | exact Or.inr (by omega)) ?_
      refine wp_cVq (n := 0) (mt' := mX12_endWord) (as := []) (rest := []) _ dX12_setText_48 lX12_636 kX12_endWord vX12_endWord (by decide) (by decide +kernel) rfl (Nat.le_of_ble_eq_true rfl) (by decide) rfl rfl rfl (Nat.le_of_ble_eq_true rfl) (fun hM hS => h) (fun r M' hq hM => ?_)
      obtain ⟨m48, n48, rfl, rfl, h⟩ := rV_out hq
      refine wp_goto (tgt := 89) dX12_setText_51 (by decide) ?_
      have c3 := h.1
      replace h := h.2
      refine wp_iincr dX12_setText_89 rfl (by decide) c3 (wp_L (L' := [some (vR 124), some (vI l1), some (vI l2), some (vI (l3 + 1))]) rfl ?_)
      refine wp_goto (tgt := 18) dX12_setText_92 (by decide) ?_
      exact h
theorem dX12_toPages_0 : decode cX12_toPages 0 = .ok (.iconst 0, 1) := by decide +kernel
theorem dX12_toPages_1 : decode cX12_toPages 1 = .ok (.istore_n 2, 1) := by decide +kernel
theorem dX12_toPages_2 : decode cX12_toPages 2 = .ok (.iconst 0, 1) := by decide +kernel
theorem dX12_toPages_3 : decode cX12_toPages 3 = .ok (.istore_n 3, 1) := by decide +kernel
theorem dX12_toPages_4 : decode cX12_toPages 4 = .ok (.iconst 0, 1) := by decide +kernel
theorem dX12_toPages_5 : decode cX12_toPages 5 = .ok (.istore 4, 2) := by decide +kernel
theorem dX12_toPages_7 : decode cX12_toPages 7 = .ok (.iload 4, 2) := by decide +kernel
theorem dX12_toPages_9 : decode cX12_toPages 9 = .ok (.aload_n 0, 1) := by decide +kernel
theorem dX12_toPages_10 : decode cX12_toPages 10 = .ok (.getfield 501, 3) := by decide +kernel
theorem dX12_toPages_13 : decode cX12_toPages 13 = .ok (.if_icmp .ge 104, 3) := by decide +kernel
theorem dX12_toPages_16 : decode cX12_toPages 16 = .ok (.iconst 0, 1) := by decide +kernel
theorem dX12_toPages_17 : decode cX12_toPages 17 = .ok (.istore 5, 2) := by decide +kernel
theorem dX12_toPages_19 : decode cX12_toPages 19 = .ok (.iload 5, 2) := by decide +kernel
theorem dX12_toPages_21 : decode cX12_toPages 21 = .ok (.aload_n 0, 1) := by decide +kernel
theorem dX12_toPages_22 : decode cX12_toPages 22 = .ok (.getfield 639, 3) := by decide +kernel
theorem dX12_toPages_25 : decode cX12_toPages 25 = .ok (.if_icmp .ge 57, 3) := by decide +kernel
theorem dX12_toPages_28 : decode cX12_toPages 28 = .ok (.aload_n 0, 1) := by decide +kernel
theorem dX12_toPages_29 : decode cX12_toPages 29 = .ok (.getfield 234, 3) := by decide +kernel
theorem dX12_toPages_32 : decode cX12_toPages 32 = .ok (.iload 5, 2) := by decide +kernel
theorem dX12_toPages_34 : decode cX12_toPages 34 = .ok (.iaload, 1) := by decide +kernel
theorem dX12_toPages_35 : decode cX12_toPages 35 = .ok (.aload_n 0, 1) := by decide +kernel
theorem dX12_toPages_36 : decode cX12_toPages 36 = .ok (.getfield 231, 3) := by decide +kernel
theorem dX12_toPages_39 : decode cX12_toPages 39 = .ok (.iload 5, 2) := by decide +kernel
theorem dX12_toPages_41 : decode cX12_toPages 41 = .ok (.iaload, 1) := by decide +kernel
theorem dX12_toPages_42 : decode cX12_toPages 42 = .ok (.isub, 1) := by decide +kernel
theorem dX12_toPages_43 : decode cX12_toPages 43 = .ok (.istore 6, 2) := by decide +kernel
theorem dX12_toPages_45 : decode cX12_toPages 45 = .ok (.aload_n 0, 1) := by decide +kernel
theorem dX12_toPages_46 : decode cX12_toPages 46 = .ok (.getfield 231, 3) := by decide +kernel
theorem dX12_toPages_49 : decode cX12_toPages 49 = .ok (.iload 5, 2) := by decide +kernel
theorem dX12_toPages_51 : decode cX12_toPages 51 = .ok (.iaload, 1) := by decide +kernel
theorem dX12_toPages_52 : decode cX12_toPages 52 = .ok (.iload 4, 2) := by decide +kernel
theorem dX12_toPages_54 : decode cX12_toPages 54 = .ok (.if_icmp .ne 22, 3) := by decide +kernel
theorem dX12_toPages_57 : decode cX12_toPages 57 = .ok (.iload 6, 2) := by decide +kernel
theorem dX12_toPages_59 : decode cX12_toPages 59 = .ok (.iload_n 1, 1) := by decide +kernel
theorem dX12_toPages_60 : decode cX12_toPages 60 = .ok (.if_icmp .gt 16, 3) := by decide +kernel
theorem dX12_toPages_63 : decode cX12_toPages 63 = .ok (.iload_n 3, 1) := by decide +kernel
theorem dX12_toPages_64 : decode cX12_toPages 64 = .ok (.iload 6, 2) := by decide +kernel
theorem dX12_toPages_66 : decode cX12_toPages 66 = .ok (.iadd, 1) := by decide +kernel
theorem dX12_toPages_67 : decode cX12_toPages 67 = .ok (.iload_n 1, 1) := by decide +kernel
theorem dX12_toPages_68 : decode cX12_toPages 68 = .ok (.if_icmp .le 8, 3) := by decide +kernel
theorem dX12_toPages_71 : decode cX12_toPages 71 = .ok (.iinc 2 1, 3) := by decide +kernel
theorem dX12_toPages_74 : decode cX12_toPages 74 = .ok (.iconst 0, 1) := by decide +kernel
theorem dX12_toPages_75 : decode cX12_toPages 75 = .ok (.istore_n 3, 1) := by decide +kernel
theorem dX12_toPages_76 : decode cX12_toPages 76 = .ok (.iinc 5 1, 3) := by decide +kernel
theorem dX12_toPages_79 : decode cX12_toPages 79 = .ok (.goto (-60), 3) := by decide +kernel
theorem dX12_toPages_82 : decode cX12_toPages 82 = .ok (.iload_n 3, 1) := by decide +kernel
theorem dX12_toPages_83 : decode cX12_toPages 83 = .ok (.iload_n 1, 1) := by decide +kernel
theorem dX12_toPages_84 : decode cX12_toPages 84 = .ok (.if_icmp .ne 8, 3) := by decide +kernel
theorem dX12_toPages_87 : decode cX12_toPages 87 = .ok (.iinc 2 1, 3) := by decide +kernel
theorem dX12_toPages_90 : decode cX12_toPages 90 = .ok (.iconst 0, 1) := by decide +kernel
theorem dX12_toPages_91 : decode cX12_toPages 91 = .ok (.istore_n 3, 1) := by decide +kernel
theorem dX12_toPages_92 : decode cX12_toPages 92 = .ok (.aload_n 0, 1) := by decide +kernel
theorem dX12_toPages_93 : decode cX12_toPages 93 = .ok (.getfield 222, 3) := by decide +kernel
theorem dX12_toPages_96 : decode cX12_toPages 96 = .ok (.iload 4, 2) := by decide +kernel
theorem dX12_toPages_98 : decode cX12_toPages 98 = .ok (.iload_n 2, 1) := by decide +kernel
theorem dX12_toPages_99 : decode cX12_toPages 99 = .ok (.iastore, 1) := by decide +kernel
theorem dX12_toPages_100 : decode cX12_toPages 100 = .ok (.aload_n 0, 1) := by decide +kernel
theorem dX12_toPages_101 : decode cX12_toPages 101 = .ok (.getfield 225, 3) := by decide +kernel
theorem dX12_toPages_104 : decode cX12_toPages 104 = .ok (.iload 4, 2) := by decide +kernel
theorem dX12_toPages_106 : decode cX12_toPages 106 = .ok (.iload_n 3, 1) := by decide +kernel
theorem dX12_toPages_107 : decode cX12_toPages 107 = .ok (.iastore, 1) := by decide +kernel
theorem dX12_toPages_108 : decode cX12_toPages 108 = .ok (.iinc 3 1, 3) := by decide +kernel
theorem dX12_toPages_111 : decode cX12_toPages 111 = .ok (.iinc 4 1, 3) := by decide +kernel
theorem dX12_toPages_114 : decode cX12_toPages 114 = .ok (.goto (-107), 3) := by decide +kernel
theorem dX12_toPages_117 : decode cX12_toPages 117 = .ok (.aload_n 0, 1) := by decide +kernel
theorem dX12_toPages_118 : decode cX12_toPages 118 = .ok (.aload_n 0, 1) := by decide +kernel
theorem dX12_toPages_119 : decode cX12_toPages 119 = .ok (.getfield 501, 3) := by decide +kernel
theorem dX12_toPages_122 : decode cX12_toPages 122 = .ok (.ifCond .ne 7, 3) := by decide +kernel
theorem dX12_toPages_125 : decode cX12_toPages 125 = .ok (.iconst 0, 1) := by decide +kernel
theorem dX12_toPages_126 : decode cX12_toPages 126 = .ok (.goto 6, 3) := by decide +kernel
theorem dX12_toPages_129 : decode cX12_toPages 129 = .ok (.iload_n 2, 1) := by decide +kernel
theorem dX12_toPages_130 : decode cX12_toPages 130 = .ok (.iconst 1, 1) := by decide +kernel
theorem dX12_toPages_131 : decode cX12_toPages 131 = .ok (.iadd, 1) := by decide +kernel
theorem dX12_toPages_132 : decode cX12_toPages 132 = .ok (.putfield 661, 3) := by decide +kernel
theorem dX12_toPages_135 : decode cX12_toPages 135 = .ok (.return_, 1) := by decide +kernel
theorem v_X12_toPages_0 {cs : Cs} {Q : Option AV → Mm → Prop} {MI ML : Nat → Nat → Int} {d e nw th x : Nat} {l1 : Int}
    (h : wp cs mX12_toPages KD Q 7 [some (vR 124), some (vI l1), some (vI 0), some (vI 0), some (vI 0), none, none] [] (KD, MI, ML, (GR d e nw th x))) :
    wp cs mX12_toPages KD Q 0 (padL [vR 124, vI l1] 7) [] (KD, MI, ML, (GR d e nw th x)) := by
  refine wp_L (L' := [some (vR 124), some (vI l1), none, none, none, none, none]) rfl ?_
  refine wp_iconst dX12_toPages_0 (by decide) ?_
  refine wp_istore_n dX12_toPages_1 rfl (by decide) (wp_L (L' := [some (vR 124), some (vI l1), some (vI 0), none, none, none, none]) rfl ?_)
  refine wp_iconst dX12_toPages_2 (by decide) ?_
  refine wp_istore_n dX12_toPages_3 rfl (by decide) (wp_L (L' := [some (vR 124), some (vI l1), some (vI 0), some (vI 0), none, none, none]) rfl ?_)
  refine wp_iconst dX12_toPages_4 (by decide) ?_
  refine wp_istore dX12_toPages_5 (by decide) (wp_L (L' := [some (vR 124), some (vI l1), some (vI 0), some (vI 0), some (vI 0), none, none]) rfl ?_)
  exact h
theorem v_X12_toPages_7 {cs : Cs} {Q : Option AV → Mm → Prop} {MI ML : Nat → Nat → Int} {d e nw th x : Nat} {l1 l2 l3 l4 : Int}
    (h : ((l4 < (MI 124 86) → wp cs mX12_toPages KD Q 19 [some (vR 124), some (vI l1), some (vI l2), some (vI l3), some (vI l4), some (vI 0), none] [] (KD, MI, ML, (GR d e nw th x))) ∧ ((MI 124 86) ≤ l4 → (((MI 124 86) = 0 → ∀ m132, m132 = up2 MI 124 87 0 → Q none (m132, ML, (GR d e nw th x))) ∧ ((MI 124 86) ≠ 0 → (-2147483648 ≤ l2 + 1 ∧ l2 + 1 < 2147483648) ∧ ∀ m132, m132 = up2 MI 124 87 (l2 + 1) → Q none (m132, ML, (GR d e nw th x))))))) :
    wp cs mX12_toPages KD Q 7 [some (vR 124), some (vI l1), some (vI l2), some (vI l3), some (vI l4), none, none] [] (KD, MI, ML, (GR d e nw th x)) := by
  refine wp_iload dX12_toPages_7 rfl ?_
  refine wp_aload_n dX12_toPages_9 rfl rfl (by first | exact Or.inl (by decide) | exact Or.inl (by omega) | exact Or.inr (by decide) | exact Or.inr (by omega)) ?_
  refine wp_getI dX12_toPages_10 fX12_501 rfl (by decide) ?_
  refine wp_icmp_ge (tgt := 117) dX12_toPages_13 (by decide) (fun h13 => ?_) (fun h13 => ?_)
  · replace h := h.2 h13
    refine wp_aload_n dX12_toPages_117 rfl rfl (by first | exact Or.inl (by decide) | exact Or.inl (by omega) | exact Or.inr (by decide) | exact Or.inr (by omega)) ?_
    refine wp_aload_n dX12_toPages_118 rfl rfl (by first | exact Or.inl (by decide) | exact Or.inl (by omega) | exact Or.inr (by decide) | exact Or.inr (by omega)) ?_
    refine wp_getI dX12_toPages_119 fX12_501 rfl (by decide) ?_
    refine wp_if_ne (tgt := 129) dX12_toPages_122 (by decide) (fun h122 => ?_) (fun h122 => ?_)
    · replace h := h.2 h122
      refine wp_iload_n dX12_toPages_129 rfl rfl ?_
      refine wp_iconst dX12_toPages_130 (by decide) ?_
      have c0 := h.1
      replace h := h.2
      refine wp_iaddr dX12_toPages_131 c0 ?_
      refine wp_putI dX12_toPages_132 pX12_661 rfl (by decide) ?_
      refine wp_gI (fun m132 e132 => ?_)
      replace h := h m132 e132
      exact wp_vret dX12_toPages_135 rfl (fun _ => h)
    · replace h := h.1 h122
      refine wp_iconst dX12_toPages_125 (by decide) ?_
      refine wp_goto (tgt := 132) dX12_toPages_126 (by decide) ?_
      refine wp_putI dX12_toPages_132 pX12_661 rfl (by decide) ?_
      refine wp_gI (fun m132 e132 => ?_)
      replace h := h m132 e132
      exact wp_vret dX12_toPages_135 rfl (fun _ => h)
  · replace h := h.1 h13
    refine wp_iconst dX12_toPages_16 (by decide) ?_
    refine wp_istore dX12_toPages_17 (by decide) (wp_L (L' := [some (vR 124), some (vI l1), some (vI l2), some (vI l3), some (vI l4), some (vI 0), none]) rfl ?_)
    exact h
theorem v_X12_toPages_19 {cs : Cs} {Q : Option AV → Mm → Prop} {MI ML : Nat → Nat → Int} {d e nw th x : Nat} {l1 l2 l3 l4 l5 : Int}
    (h : ((l5 < (MI 124 95) → (0 ≤ l5 ∧ l5 < 600) ∧ (-2147483648 ≤ (MI 197 l5.toNat) - (MI 196 l5.toNat) ∧ (MI 197 l5.toNat) - (MI 196 l5.toNat) < 2147483648) ∧ (((MI 196 l5.toNat) = l4 → ((l1 < ((MI 197 l5.toNat) - (MI 196 l5.toNat)) → (-2147483648 ≤ l5 + 1 ∧ l5 + 1 < 2147483648) ∧ wp cs mX12_toPages KD Q 19 [some (vR 124), some (vI l1), some (vI l2), some (vI l3), some (vI l4), some (vI (l5 + 1)), none] [] (KD, MI, ML, (GR d e nw th x))) ∧ (((MI 197 l5.toNat) - (MI 196 l5.toNat)) ≤ l1 → (-2147483648 ≤ l3 + ((MI 197 l5.toNat) - (MI 196 l5.toNat)) ∧ l3 + ((MI 197 l5.toNat) - (MI 196 l5.toNat)) < 2147483648) ∧ ((l1 < (l3 + ((MI 197 l5.toNat) - (MI 196 l5.toNat))) → (-2147483648 ≤ l2 + 1 ∧ l2 + 1 < 2147483648) ∧ (-2147483648 ≤ l5 + 1 ∧ l5 + 1 < 2147483648) ∧ wp cs mX12_toPages KD Q 19 [some (vR 124), some (vI l1), some (vI (l2 + 1)), some (vI 0), some (vI l4), some (vI (l5 + 1)), none] [] (KD, MI, ML, (GR d e nw th x))) ∧ ((l3 + ((MI 197 l5.toNat) - (MI 196 l5.toNat))) ≤ l1 → (-2147483648 ≤ l5 + 1 ∧ l5 + 1 < 2147483648) ∧ wp cs mX12_toPages KD Q 19 [some (vR 124), some (vI l1), some (vI l2), some (vI l3), some (vI l4), some (vI (l5 + 1)), none] [] (KD, MI, ML, (GR d e nw th x))))))) ∧ ((MI 196 l5.toNat) ≠ l4 → (-2147483648 ≤ l5 + 1 ∧ l5 + 1 < 2147483648) ∧ wp cs mX12_toPages KD Q 19 [some (vR 124), some (vI l1), some (vI l2), some (vI l3), some (vI l4), some (vI (l5 + 1)), none] [] (KD, MI, ML, (GR d e nw th x))))) ∧ ((MI 124 95) ≤ l5 → ((l3 = l1 → (-2147483648 ≤ l2 + 1 ∧ l2 + 1 < 2147483648) ∧ (0 ≤ l4 ∧ l4 < 4000) ∧ ∀ m99, m99 = up2 MI 193 l4.toNat (l2 + 1) → ∀ m107, m107 = up2 m99 194 l4.toNat 0 → (-2147483648 ≤ l4 + 1 ∧ l4 + 1 < 2147483648) ∧ wp cs mX12_toPages KD Q 7 [some (vR 124), some (vI l1), some (vI (l2 + 1)), some (vI 1), some (vI (l4 + 1)), none, none] [] (KD, m107, ML, (GR d e nw th x))) ∧ (l3 ≠ l1 → (0 ≤ l4 ∧ l4 < 4000) ∧ ∀ m99, m99 = up2 MI 193 l4.toNat l2 → ∀ m107, m107 = up2 m99 194 l4.toNat l3 → (-2147483648 ≤ l3 + 1 ∧ l3 + 1 < 2147483648) ∧ (-2147483648 ≤ l4 + 1 ∧ l4 + 1 < 2147483648) ∧ wp cs mX12_toPages KD Q 7 [some (vR 124), some (vI l1), some (vI l2), some (vI (l3 + 1)), some (vI (l4 + 1)), none, none] [] (KD, m107, ML, (GR d e nw th x))))))) :
    wp cs mX12_toPages KD Q 19 [some (vR 124), some (vI l1), some (vI l2), some (vI l3), some (vI l4), some (vI l5), none] [] (KD, MI, ML, (GR d e nw th x)) := by
  refine wp_iload dX12_toPages_19 rfl ?_
  refine wp_aload_n dX12_toPages_21 rfl rfl (by first | exact Or.inl (by decide) | exact Or.inl (by omega) | exact Or.inr (by decide) | exact Or.inr (by omega)) ?_
  refine wp_getI dX12_toPages_22 fX12_639 rfl (by decide) ?_
  refine wp_icmp_ge (tgt := 82) dX12_toPages_25 (by decide) (fun h25 => ?_) (fun h25 => ?_)
  · replace h := h.2 h25
    refine wp_iload_n dX12_toPages_82 rfl rfl ?_
    refine wp_iload_n dX12_toPages_83 rfl rfl ?_
    refine wp_icmp_ne (tgt := 92) dX12_toPages_84 (by decide) (fun h84 => ?_) (fun h84 => ?_)
    · replace h := h.2 h84
      refine wp_aload_n dX12_toPages_92 rfl rfl (by first | exact Or.inl (by decide) | exact Or.inl (by omega) | exact Or.inr (by decide) | exact Or.inr (by omega)) ?_
      refine wp_getR dX12_toPages_93 fX12_222 rfl (by decide) ?_
      refine wp_topR (x' := 193) rfl ?_
      refine wp_iload dX12_toPages_96 rfl ?_
      refine wp_iload_n dX12_toPages_98 rfl rfl ?_
      have c0 := h.1
      replace h := h.2
      refine wp_iast dX12_toPages_99 rfl (by decide) c0 ?_
      refine wp_gI (fun m99 e99 => ?_)
      replace h := h m99 e99
      refine wp_aload_n dX12_toPages_100 rfl rfl (by first | exact Or.inl (by decide) | exact Or.inl (by omega) | exact Or.inr (by decide) | exact Or.inr (by omega)) ?_
      refine wp_getR dX12_toPages_101 fX12_225 rfl (by decide) ?_
      refine wp_topR (x' := 194) rfl ?_
      refine wp_pc (pc' := 104) rfl ?_
      refine wp_iload dX12_toPages_104 rfl ?_
      refine wp_iload_n dX12_toPages_106 rfl rfl ?_
      refine wp_iast dX12_toPages_107 rfl (by decide) c0 ?_
      refine wp_gI (fun m107 e107 => ?_)
      replace h := h m107 e107
      have c1 := h.1
      replace h := h.2
      refine wp_iincr dX12_toPages_108 rfl (by decide) c1 (wp_L (L' := [some (vR 124), some (vI l1), some (vI l2), some (vI (l3 + 1)), some (vI l4), some (vI l5), none]) rfl ?_)
      have c2 := h.1
      replace h := h.2
      refine wp_iincr dX12_toPages_111 rfl (by decide) c2 (wp_L (L' := [some (vR 124), some (vI l1), some (vI l2), some (vI (l3 + 1)), some (vI (l4 + 1)), some (vI l5), none]) rfl ?_)
      refine wp_goto (tgt := 7) dX12_toPages_114 (by decide) ?_
      refine wp_forget (L' := [some (vR 124), some (vI l1), some (vI l2), some (vI (l3 + 1)), some (vI (l4 + 1)), none, none]) (by repeat' (first | exact trivial | refine ⟨rfl, ?_⟩)) ?_
      exact h
    · replace h := h.1 h84
      have c0 := h.1
      replace h := h.2
      refine wp_iincr dX12_toPages_87 rfl (by decide) c0 (wp_L (L' := [some (vR 124), some (vI l1), some (vI (l2 + 1)), some (vI l3), some (vI l4), some (vI l5), none]) rfl ?_)
      refine wp_iconst dX12_toPages_90 (by decide) ?_
      refine wp_istore_n dX12_toPages_91 rfl (by decide) (wp_L (L' := [some (vR 124), some (vI l1), some (vI (l2 + 1)), some (vI 0), some (vI l4), some (vI l5), none]) rfl ?_)
      refine wp_aload_n dX12_toPages_92 rfl rfl (by first | exact Or.inl (by decide) | exact Or.inl (by omega) | exact Or.inr (by decide) | exact Or.inr (by omega)) ?_
      refine wp_getR dX12_toPages_93 fX12_222 rfl (by decide) ?_
      refine wp_topR (x' := 193) rfl ?_
      refine wp_iload dX12_toPages_96 rfl ?_
      refine wp_iload_n dX12_toPages_98 rfl rfl ?_
      refine wp_pc (pc' := 99) rfl ?_
      have c1 := h.1
      replace h := h.2
      refine wp_iast dX12_toPages_99 rfl (by decide) c1 ?_
      refine wp_gI (fun m99 e99 => ?_)
      replace h := h m99 e99
      refine wp_aload_n dX12_toPages_100 rfl rfl (by first | exact Or.inl (by decide) | exact Or.inl (by omega) | exact Or.inr (by decide) | exact Or.inr (by omega)) ?_
      refine wp_getR dX12_toPages_101 fX12_225 rfl (by decide) ?_
      refine wp_topR (x' := 194) rfl ?_
      refine wp_iload dX12_toPages_104 rfl ?_
      refine wp_iload_n dX12_toPages_106 rfl rfl ?_
      refine wp_iast dX12_toPages_107 rfl (by decide) c1 ?_
      refine wp_gI (fun m107 e107 => ?_)
      replace h := h m107 e107
      refine wp_iincr dX12_toPages_108 rfl (by decide) (by decide) (wp_L (L' := [some (vR 124), some (vI l1), some (vI (l2 + 1)), some (vI 1), some (vI l4), some (vI l5), none]) rfl ?_)
      have c2 := h.1
      replace h := h.2
      refine wp_iincr dX12_toPages_111 rfl (by decide) c2 (wp_L (L' := [some (vR 124), some (vI l1), some (vI (l2 + 1)), some (vI 1), some (vI (l4 + 1)), some (vI l5), none]) rfl ?_)
      refine wp_pc (pc' := 114) rfl ?_
      refine wp_goto (tgt := 7) dX12_toPages_114 (by decide) ?_
      refine wp_forget (L' := [some (vR 124), some (vI l1), some (vI (l2 + 1)), some (vI 1), some (vI (l4 + 1)), none, none]) (by repeat' (first | exact trivial | refine ⟨rfl, ?_⟩)) ?_
      exact h
  · replace h := h.1 h25
    refine wp_aload_n dX12_toPages_28 rfl rfl (by first | exact Or.inl (by decide) | exact Or.inl (by omega) | exact Or.inr (by decide) | exact Or.inr (by omega)) ?_
    refine wp_getR dX12_toPages_29 fX12_234 rfl (by decide) ?_
    refine wp_topR (x' := 197) rfl ?_
    refine wp_iload dX12_toPages_32 rfl ?_
    have c0 := h.1
    replace h := h.2
    refine wp_iald dX12_toPages_34 rfl (by decide) c0 ?_
    refine wp_aload_n dX12_toPages_35 rfl rfl (by first | exact Or.inl (by decide) | exact Or.inl (by omega) | exact Or.inr (by decide) | exact Or.inr (by omega)) ?_
    refine wp_getR dX12_toPages_36 fX12_231 rfl (by decide) ?_
    refine wp_topR (x' := 196) rfl ?_
    refine wp_iload dX12_toPages_39 rfl ?_
    refine wp_pc (pc' := 41) rfl ?_
    refine wp_iald dX12_toPages_41 rfl (by decide) c0 ?_
    have c1 := h.1
    replace h := h.2
    refine wp_isubr dX12_toPages_42 c1 ?_
    refine wp_istore dX12_toPages_43 (by decide) (wp_L (L' := [some (vR 124), some (vI l1), some (vI l2), some (vI l3), some (vI l4), some (vI l5), some (vI ((MI 197 l5.toNat) - (MI 196 l5.toNat)))]) rfl ?_)
    refine wp_aload_n dX12_toPages_45 rfl rfl (by first | exact Or.inl (by decide) | exact Or.inl (by omega) | exact Or.inr (by decide) | exact Or.inr (by omega)) ?_
    refine wp_getR dX12_toPages_46 fX12_231 rfl (by decide) ?_
    refine wp_topR (x' := 196) rfl ?_
    refine wp_iload dX12_toPages_49 rfl ?_
    refine wp_iald dX12_toPages_51 rfl (by decide) c0 ?_
    refine wp_iload dX12_toPages_52 rfl ?_
    refine wp_pc (pc' := 54) rfl ?_
    refine wp_icmp_ne (tgt := 76) dX12_toPages_54 (by decide) (fun h54 => ?_) (fun h54 => ?_)
    · replace h := h.2 h54
      have c2 := h.1
      replace h := h.2
      refine wp_iincr dX12_toPages_76 rfl (by decide) c2 (wp_L (L' := [some (vR 124), some (vI l1), some (vI l2), some (vI l3), some (vI l4), some (vI (l5 + 1)), some (vI ((MI 197 l5.toNat) - (MI 196 l5.toNat)))]) rfl ?_)
      refine wp_goto (tgt := 19) dX12_toPages_79 (by decide) ?_
      refine wp_forget (L' := [some (vR 124), some (vI l1), some (vI l2), some (vI l3), some (vI l4), some (vI (l5 + 1)), none]) (by repeat' (first | exact trivial | refine ⟨rfl, ?_⟩)) ?_
      exact h
    · replace h := h.1 h54
      refine wp_iload dX12_toPages_57 rfl ?_
      refine wp_iload_n dX12_toPages_59 rfl rfl ?_
      refine wp_icmp_gt (tgt := 76) dX12_toPages_60 (by decide) (fun h60 => ?_) (fun h60 => ?_)
      · replace h := h.1 h60
        have c2 := h.1
        replace h := h.2
        refine wp_iincr dX12_toPages_76 rfl (by decide) c2 (wp_L (L' := [some (vR 124), some (vI l1), some (vI l2), some (vI l3), some (vI l4), some (vI (l5 + 1)), some (vI ((MI 197 l5.toNat) - (MI 196 l5.toNat)))]) rfl ?_)
        refine wp_goto (tgt := 19) dX12_toPages_79 (by decide) ?_
        refine wp_forget (L' := [some (vR 124), some (vI l1), some (vI l2), some (vI l3), some (vI l4), some (vI (l5 + 1)), none]) (by repeat' (first | exact trivial | refine ⟨rfl, ?_⟩)) ?_
        exact h
      · replace h := h.2 h60
        refine wp_iload_n dX12_toPages_63 rfl rfl ?_
        refine wp_iload dX12_toPages_64 rfl ?_
        have c2 := h.1
        replace h := h.2
        refine wp_iaddr dX12_toPages_66 c2 ?_
        refine wp_iload_n dX12_toPages_67 rfl rfl ?_
        refine wp_icmp_le (tgt := 76) dX12_toPages_68 (by decide) (fun h68 => ?_) (fun h68 => ?_)
        · replace h := h.2 h68
          have c3 := h.1
          replace h := h.2
          refine wp_iincr dX12_toPages_76 rfl (by decide) c3 (wp_L (L' := [some (vR 124), some (vI l1), some (vI l2), some (vI l3), some (vI l4), some (vI (l5 + 1)), some (vI ((MI 197 l5.toNat) - (MI 196 l5.toNat)))]) rfl ?_)
          refine wp_goto (tgt := 19) dX12_toPages_79 (by decide) ?_
          refine wp_forget (L' := [some (vR 124), some (vI l1), some (vI l2), some (vI l3), some (vI l4), some (vI (l5 + 1)), none]) (by repeat' (first | exact trivial | refine ⟨rfl, ?_⟩)) ?_
          exact h
        · replace h := h.1 h68
          have c3 := h.1
          replace h := h.2
          refine wp_iincr dX12_toPages_71 rfl (by decide) c3 (wp_L (L' := [some (vR 124), some (vI l1), some (vI (l2 + 1)), some (vI l3), some (vI l4), some (vI l5), some (vI ((MI 197 l5.toNat) - (MI 196 l5.toNat)))]) rfl ?_)
          refine wp_iconst dX12_toPages_74 (by decide) ?_
          refine wp_istore_n dX12_toPages_75 rfl (by decide) (wp_L (L' := [some (vR 124), some (vI l1), some (vI (l2 + 1)), some (vI 0), some (vI l4), some (vI l5), some (vI ((MI 197 l5.toNat) - (MI 196 l5.toNat)))]) rfl ?_)
          have c4 := h.1
          replace h := h.2
          refine wp_iincr dX12_toPages_76 rfl (by decide) c4 (wp_L (L' := [some (vR 124), some (vI l1), some (vI (l2 + 1)), some (vI 0), some (vI l4), some (vI (l5 + 1)), some (vI ((MI 197 l5.toNat) - (MI 196 l5.toNat)))]) rfl ?_)
          refine wp_goto (tgt := 19) dX12_toPages_79 (by decide) ?_
          refine wp_forget (L' := [some (vR 124), some (vI l1), some (vI (l2 + 1)), some (vI 0), some (vI l4), some (vI (l5 + 1)), none]) (by repeat' (first | exact trivial | refine ⟨rfl, ?_⟩)) ?_
          exact h
theorem dX12_set_0 : decode cX12_set 0 = .ok (.aload_n 0, 1) := by decide +kernel
theorem dX12_set_1 : decode cX12_set 1 = .ok (.getfield 498, 3) := by decide +kernel
theorem dX12_set_4 : decode cX12_set 4 = .ok (.ifCond .eq 27, 3) := by decide +kernel
theorem dX12_set_7 : decode cX12_set 7 = .ok (.iload_n 1, 1) := by decide +kernel
theorem dX12_set_8 : decode cX12_set 8 = .ok (.i2l, 1) := by decide +kernel
theorem dX12_set_9 : decode cX12_set 9 = .ok (.lconst 1, 1) := by decide +kernel
theorem dX12_set_10 : decode cX12_set 10 = .ok (.ldc2_w 642, 3) := by decide +kernel
theorem dX12_set_13 : decode cX12_set 13 = .ok (.invokestatic 256, 3) := by decide +kernel
theorem dX12_set_16 : decode cX12_set 16 = .ok (.ifCond .eq 15, 3) := by decide +kernel
theorem dX12_set_19 : decode cX12_set 19 = .ok (.iload_n 2, 1) := by decide +kernel
theorem dX12_set_20 : decode cX12_set 20 = .ok (.i2l, 1) := by decide +kernel
theorem dX12_set_21 : decode cX12_set 21 = .ok (.lconst 1, 1) := by decide +kernel
theorem dX12_set_22 : decode cX12_set 22 = .ok (.ldc2_w 644, 3) := by decide +kernel
theorem dX12_set_25 : decode cX12_set 25 = .ok (.invokestatic 256, 3) := by decide +kernel
theorem dX12_set_28 : decode cX12_set 28 = .ok (.ifCond .ne 6, 3) := by decide +kernel
theorem dX12_set_31 : decode cX12_set 31 = .ok (.bipush (-9), 2) := by decide +kernel
theorem dX12_set_33 : decode cX12_set 33 = .ok (.ireturn, 1) := by decide +kernel
theorem dX12_set_34 : decode cX12_set 34 = .ok (.aload_n 0, 1) := by decide +kernel
theorem dX12_set_35 : decode cX12_set 35 = .ok (.iload_n 1, 1) := by decide +kernel
theorem dX12_set_36 : decode cX12_set 36 = .ok (.putfield 624, 3) := by decide +kernel
theorem dX12_set_39 : decode cX12_set 39 = .ok (.aload_n 0, 1) := by decide +kernel
theorem dX12_set_40 : decode cX12_set 40 = .ok (.iconst 0, 1) := by decide +kernel
theorem dX12_set_41 : decode cX12_set 41 = .ok (.putfield 501, 3) := by decide +kernel
theorem dX12_set_44 : decode cX12_set 44 = .ok (.aload_n 0, 1) := by decide +kernel
theorem dX12_set_45 : decode cX12_set 45 = .ok (.getfield 219, 3) := by decide +kernel
theorem dX12_set_48 : decode cX12_set 48 = .ok (.iconst 0, 1) := by decide +kernel
theorem dX12_set_49 : decode cX12_set 49 = .ok (.iconst 0, 1) := by decide +kernel
theorem dX12_set_50 : decode cX12_set 50 = .ok (.iastore, 1) := by decide +kernel
theorem dX12_set_51 : decode cX12_set 51 = .ok (.aload_n 0, 1) := by decide +kernel
theorem dX12_set_52 : decode cX12_set 52 = .ok (.iconst 0, 1) := by decide +kernel
theorem dX12_set_53 : decode cX12_set 53 = .ok (.putfield 618, 3) := by decide +kernel
theorem dX12_set_56 : decode cX12_set 56 = .ok (.aload_n 0, 1) := by decide +kernel
theorem dX12_set_57 : decode cX12_set 57 = .ok (.iconst 0, 1) := by decide +kernel
theorem dX12_set_58 : decode cX12_set 58 = .ok (.putfield 621, 3) := by decide +kernel
theorem dX12_set_61 : decode cX12_set 61 = .ok (.aload_n 0, 1) := by decide +kernel
theorem dX12_set_62 : decode cX12_set 62 = .ok (.iconst 0, 1) := by decide +kernel
theorem dX12_set_63 : decode cX12_set 63 = .ok (.putfield 639, 3) := by decide +kernel
theorem dX12_set_66 : decode cX12_set 66 = .ok (.iconst 0, 1) := by decide +kernel
theorem dX12_set_67 : decode cX12_set 67 = .ok (.istore_n 3, 1) := by decide +kernel
theorem dX12_set_68 : decode cX12_set 68 = .ok (.iconst 1, 1) := by decide +kernel
theorem dX12_set_69 : decode cX12_set 69 = .ok (.istore 4, 2) := by decide +kernel
theorem dX12_set_71 : decode cX12_set 71 = .ok (.iload 4, 2) := by decide +kernel
theorem dX12_set_73 : decode cX12_set 73 = .ok (.aload_n 0, 1) := by decide +kernel
theorem dX12_set_74 : decode cX12_set 74 = .ok (.getfield 27, 3) := by decide +kernel
theorem dX12_set_77 : decode cX12_set 77 = .ok (.aload_n 0, 1) := by decide +kernel
theorem dX12_set_78 : decode cX12_set 78 = .ok (.getfield 482, 3) := by decide +kernel
theorem dX12_set_81 : decode cX12_set 81 = .ok (.iaload, 1) := by decide +kernel
theorem dX12_set_82 : decode cX12_set 82 = .ok (.if_icmp .ge 73, 3) := by decide +kernel
theorem dX12_set_85 : decode cX12_set 85 = .ok (.sipush 600, 3) := by decide +kernel
theorem dX12_set_88 : decode cX12_set 88 = .ok (.aload_n 0, 1) := by decide +kernel
theorem dX12_set_89 : decode cX12_set 89 = .ok (.getfield 482, 3) := by decide +kernel
theorem dX12_set_92 : decode cX12_set 92 = .ok (.imul, 1) := by decide +kernel
theorem dX12_set_93 : decode cX12_set 93 = .ok (.iload 4, 2) := by decide +kernel
theorem dX12_set_95 : decode cX12_set 95 = .ok (.iadd, 1) := by decide +kernel
theorem dX12_set_96 : decode cX12_set 96 = .ok (.istore 5, 2) := by decide +kernel
theorem dX12_set_98 : decode cX12_set 98 = .ok (.aload_n 0, 1) := by decide +kernel
theorem dX12_set_99 : decode cX12_set 99 = .ok (.getfield 31, 3) := by decide +kernel
theorem dX12_set_102 : decode cX12_set 102 = .ok (.iload 5, 2) := by decide +kernel
theorem dX12_set_104 : decode cX12_set 104 = .ok (.iaload, 1) := by decide +kernel
theorem dX12_set_105 : decode cX12_set 105 = .ok (.iconst 2, 1) := by decide +kernel
theorem dX12_set_106 : decode cX12_set 106 = .ok (.if_icmp .ne 6, 3) := by decide +kernel
theorem dX12_set_109 : decode cX12_set 109 = .ok (.goto 40, 3) := by decide +kernel
theorem dX12_set_112 : decode cX12_set 112 = .ok (.aload_n 0, 1) := by decide +kernel
theorem dX12_set_113 : decode cX12_set 113 = .ok (.iload_n 3, 1) := by decide +kernel
theorem dX12_set_114 : decode cX12_set 114 = .ok (.iload 4, 2) := by decide +kernel
theorem dX12_set_116 : decode cX12_set 116 = .ok (.invokevirtual 646, 3) := by decide +kernel
theorem dX12_set_119 : decode cX12_set 119 = .ok (.istore_n 3, 1) := by decide +kernel
theorem dX12_set_120 : decode cX12_set 120 = .ok (.aload_n 0, 1) := by decide +kernel
theorem dX12_set_121 : decode cX12_set 121 = .ok (.getfield 31, 3) := by decide +kernel
theorem dX12_set_124 : decode cX12_set 124 = .ok (.iload 5, 2) := by decide +kernel
theorem dX12_set_126 : decode cX12_set 126 = .ok (.iaload, 1) := by decide +kernel
theorem dX12_set_127 : decode cX12_set 127 = .ok (.iconst 1, 1) := by decide +kernel
theorem dX12_set_128 : decode cX12_set 128 = .ok (.if_icmp .ne 15, 3) := by decide +kernel
theorem dX12_set_131 : decode cX12_set 131 = .ok (.iload 4, 2) := by decide +kernel
theorem dX12_set_133 : decode cX12_set 133 = .ok (.istore_n 3, 1) := by decide +kernel
theorem dX12_set_134 : decode cX12_set 134 = .ok (.aload_n 0, 1) := by decide +kernel
theorem dX12_set_135 : decode cX12_set 135 = .ok (.iload 4, 2) := by decide +kernel
theorem dX12_set_137 : decode cX12_set 137 = .ok (.invokevirtual 649, 3) := by decide +kernel
theorem dX12_set_140 : decode cX12_set 140 = .ok (.goto 9, 3) := by decide +kernel
theorem dX12_set_143 : decode cX12_set 143 = .ok (.aload_n 0, 1) := by decide +kernel
theorem dX12_set_144 : decode cX12_set 144 = .ok (.iload 4, 2) := by decide +kernel
theorem dX12_set_146 : decode cX12_set 146 = .ok (.invokevirtual 652, 3) := by decide +kernel
theorem dX12_set_149 : decode cX12_set 149 = .ok (.iinc 4 1, 3) := by decide +kernel
theorem dX12_set_152 : decode cX12_set 152 = .ok (.goto (-81), 3) := by decide +kernel
theorem dX12_set_155 : decode cX12_set 155 = .ok (.aload_n 0, 1) := by decide +kernel
theorem dX12_set_156 : decode cX12_set 156 = .ok (.iload_n 3, 1) := by decide +kernel
theorem dX12_set_157 : decode cX12_set 157 = .ok (.iconst 0, 1) := by decide +kernel
theorem dX12_set_158 : decode cX12_set 158 = .ok (.invokevirtual 646, 3) := by decide +kernel
theorem dX12_set_161 : decode cX12_set 161 = .ok (.istore_n 3, 1) := by decide +kernel
theorem dX12_set_162 : decode cX12_set 162 = .ok (.aload_n 0, 1) := by decide +kernel
theorem dX12_set_163 : decode cX12_set 163 = .ok (.invokevirtual 636, 3) := by decide +kernel
theorem dX12_set_166 : decode cX12_set 166 = .ok (.aload_n 0, 1) := by decide +kernel
theorem dX12_set_167 : decode cX12_set 167 = .ok (.invokevirtual 630, 3) := by decide +kernel
theorem dX12_set_170 : decode cX12_set 170 = .ok (.aload_n 0, 1) := by decide +kernel
theorem dX12_set_171 : decode cX12_set 171 = .ok (.iload_n 2, 1) := by decide +kernel
theorem dX12_set_172 : decode cX12_set 172 = .ok (.invokevirtual 655, 3) := by decide +kernel
theorem dX12_set_175 : decode cX12_set 175 = .ok (.aload_n 0, 1) := by decide +kernel
theorem dX12_set_176 : decode cX12_set 176 = .ok (.getfield 501, 3) := by decide +kernel
theorem dX12_set_179 : decode cX12_set 179 = .ok (.ireturn, 1) := by decide +kernel
theorem v_X12_set_0 {cs : Cs} {Q : Option AV → Mm → Prop} {MI ML : Nat → Nat → Int} {d e nw th x : Nat} {l1 l2 : Int}
    (h : (((MI 124 9) = 0 → Q (some (vI (-9))) (MI, ML, (GR d e nw th x))) ∧ ((MI 124 9) ≠ 0 → wp cs mX12_in KD (rI (GR d e nw th x) fun x13 m13 n13 => ((x13 = 0 → Q (some (vI (-9))) (m13, n13, (GR d e nw th x))) ∧ (x13 ≠ 0 → wp cs mX12_in KD (rI (GR d e nw th x) fun x25 m25 n25 => ((x25 = 0 → Q (some (vI (-9))) (m25, n25, (GR d e nw th x))) ∧ (x25 ≠ 0 → ∀ m36, m36 = up2 m25 124 100 l1 → ∀ m41, m41 = up2 m36 124 86 0 → ∀ m50, m50 = up2 m41 192 0 0 → ∀ m53, m53 = up2 m50 124 99 0 → ∀ m58, m58 = up2 m53 124 98 0 → ∀ m63, m63 = up2 m58 124 95 0 → wp cs mX12_set KD Q 71 [some (vR 124), some (vI l1), some (vI l2), some (vI 0), some (vI 1), none] [] (KD, m63, n25, (GR d e nw th x))))) 0 (padL [vL l2, vL 1, vL 50] 6) [] (KD, m13, n13, (GR d e nw th x))))) 0 (padL [vL l1, vL 1, vL 60] 6) [] (KD, MI, ML, (GR d e nw th x))))) :
    wp cs mX12_set KD Q 0 (padL [vR 124, vI l1, vI l2] 6) [] (KD, MI, ML, (GR d e nw th x)) := by
  refine wp_L (L' := [some (vR 124), some (vI l1), some (vI l2), none, none, none]) rfl ?_
  refine wp_aload_n dX12_set_0 rfl rfl (by first | exact Or.inl (by decide) | exact Or.inl (by omega) | exact Or.inr (by decide) | exact Or.inr (by omega)) ?_
  refine wp_getI dX12_set_1 fX12_498 rfl (by decide) ?_
  refine wp_if_eq (tgt := 31) dX12_set_4 (by decide) (fun h4 => ?_) (fun h4 => ?_)
  · replace h := h.1 h4
    refine wp_bipush dX12_set_31 (by decide +kernel) (by decide) ?_
    exact wp_iret dX12_set_33 rfl (fun _ => h)
  · replace h := h.2 h4
    refine wp_iload_n dX12_set_7 rfl rfl ?_
    refine wp_i2l dX12_set_8 ?_
    refine wp_lconst (z := 1) dX12_set_9 (by decide +kernel) (by decide) ?_
    refine wp_ldc2 (x := 60) dX12_set_10 cX12_642 (by decide) ?_
    refine wp_cSq (n := 3) (mt' := mX12_in) (as := [vL l1, vL 1, vL 60]) (rest := []) _ dX12_set_13 lX12_256 kX12_in vX12_in (by decide) (by decide +kernel) rfl (Nat.le_of_ble_eq_true rfl) rfl (Nat.le_of_ble_eq_true rfl) (fun hM hS => h) (fun r M' hq hM => ?_)
    obtain ⟨x13, m13, n13, rfl, rfl, h⟩ := rI_out hq
    refine wp_if_eq (tgt := 31) dX12_set_16 (by decide) (fun h16 => ?_) (fun h16 => ?_)
    · replace h := h.1 h16
      refine wp_bipush dX12_set_31 (by decide +kernel) (by decide) ?_
      exact wp_iret dX12_set_33 rfl (fun _ => h)
    · replace h := h.2 h16
      refine wp_iload_n dX12_set_19 rfl rfl ?_
      refine wp_i2l dX12_set_20 ?_
      refine wp_lconst (z := 1) dX12_set_21 (by decide +kernel) (by decide) ?_
      refine wp_ldc2 (x := 50) dX12_set_22 cX12_644 (by decide) ?_
      refine wp_cSq (n := 3) (mt' := mX12_in) (as := [vL l2, vL 1, vL 50]) (rest := []) _ dX12_set_25 lX12_256 kX12_in vX12_in (by decide) (by decide +kernel) rfl (Nat.le_of_ble_eq_true rfl) rfl (Nat.le_of_ble_eq_true rfl) (fun hM hS => h) (fun r M' hq hM => ?_)
      obtain ⟨x25, m25, n25, rfl, rfl, h⟩ := rI_out hq
      refine wp_if_ne (tgt := 34) dX12_set_28 (by decide) (fun h28 => ?_) (fun h28 => ?_)
      · replace h := h.2 h28
        refine wp_aload_n dX12_set_34 rfl rfl (by first | exact Or.inl (by decide) | exact Or.inl (by omega) | exact Or.inr (by decide) | exact Or.inr (by omega)) ?_
        refine wp_iload_n dX12_set_35 rfl rfl ?_
        refine wp_putI dX12_set_36 pX12_624 rfl (by decide) ?_
        refine wp_gI (fun m36 e36 => ?_)
        replace h := h m36 e36
        refine wp_aload_n dX12_set_39 rfl rfl (by first | exact Or.inl (by decide) | exact Or.inl (by omega) | exact Or.inr (by decide) | exact Or.inr (by omega)) ?_
        refine wp_iconst dX12_set_40 (by decide) ?_
        refine wp_putI dX12_set_41 pX12_501 rfl (by decide) ?_
        refine wp_gI (fun m41 e41 => ?_)
        replace h := h m41 e41
        refine wp_aload_n dX12_set_44 rfl rfl (by first | exact Or.inl (by decide) | exact Or.inl (by omega) | exact Or.inr (by decide) | exact Or.inr (by omega)) ?_
        refine wp_pc (pc' := 45) rfl ?_
        refine wp_getR dX12_set_45 fX12_219 rfl (by decide) ?_
        refine wp_topR (x' := 192) rfl ?_
        refine wp_iconst dX12_set_48 (by decide) ?_
        refine wp_iconst dX12_set_49 (by decide) ?_
        refine wp_iast dX12_set_50 rfl (by decide) (by decide) ?_
        refine wp_gI (fun m50 e50 => ?_)
        replace h := h m50 e50
        refine wp_aload_n dX12_set_51 rfl rfl (by first | exact Or.inl (by decide) | exact Or.inl (by omega) | exact Or.inr (by decide) | exact Or.inr (by omega)) ?_
        refine wp_iconst dX12_set_52 (by decide) ?_
        refine wp_putZ dX12_set_53 pX12_618 rfl (by decide) (by decide) ?_
        refine wp_gI (fun m53 e53 => ?_)
        replace h := h m53 e53
        refine wp_aload_n dX12_set_56 rfl rfl (by first | exact Or.inl (by decide) | exact Or.inl (by omega) | exact Or.inr (by decide) | exact Or.inr (by omega)) ?_
        refine wp_pc (pc' := 57) rfl ?_
        refine wp_iconst dX12_set_57 (by decide) ?_
        refine wp_putI dX12_set_58 pX12_621 rfl (by decide) ?_
        refine wp_gI (fun m58 e58 => ?_)
        replace h := h m58 e58
        refine wp_aload_n dX12_set_61 rfl rfl (by first | exact Or.inl (by decide) | exact Or.inl (by omega) | exact Or.inr (by decide) | exact Or.inr (by omega)) ?_
        refine wp_iconst dX12_set_62 (by decide) ?_
        refine wp_putI dX12_set_63 pX12_639 rfl (by decide) ?_
        refine wp_gI (fun m63 e63 => ?_)
        replace h := h m63 e63
        refine wp_iconst dX12_set_66 (by decide) ?_
        refine wp_istore_n dX12_set_67 rfl (by decide) (wp_L (L' := [some (vR 124), some (vI l1), some (vI l2), some (vI 0), none, none]) rfl ?_)
        refine wp_iconst dX12_set_68 (by decide) ?_
        refine wp_pc (pc' := 69) rfl ?_
        refine wp_istore dX12_set_69 (by decide) (wp_L (L' := [some (vR 124), some (vI l1), some (vI l2), some (vI 0), some (vI 1), none]) rfl ?_)
        exact h
      · replace h := h.1 h28
        refine wp_bipush dX12_set_31 (by decide +kernel) (by decide) ?_
        exact wp_iret dX12_set_33 rfl (fun _ => h)
theorem v_X12_set_71 {cs : Cs} {Q : Option AV → Mm → Prop} {MI ML : Nat → Nat → Int} {d e nw th x : Nat} {l1 l2 l3 l4 : Int}
    (h : (0 ≤ (MI 124 7) ∧ (MI 124 7) < 2) ∧ ((l4 < (MI 129 (MI 124 7).toNat) → (-2147483648 ≤ 600 * (MI 124 7) ∧ 600 * (MI 124 7) < 2147483648) ∧ (-2147483648 ≤ (600 * (MI 124 7)) + l4 ∧ (600 * (MI 124 7)) + l4 < 2147483648) ∧ (0 ≤ ((600 * (MI 124 7)) + l4) ∧ ((600 * (MI 124 7)) + l4) < 1200) ∧ (((MI 130 ((600 * (MI 124 7)) + l4).toNat) = 2 → (-2147483648 ≤ l4 + 1 ∧ l4 + 1 < 2147483648) ∧ wp cs mX12_set KD Q 71 [some (vR 124), some (vI l1), some (vI l2), some (vI l3), some (vI (l4 + 1)), none] [] (KD, MI, ML, (GR d e nw th x))) ∧ ((MI 130 ((600 * (MI 124 7)) + l4).toNat) ≠ 2 → wp cs mX12_leave KD (rI (GR d e nw th x) fun x116 m116 n116 => (((m116 130 ((600 * (MI 124 7)) + l4).toNat) = 1 → wp cs mX12_beginElement KD (rV (GR d e nw th x) fun m137 n137 => (-2147483648 ≤ l4 + 1 ∧ l4 + 1 < 2147483648) ∧ wp cs mX12_set KD Q 71 [some (vR 124), some (vI l1), some (vI l2), some (vI l4), some (vI (l4 + 1)), none] [] (KD, m137, n137, (GR d e nw th x))) 0 (padL [vR 124, vI l4] 2) [] (KD, m116, n116, (GR d e nw th x))) ∧ ((m116 130 ((600 * (MI 124 7)) + l4).toNat) ≠ 1 → wp cs mX12_setText KD (rV (GR d e nw th x) fun m146 n146 => (-2147483648 ≤ l4 + 1 ∧ l4 + 1 < 2147483648) ∧ wp cs mX12_set KD Q 71 [some (vR 124), some (vI l1), some (vI l2), some (vI x116), some (vI (l4 + 1)), none] [] (KD, m146, n146, (GR d e nw th x))) 0 (padL [vR 124, vI l4] 4) [] (KD, m116, n116, (GR d e nw th x))))) 0 (padL [vR 124, vI l3, vI l4] 5) [] (KD, MI, ML, (GR d e nw th x))))) ∧ ((MI 129 (MI 124 7).toNat) ≤ l4 → wp cs mX12_leave KD (rI (GR d e nw th x) fun x158 m158 n158 => wp cs mX12_endWord KD (rV (GR d e nw th x) fun m163 n163 => wp cs mX12_endLine KD (rV (GR d e nw th x) fun m167 n167 => wp cs mX12_toPages KD (rV (GR d e nw th x) fun m172 n172 => Q (some (vI (m172 124 86))) (m172, n172, (GR d e nw th x))) 0 (padL [vR 124, vI l2] 7) [] (KD, m167, n167, (GR d e nw th x))) 0 (padL [vR 124] 1) [] (KD, m163, n163, (GR d e nw th x))) 0 (padL [vR 124] 2) [] (KD, m158, n158, (GR d e nw th x))) 0 (padL [vR 124, vI l3, vI 0] 5) [] (KD, MI, ML, (GR d e nw th x))))) :
    wp cs mX12_set KD Q 71 [some (vR 124), some (vI l1), some (vI l2), some (vI l3), some (vI l4), none] [] (KD, MI, ML, (GR d e nw th x)) := by
  refine wp_iload dX12_set_71 rfl ?_
  refine wp_aload_n dX12_set_73 rfl rfl (by first | exact Or.inl (by decide) | exact Or.inl (by omega) | exact Or.inr (by decide) | exact Or.inr (by omega)) ?_
  refine wp_getR dX12_set_74 fX12_27 rfl (by decide) ?_
  refine wp_topR (x' := 129) rfl ?_
  refine wp_aload_n dX12_set_77 rfl rfl (by first | exact Or.inl (by decide) | exact Or.inl (by omega) | exact Or.inr (by decide) | exact Or.inr (by omega)) ?_
  refine wp_getI dX12_set_78 fX12_482 rfl (by decide) ?_
  have c0 := h.1
  replace h := h.2
  refine wp_iald dX12_set_81 rfl (by decide) c0 ?_
  refine wp_icmp_ge (tgt := 155) dX12_set_82 (by decide) (fun h82 => ?_) (fun h82 => ?_)
  · replace h := h.2 h82
    refine wp_aload_n dX12_set_155 rfl rfl (by first | exact Or.inl (by decide) | exact Or.inl (by omega) | exact Or.inr (by decide) | exact Or.inr (by omega)) ?_
    refine wp_iload_n dX12_set_156 rfl rfl ?_
    refine wp_iconst dX12_set_157 (by decide) ?_
    refine wp_cVq (n := 2) (mt' := mX12_leave) (as := [vI l3, vI 0]) (rest := []) _ dX12_set_158 lX12_646 kX12_leave vX12_leave (by decide) (by decide +kernel) rfl (Nat.le_of_ble_eq_true rfl) (by decide) rfl rfl rfl (Nat.le_of_ble_eq_true rfl) (fun hM hS => h) (fun r M' hq hM => ?_)
    obtain ⟨x158, m158, n158, rfl, rfl, h⟩ := rI_out hq
    refine wp_istore_n dX12_set_161 rfl (by decide) (wp_L (L' := [some (vR 124), some (vI l1), some (vI l2), some (vI x158), some (vI l4), none]) rfl ?_)
    refine wp_aload_n dX12_set_162 rfl rfl (by first | exact Or.inl (by decide) | exact Or.inl (by omega) | exact Or.inr (by decide) | exact Or.inr (by omega)) ?_
    refine wp_cVq (n := 0) (mt' := mX12_endWord) (as := []) (rest := []) _ dX12_set_163 lX12_636 kX12_endWord vX12_endWord (by decide) (by decide +kernel) rfl (Nat.le_of_ble_eq_true rfl) (by decide) rfl rfl rfl (Nat.le_of_ble_eq_true rfl) (fun hM hS => h) (fun r M' hq hM => ?_)
    obtain ⟨m163, n163, rfl, rfl, h⟩ := rV_out hq
    refine wp_aload_n dX12_set_166 rfl rfl (by first | exact Or.inl (by decide) | exact Or.inl (by omega) | exact Or.inr (by decide) | exact Or.inr (by omega)) ?_
    refine wp_cVq (n := 0) (mt' := mX12_endLine) (as := []) (rest := []) _ dX12_set_167 lX12_630 kX12_endLine vX12_endLine (by decide) (by decide +kernel) rfl (Nat.le_of_ble_eq_true rfl) (by decide) rfl rfl rfl (Nat.le_of_ble_eq_true rfl) (fun hM hS => h) (fun r M' hq hM => ?_)
    obtain ⟨m167, n167, rfl, rfl, h⟩ := rV_out hq
    refine wp_aload_n dX12_set_170 rfl rfl (by first | exact Or.inl (by decide) | exact Or.inl (by omega) | exact Or.inr (by decide) | exact Or.inr (by omega)) ?_
    refine wp_iload_n dX12_set_171 rfl rfl ?_
    refine wp_cVq (n := 1) (mt' := mX12_toPages) (as := [vI l2]) (rest := []) _ dX12_set_172 lX12_655 kX12_toPages vX12_toPages (by decide) (by decide +kernel) rfl (Nat.le_of_ble_eq_true rfl) (by decide) rfl rfl rfl (Nat.le_of_ble_eq_true rfl) (fun hM hS => h) (fun r M' hq hM => ?_)
    obtain ⟨m172, n172, rfl, rfl, h⟩ := rV_out hq
    refine wp_aload_n dX12_set_175 rfl rfl (by first | exact Or.inl (by decide) | exact Or.inl (by omega) | exact Or.inr (by decide) | exact Or.inr (by omega)) ?_
    refine wp_getI dX12_set_176 fX12_501 rfl (by decide) ?_
    exact wp_iret dX12_set_179 rfl (fun _ => h)
  · replace h := h.1 h82
    refine wp_sipush dX12_set_85 (by decide +kernel) (by decide) ?_
    refine wp_aload_n dX12_set_88 rfl rfl (by first | exact Or.inl (by decide) | exact Or.inl (by omega) | exact Or.inr (by decide) | exact Or.inr (by omega)) ?_
    refine wp_getI dX12_set_89 fX12_482 rfl (by decide) ?_
    have c1 := h.1
    replace h := h.2
    refine wp_imulr dX12_set_92 c1 ?_
    refine wp_iload dX12_set_93 rfl ?_
    have c2 := h.1
    replace h := h.2
    refine wp_iaddr dX12_set_95 c2 ?_
    refine wp_istore dX12_set_96 (by decide) (wp_L (L' := [some (vR 124), some (vI l1), some (vI l2), some (vI l3), some (vI l4), some (vI ((600 * (MI 124 7)) + l4))]) rfl ?_)
    refine wp_pc (pc' := 98) rfl ?_
    refine wp_aload_n dX12_set_98 rfl rfl (by first | exact Or.inl (by decide) | exact Or.inl (by omega) | exact Or.inr (by decide) | exact Or.inr (by omega)) ?_
    refine wp_getR dX12_set_99 fX12_31 rfl (by decide) ?_
    refine wp_topR (x' := 130) rfl ?_
    refine wp_iload dX12_set_102 rfl ?_
    have c3 := h.1
    replace h := h.2
    refine wp_iald dX12_set_104 rfl (by decide) c3 ?_
    refine wp_iconst dX12_set_105 (by decide) ?_
    refine wp_icmp_ne (tgt := 112) dX12_set_106 (by decide) (fun h106 => ?_) (fun h106 => ?_)
    · replace h := h.2 h106
      refine wp_aload_n dX12_set_112 rfl rfl (by first | exact Or.inl (by decide) | exact Or.inl (by omega) | exact Or.inr (by decide) | exact Or.inr (by omega)) ?_
      refine wp_iload_n dX12_set_113 rfl rfl ?_
      refine wp_iload dX12_set_114 rfl ?_
      refine wp_cVq (n := 2) (mt' := mX12_leave) (as := [vI l3, vI l4]) (rest := []) _ dX12_set_116 lX12_646 kX12_leave vX12_leave (by decide) (by decide +kernel) rfl (Nat.le_of_ble_eq_true rfl) (by decide) rfl rfl rfl (Nat.le_of_ble_eq_true rfl) (fun hM hS => h) (fun r M' hq hM => ?_)
      obtain ⟨x116, m116, n116, rfl, rfl, h⟩ := rI_out hq
      refine wp_istore_n dX12_set_119 rfl (by decide) (wp_L (L' := [some (vR 124), some (vI l1), some (vI l2), some (vI x116), some (vI l4), some (vI ((600 * (MI 124 7)) + l4))]) rfl ?_)
      refine wp_aload_n dX12_set_120 rfl rfl (by first | exact Or.inl (by decide) | exact Or.inl (by omega) | exact Or.inr (by decide) | exact Or.inr (by omega)) ?_
      refine wp_getR dX12_set_121 fX12_31 rfl (by decide) ?_
      refine wp_topR (x' := 130) rfl ?_
      refine wp_iload dX12_set_124 rfl ?_
      refine wp_iald dX12_set_126 rfl (by decide) c3 ?_
      refine wp_iconst dX12_set_127 (by decide) ?_
      refine wp_icmp_ne (tgt := 143) dX12_set_128 (by decide) (fun h128 => ?_) (fun h128 => ?_)
      · replace h := h.2 h128
        refine wp_aload_n dX12_set_143 rfl rfl (by first | exact Or.inl (by decide) | exact Or.inl (by omega) | exact Or.inr (by decide) | exact Or.inr (by omega)) ?_
        refine wp_iload dX12_set_144 rfl ?_
        refine wp_cVq (n := 1) (mt' := mX12_setText) (as := [vI l4]) (rest := []) _ dX12_set_146 lX12_652 kX12_setText vX12_setText (by decide) (by decide +kernel) rfl (Nat.le_of_ble_eq_true rfl) (by decide) rfl rfl rfl (Nat.le_of_ble_eq_true rfl) (fun hM hS => h) (fun r M' hq hM => ?_)
        obtain ⟨m146, n146, rfl, rfl, h⟩ := rV_out hq
        have c4 := h.1
        replace h := h.2
        refine wp_iincr dX12_set_149 rfl (by decide) c4 (wp_L (L' := [some (vR 124), some (vI l1), some (vI l2), some (vI x116), some (vI (l4 + 1)), some (vI ((600 * (MI 124 7)) + l4))]) rfl ?_)
        refine wp_goto (tgt := 71) dX12_set_152 (by decide) ?_
        refine wp_forget (L' := [some (vR 124), some (vI l1), some (vI l2), some (vI x116), some (vI (l4 + 1)), none]) (by repeat' (first | exact trivial | refine ⟨rfl, ?_⟩)) ?_
        exact h
      · replace h := h.1 h128
        refine wp_iload dX12_set_131 rfl ?_
        refine wp_istore_n dX12_set_133 rfl (by decide) (wp_L (L' := [some (vR 124), some (vI l1), some (vI l2), some (vI l4), some (vI l4), some (vI ((600 * (MI 124 7)) + l4))]) rfl ?_)
        refine wp_aload_n dX12_set_134 rfl rfl (by first | exact Or.inl (by decide) | exact Or.inl (by omega) | exact Or.inr (by decide) | exact Or.inr (by omega)) ?_
        refine wp_iload dX12_set_135 rfl ?_
        refine wp_cVq (n := 1) (mt' := mX12_beginElement) (as := [vI l4]) (rest := []) _ dX12_set_137 lX12_649 kX12_beginElement vX12_beginElement (by decide) (by decide +kernel) rfl (Nat.le_of_ble_eq_true rfl) (by decide) rfl rfl rfl (Nat.le_of_ble_eq_true rfl) (fun hM hS => h) (fun r M' hq hM => ?_)
        obtain ⟨m137, n137, rfl, rfl, h⟩ := rV_out hq
        refine wp_goto (tgt := 149) dX12_set_140 (by decide) ?_
        have c4 := h.1
        replace h := h.2
        refine wp_iincr dX12_set_149 rfl (by decide) c4 (wp_L (L' := [some (vR 124), some (vI l1), some (vI l2), some (vI l4), some (vI (l4 + 1)), some (vI ((600 * (MI 124 7)) + l4))]) rfl ?_)
        refine wp_goto (tgt := 71) dX12_set_152 (by decide) ?_
        refine wp_forget (L' := [some (vR 124), some (vI l1), some (vI l2), some (vI l4), some (vI (l4 + 1)), none]) (by repeat' (first | exact trivial | refine ⟨rfl, ?_⟩)) ?_
        exact h
    · replace h := h.1 h106
      refine wp_goto (tgt := 149) dX12_set_109 (by decide) ?_
      have c4 := h.1
      replace h := h.2
      refine wp_iincr dX12_set_149 rfl (by decide) c4 (wp_L (L' := [some (vR 124), some (vI l1), some (vI l2), some (vI l3), some (vI (l4 + 1)), some (vI ((600 * (MI 124 7)) + l4))]) rfl ?_)
      refine wp_goto (tgt := 71) dX12_set_152 (by decide) ?_
      refine wp_forget (L' := [some (vR 124), some (vI l1), some (vI l2), some (vI l3), some (vI (l4 + 1)), none]) (by repeat' (first | exact trivial | refine ⟨rfl, ?_⟩)) ?_
      exact h
theorem dX3_textAt_0 : decode cX3_textAt 0 = .ok (.iconst 0, 1) := by decide +kernel
theorem dX3_textAt_1 : decode cX3_textAt 1 = .ok (.istore_n 2, 1) := by decide +kernel
theorem dX3_textAt_2 : decode cX3_textAt 2 = .ok (.iload_n 2, 1) := by decide +kernel
theorem dX3_textAt_3 : decode cX3_textAt 3 = .ok (.aload_n 0, 1) := by decide +kernel
theorem dX3_textAt_4 : decode cX3_textAt 4 = .ok (.getfield 74, 3) := by decide +kernel
theorem dX3_textAt_7 : decode cX3_textAt 7 = .ok (.if_icmp .ge 41, 3) := by decide +kernel
theorem dX3_textAt_10 : decode cX3_textAt 10 = .ok (.aload_n 0, 1) := by decide +kernel
theorem dX3_textAt_11 : decode cX3_textAt 11 = .ok (.getfield 32, 3) := by decide +kernel
theorem dX3_textAt_14 : decode cX3_textAt 14 = .ok (.iload_n 2, 1) := by decide +kernel
theorem dX3_textAt_15 : decode cX3_textAt 15 = .ok (.iaload, 1) := by decide +kernel
theorem dX3_textAt_16 : decode cX3_textAt 16 = .ok (.iconst 3, 1) := by decide +kernel
theorem dX3_textAt_17 : decode cX3_textAt 17 = .ok (.if_icmp .ne 25, 3) := by decide +kernel
theorem dX3_textAt_20 : decode cX3_textAt 20 = .ok (.iload_n 1, 1) := by decide +kernel
theorem dX3_textAt_21 : decode cX3_textAt 21 = .ok (.aload_n 0, 1) := by decide +kernel
theorem dX3_textAt_22 : decode cX3_textAt 22 = .ok (.getfield 54, 3) := by decide +kernel
theorem dX3_textAt_25 : decode cX3_textAt 25 = .ok (.iload_n 2, 1) := by decide +kernel
theorem dX3_textAt_26 : decode cX3_textAt 26 = .ok (.iaload, 1) := by decide +kernel
theorem dX3_textAt_27 : decode cX3_textAt 27 = .ok (.if_icmp .lt 15, 3) := by decide +kernel
theorem dX3_textAt_30 : decode cX3_textAt 30 = .ok (.iload_n 1, 1) := by decide +kernel
theorem dX3_textAt_31 : decode cX3_textAt 31 = .ok (.aload_n 0, 1) := by decide +kernel
theorem dX3_textAt_32 : decode cX3_textAt 32 = .ok (.getfield 57, 3) := by decide +kernel
theorem dX3_textAt_35 : decode cX3_textAt 35 = .ok (.iload_n 2, 1) := by decide +kernel
theorem dX3_textAt_36 : decode cX3_textAt 36 = .ok (.iaload, 1) := by decide +kernel
theorem dX3_textAt_37 : decode cX3_textAt 37 = .ok (.if_icmp .ge 5, 3) := by decide +kernel
theorem dX3_textAt_40 : decode cX3_textAt 40 = .ok (.iload_n 2, 1) := by decide +kernel
theorem dX3_textAt_41 : decode cX3_textAt 41 = .ok (.ireturn, 1) := by decide +kernel
theorem dX3_textAt_42 : decode cX3_textAt 42 = .ok (.iinc 2 1, 3) := by decide +kernel
theorem dX3_textAt_45 : decode cX3_textAt 45 = .ok (.goto (-43), 3) := by decide +kernel
theorem dX3_textAt_48 : decode cX3_textAt 48 = .ok (.iconst (-1), 1) := by decide +kernel
theorem dX3_textAt_49 : decode cX3_textAt 49 = .ok (.ireturn, 1) := by decide +kernel
theorem v_X3_textAt_0 {cs : Cs} {Q : Option AV → Mm → Prop} {MI ML : Nat → Nat → Int} {b d e nw th x : Nat} {l1 : Int}
    (h : wp cs mX3_textAt KD Q 2 [some (vR b), some (vI l1), some (vI 0)] [] (KD, MI, ML, (GR d e nw th x))) :
    wp cs mX3_textAt KD Q 0 (padL [vR b, vI l1] 3) [] (KD, MI, ML, (GR d e nw th x)) := by
  refine wp_L (L' := [some (vR b), some (vI l1), none]) rfl ?_
  refine wp_iconst dX3_textAt_0 (by decide) ?_
  refine wp_istore_n dX3_textAt_1 rfl (by decide) (wp_L (L' := [some (vR b), some (vI l1), some (vI 0)]) rfl ?_)
  exact h
theorem v_X3_textAt_2 {cs : Cs} {Q : Option AV → Mm → Prop} {MI ML : Nat → Nat → Int} {b d e nw th x : Nat} {l1 l2 : Int} (hbd : b = 38 ∨ b = 81)
    (h : ((l2 < (MI b 16) → (0 ≤ l2 ∧ l2 < 600) ∧ (((MI (b + 32) l2.toNat) = 3 → ((l1 < (MI (b + 39) l2.toNat) → (-2147483648 ≤ l2 + 1 ∧ l2 + 1 < 2147483648) ∧ wp cs mX3_textAt KD Q 2 [some (vR b), some (vI l1), some (vI (l2 + 1))] [] (KD, MI, ML, (GR d e nw th x))) ∧ ((MI (b + 39) l2.toNat) ≤ l1 → ((l1 < (MI (b + 40) l2.toNat) → Q (some (vI l2)) (MI, ML, (GR d e nw th x))) ∧ ((MI (b + 40) l2.toNat) ≤ l1 → (-2147483648 ≤ l2 + 1 ∧ l2 + 1 < 2147483648) ∧ wp cs mX3_textAt KD Q 2 [some (vR b), some (vI l1), some (vI (l2 + 1))] [] (KD, MI, ML, (GR d e nw th x))))))) ∧ ((MI (b + 32) l2.toNat) ≠ 3 → (-2147483648 ≤ l2 + 1 ∧ l2 + 1 < 2147483648) ∧ wp cs mX3_textAt KD Q 2 [some (vR b), some (vI l1), some (vI (l2 + 1))] [] (KD, MI, ML, (GR d e nw th x))))) ∧ ((MI b 16) ≤ l2 → Q (some (vI (-1))) (MI, ML, (GR d e nw th x))))) :
    wp cs mX3_textAt KD Q 2 [some (vR b), some (vI l1), some (vI l2)] [] (KD, MI, ML, (GR d e nw th x)) := by
  refine wp_iload_n dX3_textAt_2 rfl rfl ?_
  refine wp_aload_n dX3_textAt_3 rfl rfl (by first | exact Or.inl (by decide) | exact Or.inl (by omega) | exact Or.inr (by decide) | exact Or.inr (by omega)) ?_
  refine wp_getI dX3_textAt_4 fX3_74 (show KD[b]? = some (7, 19) from kdb_0 hbd) (by omega) ?_
  refine wp_icmp_ge (tgt := 48) dX3_textAt_7 (by decide) (fun h7 => ?_) (fun h7 => ?_)
  · replace h := h.2 h7
    refine wp_iconst dX3_textAt_48 (by decide) ?_
    exact wp_iret dX3_textAt_49 rfl (fun _ => h)
  · replace h := h.1 h7
    refine wp_aload_n dX3_textAt_10 rfl rfl (by first | exact Or.inl (by decide) | exact Or.inl (by omega) | exact Or.inr (by decide) | exact Or.inr (by omega)) ?_
    refine wp_getR dX3_textAt_11 fX3_32 (show KD[b]? = some (7, 19) from kdb_0 hbd) (by omega) ?_
    refine wp_topR (x' := (b + 32)) (grb_0_3 hbd) ?_
    refine wp_iload_n dX3_textAt_14 rfl rfl ?_
    have c0 := h.1
    replace h := h.2
    refine wp_iald dX3_textAt_15 (kdb_32 hbd) (by omega) c0 ?_
    refine wp_iconst dX3_textAt_16 (by decide) ?_
    refine wp_icmp_ne (tgt := 42) dX3_textAt_17 (by decide) (fun h17 => ?_) (fun h17 => ?_)
    · replace h := h.2 h17
      have c1 := h.1
      replace h := h.2
      refine wp_iincr dX3_textAt_42 rfl (by decide) c1 (wp_L (L' := [some (vR b), some (vI l1), some (vI (l2 + 1))]) rfl ?_)
      refine wp_goto (tgt := 2) dX3_textAt_45 (by decide) ?_
      exact h
    · replace h := h.1 h17
      refine wp_iload_n dX3_textAt_20 rfl rfl ?_
      refine wp_aload_n dX3_textAt_21 rfl rfl (by first | exact Or.inl (by decide) | exact Or.inl (by omega) | exact Or.inr (by decide) | exact Or.inr (by omega)) ?_
      refine wp_getR dX3_textAt_22 fX3_54 (show KD[b]? = some (7, 19) from kdb_0 hbd) (by omega) ?_
      refine wp_topR (x' := (b + 39)) (grb_0_10 hbd) ?_
      refine wp_iload_n dX3_textAt_25 rfl rfl ?_
      refine wp_iald dX3_textAt_26 (kdb_39 hbd) (by omega) c0 ?_
      refine wp_icmp_lt (tgt := 42) dX3_textAt_27 (by decide) (fun h27 => ?_) (fun h27 => ?_)
      · replace h := h.1 h27
        have c1 := h.1
        replace h := h.2
        refine wp_iincr dX3_textAt_42 rfl (by decide) c1 (wp_L (L' := [some (vR b), some (vI l1), some (vI (l2 + 1))]) rfl ?_)
        refine wp_goto (tgt := 2) dX3_textAt_45 (by decide) ?_
        exact h
      · replace h := h.2 h27
        refine wp_iload_n dX3_textAt_30 rfl rfl ?_
        refine wp_aload_n dX3_textAt_31 rfl rfl (by first | exact Or.inl (by decide) | exact Or.inl (by omega) | exact Or.inr (by decide) | exact Or.inr (by omega)) ?_
        refine wp_getR dX3_textAt_32 fX3_57 (show KD[b]? = some (7, 19) from kdb_0 hbd) (by omega) ?_
        refine wp_topR (x' := (b + 40)) (grb_0_11 hbd) ?_
        refine wp_iload_n dX3_textAt_35 rfl rfl ?_
        refine wp_iald dX3_textAt_36 (kdb_40 hbd) (by omega) c0 ?_
        refine wp_icmp_ge (tgt := 42) dX3_textAt_37 (by decide) (fun h37 => ?_) (fun h37 => ?_)
        · replace h := h.2 h37
          have c1 := h.1
          replace h := h.2
          refine wp_iincr dX3_textAt_42 rfl (by decide) c1 (wp_L (L' := [some (vR b), some (vI l1), some (vI (l2 + 1))]) rfl ?_)
          refine wp_goto (tgt := 2) dX3_textAt_45 (by decide) ?_
          exact h
        · replace h := h.1 h37
          refine wp_iload_n dX3_textAt_40 rfl rfl ?_
          exact wp_iret dX3_textAt_41 rfl (fun _ => h)
theorem dX11_line_0 : decode cX11_line 0 = .ok (.iload_n 1, 1) := by decide +kernel
theorem dX11_line_1 : decode cX11_line 1 = .ok (.ifCond .lt 14, 3) := by decide +kernel
theorem dX11_line_4 : decode cX11_line 4 = .ok (.iload_n 1, 1) := by decide +kernel
theorem dX11_line_5 : decode cX11_line 5 = .ok (.aload_n 0, 1) := by decide +kernel
theorem dX11_line_6 : decode cX11_line 6 = .ok (.getfield 60, 3) := by decide +kernel
theorem dX11_line_9 : decode cX11_line 9 = .ok (.getfield 171, 3) := by decide +kernel
theorem dX11_line_12 : decode cX11_line 12 = .ok (.if_icmp .lt 6, 3) := by decide +kernel
theorem dX11_line_15 : decode cX11_line 15 = .ok (.bipush (-9), 2) := by decide +kernel
theorem dX11_line_17 : decode cX11_line 17 = .ok (.ireturn, 1) := by decide +kernel
theorem dX11_line_18 : decode cX11_line 18 = .ok (.iload_n 2, 1) := by decide +kernel
theorem dX11_line_19 : decode cX11_line 19 = .ok (.tableswitch 76 0 3 #[29, 39, 49, 59], 29) := by decide +kernel
theorem dX11_line_48 : decode cX11_line 48 = .ok (.aload_n 0, 1) := by decide +kernel
theorem dX11_line_49 : decode cX11_line 49 = .ok (.getfield 60, 3) := by decide +kernel
theorem dX11_line_52 : decode cX11_line 52 = .ok (.getfield 174, 3) := by decide +kernel
theorem dX11_line_55 : decode cX11_line 55 = .ok (.iload_n 1, 1) := by decide +kernel
theorem dX11_line_56 : decode cX11_line 56 = .ok (.iaload, 1) := by decide +kernel
theorem dX11_line_57 : decode cX11_line 57 = .ok (.ireturn, 1) := by decide +kernel
theorem dX11_line_58 : decode cX11_line 58 = .ok (.aload_n 0, 1) := by decide +kernel
theorem dX11_line_59 : decode cX11_line 59 = .ok (.getfield 60, 3) := by decide +kernel
theorem dX11_line_62 : decode cX11_line 62 = .ok (.getfield 177, 3) := by decide +kernel
theorem dX11_line_65 : decode cX11_line 65 = .ok (.iload_n 1, 1) := by decide +kernel
theorem dX11_line_66 : decode cX11_line 66 = .ok (.iaload, 1) := by decide +kernel
theorem dX11_line_67 : decode cX11_line 67 = .ok (.ireturn, 1) := by decide +kernel
theorem dX11_line_68 : decode cX11_line 68 = .ok (.aload_n 0, 1) := by decide +kernel
theorem dX11_line_69 : decode cX11_line 69 = .ok (.getfield 60, 3) := by decide +kernel
theorem dX11_line_72 : decode cX11_line 72 = .ok (.getfield 180, 3) := by decide +kernel
theorem dX11_line_75 : decode cX11_line 75 = .ok (.iload_n 1, 1) := by decide +kernel
theorem dX11_line_76 : decode cX11_line 76 = .ok (.iaload, 1) := by decide +kernel
theorem dX11_line_77 : decode cX11_line 77 = .ok (.ireturn, 1) := by decide +kernel
theorem dX11_line_78 : decode cX11_line 78 = .ok (.aload_n 0, 1) := by decide +kernel
theorem dX11_line_79 : decode cX11_line 79 = .ok (.getfield 67, 3) := by decide +kernel
theorem dX11_line_82 : decode cX11_line 82 = .ok (.aload_n 0, 1) := by decide +kernel
theorem dX11_line_83 : decode cX11_line 83 = .ok (.getfield 60, 3) := by decide +kernel
theorem dX11_line_86 : decode cX11_line 86 = .ok (.getfield 183, 3) := by decide +kernel
theorem dX11_line_89 : decode cX11_line 89 = .ok (.iload_n 1, 1) := by decide +kernel
theorem dX11_line_90 : decode cX11_line 90 = .ok (.iaload, 1) := by decide +kernel
theorem dX11_line_91 : decode cX11_line 91 = .ok (.invokevirtual 186, 3) := by decide +kernel
theorem dX11_line_94 : decode cX11_line 94 = .ok (.ireturn, 1) := by decide +kernel
theorem dX11_line_95 : decode cX11_line 95 = .ok (.bipush (-9), 2) := by decide +kernel
theorem dX11_line_97 : decode cX11_line 97 = .ok (.ireturn, 1) := by decide +kernel
theorem v_X11_line_0 {cs : Cs} {Q : Option AV → Mm → Prop} {MI ML : Nat → Nat → Int} {b e nw th x : Nat} {l1 l2 : Int} (hbd : b = 38 ∨ b = 81)
    (h : ((l1 < 0 → Q (some (vI (-9))) (MI, ML, (GR b e nw th x))) ∧ (0 ≤ l1 → ((l1 < (MI 28 16) → ((l2 = 0 → (0 ≤ l1 ∧ l1 < 2000) ∧ Q (some (vI (MI 32 l1.toNat))) (MI, ML, (GR b e nw th x))) ∧ (l2 = 1 → (0 ≤ l1 ∧ l1 < 2000) ∧ Q (some (vI (MI 31 l1.toNat))) (MI, ML, (GR b e nw th x))) ∧ (l2 = 2 → (0 ≤ l1 ∧ l1 < 2000) ∧ Q (some (vI (MI 33 l1.toNat))) (MI, ML, (GR b e nw th x))) ∧ (l2 = 3 → (0 ≤ l1 ∧ l1 < 2000) ∧ wp cs mX3_textAt KD (rI (GR b e nw th x) fun x91 m91 n91 => Q (some (vI x91)) (m91, n91, (GR b e nw th x))) 0 (padL [vR b, vI (MI 34 l1.toNat)] 3) [] (KD, MI, ML, (GR b e nw th x))) ∧ (l2 < 0 ∨ 3 < l2 → Q (some (vI (-9))) (MI, ML, (GR b e nw th x))))) ∧ ((MI 28 16) ≤ l1 → Q (some (vI (-9))) (MI, ML, (GR b e nw th x))))))) :
    wp cs mX11_line KD Q 0 (padL [vR 0, vI l1, vI l2] 3) [] (KD, MI, ML, (GR b e nw th x)) := by
  refine wp_L (L' := [some (vR 0), some (vI l1), some (vI l2)]) rfl ?_
  refine wp_iload_n dX11_line_0 rfl rfl ?_
  refine wp_if_lt (tgt := 15) dX11_line_1 (by decide) (fun h1 => ?_) (fun h1 => ?_)
  · replace h := h.1 h1
    refine wp_bipush dX11_line_15 (by decide +kernel) (by decide) ?_
    exact wp_iret dX11_line_17 rfl (fun _ => h)
  · replace h := h.2 h1
    refine wp_iload_n dX11_line_4 rfl rfl ?_
    refine wp_aload_n dX11_line_5 rfl rfl (by first | exact Or.inl (by decide) | exact Or.inl (by omega) | exact Or.inr (by decide) | exact Or.inr (by omega)) ?_
    refine wp_getR dX11_line_6 fX11_60 rfl (by decide) ?_
    refine wp_topR (x' := 28) rfl ?_
    refine wp_getI dX11_line_9 fX11_171 rfl (by decide) ?_
    refine wp_icmp_lt (tgt := 18) dX11_line_12 (by decide) (fun h12 => ?_) (fun h12 => ?_)
    · replace h := h.1 h12
      refine wp_iload_n dX11_line_18 rfl rfl ?_
      by_cases hsw : 0 ≤ l2 ∧ l2 ≤ 3
      · rcases (by omega : l2 = 0 ∨ l2 = 1 ∨ l2 = 2 ∨ l2 = 3) with q | q | q | q
        · refine wp_topI (x' := 0) q ?_
          refine wp_tableIn (tgt := 48) dX11_line_19 (by decide) rfl (by decide) ?_
          replace h := h.1 q
          refine wp_aload_n dX11_line_48 rfl rfl (by first | exact Or.inl (by decide) | exact Or.inl (by omega) | exact Or.inr (by decide) | exact Or.inr (by omega)) ?_
          refine wp_getR dX11_line_49 fX11_60 rfl (by decide) ?_
          refine wp_topR (x' := 28) rfl ?_
          refine wp_getR dX11_line_52 fX11_174 rfl (by decide) ?_
          refine wp_topR (x' := 32) rfl ?_
          refine wp_iload_n dX11_line_55 rfl rfl ?_
          have c0 := h.1
          replace h := h.2
          refine wp_iald dX11_line_56 rfl (by decide) c0 ?_
          exact wp_iret dX11_line_57 rfl (fun _ => h)
        · refine wp_topI (x' := 1) q ?_
          refine wp_tableIn (tgt := 58) dX11_line_19 (by decide) rfl (by decide) ?_
          replace h := h.2.1 q
          refine wp_aload_n dX11_line_58 rfl rfl (by first | exact Or.inl (by decide) | exact Or.inl (by omega) | exact Or.inr (by decide) | exact Or.inr (by omega)) ?_
          refine wp_getR dX11_line_59 fX11_60 rfl (by decide) ?_
          refine wp_topR (x' := 28) rfl ?_
          refine wp_getR dX11_line_62 fX11_177 rfl (by decide) ?_
          refine wp_topR (x' := 31) rfl ?_
          refine wp_iload_n dX11_line_65 rfl rfl ?_
          have c0 := h.1
          replace h := h.2
          refine wp_iald dX11_line_66 rfl (by decide) c0 ?_
          exact wp_iret dX11_line_67 rfl (fun _ => h)
        · refine wp_topI (x' := 2) q ?_
          refine wp_tableIn (tgt := 68) dX11_line_19 (by decide) rfl (by decide) ?_
          replace h := h.2.2.1 q
          refine wp_aload_n dX11_line_68 rfl rfl (by first | exact Or.inl (by decide) | exact Or.inl (by omega) | exact Or.inr (by decide) | exact Or.inr (by omega)) ?_
          refine wp_getR dX11_line_69 fX11_60 rfl (by decide) ?_
          refine wp_topR (x' := 28) rfl ?_
          refine wp_getR dX11_line_72 fX11_180 rfl (by decide) ?_
          refine wp_topR (x' := 33) rfl ?_
          refine wp_iload_n dX11_line_75 rfl rfl ?_
          have c0 := h.1
          replace h := h.2
          refine wp_iald dX11_line_76 rfl (by decide) c0 ?_
          exact wp_iret dX11_line_77 rfl (fun _ => h)
        · refine wp_topI (x' := 3) q ?_
          refine wp_tableIn (tgt := 78) dX11_line_19 (by decide) rfl (by decide) ?_
          replace h := h.2.2.2.1 q
          refine wp_aload_n dX11_line_78 rfl rfl (by first | exact Or.inl (by decide) | exact Or.inl (by omega) | exact Or.inr (by decide) | exact Or.inr (by omega)) ?_
          refine wp_getR dX11_line_79 fX11_67 rfl (by decide) ?_
          refine wp_topR (x' := b) rfl ?_
          refine wp_aload_n dX11_line_82 rfl rfl (by first | exact Or.inl (by decide) | exact Or.inl (by omega) | exact Or.inr (by decide) | exact Or.inr (by omega)) ?_
          refine wp_getR dX11_line_83 fX11_60 rfl (by decide) ?_
          refine wp_topR (x' := 28) rfl ?_
          refine wp_getR dX11_line_86 fX11_183 rfl (by decide) ?_
          refine wp_topR (x' := 34) rfl ?_
          refine wp_iload_n dX11_line_89 rfl rfl ?_
          have c0 := h.1
          replace h := h.2
          refine wp_iald dX11_line_90 rfl (by decide) c0 ?_
          refine wp_pc (pc' := 91) rfl ?_
          refine wp_cVq (n := 1) (mt' := mX3_textAt) (as := [vI (MI 34 l1.toNat)]) (rest := []) _ dX11_line_91 lX11_186 kX3_textAt vX3_textAt (by decide) (by decide +kernel) rfl (Nat.le_of_ble_eq_true rfl) (by omega) (show KD[b]? = some (7, 19) from kdb_0 hbd) rfl rfl (Nat.le_of_ble_eq_true rfl) (fun hM hS => h) (fun r M' hq hM => ?_)
          obtain ⟨x91, m91, n91, rfl, rfl, h⟩ := rI_out hq
          exact wp_iret dX11_line_94 rfl (fun _ => h)
      · refine wp_tableOut (tgt := 95) dX11_line_19 (by omega) (by decide) ?_
        replace h := h.2.2.2.2 (by omega)
        refine wp_bipush dX11_line_95 (by decide +kernel) (by decide) ?_
        exact wp_iret dX11_line_97 rfl (fun _ => h)
    · replace h := h.2 h12
      refine wp_bipush dX11_line_15 (by decide +kernel) (by decide) ?_
      exact wp_iret dX11_line_17 rfl (fun _ => h)
theorem dX12_line_0 : decode cX12_line 0 = .ok (.iload_n 1, 1) := by decide +kernel
theorem dX12_line_1 : decode cX12_line 1 = .ok (.i2l, 1) := by decide +kernel
theorem dX12_line_2 : decode cX12_line 2 = .ok (.lconst 0, 1) := by decide +kernel
theorem dX12_line_3 : decode cX12_line 3 = .ok (.aload_n 0, 1) := by decide +kernel
theorem dX12_line_4 : decode cX12_line 4 = .ok (.getfield 501, 3) := by decide +kernel
theorem dX12_line_7 : decode cX12_line 7 = .ok (.iconst 1, 1) := by decide +kernel
theorem dX12_line_8 : decode cX12_line 8 = .ok (.isub, 1) := by decide +kernel
theorem dX12_line_9 : decode cX12_line 9 = .ok (.i2l, 1) := by decide +kernel
theorem dX12_line_10 : decode cX12_line 10 = .ok (.invokestatic 256, 3) := by decide +kernel
theorem dX12_line_13 : decode cX12_line 13 = .ok (.ifCond .ne 6, 3) := by decide +kernel
theorem dX12_line_16 : decode cX12_line 16 = .ok (.bipush (-9), 2) := by decide +kernel
theorem dX12_line_18 : decode cX12_line 18 = .ok (.ireturn, 1) := by decide +kernel
theorem dX12_line_19 : decode cX12_line 19 = .ok (.iload_n 2, 1) := by decide +kernel
theorem dX12_line_20 : decode cX12_line 20 = .ok (.ifCond .ne 12, 3) := by decide +kernel
theorem dX12_line_23 : decode cX12_line 23 = .ok (.aload_n 0, 1) := by decide +kernel
theorem dX12_line_24 : decode cX12_line 24 = .ok (.getfield 222, 3) := by decide +kernel
theorem dX12_line_27 : decode cX12_line 27 = .ok (.iload_n 1, 1) := by decide +kernel
theorem dX12_line_28 : decode cX12_line 28 = .ok (.iaload, 1) := by decide +kernel
theorem dX12_line_29 : decode cX12_line 29 = .ok (.goto 47, 3) := by decide +kernel
theorem dX12_line_32 : decode cX12_line 32 = .ok (.iload_n 2, 1) := by decide +kernel
theorem dX12_line_33 : decode cX12_line 33 = .ok (.iconst 1, 1) := by decide +kernel
theorem dX12_line_34 : decode cX12_line 34 = .ok (.if_icmp .ne 12, 3) := by decide +kernel
theorem dX12_line_37 : decode cX12_line 37 = .ok (.aload_n 0, 1) := by decide +kernel
theorem dX12_line_38 : decode cX12_line 38 = .ok (.getfield 219, 3) := by decide +kernel
theorem dX12_line_41 : decode cX12_line 41 = .ok (.iload_n 1, 1) := by decide +kernel
theorem dX12_line_42 : decode cX12_line 42 = .ok (.iaload, 1) := by decide +kernel
theorem dX12_line_43 : decode cX12_line 43 = .ok (.goto 33, 3) := by decide +kernel
theorem dX12_line_46 : decode cX12_line 46 = .ok (.iload_n 2, 1) := by decide +kernel
theorem dX12_line_47 : decode cX12_line 47 = .ok (.iconst 2, 1) := by decide +kernel
theorem dX12_line_48 : decode cX12_line 48 = .ok (.if_icmp .ne 12, 3) := by decide +kernel
theorem dX12_line_51 : decode cX12_line 51 = .ok (.aload_n 0, 1) := by decide +kernel
theorem dX12_line_52 : decode cX12_line 52 = .ok (.getfield 225, 3) := by decide +kernel
theorem dX12_line_55 : decode cX12_line 55 = .ok (.iload_n 1, 1) := by decide +kernel
theorem dX12_line_56 : decode cX12_line 56 = .ok (.iaload, 1) := by decide +kernel
theorem dX12_line_57 : decode cX12_line 57 = .ok (.goto 19, 3) := by decide +kernel
theorem dX12_line_60 : decode cX12_line 60 = .ok (.iload_n 2, 1) := by decide +kernel
theorem dX12_line_61 : decode cX12_line 61 = .ok (.iconst 3, 1) := by decide +kernel
theorem dX12_line_62 : decode cX12_line 62 = .ok (.if_icmp .ne 12, 3) := by decide +kernel
theorem dX12_line_65 : decode cX12_line 65 = .ok (.aload_n 0, 1) := by decide +kernel
theorem dX12_line_66 : decode cX12_line 66 = .ok (.getfield 228, 3) := by decide +kernel
theorem dX12_line_69 : decode cX12_line 69 = .ok (.iload_n 1, 1) := by decide +kernel
theorem dX12_line_70 : decode cX12_line 70 = .ok (.iaload, 1) := by decide +kernel
theorem dX12_line_71 : decode cX12_line 71 = .ok (.goto 5, 3) := by decide +kernel
theorem dX12_line_74 : decode cX12_line 74 = .ok (.bipush (-9), 2) := by decide +kernel
theorem dX12_line_76 : decode cX12_line 76 = .ok (.ireturn, 1) := by decide +kernel
theorem v_X12_line_0 {cs : Cs} {Q : Option AV → Mm → Prop} {MI ML : Nat → Nat → Int} {d e nw th x : Nat} {l1 l2 : Int}
    (h : (-2147483648 ≤ (MI 124 86) - 1 ∧ (MI 124 86) - 1 < 2147483648) ∧ wp cs mX12_in KD (rI (GR d e nw th x) fun x10 m10 n10 => ((x10 = 0 → Q (some (vI (-9))) (m10, n10, (GR d e nw th x))) ∧ (x10 ≠ 0 → ((l2 = 0 → (0 ≤ l1 ∧ l1 < 4000) ∧ Q (some (vI (m10 193 l1.toNat))) (m10, n10, (GR d e nw th x))) ∧ (l2 ≠ 0 → ((l2 = 1 → (0 ≤ l1 ∧ l1 < 4000) ∧ Q (some (vI (m10 192 l1.toNat))) (m10, n10, (GR d e nw th x))) ∧ (l2 ≠ 1 → ((l2 = 2 → (0 ≤ l1 ∧ l1 < 4000) ∧ Q (some (vI (m10 194 l1.toNat))) (m10, n10, (GR d e nw th x))) ∧ (l2 ≠ 2 → ((l2 = 3 → (0 ≤ l1 ∧ l1 < 4000) ∧ Q (some (vI (m10 195 l1.toNat))) (m10, n10, (GR d e nw th x))) ∧ (l2 ≠ 3 → Q (some (vI (-9))) (m10, n10, (GR d e nw th x))))))))))))) 0 (padL [vL l1, vL 0, vL ((MI 124 86) - 1)] 6) [] (KD, MI, ML, (GR d e nw th x))) :
    wp cs mX12_line KD Q 0 (padL [vR 124, vI l1, vI l2] 3) [] (KD, MI, ML, (GR d e nw th x)) := by
  refine wp_L (L' := [some (vR 124), some (vI l1), some (vI l2)]) rfl ?_
  refine wp_iload_n dX12_line_0 rfl rfl ?_
  refine wp_i2l dX12_line_1 ?_
  refine wp_lconst (z := 0) dX12_line_2 (by decide +kernel) (by decide) ?_
  refine wp_aload_n dX12_line_3 rfl rfl (by first | exact Or.inl (by decide) | exact Or.inl (by omega) | exact Or.inr (by decide) | exact Or.inr (by omega)) ?_
  refine wp_getI dX12_line_4 fX12_501 rfl (by decide) ?_
  refine wp_iconst dX12_line_7 (by decide) ?_
  have c0 := h.1
  replace h := h.2
  refine wp_isubr dX12_line_8 c0 ?_
  refine wp_pc (pc' := 9) rfl ?_
  refine wp_i2l dX12_line_9 ?_
  refine wp_cSq (n := 3) (mt' := mX12_in) (as := [vL l1, vL 0, vL ((MI 124 86) - 1)]) (rest := []) _ dX12_line_10 lX12_256 kX12_in vX12_in (by decide) (by decide +kernel) rfl (Nat.le_of_ble_eq_true rfl) rfl (Nat.le_of_ble_eq_true rfl) (fun hM hS => h) (fun r M' hq hM => ?_)
  obtain ⟨x10, m10, n10, rfl, rfl, h⟩ := rI_out hq
  refine wp_if_ne (tgt := 19) dX12_line_13 (by decide) (fun h13 => ?_) (fun h13 => ?_)
  · replace h := h.2 h13
    refine wp_iload_n dX12_line_19 rfl rfl ?_
    refine wp_if_ne (tgt := 32) dX12_line_20 (by decide) (fun h20 => ?_) (fun h20 => ?_)
    · replace h := h.2 h20
      refine wp_iload_n dX12_line_32 rfl rfl ?_
      refine wp_iconst dX12_line_33 (by decide) ?_
      refine wp_icmp_ne (tgt := 46) dX12_line_34 (by decide) (fun h34 => ?_) (fun h34 => ?_)
      · replace h := h.2 h34
        refine wp_iload_n dX12_line_46 rfl rfl ?_
        refine wp_iconst dX12_line_47 (by decide) ?_
        refine wp_icmp_ne (tgt := 60) dX12_line_48 (by decide) (fun h48 => ?_) (fun h48 => ?_)
        · replace h := h.2 h48
          refine wp_iload_n dX12_line_60 rfl rfl ?_
          refine wp_iconst dX12_line_61 (by decide) ?_
          refine wp_icmp_ne (tgt := 74) dX12_line_62 (by decide) (fun h62 => ?_) (fun h62 => ?_)
          · replace h := h.2 h62
            refine wp_bipush dX12_line_74 (by decide +kernel) (by decide) ?_
            exact wp_iret dX12_line_76 rfl (fun _ => h)
          · replace h := h.1 h62
            refine wp_aload_n dX12_line_65 rfl rfl (by first | exact Or.inl (by decide) | exact Or.inl (by omega) | exact Or.inr (by decide) | exact Or.inr (by omega)) ?_
            refine wp_getR dX12_line_66 fX12_228 rfl (by decide) ?_
            refine wp_topR (x' := 195) rfl ?_
            refine wp_iload_n dX12_line_69 rfl rfl ?_
            have c1 := h.1
            replace h := h.2
            refine wp_iald dX12_line_70 rfl (by decide) c1 ?_
            refine wp_goto (tgt := 76) dX12_line_71 (by decide) ?_
            exact wp_iret dX12_line_76 rfl (fun _ => h)
        · replace h := h.1 h48
          refine wp_aload_n dX12_line_51 rfl rfl (by first | exact Or.inl (by decide) | exact Or.inl (by omega) | exact Or.inr (by decide) | exact Or.inr (by omega)) ?_
          refine wp_getR dX12_line_52 fX12_225 rfl (by decide) ?_
          refine wp_topR (x' := 194) rfl ?_
          refine wp_iload_n dX12_line_55 rfl rfl ?_
          have c1 := h.1
          replace h := h.2
          refine wp_iald dX12_line_56 rfl (by decide) c1 ?_
          refine wp_goto (tgt := 76) dX12_line_57 (by decide) ?_
          exact wp_iret dX12_line_76 rfl (fun _ => h)
      · replace h := h.1 h34
        refine wp_aload_n dX12_line_37 rfl rfl (by first | exact Or.inl (by decide) | exact Or.inl (by omega) | exact Or.inr (by decide) | exact Or.inr (by omega)) ?_
        refine wp_getR dX12_line_38 fX12_219 rfl (by decide) ?_
        refine wp_topR (x' := 192) rfl ?_
        refine wp_iload_n dX12_line_41 rfl rfl ?_
        have c1 := h.1
        replace h := h.2
        refine wp_iald dX12_line_42 rfl (by decide) c1 ?_
        refine wp_goto (tgt := 76) dX12_line_43 (by decide) ?_
        exact wp_iret dX12_line_76 rfl (fun _ => h)
    · replace h := h.1 h20
      refine wp_aload_n dX12_line_23 rfl rfl (by first | exact Or.inl (by decide) | exact Or.inl (by omega) | exact Or.inr (by decide) | exact Or.inr (by omega)) ?_
      refine wp_getR dX12_line_24 fX12_222 rfl (by decide) ?_
      refine wp_topR (x' := 193) rfl ?_
      refine wp_iload_n dX12_line_27 rfl rfl ?_
      have c1 := h.1
      replace h := h.2
      refine wp_iald dX12_line_28 rfl (by decide) c1 ?_
      refine wp_goto (tgt := 76) dX12_line_29 (by decide) ?_
      exact wp_iret dX12_line_76 rfl (fun _ => h)
  · replace h := h.1 h13
    refine wp_bipush dX12_line_16 (by decide +kernel) (by decide) ?_
    exact wp_iret dX12_line_18 rfl (fun _ => h)
theorem dX0_byteOf_0 : decode cX0_byteOf 0 = .ok (.iload_n 2, 1) := by decide +kernel
theorem dX0_byteOf_1 : decode cX0_byteOf 1 = .ok (.ifCond .lt 29, 3) := by decide +kernel
theorem dX0_byteOf_4 : decode cX0_byteOf 4 = .ok (.iload_n 2, 1) := by decide +kernel
theorem dX0_byteOf_5 : decode cX0_byteOf 5 = .ok (.aload_n 0, 1) := by decide +kernel
theorem dX0_byteOf_6 : decode cX0_byteOf 6 = .ok (.getfield 19, 3) := by decide +kernel
theorem dX0_byteOf_9 : decode cX0_byteOf 9 = .ok (.iload_n 1, 1) := by decide +kernel
theorem dX0_byteOf_10 : decode cX0_byteOf 10 = .ok (.iaload, 1) := by decide +kernel
theorem dX0_byteOf_11 : decode cX0_byteOf 11 = .ok (.if_icmp .ge 19, 3) := by decide +kernel
theorem dX0_byteOf_14 : decode cX0_byteOf 14 = .ok (.aload_n 0, 1) := by decide +kernel
theorem dX0_byteOf_15 : decode cX0_byteOf 15 = .ok (.getfield 9, 3) := by decide +kernel
theorem dX0_byteOf_18 : decode cX0_byteOf 18 = .ok (.aload_n 0, 1) := by decide +kernel
theorem dX0_byteOf_19 : decode cX0_byteOf 19 = .ok (.getfield 15, 3) := by decide +kernel
theorem dX0_byteOf_22 : decode cX0_byteOf 22 = .ok (.iload_n 1, 1) := by decide +kernel
theorem dX0_byteOf_23 : decode cX0_byteOf 23 = .ok (.iaload, 1) := by decide +kernel
theorem dX0_byteOf_24 : decode cX0_byteOf 24 = .ok (.iload_n 2, 1) := by decide +kernel
theorem dX0_byteOf_25 : decode cX0_byteOf 25 = .ok (.iadd, 1) := by decide +kernel
theorem dX0_byteOf_26 : decode cX0_byteOf 26 = .ok (.baload, 1) := by decide +kernel
theorem dX0_byteOf_27 : decode cX0_byteOf 27 = .ok (.goto 4, 3) := by decide +kernel
theorem dX0_byteOf_30 : decode cX0_byteOf 30 = .ok (.iconst (-1), 1) := by decide +kernel
theorem dX0_byteOf_31 : decode cX0_byteOf 31 = .ok (.ireturn, 1) := by decide +kernel
theorem v_X0_byteOf_0 {cs : Cs} {Q : Option AV → Mm → Prop} {MI ML : Nat → Nat → Int} {d e nw th x : Nat} {l1 l2 : Int}
    (h : ((l2 < 0 → Q (some (vI (-1))) (MI, ML, (GR d e nw th x))) ∧ (0 ≤ l2 → (0 ≤ l1 ∧ l1 < 2000) ∧ ((l2 < (MI 31 l1.toNat) → (-2147483648 ≤ (MI 30 l1.toNat) + l2 ∧ (MI 30 l1.toNat) + l2 < 2147483648) ∧ (0 ≤ ((MI 30 l1.toNat) + l2) ∧ ((MI 30 l1.toNat) + l2) < 2000) ∧ Q (some (vI (MI 29 ((MI 30 l1.toNat) + l2).toNat))) (MI, ML, (GR d e nw th x))) ∧ ((MI 31 l1.toNat) ≤ l2 → Q (some (vI (-1))) (MI, ML, (GR d e nw th x))))))) :
    wp cs mX0_byteOf KD Q 0 (padL [vR 28, vI l1, vI l2] 3) [] (KD, MI, ML, (GR d e nw th x)) := by
  refine wp_L (L' := [some (vR 28), some (vI l1), some (vI l2)]) rfl ?_
  refine wp_iload_n dX0_byteOf_0 rfl rfl ?_
  refine wp_if_lt (tgt := 30) dX0_byteOf_1 (by decide) (fun h1 => ?_) (fun h1 => ?_)
  · replace h := h.1 h1
    refine wp_iconst dX0_byteOf_30 (by decide) ?_
    exact wp_iret dX0_byteOf_31 rfl (fun _ => h)
  · replace h := h.2 h1
    refine wp_iload_n dX0_byteOf_4 rfl rfl ?_
    refine wp_aload_n dX0_byteOf_5 rfl rfl (by first | exact Or.inl (by decide) | exact Or.inl (by omega) | exact Or.inr (by decide) | exact Or.inr (by omega)) ?_
    refine wp_getR dX0_byteOf_6 fX0_19 rfl (by decide) ?_
    refine wp_topR (x' := 31) rfl ?_
    refine wp_iload_n dX0_byteOf_9 rfl rfl ?_
    have c0 := h.1
    replace h := h.2
    refine wp_iald dX0_byteOf_10 rfl (by decide) c0 ?_
    refine wp_icmp_ge (tgt := 30) dX0_byteOf_11 (by decide) (fun h11 => ?_) (fun h11 => ?_)
    · replace h := h.2 h11
      refine wp_iconst dX0_byteOf_30 (by decide) ?_
      exact wp_iret dX0_byteOf_31 rfl (fun _ => h)
    · replace h := h.1 h11
      refine wp_aload_n dX0_byteOf_14 rfl rfl (by first | exact Or.inl (by decide) | exact Or.inl (by omega) | exact Or.inr (by decide) | exact Or.inr (by omega)) ?_
      refine wp_getR dX0_byteOf_15 fX0_9 rfl (by decide) ?_
      refine wp_topR (x' := 29) rfl ?_
      refine wp_aload_n dX0_byteOf_18 rfl rfl (by first | exact Or.inl (by decide) | exact Or.inl (by omega) | exact Or.inr (by decide) | exact Or.inr (by omega)) ?_
      refine wp_getR dX0_byteOf_19 fX0_15 rfl (by decide) ?_
      refine wp_topR (x' := 30) rfl ?_
      refine wp_iload_n dX0_byteOf_22 rfl rfl ?_
      refine wp_iald dX0_byteOf_23 rfl (by decide) c0 ?_
      refine wp_iload_n dX0_byteOf_24 rfl rfl ?_
      refine wp_pc (pc' := 25) rfl ?_
      have c1 := h.1
      replace h := h.2
      refine wp_iaddr dX0_byteOf_25 c1 ?_
      have c2 := h.1
      replace h := h.2
      refine wp_bald dX0_byteOf_26 rfl (by decide) c2 ?_
      refine wp_goto (tgt := 31) dX0_byteOf_27 (by decide) ?_
      exact wp_iret dX0_byteOf_31 rfl (fun _ => h)
theorem dX11_at_0 : decode cX11_at 0 = .ok (.iload_n 1, 1) := by decide +kernel
theorem dX11_at_1 : decode cX11_at 1 = .ok (.ifCond .lt 26, 3) := by decide +kernel
theorem dX11_at_4 : decode cX11_at 4 = .ok (.iload_n 1, 1) := by decide +kernel
theorem dX11_at_5 : decode cX11_at 5 = .ok (.aload_n 0, 1) := by decide +kernel
theorem dX11_at_6 : decode cX11_at 6 = .ok (.getfield 60, 3) := by decide +kernel
theorem dX11_at_9 : decode cX11_at 9 = .ok (.getfield 171, 3) := by decide +kernel
theorem dX11_at_12 : decode cX11_at 12 = .ok (.if_icmp .ge 15, 3) := by decide +kernel
theorem dX11_at_15 : decode cX11_at 15 = .ok (.aload_n 0, 1) := by decide +kernel
theorem dX11_at_16 : decode cX11_at 16 = .ok (.getfield 60, 3) := by decide +kernel
theorem dX11_at_19 : decode cX11_at 19 = .ok (.iload_n 1, 1) := by decide +kernel
theorem dX11_at_20 : decode cX11_at 20 = .ok (.iload_n 2, 1) := by decide +kernel
theorem dX11_at_21 : decode cX11_at 21 = .ok (.invokevirtual 189, 3) := by decide +kernel
theorem dX11_at_24 : decode cX11_at 24 = .ok (.goto 4, 3) := by decide +kernel
theorem dX11_at_27 : decode cX11_at 27 = .ok (.iconst (-1), 1) := by decide +kernel
theorem dX11_at_28 : decode cX11_at 28 = .ok (.ireturn, 1) := by decide +kernel
theorem v_X11_at_0 {cs : Cs} {Q : Option AV → Mm → Prop} {MI ML : Nat → Nat → Int} {b e nw th x : Nat} {l1 l2 : Int} (hbd : b = 38 ∨ b = 81)
    (h : ((l1 < 0 → Q (some (vI (-1))) (MI, ML, (GR b e nw th x))) ∧ (0 ≤ l1 → ((l1 < (MI 28 16) → wp cs mX0_byteOf KD (rI (GR b e nw th x) fun x21 m21 n21 => Q (some (vI x21)) (m21, n21, (GR b e nw th x))) 0 (padL [vR 28, vI l1, vI l2] 3) [] (KD, MI, ML, (GR b e nw th x))) ∧ ((MI 28 16) ≤ l1 → Q (some (vI (-1))) (MI, ML, (GR b e nw th x))))))) :
    wp cs mX11_at KD Q 0 (padL [vR 0, vI l1, vI l2] 3) [] (KD, MI, ML, (GR b e nw th x)) := by
  refine wp_L (L' := [some (vR 0), some (vI l1), some (vI l2)]) rfl ?_
  refine wp_iload_n dX11_at_0 rfl rfl ?_
  refine wp_if_lt (tgt := 27) dX11_at_1 (by decide) (fun h1 => ?_) (fun h1 => ?_)
  · replace h := h.1 h1
    refine wp_iconst dX11_at_27 (by decide) ?_
    exact wp_iret dX11_at_28 rfl (fun _ => h)
  · replace h := h.2 h1
    refine wp_iload_n dX11_at_4 rfl rfl ?_
    refine wp_aload_n dX11_at_5 rfl rfl (by first | exact Or.inl (by decide) | exact Or.inl (by omega) | exact Or.inr (by decide) | exact Or.inr (by omega)) ?_
    refine wp_getR dX11_at_6 fX11_60 rfl (by decide) ?_
    refine wp_topR (x' := 28) rfl ?_
    refine wp_getI dX11_at_9 fX11_171 rfl (by decide) ?_
    refine wp_icmp_ge (tgt := 27) dX11_at_12 (by decide) (fun h12 => ?_) (fun h12 => ?_)
    · replace h := h.2 h12
      refine wp_iconst dX11_at_27 (by decide) ?_
      exact wp_iret dX11_at_28 rfl (fun _ => h)
    · replace h := h.1 h12
      refine wp_aload_n dX11_at_15 rfl rfl (by first | exact Or.inl (by decide) | exact Or.inl (by omega) | exact Or.inr (by decide) | exact Or.inr (by omega)) ?_
      refine wp_getR dX11_at_16 fX11_60 rfl (by decide) ?_
      refine wp_topR (x' := 28) rfl ?_
      refine wp_iload_n dX11_at_19 rfl rfl ?_
      refine wp_iload_n dX11_at_20 rfl rfl ?_
      refine wp_cVq (n := 2) (mt' := mX0_byteOf) (as := [vI l1, vI l2]) (rest := []) _ dX11_at_21 lX11_189 kX0_byteOf vX0_byteOf (by decide) (by decide +kernel) rfl (Nat.le_of_ble_eq_true rfl) (by decide) rfl rfl rfl (Nat.le_of_ble_eq_true rfl) (fun hM hS => h) (fun r M' hq hM => ?_)
      obtain ⟨x21, m21, n21, rfl, rfl, h⟩ := rI_out hq
      refine wp_goto (tgt := 28) dX11_at_24 (by decide) ?_
      exact wp_iret dX11_at_28 rfl (fun _ => h)
theorem dX12_at_0 : decode cX12_at 0 = .ok (.iload_n 1, 1) := by decide +kernel
theorem dX12_at_1 : decode cX12_at 1 = .ok (.i2l, 1) := by decide +kernel
theorem dX12_at_2 : decode cX12_at 2 = .ok (.lconst 0, 1) := by decide +kernel
theorem dX12_at_3 : decode cX12_at 3 = .ok (.aload_n 0, 1) := by decide +kernel
theorem dX12_at_4 : decode cX12_at 4 = .ok (.getfield 501, 3) := by decide +kernel
theorem dX12_at_7 : decode cX12_at 7 = .ok (.iconst 1, 1) := by decide +kernel
theorem dX12_at_8 : decode cX12_at 8 = .ok (.isub, 1) := by decide +kernel
theorem dX12_at_9 : decode cX12_at 9 = .ok (.i2l, 1) := by decide +kernel
theorem dX12_at_10 : decode cX12_at 10 = .ok (.invokestatic 256, 3) := by decide +kernel
theorem dX12_at_13 : decode cX12_at 13 = .ok (.ifCond .eq 39, 3) := by decide +kernel
theorem dX12_at_16 : decode cX12_at 16 = .ok (.iload_n 2, 1) := by decide +kernel
theorem dX12_at_17 : decode cX12_at 17 = .ok (.i2l, 1) := by decide +kernel
theorem dX12_at_18 : decode cX12_at 18 = .ok (.lconst 0, 1) := by decide +kernel
theorem dX12_at_19 : decode cX12_at 19 = .ok (.aload_n 0, 1) := by decide +kernel
theorem dX12_at_20 : decode cX12_at 20 = .ok (.getfield 219, 3) := by decide +kernel
theorem dX12_at_23 : decode cX12_at 23 = .ok (.iload_n 1, 1) := by decide +kernel
theorem dX12_at_24 : decode cX12_at 24 = .ok (.iaload, 1) := by decide +kernel
theorem dX12_at_25 : decode cX12_at 25 = .ok (.iconst 1, 1) := by decide +kernel
theorem dX12_at_26 : decode cX12_at 26 = .ok (.isub, 1) := by decide +kernel
theorem dX12_at_27 : decode cX12_at 27 = .ok (.i2l, 1) := by decide +kernel
theorem dX12_at_28 : decode cX12_at 28 = .ok (.invokestatic 256, 3) := by decide +kernel
theorem dX12_at_31 : decode cX12_at 31 = .ok (.ifCond .eq 21, 3) := by decide +kernel
theorem dX12_at_34 : decode cX12_at 34 = .ok (.aload_n 0, 1) := by decide +kernel
theorem dX12_at_35 : decode cX12_at 35 = .ok (.getfield 216, 3) := by decide +kernel
theorem dX12_at_38 : decode cX12_at 38 = .ok (.bipush 60, 2) := by decide +kernel
theorem dX12_at_40 : decode cX12_at 40 = .ok (.iload_n 1, 1) := by decide +kernel
theorem dX12_at_41 : decode cX12_at 41 = .ok (.imul, 1) := by decide +kernel
theorem dX12_at_42 : decode cX12_at 42 = .ok (.iload_n 2, 1) := by decide +kernel
theorem dX12_at_43 : decode cX12_at 43 = .ok (.iadd, 1) := by decide +kernel
theorem dX12_at_44 : decode cX12_at 44 = .ok (.baload, 1) := by decide +kernel
theorem dX12_at_45 : decode cX12_at 45 = .ok (.sipush 255, 3) := by decide +kernel
theorem dX12_at_48 : decode cX12_at 48 = .ok (.iand, 1) := by decide +kernel
theorem dX12_at_49 : decode cX12_at 49 = .ok (.goto 4, 3) := by decide +kernel
theorem dX12_at_52 : decode cX12_at 52 = .ok (.iconst (-1), 1) := by decide +kernel
theorem dX12_at_53 : decode cX12_at 53 = .ok (.ireturn, 1) := by decide +kernel
theorem v_X12_at_0 {cs : Cs} {Q : Option AV → Mm → Prop} {MI ML : Nat → Nat → Int} {d e nw th x : Nat} {l1 l2 : Int}
    (h : (-2147483648 ≤ (MI 124 86) - 1 ∧ (MI 124 86) - 1 < 2147483648) ∧ wp cs mX12_in KD (rI (GR d e nw th x) fun x10 m10 n10 => ((x10 = 0 → Q (some (vI (-1))) (m10, n10, (GR d e nw th x))) ∧ (x10 ≠ 0 → (0 ≤ l1 ∧ l1 < 4000) ∧ (-2147483648 ≤ (m10 192 l1.toNat) - 1 ∧ (m10 192 l1.toNat) - 1 < 2147483648) ∧ wp cs mX12_in KD (rI (GR d e nw th x) fun x28 m28 n28 => ((x28 = 0 → Q (some (vI (-1))) (m28, n28, (GR d e nw th x))) ∧ (x28 ≠ 0 → (-2147483648 ≤ 60 * l1 ∧ 60 * l1 < 2147483648) ∧ (-2147483648 ≤ (60 * l1) + l2 ∧ (60 * l1) + l2 < 2147483648) ∧ (0 ≤ ((60 * l1) + l2) ∧ ((60 * l1) + l2) < 240000) ∧ Q (some (vI (i_and (m28 191 ((60 * l1) + l2).toNat) 255))) (m28, n28, (GR d e nw th x))))) 0 (padL [vL l2, vL 0, vL ((m10 192 l1.toNat) - 1)] 6) [] (KD, m10, n10, (GR d e nw th x))))) 0 (padL [vL l1, vL 0, vL ((MI 124 86) - 1)] 6) [] (KD, MI, ML, (GR d e nw th x))) :
    wp cs mX12_at KD Q 0 (padL [vR 124, vI l1, vI l2] 3) [] (KD, MI, ML, (GR d e nw th x)) := by
  refine wp_L (L' := [some (vR 124), some (vI l1), some (vI l2)]) rfl ?_
  refine wp_iload_n dX12_at_0 rfl rfl ?_
  refine wp_i2l dX12_at_1 ?_
  refine wp_lconst (z := 0) dX12_at_2 (by decide +kernel) (by decide) ?_
  refine wp_aload_n dX12_at_3 rfl rfl (by first | exact Or.inl (by decide) | exact Or.inl (by omega) | exact Or.inr (by decide) | exact Or.inr (by omega)) ?_
  refine wp_getI dX12_at_4 fX12_501 rfl (by decide) ?_
  refine wp_iconst dX12_at_7 (by decide) ?_
  have c0 := h.1
  replace h := h.2
  refine wp_isubr dX12_at_8 c0 ?_
  refine wp_pc (pc' := 9) rfl ?_
  refine wp_i2l dX12_at_9 ?_
  refine wp_cSq (n := 3) (mt' := mX12_in) (as := [vL l1, vL 0, vL ((MI 124 86) - 1)]) (rest := []) _ dX12_at_10 lX12_256 kX12_in vX12_in (by decide) (by decide +kernel) rfl (Nat.le_of_ble_eq_true rfl) rfl (Nat.le_of_ble_eq_true rfl) (fun hM hS => h) (fun r M' hq hM => ?_)
  obtain ⟨x10, m10, n10, rfl, rfl, h⟩ := rI_out hq
  refine wp_if_eq (tgt := 52) dX12_at_13 (by decide) (fun h13 => ?_) (fun h13 => ?_)
  · replace h := h.1 h13
    refine wp_iconst dX12_at_52 (by decide) ?_
    exact wp_iret dX12_at_53 rfl (fun _ => h)
  · replace h := h.2 h13
    refine wp_iload_n dX12_at_16 rfl rfl ?_
    refine wp_i2l dX12_at_17 ?_
    refine wp_lconst (z := 0) dX12_at_18 (by decide +kernel) (by decide) ?_
    refine wp_aload_n dX12_at_19 rfl rfl (by first | exact Or.inl (by decide) | exact Or.inl (by omega) | exact Or.inr (by decide) | exact Or.inr (by omega)) ?_
    refine wp_getR dX12_at_20 fX12_219 rfl (by decide) ?_
    refine wp_topR (x' := 192) rfl ?_
    refine wp_iload_n dX12_at_23 rfl rfl ?_
    have c1 := h.1
    replace h := h.2
    refine wp_iald dX12_at_24 rfl (by decide) c1 ?_
    refine wp_pc (pc' := 25) rfl ?_
    refine wp_iconst dX12_at_25 (by decide) ?_
    have c2 := h.1
    replace h := h.2
    refine wp_isubr dX12_at_26 c2 ?_
    refine wp_i2l dX12_at_27 ?_
    refine wp_cSq (n := 3) (mt' := mX12_in) (as := [vL l2, vL 0, vL ((m10 192 l1.toNat) - 1)]) (rest := []) _ dX12_at_28 lX12_256 kX12_in vX12_in (by decide) (by decide +kernel) rfl (Nat.le_of_ble_eq_true rfl) rfl (Nat.le_of_ble_eq_true rfl) (fun hM hS => h) (fun r M' hq hM => ?_)
    obtain ⟨x28, m28, n28, rfl, rfl, h⟩ := rI_out hq
    refine wp_if_eq (tgt := 52) dX12_at_31 (by decide) (fun h31 => ?_) (fun h31 => ?_)
    · replace h := h.1 h31
      refine wp_iconst dX12_at_52 (by decide) ?_
      exact wp_iret dX12_at_53 rfl (fun _ => h)
    · replace h := h.2 h31
      refine wp_aload_n dX12_at_34 rfl rfl (by first | exact Or.inl (by decide) | exact Or.inl (by omega) | exact Or.inr (by decide) | exact Or.inr (by omega)) ?_
      refine wp_getR dX12_at_35 fX12_216 rfl (by decide) ?_
      refine wp_topR (x' := 191) rfl ?_
      refine wp_bipush dX12_at_38 (by decide +kernel) (by decide) ?_
      refine wp_iload_n dX12_at_40 rfl rfl ?_
      have c3 := h.1
      replace h := h.2
      refine wp_imulr dX12_at_41 c3 ?_
      refine wp_iload_n dX12_at_42 rfl rfl ?_
      have c4 := h.1
      replace h := h.2
      refine wp_iaddr dX12_at_43 c4 ?_
      refine wp_pc (pc' := 44) rfl ?_
      have c5 := h.1
      replace h := h.2
      refine wp_bald dX12_at_44 rfl (by decide) c5 ?_
      refine wp_sipush dX12_at_45 (by decide +kernel) (by decide) ?_
      refine wp_iand dX12_at_48 ?_
      refine wp_goto (tgt := 53) dX12_at_49 (by decide) ?_
      exact wp_iret dX12_at_53 rfl (fun _ => h)
