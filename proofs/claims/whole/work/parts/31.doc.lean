section P31
variable {cs : Cs} {Q : Option AV → Mm → Prop} {MI ML : Nat → Nat → Int} {b d e nw th x : Nat}
theorem dX3_isFull_0 : decode cX3_isFull 0 = .ok (.aload_n 0, 1) := by decide +kernel
theorem dX3_isFull_1 : decode cX3_isFull 1 = .ok (.getfield 67, 3) := by decide +kernel
theorem dX3_isFull_4 : decode cX3_isFull 4 = .ok (.aload_n 0, 1) := by decide +kernel
theorem dX3_isFull_5 : decode cX3_isFull 5 = .ok (.getfield 71, 3) := by decide +kernel
theorem dX3_isFull_8 : decode cX3_isFull 8 = .ok (.iadd, 1) := by decide +kernel
theorem dX3_isFull_9 : decode cX3_isFull 9 = .ok (.sipush 2000, 3) := by decide +kernel
theorem dX3_isFull_12 : decode cX3_isFull 12 = .ok (.if_icmp .lt 7, 3) := by decide +kernel
theorem dX3_isFull_15 : decode cX3_isFull 15 = .ok (.iconst 1, 1) := by decide +kernel
theorem dX3_isFull_16 : decode cX3_isFull 16 = .ok (.goto 4, 3) := by decide +kernel
theorem dX3_isFull_19 : decode cX3_isFull 19 = .ok (.iconst 0, 1) := by decide +kernel
theorem dX3_isFull_20 : decode cX3_isFull 20 = .ok (.ireturn, 1) := by decide +kernel
theorem w_X3_isFull (hbd : b = 38 ∨ b = 81) (h0 : 0 ≤ MI b 14 ∧ MI b 14 ≤ 2000) (h1 : 0 ≤ MI b 15 ∧ MI b 15 ≤ 2000) (hT : 2000 ≤ MI b 14 + MI b 15 → Q (some (vI 1)) (MI, ML, GR d e nw th x)) (hF : MI b 14 + MI b 15 < 2000 → Q (some (vI 0)) (MI, ML, GR d e nw th x)) : wp cs mX3_isFull KD Q 0 (padL [vR b] 1) [] (KD, MI, ML, GR d e nw th x) := by
  refine wp_L (L' := [some (vR b)]) rfl ?_
  refine wp_aload_n dX3_isFull_0 rfl rfl (by first | exact Or.inl (by decide) | exact Or.inl (by omega) | exact Or.inr (by decide) | exact Or.inr (by omega)) ?_
  refine wp_getI dX3_isFull_1 fX3_67 (kdb_0 hbd) (by omega) ?_
  refine wp_aload_n dX3_isFull_4 rfl rfl (by first | exact Or.inl (by decide) | exact Or.inl (by omega) | exact Or.inr (by decide) | exact Or.inr (by omega)) ?_
  refine wp_getI dX3_isFull_5 fX3_71 (kdb_0 hbd) (by omega) ?_
  refine wp_iaddr dX3_isFull_8 (by omega) ?_
  refine wp_sipush dX3_isFull_9 (by decide +kernel) (by decide) ?_
  refine wp_icmp_lt (tgt := 19) dX3_isFull_12 (by decide) (fun h12 => ?_) (fun h12 => ?_)
  · refine wp_iconst dX3_isFull_19 (by decide) ?_
    exact wp_zret dX3_isFull_20 rfl (Or.inl rfl) (fun _ => hF (by omega))
  · refine wp_iconst dX3_isFull_15 (by decide) ?_
    refine wp_goto (tgt := 20) dX3_isFull_16 (by decide) ?_
    exact wp_zret dX3_isFull_20 rfl (Or.inr rfl) (fun _ => hT (by omega))
theorem dX3_addValueByte_0 : decode cX3_addValueByte 0 = .ok (.aload_n 0, 1) := by decide +kernel
theorem dX3_addValueByte_1 : decode cX3_addValueByte 1 = .ok (.invokevirtual 98, 3) := by decide +kernel
theorem dX3_addValueByte_4 : decode cX3_addValueByte 4 = .ok (.ifCond .eq 5, 3) := by decide +kernel
theorem dX3_addValueByte_7 : decode cX3_addValueByte 7 = .ok (.iconst 0, 1) := by decide +kernel
theorem dX3_addValueByte_8 : decode cX3_addValueByte 8 = .ok (.ireturn, 1) := by decide +kernel
theorem dX3_addValueByte_9 : decode cX3_addValueByte 9 = .ok (.aload_n 0, 1) := by decide +kernel
theorem dX3_addValueByte_10 : decode cX3_addValueByte 10 = .ok (.getfield 60, 3) := by decide +kernel
theorem dX3_addValueByte_13 : decode cX3_addValueByte 13 = .ok (.aload_n 0, 1) := by decide +kernel
theorem dX3_addValueByte_14 : decode cX3_addValueByte 14 = .ok (.getfield 67, 3) := by decide +kernel
theorem dX3_addValueByte_17 : decode cX3_addValueByte 17 = .ok (.iload_n 1, 1) := by decide +kernel
theorem dX3_addValueByte_18 : decode cX3_addValueByte 18 = .ok (.i2b, 1) := by decide +kernel
theorem dX3_addValueByte_19 : decode cX3_addValueByte 19 = .ok (.bastore, 1) := by decide +kernel
theorem dX3_addValueByte_20 : decode cX3_addValueByte 20 = .ok (.aload_n 0, 1) := by decide +kernel
theorem dX3_addValueByte_21 : decode cX3_addValueByte 21 = .ok (.dup, 1) := by decide +kernel
theorem dX3_addValueByte_22 : decode cX3_addValueByte 22 = .ok (.getfield 67, 3) := by decide +kernel
theorem dX3_addValueByte_25 : decode cX3_addValueByte 25 = .ok (.iconst 1, 1) := by decide +kernel
theorem dX3_addValueByte_26 : decode cX3_addValueByte 26 = .ok (.iadd, 1) := by decide +kernel
theorem dX3_addValueByte_27 : decode cX3_addValueByte 27 = .ok (.putfield 67, 3) := by decide +kernel
theorem dX3_addValueByte_30 : decode cX3_addValueByte 30 = .ok (.iconst 1, 1) := by decide +kernel
theorem dX3_addValueByte_31 : decode cX3_addValueByte 31 = .ok (.ireturn, 1) := by decide +kernel
theorem w_X3_addValueByte {c : Int} (hbd : b = 38 ∨ b = 81) (h0 : 0 ≤ MI b 14 ∧ MI b 14 ≤ 2000) (h1 : 0 ≤ MI b 15 ∧ MI b 15 ≤ 2000) (hT : MI b 14 + MI b 15 < 2000 → Q (some (vI 1)) (up2 (up2 MI (b + 41) (MI b 14).toNat (i_2b c)) b 14 (MI b 14 + 1), ML, GR d e nw th x)) (hF : 2000 ≤ MI b 14 + MI b 15 → Q (some (vI 0)) (MI, ML, GR d e nw th x)) : wp cs mX3_addValueByte KD Q 0 (padL [vR b, vI c] 2) [] (KD, MI, ML, GR d e nw th x) := by
  refine wp_L (L' := [some (vR b), some (vI c)]) rfl ?_
  refine wp_aload_n dX3_addValueByte_0 rfl rfl (by first | exact Or.inl (by decide) | exact Or.inl (by omega) | exact Or.inr (by decide) | exact Or.inr (by omega)) ?_
  refine wp_cVq (n := 0) (mt' := mX3_isFull) (as := []) (rest := []) (fun r M' => (2000 ≤ MI b 14 + MI b 15 ∧ r = some (vI 1) ∧ M' = (MI, ML, GR d e nw th x)) ∨ (MI b 14 + MI b 15 < 2000 ∧ r = some (vI 0) ∧ M' = (MI, ML, GR d e nw th x))) dX3_addValueByte_1 lX3_98 kX3_isFull vX3_isFull (by decide) (by decide +kernel) rfl (Nat.le_of_ble_eq_true rfl) (by omega) (kdb_0 hbd) rfl rfl (Nat.le_of_ble_eq_true rfl) (fun hM hS => w_X3_isFull hbd h0 h1 (fun hs => Or.inl ⟨hs, rfl, rfl⟩) (fun hs => Or.inr ⟨hs, rfl, rfl⟩)) (fun r M' hq hM => ?_)
  rcases hq with ⟨hs, rfl, rfl⟩ | ⟨hs, rfl, rfl⟩
  · refine wp_if_eq (tgt := 9) dX3_addValueByte_4 (by decide) (fun q => absurd q (by decide)) (fun _ => ?_)
    refine wp_iconst dX3_addValueByte_7 (by decide) ?_
    exact wp_zret dX3_addValueByte_8 rfl (Or.inl rfl) (fun _ => hF hs)
  · refine wp_if_eq (tgt := 9) dX3_addValueByte_4 (by decide) (fun _ => ?_) (fun q => absurd q (by decide))
    refine wp_aload_n dX3_addValueByte_9 rfl rfl (by first | exact Or.inl (by decide) | exact Or.inl (by omega) | exact Or.inr (by decide) | exact Or.inr (by omega)) ?_
    refine wp_getR dX3_addValueByte_10 fX3_60 (kdb_0 hbd) (by omega) ?_
    refine wp_topR (x' := (b + 41)) (grb_0_12 hbd) ?_
    refine wp_aload_n dX3_addValueByte_13 rfl rfl (by first | exact Or.inl (by decide) | exact Or.inl (by omega) | exact Or.inr (by decide) | exact Or.inr (by omega)) ?_
    refine wp_getI dX3_addValueByte_14 fX3_67 (kdb_0 hbd) (by omega) ?_
    refine wp_iload_n dX3_addValueByte_17 rfl rfl ?_
    refine wp_i2b dX3_addValueByte_18 ?_
    refine wp_pc (pc' := 19) rfl ?_
    refine wp_bast dX3_addValueByte_19 (kdb_41 hbd) (by omega) (by omega) (b_2b _) ?_
    refine wp_aload_n dX3_addValueByte_20 rfl rfl (by first | exact Or.inl (by decide) | exact Or.inl (by omega) | exact Or.inr (by decide) | exact Or.inr (by omega)) ?_
    refine wp_dup dX3_addValueByte_21 (fun x e => by cases e) ?_
    refine wp_getI dX3_addValueByte_22 fX3_67 (kdb_0 hbd) (by omega) ?_
    refine wp_topI (x' := MI b 14) (by simp [up2]) ?_
    refine wp_iconst dX3_addValueByte_25 (by decide) ?_
    refine wp_iaddr dX3_addValueByte_26 (by omega) ?_
    refine wp_putI dX3_addValueByte_27 pX3_67 (kdb_0 hbd) (by omega) ?_
    refine wp_iconst dX3_addValueByte_30 (by decide) ?_
    refine wp_pc (pc' := 31) rfl ?_
    exact wp_zret dX3_addValueByte_31 rfl (Or.inr rfl) (fun _ => hT hs)
theorem dX3_addTextByte_0 : decode cX3_addTextByte 0 = .ok (.aload_n 0, 1) := by decide +kernel
theorem dX3_addTextByte_1 : decode cX3_addTextByte 1 = .ok (.invokevirtual 98, 3) := by decide +kernel
theorem dX3_addTextByte_4 : decode cX3_addTextByte 4 = .ok (.ifCond .eq 5, 3) := by decide +kernel
theorem dX3_addTextByte_7 : decode cX3_addTextByte 7 = .ok (.iconst 0, 1) := by decide +kernel
theorem dX3_addTextByte_8 : decode cX3_addTextByte 8 = .ok (.ireturn, 1) := by decide +kernel
theorem dX3_addTextByte_9 : decode cX3_addTextByte 9 = .ok (.aload_n 0, 1) := by decide +kernel
theorem dX3_addTextByte_10 : decode cX3_addTextByte 10 = .ok (.getfield 64, 3) := by decide +kernel
theorem dX3_addTextByte_13 : decode cX3_addTextByte 13 = .ok (.aload_n 0, 1) := by decide +kernel
theorem dX3_addTextByte_14 : decode cX3_addTextByte 14 = .ok (.getfield 71, 3) := by decide +kernel
theorem dX3_addTextByte_17 : decode cX3_addTextByte 17 = .ok (.iload_n 1, 1) := by decide +kernel
theorem dX3_addTextByte_18 : decode cX3_addTextByte 18 = .ok (.i2b, 1) := by decide +kernel
theorem dX3_addTextByte_19 : decode cX3_addTextByte 19 = .ok (.bastore, 1) := by decide +kernel
theorem dX3_addTextByte_20 : decode cX3_addTextByte 20 = .ok (.aload_n 0, 1) := by decide +kernel
theorem dX3_addTextByte_21 : decode cX3_addTextByte 21 = .ok (.dup, 1) := by decide +kernel
theorem dX3_addTextByte_22 : decode cX3_addTextByte 22 = .ok (.getfield 71, 3) := by decide +kernel
theorem dX3_addTextByte_25 : decode cX3_addTextByte 25 = .ok (.iconst 1, 1) := by decide +kernel
theorem dX3_addTextByte_26 : decode cX3_addTextByte 26 = .ok (.iadd, 1) := by decide +kernel
theorem dX3_addTextByte_27 : decode cX3_addTextByte 27 = .ok (.putfield 71, 3) := by decide +kernel
theorem dX3_addTextByte_30 : decode cX3_addTextByte 30 = .ok (.iconst 1, 1) := by decide +kernel
theorem dX3_addTextByte_31 : decode cX3_addTextByte 31 = .ok (.ireturn, 1) := by decide +kernel
theorem w_X3_addTextByte {c : Int} (hbd : b = 38 ∨ b = 81) (h0 : 0 ≤ MI b 14 ∧ MI b 14 ≤ 2000) (h1 : 0 ≤ MI b 15 ∧ MI b 15 ≤ 2000) (hT : MI b 14 + MI b 15 < 2000 → Q (some (vI 1)) (up2 (up2 MI (b + 42) (MI b 15).toNat (i_2b c)) b 15 (MI b 15 + 1), ML, GR d e nw th x)) (hF : 2000 ≤ MI b 14 + MI b 15 → Q (some (vI 0)) (MI, ML, GR d e nw th x)) : wp cs mX3_addTextByte KD Q 0 (padL [vR b, vI c] 2) [] (KD, MI, ML, GR d e nw th x) := by
  refine wp_L (L' := [some (vR b), some (vI c)]) rfl ?_
  refine wp_aload_n dX3_addTextByte_0 rfl rfl (by first | exact Or.inl (by decide) | exact Or.inl (by omega) | exact Or.inr (by decide) | exact Or.inr (by omega)) ?_
  refine wp_cVq (n := 0) (mt' := mX3_isFull) (as := []) (rest := []) (fun r M' => (2000 ≤ MI b 14 + MI b 15 ∧ r = some (vI 1) ∧ M' = (MI, ML, GR d e nw th x)) ∨ (MI b 14 + MI b 15 < 2000 ∧ r = some (vI 0) ∧ M' = (MI, ML, GR d e nw th x))) dX3_addTextByte_1 lX3_98 kX3_isFull vX3_isFull (by decide) (by decide +kernel) rfl (Nat.le_of_ble_eq_true rfl) (by omega) (kdb_0 hbd) rfl rfl (Nat.le_of_ble_eq_true rfl) (fun hM hS => w_X3_isFull hbd h0 h1 (fun hs => Or.inl ⟨hs, rfl, rfl⟩) (fun hs => Or.inr ⟨hs, rfl, rfl⟩)) (fun r M' hq hM => ?_)
  rcases hq with ⟨hs, rfl, rfl⟩ | ⟨hs, rfl, rfl⟩
  · refine wp_if_eq (tgt := 9) dX3_addTextByte_4 (by decide) (fun q => absurd q (by decide)) (fun _ => ?_)
    refine wp_iconst dX3_addTextByte_7 (by decide) ?_
    exact wp_zret dX3_addTextByte_8 rfl (Or.inl rfl) (fun _ => hF hs)
  · refine wp_if_eq (tgt := 9) dX3_addTextByte_4 (by decide) (fun _ => ?_) (fun q => absurd q (by decide))
    refine wp_aload_n dX3_addTextByte_9 rfl rfl (by first | exact Or.inl (by decide) | exact Or.inl (by omega) | exact Or.inr (by decide) | exact Or.inr (by omega)) ?_
    refine wp_getR dX3_addTextByte_10 fX3_64 (kdb_0 hbd) (by omega) ?_
    refine wp_topR (x' := (b + 42)) (grb_0_13 hbd) ?_
    refine wp_aload_n dX3_addTextByte_13 rfl rfl (by first | exact Or.inl (by decide) | exact Or.inl (by omega) | exact Or.inr (by decide) | exact Or.inr (by omega)) ?_
    refine wp_getI dX3_addTextByte_14 fX3_71 (kdb_0 hbd) (by omega) ?_
    refine wp_iload_n dX3_addTextByte_17 rfl rfl ?_
    refine wp_i2b dX3_addTextByte_18 ?_
    refine wp_pc (pc' := 19) rfl ?_
    refine wp_bast dX3_addTextByte_19 (kdb_42 hbd) (by omega) (by omega) (b_2b _) ?_
    refine wp_aload_n dX3_addTextByte_20 rfl rfl (by first | exact Or.inl (by decide) | exact Or.inl (by omega) | exact Or.inr (by decide) | exact Or.inr (by omega)) ?_
    refine wp_dup dX3_addTextByte_21 (fun x e => by cases e) ?_
    refine wp_getI dX3_addTextByte_22 fX3_71 (kdb_0 hbd) (by omega) ?_
    refine wp_topI (x' := MI b 15) (by simp [up2]) ?_
    refine wp_iconst dX3_addTextByte_25 (by decide) ?_
    refine wp_iaddr dX3_addTextByte_26 (by omega) ?_
    refine wp_putI dX3_addTextByte_27 pX3_71 (kdb_0 hbd) (by omega) ?_
    refine wp_iconst dX3_addTextByte_30 (by decide) ?_
    refine wp_pc (pc' := 31) rfl ?_
    exact wp_zret dX3_addTextByte_31 rfl (Or.inr rfl) (fun _ => hT hs)
theorem dX3_has_0 : decode cX3_has 0 = .ok (.iload_n 1, 1) := by decide +kernel
theorem dX3_has_1 : decode cX3_has 1 = .ok (.ifCond .lt 15, 3) := by decide +kernel
theorem dX3_has_4 : decode cX3_has 4 = .ok (.iload_n 1, 1) := by decide +kernel
theorem dX3_has_5 : decode cX3_has 5 = .ok (.aload_n 0, 1) := by decide +kernel
theorem dX3_has_6 : decode cX3_has 6 = .ok (.getfield 74, 3) := by decide +kernel
theorem dX3_has_9 : decode cX3_has 9 = .ok (.if_icmp .ge 7, 3) := by decide +kernel
theorem dX3_has_12 : decode cX3_has 12 = .ok (.iconst 1, 1) := by decide +kernel
theorem dX3_has_13 : decode cX3_has 13 = .ok (.goto 4, 3) := by decide +kernel
theorem dX3_has_16 : decode cX3_has 16 = .ok (.iconst 0, 1) := by decide +kernel
theorem dX3_has_17 : decode cX3_has 17 = .ok (.ireturn, 1) := by decide +kernel
theorem w_X3_has {k : Int} (hbd : b = 38 ∨ b = 81) (hT : 0 ≤ k ∧ k < MI b 16 → Q (some (vI 1)) (MI, ML, GR d e nw th x)) (hF : ¬ (0 ≤ k ∧ k < MI b 16) → Q (some (vI 0)) (MI, ML, GR d e nw th x)) : wp cs mX3_has KD Q 0 (padL [vR b, vI k] 2) [] (KD, MI, ML, GR d e nw th x) := by
  refine wp_L (L' := [some (vR b), some (vI k)]) rfl ?_
  refine wp_iload_n dX3_has_0 rfl rfl ?_
  refine wp_if_lt (tgt := 16) dX3_has_1 (by decide) (fun h1 => ?_) (fun h1 => ?_)
  · refine wp_iconst dX3_has_16 (by decide) ?_
    exact wp_zret dX3_has_17 rfl (Or.inl rfl) (fun _ => hF (by omega))
  · refine wp_iload_n dX3_has_4 rfl rfl ?_
    refine wp_aload_n dX3_has_5 rfl rfl (by first | exact Or.inl (by decide) | exact Or.inl (by omega) | exact Or.inr (by decide) | exact Or.inr (by omega)) ?_
    refine wp_getI dX3_has_6 fX3_74 (kdb_0 hbd) (by omega) ?_
    refine wp_icmp_ge (tgt := 16) dX3_has_9 (by decide) (fun h9 => ?_) (fun h9 => ?_)
    · refine wp_iconst dX3_has_16 (by decide) ?_
      exact wp_zret dX3_has_17 rfl (Or.inl rfl) (fun _ => hF (by omega))
    · refine wp_iconst dX3_has_12 (by decide) ?_
      refine wp_goto (tgt := 17) dX3_has_13 (by decide) ?_
      exact wp_zret dX3_has_17 rfl (Or.inr rfl) (fun _ => hT (by omega))
theorem dX3_close_0 : decode cX3_close 0 = .ok (.aload_n 0, 1) := by decide +kernel
theorem dX3_close_1 : decode cX3_close 1 = .ok (.getfield 51, 3) := by decide +kernel
theorem dX3_close_4 : decode cX3_close 4 = .ok (.iload_n 1, 1) := by decide +kernel
theorem dX3_close_5 : decode cX3_close 5 = .ok (.aload_n 0, 1) := by decide +kernel
theorem dX3_close_6 : decode cX3_close 6 = .ok (.getfield 74, 3) := by decide +kernel
theorem dX3_close_9 : decode cX3_close 9 = .ok (.iastore, 1) := by decide +kernel
theorem dX3_close_10 : decode cX3_close 10 = .ok (.aload_n 0, 1) := by decide +kernel
theorem dX3_close_11 : decode cX3_close 11 = .ok (.getfield 57, 3) := by decide +kernel
theorem dX3_close_14 : decode cX3_close 14 = .ok (.iload_n 1, 1) := by decide +kernel
theorem dX3_close_15 : decode cX3_close 15 = .ok (.aload_n 0, 1) := by decide +kernel
theorem dX3_close_16 : decode cX3_close 16 = .ok (.getfield 71, 3) := by decide +kernel
theorem dX3_close_19 : decode cX3_close 19 = .ok (.iastore, 1) := by decide +kernel
theorem dX3_close_20 : decode cX3_close 20 = .ok (.return_, 1) := by decide +kernel
theorem w_X3_close {k : Int} (hbd : b = 38 ∨ b = 81) (hk : 0 ≤ k ∧ k < 600) (hQ : Q none (up2 (up2 MI (b + 38) k.toNat (MI b 16)) (b + 40) k.toNat (MI b 15), ML, GR d e nw th x)) : wp cs mX3_close KD Q 0 (padL [vR b, vI k] 2) [] (KD, MI, ML, GR d e nw th x) := by
  refine wp_L (L' := [some (vR b), some (vI k)]) rfl ?_
  refine wp_aload_n dX3_close_0 rfl rfl (by first | exact Or.inl (by decide) | exact Or.inl (by omega) | exact Or.inr (by decide) | exact Or.inr (by omega)) ?_
  refine wp_getR dX3_close_1 fX3_51 (kdb_0 hbd) (by omega) ?_
  refine wp_topR (x' := (b + 38)) (grb_0_9 hbd) ?_
  refine wp_iload_n dX3_close_4 rfl rfl ?_
  refine wp_aload_n dX3_close_5 rfl rfl (by first | exact Or.inl (by decide) | exact Or.inl (by omega) | exact Or.inr (by decide) | exact Or.inr (by omega)) ?_
  refine wp_getI dX3_close_6 fX3_74 (kdb_0 hbd) (by omega) ?_
  refine wp_iast dX3_close_9 (kdb_38 hbd) (by omega) (by omega) ?_
  refine wp_aload_n dX3_close_10 rfl rfl (by first | exact Or.inl (by decide) | exact Or.inl (by omega) | exact Or.inr (by decide) | exact Or.inr (by omega)) ?_
  refine wp_pc (pc' := 11) rfl ?_
  refine wp_getR dX3_close_11 fX3_57 (kdb_0 hbd) (by omega) ?_
  refine wp_topR (x' := (b + 40)) (grb_0_11 hbd) ?_
  refine wp_iload_n dX3_close_14 rfl rfl ?_
  refine wp_aload_n dX3_close_15 rfl rfl (by first | exact Or.inl (by decide) | exact Or.inl (by omega) | exact Or.inr (by decide) | exact Or.inr (by omega)) ?_
  refine wp_getI dX3_close_16 fX3_71 (kdb_0 hbd) (by omega) ?_
  refine wp_topI (x' := MI b 15) (by simp [up2]) ?_
  refine wp_iast dX3_close_19 (kdb_40 hbd) (by omega) (by omega) ?_
  exact wp_vret dX3_close_20 rfl (fun _ => hQ)
theorem dX5_has_0 : decode cX5_has 0 = .ok (.iload_n 1, 1) := by decide +kernel
theorem dX5_has_1 : decode cX5_has 1 = .ok (.ifCond .lt 15, 3) := by decide +kernel
theorem dX5_has_4 : decode cX5_has 4 = .ok (.iload_n 1, 1) := by decide +kernel
theorem dX5_has_5 : decode cX5_has 5 = .ok (.aload_n 0, 1) := by decide +kernel
theorem dX5_has_6 : decode cX5_has 6 = .ok (.getfield 34, 3) := by decide +kernel
theorem dX5_has_9 : decode cX5_has 9 = .ok (.if_icmp .ge 7, 3) := by decide +kernel
theorem dX5_has_12 : decode cX5_has 12 = .ok (.iconst 1, 1) := by decide +kernel
theorem dX5_has_13 : decode cX5_has 13 = .ok (.goto 4, 3) := by decide +kernel
theorem dX5_has_16 : decode cX5_has 16 = .ok (.iconst 0, 1) := by decide +kernel
theorem dX5_has_17 : decode cX5_has 17 = .ok (.ireturn, 1) := by decide +kernel
theorem w_X5_has {k : Int} (hbd : b = 38 ∨ b = 81) (hT : 0 ≤ k ∧ k < MI (b + 1) 7 → Q (some (vI 1)) (MI, ML, GR d e nw th x)) (hF : ¬ (0 ≤ k ∧ k < MI (b + 1) 7) → Q (some (vI 0)) (MI, ML, GR d e nw th x)) : wp cs mX5_has KD Q 0 (padL [vR ((b + 1)), vI k] 2) [] (KD, MI, ML, GR d e nw th x) := by
  refine wp_L (L' := [some (vR ((b + 1))), some (vI k)]) rfl ?_
  refine wp_iload_n dX5_has_0 rfl rfl ?_
  refine wp_if_lt (tgt := 16) dX5_has_1 (by decide) (fun h1 => ?_) (fun h1 => ?_)
  · refine wp_iconst dX5_has_16 (by decide) ?_
    exact wp_zret dX5_has_17 rfl (Or.inl rfl) (fun _ => hF (by omega))
  · refine wp_iload_n dX5_has_4 rfl rfl ?_
    refine wp_aload_n dX5_has_5 rfl rfl (by first | exact Or.inl (by decide) | exact Or.inl (by omega) | exact Or.inr (by decide) | exact Or.inr (by omega)) ?_
    refine wp_getI dX5_has_6 fX5_34 (kdb_1 hbd) (by omega) ?_
    refine wp_icmp_ge (tgt := 16) dX5_has_9 (by decide) (fun h9 => ?_) (fun h9 => ?_)
    · refine wp_iconst dX5_has_16 (by decide) ?_
      exact wp_zret dX5_has_17 rfl (Or.inl rfl) (fun _ => hF (by omega))
    · refine wp_iconst dX5_has_12 (by decide) ?_
      refine wp_goto (tgt := 17) dX5_has_13 (by decide) ?_
      exact wp_zret dX5_has_17 rfl (Or.inr rfl) (fun _ => hT (by omega))
theorem dX5_lengthOf_0 : decode cX5_lengthOf 0 = .ok (.aload_n 0, 1) := by decide +kernel
theorem dX5_lengthOf_1 : decode cX5_lengthOf 1 = .ok (.iload_n 1, 1) := by decide +kernel
theorem dX5_lengthOf_2 : decode cX5_lengthOf 2 = .ok (.invokevirtual 79, 3) := by decide +kernel
theorem dX5_lengthOf_5 : decode cX5_lengthOf 5 = .ok (.ifCond .eq 12, 3) := by decide +kernel
theorem dX5_lengthOf_8 : decode cX5_lengthOf 8 = .ok (.aload_n 0, 1) := by decide +kernel
theorem dX5_lengthOf_9 : decode cX5_lengthOf 9 = .ok (.getfield 25, 3) := by decide +kernel
theorem dX5_lengthOf_12 : decode cX5_lengthOf 12 = .ok (.iload_n 1, 1) := by decide +kernel
theorem dX5_lengthOf_13 : decode cX5_lengthOf 13 = .ok (.iaload, 1) := by decide +kernel
theorem dX5_lengthOf_14 : decode cX5_lengthOf 14 = .ok (.goto 4, 3) := by decide +kernel
theorem dX5_lengthOf_17 : decode cX5_lengthOf 17 = .ok (.iconst 0, 1) := by decide +kernel
theorem dX5_lengthOf_18 : decode cX5_lengthOf 18 = .ok (.ireturn, 1) := by decide +kernel
theorem w_X5_lengthOf {k : Int} (hbd : b = 38 ∨ b = 81) (hn : MI (b + 1) 7 ≤ 2020) (hT : 0 ≤ k ∧ k < MI (b + 1) 7 → Q (some (vI (MI (b + 6) k.toNat))) (MI, ML, GR d e nw th x)) (hF : ¬ (0 ≤ k ∧ k < MI (b + 1) 7) → Q (some (vI 0)) (MI, ML, GR d e nw th x)) : wp cs mX5_lengthOf KD Q 0 (padL [vR ((b + 1)), vI k] 2) [] (KD, MI, ML, GR d e nw th x) := by
  refine wp_L (L' := [some (vR ((b + 1))), some (vI k)]) rfl ?_
  refine wp_aload_n dX5_lengthOf_0 rfl rfl (by first | exact Or.inl (by decide) | exact Or.inl (by omega) | exact Or.inr (by decide) | exact Or.inr (by omega)) ?_
  refine wp_iload_n dX5_lengthOf_1 rfl rfl ?_
  refine wp_cVq (n := 1) (mt' := mX5_has) (as := [vI k]) (rest := []) (fun r M' => ((0 ≤ k ∧ k < MI (b + 1) 7) ∧ r = some (vI 1) ∧ M' = (MI, ML, GR d e nw th x)) ∨ (¬ (0 ≤ k ∧ k < MI (b + 1) 7) ∧ r = some (vI 0) ∧ M' = (MI, ML, GR d e nw th x))) dX5_lengthOf_2 lX5_79 kX5_has vX5_has (by decide) (by decide +kernel) rfl (Nat.le_of_ble_eq_true rfl) (by omega) (kdb_1 hbd) rfl rfl (Nat.le_of_ble_eq_true rfl) (fun hM hS => w_X5_has hbd (fun hs => Or.inl ⟨hs, rfl, rfl⟩) (fun hs => Or.inr ⟨hs, rfl, rfl⟩)) (fun r M' hq hM => ?_)
  rcases hq with ⟨hs, rfl, rfl⟩ | ⟨hs, rfl, rfl⟩
  · refine wp_if_eq (tgt := 17) dX5_lengthOf_5 (by decide) (fun q => absurd q (by decide)) (fun _ => ?_)
    refine wp_aload_n dX5_lengthOf_8 rfl rfl (by first | exact Or.inl (by decide) | exact Or.inl (by omega) | exact Or.inr (by decide) | exact Or.inr (by omega)) ?_
    refine wp_getR dX5_lengthOf_9 fX5_25 (kdb_1 hbd) (by omega) ?_
    refine wp_topR (x' := (b + 6)) (grb_1_4 hbd) ?_
    refine wp_iload_n dX5_lengthOf_12 rfl rfl ?_
    refine wp_iald dX5_lengthOf_13 (kdb_6 hbd) (by omega) (by omega) ?_
    refine wp_goto (tgt := 18) dX5_lengthOf_14 (by decide) ?_
    exact wp_iret dX5_lengthOf_18 rfl (fun _ => hT hs)
  · refine wp_if_eq (tgt := 17) dX5_lengthOf_5 (by decide) (fun _ => ?_) (fun q => absurd q (by decide))
    refine wp_iconst dX5_lengthOf_17 (by decide) ?_
    exact wp_iret dX5_lengthOf_18 rfl (fun _ => hF hs)
theorem dX5_specOf_0 : decode cX5_specOf 0 = .ok (.aload_n 0, 1) := by decide +kernel
theorem dX5_specOf_1 : decode cX5_specOf 1 = .ok (.iload_n 1, 1) := by decide +kernel
theorem dX5_specOf_2 : decode cX5_specOf 2 = .ok (.invokevirtual 79, 3) := by decide +kernel
theorem dX5_specOf_5 : decode cX5_specOf 5 = .ok (.ifCond .eq 12, 3) := by decide +kernel
theorem dX5_specOf_8 : decode cX5_specOf 8 = .ok (.aload_n 0, 1) := by decide +kernel
theorem dX5_specOf_9 : decode cX5_specOf 9 = .ok (.getfield 15, 3) := by decide +kernel
theorem dX5_specOf_12 : decode cX5_specOf 12 = .ok (.iload_n 1, 1) := by decide +kernel
theorem dX5_specOf_13 : decode cX5_specOf 13 = .ok (.iaload, 1) := by decide +kernel
theorem dX5_specOf_14 : decode cX5_specOf 14 = .ok (.goto 4, 3) := by decide +kernel
theorem dX5_specOf_17 : decode cX5_specOf 17 = .ok (.iconst (-1), 1) := by decide +kernel
theorem dX5_specOf_18 : decode cX5_specOf 18 = .ok (.ireturn, 1) := by decide +kernel
theorem w_X5_specOf {k : Int} (hbd : b = 38 ∨ b = 81) (hn : MI (b + 1) 7 ≤ 2020) (hT : 0 ≤ k ∧ k < MI (b + 1) 7 → Q (some (vI (MI (b + 3) k.toNat))) (MI, ML, GR d e nw th x)) (hF : ¬ (0 ≤ k ∧ k < MI (b + 1) 7) → Q (some (vI (-1))) (MI, ML, GR d e nw th x)) : wp cs mX5_specOf KD Q 0 (padL [vR ((b + 1)), vI k] 2) [] (KD, MI, ML, GR d e nw th x) := by
  refine wp_L (L' := [some (vR ((b + 1))), some (vI k)]) rfl ?_
  refine wp_aload_n dX5_specOf_0 rfl rfl (by first | exact Or.inl (by decide) | exact Or.inl (by omega) | exact Or.inr (by decide) | exact Or.inr (by omega)) ?_
  refine wp_iload_n dX5_specOf_1 rfl rfl ?_
  refine wp_cVq (n := 1) (mt' := mX5_has) (as := [vI k]) (rest := []) (fun r M' => ((0 ≤ k ∧ k < MI (b + 1) 7) ∧ r = some (vI 1) ∧ M' = (MI, ML, GR d e nw th x)) ∨ (¬ (0 ≤ k ∧ k < MI (b + 1) 7) ∧ r = some (vI 0) ∧ M' = (MI, ML, GR d e nw th x))) dX5_specOf_2 lX5_79 kX5_has vX5_has (by decide) (by decide +kernel) rfl (Nat.le_of_ble_eq_true rfl) (by omega) (kdb_1 hbd) rfl rfl (Nat.le_of_ble_eq_true rfl) (fun hM hS => w_X5_has hbd (fun hs => Or.inl ⟨hs, rfl, rfl⟩) (fun hs => Or.inr ⟨hs, rfl, rfl⟩)) (fun r M' hq hM => ?_)
  rcases hq with ⟨hs, rfl, rfl⟩ | ⟨hs, rfl, rfl⟩
  · refine wp_if_eq (tgt := 17) dX5_specOf_5 (by decide) (fun q => absurd q (by decide)) (fun _ => ?_)
    refine wp_aload_n dX5_specOf_8 rfl rfl (by first | exact Or.inl (by decide) | exact Or.inl (by omega) | exact Or.inr (by decide) | exact Or.inr (by omega)) ?_
    refine wp_getR dX5_specOf_9 fX5_15 (kdb_1 hbd) (by omega) ?_
    refine wp_topR (x' := (b + 3)) (grb_1_1 hbd) ?_
    refine wp_iload_n dX5_specOf_12 rfl rfl ?_
    refine wp_iald dX5_specOf_13 (kdb_3 hbd) (by omega) (by omega) ?_
    refine wp_goto (tgt := 18) dX5_specOf_14 (by decide) ?_
    exact wp_iret dX5_specOf_18 rfl (fun _ => hT hs)
  · refine wp_if_eq (tgt := 17) dX5_specOf_5 (by decide) (fun _ => ?_) (fun q => absurd q (by decide))
    refine wp_iconst dX5_specOf_17 (by decide) ?_
    exact wp_iret dX5_specOf_18 rfl (fun _ => hF hs)
theorem dX5_ruleOf_0 : decode cX5_ruleOf 0 = .ok (.aload_n 0, 1) := by decide +kernel
theorem dX5_ruleOf_1 : decode cX5_ruleOf 1 = .ok (.iload_n 1, 1) := by decide +kernel
theorem dX5_ruleOf_2 : decode cX5_ruleOf 2 = .ok (.invokevirtual 79, 3) := by decide +kernel
theorem dX5_ruleOf_5 : decode cX5_ruleOf 5 = .ok (.ifCond .eq 12, 3) := by decide +kernel
theorem dX5_ruleOf_8 : decode cX5_ruleOf 8 = .ok (.aload_n 0, 1) := by decide +kernel
theorem dX5_ruleOf_9 : decode cX5_ruleOf 9 = .ok (.getfield 19, 3) := by decide +kernel
theorem dX5_ruleOf_12 : decode cX5_ruleOf 12 = .ok (.iload_n 1, 1) := by decide +kernel
theorem dX5_ruleOf_13 : decode cX5_ruleOf 13 = .ok (.iaload, 1) := by decide +kernel
theorem dX5_ruleOf_14 : decode cX5_ruleOf 14 = .ok (.goto 4, 3) := by decide +kernel
theorem dX5_ruleOf_17 : decode cX5_ruleOf 17 = .ok (.iconst (-1), 1) := by decide +kernel
theorem dX5_ruleOf_18 : decode cX5_ruleOf 18 = .ok (.ireturn, 1) := by decide +kernel
theorem w_X5_ruleOf {k : Int} (hbd : b = 38 ∨ b = 81) (hn : MI (b + 1) 7 ≤ 2020) (hT : 0 ≤ k ∧ k < MI (b + 1) 7 → Q (some (vI (MI (b + 4) k.toNat))) (MI, ML, GR d e nw th x)) (hF : ¬ (0 ≤ k ∧ k < MI (b + 1) 7) → Q (some (vI (-1))) (MI, ML, GR d e nw th x)) : wp cs mX5_ruleOf KD Q 0 (padL [vR ((b + 1)), vI k] 2) [] (KD, MI, ML, GR d e nw th x) := by
  refine wp_L (L' := [some (vR ((b + 1))), some (vI k)]) rfl ?_
  refine wp_aload_n dX5_ruleOf_0 rfl rfl (by first | exact Or.inl (by decide) | exact Or.inl (by omega) | exact Or.inr (by decide) | exact Or.inr (by omega)) ?_
  refine wp_iload_n dX5_ruleOf_1 rfl rfl ?_
  refine wp_cVq (n := 1) (mt' := mX5_has) (as := [vI k]) (rest := []) (fun r M' => ((0 ≤ k ∧ k < MI (b + 1) 7) ∧ r = some (vI 1) ∧ M' = (MI, ML, GR d e nw th x)) ∨ (¬ (0 ≤ k ∧ k < MI (b + 1) 7) ∧ r = some (vI 0) ∧ M' = (MI, ML, GR d e nw th x))) dX5_ruleOf_2 lX5_79 kX5_has vX5_has (by decide) (by decide +kernel) rfl (Nat.le_of_ble_eq_true rfl) (by omega) (kdb_1 hbd) rfl rfl (Nat.le_of_ble_eq_true rfl) (fun hM hS => w_X5_has hbd (fun hs => Or.inl ⟨hs, rfl, rfl⟩) (fun hs => Or.inr ⟨hs, rfl, rfl⟩)) (fun r M' hq hM => ?_)
  rcases hq with ⟨hs, rfl, rfl⟩ | ⟨hs, rfl, rfl⟩
  · refine wp_if_eq (tgt := 17) dX5_ruleOf_5 (by decide) (fun q => absurd q (by decide)) (fun _ => ?_)
    refine wp_aload_n dX5_ruleOf_8 rfl rfl (by first | exact Or.inl (by decide) | exact Or.inl (by omega) | exact Or.inr (by decide) | exact Or.inr (by omega)) ?_
    refine wp_getR dX5_ruleOf_9 fX5_19 (kdb_1 hbd) (by omega) ?_
    refine wp_topR (x' := (b + 4)) (grb_1_2 hbd) ?_
    refine wp_iload_n dX5_ruleOf_12 rfl rfl ?_
    refine wp_iald dX5_ruleOf_13 (kdb_4 hbd) (by omega) (by omega) ?_
    refine wp_goto (tgt := 18) dX5_ruleOf_14 (by decide) ?_
    exact wp_iret dX5_ruleOf_18 rfl (fun _ => hT hs)
  · refine wp_if_eq (tgt := 17) dX5_ruleOf_5 (by decide) (fun _ => ?_) (fun q => absurd q (by decide))
    refine wp_iconst dX5_ruleOf_17 (by decide) ?_
    exact wp_iret dX5_ruleOf_18 rfl (fun _ => hF hs)
end P31
