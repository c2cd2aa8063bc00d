theorem dX5_begin_0 : decode cX5_begin 0 = .ok (.iload_n 2, 1) := by decide +kernel
theorem dX5_begin_1 : decode cX5_begin 1 = .ok (.aload_n 1, 1) := by decide +kernel
theorem dX5_begin_2 : decode cX5_begin 2 = .ok (.arraylength, 1) := by decide +kernel
theorem dX5_begin_3 : decode cX5_begin 3 = .ok (.invokestatic 44, 3) := by decide +kernel
theorem dX5_begin_6 : decode cX5_begin 6 = .ok (.sipush 6000, 3) := by decide +kernel
theorem dX5_begin_9 : decode cX5_begin 9 = .ok (.invokestatic 44, 3) := by decide +kernel
theorem dX5_begin_12 : decode cX5_begin 12 = .ok (.istore_n 3, 1) := by decide +kernel
theorem dX5_begin_13 : decode cX5_begin 13 = .ok (.aload_n 1, 1) := by decide +kernel
theorem dX5_begin_14 : decode cX5_begin 14 = .ok (.iconst 0, 1) := by decide +kernel
theorem dX5_begin_15 : decode cX5_begin 15 = .ok (.aload_n 0, 1) := by decide +kernel
theorem dX5_begin_16 : decode cX5_begin 16 = .ok (.getfield 9, 3) := by decide +kernel
theorem dX5_begin_19 : decode cX5_begin 19 = .ok (.iconst 0, 1) := by decide +kernel
theorem dX5_begin_20 : decode cX5_begin 20 = .ok (.iconst 0, 1) := by decide +kernel
theorem dX5_begin_21 : decode cX5_begin 21 = .ok (.iload_n 3, 1) := by decide +kernel
theorem dX5_begin_22 : decode cX5_begin 22 = .ok (.invokestatic 50, 3) := by decide +kernel
theorem dX5_begin_25 : decode cX5_begin 25 = .ok (.invokestatic 53, 3) := by decide +kernel
theorem dX5_begin_28 : decode cX5_begin 28 = .ok (.aload_n 0, 1) := by decide +kernel
theorem dX5_begin_29 : decode cX5_begin 29 = .ok (.getfield 31, 3) := by decide +kernel
theorem dX5_begin_32 : decode cX5_begin 32 = .ok (.iconst (-1), 1) := by decide +kernel
theorem dX5_begin_33 : decode cX5_begin 33 = .ok (.invokestatic 38, 3) := by decide +kernel
theorem dX5_begin_36 : decode cX5_begin 36 = .ok (.aload_n 0, 1) := by decide +kernel
theorem dX5_begin_37 : decode cX5_begin 37 = .ok (.iconst 0, 1) := by decide +kernel
theorem dX5_begin_38 : decode cX5_begin 38 = .ok (.putfield 34, 3) := by decide +kernel
theorem dX5_begin_41 : decode cX5_begin 41 = .ok (.return_, 1) := by decide +kernel
theorem v_X5_begin_0 {cs : Cs} {Q : Option AV → Mm → Prop} {MI ML : Nat → Nat → Int} {b d e nw th x : Nat} {l2 : Int} (hbd : b = 38 ∨ b = 81)
    (h : ((0 : Int) ≤ (if 0 < (if 6000 < (if 6000 < l2 then 6000 else l2) then 6000 else (if 6000 < l2 then 6000 else l2)) then (if 6000 < (if 6000 < l2 then 6000 else l2) then 6000 else (if 6000 < l2 then 6000 else l2)) else 0) ∧ (0 : Int) ≤ 0 ∧ 0 + (if 0 < (if 6000 < (if 6000 < l2 then 6000 else l2) then 6000 else (if 6000 < l2 then 6000 else l2)) then (if 6000 < (if 6000 < l2 then 6000 else l2) then 6000 else (if 6000 < l2 then 6000 else l2)) else 0) ≤ 6000 ∧ (0 : Int) ≤ 0 ∧ 0 + (if 0 < (if 6000 < (if 6000 < l2 then 6000 else l2) then 6000 else (if 6000 < l2 then 6000 else l2)) then (if 6000 < (if 6000 < l2 then 6000 else l2) then 6000 else (if 6000 < l2 then 6000 else l2)) else 0) ≤ 6000 ∧ (∀ k, -128 ≤ MI 1 k ∧ MI 1 k < 128)) ∧ ∀ m25, m25 = cpy MI 1 0 (b + 2) 0 (if 0 < (if 6000 < (if 6000 < l2 then 6000 else l2) then 6000 else (if 6000 < l2 then 6000 else l2)) then (if 6000 < (if 6000 < l2 then 6000 else l2) then 6000 else (if 6000 < l2 then 6000 else l2)) else 0).toNat → wp cs mJ7_fill_53178 KD (rV (GR d e nw th x) fun m33 n33 => ∀ m38, m38 = up2 m33 (b + 1) 7 0 → Q none (m38, n33, (GR d e nw th x))) 0 (padL [vR (b + 8), vI (-1)] 4) [] (KD, m25, ML, (GR d e nw th x))) :
    wp cs mX5_begin KD Q 0 (padL [vR (b + 1), vR 1, vI l2] 4) [] (KD, MI, ML, (GR d e nw th x)) := by
  refine wp_L (L' := [some (vR (b + 1)), some (vR 1), some (vI l2), none]) rfl ?_
  refine wp_iload_n dX5_begin_0 rfl rfl ?_
  refine wp_aload_n dX5_begin_1 rfl rfl (by first | exact Or.inl (by decide) | exact Or.inl (by omega) | exact Or.inr (by decide) | exact Or.inr (by omega)) ?_
  refine wp_alen dX5_begin_2 rfl (by decide) (by decide) (by decide) ?_
  refine wp_topI (x' := 6000) rfl ?_
  refine wp_mmin dX5_begin_3 lX5_44 (Nat.le_of_ble_eq_true rfl) (by decide) (by decide) ⟨Nat.le_refl _, Nat.le_refl _⟩ ?_
  refine wp_sipush dX5_begin_6 (by decide +kernel) (by decide) ?_
  refine wp_mmin dX5_begin_9 lX5_44 (Nat.le_of_ble_eq_true rfl) (by decide) (by decide) ⟨Nat.le_refl _, Nat.le_refl _⟩ ?_
  refine wp_istore_n dX5_begin_12 rfl (by decide) (wp_L (L' := [some (vR (b + 1)), some (vR 1), some (vI l2), some (vI (if 6000 < (if 6000 < l2 then 6000 else l2) then 6000 else (if 6000 < l2 then 6000 else l2)))]) rfl ?_)
  refine wp_pc (pc' := 13) rfl ?_
  refine wp_aload_n dX5_begin_13 rfl rfl (by first | exact Or.inl (by decide) | exact Or.inl (by omega) | exact Or.inr (by decide) | exact Or.inr (by omega)) ?_
  refine wp_iconst dX5_begin_14 (by decide) ?_
  refine wp_aload_n dX5_begin_15 rfl rfl (by first | exact Or.inl (by decide) | exact Or.inl (by omega) | exact Or.inr (by decide) | exact Or.inr (by omega)) ?_
  refine wp_getR dX5_begin_16 fX5_9 (kdb_1 hbd) (by omega) ?_
  refine wp_topR (x' := (b + 2)) (grb_1_0 hbd) ?_
  refine wp_iconst dX5_begin_19 (by decide) ?_
  refine wp_iconst dX5_begin_20 (by decide) ?_
  refine wp_iload_n dX5_begin_21 rfl rfl ?_
  refine wp_mmax dX5_begin_22 lX5_50 (Nat.le_of_ble_eq_true rfl) (by decide) (by decide) ⟨Nat.le_refl _, Nat.le_refl _⟩ ?_
  refine wp_pc (pc' := 25) rfl ?_
  have c0 := h.1
  replace h := h.2
  refine wp_copyB dX5_begin_25 lX5_53 ac1 ac2 ac3 rfl (kdb_2 hbd) (by decide) (by omega) c0.2.1 c0.2.2.2.1 c0.1 c0.2.2.1 c0.2.2.2.2.1 c0.2.2.2.2.2 (by decide) (by decide) (by decide +kernel) (Nat.le_of_ble_eq_true rfl) ?_
  refine wp_gI (fun m25 e25 => ?_)
  replace h := h m25 e25
  refine wp_aload_n dX5_begin_28 rfl rfl (by first | exact Or.inl (by decide) | exact Or.inl (by omega) | exact Or.inr (by decide) | exact Or.inr (by omega)) ?_
  refine wp_getR dX5_begin_29 fX5_31 (kdb_1 hbd) (by omega) ?_
  refine wp_topR (x' := (b + 8)) (grb_1_6 hbd) ?_
  refine wp_iconst dX5_begin_32 (by decide) ?_
  refine wp_cSq (n := 2) (mt' := mJ7_fill_53178) (as := [vR (b + 8), vI (-1)]) (rest := []) _ dX5_begin_33 lX5_38 kJ7_fill_53178 vJ7_fill_53178 (by decide) (by decide +kernel) rfl (Nat.le_of_ble_eq_true rfl) rfl (Nat.le_of_ble_eq_true rfl) (fun hM hS => h) (fun r M' hq hM => ?_)
  obtain ⟨m33, n33, rfl, rfl, h⟩ := rV_out hq
  refine wp_aload_n dX5_begin_36 rfl rfl (by first | exact Or.inl (by decide) | exact Or.inl (by omega) | exact Or.inr (by decide) | exact Or.inr (by omega)) ?_
  refine wp_iconst dX5_begin_37 (by decide) ?_
  refine wp_putI dX5_begin_38 pX5_34 (kdb_1 hbd) (by omega) ?_
  refine wp_gI (fun m38 e38 => ?_)
  replace h := h m38 e38
  exact wp_vret dX5_begin_41 rfl (fun _ => h)
theorem dX7_begin_0 : decode cX7_begin 0 = .ok (.aload_n 0, 1) := by decide +kernel
theorem dX7_begin_1 : decode cX7_begin 1 = .ok (.iconst 0, 1) := by decide +kernel
theorem dX7_begin_2 : decode cX7_begin 2 = .ok (.putfield 45, 3) := by decide +kernel
theorem dX7_begin_5 : decode cX7_begin 5 = .ok (.aload_n 0, 1) := by decide +kernel
theorem dX7_begin_6 : decode cX7_begin 6 = .ok (.iconst 0, 1) := by decide +kernel
theorem dX7_begin_7 : decode cX7_begin 7 = .ok (.putfield 49, 3) := by decide +kernel
theorem dX7_begin_10 : decode cX7_begin 10 = .ok (.return_, 1) := by decide +kernel
theorem v_X7_begin_0 {cs : Cs} {Q : Option AV → Mm → Prop} {MI ML : Nat → Nat → Int} {b d e nw th x : Nat} (hbd : b = 38 ∨ b = 81)
    (h : ∀ m2, m2 = up2 MI (b + 20) 11 0 → ∀ m7, m7 = up2 m2 (b + 20) 12 0 → Q none (m7, ML, (GR d e nw th x))) :
    wp cs mX7_begin KD Q 0 (padL [vR (b + 20)] 1) [] (KD, MI, ML, (GR d e nw th x)) := by
  refine wp_L (L' := [some (vR (b + 20))]) rfl ?_
  refine wp_aload_n dX7_begin_0 rfl rfl (by first | exact Or.inl (by decide) | exact Or.inl (by omega) | exact Or.inr (by decide) | exact Or.inr (by omega)) ?_
  refine wp_iconst dX7_begin_1 (by decide) ?_
  refine wp_putI dX7_begin_2 pX7_45 (kdb_20 hbd) (by omega) ?_
  refine wp_gI (fun m2 e2 => ?_)
  replace h := h m2 e2
  refine wp_aload_n dX7_begin_5 rfl rfl (by first | exact Or.inl (by decide) | exact Or.inl (by omega) | exact Or.inr (by decide) | exact Or.inr (by omega)) ?_
  refine wp_iconst dX7_begin_6 (by decide) ?_
  refine wp_putI dX7_begin_7 pX7_49 (kdb_20 hbd) (by omega) ?_
  refine wp_gI (fun m7 e7 => ?_)
  replace h := h m7 e7
  exact wp_vret dX7_begin_10 rfl (fun _ => h)
theorem dX3_begin_0 : decode cX3_begin 0 = .ok (.aload_n 0, 1) := by decide +kernel
theorem dX3_begin_1 : decode cX3_begin 1 = .ok (.getfield 12, 3) := by decide +kernel
theorem dX3_begin_4 : decode cX3_begin 4 = .ok (.aload_n 1, 1) := by decide +kernel
theorem dX3_begin_5 : decode cX3_begin 5 = .ok (.iload_n 2, 1) := by decide +kernel
theorem dX3_begin_6 : decode cX3_begin 6 = .ok (.invokevirtual 83, 3) := by decide +kernel
theorem dX3_begin_9 : decode cX3_begin 9 = .ok (.aload_n 0, 1) := by decide +kernel
theorem dX3_begin_10 : decode cX3_begin 10 = .ok (.getfield 21, 3) := by decide +kernel
theorem dX3_begin_13 : decode cX3_begin 13 = .ok (.iconst 0, 1) := by decide +kernel
theorem dX3_begin_14 : decode cX3_begin 14 = .ok (.putfield 87, 3) := by decide +kernel
theorem dX3_begin_17 : decode cX3_begin 17 = .ok (.aload_n 0, 1) := by decide +kernel
theorem dX3_begin_18 : decode cX3_begin 18 = .ok (.getfield 28, 3) := by decide +kernel
theorem dX3_begin_21 : decode cX3_begin 21 = .ok (.invokevirtual 88, 3) := by decide +kernel
theorem dX3_begin_24 : decode cX3_begin 24 = .ok (.aload_n 0, 1) := by decide +kernel
theorem dX3_begin_25 : decode cX3_begin 25 = .ok (.iconst 0, 1) := by decide +kernel
theorem dX3_begin_26 : decode cX3_begin 26 = .ok (.putfield 67, 3) := by decide +kernel
theorem dX3_begin_29 : decode cX3_begin 29 = .ok (.aload_n 0, 1) := by decide +kernel
theorem dX3_begin_30 : decode cX3_begin 30 = .ok (.iconst 0, 1) := by decide +kernel
theorem dX3_begin_31 : decode cX3_begin 31 = .ok (.putfield 71, 3) := by decide +kernel
theorem dX3_begin_34 : decode cX3_begin 34 = .ok (.aload_n 0, 1) := by decide +kernel
theorem dX3_begin_35 : decode cX3_begin 35 = .ok (.iconst 0, 1) := by decide +kernel
theorem dX3_begin_36 : decode cX3_begin 36 = .ok (.putfield 74, 3) := by decide +kernel
theorem dX3_begin_39 : decode cX3_begin 39 = .ok (.aload_n 0, 1) := by decide +kernel
theorem dX3_begin_40 : decode cX3_begin 40 = .ok (.iconst (-1), 1) := by decide +kernel
theorem dX3_begin_41 : decode cX3_begin 41 = .ok (.putfield 77, 3) := by decide +kernel
theorem dX3_begin_44 : decode cX3_begin 44 = .ok (.aload_n 0, 1) := by decide +kernel
theorem dX3_begin_45 : decode cX3_begin 45 = .ok (.iconst 0, 1) := by decide +kernel
theorem dX3_begin_46 : decode cX3_begin 46 = .ok (.putfield 80, 3) := by decide +kernel
theorem dX3_begin_49 : decode cX3_begin 49 = .ok (.return_, 1) := by decide +kernel
theorem v_X3_begin_0 {cs : Cs} {Q : Option AV → Mm → Prop} {MI ML : Nat → Nat → Int} {b d e nw th x : Nat} {l2 : Int} (hbd : b = 38 ∨ b = 81)
    (h : wp cs mX5_begin KD (rV (GR d e nw th x) fun m6 n6 => ∀ m14, m14 = up2 m6 (b + 9) 10 0 → wp cs mX7_begin KD (rV (GR d e nw th x) fun m21 n21 => ∀ m26, m26 = up2 m21 b 14 0 → ∀ m31, m31 = up2 m26 b 15 0 → ∀ m36, m36 = up2 m31 b 16 0 → ∀ m41, m41 = up2 m36 b 17 (-1) → ∀ m46, m46 = up2 m41 b 18 0 → Q none (m46, n21, (GR d e nw th x))) 0 (padL [vR (b + 20)] 1) [] (KD, m14, n6, (GR d e nw th x))) 0 (padL [vR (b + 1), vR 1, vI l2] 4) [] (KD, MI, ML, (GR d e nw th x))) :
    wp cs mX3_begin KD Q 0 (padL [vR b, vR 1, vI l2] 3) [] (KD, MI, ML, (GR d e nw th x)) := by
  refine wp_L (L' := [some (vR b), some (vR 1), some (vI l2)]) rfl ?_
  refine wp_aload_n dX3_begin_0 rfl rfl (by first | exact Or.inl (by decide) | exact Or.inl (by omega) | exact Or.inr (by decide) | exact Or.inr (by omega)) ?_
  refine wp_getR dX3_begin_1 fX3_12 (show KD[b]? = some (7, 19) from kdb_0 hbd) (by omega) ?_
  refine wp_topR (x' := (b + 1)) (grb_0_0 hbd) ?_
  refine wp_aload_n dX3_begin_4 rfl rfl (by first | exact Or.inl (by decide) | exact Or.inl (by omega) | exact Or.inr (by decide) | exact Or.inr (by omega)) ?_
  refine wp_iload_n dX3_begin_5 rfl rfl ?_
  refine wp_cVq (n := 2) (mt' := mX5_begin) (as := [vR 1, vI l2]) (rest := []) _ dX3_begin_6 lX3_83 kX5_begin vX5_begin (by decide) (by decide +kernel) rfl (Nat.le_of_ble_eq_true rfl) (by omega) (kdb_1 hbd) rfl rfl (Nat.le_of_ble_eq_true rfl) (fun hM hS => h) (fun r M' hq hM => ?_)
  obtain ⟨m6, n6, rfl, rfl, h⟩ := rV_out hq
  refine wp_aload_n dX3_begin_9 rfl rfl (by first | exact Or.inl (by decide) | exact Or.inl (by omega) | exact Or.inr (by decide) | exact Or.inr (by omega)) ?_
  refine wp_getR dX3_begin_10 fX3_21 (show KD[b]? = some (7, 19) from kdb_0 hbd) (by omega) ?_
  refine wp_topR (x' := (b + 9)) (grb_0_1 hbd) ?_
  refine wp_iconst dX3_begin_13 (by decide) ?_
  refine wp_putI dX3_begin_14 pX3_87 (kdb_9 hbd) (by omega) ?_
  refine wp_gI (fun m14 e14 => ?_)
  replace h := h m14 e14
  refine wp_aload_n dX3_begin_17 rfl rfl (by first | exact Or.inl (by decide) | exact Or.inl (by omega) | exact Or.inr (by decide) | exact Or.inr (by omega)) ?_
  refine wp_getR dX3_begin_18 fX3_28 (show KD[b]? = some (7, 19) from kdb_0 hbd) (by omega) ?_
  refine wp_topR (x' := (b + 20)) (grb_0_2 hbd) ?_
  refine wp_cVq (n := 0) (mt' := mX7_begin) (as := []) (rest := []) _ dX3_begin_21 lX3_88 kX7_begin vX7_begin (by decide) (by decide +kernel) rfl (Nat.le_of_ble_eq_true rfl) (by omega) (kdb_20 hbd) rfl rfl (Nat.le_of_ble_eq_true rfl) (fun hM hS => h) (fun r M' hq hM => ?_)
  obtain ⟨m21, n21, rfl, rfl, h⟩ := rV_out hq
  refine wp_aload_n dX3_begin_24 rfl rfl (by first | exact Or.inl (by decide) | exact Or.inl (by omega) | exact Or.inr (by decide) | exact Or.inr (by omega)) ?_
  refine wp_iconst dX3_begin_25 (by decide) ?_
  refine wp_putI dX3_begin_26 pX3_67 (show KD[b]? = some (7, 19) from kdb_0 hbd) (by omega) ?_
  refine wp_gI (fun m26 e26 => ?_)
  replace h := h m26 e26
  refine wp_aload_n dX3_begin_29 rfl rfl (by first | exact Or.inl (by decide) | exact Or.inl (by omega) | exact Or.inr (by decide) | exact Or.inr (by omega)) ?_
  refine wp_iconst dX3_begin_30 (by decide) ?_
  refine wp_putI dX3_begin_31 pX3_71 (show KD[b]? = some (7, 19) from kdb_0 hbd) (by omega) ?_
  refine wp_gI (fun m31 e31 => ?_)
  replace h := h m31 e31
  refine wp_aload_n dX3_begin_34 rfl rfl (by first | exact Or.inl (by decide) | exact Or.inl (by omega) | exact Or.inr (by decide) | exact Or.inr (by omega)) ?_
  refine wp_pc (pc' := 35) rfl ?_
  refine wp_iconst dX3_begin_35 (by decide) ?_
  refine wp_putI dX3_begin_36 pX3_74 (show KD[b]? = some (7, 19) from kdb_0 hbd) (by omega) ?_
  refine wp_gI (fun m36 e36 => ?_)
  replace h := h m36 e36
  refine wp_aload_n dX3_begin_39 rfl rfl (by first | exact Or.inl (by decide) | exact Or.inl (by omega) | exact Or.inr (by decide) | exact Or.inr (by omega)) ?_
  refine wp_iconst dX3_begin_40 (by decide) ?_
  refine wp_putI dX3_begin_41 pX3_77 (show KD[b]? = some (7, 19) from kdb_0 hbd) (by omega) ?_
  refine wp_gI (fun m41 e41 => ?_)
  replace h := h m41 e41
  refine wp_aload_n dX3_begin_44 rfl rfl (by first | exact Or.inl (by decide) | exact Or.inl (by omega) | exact Or.inr (by decide) | exact Or.inr (by omega)) ?_
  refine wp_iconst dX3_begin_45 (by decide) ?_
  refine wp_putI dX3_begin_46 pX3_80 (show KD[b]? = some (7, 19) from kdb_0 hbd) (by omega) ?_
  refine wp_gI (fun m46 e46 => ?_)
  replace h := h m46 e46
  refine wp_pc (pc' := 49) rfl ?_
  exact wp_vret dX3_begin_49 rfl (fun _ => h)
theorem dX5_bucketOf_0 : decode cX5_bucketOf 0 = .ok (.iconst 0, 1) := by decide +kernel
theorem dX5_bucketOf_1 : decode cX5_bucketOf 1 = .ok (.istore_n 1, 1) := by decide +kernel
theorem dX5_bucketOf_2 : decode cX5_bucketOf 2 = .ok (.iconst 0, 1) := by decide +kernel
theorem dX5_bucketOf_3 : decode cX5_bucketOf 3 = .ok (.istore_n 2, 1) := by decide +kernel
theorem dX5_bucketOf_4 : decode cX5_bucketOf 4 = .ok (.iload_n 2, 1) := by decide +kernel
theorem dX5_bucketOf_5 : decode cX5_bucketOf 5 = .ok (.aload_n 0, 1) := by decide +kernel
theorem dX5_bucketOf_6 : decode cX5_bucketOf 6 = .ok (.getfield 59, 3) := by decide +kernel
theorem dX5_bucketOf_9 : decode cX5_bucketOf 9 = .ok (.if_icmp .ge 26, 3) := by decide +kernel
theorem dX5_bucketOf_12 : decode cX5_bucketOf 12 = .ok (.iload_n 1, 1) := by decide +kernel
theorem dX5_bucketOf_13 : decode cX5_bucketOf 13 = .ok (.bipush 31, 2) := by decide +kernel
theorem dX5_bucketOf_15 : decode cX5_bucketOf 15 = .ok (.imul, 1) := by decide +kernel
theorem dX5_bucketOf_16 : decode cX5_bucketOf 16 = .ok (.aload_n 0, 1) := by decide +kernel
theorem dX5_bucketOf_17 : decode cX5_bucketOf 17 = .ok (.getfield 64, 3) := by decide +kernel
theorem dX5_bucketOf_20 : decode cX5_bucketOf 20 = .ok (.aload_n 0, 1) := by decide +kernel
theorem dX5_bucketOf_21 : decode cX5_bucketOf 21 = .ok (.getfield 65, 3) := by decide +kernel
theorem dX5_bucketOf_24 : decode cX5_bucketOf 24 = .ok (.iload_n 2, 1) := by decide +kernel
theorem dX5_bucketOf_25 : decode cX5_bucketOf 25 = .ok (.iadd, 1) := by decide +kernel
theorem dX5_bucketOf_26 : decode cX5_bucketOf 26 = .ok (.baload, 1) := by decide +kernel
theorem dX5_bucketOf_27 : decode cX5_bucketOf 27 = .ok (.iadd, 1) := by decide +kernel
theorem dX5_bucketOf_28 : decode cX5_bucketOf 28 = .ok (.istore_n 1, 1) := by decide +kernel
theorem dX5_bucketOf_29 : decode cX5_bucketOf 29 = .ok (.iinc 2 1, 3) := by decide +kernel
theorem dX5_bucketOf_32 : decode cX5_bucketOf 32 = .ok (.goto (-28), 3) := by decide +kernel
theorem dX5_bucketOf_35 : decode cX5_bucketOf 35 = .ok (.iload_n 1, 1) := by decide +kernel
theorem dX5_bucketOf_36 : decode cX5_bucketOf 36 = .ok (.iload_n 1, 1) := by decide +kernel
theorem dX5_bucketOf_37 : decode cX5_bucketOf 37 = .ok (.bipush 8, 2) := by decide +kernel
theorem dX5_bucketOf_39 : decode cX5_bucketOf 39 = .ok (.iushr, 1) := by decide +kernel
theorem dX5_bucketOf_40 : decode cX5_bucketOf 40 = .ok (.ixor, 1) := by decide +kernel
theorem dX5_bucketOf_41 : decode cX5_bucketOf 41 = .ok (.sipush 255, 3) := by decide +kernel
theorem dX5_bucketOf_44 : decode cX5_bucketOf 44 = .ok (.iand, 1) := by decide +kernel
theorem dX5_bucketOf_45 : decode cX5_bucketOf 45 = .ok (.ireturn, 1) := by decide +kernel
theorem v_X5_bucketOf_0 {cs : Cs} {Q : Option AV → Mm → Prop} {MI ML : Nat → Nat → Int} {d e nw th : Nat}
    (h : wp cs mX5_bucketOf KD Q 4 [some (vR 2), some (vI 0), some (vI 0)] [] (KD, MI, ML, (GR d e nw th 1))) :
    wp cs mX5_bucketOf KD Q 0 (padL [vR 2] 3) [] (KD, MI, ML, (GR d e nw th 1)) := by
  refine wp_L (L' := [some (vR 2), none, none]) rfl ?_
  refine wp_iconst dX5_bucketOf_0 (by decide) ?_
  refine wp_istore_n dX5_bucketOf_1 rfl (by decide) (wp_L (L' := [some (vR 2), some (vI 0), none]) rfl ?_)
  refine wp_iconst dX5_bucketOf_2 (by decide) ?_
  refine wp_istore_n dX5_bucketOf_3 rfl (by decide) (wp_L (L' := [some (vR 2), some (vI 0), some (vI 0)]) rfl ?_)
  exact h
theorem v_X5_bucketOf_4 {cs : Cs} {Q : Option AV → Mm → Prop} {MI ML : Nat → Nat → Int} {d e nw th : Nat} {l1 l2 : Int}
    (h : ((l2 < (MI 2 4) → (-2147483648 ≤ (MI 2 3) + l2 ∧ (MI 2 3) + l2 < 2147483648) ∧ (0 ≤ ((MI 2 3) + l2) ∧ ((MI 2 3) + l2) < 6000) ∧ (-2147483648 ≤ l2 + 1 ∧ l2 + 1 < 2147483648) ∧ wp cs mX5_bucketOf KD Q 4 [some (vR 2), some (vI (w32 ((w32 (l1 * 31)) + (MI 1 ((MI 2 3) + l2).toNat)))), some (vI (l2 + 1))] [] (KD, MI, ML, (GR d e nw th 1))) ∧ ((MI 2 4) ≤ l2 → Q (some (vI (i_and (i_xor l1 (i_ushr l1 8)) 255))) (MI, ML, (GR d e nw th 1))))) :
    wp cs mX5_bucketOf KD Q 4 [some (vR 2), some (vI l1), some (vI l2)] [] (KD, MI, ML, (GR d e nw th 1)) := by
  refine wp_iload_n dX5_bucketOf_4 rfl rfl ?_
  refine wp_aload_n dX5_bucketOf_5 rfl rfl (by first | exact Or.inl (by decide) | exact Or.inl (by omega) | exact Or.inr (by decide) | exact Or.inr (by omega)) ?_
  refine wp_getI dX5_bucketOf_6 fX5_59 rfl (by decide) ?_
  refine wp_icmp_ge (tgt := 35) dX5_bucketOf_9 (by decide) (fun h9 => ?_) (fun h9 => ?_)
  · replace h := h.2 h9
    refine wp_iload_n dX5_bucketOf_35 rfl rfl ?_
    refine wp_iload_n dX5_bucketOf_36 rfl rfl ?_
    refine wp_bipush dX5_bucketOf_37 (by decide +kernel) (by decide) ?_
    refine wp_iushr dX5_bucketOf_39 ?_
    refine wp_ixor dX5_bucketOf_40 ?_
    refine wp_sipush dX5_bucketOf_41 (by decide +kernel) (by decide) ?_
    refine wp_iand dX5_bucketOf_44 ?_
    refine wp_pc (pc' := 45) rfl ?_
    exact wp_iret dX5_bucketOf_45 rfl (fun _ => h)
  · replace h := h.1 h9
    refine wp_iload_n dX5_bucketOf_12 rfl rfl ?_
    refine wp_bipush dX5_bucketOf_13 (by decide +kernel) (by decide) ?_
    refine wp_imul dX5_bucketOf_15 ?_
    refine wp_aload_n dX5_bucketOf_16 rfl rfl (by first | exact Or.inl (by decide) | exact Or.inl (by omega) | exact Or.inr (by decide) | exact Or.inr (by omega)) ?_
    refine wp_getR dX5_bucketOf_17 fX5_64 rfl (by decide) ?_
    refine wp_topR (x' := 1) rfl ?_
    refine wp_aload_n dX5_bucketOf_20 rfl rfl (by first | exact Or.inl (by decide) | exact Or.inl (by omega) | exact Or.inr (by decide) | exact Or.inr (by omega)) ?_
    refine wp_getI dX5_bucketOf_21 fX5_65 rfl (by decide) ?_
    refine wp_pc (pc' := 24) rfl ?_
    refine wp_iload_n dX5_bucketOf_24 rfl rfl ?_
    have c0 := h.1
    replace h := h.2
    refine wp_iaddr dX5_bucketOf_25 c0 ?_
    have c1 := h.1
    replace h := h.2
    refine wp_bald dX5_bucketOf_26 rfl (by decide) c1 ?_
    refine wp_iadd dX5_bucketOf_27 ?_
    refine wp_istore_n dX5_bucketOf_28 rfl (by decide) (wp_L (L' := [some (vR 2), some (vI (w32 ((w32 (l1 * 31)) + (MI 1 ((MI 2 3) + l2).toNat)))), some (vI l2)]) rfl ?_)
    have c2 := h.1
    replace h := h.2
    refine wp_iincr dX5_bucketOf_29 rfl (by decide) c2 (wp_L (L' := [some (vR 2), some (vI (w32 ((w32 (l1 * 31)) + (MI 1 ((MI 2 3) + l2).toNat)))), some (vI (l2 + 1))]) rfl ?_)
    refine wp_goto (tgt := 4) dX5_bucketOf_32 (by decide) ?_
    exact h
theorem dX5_isThat_0 : decode cX5_isThat 0 = .ok (.aload_n 0, 1) := by decide +kernel
theorem dX5_isThat_1 : decode cX5_isThat 1 = .ok (.getfield 25, 3) := by decide +kernel
theorem dX5_isThat_4 : decode cX5_isThat 4 = .ok (.iload_n 1, 1) := by decide +kernel
theorem dX5_isThat_5 : decode cX5_isThat 5 = .ok (.iaload, 1) := by decide +kernel
theorem dX5_isThat_6 : decode cX5_isThat 6 = .ok (.aload_n 2, 1) := by decide +kernel
theorem dX5_isThat_7 : decode cX5_isThat 7 = .ok (.getfield 59, 3) := by decide +kernel
theorem dX5_isThat_10 : decode cX5_isThat 10 = .ok (.if_icmp .eq 5, 3) := by decide +kernel
theorem dX5_isThat_13 : decode cX5_isThat 13 = .ok (.iconst 0, 1) := by decide +kernel
theorem dX5_isThat_14 : decode cX5_isThat 14 = .ok (.ireturn, 1) := by decide +kernel
theorem dX5_isThat_15 : decode cX5_isThat 15 = .ok (.iconst 0, 1) := by decide +kernel
theorem dX5_isThat_16 : decode cX5_isThat 16 = .ok (.istore_n 3, 1) := by decide +kernel
theorem dX5_isThat_17 : decode cX5_isThat 17 = .ok (.iload_n 3, 1) := by decide +kernel
theorem dX5_isThat_18 : decode cX5_isThat 18 = .ok (.aload_n 0, 1) := by decide +kernel
theorem dX5_isThat_19 : decode cX5_isThat 19 = .ok (.getfield 25, 3) := by decide +kernel
theorem dX5_isThat_22 : decode cX5_isThat 22 = .ok (.iload_n 1, 1) := by decide +kernel
theorem dX5_isThat_23 : decode cX5_isThat 23 = .ok (.iaload, 1) := by decide +kernel
theorem dX5_isThat_24 : decode cX5_isThat 24 = .ok (.if_icmp .ge 38, 3) := by decide +kernel
theorem dX5_isThat_27 : decode cX5_isThat 27 = .ok (.aload_n 0, 1) := by decide +kernel
theorem dX5_isThat_28 : decode cX5_isThat 28 = .ok (.getfield 9, 3) := by decide +kernel
theorem dX5_isThat_31 : decode cX5_isThat 31 = .ok (.aload_n 0, 1) := by decide +kernel
theorem dX5_isThat_32 : decode cX5_isThat 32 = .ok (.getfield 22, 3) := by decide +kernel
theorem dX5_isThat_35 : decode cX5_isThat 35 = .ok (.iload_n 1, 1) := by decide +kernel
theorem dX5_isThat_36 : decode cX5_isThat 36 = .ok (.iaload, 1) := by decide +kernel
theorem dX5_isThat_37 : decode cX5_isThat 37 = .ok (.iload_n 3, 1) := by decide +kernel
theorem dX5_isThat_38 : decode cX5_isThat 38 = .ok (.iadd, 1) := by decide +kernel
theorem dX5_isThat_39 : decode cX5_isThat 39 = .ok (.baload, 1) := by decide +kernel
theorem dX5_isThat_40 : decode cX5_isThat 40 = .ok (.aload_n 2, 1) := by decide +kernel
theorem dX5_isThat_41 : decode cX5_isThat 41 = .ok (.getfield 64, 3) := by decide +kernel
theorem dX5_isThat_44 : decode cX5_isThat 44 = .ok (.aload_n 2, 1) := by decide +kernel
theorem dX5_isThat_45 : decode cX5_isThat 45 = .ok (.getfield 65, 3) := by decide +kernel
theorem dX5_isThat_48 : decode cX5_isThat 48 = .ok (.iload_n 3, 1) := by decide +kernel
theorem dX5_isThat_49 : decode cX5_isThat 49 = .ok (.iadd, 1) := by decide +kernel
theorem dX5_isThat_50 : decode cX5_isThat 50 = .ok (.baload, 1) := by decide +kernel
theorem dX5_isThat_51 : decode cX5_isThat 51 = .ok (.if_icmp .eq 5, 3) := by decide +kernel
theorem dX5_isThat_54 : decode cX5_isThat 54 = .ok (.iconst 0, 1) := by decide +kernel
theorem dX5_isThat_55 : decode cX5_isThat 55 = .ok (.ireturn, 1) := by decide +kernel
theorem dX5_isThat_56 : decode cX5_isThat 56 = .ok (.iinc 3 1, 3) := by decide +kernel
theorem dX5_isThat_59 : decode cX5_isThat 59 = .ok (.goto (-42), 3) := by decide +kernel
theorem dX5_isThat_62 : decode cX5_isThat 62 = .ok (.iconst 1, 1) := by decide +kernel
theorem dX5_isThat_63 : decode cX5_isThat 63 = .ok (.ireturn, 1) := by decide +kernel
theorem v_X5_isThat_0 {cs : Cs} {Q : Option AV → Mm → Prop} {MI ML : Nat → Nat → Int} {b d e nw th : Nat} {l1 : Int} (hbd : b = 38 ∨ b = 81)
    (h : (0 ≤ l1 ∧ l1 < 2020) ∧ (((MI (b + 6) l1.toNat) = (MI 2 4) → wp cs mX5_isThat KD Q 17 [some (vR (b + 1)), some (vI l1), some (vR 2), some (vI 0)] [] (KD, MI, ML, (GR d e nw th 1))) ∧ ((MI (b + 6) l1.toNat) ≠ (MI 2 4) → Q (some (vI 0)) (MI, ML, (GR d e nw th 1))))) :
    wp cs mX5_isThat KD Q 0 (padL [vR (b + 1), vI l1, vR 2] 4) [] (KD, MI, ML, (GR d e nw th 1)) := by
  refine wp_L (L' := [some (vR (b + 1)), some (vI l1), some (vR 2), none]) rfl ?_
  refine wp_aload_n dX5_isThat_0 rfl rfl (by first | exact Or.inl (by decide) | exact Or.inl (by omega) | exact Or.inr (by decide) | exact Or.inr (by omega)) ?_
  refine wp_getR dX5_isThat_1 fX5_25 (kdb_1 hbd) (by omega) ?_
  refine wp_topR (x' := (b + 6)) (grb_1_4 hbd) ?_
  refine wp_iload_n dX5_isThat_4 rfl rfl ?_
  have c0 := h.1
  replace h := h.2
  refine wp_iald dX5_isThat_5 (kdb_6 hbd) (by omega) c0 ?_
  refine wp_aload_n dX5_isThat_6 rfl rfl (by first | exact Or.inl (by decide) | exact Or.inl (by omega) | exact Or.inr (by decide) | exact Or.inr (by omega)) ?_
  refine wp_getI dX5_isThat_7 fX5_59 rfl (by decide) ?_
  refine wp_icmp_eq (tgt := 15) dX5_isThat_10 (by decide) (fun h10 => ?_) (fun h10 => ?_)
  · replace h := h.1 h10
    refine wp_iconst dX5_isThat_15 (by decide) ?_
    refine wp_istore_n dX5_isThat_16 rfl (by decide) (wp_L (L' := [some (vR (b + 1)), some (vI l1), some (vR 2), some (vI 0)]) rfl ?_)
    exact h
  · replace h := h.2 h10
    refine wp_iconst dX5_isThat_13 (by decide) ?_
    exact wp_zret dX5_isThat_14 rfl (by decide) (fun _ => h)
theorem v_X5_isThat_17 {cs : Cs} {Q : Option AV → Mm → Prop} {MI ML : Nat → Nat → Int} {b d e nw th : Nat} {l1 l3 : Int} (hbd : b = 38 ∨ b = 81)
    (h : (0 ≤ l1 ∧ l1 < 2020) ∧ ((l3 < (MI (b + 6) l1.toNat) → (-2147483648 ≤ (MI (b + 5) l1.toNat) + l3 ∧ (MI (b + 5) l1.toNat) + l3 < 2147483648) ∧ (0 ≤ ((MI (b + 5) l1.toNat) + l3) ∧ ((MI (b + 5) l1.toNat) + l3) < 6000) ∧ (-2147483648 ≤ (MI 2 3) + l3 ∧ (MI 2 3) + l3 < 2147483648) ∧ (0 ≤ ((MI 2 3) + l3) ∧ ((MI 2 3) + l3) < 6000) ∧ (((MI (b + 2) ((MI (b + 5) l1.toNat) + l3).toNat) = (MI 1 ((MI 2 3) + l3).toNat) → (-2147483648 ≤ l3 + 1 ∧ l3 + 1 < 2147483648) ∧ wp cs mX5_isThat KD Q 17 [some (vR (b + 1)), some (vI l1), some (vR 2), some (vI (l3 + 1))] [] (KD, MI, ML, (GR d e nw th 1))) ∧ ((MI (b + 2) ((MI (b + 5) l1.toNat) + l3).toNat) ≠ (MI 1 ((MI 2 3) + l3).toNat) → Q (some (vI 0)) (MI, ML, (GR d e nw th 1))))) ∧ ((MI (b + 6) l1.toNat) ≤ l3 → Q (some (vI 1)) (MI, ML, (GR d e nw th 1))))) :
    wp cs mX5_isThat KD Q 17 [some (vR (b + 1)), some (vI l1), some (vR 2), some (vI l3)] [] (KD, MI, ML, (GR d e nw th 1)) := by
  refine wp_iload_n dX5_isThat_17 rfl rfl ?_
  refine wp_aload_n dX5_isThat_18 rfl rfl (by first | exact Or.inl (by decide) | exact Or.inl (by omega) | exact Or.inr (by decide) | exact Or.inr (by omega)) ?_
  refine wp_getR dX5_isThat_19 fX5_25 (kdb_1 hbd) (by omega) ?_
  refine wp_topR (x' := (b + 6)) (grb_1_4 hbd) ?_
  refine wp_iload_n dX5_isThat_22 rfl rfl ?_
  have c0 := h.1
  replace h := h.2
  refine wp_iald dX5_isThat_23 (kdb_6 hbd) (by omega) c0 ?_
  refine wp_icmp_ge (tgt := 62) dX5_isThat_24 (by decide) (fun h24 => ?_) (fun h24 => ?_)
  · replace h := h.2 h24
    refine wp_iconst dX5_isThat_62 (by decide) ?_
    exact wp_zret dX5_isThat_63 rfl (by decide) (fun _ => h)
  · replace h := h.1 h24
    refine wp_aload_n dX5_isThat_27 rfl rfl (by first | exact Or.inl (by decide) | exact Or.inl (by omega) | exact Or.inr (by decide) | exact Or.inr (by omega)) ?_
    refine wp_getR dX5_isThat_28 fX5_9 (kdb_1 hbd) (by omega) ?_
    refine wp_topR (x' := (b + 2)) (grb_1_0 hbd) ?_
    refine wp_aload_n dX5_isThat_31 rfl rfl (by first | exact Or.inl (by decide) | exact Or.inl (by omega) | exact Or.inr (by decide) | exact Or.inr (by omega)) ?_
    refine wp_getR dX5_isThat_32 fX5_22 (kdb_1 hbd) (by omega) ?_
    refine wp_topR (x' := (b + 5)) (grb_1_3 hbd) ?_
    refine wp_iload_n dX5_isThat_35 rfl rfl ?_
    refine wp_iald dX5_isThat_36 (kdb_5 hbd) (by omega) c0 ?_
    refine wp_iload_n dX5_isThat_37 rfl rfl ?_
    refine wp_pc (pc' := 38) rfl ?_
    have c1 := h.1
    replace h := h.2
    refine wp_iaddr dX5_isThat_38 c1 ?_
    have c2 := h.1
    replace h := h.2
    refine wp_bald dX5_isThat_39 (kdb_2 hbd) (by omega) c2 ?_
    refine wp_aload_n dX5_isThat_40 rfl rfl (by first | exact Or.inl (by decide) | exact Or.inl (by omega) | exact Or.inr (by decide) | exact Or.inr (by omega)) ?_
    refine wp_getR dX5_isThat_41 fX5_64 rfl (by decide) ?_
    refine wp_topR (x' := 1) rfl ?_
    refine wp_aload_n dX5_isThat_44 rfl rfl (by first | exact Or.inl (by decide) | exact Or.inl (by omega) | exact Or.inr (by decide) | exact Or.inr (by omega)) ?_
    refine wp_getI dX5_isThat_45 fX5_65 rfl (by decide) ?_
    refine wp_iload_n dX5_isThat_48 rfl rfl ?_
    have c3 := h.1
    replace h := h.2
    refine wp_iaddr dX5_isThat_49 c3 ?_
    refine wp_pc (pc' := 50) rfl ?_
    have c4 := h.1
    replace h := h.2
    refine wp_bald dX5_isThat_50 rfl (by decide) c4 ?_
    refine wp_icmp_eq (tgt := 56) dX5_isThat_51 (by decide) (fun h51 => ?_) (fun h51 => ?_)
    · replace h := h.1 h51
      have c5 := h.1
      replace h := h.2
      refine wp_iincr dX5_isThat_56 rfl (by decide) c5 (wp_L (L' := [some (vR (b + 1)), some (vI l1), some (vR 2), some (vI (l3 + 1))]) rfl ?_)
      refine wp_goto (tgt := 17) dX5_isThat_59 (by decide) ?_
      exact h
    · replace h := h.2 h51
      refine wp_iconst dX5_isThat_54 (by decide) ?_
      exact wp_zret dX5_isThat_55 rfl (by decide) (fun _ => h)
theorem dX5_find_0 : decode cX5_find 0 = .ok (.aload_n 0, 1) := by decide +kernel
theorem dX5_find_1 : decode cX5_find 1 = .ok (.getfield 31, 3) := by decide +kernel
theorem dX5_find_4 : decode cX5_find 4 = .ok (.aload_n 1, 1) := by decide +kernel
theorem dX5_find_5 : decode cX5_find 5 = .ok (.invokestatic 68, 3) := by decide +kernel
theorem dX5_find_8 : decode cX5_find 8 = .ok (.iaload, 1) := by decide +kernel
theorem dX5_find_9 : decode cX5_find 9 = .ok (.istore_n 2, 1) := by decide +kernel
theorem dX5_find_10 : decode cX5_find 10 = .ok (.iconst 0, 1) := by decide +kernel
theorem dX5_find_11 : decode cX5_find 11 = .ok (.istore_n 3, 1) := by decide +kernel
theorem dX5_find_12 : decode cX5_find 12 = .ok (.iload_n 3, 1) := by decide +kernel
theorem dX5_find_13 : decode cX5_find 13 = .ok (.aload_n 0, 1) := by decide +kernel
theorem dX5_find_14 : decode cX5_find 14 = .ok (.getfield 34, 3) := by decide +kernel
theorem dX5_find_17 : decode cX5_find 17 = .ok (.if_icmp .ge 32, 3) := by decide +kernel
theorem dX5_find_20 : decode cX5_find 20 = .ok (.iload_n 2, 1) := by decide +kernel
theorem dX5_find_21 : decode cX5_find 21 = .ok (.iconst (-1), 1) := by decide +kernel
theorem dX5_find_22 : decode cX5_find 22 = .ok (.if_icmp .eq 27, 3) := by decide +kernel
theorem dX5_find_25 : decode cX5_find 25 = .ok (.aload_n 0, 1) := by decide +kernel
theorem dX5_find_26 : decode cX5_find 26 = .ok (.iload_n 2, 1) := by decide +kernel
theorem dX5_find_27 : decode cX5_find 27 = .ok (.aload_n 1, 1) := by decide +kernel
theorem dX5_find_28 : decode cX5_find 28 = .ok (.invokevirtual 72, 3) := by decide +kernel
theorem dX5_find_31 : decode cX5_find 31 = .ok (.ifCond .eq 5, 3) := by decide +kernel
theorem dX5_find_34 : decode cX5_find 34 = .ok (.iload_n 2, 1) := by decide +kernel
theorem dX5_find_35 : decode cX5_find 35 = .ok (.ireturn, 1) := by decide +kernel
theorem dX5_find_36 : decode cX5_find 36 = .ok (.aload_n 0, 1) := by decide +kernel
theorem dX5_find_37 : decode cX5_find 37 = .ok (.getfield 28, 3) := by decide +kernel
theorem dX5_find_40 : decode cX5_find 40 = .ok (.iload_n 2, 1) := by decide +kernel
theorem dX5_find_41 : decode cX5_find 41 = .ok (.iaload, 1) := by decide +kernel
theorem dX5_find_42 : decode cX5_find 42 = .ok (.istore_n 2, 1) := by decide +kernel
theorem dX5_find_43 : decode cX5_find 43 = .ok (.iinc 3 1, 3) := by decide +kernel
theorem dX5_find_46 : decode cX5_find 46 = .ok (.goto (-34), 3) := by decide +kernel
theorem dX5_find_49 : decode cX5_find 49 = .ok (.iconst (-1), 1) := by decide +kernel
theorem dX5_find_50 : decode cX5_find 50 = .ok (.ireturn, 1) := by decide +kernel
theorem v_X5_find_0 {cs : Cs} {Q : Option AV → Mm → Prop} {MI ML : Nat → Nat → Int} {b d e nw th : Nat} (hbd : b = 38 ∨ b = 81)
    (h : wp cs mX5_bucketOf KD (rI (GR d e nw th 1) fun x5 m5 n5 => (0 ≤ x5 ∧ x5 < 256) ∧ wp cs mX5_find KD Q 12 [some (vR (b + 1)), some (vR 2), some (vI (m5 (b + 8) x5.toNat)), some (vI 0)] [] (KD, m5, n5, (GR d e nw th 1))) 0 (padL [vR 2] 3) [] (KD, MI, ML, (GR d e nw th 1))) :
    wp cs mX5_find KD Q 0 (padL [vR (b + 1), vR 2] 4) [] (KD, MI, ML, (GR d e nw th 1)) := by
  refine wp_L (L' := [some (vR (b + 1)), some (vR 2), none, none]) rfl ?_
  refine wp_aload_n dX5_find_0 rfl rfl (by first | exact Or.inl (by decide) | exact Or.inl (by omega) | exact Or.inr (by decide) | exact Or.inr (by omega)) ?_
  refine wp_getR dX5_find_1 fX5_31 (kdb_1 hbd) (by omega) ?_
  refine wp_topR (x' := (b + 8)) (grb_1_6 hbd) ?_
  refine wp_aload_n dX5_find_4 rfl rfl (by first | exact Or.inl (by decide) | exact Or.inl (by omega) | exact Or.inr (by decide) | exact Or.inr (by omega)) ?_
  refine wp_cSq (n := 1) (mt' := mX5_bucketOf) (as := [vR 2]) (rest := [vR (b + 8)]) _ dX5_find_5 lX5_68 kX5_bucketOf vX5_bucketOf (by decide) (by decide +kernel) rfl (Nat.le_of_ble_eq_true rfl) rfl (Nat.le_of_ble_eq_true rfl) (fun hM hS => h) (fun r M' hq hM => ?_)
  obtain ⟨x5, m5, n5, rfl, rfl, h⟩ := rI_out hq
  have c0 := h.1
  replace h := h.2
  refine wp_iald dX5_find_8 (kdb_8 hbd) (by omega) c0 ?_
  refine wp_istore_n dX5_find_9 rfl (by decide) (wp_L (L' := [some (vR (b + 1)), some (vR 2), some (vI (m5 (b + 8) x5.toNat)), none]) rfl ?_)
  refine wp_iconst dX5_find_10 (by decide) ?_
  refine wp_istore_n dX5_find_11 rfl (by decide) (wp_L (L' := [some (vR (b + 1)), some (vR 2), some (vI (m5 (b + 8) x5.toNat)), some (vI 0)]) rfl ?_)
  exact h
theorem v_X5_find_12 {cs : Cs} {Q : Option AV → Mm → Prop} {MI ML : Nat → Nat → Int} {b d e nw th : Nat} {l2 l3 : Int} (hbd : b = 38 ∨ b = 81)
    (h : ((l3 < (MI (b + 1) 7) → ((l2 = (-1) → Q (some (vI (-1))) (MI, ML, (GR d e nw th 1))) ∧ (l2 ≠ (-1) → wp cs mX5_isThat KD (rI (GR d e nw th 1) fun x28 m28 n28 => ((x28 = 0 → (0 ≤ l2 ∧ l2 < 2020) ∧ (-2147483648 ≤ l3 + 1 ∧ l3 + 1 < 2147483648) ∧ wp cs mX5_find KD Q 12 [some (vR (b + 1)), some (vR 2), some (vI (m28 (b + 7) l2.toNat)), some (vI (l3 + 1))] [] (KD, m28, n28, (GR d e nw th 1))) ∧ (x28 ≠ 0 → Q (some (vI l2)) (m28, n28, (GR d e nw th 1))))) 0 (padL [vR (b + 1), vI l2, vR 2] 4) [] (KD, MI, ML, (GR d e nw th 1))))) ∧ ((MI (b + 1) 7) ≤ l3 → Q (some (vI (-1))) (MI, ML, (GR d e nw th 1))))) :
    wp cs mX5_find KD Q 12 [some (vR (b + 1)), some (vR 2), some (vI l2), some (vI l3)] [] (KD, MI, ML, (GR d e nw th 1)) := by
  refine wp_iload_n dX5_find_12 rfl rfl ?_
  refine wp_aload_n dX5_find_13 rfl rfl (by first | exact Or.inl (by decide) | exact Or.inl (by omega) | exact Or.inr (by decide) | exact Or.inr (by omega)) ?_
  refine wp_getI dX5_find_14 fX5_34 (kdb_1 hbd) (by omega) ?_
  refine wp_icmp_ge (tgt := 49) dX5_find_17 (by decide) (fun h17 => ?_) (fun h17 => ?_)
  · replace h := h.2 h17
    refine wp_iconst dX5_find_49 (by decide) ?_
    exact wp_iret dX5_find_50 rfl (fun _ => h)
  · replace h := h.1 h17
    refine wp_iload_n dX5_find_20 rfl rfl ?_
    refine wp_iconst dX5_find_21 (by decide) ?_
    refine wp_icmp_eq (tgt := 49) dX5_find_22 (by decide) (fun h22 => ?_) (fun h22 => ?_)
    · replace h := h.1 h22
      refine wp_iconst dX5_find_49 (by decide) ?_
      exact wp_iret dX5_find_50 rfl (fun _ => h)
    · replace h := h.2 h22
      refine wp_aload_n dX5_find_25 rfl rfl (by first | exact Or.inl (by decide) | exact Or.inl (by omega) | exact Or.inr (by decide) | exact Or.inr (by omega)) ?_
      refine wp_iload_n dX5_find_26 rfl rfl ?_
      refine wp_aload_n dX5_find_27 rfl rfl (by first | exact Or.inl (by decide) | exact Or.inl (by omega) | exact Or.inr (by decide) | exact Or.inr (by omega)) ?_
      refine wp_cVq (n := 2) (mt' := mX5_isThat) (as := [vI l2, vR 2]) (rest := []) _ dX5_find_28 lX5_72 kX5_isThat vX5_isThat (by decide) (by decide +kernel) rfl (Nat.le_of_ble_eq_true rfl) (by omega) (kdb_1 hbd) rfl rfl (Nat.le_of_ble_eq_true rfl) (fun hM hS => h) (fun r M' hq hM => ?_)
      obtain ⟨x28, m28, n28, rfl, rfl, h⟩ := rI_out hq
      refine wp_if_eq (tgt := 36) dX5_find_31 (by decide) (fun h31 => ?_) (fun h31 => ?_)
      · replace h := h.1 h31
        refine wp_aload_n dX5_find_36 rfl rfl (by first | exact Or.inl (by decide) | exact Or.inl (by omega) | exact Or.inr (by decide) | exact Or.inr (by omega)) ?_
        refine wp_getR dX5_find_37 fX5_28 (kdb_1 hbd) (by omega) ?_
        refine wp_topR (x' := (b + 7)) (grb_1_5 hbd) ?_
        refine wp_iload_n dX5_find_40 rfl rfl ?_
        have c0 := h.1
        replace h := h.2
        refine wp_iald dX5_find_41 (kdb_7 hbd) (by omega) c0 ?_
        refine wp_istore_n dX5_find_42 rfl (by decide) (wp_L (L' := [some (vR (b + 1)), some (vR 2), some (vI (m28 (b + 7) l2.toNat)), some (vI l3)]) rfl ?_)
        have c1 := h.1
        replace h := h.2
        refine wp_iincr dX5_find_43 rfl (by decide) c1 (wp_L (L' := [some (vR (b + 1)), some (vR 2), some (vI (m28 (b + 7) l2.toNat)), some (vI (l3 + 1))]) rfl ?_)
        refine wp_goto (tgt := 12) dX5_find_46 (by decide) ?_
        exact h
      · replace h := h.2 h31
        refine wp_iload_n dX5_find_34 rfl rfl ?_
        exact wp_iret dX5_find_35 rfl (fun _ => h)
theorem dX5_keep_0 : decode cX5_keep 0 = .ok (.aload_n 0, 1) := by decide +kernel
theorem dX5_keep_1 : decode cX5_keep 1 = .ok (.aload_n 1, 1) := by decide +kernel
theorem dX5_keep_2 : decode cX5_keep 2 = .ok (.invokevirtual 76, 3) := by decide +kernel
theorem dX5_keep_5 : decode cX5_keep 5 = .ok (.istore_n 2, 1) := by decide +kernel
theorem dX5_keep_6 : decode cX5_keep 6 = .ok (.iload_n 2, 1) := by decide +kernel
theorem dX5_keep_7 : decode cX5_keep 7 = .ok (.iconst (-1), 1) := by decide +kernel
theorem dX5_keep_8 : decode cX5_keep 8 = .ok (.if_icmp .ne 13, 3) := by decide +kernel
theorem dX5_keep_11 : decode cX5_keep 11 = .ok (.aload_n 0, 1) := by decide +kernel
theorem dX5_keep_12 : decode cX5_keep 12 = .ok (.getfield 34, 3) := by decide +kernel
theorem dX5_keep_15 : decode cX5_keep 15 = .ok (.sipush 2020, 3) := by decide +kernel
theorem dX5_keep_18 : decode cX5_keep 18 = .ok (.if_icmp .lt 5, 3) := by decide +kernel
theorem dX5_keep_21 : decode cX5_keep 21 = .ok (.iload_n 2, 1) := by decide +kernel
theorem dX5_keep_22 : decode cX5_keep 22 = .ok (.ireturn, 1) := by decide +kernel
theorem dX5_keep_23 : decode cX5_keep 23 = .ok (.aload_n 0, 1) := by decide +kernel
theorem dX5_keep_24 : decode cX5_keep 24 = .ok (.getfield 34, 3) := by decide +kernel
theorem dX5_keep_27 : decode cX5_keep 27 = .ok (.istore_n 3, 1) := by decide +kernel
theorem dX5_keep_28 : decode cX5_keep 28 = .ok (.aload_n 1, 1) := by decide +kernel
theorem dX5_keep_29 : decode cX5_keep 29 = .ok (.invokestatic 68, 3) := by decide +kernel
theorem dX5_keep_32 : decode cX5_keep 32 = .ok (.istore 4, 2) := by decide +kernel
theorem dX5_keep_34 : decode cX5_keep 34 = .ok (.aload_n 0, 1) := by decide +kernel
theorem dX5_keep_35 : decode cX5_keep 35 = .ok (.getfield 22, 3) := by decide +kernel
theorem dX5_keep_38 : decode cX5_keep 38 = .ok (.iload_n 3, 1) := by decide +kernel
theorem dX5_keep_39 : decode cX5_keep 39 = .ok (.aload_n 1, 1) := by decide +kernel
theorem dX5_keep_40 : decode cX5_keep 40 = .ok (.getfield 65, 3) := by decide +kernel
theorem dX5_keep_43 : decode cX5_keep 43 = .ok (.iastore, 1) := by decide +kernel
theorem dX5_keep_44 : decode cX5_keep 44 = .ok (.aload_n 0, 1) := by decide +kernel
theorem dX5_keep_45 : decode cX5_keep 45 = .ok (.getfield 25, 3) := by decide +kernel
theorem dX5_keep_48 : decode cX5_keep 48 = .ok (.iload_n 3, 1) := by decide +kernel
theorem dX5_keep_49 : decode cX5_keep 49 = .ok (.aload_n 1, 1) := by decide +kernel
theorem dX5_keep_50 : decode cX5_keep 50 = .ok (.getfield 59, 3) := by decide +kernel
theorem dX5_keep_53 : decode cX5_keep 53 = .ok (.iastore, 1) := by decide +kernel
theorem dX5_keep_54 : decode cX5_keep 54 = .ok (.aload_n 0, 1) := by decide +kernel
theorem dX5_keep_55 : decode cX5_keep 55 = .ok (.getfield 15, 3) := by decide +kernel
theorem dX5_keep_58 : decode cX5_keep 58 = .ok (.iload_n 3, 1) := by decide +kernel
theorem dX5_keep_59 : decode cX5_keep 59 = .ok (.iconst (-1), 1) := by decide +kernel
theorem dX5_keep_60 : decode cX5_keep 60 = .ok (.iastore, 1) := by decide +kernel
theorem dX5_keep_61 : decode cX5_keep 61 = .ok (.aload_n 0, 1) := by decide +kernel
theorem dX5_keep_62 : decode cX5_keep 62 = .ok (.getfield 19, 3) := by decide +kernel
theorem dX5_keep_65 : decode cX5_keep 65 = .ok (.iload_n 3, 1) := by decide +kernel
theorem dX5_keep_66 : decode cX5_keep 66 = .ok (.iconst (-1), 1) := by decide +kernel
theorem dX5_keep_67 : decode cX5_keep 67 = .ok (.iastore, 1) := by decide +kernel
theorem dX5_keep_68 : decode cX5_keep 68 = .ok (.aload_n 0, 1) := by decide +kernel
theorem dX5_keep_69 : decode cX5_keep 69 = .ok (.getfield 28, 3) := by decide +kernel
theorem dX5_keep_72 : decode cX5_keep 72 = .ok (.iload_n 3, 1) := by decide +kernel
theorem dX5_keep_73 : decode cX5_keep 73 = .ok (.aload_n 0, 1) := by decide +kernel
theorem dX5_keep_74 : decode cX5_keep 74 = .ok (.getfield 31, 3) := by decide +kernel
theorem dX5_keep_77 : decode cX5_keep 77 = .ok (.iload 4, 2) := by decide +kernel
theorem dX5_keep_79 : decode cX5_keep 79 = .ok (.iaload, 1) := by decide +kernel
theorem dX5_keep_80 : decode cX5_keep 80 = .ok (.iastore, 1) := by decide +kernel
theorem dX5_keep_81 : decode cX5_keep 81 = .ok (.aload_n 0, 1) := by decide +kernel
theorem dX5_keep_82 : decode cX5_keep 82 = .ok (.getfield 31, 3) := by decide +kernel
theorem dX5_keep_85 : decode cX5_keep 85 = .ok (.iload 4, 2) := by decide +kernel
theorem dX5_keep_87 : decode cX5_keep 87 = .ok (.iload_n 3, 1) := by decide +kernel
theorem dX5_keep_88 : decode cX5_keep 88 = .ok (.iastore, 1) := by decide +kernel
theorem dX5_keep_89 : decode cX5_keep 89 = .ok (.aload_n 0, 1) := by decide +kernel
theorem dX5_keep_90 : decode cX5_keep 90 = .ok (.dup, 1) := by decide +kernel
theorem dX5_keep_91 : decode cX5_keep 91 = .ok (.getfield 34, 3) := by decide +kernel
theorem dX5_keep_94 : decode cX5_keep 94 = .ok (.iconst 1, 1) := by decide +kernel
theorem dX5_keep_95 : decode cX5_keep 95 = .ok (.iadd, 1) := by decide +kernel
theorem dX5_keep_96 : decode cX5_keep 96 = .ok (.putfield 34, 3) := by decide +kernel
theorem dX5_keep_99 : decode cX5_keep 99 = .ok (.iload_n 3, 1) := by decide +kernel
theorem dX5_keep_100 : decode cX5_keep 100 = .ok (.ireturn, 1) := by decide +kernel
theorem v_X5_keep_0 {cs : Cs} {Q : Option AV → Mm → Prop} {MI ML : Nat → Nat → Int} {b d e nw th : Nat} (hbd : b = 38 ∨ b = 81)
    (h : wp cs mX5_find KD (rI (GR d e nw th 1) fun x2 m2 n2 => ((x2 = (-1) → (((m2 (b + 1) 7) < 2020 → wp cs mX5_bucketOf KD (rI (GR d e nw th 1) fun x29 m29 n29 => (0 ≤ (m2 (b + 1) 7) ∧ (m2 (b + 1) 7) < 2020) ∧ ∀ m43, m43 = up2 m29 (b + 5) (m2 (b + 1) 7).toNat (m29 2 3) → ∀ m53, m53 = up2 m43 (b + 6) (m2 (b + 1) 7).toNat (m43 2 4) → ∀ m60, m60 = up2 m53 (b + 3) (m2 (b + 1) 7).toNat (-1) → ∀ m67, m67 = up2 m60 (b + 4) (m2 (b + 1) 7).toNat (-1) → (0 ≤ x29 ∧ x29 < 256) ∧ ∀ m80, m80 = up2 m67 (b + 7) (m2 (b + 1) 7).toNat (m67 (b + 8) x29.toNat) → ∀ m88, m88 = up2 m80 (b + 8) x29.toNat (m2 (b + 1) 7) → (-2147483648 ≤ (m88 (b + 1) 7) + 1 ∧ (m88 (b + 1) 7) + 1 < 2147483648) ∧ ∀ m96, m96 = up2 m88 (b + 1) 7 ((m88 (b + 1) 7) + 1) → Q (some (vI (m2 (b + 1) 7))) (m96, n29, (GR d e nw th 1))) 0 (padL [vR 2] 3) [] (KD, m2, n2, (GR d e nw th 1))) ∧ (2020 ≤ (m2 (b + 1) 7) → Q (some (vI x2)) (m2, n2, (GR d e nw th 1))))) ∧ (x2 ≠ (-1) → Q (some (vI x2)) (m2, n2, (GR d e nw th 1))))) 0 (padL [vR (b + 1), vR 2] 4) [] (KD, MI, ML, (GR d e nw th 1))) :
    wp cs mX5_keep KD Q 0 (padL [vR (b + 1), vR 2] 5) [] (KD, MI, ML, (GR d e nw th 1)) := by
  refine wp_L (L' := [some (vR (b + 1)), some (vR 2), none, none, none]) rfl ?_
  refine wp_aload_n dX5_keep_0 rfl rfl (by first | exact Or.inl (by decide) | exact Or.inl (by omega) | exact Or.inr (by decide) | exact Or.inr (by omega)) ?_
  refine wp_aload_n dX5_keep_1 rfl rfl (by first | exact Or.inl (by decide) | exact Or.inl (by omega) | exact Or.inr (by decide) | exact Or.inr (by omega)) ?_
  refine wp_cVq (n := 1) (mt' := mX5_find) (as := [vR 2]) (rest := []) _ dX5_keep_2 lX5_76 kX5_find vX5_find (by decide) (by decide +kernel) rfl (Nat.le_of_ble_eq_true rfl) (by omega) (kdb_1 hbd) rfl rfl (Nat.le_of_ble_eq_true rfl) (fun hM hS => h) (fun r M' hq hM => ?_)
  obtain ⟨x2, m2, n2, rfl, rfl, h⟩ := rI_out hq
  refine wp_istore_n dX5_keep_5 rfl (by decide) (wp_L (L' := [some (vR (b + 1)), some (vR 2), some (vI x2), none, none]) rfl ?_)
  refine wp_iload_n dX5_keep_6 rfl rfl ?_
  refine wp_iconst dX5_keep_7 (by decide) ?_
  refine wp_icmp_ne (tgt := 21) dX5_keep_8 (by decide) (fun h8 => ?_) (fun h8 => ?_)
  · replace h := h.2 h8
    refine wp_iload_n dX5_keep_21 rfl rfl ?_
    exact wp_iret dX5_keep_22 rfl (fun _ => h)
  · replace h := h.1 h8
    refine wp_aload_n dX5_keep_11 rfl rfl (by first | exact Or.inl (by decide) | exact Or.inl (by omega) | exact Or.inr (by decide) | exact Or.inr (by omega)) ?_
    refine wp_getI dX5_keep_12 fX5_34 (kdb_1 hbd) (by omega) ?_
    refine wp_sipush dX5_keep_15 (by decide +kernel) (by decide) ?_
    refine wp_icmp_lt (tgt := 23) dX5_keep_18 (by decide) (fun h18 => ?_) (fun h18 => ?_)
    · replace h := h.1 h18
      refine wp_aload_n dX5_keep_23 rfl rfl (by first | exact Or.inl (by decide) | exact Or.inl (by omega) | exact Or.inr (by decide) | exact Or.inr (by omega)) ?_
      refine wp_getI dX5_keep_24 fX5_34 (kdb_1 hbd) (by omega) ?_
      refine wp_istore_n dX5_keep_27 rfl (by decide) (wp_L (L' := [some (vR (b + 1)), some (vR 2), some (vI x2), some (vI (m2 (b + 1) 7)), none]) rfl ?_)
      refine wp_aload_n dX5_keep_28 rfl rfl (by first | exact Or.inl (by decide) | exact Or.inl (by omega) | exact Or.inr (by decide) | exact Or.inr (by omega)) ?_
      refine wp_cSq (n := 1) (mt' := mX5_bucketOf) (as := [vR 2]) (rest := []) _ dX5_keep_29 lX5_68 kX5_bucketOf vX5_bucketOf (by decide) (by decide +kernel) rfl (Nat.le_of_ble_eq_true rfl) rfl (Nat.le_of_ble_eq_true rfl) (fun hM hS => h) (fun r M' hq hM => ?_)
      obtain ⟨x29, m29, n29, rfl, rfl, h⟩ := rI_out hq
      refine wp_istore dX5_keep_32 (by decide) (wp_L (L' := [some (vR (b + 1)), some (vR 2), some (vI x2), some (vI (m2 (b + 1) 7)), some (vI x29)]) rfl ?_)
      refine wp_aload_n dX5_keep_34 rfl rfl (by first | exact Or.inl (by decide) | exact Or.inl (by omega) | exact Or.inr (by decide) | exact Or.inr (by omega)) ?_
      refine wp_getR dX5_keep_35 fX5_22 (kdb_1 hbd) (by omega) ?_
      refine wp_topR (x' := (b + 5)) (grb_1_3 hbd) ?_
      refine wp_iload_n dX5_keep_38 rfl rfl ?_
      refine wp_aload_n dX5_keep_39 rfl rfl (by first | exact Or.inl (by decide) | exact Or.inl (by omega) | exact Or.inr (by decide) | exact Or.inr (by omega)) ?_
      refine wp_getI dX5_keep_40 fX5_65 rfl (by decide) ?_
      have c0 := h.1
      replace h := h.2
      refine wp_iast dX5_keep_43 (kdb_5 hbd) (by omega) c0 ?_
      refine wp_gI (fun m43 e43 => ?_)
      replace h := h m43 e43
      refine wp_pc (pc' := 44) rfl ?_
      refine wp_aload_n dX5_keep_44 rfl rfl (by first | exact Or.inl (by decide) | exact Or.inl (by omega) | exact Or.inr (by decide) | exact Or.inr (by omega)) ?_
      refine wp_getR dX5_keep_45 fX5_25 (kdb_1 hbd) (by omega) ?_
      refine wp_topR (x' := (b + 6)) (grb_1_4 hbd) ?_
      refine wp_iload_n dX5_keep_48 rfl rfl ?_
      refine wp_aload_n dX5_keep_49 rfl rfl (by first | exact Or.inl (by decide) | exact Or.inl (by omega) | exact Or.inr (by decide) | exact Or.inr (by omega)) ?_
      refine wp_getI dX5_keep_50 fX5_59 rfl (by decide) ?_
      refine wp_iast dX5_keep_53 (kdb_6 hbd) (by omega) c0 ?_
      refine wp_gI (fun m53 e53 => ?_)
      replace h := h m53 e53
      refine wp_aload_n dX5_keep_54 rfl rfl (by first | exact Or.inl (by decide) | exact Or.inl (by omega) | exact Or.inr (by decide) | exact Or.inr (by omega)) ?_
      refine wp_getR dX5_keep_55 fX5_15 (kdb_1 hbd) (by omega) ?_
      refine wp_topR (x' := (b + 3)) (grb_1_1 hbd) ?_
      refine wp_pc (pc' := 58) rfl ?_
      refine wp_iload_n dX5_keep_58 rfl rfl ?_
      refine wp_iconst dX5_keep_59 (by decide) ?_
      refine wp_iast dX5_keep_60 (kdb_3 hbd) (by omega) c0 ?_
      refine wp_gI (fun m60 e60 => ?_)
      replace h := h m60 e60
      refine wp_aload_n dX5_keep_61 rfl rfl (by first | exact Or.inl (by decide) | exact Or.inl (by omega) | exact Or.inr (by decide) | exact Or.inr (by omega)) ?_
      refine wp_getR dX5_keep_62 fX5_19 (kdb_1 hbd) (by omega) ?_
      refine wp_topR (x' := (b + 4)) (grb_1_2 hbd) ?_
      refine wp_iload_n dX5_keep_65 rfl rfl ?_
      refine wp_iconst dX5_keep_66 (by decide) ?_
      refine wp_iast dX5_keep_67 (kdb_4 hbd) (by omega) c0 ?_
      refine wp_gI (fun m67 e67 => ?_)
      replace h := h m67 e67
      refine wp_pc (pc' := 68) rfl ?_
      refine wp_aload_n dX5_keep_68 rfl rfl (by first | exact Or.inl (by decide) | exact Or.inl (by omega) | exact Or.inr (by decide) | exact Or.inr (by omega)) ?_
      refine wp_getR dX5_keep_69 fX5_28 (kdb_1 hbd) (by omega) ?_
      refine wp_topR (x' := (b + 7)) (grb_1_5 hbd) ?_
      refine wp_iload_n dX5_keep_72 rfl rfl ?_
      refine wp_aload_n dX5_keep_73 rfl rfl (by first | exact Or.inl (by decide) | exact Or.inl (by omega) | exact Or.inr (by decide) | exact Or.inr (by omega)) ?_
      refine wp_getR dX5_keep_74 fX5_31 (kdb_1 hbd) (by omega) ?_
      refine wp_topR (x' := (b + 8)) (grb_1_6 hbd) ?_
      refine wp_iload dX5_keep_77 rfl ?_
      have c1 := h.1
      replace h := h.2
      refine wp_iald dX5_keep_79 (kdb_8 hbd) (by omega) c1 ?_
      refine wp_iast dX5_keep_80 (kdb_7 hbd) (by omega) c0 ?_
      refine wp_gI (fun m80 e80 => ?_)
      replace h := h m80 e80
      refine wp_pc (pc' := 81) rfl ?_
      refine wp_aload_n dX5_keep_81 rfl rfl (by first | exact Or.inl (by decide) | exact Or.inl (by omega) | exact Or.inr (by decide) | exact Or.inr (by omega)) ?_
      refine wp_getR dX5_keep_82 fX5_31 (kdb_1 hbd) (by omega) ?_
      refine wp_topR (x' := (b + 8)) (grb_1_6 hbd) ?_
      refine wp_iload dX5_keep_85 rfl ?_
      refine wp_iload_n dX5_keep_87 rfl rfl ?_
      refine wp_iast dX5_keep_88 (kdb_8 hbd) (by omega) c1 ?_
      refine wp_gI (fun m88 e88 => ?_)
      replace h := h m88 e88
      refine wp_aload_n dX5_keep_89 rfl rfl (by first | exact Or.inl (by decide) | exact Or.inl (by omega) | exact Or.inr (by decide) | exact Or.inr (by omega)) ?_
      refine wp_dup dX5_keep_90 (fun x e => by cases e) ?_
      refine wp_getI dX5_keep_91 fX5_34 (kdb_1 hbd) (by omega) ?_
      refine wp_pc (pc' := 94) rfl ?_
      refine wp_iconst dX5_keep_94 (by decide) ?_
      have c2 := h.1
      replace h := h.2
      refine wp_iaddr dX5_keep_95 c2 ?_
      refine wp_putI dX5_keep_96 pX5_34 (kdb_1 hbd) (by omega) ?_
      refine wp_gI (fun m96 e96 => ?_)
      replace h := h m96 e96
      refine wp_iload_n dX5_keep_99 rfl rfl ?_
      exact wp_iret dX5_keep_100 rfl (fun _ => h)
    · replace h := h.2 h18
      refine wp_iload_n dX5_keep_21 rfl rfl ?_
      exact wp_iret dX5_keep_22 rfl (fun _ => h)
theorem dX9_add_0 : decode cX9_add 0 = .ok (.aload_n 0, 1) := by decide +kernel
theorem dX9_add_1 : decode cX9_add 1 = .ok (.getfield 44, 3) := by decide +kernel
theorem dX9_add_4 : decode cX9_add 4 = .ok (.bipush 30, 2) := by decide +kernel
theorem dX9_add_6 : decode cX9_add 6 = .ok (.if_icmp .lt 5, 3) := by decide +kernel
theorem dX9_add_9 : decode cX9_add 9 = .ok (.iconst (-1), 1) := by decide +kernel
theorem dX9_add_10 : decode cX9_add 10 = .ok (.ireturn, 1) := by decide +kernel
theorem dX9_add_11 : decode cX9_add 11 = .ok (.aload_n 0, 1) := by decide +kernel
theorem dX9_add_12 : decode cX9_add 12 = .ok (.getfield 44, 3) := by decide +kernel
theorem dX9_add_15 : decode cX9_add 15 = .ok (.istore_n 3, 1) := by decide +kernel
theorem dX9_add_16 : decode cX9_add 16 = .ok (.aload_n 0, 1) := by decide +kernel
theorem dX9_add_17 : decode cX9_add 17 = .ok (.getfield 11, 3) := by decide +kernel
theorem dX9_add_20 : decode cX9_add 20 = .ok (.iload_n 3, 1) := by decide +kernel
theorem dX9_add_21 : decode cX9_add 21 = .ok (.iconst 0, 1) := by decide +kernel
theorem dX9_add_22 : decode cX9_add 22 = .ok (.iastore, 1) := by decide +kernel
theorem dX9_add_23 : decode cX9_add 23 = .ok (.aload_n 0, 1) := by decide +kernel
theorem dX9_add_24 : decode cX9_add 24 = .ok (.getfield 15, 3) := by decide +kernel
theorem dX9_add_27 : decode cX9_add 27 = .ok (.iload_n 3, 1) := by decide +kernel
theorem dX9_add_28 : decode cX9_add 28 = .ok (.iload_n 1, 1) := by decide +kernel
theorem dX9_add_29 : decode cX9_add 29 = .ok (.iastore, 1) := by decide +kernel
theorem dX9_add_30 : decode cX9_add 30 = .ok (.aload_n 0, 1) := by decide +kernel
theorem dX9_add_31 : decode cX9_add 31 = .ok (.getfield 18, 3) := by decide +kernel
theorem dX9_add_34 : decode cX9_add 34 = .ok (.iload_n 3, 1) := by decide +kernel
theorem dX9_add_35 : decode cX9_add 35 = .ok (.iload_n 2, 1) := by decide +kernel
theorem dX9_add_36 : decode cX9_add 36 = .ok (.iastore, 1) := by decide +kernel
theorem dX9_add_37 : decode cX9_add 37 = .ok (.aload_n 0, 1) := by decide +kernel
theorem dX9_add_38 : decode cX9_add 38 = .ok (.getfield 21, 3) := by decide +kernel
theorem dX9_add_41 : decode cX9_add 41 = .ok (.iload_n 3, 1) := by decide +kernel
theorem dX9_add_42 : decode cX9_add 42 = .ok (.iconst 0, 1) := by decide +kernel
theorem dX9_add_43 : decode cX9_add 43 = .ok (.iastore, 1) := by decide +kernel
theorem dX9_add_44 : decode cX9_add 44 = .ok (.aload_n 0, 1) := by decide +kernel
theorem dX9_add_45 : decode cX9_add 45 = .ok (.getfield 34, 3) := by decide +kernel
theorem dX9_add_48 : decode cX9_add 48 = .ok (.iload_n 3, 1) := by decide +kernel
theorem dX9_add_49 : decode cX9_add 49 = .ok (.lconst 0, 1) := by decide +kernel
theorem dX9_add_50 : decode cX9_add 50 = .ok (.lastore, 1) := by decide +kernel
theorem dX9_add_51 : decode cX9_add 51 = .ok (.aload_n 0, 1) := by decide +kernel
theorem dX9_add_52 : decode cX9_add 52 = .ok (.getfield 37, 3) := by decide +kernel
theorem dX9_add_55 : decode cX9_add 55 = .ok (.iload_n 3, 1) := by decide +kernel
theorem dX9_add_56 : decode cX9_add 56 = .ok (.lconst 0, 1) := by decide +kernel
theorem dX9_add_57 : decode cX9_add 57 = .ok (.lastore, 1) := by decide +kernel
theorem dX9_add_58 : decode cX9_add 58 = .ok (.aload_n 0, 1) := by decide +kernel
theorem dX9_add_59 : decode cX9_add 59 = .ok (.getfield 40, 3) := by decide +kernel
theorem dX9_add_62 : decode cX9_add 62 = .ok (.iload_n 3, 1) := by decide +kernel
theorem dX9_add_63 : decode cX9_add 63 = .ok (.iconst 0, 1) := by decide +kernel
theorem dX9_add_64 : decode cX9_add 64 = .ok (.bastore, 1) := by decide +kernel
theorem dX9_add_65 : decode cX9_add 65 = .ok (.aload_n 0, 1) := by decide +kernel
theorem dX9_add_66 : decode cX9_add 66 = .ok (.dup, 1) := by decide +kernel
theorem dX9_add_67 : decode cX9_add 67 = .ok (.getfield 44, 3) := by decide +kernel
theorem dX9_add_70 : decode cX9_add 70 = .ok (.iconst 1, 1) := by decide +kernel
theorem dX9_add_71 : decode cX9_add 71 = .ok (.iadd, 1) := by decide +kernel
theorem dX9_add_72 : decode cX9_add 72 = .ok (.putfield 44, 3) := by decide +kernel
theorem dX9_add_75 : decode cX9_add 75 = .ok (.iload_n 3, 1) := by decide +kernel
theorem dX9_add_76 : decode cX9_add 76 = .ok (.ireturn, 1) := by decide +kernel
theorem v_X9_add_0 {cs : Cs} {Q : Option AV → Mm → Prop} {MI ML : Nat → Nat → Int} {b d e nw th x : Nat} {l1 l2 : Int} (hbd : b = 38 ∨ b = 81)
    (h : (((MI (b + 9) 10) < 30 → (0 ≤ (MI (b + 9) 10) ∧ (MI (b + 9) 10) < 30) ∧ ∀ m22, m22 = up2 MI (b + 10) (MI (b + 9) 10).toNat 0 → ∀ m29, m29 = up2 m22 (b + 11) (MI (b + 9) 10).toNat l1 → ∀ m36, m36 = up2 m29 (b + 12) (MI (b + 9) 10).toNat l2 → ∀ m43, m43 = up2 m36 (b + 13) (MI (b + 9) 10).toNat 0 → ∀ n50, n50 = up2 ML (b + 17) (MI (b + 9) 10).toNat 0 → ∀ n57, n57 = up2 n50 (b + 18) (MI (b + 9) 10).toNat 0 → ∀ m64, m64 = up2 m43 (b + 19) (MI (b + 9) 10).toNat 0 → (-2147483648 ≤ (m64 (b + 9) 10) + 1 ∧ (m64 (b + 9) 10) + 1 < 2147483648) ∧ ∀ m72, m72 = up2 m64 (b + 9) 10 ((m64 (b + 9) 10) + 1) → Q (some (vI (MI (b + 9) 10))) (m72, n57, (GR d e nw th x))) ∧ (30 ≤ (MI (b + 9) 10) → Q (some (vI (-1))) (MI, ML, (GR d e nw th x))))) :
    wp cs mX9_add KD Q 0 (padL [vR (b + 9), vI l1, vI l2] 4) [] (KD, MI, ML, (GR d e nw th x)) := by
  refine wp_L (L' := [some (vR (b + 9)), some (vI l1), some (vI l2), none]) rfl ?_
  refine wp_aload_n dX9_add_0 rfl rfl (by first | exact Or.inl (by decide) | exact Or.inl (by omega) | exact Or.inr (by decide) | exact Or.inr (by omega)) ?_
  refine wp_getI dX9_add_1 fX9_44 (kdb_9 hbd) (by omega) ?_
  refine wp_bipush dX9_add_4 (by decide +kernel) (by decide) ?_
  refine wp_icmp_lt (tgt := 11) dX9_add_6 (by decide) (fun h6 => ?_) (fun h6 => ?_)
  · replace h := h.1 h6
    refine wp_aload_n dX9_add_11 rfl rfl (by first | exact Or.inl (by decide) | exact Or.inl (by omega) | exact Or.inr (by decide) | exact Or.inr (by omega)) ?_
    refine wp_getI dX9_add_12 fX9_44 (kdb_9 hbd) (by omega) ?_
    refine wp_istore_n dX9_add_15 rfl (by decide) (wp_L (L' := [some (vR (b + 9)), some (vI l1), some (vI l2), some (vI (MI (b + 9) 10))]) rfl ?_)
    refine wp_aload_n dX9_add_16 rfl rfl (by first | exact Or.inl (by decide) | exact Or.inl (by omega) | exact Or.inr (by decide) | exact Or.inr (by omega)) ?_
    refine wp_getR dX9_add_17 fX9_11 (kdb_9 hbd) (by omega) ?_
    refine wp_topR (x' := (b + 10)) (grb_9_0 hbd) ?_
    refine wp_iload_n dX9_add_20 rfl rfl ?_
    refine wp_iconst dX9_add_21 (by decide) ?_
    refine wp_pc (pc' := 22) rfl ?_
    have c0 := h.1
    replace h := h.2
    refine wp_iast dX9_add_22 (kdb_10 hbd) (by omega) c0 ?_
    refine wp_gI (fun m22 e22 => ?_)
    replace h := h m22 e22
    refine wp_aload_n dX9_add_23 rfl rfl (by first | exact Or.inl (by decide) | exact Or.inl (by omega) | exact Or.inr (by decide) | exact Or.inr (by omega)) ?_
    refine wp_getR dX9_add_24 fX9_15 (kdb_9 hbd) (by omega) ?_
    refine wp_topR (x' := (b + 11)) (grb_9_1 hbd) ?_
    refine wp_iload_n dX9_add_27 rfl rfl ?_
    refine wp_iload_n dX9_add_28 rfl rfl ?_
    refine wp_iast dX9_add_29 (kdb_11 hbd) (by omega) c0 ?_
    refine wp_gI (fun m29 e29 => ?_)
    replace h := h m29 e29
    refine wp_aload_n dX9_add_30 rfl rfl (by first | exact Or.inl (by decide) | exact Or.inl (by omega) | exact Or.inr (by decide) | exact Or.inr (by omega)) ?_
    refine wp_getR dX9_add_31 fX9_18 (kdb_9 hbd) (by omega) ?_
    refine wp_topR (x' := (b + 12)) (grb_9_2 hbd) ?_
    refine wp_pc (pc' := 34) rfl ?_
    refine wp_iload_n dX9_add_34 rfl rfl ?_
    refine wp_iload_n dX9_add_35 rfl rfl ?_
    refine wp_iast dX9_add_36 (kdb_12 hbd) (by omega) c0 ?_
    refine wp_gI (fun m36 e36 => ?_)
    replace h := h m36 e36
    refine wp_aload_n dX9_add_37 rfl rfl (by first | exact Or.inl (by decide) | exact Or.inl (by omega) | exact Or.inr (by decide) | exact Or.inr (by omega)) ?_
    refine wp_getR dX9_add_38 fX9_21 (kdb_9 hbd) (by omega) ?_
    refine wp_topR (x' := (b + 13)) (grb_9_3 hbd) ?_
    refine wp_iload_n dX9_add_41 rfl rfl ?_
    refine wp_iconst dX9_add_42 (by decide) ?_
    refine wp_iast dX9_add_43 (kdb_13 hbd) (by omega) c0 ?_
    refine wp_gI (fun m43 e43 => ?_)
    replace h := h m43 e43
    refine wp_pc (pc' := 44) rfl ?_
    refine wp_aload_n dX9_add_44 rfl rfl (by first | exact Or.inl (by decide) | exact Or.inl (by omega) | exact Or.inr (by decide) | exact Or.inr (by omega)) ?_
    refine wp_getR dX9_add_45 fX9_34 (kdb_9 hbd) (by omega) ?_
    refine wp_topR (x' := (b + 17)) (grb_9_7 hbd) ?_
    refine wp_iload_n dX9_add_48 rfl rfl ?_
    refine wp_lconst (z := 0) dX9_add_49 (by decide +kernel) (by decide) ?_
    refine wp_last dX9_add_50 (kdb_17 hbd) (by omega) c0 ?_
    refine wp_gL (fun n50 e50 => ?_)
    replace h := h n50 e50
    refine wp_aload_n dX9_add_51 rfl rfl (by first | exact Or.inl (by decide) | exact Or.inl (by omega) | exact Or.inr (by decide) | exact Or.inr (by omega)) ?_
    refine wp_getR dX9_add_52 fX9_37 (kdb_9 hbd) (by omega) ?_
    refine wp_topR (x' := (b + 18)) (grb_9_8 hbd) ?_
    refine wp_iload_n dX9_add_55 rfl rfl ?_
    refine wp_pc (pc' := 56) rfl ?_
    refine wp_lconst (z := 0) dX9_add_56 (by decide +kernel) (by decide) ?_
    refine wp_last dX9_add_57 (kdb_18 hbd) (by omega) c0 ?_
    refine wp_gL (fun n57 e57 => ?_)
    replace h := h n57 e57
    refine wp_aload_n dX9_add_58 rfl rfl (by first | exact Or.inl (by decide) | exact Or.inl (by omega) | exact Or.inr (by decide) | exact Or.inr (by omega)) ?_
    refine wp_getR dX9_add_59 fX9_40 (kdb_9 hbd) (by omega) ?_
    refine wp_topR (x' := (b + 19)) (grb_9_9 hbd) ?_
    refine wp_iload_n dX9_add_62 rfl rfl ?_
    refine wp_iconst dX9_add_63 (by decide) ?_
    refine wp_bast dX9_add_64 (kdb_19 hbd) (by omega) c0 (by decide) ?_
    refine wp_gI (fun m64 e64 => ?_)
    replace h := h m64 e64
    refine wp_aload_n dX9_add_65 rfl rfl (by first | exact Or.inl (by decide) | exact Or.inl (by omega) | exact Or.inr (by decide) | exact Or.inr (by omega)) ?_
    refine wp_pc (pc' := 66) rfl ?_
    refine wp_dup dX9_add_66 (fun x e => by cases e) ?_
    refine wp_getI dX9_add_67 fX9_44 (kdb_9 hbd) (by omega) ?_
    refine wp_iconst dX9_add_70 (by decide) ?_
    have c1 := h.1
    replace h := h.2
    refine wp_iaddr dX9_add_71 c1 ?_
    refine wp_putI dX9_add_72 pX9_44 (kdb_9 hbd) (by omega) ?_
    refine wp_gI (fun m72 e72 => ?_)
    replace h := h m72 e72
    refine wp_iload_n dX9_add_75 rfl rfl ?_
    exact wp_iret dX9_add_76 rfl (fun _ => h)
  · replace h := h.2 h6
    refine wp_iconst dX9_add_9 (by decide) ?_
    exact wp_iret dX9_add_10 rfl (fun _ => h)
theorem dX9_named_0 : decode cX9_named 0 = .ok (.lconst 0, 1) := by decide +kernel
theorem dX9_named_1 : decode cX9_named 1 = .ok (.lstore 5, 2) := by decide +kernel
theorem dX9_named_3 : decode cX9_named 3 = .ok (.iconst 0, 1) := by decide +kernel
theorem dX9_named_4 : decode cX9_named 4 = .ok (.istore 7, 2) := by decide +kernel
theorem dX9_named_6 : decode cX9_named 6 = .ok (.iload 7, 2) := by decide +kernel
theorem dX9_named_8 : decode cX9_named 8 = .ok (.aload_n 0, 1) := by decide +kernel
theorem dX9_named_9 : decode cX9_named 9 = .ok (.getfield 21, 3) := by decide +kernel
theorem dX9_named_12 : decode cX9_named 12 = .ok (.iload_n 1, 1) := by decide +kernel
theorem dX9_named_13 : decode cX9_named 13 = .ok (.iaload, 1) := by decide +kernel
theorem dX9_named_14 : decode cX9_named 14 = .ok (.if_icmp .ge 35, 3) := by decide +kernel
theorem dX9_named_17 : decode cX9_named 17 = .ok (.aload_n 0, 1) := by decide +kernel
theorem dX9_named_18 : decode cX9_named 18 = .ok (.getfield 24, 3) := by decide +kernel
theorem dX9_named_21 : decode cX9_named 21 = .ok (.iload_n 1, 1) := by decide +kernel
theorem dX9_named_22 : decode cX9_named 22 = .ok (.bipush 40, 2) := by decide +kernel
theorem dX9_named_24 : decode cX9_named 24 = .ok (.imul, 1) := by decide +kernel
theorem dX9_named_25 : decode cX9_named 25 = .ok (.iload 7, 2) := by decide +kernel
theorem dX9_named_27 : decode cX9_named 27 = .ok (.iadd, 1) := by decide +kernel
theorem dX9_named_28 : decode cX9_named 28 = .ok (.iaload, 1) := by decide +kernel
theorem dX9_named_29 : decode cX9_named 29 = .ok (.iload 4, 2) := by decide +kernel
theorem dX9_named_31 : decode cX9_named 31 = .ok (.if_icmp .ne 12, 3) := by decide +kernel
theorem dX9_named_34 : decode cX9_named 34 = .ok (.lload 5, 2) := by decide +kernel
theorem dX9_named_36 : decode cX9_named 36 = .ok (.lconst 1, 1) := by decide +kernel
theorem dX9_named_37 : decode cX9_named 37 = .ok (.iload 7, 2) := by decide +kernel
theorem dX9_named_39 : decode cX9_named 39 = .ok (.lshl, 1) := by decide +kernel
theorem dX9_named_40 : decode cX9_named 40 = .ok (.lor, 1) := by decide +kernel
theorem dX9_named_41 : decode cX9_named 41 = .ok (.lstore 5, 2) := by decide +kernel
theorem dX9_named_43 : decode cX9_named 43 = .ok (.iinc 7 1, 3) := by decide +kernel
theorem dX9_named_46 : decode cX9_named 46 = .ok (.goto (-40), 3) := by decide +kernel
theorem dX9_named_49 : decode cX9_named 49 = .ok (.lload 5, 2) := by decide +kernel
theorem dX9_named_51 : decode cX9_named 51 = .ok (.lload_n 2, 1) := by decide +kernel
theorem dX9_named_52 : decode cX9_named 52 = .ok (.land, 1) := by decide +kernel
theorem dX9_named_53 : decode cX9_named 53 = .ok (.lreturn, 1) := by decide +kernel
theorem v_X9_named_0 {cs : Cs} {Q : Option AV → Mm → Prop} {MI ML : Nat → Nat → Int} {b d e nw th x : Nat} {l1 l2 l4 : Int}
    (h : wp cs mX9_named KD Q 6 [some (vR (b + 9)), some (vI l1), some (vL l2), none, some (vI l4), some (vL 0), none, some (vI 0)] [] (KD, MI, ML, (GR d e nw th x))) :
    wp cs mX9_named KD Q 0 (padL [vR (b + 9), vI l1, vL l2, vI l4] 8) [] (KD, MI, ML, (GR d e nw th x)) := by
  refine wp_L (L' := [some (vR (b + 9)), some (vI l1), some (vL l2), none, some (vI l4), none, none, none]) rfl ?_
  refine wp_lconst (z := 0) dX9_named_0 (by decide +kernel) (by decide) ?_
  refine wp_lstore dX9_named_1 (by decide) (wp_L (L' := [some (vR (b + 9)), some (vI l1), some (vL l2), none, some (vI l4), some (vL 0), none, none]) rfl ?_)
  refine wp_iconst dX9_named_3 (by decide) ?_
  refine wp_istore dX9_named_4 (by decide) (wp_L (L' := [some (vR (b + 9)), some (vI l1), some (vL l2), none, some (vI l4), some (vL 0), none, some (vI 0)]) rfl ?_)
  exact h
theorem v_X9_named_6 {cs : Cs} {Q : Option AV → Mm → Prop} {MI ML : Nat → Nat → Int} {b d e nw th x : Nat} {l1 l2 l4 l5 l7 : Int} (hbd : b = 38 ∨ b = 81)
    (h : (0 ≤ l1 ∧ l1 < 30) ∧ ((l7 < (MI (b + 13) l1.toNat) → (-2147483648 ≤ l1 * 40 ∧ l1 * 40 < 2147483648) ∧ (-2147483648 ≤ (l1 * 40) + l7 ∧ (l1 * 40) + l7 < 2147483648) ∧ (0 ≤ ((l1 * 40) + l7) ∧ ((l1 * 40) + l7) < 1200) ∧ (((MI (b + 14) ((l1 * 40) + l7).toNat) = l4 → (-2147483648 ≤ l7 + 1 ∧ l7 + 1 < 2147483648) ∧ wp cs mX9_named KD Q 6 [some (vR (b + 9)), some (vI l1), some (vL l2), none, some (vI l4), some (vL (l_or l5 (l_shl 1 l7))), none, some (vI (l7 + 1))] [] (KD, MI, ML, (GR d e nw th x))) ∧ ((MI (b + 14) ((l1 * 40) + l7).toNat) ≠ l4 → (-2147483648 ≤ l7 + 1 ∧ l7 + 1 < 2147483648) ∧ wp cs mX9_named KD Q 6 [some (vR (b + 9)), some (vI l1), some (vL l2), none, some (vI l4), some (vL l5), none, some (vI (l7 + 1))] [] (KD, MI, ML, (GR d e nw th x))))) ∧ ((MI (b + 13) l1.toNat) ≤ l7 → Q (some (vL (l_and l5 l2))) (MI, ML, (GR d e nw th x))))) :
    wp cs mX9_named KD Q 6 [some (vR (b + 9)), some (vI l1), some (vL l2), none, some (vI l4), some (vL l5), none, some (vI l7)] [] (KD, MI, ML, (GR d e nw th x)) := by
  refine wp_iload dX9_named_6 rfl ?_
  refine wp_aload_n dX9_named_8 rfl rfl (by first | exact Or.inl (by decide) | exact Or.inl (by omega) | exact Or.inr (by decide) | exact Or.inr (by omega)) ?_
  refine wp_getR dX9_named_9 fX9_21 (kdb_9 hbd) (by omega) ?_
  refine wp_topR (x' := (b + 13)) (grb_9_3 hbd) ?_
  refine wp_iload_n dX9_named_12 rfl rfl ?_
  have c0 := h.1
  replace h := h.2
  refine wp_iald dX9_named_13 (kdb_13 hbd) (by omega) c0 ?_
  refine wp_icmp_ge (tgt := 49) dX9_named_14 (by decide) (fun h14 => ?_) (fun h14 => ?_)
  · replace h := h.2 h14
    refine wp_lload dX9_named_49 rfl ?_
    refine wp_lload_n dX9_named_51 rfl rfl ?_
    refine wp_land dX9_named_52 ?_
    exact wp_lret dX9_named_53 rfl (fun _ => h)
  · replace h := h.1 h14
    refine wp_aload_n dX9_named_17 rfl rfl (by first | exact Or.inl (by decide) | exact Or.inl (by omega) | exact Or.inr (by decide) | exact Or.inr (by omega)) ?_
    refine wp_getR dX9_named_18 fX9_24 (kdb_9 hbd) (by omega) ?_
    refine wp_topR (x' := (b + 14)) (grb_9_4 hbd) ?_
    refine wp_iload_n dX9_named_21 rfl rfl ?_
    refine wp_bipush dX9_named_22 (by decide +kernel) (by decide) ?_
    have c1 := h.1
    replace h := h.2
    refine wp_imulr dX9_named_24 c1 ?_
    refine wp_iload dX9_named_25 rfl ?_
    have c2 := h.1
    replace h := h.2
    refine wp_iaddr dX9_named_27 c2 ?_
    refine wp_pc (pc' := 28) rfl ?_
    have c3 := h.1
    replace h := h.2
    refine wp_iald dX9_named_28 (kdb_14 hbd) (by omega) c3 ?_
    refine wp_iload dX9_named_29 rfl ?_
    refine wp_icmp_ne (tgt := 43) dX9_named_31 (by decide) (fun h31 => ?_) (fun h31 => ?_)
    · replace h := h.2 h31
      have c4 := h.1
      replace h := h.2
      refine wp_iincr dX9_named_43 rfl (by decide) c4 (wp_L (L' := [some (vR (b + 9)), some (vI l1), some (vL l2), none, some (vI l4), some (vL l5), none, some (vI (l7 + 1))]) rfl ?_)
      refine wp_goto (tgt := 6) dX9_named_46 (by decide) ?_
      exact h
    · replace h := h.1 h31
      refine wp_lload dX9_named_34 rfl ?_
      refine wp_lconst (z := 1) dX9_named_36 (by decide +kernel) (by decide) ?_
      refine wp_iload dX9_named_37 rfl ?_
      refine wp_lshl dX9_named_39 ?_
      refine wp_lor dX9_named_40 ?_
      refine wp_lstore dX9_named_41 (by decide) (wp_L (L' := [some (vR (b + 9)), some (vI l1), some (vL l2), none, some (vI l4), some (vL (l_or l5 (l_shl 1 l7))), none, some (vI l7)]) rfl ?_)
      have c4 := h.1
      replace h := h.2
      refine wp_iincr dX9_named_43 rfl (by decide) c4 (wp_L (L' := [some (vR (b + 9)), some (vI l1), some (vL l2), none, some (vI l4), some (vL (l_or l5 (l_shl 1 l7))), none, some (vI (l7 + 1))]) rfl ?_)
      refine wp_pc (pc' := 46) rfl ?_
      refine wp_goto (tgt := 6) dX9_named_46 (by decide) ?_
      exact h
theorem dX9_addPlace_0 : decode cX9_addPlace 0 = .ok (.aload_n 0, 1) := by decide +kernel
theorem dX9_addPlace_1 : decode cX9_addPlace 1 = .ok (.getfield 21, 3) := by decide +kernel
theorem dX9_addPlace_4 : decode cX9_addPlace 4 = .ok (.iload_n 1, 1) := by decide +kernel
theorem dX9_addPlace_5 : decode cX9_addPlace 5 = .ok (.iaload, 1) := by decide +kernel
theorem dX9_addPlace_6 : decode cX9_addPlace 6 = .ok (.istore_n 3, 1) := by decide +kernel
theorem dX9_addPlace_7 : decode cX9_addPlace 7 = .ok (.iload_n 3, 1) := by decide +kernel
theorem dX9_addPlace_8 : decode cX9_addPlace 8 = .ok (.bipush 40, 2) := by decide +kernel
theorem dX9_addPlace_10 : decode cX9_addPlace 10 = .ok (.if_icmp .lt 5, 3) := by decide +kernel
theorem dX9_addPlace_13 : decode cX9_addPlace 13 = .ok (.iconst (-1), 1) := by decide +kernel
theorem dX9_addPlace_14 : decode cX9_addPlace 14 = .ok (.ireturn, 1) := by decide +kernel
theorem dX9_addPlace_15 : decode cX9_addPlace 15 = .ok (.aload_n 0, 1) := by decide +kernel
theorem dX9_addPlace_16 : decode cX9_addPlace 16 = .ok (.getfield 31, 3) := by decide +kernel
theorem dX9_addPlace_19 : decode cX9_addPlace 19 = .ok (.iload_n 1, 1) := by decide +kernel
theorem dX9_addPlace_20 : decode cX9_addPlace 20 = .ok (.bipush 40, 2) := by decide +kernel
theorem dX9_addPlace_22 : decode cX9_addPlace 22 = .ok (.imul, 1) := by decide +kernel
theorem dX9_addPlace_23 : decode cX9_addPlace 23 = .ok (.iload_n 3, 1) := by decide +kernel
theorem dX9_addPlace_24 : decode cX9_addPlace 24 = .ok (.iadd, 1) := by decide +kernel
theorem dX9_addPlace_25 : decode cX9_addPlace 25 = .ok (.aload_n 0, 1) := by decide +kernel
theorem dX9_addPlace_26 : decode cX9_addPlace 26 = .ok (.iload_n 1, 1) := by decide +kernel
theorem dX9_addPlace_27 : decode cX9_addPlace 27 = .ok (.ldc2_w 48, 3) := by decide +kernel
theorem dX9_addPlace_30 : decode cX9_addPlace 30 = .ok (.iload_n 2, 1) := by decide +kernel
theorem dX9_addPlace_31 : decode cX9_addPlace 31 = .ok (.invokevirtual 50, 3) := by decide +kernel
theorem dX9_addPlace_34 : decode cX9_addPlace 34 = .ok (.lastore, 1) := by decide +kernel
theorem dX9_addPlace_35 : decode cX9_addPlace 35 = .ok (.aload_n 0, 1) := by decide +kernel
theorem dX9_addPlace_36 : decode cX9_addPlace 36 = .ok (.getfield 24, 3) := by decide +kernel
theorem dX9_addPlace_39 : decode cX9_addPlace 39 = .ok (.iload_n 1, 1) := by decide +kernel
theorem dX9_addPlace_40 : decode cX9_addPlace 40 = .ok (.bipush 40, 2) := by decide +kernel
theorem dX9_addPlace_42 : decode cX9_addPlace 42 = .ok (.imul, 1) := by decide +kernel
theorem dX9_addPlace_43 : decode cX9_addPlace 43 = .ok (.iload_n 3, 1) := by decide +kernel
theorem dX9_addPlace_44 : decode cX9_addPlace 44 = .ok (.iadd, 1) := by decide +kernel
theorem dX9_addPlace_45 : decode cX9_addPlace 45 = .ok (.iload_n 2, 1) := by decide +kernel
theorem dX9_addPlace_46 : decode cX9_addPlace 46 = .ok (.iastore, 1) := by decide +kernel
theorem dX9_addPlace_47 : decode cX9_addPlace 47 = .ok (.aload_n 0, 1) := by decide +kernel
theorem dX9_addPlace_48 : decode cX9_addPlace 48 = .ok (.getfield 27, 3) := by decide +kernel
theorem dX9_addPlace_51 : decode cX9_addPlace 51 = .ok (.iload_n 1, 1) := by decide +kernel
theorem dX9_addPlace_52 : decode cX9_addPlace 52 = .ok (.bipush 40, 2) := by decide +kernel
theorem dX9_addPlace_54 : decode cX9_addPlace 54 = .ok (.imul, 1) := by decide +kernel
theorem dX9_addPlace_55 : decode cX9_addPlace 55 = .ok (.iload_n 3, 1) := by decide +kernel
theorem dX9_addPlace_56 : decode cX9_addPlace 56 = .ok (.iadd, 1) := by decide +kernel
theorem dX9_addPlace_57 : decode cX9_addPlace 57 = .ok (.lconst 0, 1) := by decide +kernel
theorem dX9_addPlace_58 : decode cX9_addPlace 58 = .ok (.lastore, 1) := by decide +kernel
theorem dX9_addPlace_59 : decode cX9_addPlace 59 = .ok (.aload_n 0, 1) := by decide +kernel
theorem dX9_addPlace_60 : decode cX9_addPlace 60 = .ok (.getfield 21, 3) := by decide +kernel
theorem dX9_addPlace_63 : decode cX9_addPlace 63 = .ok (.iload_n 1, 1) := by decide +kernel
theorem dX9_addPlace_64 : decode cX9_addPlace 64 = .ok (.dup2, 1) := by decide +kernel
theorem dX9_addPlace_65 : decode cX9_addPlace 65 = .ok (.iaload, 1) := by decide +kernel
theorem dX9_addPlace_66 : decode cX9_addPlace 66 = .ok (.iconst 1, 1) := by decide +kernel
theorem dX9_addPlace_67 : decode cX9_addPlace 67 = .ok (.iadd, 1) := by decide +kernel
theorem dX9_addPlace_68 : decode cX9_addPlace 68 = .ok (.iastore, 1) := by decide +kernel
theorem dX9_addPlace_69 : decode cX9_addPlace 69 = .ok (.iload_n 3, 1) := by decide +kernel
theorem dX9_addPlace_70 : decode cX9_addPlace 70 = .ok (.ireturn, 1) := by decide +kernel
theorem v_X9_addPlace_0 {cs : Cs} {Q : Option AV → Mm → Prop} {MI ML : Nat → Nat → Int} {b d e nw th x : Nat} {l1 l2 : Int} (hbd : b = 38 ∨ b = 81)
    (h : (0 ≤ l1 ∧ l1 < 30) ∧ (((MI (b + 13) l1.toNat) < 40 → (-2147483648 ≤ l1 * 40 ∧ l1 * 40 < 2147483648) ∧ (-2147483648 ≤ (l1 * 40) + (MI (b + 13) l1.toNat) ∧ (l1 * 40) + (MI (b + 13) l1.toNat) < 2147483648) ∧ wp cs mX9_named KD (rJ (GR d e nw th x) fun x31 m31 n31 => (0 ≤ ((l1 * 40) + (MI (b + 13) l1.toNat)) ∧ ((l1 * 40) + (MI (b + 13) l1.toNat)) < 1200) ∧ ∀ n34, n34 = up2 n31 (b + 16) ((l1 * 40) + (MI (b + 13) l1.toNat)).toNat x31 → ∀ m46, m46 = up2 m31 (b + 14) ((l1 * 40) + (MI (b + 13) l1.toNat)).toNat l2 → ∀ n58, n58 = up2 n34 (b + 15) ((l1 * 40) + (MI (b + 13) l1.toNat)).toNat 0 → (-2147483648 ≤ (m46 (b + 13) l1.toNat) + 1 ∧ (m46 (b + 13) l1.toNat) + 1 < 2147483648) ∧ ∀ m68, m68 = up2 m46 (b + 13) l1.toNat ((m46 (b + 13) l1.toNat) + 1) → Q (some (vI (MI (b + 13) l1.toNat))) (m68, n58, (GR d e nw th x))) 0 (padL [vR (b + 9), vI l1, vL (-1), vI l2] 8) [] (KD, MI, ML, (GR d e nw th x))) ∧ (40 ≤ (MI (b + 13) l1.toNat) → Q (some (vI (-1))) (MI, ML, (GR d e nw th x))))) :
    wp cs mX9_addPlace KD Q 0 (padL [vR (b + 9), vI l1, vI l2] 4) [] (KD, MI, ML, (GR d e nw th x)) := by
  refine wp_L (L' := [some (vR (b + 9)), some (vI l1), some (vI l2), none]) rfl ?_
  refine wp_aload_n dX9_addPlace_0 rfl rfl (by first | exact Or.inl (by decide) | exact Or.inl (by omega) | exact Or.inr (by decide) | exact Or.inr (by omega)) ?_
  refine wp_getR dX9_addPlace_1 fX9_21 (kdb_9 hbd) (by omega) ?_
  refine wp_topR (x' := (b + 13)) (grb_9_3 hbd) ?_
  refine wp_iload_n dX9_addPlace_4 rfl rfl ?_
  have c0 := h.1
  replace h := h.2
  refine wp_iald dX9_addPlace_5 (kdb_13 hbd) (by omega) c0 ?_
  refine wp_istore_n dX9_addPlace_6 rfl (by decide) (wp_L (L' := [some (vR (b + 9)), some (vI l1), some (vI l2), some (vI (MI (b + 13) l1.toNat))]) rfl ?_)
  refine wp_iload_n dX9_addPlace_7 rfl rfl ?_
  refine wp_bipush dX9_addPlace_8 (by decide +kernel) (by decide) ?_
  refine wp_pc (pc' := 10) rfl ?_
  refine wp_icmp_lt (tgt := 15) dX9_addPlace_10 (by decide) (fun h10 => ?_) (fun h10 => ?_)
  · replace h := h.1 h10
    refine wp_aload_n dX9_addPlace_15 rfl rfl (by first | exact Or.inl (by decide) | exact Or.inl (by omega) | exact Or.inr (by decide) | exact Or.inr (by omega)) ?_
    refine wp_getR dX9_addPlace_16 fX9_31 (kdb_9 hbd) (by omega) ?_
    refine wp_topR (x' := (b + 16)) (grb_9_6 hbd) ?_
    refine wp_iload_n dX9_addPlace_19 rfl rfl ?_
    refine wp_bipush dX9_addPlace_20 (by decide +kernel) (by decide) ?_
    have c1 := h.1
    replace h := h.2
    refine wp_imulr dX9_addPlace_22 c1 ?_
    refine wp_iload_n dX9_addPlace_23 rfl rfl ?_
    have c2 := h.1
    replace h := h.2
    refine wp_iaddr dX9_addPlace_24 c2 ?_
    refine wp_pc (pc' := 25) rfl ?_
    refine wp_aload_n dX9_addPlace_25 rfl rfl (by first | exact Or.inl (by decide) | exact Or.inl (by omega) | exact Or.inr (by decide) | exact Or.inr (by omega)) ?_
    refine wp_iload_n dX9_addPlace_26 rfl rfl ?_
    refine wp_ldc2 (x := (-1)) dX9_addPlace_27 cX9_48 (by decide) ?_
    refine wp_iload_n dX9_addPlace_30 rfl rfl ?_
    refine wp_cVq (n := 3) (mt' := mX9_named) (as := [vI l1, vL (-1), vI l2]) (rest := [vI ((l1 * 40) + (MI (b + 13) l1.toNat)), vR (b + 16)]) _ dX9_addPlace_31 lX9_50 kX9_named vX9_named (by decide) (by decide +kernel) rfl (Nat.le_of_ble_eq_true rfl) (by omega) (kdb_9 hbd) rfl rfl (Nat.le_of_ble_eq_true rfl) (fun hM hS => h) (fun r M' hq hM => ?_)
    obtain ⟨x31, m31, n31, rfl, rfl, h⟩ := rJ_out hq
    have c3 := h.1
    replace h := h.2
    refine wp_last dX9_addPlace_34 (kdb_16 hbd) (by omega) c3 ?_
    refine wp_gL (fun n34 e34 => ?_)
    replace h := h n34 e34
    refine wp_aload_n dX9_addPlace_35 rfl rfl (by first | exact Or.inl (by decide) | exact Or.inl (by omega) | exact Or.inr (by decide) | exact Or.inr (by omega)) ?_
    refine wp_getR dX9_addPlace_36 fX9_24 (kdb_9 hbd) (by omega) ?_
    refine wp_topR (x' := (b + 14)) (grb_9_4 hbd) ?_
    refine wp_iload_n dX9_addPlace_39 rfl rfl ?_
    refine wp_bipush dX9_addPlace_40 (by decide +kernel) (by decide) ?_
    refine wp_imulr dX9_addPlace_42 c1 ?_
    refine wp_iload_n dX9_addPlace_43 rfl rfl ?_
    refine wp_pc (pc' := 44) rfl ?_
    refine wp_iaddr dX9_addPlace_44 c2 ?_
    refine wp_iload_n dX9_addPlace_45 rfl rfl ?_
    refine wp_iast dX9_addPlace_46 (kdb_14 hbd) (by omega) c3 ?_
    refine wp_gI (fun m46 e46 => ?_)
    replace h := h m46 e46
    refine wp_aload_n dX9_addPlace_47 rfl rfl (by first | exact Or.inl (by decide) | exact Or.inl (by omega) | exact Or.inr (by decide) | exact Or.inr (by omega)) ?_
    refine wp_getR dX9_addPlace_48 fX9_27 (kdb_9 hbd) (by omega) ?_
    refine wp_topR (x' := (b + 15)) (grb_9_5 hbd) ?_
    refine wp_iload_n dX9_addPlace_51 rfl rfl ?_
    refine wp_bipush dX9_addPlace_52 (by decide +kernel) (by decide) ?_
    refine wp_imulr dX9_addPlace_54 c1 ?_
    refine wp_pc (pc' := 55) rfl ?_
    refine wp_iload_n dX9_addPlace_55 rfl rfl ?_
    refine wp_iaddr dX9_addPlace_56 c2 ?_
    refine wp_lconst (z := 0) dX9_addPlace_57 (by decide +kernel) (by decide) ?_
    refine wp_last dX9_addPlace_58 (kdb_15 hbd) (by omega) c3 ?_
    refine wp_gL (fun n58 e58 => ?_)
    replace h := h n58 e58
    refine wp_aload_n dX9_addPlace_59 rfl rfl (by first | exact Or.inl (by decide) | exact Or.inl (by omega) | exact Or.inr (by decide) | exact Or.inr (by omega)) ?_
    refine wp_getR dX9_addPlace_60 fX9_21 (kdb_9 hbd) (by omega) ?_
    refine wp_topR (x' := (b + 13)) (grb_9_3 hbd) ?_
    refine wp_iload_n dX9_addPlace_63 rfl rfl ?_
    refine wp_dup2 dX9_addPlace_64 (fun x e => by cases e) (fun x e => by cases e) ?_
    refine wp_pc (pc' := 65) rfl ?_
    refine wp_iald dX9_addPlace_65 (kdb_13 hbd) (by omega) c0 ?_
    refine wp_iconst dX9_addPlace_66 (by decide) ?_
    have c4 := h.1
    replace h := h.2
    refine wp_iaddr dX9_addPlace_67 c4 ?_
    refine wp_iast dX9_addPlace_68 (kdb_13 hbd) (by omega) c0 ?_
    refine wp_gI (fun m68 e68 => ?_)
    replace h := h m68 e68
    refine wp_iload_n dX9_addPlace_69 rfl rfl ?_
    exact wp_iret dX9_addPlace_70 rfl (fun _ => h)
  · replace h := h.2 h10
    refine wp_iconst dX9_addPlace_13 (by decide) ?_
    exact wp_iret dX9_addPlace_14 rfl (fun _ => h)
theorem dX2_readPlace_0 : decode cX2_readPlace 0 = .ok (.aload_n 0, 1) := by decide +kernel
theorem dX2_readPlace_1 : decode cX2_readPlace 1 = .ok (.getfield 44, 3) := by decide +kernel
theorem dX2_readPlace_4 : decode cX2_readPlace 4 = .ok (.invokevirtual 60, 3) := by decide +kernel
theorem dX2_readPlace_7 : decode cX2_readPlace 7 = .ok (.ifCond .ne 5, 3) := by decide +kernel
theorem dX2_readPlace_10 : decode cX2_readPlace 10 = .ok (.iconst 0, 1) := by decide +kernel
theorem dX2_readPlace_11 : decode cX2_readPlace 11 = .ok (.ireturn, 1) := by decide +kernel
theorem dX2_readPlace_12 : decode cX2_readPlace 12 = .ok (.aload_n 1, 1) := by decide +kernel
theorem dX2_readPlace_13 : decode cX2_readPlace 13 = .ok (.getfield 111, 3) := by decide +kernel
theorem dX2_readPlace_16 : decode cX2_readPlace 16 = .ok (.iload_n 2, 1) := by decide +kernel
theorem dX2_readPlace_17 : decode cX2_readPlace 17 = .ok (.aload_n 1, 1) := by decide +kernel
theorem dX2_readPlace_18 : decode cX2_readPlace 18 = .ok (.getfield 63, 3) := by decide +kernel
theorem dX2_readPlace_21 : decode cX2_readPlace 21 = .ok (.aload_n 0, 1) := by decide +kernel
theorem dX2_readPlace_22 : decode cX2_readPlace 22 = .ok (.getfield 44, 3) := by decide +kernel
theorem dX2_readPlace_25 : decode cX2_readPlace 25 = .ok (.invokevirtual 69, 3) := by decide +kernel
theorem dX2_readPlace_28 : decode cX2_readPlace 28 = .ok (.invokevirtual 189, 3) := by decide +kernel
theorem dX2_readPlace_31 : decode cX2_readPlace 31 = .ok (.istore_n 3, 1) := by decide +kernel
theorem dX2_readPlace_32 : decode cX2_readPlace 32 = .ok (.iload_n 3, 1) := by decide +kernel
theorem dX2_readPlace_33 : decode cX2_readPlace 33 = .ok (.iconst (-1), 1) := by decide +kernel
theorem dX2_readPlace_34 : decode cX2_readPlace 34 = .ok (.if_icmp .ne 20, 3) := by decide +kernel
theorem dX2_readPlace_37 : decode cX2_readPlace 37 = .ok (.aload_n 0, 1) := by decide +kernel
theorem dX2_readPlace_38 : decode cX2_readPlace 38 = .ok (.getfield 44, 3) := by decide +kernel
theorem dX2_readPlace_41 : decode cX2_readPlace 41 = .ok (.bipush (-3), 2) := by decide +kernel
theorem dX2_readPlace_43 : decode cX2_readPlace 43 = .ok (.aload_n 0, 1) := by decide +kernel
theorem dX2_readPlace_44 : decode cX2_readPlace 44 = .ok (.getfield 44, 3) := by decide +kernel
theorem dX2_readPlace_47 : decode cX2_readPlace 47 = .ok (.getfield 192, 3) := by decide +kernel
theorem dX2_readPlace_50 : decode cX2_readPlace 50 = .ok (.invokevirtual 118, 3) := by decide +kernel
theorem dX2_readPlace_53 : decode cX2_readPlace 53 = .ok (.ireturn, 1) := by decide +kernel
theorem dX2_readPlace_54 : decode cX2_readPlace 54 = .ok (.aload_n 0, 1) := by decide +kernel
theorem dX2_readPlace_55 : decode cX2_readPlace 55 = .ok (.lconst 1, 1) := by decide +kernel
theorem dX2_readPlace_56 : decode cX2_readPlace 56 = .ok (.iload_n 3, 1) := by decide +kernel
theorem dX2_readPlace_57 : decode cX2_readPlace 57 = .ok (.lshl, 1) := by decide +kernel
theorem dX2_readPlace_58 : decode cX2_readPlace 58 = .ok (.putfield 33, 3) := by decide +kernel
theorem dX2_readPlace_61 : decode cX2_readPlace 61 = .ok (.aload_n 0, 1) := by decide +kernel
theorem dX2_readPlace_62 : decode cX2_readPlace 62 = .ok (.aload_n 0, 1) := by decide +kernel
theorem dX2_readPlace_63 : decode cX2_readPlace 63 = .ok (.getfield 33, 3) := by decide +kernel
theorem dX2_readPlace_66 : decode cX2_readPlace 66 = .ok (.putfield 37, 3) := by decide +kernel
theorem dX2_readPlace_69 : decode cX2_readPlace 69 = .ok (.aload_n 0, 1) := by decide +kernel
theorem dX2_readPlace_70 : decode cX2_readPlace 70 = .ok (.iconst 0, 1) := by decide +kernel
theorem dX2_readPlace_71 : decode cX2_readPlace 71 = .ok (.putfield 40, 3) := by decide +kernel
theorem dX2_readPlace_74 : decode cX2_readPlace 74 = .ok (.iconst 1, 1) := by decide +kernel
theorem dX2_readPlace_75 : decode cX2_readPlace 75 = .ok (.ireturn, 1) := by decide +kernel
theorem v_X2_readPlace_0 {cs : Cs} {Q : Option AV → Mm → Prop} {MI ML : Nat → Nat → Int} {b d e nw th : Nat} {l2 : Int} (hbd : b = 38 ∨ b = 81)
    (h : wp cs mX1_needName KD (rI (GR d e nw th 1) fun x4 m4 n4 => ((x4 = 0 → Q (some (vI 0)) (m4, n4, (GR d e nw th 1))) ∧ (x4 ≠ 0 → wp cs mX5_keep KD (rI (GR d e nw th 1) fun x25 m25 n25 => wp cs mX9_addPlace KD (rI (GR d e nw th 1) fun x28 m28 n28 => ((x28 = (-1) → wp cs mX1_refuse KD (rI (GR d e nw th 1) fun x50 m50 n50 => (x50 = 0 ∨ x50 = 1) ∧ Q (some (vI x50)) (m50, n50, (GR d e nw th 1))) 0 (padL [vR 2, vI (-3), vI (m28 2 3)] 3) [] (KD, m28, n28, (GR d e nw th 1))) ∧ (x28 ≠ (-1) → ∀ n58, n58 = up2 n28 4 7 (l_shl 1 x28) → ∀ n66, n66 = up2 n58 4 8 (n58 4 7) → ∀ m71, m71 = up2 m28 4 9 0 → Q (some (vI 1)) (m71, n66, (GR d e nw th 1))))) 0 (padL [vR (b + 9), vI l2, vI x25] 4) [] (KD, m25, n25, (GR d e nw th 1))) 0 (padL [vR (b + 1), vR 2] 5) [] (KD, m4, n4, (GR d e nw th 1))))) 0 (padL [vR 2] 1) [] (KD, MI, ML, (GR d e nw th 1))) :
    wp cs mX2_readPlace KD Q 0 (padL [vR 4, vR b, vI l2] 4) [] (KD, MI, ML, (GR d e nw th 1)) := by
  refine wp_L (L' := [some (vR 4), some (vR b), some (vI l2), none]) rfl ?_
  refine wp_aload_n dX2_readPlace_0 rfl rfl (by first | exact Or.inl (by decide) | exact Or.inl (by omega) | exact Or.inr (by decide) | exact Or.inr (by omega)) ?_
  refine wp_getR dX2_readPlace_1 fX2_44 rfl (by decide) ?_
  refine wp_topR (x' := 2) rfl ?_
  refine wp_cVq (n := 0) (mt' := mX1_needName) (as := []) (rest := []) _ dX2_readPlace_4 lX2_60 kX1_needName vX1_needName (by decide) (by decide +kernel) rfl (Nat.le_of_ble_eq_true rfl) (by decide) rfl rfl rfl (Nat.le_of_ble_eq_true rfl) (fun hM hS => h) (fun r M' hq hM => ?_)
  obtain ⟨x4, m4, n4, rfl, rfl, h⟩ := rI_out hq
  refine wp_if_ne (tgt := 12) dX2_readPlace_7 (by decide) (fun h7 => ?_) (fun h7 => ?_)
  · replace h := h.2 h7
    refine wp_aload_n dX2_readPlace_12 rfl rfl (by first | exact Or.inl (by decide) | exact Or.inl (by omega) | exact Or.inr (by decide) | exact Or.inr (by omega)) ?_
    refine wp_getR dX2_readPlace_13 fX2_111 (show KD[b]? = some (7, 19) from kdb_0 hbd) (by omega) ?_
    refine wp_topR (x' := (b + 9)) (grb_0_1 hbd) ?_
    refine wp_iload_n dX2_readPlace_16 rfl rfl ?_
    refine wp_aload_n dX2_readPlace_17 rfl rfl (by first | exact Or.inl (by decide) | exact Or.inl (by omega) | exact Or.inr (by decide) | exact Or.inr (by omega)) ?_
    refine wp_getR dX2_readPlace_18 fX2_63 (show KD[b]? = some (7, 19) from kdb_0 hbd) (by omega) ?_
    refine wp_topR (x' := (b + 1)) (grb_0_0 hbd) ?_
    refine wp_aload_n dX2_readPlace_21 rfl rfl (by first | exact Or.inl (by decide) | exact Or.inl (by omega) | exact Or.inr (by decide) | exact Or.inr (by omega)) ?_
    refine wp_getR dX2_readPlace_22 fX2_44 rfl (by decide) ?_
    refine wp_topR (x' := 2) rfl ?_
    refine wp_pc (pc' := 25) rfl ?_
    refine wp_cVq (n := 1) (mt' := mX5_keep) (as := [vR 2]) (rest := [vI l2, vR (b + 9)]) _ dX2_readPlace_25 lX2_69 kX5_keep vX5_keep (by decide) (by decide +kernel) rfl (Nat.le_of_ble_eq_true rfl) (by omega) (kdb_1 hbd) rfl rfl (Nat.le_of_ble_eq_true rfl) (fun hM hS => h) (fun r M' hq hM => ?_)
    obtain ⟨x25, m25, n25, rfl, rfl, h⟩ := rI_out hq
    refine wp_cVq (n := 2) (mt' := mX9_addPlace) (as := [vI l2, vI x25]) (rest := []) _ dX2_readPlace_28 lX2_189 kX9_addPlace vX9_addPlace (by decide) (by decide +kernel) rfl (Nat.le_of_ble_eq_true rfl) (by omega) (kdb_9 hbd) rfl rfl (Nat.le_of_ble_eq_true rfl) (fun hM hS => h) (fun r M' hq hM => ?_)
    obtain ⟨x28, m28, n28, rfl, rfl, h⟩ := rI_out hq
    refine wp_istore_n dX2_readPlace_31 rfl (by decide) (wp_L (L' := [some (vR 4), some (vR b), some (vI l2), some (vI x28)]) rfl ?_)
    refine wp_iload_n dX2_readPlace_32 rfl rfl ?_
    refine wp_iconst dX2_readPlace_33 (by decide) ?_
    refine wp_icmp_ne (tgt := 54) dX2_readPlace_34 (by decide) (fun h34 => ?_) (fun h34 => ?_)
    · replace h := h.2 h34
      refine wp_aload_n dX2_readPlace_54 rfl rfl (by first | exact Or.inl (by decide) | exact Or.inl (by omega) | exact Or.inr (by decide) | exact Or.inr (by omega)) ?_
      refine wp_lconst (z := 1) dX2_readPlace_55 (by decide +kernel) (by decide) ?_
      refine wp_iload_n dX2_readPlace_56 rfl rfl ?_
      refine wp_lshl dX2_readPlace_57 ?_
      refine wp_putL dX2_readPlace_58 pX2_33 rfl (by decide) ?_
      refine wp_gL (fun n58 e58 => ?_)
      replace h := h n58 e58
      refine wp_aload_n dX2_readPlace_61 rfl rfl (by first | exact Or.inl (by decide) | exact Or.inl (by omega) | exact Or.inr (by decide) | exact Or.inr (by omega)) ?_
      refine wp_aload_n dX2_readPlace_62 rfl rfl (by first | exact Or.inl (by decide) | exact Or.inl (by omega) | exact Or.inr (by decide) | exact Or.inr (by omega)) ?_
      refine wp_pc (pc' := 63) rfl ?_
      refine wp_getL dX2_readPlace_63 fX2_33 rfl (by decide) ?_
      refine wp_putL dX2_readPlace_66 pX2_37 rfl (by decide) ?_
      refine wp_gL (fun n66 e66 => ?_)
      replace h := h n66 e66
      refine wp_aload_n dX2_readPlace_69 rfl rfl (by first | exact Or.inl (by decide) | exact Or.inl (by omega) | exact Or.inr (by decide) | exact Or.inr (by omega)) ?_
      refine wp_iconst dX2_readPlace_70 (by decide) ?_
      refine wp_putB dX2_readPlace_71 pX2_40 rfl (by decide) (by decide) ?_
      refine wp_gI (fun m71 e71 => ?_)
      replace h := h m71 e71
      refine wp_iconst dX2_readPlace_74 (by decide) ?_
      exact wp_zret dX2_readPlace_75 rfl (by decide) (fun _ => h)
    · replace h := h.1 h34
      refine wp_aload_n dX2_readPlace_37 rfl rfl (by first | exact Or.inl (by decide) | exact Or.inl (by omega) | exact Or.inr (by decide) | exact Or.inr (by omega)) ?_
      refine wp_getR dX2_readPlace_38 fX2_44 rfl (by decide) ?_
      refine wp_topR (x' := 2) rfl ?_
      refine wp_bipush dX2_readPlace_41 (by decide +kernel) (by decide) ?_
      refine wp_aload_n dX2_readPlace_43 rfl rfl (by first | exact Or.inl (by decide) | exact Or.inl (by omega) | exact Or.inr (by decide) | exact Or.inr (by omega)) ?_
      refine wp_getR dX2_readPlace_44 fX2_44 rfl (by decide) ?_
      refine wp_topR (x' := 2) rfl ?_
      refine wp_getI dX2_readPlace_47 fX2_192 rfl (by decide) ?_
      refine wp_cVq (n := 2) (mt' := mX1_refuse) (as := [vI (-3), vI (m28 2 3)]) (rest := []) _ dX2_readPlace_50 lX2_118 kX1_refuse vX1_refuse (by decide) (by decide +kernel) rfl (Nat.le_of_ble_eq_true rfl) (by decide) rfl rfl rfl (Nat.le_of_ble_eq_true rfl) (fun hM hS => h) (fun r M' hq hM => ?_)
      obtain ⟨x50, m50, n50, rfl, rfl, h⟩ := rI_out hq
      exact wp_zret dX2_readPlace_53 rfl h.1 (fun _ => h.2)
  · replace h := h.1 h7
    refine wp_iconst dX2_readPlace_10 (by decide) ?_
    exact wp_zret dX2_readPlace_11 rfl (by decide) (fun _ => h)
theorem dX2_readMixed_0 : decode cX2_readMixed 0 = .ok (.aload_n 0, 1) := by decide +kernel
theorem dX2_readMixed_1 : decode cX2_readMixed 1 = .ok (.getfield 44, 3) := by decide +kernel
theorem dX2_readMixed_4 : decode cX2_readMixed 4 = .ok (.invokevirtual 78, 3) := by decide +kernel
theorem dX2_readMixed_7 : decode cX2_readMixed 7 = .ok (.iconst 0, 1) := by decide +kernel
theorem dX2_readMixed_8 : decode cX2_readMixed 8 = .ok (.istore_n 3, 1) := by decide +kernel
theorem dX2_readMixed_9 : decode cX2_readMixed 9 = .ok (.iload_n 3, 1) := by decide +kernel
theorem dX2_readMixed_10 : decode cX2_readMixed 10 = .ok (.aload_n 0, 1) := by decide +kernel
theorem dX2_readMixed_11 : decode cX2_readMixed 11 = .ok (.getfield 44, 3) := by decide +kernel
theorem dX2_readMixed_14 : decode cX2_readMixed 14 = .ok (.getfield 89, 3) := by decide +kernel
theorem dX2_readMixed_17 : decode cX2_readMixed 17 = .ok (.if_icmp .ge 46, 3) := by decide +kernel
theorem dX2_readMixed_20 : decode cX2_readMixed 20 = .ok (.aload_n 0, 1) := by decide +kernel
theorem dX2_readMixed_21 : decode cX2_readMixed 21 = .ok (.getfield 44, 3) := by decide +kernel
theorem dX2_readMixed_24 : decode cX2_readMixed 24 = .ok (.ldc 157, 2) := by decide +kernel
theorem dX2_readMixed_26 : decode cX2_readMixed 26 = .ok (.invokevirtual 50, 3) := by decide +kernel
theorem dX2_readMixed_29 : decode cX2_readMixed 29 = .ok (.ifCond .eq 34, 3) := by decide +kernel
theorem dX2_readMixed_32 : decode cX2_readMixed 32 = .ok (.aload_n 0, 1) := by decide +kernel
theorem dX2_readMixed_33 : decode cX2_readMixed 33 = .ok (.getfield 44, 3) := by decide +kernel
theorem dX2_readMixed_36 : decode cX2_readMixed 36 = .ok (.invokevirtual 78, 3) := by decide +kernel
theorem dX2_readMixed_39 : decode cX2_readMixed 39 = .ok (.aload_n 0, 1) := by decide +kernel
theorem dX2_readMixed_40 : decode cX2_readMixed 40 = .ok (.aload_n 1, 1) := by decide +kernel
theorem dX2_readMixed_41 : decode cX2_readMixed 41 = .ok (.iload_n 2, 1) := by decide +kernel
theorem dX2_readMixed_42 : decode cX2_readMixed 42 = .ok (.invokevirtual 159, 3) := by decide +kernel
theorem dX2_readMixed_45 : decode cX2_readMixed 45 = .ok (.ifCond .ne 5, 3) := by decide +kernel
theorem dX2_readMixed_48 : decode cX2_readMixed 48 = .ok (.iconst 0, 1) := by decide +kernel
theorem dX2_readMixed_49 : decode cX2_readMixed 49 = .ok (.ireturn, 1) := by decide +kernel
theorem dX2_readMixed_50 : decode cX2_readMixed 50 = .ok (.aload_n 0, 1) := by decide +kernel
theorem dX2_readMixed_51 : decode cX2_readMixed 51 = .ok (.getfield 44, 3) := by decide +kernel
theorem dX2_readMixed_54 : decode cX2_readMixed 54 = .ok (.invokevirtual 78, 3) := by decide +kernel
theorem dX2_readMixed_57 : decode cX2_readMixed 57 = .ok (.iinc 3 1, 3) := by decide +kernel
theorem dX2_readMixed_60 : decode cX2_readMixed 60 = .ok (.goto (-51), 3) := by decide +kernel
theorem dX2_readMixed_63 : decode cX2_readMixed 63 = .ok (.aload_n 0, 1) := by decide +kernel
theorem dX2_readMixed_64 : decode cX2_readMixed 64 = .ok (.getfield 44, 3) := by decide +kernel
theorem dX2_readMixed_67 : decode cX2_readMixed 67 = .ok (.ldc 162, 2) := by decide +kernel
theorem dX2_readMixed_69 : decode cX2_readMixed 69 = .ok (.invokevirtual 83, 3) := by decide +kernel
theorem dX2_readMixed_72 : decode cX2_readMixed 72 = .ok (.ifCond .ne 5, 3) := by decide +kernel
theorem dX2_readMixed_75 : decode cX2_readMixed 75 = .ok (.iconst 0, 1) := by decide +kernel
theorem dX2_readMixed_76 : decode cX2_readMixed 76 = .ok (.ireturn, 1) := by decide +kernel
theorem dX2_readMixed_77 : decode cX2_readMixed 77 = .ok (.aload_n 0, 1) := by decide +kernel
theorem dX2_readMixed_78 : decode cX2_readMixed 78 = .ok (.getfield 44, 3) := by decide +kernel
theorem dX2_readMixed_81 : decode cX2_readMixed 81 = .ok (.ldc 164, 2) := by decide +kernel
theorem dX2_readMixed_83 : decode cX2_readMixed 83 = .ok (.invokevirtual 50, 3) := by decide +kernel
theorem dX2_readMixed_86 : decode cX2_readMixed 86 = .ok (.ifCond .ne 33, 3) := by decide +kernel
theorem dX2_readMixed_89 : decode cX2_readMixed 89 = .ok (.aload_n 1, 1) := by decide +kernel
theorem dX2_readMixed_90 : decode cX2_readMixed 90 = .ok (.getfield 111, 3) := by decide +kernel
theorem dX2_readMixed_93 : decode cX2_readMixed 93 = .ok (.getfield 166, 3) := by decide +kernel
theorem dX2_readMixed_96 : decode cX2_readMixed 96 = .ok (.iload_n 2, 1) := by decide +kernel
theorem dX2_readMixed_97 : decode cX2_readMixed 97 = .ok (.iaload, 1) := by decide +kernel
theorem dX2_readMixed_98 : decode cX2_readMixed 98 = .ok (.ifCond .eq 21, 3) := by decide +kernel
theorem dX2_readMixed_101 : decode cX2_readMixed 101 = .ok (.aload_n 0, 1) := by decide +kernel
theorem dX2_readMixed_102 : decode cX2_readMixed 102 = .ok (.getfield 44, 3) := by decide +kernel
theorem dX2_readMixed_105 : decode cX2_readMixed 105 = .ok (.iconst (-1), 1) := by decide +kernel
theorem dX2_readMixed_106 : decode cX2_readMixed 106 = .ok (.aload_n 0, 1) := by decide +kernel
theorem dX2_readMixed_107 : decode cX2_readMixed 107 = .ok (.getfield 44, 3) := by decide +kernel
theorem dX2_readMixed_110 : decode cX2_readMixed 110 = .ok (.getfield 94, 3) := by decide +kernel
theorem dX2_readMixed_113 : decode cX2_readMixed 113 = .ok (.invokevirtual 118, 3) := by decide +kernel
theorem dX2_readMixed_116 : decode cX2_readMixed 116 = .ok (.ifCond .eq 7, 3) := by decide +kernel
theorem dX2_readMixed_119 : decode cX2_readMixed 119 = .ok (.iconst 1, 1) := by decide +kernel
theorem dX2_readMixed_120 : decode cX2_readMixed 120 = .ok (.goto 4, 3) := by decide +kernel
theorem dX2_readMixed_123 : decode cX2_readMixed 123 = .ok (.iconst 0, 1) := by decide +kernel
theorem dX2_readMixed_124 : decode cX2_readMixed 124 = .ok (.ireturn, 1) := by decide +kernel
theorem v_X2_readMixed_0 {cs : Cs} {Q : Option AV → Mm → Prop} {MI ML : Nat → Nat → Int} {b d e nw th : Nat} {l2 : Int} (hbd : b = 38 ∨ b = 81)
    (h : wp cs mX1_skipSpace KD (rV (GR d e nw th 1) fun m4 n4 => wp cs mX2_readMixed KD Q 9 [some (vR 4), some (vR b), some (vI l2), some (vI 0)] [] (KD, m4, n4, (GR d e nw th 1))) 0 (padL [vR 2] 1) [] (KD, MI, ML, (GR d e nw th 1))) :
    wp cs mX2_readMixed KD Q 0 (padL [vR 4, vR b, vI l2] 4) [] (KD, MI, ML, (GR d e nw th 1)) := by
  refine wp_L (L' := [some (vR 4), some (vR b), some (vI l2), none]) rfl ?_
  refine wp_aload_n dX2_readMixed_0 rfl rfl (by first | exact Or.inl (by decide) | exact Or.inl (by omega) | exact Or.inr (by decide) | exact Or.inr (by omega)) ?_
  refine wp_getR dX2_readMixed_1 fX2_44 rfl (by decide) ?_
  refine wp_topR (x' := 2) rfl ?_
  refine wp_cVq (n := 0) (mt' := mX1_skipSpace) (as := []) (rest := []) _ dX2_readMixed_4 lX2_78 kX1_skipSpace vX1_skipSpace (by decide) (by decide +kernel) rfl (Nat.le_of_ble_eq_true rfl) (by decide) rfl rfl rfl (Nat.le_of_ble_eq_true rfl) (fun hM hS => h) (fun r M' hq hM => ?_)
  obtain ⟨m4, n4, rfl, rfl, h⟩ := rV_out hq
  refine wp_iconst dX2_readMixed_7 (by decide) ?_
  refine wp_istore_n dX2_readMixed_8 rfl (by decide) (wp_L (L' := [some (vR 4), some (vR b), some (vI l2), some (vI 0)]) rfl ?_)
  exact h
theorem v_X2_readMixed_9 {cs : Cs} {Q : Option AV → Mm → Prop} {MI ML : Nat → Nat → Int} {b d e nw th : Nat} {l2 l3 : Int} (hbd : b = 38 ∨ b = 81)
    (h : ((l3 < (MI 2 1) → wp cs mX1_takeIf KD (rI (GR d e nw th 1) fun x26 m26 n26 => ((x26 = 0 → wp cs mX2_readMixed KD Q 63 [some (vR 4), some (vR b), some (vI l2), some (vI l3)] [] (KD, m26, n26, (GR d e nw th 1))) ∧ (x26 ≠ 0 → wp cs mX1_skipSpace KD (rV (GR d e nw th 1) fun m36 n36 => wp cs mX2_readPlace KD (rI (GR d e nw th 1) fun x42 m42 n42 => ((x42 = 0 → Q (some (vI 0)) (m42, n42, (GR d e nw th 1))) ∧ (x42 ≠ 0 → wp cs mX1_skipSpace KD (rV (GR d e nw th 1) fun m54 n54 => (-2147483648 ≤ l3 + 1 ∧ l3 + 1 < 2147483648) ∧ wp cs mX2_readMixed KD Q 9 [some (vR 4), some (vR b), some (vI l2), some (vI (l3 + 1))] [] (KD, m54, n54, (GR d e nw th 1))) 0 (padL [vR 2] 1) [] (KD, m42, n42, (GR d e nw th 1))))) 0 (padL [vR 4, vR b, vI l2] 4) [] (KD, m36, n36, (GR d e nw th 1))) 0 (padL [vR 2] 1) [] (KD, m26, n26, (GR d e nw th 1))))) 0 (padL [vR 2, vR 1000014] 4) [] (KD, MI, ML, (GR d e nw th 1))) ∧ ((MI 2 1) ≤ l3 → wp cs mX2_readMixed KD Q 63 [some (vR 4), some (vR b), some (vI l2), some (vI l3)] [] (KD, MI, ML, (GR d e nw th 1))))) :
    wp cs mX2_readMixed KD Q 9 [some (vR 4), some (vR b), some (vI l2), some (vI l3)] [] (KD, MI, ML, (GR d e nw th 1)) := by
  refine wp_iload_n dX2_readMixed_9 rfl rfl ?_
  refine wp_aload_n dX2_readMixed_10 rfl rfl (by first | exact Or.inl (by decide) | exact Or.inl (by omega) | exact Or.inr (by decide) | exact Or.inr (by omega)) ?_
  refine wp_getR dX2_readMixed_11 fX2_44 rfl (by decide) ?_
  refine wp_topR (x' := 2) rfl ?_
  refine wp_getI dX2_readMixed_14 fX2_89 rfl (by decide) ?_
  refine wp_icmp_ge (tgt := 63) dX2_readMixed_17 (by decide) (fun h17 => ?_) (fun h17 => ?_)
  · replace h := h.2 h17
    exact h
  · replace h := h.1 h17
    refine wp_aload_n dX2_readMixed_20 rfl rfl (by first | exact Or.inl (by decide) | exact Or.inl (by omega) | exact Or.inr (by decide) | exact Or.inr (by omega)) ?_
    refine wp_getR dX2_readMixed_21 fX2_44 rfl (by decide) ?_
    refine wp_topR (x' := 2) rfl ?_
    refine wp_ldcS (k := 11) dX2_readMixed_24 cX2_157 ?_
    refine wp_cVq (n := 1) (mt' := mX1_takeIf) (as := [vR 1000014]) (rest := []) _ dX2_readMixed_26 lX2_50 kX1_takeIf vX1_takeIf (by decide) (by decide +kernel) rfl (Nat.le_of_ble_eq_true rfl) (by decide) rfl rfl rfl (Nat.le_of_ble_eq_true rfl) (fun hM hS => h) (fun r M' hq hM => ?_)
    obtain ⟨x26, m26, n26, rfl, rfl, h⟩ := rI_out hq
    refine wp_if_eq (tgt := 63) dX2_readMixed_29 (by decide) (fun h29 => ?_) (fun h29 => ?_)
    · replace h := h.1 h29
      exact h
    · replace h := h.2 h29
      refine wp_aload_n dX2_readMixed_32 rfl rfl (by first | exact Or.inl (by decide) | exact Or.inl (by omega) | exact Or.inr (by decide) | exact Or.inr (by omega)) ?_
      refine wp_getR dX2_readMixed_33 fX2_44 rfl (by decide) ?_
      refine wp_topR (x' := 2) rfl ?_
      refine wp_cVq (n := 0) (mt' := mX1_skipSpace) (as := []) (rest := []) _ dX2_readMixed_36 lX2_78 kX1_skipSpace vX1_skipSpace (by decide) (by decide +kernel) rfl (Nat.le_of_ble_eq_true rfl) (by decide) rfl rfl rfl (Nat.le_of_ble_eq_true rfl) (fun hM hS => h) (fun r M' hq hM => ?_)
      obtain ⟨m36, n36, rfl, rfl, h⟩ := rV_out hq
      refine wp_aload_n dX2_readMixed_39 rfl rfl (by first | exact Or.inl (by decide) | exact Or.inl (by omega) | exact Or.inr (by decide) | exact Or.inr (by omega)) ?_
      refine wp_aload_n dX2_readMixed_40 rfl rfl (by first | exact Or.inl (by decide) | exact Or.inl (by omega) | exact Or.inr (by decide) | exact Or.inr (by omega)) ?_
      refine wp_iload_n dX2_readMixed_41 rfl rfl ?_
      refine wp_cVq (n := 2) (mt' := mX2_readPlace) (as := [vR b, vI l2]) (rest := []) _ dX2_readMixed_42 lX2_159 kX2_readPlace vX2_readPlace (by decide) (by decide +kernel) rfl (Nat.le_of_ble_eq_true rfl) (by decide) rfl rfl rfl (Nat.le_of_ble_eq_true rfl) (fun hM hS => h) (fun r M' hq hM => ?_)
      obtain ⟨x42, m42, n42, rfl, rfl, h⟩ := rI_out hq
      refine wp_if_ne (tgt := 50) dX2_readMixed_45 (by decide) (fun h45 => ?_) (fun h45 => ?_)
      · replace h := h.2 h45
        refine wp_aload_n dX2_readMixed_50 rfl rfl (by first | exact Or.inl (by decide) | exact Or.inl (by omega) | exact Or.inr (by decide) | exact Or.inr (by omega)) ?_
        refine wp_getR dX2_readMixed_51 fX2_44 rfl (by decide) ?_
        refine wp_topR (x' := 2) rfl ?_
        refine wp_cVq (n := 0) (mt' := mX1_skipSpace) (as := []) (rest := []) _ dX2_readMixed_54 lX2_78 kX1_skipSpace vX1_skipSpace (by decide) (by decide +kernel) rfl (Nat.le_of_ble_eq_true rfl) (by decide) rfl rfl rfl (Nat.le_of_ble_eq_true rfl) (fun hM hS => h) (fun r M' hq hM => ?_)
        obtain ⟨m54, n54, rfl, rfl, h⟩ := rV_out hq
        have c0 := h.1
        replace h := h.2
        refine wp_iincr dX2_readMixed_57 rfl (by decide) c0 (wp_L (L' := [some (vR 4), some (vR b), some (vI l2), some (vI (l3 + 1))]) rfl ?_)
        refine wp_goto (tgt := 9) dX2_readMixed_60 (by decide) ?_
        exact h
      · replace h := h.1 h45
        refine wp_iconst dX2_readMixed_48 (by decide) ?_
        exact wp_zret dX2_readMixed_49 rfl (by decide) (fun _ => h)
theorem v_X2_readMixed_63 {cs : Cs} {Q : Option AV → Mm → Prop} {MI ML : Nat → Nat → Int} {b d e nw th : Nat} {l2 l3 : Int} (hbd : b = 38 ∨ b = 81)
    (h : wp cs mX1_take KD (rI (GR d e nw th 1) fun x69 m69 n69 => ((x69 = 0 → Q (some (vI 0)) (m69, n69, (GR d e nw th 1))) ∧ (x69 ≠ 0 → wp cs mX1_takeIf KD (rI (GR d e nw th 1) fun x83 m83 n83 => ((x83 = 0 → (0 ≤ l2 ∧ l2 < 30) ∧ (((m83 (b + 13) l2.toNat) = 0 → Q (some (vI 1)) (m83, n83, (GR d e nw th 1))) ∧ ((m83 (b + 13) l2.toNat) ≠ 0 → wp cs mX1_refuse KD (rI (GR d e nw th 1) fun x113 m113 n113 => ((x113 = 0 → Q (some (vI 0)) (m113, n113, (GR d e nw th 1))) ∧ (x113 ≠ 0 → Q (some (vI 1)) (m113, n113, (GR d e nw th 1))))) 0 (padL [vR 2, vI (-1), vI (m83 2 2)] 3) [] (KD, m83, n83, (GR d e nw th 1))))) ∧ (x83 ≠ 0 → Q (some (vI 1)) (m83, n83, (GR d e nw th 1))))) 0 (padL [vR 2, vR 1000016] 4) [] (KD, m69, n69, (GR d e nw th 1))))) 0 (padL [vR 2, vR 1000015] 2) [] (KD, MI, ML, (GR d e nw th 1))) :
    wp cs mX2_readMixed KD Q 63 [some (vR 4), some (vR b), some (vI l2), some (vI l3)] [] (KD, MI, ML, (GR d e nw th 1)) := by
  refine wp_aload_n dX2_readMixed_63 rfl rfl (by first | exact Or.inl (by decide) | exact Or.inl (by omega) | exact Or.inr (by decide) | exact Or.inr (by omega)) ?_
  refine wp_getR dX2_readMixed_64 fX2_44 rfl (by decide) ?_
  refine wp_topR (x' := 2) rfl ?_
  refine wp_ldcS (k := 12) dX2_readMixed_67 cX2_162 ?_
  refine wp_cVq (n := 1) (mt' := mX1_take) (as := [vR 1000015]) (rest := []) _ dX2_readMixed_69 lX2_83 kX1_take vX1_take (by decide) (by decide +kernel) rfl (Nat.le_of_ble_eq_true rfl) (by decide) rfl rfl rfl (Nat.le_of_ble_eq_true rfl) (fun hM hS => h) (fun r M' hq hM => ?_)
  obtain ⟨x69, m69, n69, rfl, rfl, h⟩ := rI_out hq
  refine wp_if_ne (tgt := 77) dX2_readMixed_72 (by decide) (fun h72 => ?_) (fun h72 => ?_)
  · replace h := h.2 h72
    refine wp_aload_n dX2_readMixed_77 rfl rfl (by first | exact Or.inl (by decide) | exact Or.inl (by omega) | exact Or.inr (by decide) | exact Or.inr (by omega)) ?_
    refine wp_getR dX2_readMixed_78 fX2_44 rfl (by decide) ?_
    refine wp_topR (x' := 2) rfl ?_
    refine wp_ldcS (k := 13) dX2_readMixed_81 cX2_164 ?_
    refine wp_cVq (n := 1) (mt' := mX1_takeIf) (as := [vR 1000016]) (rest := []) _ dX2_readMixed_83 lX2_50 kX1_takeIf vX1_takeIf (by decide) (by decide +kernel) rfl (Nat.le_of_ble_eq_true rfl) (by decide) rfl rfl rfl (Nat.le_of_ble_eq_true rfl) (fun hM hS => h) (fun r M' hq hM => ?_)
    obtain ⟨x83, m83, n83, rfl, rfl, h⟩ := rI_out hq
    refine wp_if_ne (tgt := 119) dX2_readMixed_86 (by decide) (fun h86 => ?_) (fun h86 => ?_)
    · replace h := h.2 h86
      refine wp_iconst dX2_readMixed_119 (by decide) ?_
      refine wp_goto (tgt := 124) dX2_readMixed_120 (by decide) ?_
      exact wp_zret dX2_readMixed_124 rfl (by decide) (fun _ => h)
    · replace h := h.1 h86
      refine wp_aload_n dX2_readMixed_89 rfl rfl (by first | exact Or.inl (by decide) | exact Or.inl (by omega) | exact Or.inr (by decide) | exact Or.inr (by omega)) ?_
      refine wp_getR dX2_readMixed_90 fX2_111 (show KD[b]? = some (7, 19) from kdb_0 hbd) (by omega) ?_
      refine wp_topR (x' := (b + 9)) (grb_0_1 hbd) ?_
      refine wp_getR dX2_readMixed_93 fX2_166 (kdb_9 hbd) (by omega) ?_
      refine wp_topR (x' := (b + 13)) (grb_9_3 hbd) ?_
      refine wp_iload_n dX2_readMixed_96 rfl rfl ?_
      have c0 := h.1
      replace h := h.2
      refine wp_iald dX2_readMixed_97 (kdb_13 hbd) (by omega) c0 ?_
      refine wp_if_eq (tgt := 119) dX2_readMixed_98 (by decide) (fun h98 => ?_) (fun h98 => ?_)
      · replace h := h.1 h98
        refine wp_iconst dX2_readMixed_119 (by decide) ?_
        refine wp_goto (tgt := 124) dX2_readMixed_120 (by decide) ?_
        exact wp_zret dX2_readMixed_124 rfl (by decide) (fun _ => h)
      · replace h := h.2 h98
        refine wp_aload_n dX2_readMixed_101 rfl rfl (by first | exact Or.inl (by decide) | exact Or.inl (by omega) | exact Or.inr (by decide) | exact Or.inr (by omega)) ?_
        refine wp_getR dX2_readMixed_102 fX2_44 rfl (by decide) ?_
        refine wp_topR (x' := 2) rfl ?_
        refine wp_iconst dX2_readMixed_105 (by decide) ?_
        refine wp_aload_n dX2_readMixed_106 rfl rfl (by first | exact Or.inl (by decide) | exact Or.inl (by omega) | exact Or.inr (by decide) | exact Or.inr (by omega)) ?_
        refine wp_getR dX2_readMixed_107 fX2_44 rfl (by decide) ?_
        refine wp_topR (x' := 2) rfl ?_
        refine wp_getI dX2_readMixed_110 fX2_94 rfl (by decide) ?_
        refine wp_cVq (n := 2) (mt' := mX1_refuse) (as := [vI (-1), vI (m83 2 2)]) (rest := []) _ dX2_readMixed_113 lX2_118 kX1_refuse vX1_refuse (by decide) (by decide +kernel) rfl (Nat.le_of_ble_eq_true rfl) (by decide) rfl rfl rfl (Nat.le_of_ble_eq_true rfl) (fun hM hS => h) (fun r M' hq hM => ?_)
        obtain ⟨x113, m113, n113, rfl, rfl, h⟩ := rI_out hq
        refine wp_if_eq (tgt := 123) dX2_readMixed_116 (by decide) (fun h116 => ?_) (fun h116 => ?_)
        · replace h := h.1 h116
          refine wp_iconst dX2_readMixed_123 (by decide) ?_
          exact wp_zret dX2_readMixed_124 rfl (by decide) (fun _ => h)
        · replace h := h.2 h116
          refine wp_iconst dX2_readMixed_119 (by decide) ?_
          refine wp_goto (tgt := 124) dX2_readMixed_120 (by decide) ?_
          exact wp_zret dX2_readMixed_124 rfl (by decide) (fun _ => h)
  · replace h := h.1 h72
    refine wp_iconst dX2_readMixed_75 (by decide) ?_
    exact wp_zret dX2_readMixed_76 rfl (by decide) (fun _ => h)
theorem dX2_openGroup_0 : decode cX2_openGroup 0 = .ok (.aload_n 0, 1) := by decide +kernel
theorem dX2_openGroup_1 : decode cX2_openGroup 1 = .ok (.getfield 11, 3) := by decide +kernel
theorem dX2_openGroup_4 : decode cX2_openGroup 4 = .ok (.aload_n 0, 1) := by decide +kernel
theorem dX2_openGroup_5 : decode cX2_openGroup 5 = .ok (.getfield 29, 3) := by decide +kernel
theorem dX2_openGroup_8 : decode cX2_openGroup 8 = .ok (.iconst 0, 1) := by decide +kernel
theorem dX2_openGroup_9 : decode cX2_openGroup 9 = .ok (.iastore, 1) := by decide +kernel
theorem dX2_openGroup_10 : decode cX2_openGroup 10 = .ok (.aload_n 0, 1) := by decide +kernel
theorem dX2_openGroup_11 : decode cX2_openGroup 11 = .ok (.getfield 15, 3) := by decide +kernel
theorem dX2_openGroup_14 : decode cX2_openGroup 14 = .ok (.aload_n 0, 1) := by decide +kernel
theorem dX2_openGroup_15 : decode cX2_openGroup 15 = .ok (.getfield 29, 3) := by decide +kernel
theorem dX2_openGroup_18 : decode cX2_openGroup 18 = .ok (.iconst 0, 1) := by decide +kernel
theorem dX2_openGroup_19 : decode cX2_openGroup 19 = .ok (.iastore, 1) := by decide +kernel
theorem dX2_openGroup_20 : decode cX2_openGroup 20 = .ok (.aload_n 0, 1) := by decide +kernel
theorem dX2_openGroup_21 : decode cX2_openGroup 21 = .ok (.getfield 18, 3) := by decide +kernel
theorem dX2_openGroup_24 : decode cX2_openGroup 24 = .ok (.aload_n 0, 1) := by decide +kernel
theorem dX2_openGroup_25 : decode cX2_openGroup 25 = .ok (.getfield 29, 3) := by decide +kernel
theorem dX2_openGroup_28 : decode cX2_openGroup 28 = .ok (.lconst 0, 1) := by decide +kernel
theorem dX2_openGroup_29 : decode cX2_openGroup 29 = .ok (.lastore, 1) := by decide +kernel
theorem dX2_openGroup_30 : decode cX2_openGroup 30 = .ok (.aload_n 0, 1) := by decide +kernel
theorem dX2_openGroup_31 : decode cX2_openGroup 31 = .ok (.getfield 22, 3) := by decide +kernel
theorem dX2_openGroup_34 : decode cX2_openGroup 34 = .ok (.aload_n 0, 1) := by decide +kernel
theorem dX2_openGroup_35 : decode cX2_openGroup 35 = .ok (.getfield 29, 3) := by decide +kernel
theorem dX2_openGroup_38 : decode cX2_openGroup 38 = .ok (.lconst 0, 1) := by decide +kernel
theorem dX2_openGroup_39 : decode cX2_openGroup 39 = .ok (.lastore, 1) := by decide +kernel
theorem dX2_openGroup_40 : decode cX2_openGroup 40 = .ok (.aload_n 0, 1) := by decide +kernel
theorem dX2_openGroup_41 : decode cX2_openGroup 41 = .ok (.getfield 25, 3) := by decide +kernel
theorem dX2_openGroup_44 : decode cX2_openGroup 44 = .ok (.aload_n 0, 1) := by decide +kernel
theorem dX2_openGroup_45 : decode cX2_openGroup 45 = .ok (.getfield 29, 3) := by decide +kernel
theorem dX2_openGroup_48 : decode cX2_openGroup 48 = .ok (.iconst 0, 1) := by decide +kernel
theorem dX2_openGroup_49 : decode cX2_openGroup 49 = .ok (.bastore, 1) := by decide +kernel
theorem dX2_openGroup_50 : decode cX2_openGroup 50 = .ok (.aload_n 0, 1) := by decide +kernel
theorem dX2_openGroup_51 : decode cX2_openGroup 51 = .ok (.dup, 1) := by decide +kernel
theorem dX2_openGroup_52 : decode cX2_openGroup 52 = .ok (.getfield 29, 3) := by decide +kernel
theorem dX2_openGroup_55 : decode cX2_openGroup 55 = .ok (.iconst 1, 1) := by decide +kernel
theorem dX2_openGroup_56 : decode cX2_openGroup 56 = .ok (.iadd, 1) := by decide +kernel
theorem dX2_openGroup_57 : decode cX2_openGroup 57 = .ok (.putfield 29, 3) := by decide +kernel
theorem dX2_openGroup_60 : decode cX2_openGroup 60 = .ok (.return_, 1) := by decide +kernel
theorem v_X2_openGroup_0 {cs : Cs} {Q : Option AV → Mm → Prop} {MI ML : Nat → Nat → Int} {d e nw th : Nat}
    (h : (0 ≤ (MI 4 6) ∧ (MI 4 6) < 6) ∧ ∀ m9, m9 = up2 MI 5 (MI 4 6).toNat 0 → (0 ≤ (m9 4 6) ∧ (m9 4 6) < 6) ∧ ∀ m19, m19 = up2 m9 6 (m9 4 6).toNat 0 → (0 ≤ (m19 4 6) ∧ (m19 4 6) < 6) ∧ ∀ n29, n29 = up2 ML 7 (m19 4 6).toNat 0 → ∀ n39, n39 = up2 n29 8 (m19 4 6).toNat 0 → ∀ m49, m49 = up2 m19 9 (m19 4 6).toNat 0 → (-2147483648 ≤ (m49 4 6) + 1 ∧ (m49 4 6) + 1 < 2147483648) ∧ ∀ m57, m57 = up2 m49 4 6 ((m49 4 6) + 1) → Q none (m57, n39, (GR d e nw th 1))) :
    wp cs mX2_openGroup KD Q 0 (padL [vR 4] 1) [] (KD, MI, ML, (GR d e nw th 1)) := by
  refine wp_L (L' := [some (vR 4)]) rfl ?_
  refine wp_aload_n dX2_openGroup_0 rfl rfl (by first | exact Or.inl (by decide) | exact Or.inl (by omega) | exact Or.inr (by decide) | exact Or.inr (by omega)) ?_
  refine wp_getR dX2_openGroup_1 fX2_11 rfl (by decide) ?_
  refine wp_topR (x' := 5) rfl ?_
  refine wp_aload_n dX2_openGroup_4 rfl rfl (by first | exact Or.inl (by decide) | exact Or.inl (by omega) | exact Or.inr (by decide) | exact Or.inr (by omega)) ?_
  refine wp_getI dX2_openGroup_5 fX2_29 rfl (by decide) ?_
  refine wp_iconst dX2_openGroup_8 (by decide) ?_
  have c0 := h.1
  replace h := h.2
  refine wp_iast dX2_openGroup_9 rfl (by decide) c0 ?_
  refine wp_gI (fun m9 e9 => ?_)
  replace h := h m9 e9
  refine wp_aload_n dX2_openGroup_10 rfl rfl (by first | exact Or.inl (by decide) | exact Or.inl (by omega) | exact Or.inr (by decide) | exact Or.inr (by omega)) ?_
  refine wp_pc (pc' := 11) rfl ?_
  refine wp_getR dX2_openGroup_11 fX2_15 rfl (by decide) ?_
  refine wp_topR (x' := 6) rfl ?_
  refine wp_aload_n dX2_openGroup_14 rfl rfl (by first | exact Or.inl (by decide) | exact Or.inl (by omega) | exact Or.inr (by decide) | exact Or.inr (by omega)) ?_
  refine wp_getI dX2_openGroup_15 fX2_29 rfl (by decide) ?_
  refine wp_iconst dX2_openGroup_18 (by decide) ?_
  have c1 := h.1
  replace h := h.2
  refine wp_iast dX2_openGroup_19 rfl (by decide) c1 ?_
  refine wp_gI (fun m19 e19 => ?_)
  replace h := h m19 e19
  refine wp_aload_n dX2_openGroup_20 rfl rfl (by first | exact Or.inl (by decide) | exact Or.inl (by omega) | exact Or.inr (by decide) | exact Or.inr (by omega)) ?_
  refine wp_getR dX2_openGroup_21 fX2_18 rfl (by decide) ?_
  refine wp_topR (x' := 7) rfl ?_
  refine wp_aload_n dX2_openGroup_24 rfl rfl (by first | exact Or.inl (by decide) | exact Or.inl (by omega) | exact Or.inr (by decide) | exact Or.inr (by omega)) ?_
  refine wp_pc (pc' := 25) rfl ?_
  refine wp_getI dX2_openGroup_25 fX2_29 rfl (by decide) ?_
  refine wp_lconst (z := 0) dX2_openGroup_28 (by decide +kernel) (by decide) ?_
  have c2 := h.1
  replace h := h.2
  refine wp_last dX2_openGroup_29 rfl (by decide) c2 ?_
  refine wp_gL (fun n29 e29 => ?_)
  replace h := h n29 e29
  refine wp_aload_n dX2_openGroup_30 rfl rfl (by first | exact Or.inl (by decide) | exact Or.inl (by omega) | exact Or.inr (by decide) | exact Or.inr (by omega)) ?_
  refine wp_getR dX2_openGroup_31 fX2_22 rfl (by decide) ?_
  refine wp_topR (x' := 8) rfl ?_
  refine wp_aload_n dX2_openGroup_34 rfl rfl (by first | exact Or.inl (by decide) | exact Or.inl (by omega) | exact Or.inr (by decide) | exact Or.inr (by omega)) ?_
  refine wp_getI dX2_openGroup_35 fX2_29 rfl (by decide) ?_
  refine wp_lconst (z := 0) dX2_openGroup_38 (by decide +kernel) (by decide) ?_
  refine wp_pc (pc' := 39) rfl ?_
  refine wp_last dX2_openGroup_39 rfl (by decide) c2 ?_
  refine wp_gL (fun n39 e39 => ?_)
  replace h := h n39 e39
  refine wp_aload_n dX2_openGroup_40 rfl rfl (by first | exact Or.inl (by decide) | exact Or.inl (by omega) | exact Or.inr (by decide) | exact Or.inr (by omega)) ?_
  refine wp_getR dX2_openGroup_41 fX2_25 rfl (by decide) ?_
  refine wp_topR (x' := 9) rfl ?_
  refine wp_aload_n dX2_openGroup_44 rfl rfl (by first | exact Or.inl (by decide) | exact Or.inl (by omega) | exact Or.inr (by decide) | exact Or.inr (by omega)) ?_
  refine wp_getI dX2_openGroup_45 fX2_29 rfl (by decide) ?_
  refine wp_iconst dX2_openGroup_48 (by decide) ?_
  refine wp_bast dX2_openGroup_49 rfl (by decide) c2 (by decide) ?_
  refine wp_gI (fun m49 e49 => ?_)
  replace h := h m49 e49
  refine wp_aload_n dX2_openGroup_50 rfl rfl (by first | exact Or.inl (by decide) | exact Or.inl (by omega) | exact Or.inr (by decide) | exact Or.inr (by omega)) ?_
  refine wp_pc (pc' := 51) rfl ?_
  refine wp_dup dX2_openGroup_51 (fun x e => by cases e) ?_
  refine wp_getI dX2_openGroup_52 fX2_29 rfl (by decide) ?_
  refine wp_iconst dX2_openGroup_55 (by decide) ?_
  have c3 := h.1
  replace h := h.2
  refine wp_iaddr dX2_openGroup_56 c3 ?_
  refine wp_putI dX2_openGroup_57 pX2_29 rfl (by decide) ?_
  refine wp_gI (fun m57 e57 => ?_)
  replace h := h m57 e57
  exact wp_vret dX2_openGroup_60 rfl (fun _ => h)
theorem dX2_readSign_0 : decode cX2_readSign 0 = .ok (.aload_n 0, 1) := by decide +kernel
theorem dX2_readSign_1 : decode cX2_readSign 1 = .ok (.getfield 44, 3) := by decide +kernel
theorem dX2_readSign_4 : decode cX2_readSign 4 = .ok (.invokevirtual 185, 3) := by decide +kernel
theorem dX2_readSign_7 : decode cX2_readSign 7 = .ok (.istore_n 1, 1) := by decide +kernel
theorem dX2_readSign_8 : decode cX2_readSign 8 = .ok (.aload_n 0, 1) := by decide +kernel
theorem dX2_readSign_9 : decode cX2_readSign 9 = .ok (.getfield 11, 3) := by decide +kernel
theorem dX2_readSign_12 : decode cX2_readSign 12 = .ok (.aload_n 0, 1) := by decide +kernel
theorem dX2_readSign_13 : decode cX2_readSign 13 = .ok (.getfield 29, 3) := by decide +kernel
theorem dX2_readSign_16 : decode cX2_readSign 16 = .ok (.iconst 1, 1) := by decide +kernel
theorem dX2_readSign_17 : decode cX2_readSign 17 = .ok (.isub, 1) := by decide +kernel
theorem dX2_readSign_18 : decode cX2_readSign 18 = .ok (.iaload, 1) := by decide +kernel
theorem dX2_readSign_19 : decode cX2_readSign 19 = .ok (.istore_n 2, 1) := by decide +kernel
theorem dX2_readSign_20 : decode cX2_readSign 20 = .ok (.iload_n 1, 1) := by decide +kernel
theorem dX2_readSign_21 : decode cX2_readSign 21 = .ok (.bipush 124, 2) := by decide +kernel
theorem dX2_readSign_23 : decode cX2_readSign 23 = .ok (.if_icmp .eq 9, 3) := by decide +kernel
theorem dX2_readSign_26 : decode cX2_readSign 26 = .ok (.iload_n 1, 1) := by decide +kernel
theorem dX2_readSign_27 : decode cX2_readSign 27 = .ok (.bipush 44, 2) := by decide +kernel
theorem dX2_readSign_29 : decode cX2_readSign 29 = .ok (.if_icmp .ne 12, 3) := by decide +kernel
theorem dX2_readSign_32 : decode cX2_readSign 32 = .ok (.iload_n 2, 1) := by decide +kernel
theorem dX2_readSign_33 : decode cX2_readSign 33 = .ok (.ifCond .eq 24, 3) := by decide +kernel
theorem dX2_readSign_36 : decode cX2_readSign 36 = .ok (.iload_n 2, 1) := by decide +kernel
theorem dX2_readSign_37 : decode cX2_readSign 37 = .ok (.iload_n 1, 1) := by decide +kernel
theorem dX2_readSign_38 : decode cX2_readSign 38 = .ok (.if_icmp .eq 19, 3) := by decide +kernel
theorem dX2_readSign_41 : decode cX2_readSign 41 = .ok (.aload_n 0, 1) := by decide +kernel
theorem dX2_readSign_42 : decode cX2_readSign 42 = .ok (.getfield 44, 3) := by decide +kernel
theorem dX2_readSign_45 : decode cX2_readSign 45 = .ok (.iconst (-1), 1) := by decide +kernel
theorem dX2_readSign_46 : decode cX2_readSign 46 = .ok (.aload_n 0, 1) := by decide +kernel
theorem dX2_readSign_47 : decode cX2_readSign 47 = .ok (.getfield 44, 3) := by decide +kernel
theorem dX2_readSign_50 : decode cX2_readSign 50 = .ok (.getfield 94, 3) := by decide +kernel
theorem dX2_readSign_53 : decode cX2_readSign 53 = .ok (.invokevirtual 118, 3) := by decide +kernel
theorem dX2_readSign_56 : decode cX2_readSign 56 = .ok (.ireturn, 1) := by decide +kernel
theorem dX2_readSign_57 : decode cX2_readSign 57 = .ok (.aload_n 0, 1) := by decide +kernel
theorem dX2_readSign_58 : decode cX2_readSign 58 = .ok (.getfield 11, 3) := by decide +kernel
theorem dX2_readSign_61 : decode cX2_readSign 61 = .ok (.aload_n 0, 1) := by decide +kernel
theorem dX2_readSign_62 : decode cX2_readSign 62 = .ok (.getfield 29, 3) := by decide +kernel
theorem dX2_readSign_65 : decode cX2_readSign 65 = .ok (.iconst 1, 1) := by decide +kernel
theorem dX2_readSign_66 : decode cX2_readSign 66 = .ok (.isub, 1) := by decide +kernel
theorem dX2_readSign_67 : decode cX2_readSign 67 = .ok (.iload_n 1, 1) := by decide +kernel
theorem dX2_readSign_68 : decode cX2_readSign 68 = .ok (.iastore, 1) := by decide +kernel
theorem dX2_readSign_69 : decode cX2_readSign 69 = .ok (.aload_n 0, 1) := by decide +kernel
theorem dX2_readSign_70 : decode cX2_readSign 70 = .ok (.getfield 44, 3) := by decide +kernel
theorem dX2_readSign_73 : decode cX2_readSign 73 = .ok (.dup, 1) := by decide +kernel
theorem dX2_readSign_74 : decode cX2_readSign 74 = .ok (.getfield 94, 3) := by decide +kernel
theorem dX2_readSign_77 : decode cX2_readSign 77 = .ok (.iconst 1, 1) := by decide +kernel
theorem dX2_readSign_78 : decode cX2_readSign 78 = .ok (.iadd, 1) := by decide +kernel
theorem dX2_readSign_79 : decode cX2_readSign 79 = .ok (.putfield 94, 3) := by decide +kernel
theorem dX2_readSign_82 : decode cX2_readSign 82 = .ok (.iconst 1, 1) := by decide +kernel
theorem dX2_readSign_83 : decode cX2_readSign 83 = .ok (.ireturn, 1) := by decide +kernel
theorem v_X2_readSign_0 {cs : Cs} {Q : Option AV → Mm → Prop} {MI ML : Nat → Nat → Int} {d e nw th : Nat}
    (h : wp cs mX1_peek KD (rI (GR d e nw th 1) fun x4 m4 n4 => (-2147483648 ≤ (m4 4 6) - 1 ∧ (m4 4 6) - 1 < 2147483648) ∧ (0 ≤ ((m4 4 6) - 1) ∧ ((m4 4 6) - 1) < 6) ∧ ((x4 = 124 → (((m4 5 ((m4 4 6) - 1).toNat) = 0 → wp cs mX2_readSign KD Q 57 [some (vR 4), some (vI x4), some (vI (m4 5 ((m4 4 6) - 1).toNat))] [] (KD, m4, n4, (GR d e nw th 1))) ∧ ((m4 5 ((m4 4 6) - 1).toNat) ≠ 0 → (((m4 5 ((m4 4 6) - 1).toNat) = x4 → wp cs mX2_readSign KD Q 57 [some (vR 4), some (vI x4), some (vI (m4 5 ((m4 4 6) - 1).toNat))] [] (KD, m4, n4, (GR d e nw th 1))) ∧ ((m4 5 ((m4 4 6) - 1).toNat) ≠ x4 → wp cs mX1_refuse KD (rI (GR d e nw th 1) fun x53 m53 n53 => (x53 = 0 ∨ x53 = 1) ∧ Q (some (vI x53)) (m53, n53, (GR d e nw th 1))) 0 (padL [vR 2, vI (-1), vI (m4 2 2)] 3) [] (KD, m4, n4, (GR d e nw th 1))))))) ∧ (x4 ≠ 124 → ((x4 = 44 → (((m4 5 ((m4 4 6) - 1).toNat) = 0 → wp cs mX2_readSign KD Q 57 [some (vR 4), some (vI x4), some (vI (m4 5 ((m4 4 6) - 1).toNat))] [] (KD, m4, n4, (GR d e nw th 1))) ∧ ((m4 5 ((m4 4 6) - 1).toNat) ≠ 0 → (((m4 5 ((m4 4 6) - 1).toNat) = x4 → wp cs mX2_readSign KD Q 57 [some (vR 4), some (vI x4), some (vI (m4 5 ((m4 4 6) - 1).toNat))] [] (KD, m4, n4, (GR d e nw th 1))) ∧ ((m4 5 ((m4 4 6) - 1).toNat) ≠ x4 → wp cs mX1_refuse KD (rI (GR d e nw th 1) fun x53 m53 n53 => (x53 = 0 ∨ x53 = 1) ∧ Q (some (vI x53)) (m53, n53, (GR d e nw th 1))) 0 (padL [vR 2, vI (-1), vI (m4 2 2)] 3) [] (KD, m4, n4, (GR d e nw th 1))))))) ∧ (x4 ≠ 44 → wp cs mX1_refuse KD (rI (GR d e nw th 1) fun x53 m53 n53 => (x53 = 0 ∨ x53 = 1) ∧ Q (some (vI x53)) (m53, n53, (GR d e nw th 1))) 0 (padL [vR 2, vI (-1), vI (m4 2 2)] 3) [] (KD, m4, n4, (GR d e nw th 1))))))) 0 (padL [vR 2] 1) [] (KD, MI, ML, (GR d e nw th 1))) :
    wp cs mX2_readSign KD Q 0 (padL [vR 4] 3) [] (KD, MI, ML, (GR d e nw th 1)) := by
  refine wp_L (L' := [some (vR 4), none, none]) rfl ?_
  refine wp_aload_n dX2_readSign_0 rfl rfl (by first | exact Or.inl (by decide) | exact Or.inl (by omega) | exact Or.inr (by decide) | exact Or.inr (by omega)) ?_
  refine wp_getR dX2_readSign_1 fX2_44 rfl (by decide) ?_
  refine wp_topR (x' := 2) rfl ?_
  refine wp_cVq (n := 0) (mt' := mX1_peek) (as := []) (rest := []) _ dX2_readSign_4 lX2_185 kX1_peek vX1_peek (by decide) (by decide +kernel) rfl (Nat.le_of_ble_eq_true rfl) (by decide) rfl rfl rfl (Nat.le_of_ble_eq_true rfl) (fun hM hS => h) (fun r M' hq hM => ?_)
  obtain ⟨x4, m4, n4, rfl, rfl, h⟩ := rI_out hq
  refine wp_istore_n dX2_readSign_7 rfl (by decide) (wp_L (L' := [some (vR 4), some (vI x4), none]) rfl ?_)
  refine wp_aload_n dX2_readSign_8 rfl rfl (by first | exact Or.inl (by decide) | exact Or.inl (by omega) | exact Or.inr (by decide) | exact Or.inr (by omega)) ?_
  refine wp_getR dX2_readSign_9 fX2_11 rfl (by decide) ?_
  refine wp_topR (x' := 5) rfl ?_
  refine wp_aload_n dX2_readSign_12 rfl rfl (by first | exact Or.inl (by decide) | exact Or.inl (by omega) | exact Or.inr (by decide) | exact Or.inr (by omega)) ?_
  refine wp_getI dX2_readSign_13 fX2_29 rfl (by decide) ?_
  refine wp_iconst dX2_readSign_16 (by decide) ?_
  have c0 := h.1
  replace h := h.2
  refine wp_isubr dX2_readSign_17 c0 ?_
  refine wp_pc (pc' := 18) rfl ?_
  have c1 := h.1
  replace h := h.2
  refine wp_iald dX2_readSign_18 rfl (by decide) c1 ?_
  refine wp_istore_n dX2_readSign_19 rfl (by decide) (wp_L (L' := [some (vR 4), some (vI x4), some (vI (m4 5 ((m4 4 6) - 1).toNat))]) rfl ?_)
  refine wp_iload_n dX2_readSign_20 rfl rfl ?_
  refine wp_bipush dX2_readSign_21 (by decide +kernel) (by decide) ?_
  refine wp_icmp_eq (tgt := 32) dX2_readSign_23 (by decide) (fun h23 => ?_) (fun h23 => ?_)
  · replace h := h.1 h23
    refine wp_iload_n dX2_readSign_32 rfl rfl ?_
    refine wp_if_eq (tgt := 57) dX2_readSign_33 (by decide) (fun h33 => ?_) (fun h33 => ?_)
    · replace h := h.1 h33
      exact h
    · replace h := h.2 h33
      refine wp_iload_n dX2_readSign_36 rfl rfl ?_
      refine wp_iload_n dX2_readSign_37 rfl rfl ?_
      refine wp_icmp_eq (tgt := 57) dX2_readSign_38 (by decide) (fun h38 => ?_) (fun h38 => ?_)
      · replace h := h.1 h38
        exact h
      · replace h := h.2 h38
        refine wp_aload_n dX2_readSign_41 rfl rfl (by first | exact Or.inl (by decide) | exact Or.inl (by omega) | exact Or.inr (by decide) | exact Or.inr (by omega)) ?_
        refine wp_getR dX2_readSign_42 fX2_44 rfl (by decide) ?_
        refine wp_topR (x' := 2) rfl ?_
        refine wp_iconst dX2_readSign_45 (by decide) ?_
        refine wp_aload_n dX2_readSign_46 rfl rfl (by first | exact Or.inl (by decide) | exact Or.inl (by omega) | exact Or.inr (by decide) | exact Or.inr (by omega)) ?_
        refine wp_getR dX2_readSign_47 fX2_44 rfl (by decide) ?_
        refine wp_topR (x' := 2) rfl ?_
        refine wp_getI dX2_readSign_50 fX2_94 rfl (by decide) ?_
        refine wp_cVq (n := 2) (mt' := mX1_refuse) (as := [vI (-1), vI (m4 2 2)]) (rest := []) _ dX2_readSign_53 lX2_118 kX1_refuse vX1_refuse (by decide) (by decide +kernel) rfl (Nat.le_of_ble_eq_true rfl) (by decide) rfl rfl rfl (Nat.le_of_ble_eq_true rfl) (fun hM hS => h) (fun r M' hq hM => ?_)
        obtain ⟨x53, m53, n53, rfl, rfl, h⟩ := rI_out hq
        exact wp_zret dX2_readSign_56 rfl h.1 (fun _ => h.2)
  · replace h := h.2 h23
    refine wp_iload_n dX2_readSign_26 rfl rfl ?_
    refine wp_bipush dX2_readSign_27 (by decide +kernel) (by decide) ?_
    refine wp_icmp_ne (tgt := 41) dX2_readSign_29 (by decide) (fun h29 => ?_) (fun h29 => ?_)
    · replace h := h.2 h29
      refine wp_aload_n dX2_readSign_41 rfl rfl (by first | exact Or.inl (by decide) | exact Or.inl (by omega) | exact Or.inr (by decide) | exact Or.inr (by omega)) ?_
      refine wp_getR dX2_readSign_42 fX2_44 rfl (by decide) ?_
      refine wp_topR (x' := 2) rfl ?_
      refine wp_iconst dX2_readSign_45 (by decide) ?_
      refine wp_aload_n dX2_readSign_46 rfl rfl (by first | exact Or.inl (by decide) | exact Or.inl (by omega) | exact Or.inr (by decide) | exact Or.inr (by omega)) ?_
      refine wp_getR dX2_readSign_47 fX2_44 rfl (by decide) ?_
      refine wp_topR (x' := 2) rfl ?_
      refine wp_getI dX2_readSign_50 fX2_94 rfl (by decide) ?_
      refine wp_cVq (n := 2) (mt' := mX1_refuse) (as := [vI (-1), vI (m4 2 2)]) (rest := []) _ dX2_readSign_53 lX2_118 kX1_refuse vX1_refuse (by decide) (by decide +kernel) rfl (Nat.le_of_ble_eq_true rfl) (by decide) rfl rfl rfl (Nat.le_of_ble_eq_true rfl) (fun hM hS => h) (fun r M' hq hM => ?_)
      obtain ⟨x53, m53, n53, rfl, rfl, h⟩ := rI_out hq
      exact wp_zret dX2_readSign_56 rfl h.1 (fun _ => h.2)
    · replace h := h.1 h29
      refine wp_iload_n dX2_readSign_32 rfl rfl ?_
      refine wp_if_eq (tgt := 57) dX2_readSign_33 (by decide) (fun h33 => ?_) (fun h33 => ?_)
      · replace h := h.1 h33
        exact h
      · replace h := h.2 h33
        refine wp_iload_n dX2_readSign_36 rfl rfl ?_
        refine wp_iload_n dX2_readSign_37 rfl rfl ?_
        refine wp_icmp_eq (tgt := 57) dX2_readSign_38 (by decide) (fun h38 => ?_) (fun h38 => ?_)
        · replace h := h.1 h38
          exact h
        · replace h := h.2 h38
          refine wp_aload_n dX2_readSign_41 rfl rfl (by first | exact Or.inl (by decide) | exact Or.inl (by omega) | exact Or.inr (by decide) | exact Or.inr (by omega)) ?_
          refine wp_getR dX2_readSign_42 fX2_44 rfl (by decide) ?_
          refine wp_topR (x' := 2) rfl ?_
          refine wp_iconst dX2_readSign_45 (by decide) ?_
          refine wp_aload_n dX2_readSign_46 rfl rfl (by first | exact Or.inl (by decide) | exact Or.inl (by omega) | exact Or.inr (by decide) | exact Or.inr (by omega)) ?_
          refine wp_getR dX2_readSign_47 fX2_44 rfl (by decide) ?_
          refine wp_topR (x' := 2) rfl ?_
          refine wp_getI dX2_readSign_50 fX2_94 rfl (by decide) ?_
          refine wp_cVq (n := 2) (mt' := mX1_refuse) (as := [vI (-1), vI (m4 2 2)]) (rest := []) _ dX2_readSign_53 lX2_118 kX1_refuse vX1_refuse (by decide) (by decide +kernel) rfl (Nat.le_of_ble_eq_true rfl) (by decide) rfl rfl rfl (Nat.le_of_ble_eq_true rfl) (fun hM hS => h) (fun r M' hq hM => ?_)
          obtain ⟨x53, m53, n53, rfl, rfl, h⟩ := rI_out hq
          exact wp_zret dX2_readSign_56 rfl h.1 (fun _ => h.2)
theorem v_X2_readSign_57 {cs : Cs} {Q : Option AV → Mm → Prop} {MI ML : Nat → Nat → Int} {d e nw th : Nat} {l1 l2 : Int}
    (h : (-2147483648 ≤ (MI 4 6) - 1 ∧ (MI 4 6) - 1 < 2147483648) ∧ (0 ≤ ((MI 4 6) - 1) ∧ ((MI 4 6) - 1) < 6) ∧ ∀ m68, m68 = up2 MI 5 ((MI 4 6) - 1).toNat l1 → (-2147483648 ≤ (m68 2 2) + 1 ∧ (m68 2 2) + 1 < 2147483648) ∧ ∀ m79, m79 = up2 m68 2 2 ((m68 2 2) + 1) → Q (some (vI 1)) (m79, ML, (GR d e nw th 1))) :
    wp cs mX2_readSign KD Q 57 [some (vR 4), some (vI l1), some (vI l2)] [] (KD, MI, ML, (GR d e nw th 1)) := by
  refine wp_aload_n dX2_readSign_57 rfl rfl (by first | exact Or.inl (by decide) | exact Or.inl (by omega) | exact Or.inr (by decide) | exact Or.inr (by omega)) ?_
  refine wp_getR dX2_readSign_58 fX2_11 rfl (by decide) ?_
  refine wp_topR (x' := 5) rfl ?_
  refine wp_aload_n dX2_readSign_61 rfl rfl (by first | exact Or.inl (by decide) | exact Or.inl (by omega) | exact Or.inr (by decide) | exact Or.inr (by omega)) ?_
  refine wp_getI dX2_readSign_62 fX2_29 rfl (by decide) ?_
  refine wp_iconst dX2_readSign_65 (by decide) ?_
  have c0 := h.1
  replace h := h.2
  refine wp_isubr dX2_readSign_66 c0 ?_
  refine wp_iload_n dX2_readSign_67 rfl rfl ?_
  refine wp_pc (pc' := 68) rfl ?_
  have c1 := h.1
  replace h := h.2
  refine wp_iast dX2_readSign_68 rfl (by decide) c1 ?_
  refine wp_gI (fun m68 e68 => ?_)
  replace h := h m68 e68
  refine wp_aload_n dX2_readSign_69 rfl rfl (by first | exact Or.inl (by decide) | exact Or.inl (by omega) | exact Or.inr (by decide) | exact Or.inr (by omega)) ?_
  refine wp_getR dX2_readSign_70 fX2_44 rfl (by decide) ?_
  refine wp_topR (x' := 2) rfl ?_
  refine wp_dup dX2_readSign_73 (fun x e => by cases e) ?_
  refine wp_getI dX2_readSign_74 fX2_94 rfl (by decide) ?_
  refine wp_iconst dX2_readSign_77 (by decide) ?_
  have c2 := h.1
  replace h := h.2
  refine wp_iaddr dX2_readSign_78 c2 ?_
  refine wp_putI dX2_readSign_79 pX2_94 rfl (by decide) ?_
  refine wp_gI (fun m79 e79 => ?_)
  replace h := h m79 e79
  refine wp_pc (pc' := 82) rfl ?_
  refine wp_iconst dX2_readSign_82 (by decide) ?_
  exact wp_zret dX2_readSign_83 rfl (by decide) (fun _ => h)
theorem dX2_closeGroup_0 : decode cX2_closeGroup 0 = .ok (.aload_n 0, 1) := by decide +kernel
theorem dX2_closeGroup_1 : decode cX2_closeGroup 1 = .ok (.dup, 1) := by decide +kernel
theorem dX2_closeGroup_2 : decode cX2_closeGroup 2 = .ok (.getfield 29, 3) := by decide +kernel
theorem dX2_closeGroup_5 : decode cX2_closeGroup 5 = .ok (.iconst 1, 1) := by decide +kernel
theorem dX2_closeGroup_6 : decode cX2_closeGroup 6 = .ok (.isub, 1) := by decide +kernel
theorem dX2_closeGroup_7 : decode cX2_closeGroup 7 = .ok (.putfield 29, 3) := by decide +kernel
theorem dX2_closeGroup_10 : decode cX2_closeGroup 10 = .ok (.aload_n 0, 1) := by decide +kernel
theorem dX2_closeGroup_11 : decode cX2_closeGroup 11 = .ok (.aload_n 0, 1) := by decide +kernel
theorem dX2_closeGroup_12 : decode cX2_closeGroup 12 = .ok (.getfield 18, 3) := by decide +kernel
theorem dX2_closeGroup_15 : decode cX2_closeGroup 15 = .ok (.aload_n 0, 1) := by decide +kernel
theorem dX2_closeGroup_16 : decode cX2_closeGroup 16 = .ok (.getfield 29, 3) := by decide +kernel
theorem dX2_closeGroup_19 : decode cX2_closeGroup 19 = .ok (.laload, 1) := by decide +kernel
theorem dX2_closeGroup_20 : decode cX2_closeGroup 20 = .ok (.putfield 33, 3) := by decide +kernel
theorem dX2_closeGroup_23 : decode cX2_closeGroup 23 = .ok (.aload_n 0, 1) := by decide +kernel
theorem dX2_closeGroup_24 : decode cX2_closeGroup 24 = .ok (.aload_n 0, 1) := by decide +kernel
theorem dX2_closeGroup_25 : decode cX2_closeGroup 25 = .ok (.getfield 22, 3) := by decide +kernel
theorem dX2_closeGroup_28 : decode cX2_closeGroup 28 = .ok (.aload_n 0, 1) := by decide +kernel
theorem dX2_closeGroup_29 : decode cX2_closeGroup 29 = .ok (.getfield 29, 3) := by decide +kernel
theorem dX2_closeGroup_32 : decode cX2_closeGroup 32 = .ok (.laload, 1) := by decide +kernel
theorem dX2_closeGroup_33 : decode cX2_closeGroup 33 = .ok (.putfield 37, 3) := by decide +kernel
theorem dX2_closeGroup_36 : decode cX2_closeGroup 36 = .ok (.aload_n 0, 1) := by decide +kernel
theorem dX2_closeGroup_37 : decode cX2_closeGroup 37 = .ok (.aload_n 0, 1) := by decide +kernel
theorem dX2_closeGroup_38 : decode cX2_closeGroup 38 = .ok (.getfield 25, 3) := by decide +kernel
theorem dX2_closeGroup_41 : decode cX2_closeGroup 41 = .ok (.aload_n 0, 1) := by decide +kernel
theorem dX2_closeGroup_42 : decode cX2_closeGroup 42 = .ok (.getfield 29, 3) := by decide +kernel
theorem dX2_closeGroup_45 : decode cX2_closeGroup 45 = .ok (.baload, 1) := by decide +kernel
theorem dX2_closeGroup_46 : decode cX2_closeGroup 46 = .ok (.putfield 40, 3) := by decide +kernel
theorem dX2_closeGroup_49 : decode cX2_closeGroup 49 = .ok (.return_, 1) := by decide +kernel
theorem v_X2_closeGroup_0 {cs : Cs} {Q : Option AV → Mm → Prop} {MI ML : Nat → Nat → Int} {d e nw th : Nat}
    (h : (-2147483648 ≤ (MI 4 6) - 1 ∧ (MI 4 6) - 1 < 2147483648) ∧ ∀ m7, m7 = up2 MI 4 6 ((MI 4 6) - 1) → (0 ≤ (m7 4 6) ∧ (m7 4 6) < 6) ∧ ∀ n20, n20 = up2 ML 4 7 (ML 7 (m7 4 6).toNat) → ∀ n33, n33 = up2 n20 4 8 (n20 8 (m7 4 6).toNat) → (-128 ≤ (m7 9 (m7 4 6).toNat) ∧ (m7 9 (m7 4 6).toNat) < 128) ∧ ∀ m46, m46 = up2 m7 4 9 (m7 9 (m7 4 6).toNat) → Q none (m46, n33, (GR d e nw th 1))) :
    wp cs mX2_closeGroup KD Q 0 (padL [vR 4] 1) [] (KD, MI, ML, (GR d e nw th 1)) := by
  refine wp_L (L' := [some (vR 4)]) rfl ?_
  refine wp_aload_n dX2_closeGroup_0 rfl rfl (by first | exact Or.inl (by decide) | exact Or.inl (by omega) | exact Or.inr (by decide) | exact Or.inr (by omega)) ?_
  refine wp_dup dX2_closeGroup_1 (fun x e => by cases e) ?_
  refine wp_getI dX2_closeGroup_2 fX2_29 rfl (by decide) ?_
  refine wp_iconst dX2_closeGroup_5 (by decide) ?_
  have c0 := h.1
  replace h := h.2
  refine wp_isubr dX2_closeGroup_6 c0 ?_
  refine wp_putI dX2_closeGroup_7 pX2_29 rfl (by decide) ?_
  refine wp_gI (fun m7 e7 => ?_)
  replace h := h m7 e7
  refine wp_aload_n dX2_closeGroup_10 rfl rfl (by first | exact Or.inl (by decide) | exact Or.inl (by omega) | exact Or.inr (by decide) | exact Or.inr (by omega)) ?_
  refine wp_pc (pc' := 11) rfl ?_
  refine wp_aload_n dX2_closeGroup_11 rfl rfl (by first | exact Or.inl (by decide) | exact Or.inl (by omega) | exact Or.inr (by decide) | exact Or.inr (by omega)) ?_
  refine wp_getR dX2_closeGroup_12 fX2_18 rfl (by decide) ?_
  refine wp_topR (x' := 7) rfl ?_
  refine wp_aload_n dX2_closeGroup_15 rfl rfl (by first | exact Or.inl (by decide) | exact Or.inl (by omega) | exact Or.inr (by decide) | exact Or.inr (by omega)) ?_
  refine wp_getI dX2_closeGroup_16 fX2_29 rfl (by decide) ?_
  have c1 := h.1
  replace h := h.2
  refine wp_lald dX2_closeGroup_19 rfl (by decide) c1 ?_
  refine wp_putL dX2_closeGroup_20 pX2_33 rfl (by decide) ?_
  refine wp_gL (fun n20 e20 => ?_)
  replace h := h n20 e20
  refine wp_aload_n dX2_closeGroup_23 rfl rfl (by first | exact Or.inl (by decide) | exact Or.inl (by omega) | exact Or.inr (by decide) | exact Or.inr (by omega)) ?_
  refine wp_aload_n dX2_closeGroup_24 rfl rfl (by first | exact Or.inl (by decide) | exact Or.inl (by omega) | exact Or.inr (by decide) | exact Or.inr (by omega)) ?_
  refine wp_pc (pc' := 25) rfl ?_
  refine wp_getR dX2_closeGroup_25 fX2_22 rfl (by decide) ?_
  refine wp_topR (x' := 8) rfl ?_
  refine wp_aload_n dX2_closeGroup_28 rfl rfl (by first | exact Or.inl (by decide) | exact Or.inl (by omega) | exact Or.inr (by decide) | exact Or.inr (by omega)) ?_
  refine wp_getI dX2_closeGroup_29 fX2_29 rfl (by decide) ?_
  refine wp_lald dX2_closeGroup_32 rfl (by decide) c1 ?_
  refine wp_putL dX2_closeGroup_33 pX2_37 rfl (by decide) ?_
  refine wp_gL (fun n33 e33 => ?_)
  replace h := h n33 e33
  refine wp_aload_n dX2_closeGroup_36 rfl rfl (by first | exact Or.inl (by decide) | exact Or.inl (by omega) | exact Or.inr (by decide) | exact Or.inr (by omega)) ?_
  refine wp_aload_n dX2_closeGroup_37 rfl rfl (by first | exact Or.inl (by decide) | exact Or.inl (by omega) | exact Or.inr (by decide) | exact Or.inr (by omega)) ?_
  refine wp_getR dX2_closeGroup_38 fX2_25 rfl (by decide) ?_
  refine wp_topR (x' := 9) rfl ?_
  refine wp_pc (pc' := 41) rfl ?_
  refine wp_aload_n dX2_closeGroup_41 rfl rfl (by first | exact Or.inl (by decide) | exact Or.inl (by omega) | exact Or.inr (by decide) | exact Or.inr (by omega)) ?_
  refine wp_getI dX2_closeGroup_42 fX2_29 rfl (by decide) ?_
  refine wp_bald dX2_closeGroup_45 rfl (by decide) c1 ?_
  refine wp_putB dX2_closeGroup_46 pX2_40 rfl (by decide) h.1 ?_
  replace h := h.2
  refine wp_gI (fun m46 e46 => ?_)
  replace h := h m46 e46
  exact wp_vret dX2_closeGroup_49 rfl (fun _ => h)
theorem dX9_link_0 : decode cX9_link 0 = .ok (.iconst 0, 1) := by decide +kernel
theorem dX9_link_1 : decode cX9_link 1 = .ok (.istore 6, 2) := by decide +kernel
theorem dX9_link_3 : decode cX9_link 3 = .ok (.iload 6, 2) := by decide +kernel
theorem dX9_link_5 : decode cX9_link 5 = .ok (.aload_n 0, 1) := by decide +kernel
theorem dX9_link_6 : decode cX9_link 6 = .ok (.getfield 21, 3) := by decide +kernel
theorem dX9_link_9 : decode cX9_link 9 = .ok (.iload_n 1, 1) := by decide +kernel
theorem dX9_link_10 : decode cX9_link 10 = .ok (.iaload, 1) := by decide +kernel
theorem dX9_link_11 : decode cX9_link 11 = .ok (.if_icmp .ge 37, 3) := by decide +kernel
theorem dX9_link_14 : decode cX9_link 14 = .ok (.lload_n 2, 1) := by decide +kernel
theorem dX9_link_15 : decode cX9_link 15 = .ok (.iload 6, 2) := by decide +kernel
theorem dX9_link_17 : decode cX9_link 17 = .ok (.lushr, 1) := by decide +kernel
theorem dX9_link_18 : decode cX9_link 18 = .ok (.lconst 1, 1) := by decide +kernel
theorem dX9_link_19 : decode cX9_link 19 = .ok (.land, 1) := by decide +kernel
theorem dX9_link_20 : decode cX9_link 20 = .ok (.lconst 0, 1) := by decide +kernel
theorem dX9_link_21 : decode cX9_link 21 = .ok (.lcmp, 1) := by decide +kernel
theorem dX9_link_22 : decode cX9_link 22 = .ok (.ifCond .eq 20, 3) := by decide +kernel
theorem dX9_link_25 : decode cX9_link 25 = .ok (.aload_n 0, 1) := by decide +kernel
theorem dX9_link_26 : decode cX9_link 26 = .ok (.getfield 27, 3) := by decide +kernel
theorem dX9_link_29 : decode cX9_link 29 = .ok (.iload_n 1, 1) := by decide +kernel
theorem dX9_link_30 : decode cX9_link 30 = .ok (.bipush 40, 2) := by decide +kernel
theorem dX9_link_32 : decode cX9_link 32 = .ok (.imul, 1) := by decide +kernel
theorem dX9_link_33 : decode cX9_link 33 = .ok (.iload 6, 2) := by decide +kernel
theorem dX9_link_35 : decode cX9_link 35 = .ok (.iadd, 1) := by decide +kernel
theorem dX9_link_36 : decode cX9_link 36 = .ok (.dup2, 1) := by decide +kernel
theorem dX9_link_37 : decode cX9_link 37 = .ok (.laload, 1) := by decide +kernel
theorem dX9_link_38 : decode cX9_link 38 = .ok (.lload 4, 2) := by decide +kernel
theorem dX9_link_40 : decode cX9_link 40 = .ok (.lor, 1) := by decide +kernel
theorem dX9_link_41 : decode cX9_link 41 = .ok (.lastore, 1) := by decide +kernel
theorem dX9_link_42 : decode cX9_link 42 = .ok (.iinc 6 1, 3) := by decide +kernel
theorem dX9_link_45 : decode cX9_link 45 = .ok (.goto (-42), 3) := by decide +kernel
theorem dX9_link_48 : decode cX9_link 48 = .ok (.return_, 1) := by decide +kernel
theorem v_X9_link_0 {cs : Cs} {Q : Option AV → Mm → Prop} {MI ML : Nat → Nat → Int} {b d e nw th x : Nat} {l1 l2 l4 : Int}
    (h : wp cs mX9_link KD Q 3 [some (vR (b + 9)), some (vI l1), some (vL l2), none, some (vL l4), none, some (vI 0)] [] (KD, MI, ML, (GR d e nw th x))) :
    wp cs mX9_link KD Q 0 (padL [vR (b + 9), vI l1, vL l2, vL l4] 7) [] (KD, MI, ML, (GR d e nw th x)) := by
  refine wp_L (L' := [some (vR (b + 9)), some (vI l1), some (vL l2), none, some (vL l4), none, none]) rfl ?_
  refine wp_iconst dX9_link_0 (by decide) ?_
  refine wp_istore dX9_link_1 (by decide) (wp_L (L' := [some (vR (b + 9)), some (vI l1), some (vL l2), none, some (vL l4), none, some (vI 0)]) rfl ?_)
  exact h
theorem v_X9_link_3 {cs : Cs} {Q : Option AV → Mm → Prop} {MI ML : Nat → Nat → Int} {b d e nw th x : Nat} {l1 l2 l4 l6 : Int} (hbd : b = 38 ∨ b = 81)
    (h : (0 ≤ l1 ∧ l1 < 30) ∧ ((l6 < (MI (b + 13) l1.toNat) → (((l_and (l_ushr l2 l6) 1) = 0 → (-2147483648 ≤ l6 + 1 ∧ l6 + 1 < 2147483648) ∧ wp cs mX9_link KD Q 3 [some (vR (b + 9)), some (vI l1), some (vL l2), none, some (vL l4), none, some (vI (l6 + 1))] [] (KD, MI, ML, (GR d e nw th x))) ∧ ((l_and (l_ushr l2 l6) 1) ≠ 0 → (-2147483648 ≤ l1 * 40 ∧ l1 * 40 < 2147483648) ∧ (-2147483648 ≤ (l1 * 40) + l6 ∧ (l1 * 40) + l6 < 2147483648) ∧ (0 ≤ ((l1 * 40) + l6) ∧ ((l1 * 40) + l6) < 1200) ∧ ∀ n41, n41 = up2 ML (b + 15) ((l1 * 40) + l6).toNat (l_or (ML (b + 15) ((l1 * 40) + l6).toNat) l4) → (-2147483648 ≤ l6 + 1 ∧ l6 + 1 < 2147483648) ∧ wp cs mX9_link KD Q 3 [some (vR (b + 9)), some (vI l1), some (vL l2), none, some (vL l4), none, some (vI (l6 + 1))] [] (KD, MI, n41, (GR d e nw th x))))) ∧ ((MI (b + 13) l1.toNat) ≤ l6 → Q none (MI, ML, (GR d e nw th x))))) :
    wp cs mX9_link KD Q 3 [some (vR (b + 9)), some (vI l1), some (vL l2), none, some (vL l4), none, some (vI l6)] [] (KD, MI, ML, (GR d e nw th x)) := by
  refine wp_iload dX9_link_3 rfl ?_
  refine wp_aload_n dX9_link_5 rfl rfl (by first | exact Or.inl (by decide) | exact Or.inl (by omega) | exact Or.inr (by decide) | exact Or.inr (by omega)) ?_
  refine wp_getR dX9_link_6 fX9_21 (kdb_9 hbd) (by omega) ?_
  refine wp_topR (x' := (b + 13)) (grb_9_3 hbd) ?_
  refine wp_iload_n dX9_link_9 rfl rfl ?_
  have c0 := h.1
  replace h := h.2
  refine wp_iald dX9_link_10 (kdb_13 hbd) (by omega) c0 ?_
  refine wp_icmp_ge (tgt := 48) dX9_link_11 (by decide) (fun h11 => ?_) (fun h11 => ?_)
  · replace h := h.2 h11
    exact wp_vret dX9_link_48 rfl (fun _ => h)
  · replace h := h.1 h11
    refine wp_lload_n dX9_link_14 rfl rfl ?_
    refine wp_iload dX9_link_15 rfl ?_
    refine wp_lushr dX9_link_17 ?_
    refine wp_lconst (z := 1) dX9_link_18 (by decide +kernel) (by decide) ?_
    refine wp_land dX9_link_19 ?_
    refine wp_lconst (z := 0) dX9_link_20 (by decide +kernel) (by decide) ?_
    refine wp_lcmp dX9_link_21 ?_
    refine wp_pc (pc' := 22) rfl ?_
    refine wp_if_eq (tgt := 42) dX9_link_22 (by decide) (fun h22 => ?_) (fun h22 => ?_)
    · replace h := h.1 (l_cmp_z h22)
      have c1 := h.1
      replace h := h.2
      refine wp_iincr dX9_link_42 rfl (by decide) c1 (wp_L (L' := [some (vR (b + 9)), some (vI l1), some (vL l2), none, some (vL l4), none, some (vI (l6 + 1))]) rfl ?_)
      refine wp_goto (tgt := 3) dX9_link_45 (by decide) ?_
      exact h
    · replace h := h.2 (l_cmp_nz h22)
      refine wp_aload_n dX9_link_25 rfl rfl (by first | exact Or.inl (by decide) | exact Or.inl (by omega) | exact Or.inr (by decide) | exact Or.inr (by omega)) ?_
      refine wp_getR dX9_link_26 fX9_27 (kdb_9 hbd) (by omega) ?_
      refine wp_topR (x' := (b + 15)) (grb_9_5 hbd) ?_
      refine wp_iload_n dX9_link_29 rfl rfl ?_
      refine wp_bipush dX9_link_30 (by decide +kernel) (by decide) ?_
      have c1 := h.1
      replace h := h.2
      refine wp_imulr dX9_link_32 c1 ?_
      refine wp_iload dX9_link_33 rfl ?_
      have c2 := h.1
      replace h := h.2
      refine wp_iaddr dX9_link_35 c2 ?_
      refine wp_pc (pc' := 36) rfl ?_
      refine wp_dup2 dX9_link_36 (fun x e => by cases e) (fun x e => by cases e) ?_
      have c3 := h.1
      replace h := h.2
      refine wp_lald dX9_link_37 (kdb_15 hbd) (by omega) c3 ?_
      refine wp_lload dX9_link_38 rfl ?_
      refine wp_lor dX9_link_40 ?_
      refine wp_last dX9_link_41 (kdb_15 hbd) (by omega) c3 ?_
      refine wp_gL (fun n41 e41 => ?_)
      replace h := h n41 e41
      have c4 := h.1
      replace h := h.2
      refine wp_iincr dX9_link_42 rfl (by decide) c4 (wp_L (L' := [some (vR (b + 9)), some (vI l1), some (vL l2), none, some (vL l4), none, some (vI (l6 + 1))]) rfl ?_)
      refine wp_goto (tgt := 3) dX9_link_45 (by decide) ?_
      exact h
theorem dX2_joinPart_0 : decode cX2_joinPart 0 = .ok (.aload_n 0, 1) := by decide +kernel
theorem dX2_joinPart_1 : decode cX2_joinPart 1 = .ok (.getfield 15, 3) := by decide +kernel
theorem dX2_joinPart_4 : decode cX2_joinPart 4 = .ok (.iload_n 3, 1) := by decide +kernel
theorem dX2_joinPart_5 : decode cX2_joinPart 5 = .ok (.iaload, 1) := by decide +kernel
theorem dX2_joinPart_6 : decode cX2_joinPart 6 = .ok (.ifCond .ne 7, 3) := by decide +kernel
theorem dX2_joinPart_9 : decode cX2_joinPart 9 = .ok (.iconst 1, 1) := by decide +kernel
theorem dX2_joinPart_10 : decode cX2_joinPart 10 = .ok (.goto 4, 3) := by decide +kernel
theorem dX2_joinPart_13 : decode cX2_joinPart 13 = .ok (.iconst 0, 1) := by decide +kernel
theorem dX2_joinPart_14 : decode cX2_joinPart 14 = .ok (.istore 4, 2) := by decide +kernel
theorem dX2_joinPart_16 : decode cX2_joinPart 16 = .ok (.aload_n 0, 1) := by decide +kernel
theorem dX2_joinPart_17 : decode cX2_joinPart 17 = .ok (.getfield 11, 3) := by decide +kernel
theorem dX2_joinPart_20 : decode cX2_joinPart 20 = .ok (.iload_n 3, 1) := by decide +kernel
theorem dX2_joinPart_21 : decode cX2_joinPart 21 = .ok (.iaload, 1) := by decide +kernel
theorem dX2_joinPart_22 : decode cX2_joinPart 22 = .ok (.bipush 124, 2) := by decide +kernel
theorem dX2_joinPart_24 : decode cX2_joinPart 24 = .ok (.if_icmp .ne 7, 3) := by decide +kernel
theorem dX2_joinPart_27 : decode cX2_joinPart 27 = .ok (.iconst 1, 1) := by decide +kernel
theorem dX2_joinPart_28 : decode cX2_joinPart 28 = .ok (.goto 4, 3) := by decide +kernel
theorem dX2_joinPart_31 : decode cX2_joinPart 31 = .ok (.iconst 0, 1) := by decide +kernel
theorem dX2_joinPart_32 : decode cX2_joinPart 32 = .ok (.istore 5, 2) := by decide +kernel
theorem dX2_joinPart_34 : decode cX2_joinPart 34 = .ok (.iload 4, 2) := by decide +kernel
theorem dX2_joinPart_36 : decode cX2_joinPart 36 = .ok (.ifCond .ne 23, 3) := by decide +kernel
theorem dX2_joinPart_39 : decode cX2_joinPart 39 = .ok (.iload 5, 2) := by decide +kernel
theorem dX2_joinPart_41 : decode cX2_joinPart 41 = .ok (.ifCond .ne 18, 3) := by decide +kernel
theorem dX2_joinPart_44 : decode cX2_joinPart 44 = .ok (.aload_n 1, 1) := by decide +kernel
theorem dX2_joinPart_45 : decode cX2_joinPart 45 = .ok (.iload_n 2, 1) := by decide +kernel
theorem dX2_joinPart_46 : decode cX2_joinPart 46 = .ok (.aload_n 0, 1) := by decide +kernel
theorem dX2_joinPart_47 : decode cX2_joinPart 47 = .ok (.getfield 22, 3) := by decide +kernel
theorem dX2_joinPart_50 : decode cX2_joinPart 50 = .ok (.iload_n 3, 1) := by decide +kernel
theorem dX2_joinPart_51 : decode cX2_joinPart 51 = .ok (.laload, 1) := by decide +kernel
theorem dX2_joinPart_52 : decode cX2_joinPart 52 = .ok (.aload_n 0, 1) := by decide +kernel
theorem dX2_joinPart_53 : decode cX2_joinPart 53 = .ok (.getfield 33, 3) := by decide +kernel
theorem dX2_joinPart_56 : decode cX2_joinPart 56 = .ok (.invokevirtual 199, 3) := by decide +kernel
theorem dX2_joinPart_59 : decode cX2_joinPart 59 = .ok (.iload 4, 2) := by decide +kernel
theorem dX2_joinPart_61 : decode cX2_joinPart 61 = .ok (.ifCond .ne 17, 3) := by decide +kernel
theorem dX2_joinPart_64 : decode cX2_joinPart 64 = .ok (.iload 5, 2) := by decide +kernel
theorem dX2_joinPart_66 : decode cX2_joinPart 66 = .ok (.ifCond .ne 12, 3) := by decide +kernel
theorem dX2_joinPart_69 : decode cX2_joinPart 69 = .ok (.aload_n 0, 1) := by decide +kernel
theorem dX2_joinPart_70 : decode cX2_joinPart 70 = .ok (.getfield 25, 3) := by decide +kernel
theorem dX2_joinPart_73 : decode cX2_joinPart 73 = .ok (.iload_n 3, 1) := by decide +kernel
theorem dX2_joinPart_74 : decode cX2_joinPart 74 = .ok (.baload, 1) := by decide +kernel
theorem dX2_joinPart_75 : decode cX2_joinPart 75 = .ok (.ifCond .eq 16, 3) := by decide +kernel
theorem dX2_joinPart_78 : decode cX2_joinPart 78 = .ok (.aload_n 0, 1) := by decide +kernel
theorem dX2_joinPart_79 : decode cX2_joinPart 79 = .ok (.getfield 18, 3) := by decide +kernel
theorem dX2_joinPart_82 : decode cX2_joinPart 82 = .ok (.iload_n 3, 1) := by decide +kernel
theorem dX2_joinPart_83 : decode cX2_joinPart 83 = .ok (.dup2, 1) := by decide +kernel
theorem dX2_joinPart_84 : decode cX2_joinPart 84 = .ok (.laload, 1) := by decide +kernel
theorem dX2_joinPart_85 : decode cX2_joinPart 85 = .ok (.aload_n 0, 1) := by decide +kernel
theorem dX2_joinPart_86 : decode cX2_joinPart 86 = .ok (.getfield 33, 3) := by decide +kernel
theorem dX2_joinPart_89 : decode cX2_joinPart 89 = .ok (.lor, 1) := by decide +kernel
theorem dX2_joinPart_90 : decode cX2_joinPart 90 = .ok (.lastore, 1) := by decide +kernel
theorem dX2_joinPart_91 : decode cX2_joinPart 91 = .ok (.iload 5, 2) := by decide +kernel
theorem dX2_joinPart_93 : decode cX2_joinPart 93 = .ok (.ifCond .ne 10, 3) := by decide +kernel
theorem dX2_joinPart_96 : decode cX2_joinPart 96 = .ok (.aload_n 0, 1) := by decide +kernel
theorem dX2_joinPart_97 : decode cX2_joinPart 97 = .ok (.getfield 40, 3) := by decide +kernel
theorem dX2_joinPart_100 : decode cX2_joinPart 100 = .ok (.ifCond .eq 19, 3) := by decide +kernel
theorem dX2_joinPart_103 : decode cX2_joinPart 103 = .ok (.aload_n 0, 1) := by decide +kernel
theorem dX2_joinPart_104 : decode cX2_joinPart 104 = .ok (.getfield 22, 3) := by decide +kernel
theorem dX2_joinPart_107 : decode cX2_joinPart 107 = .ok (.iload_n 3, 1) := by decide +kernel
theorem dX2_joinPart_108 : decode cX2_joinPart 108 = .ok (.dup2, 1) := by decide +kernel
theorem dX2_joinPart_109 : decode cX2_joinPart 109 = .ok (.laload, 1) := by decide +kernel
theorem dX2_joinPart_110 : decode cX2_joinPart 110 = .ok (.aload_n 0, 1) := by decide +kernel
theorem dX2_joinPart_111 : decode cX2_joinPart 111 = .ok (.getfield 37, 3) := by decide +kernel
theorem dX2_joinPart_114 : decode cX2_joinPart 114 = .ok (.lor, 1) := by decide +kernel
theorem dX2_joinPart_115 : decode cX2_joinPart 115 = .ok (.lastore, 1) := by decide +kernel
theorem dX2_joinPart_116 : decode cX2_joinPart 116 = .ok (.goto 13, 3) := by decide +kernel
theorem dX2_joinPart_119 : decode cX2_joinPart 119 = .ok (.aload_n 0, 1) := by decide +kernel
theorem dX2_joinPart_120 : decode cX2_joinPart 120 = .ok (.getfield 22, 3) := by decide +kernel
theorem dX2_joinPart_123 : decode cX2_joinPart 123 = .ok (.iload_n 3, 1) := by decide +kernel
theorem dX2_joinPart_124 : decode cX2_joinPart 124 = .ok (.aload_n 0, 1) := by decide +kernel
theorem dX2_joinPart_125 : decode cX2_joinPart 125 = .ok (.getfield 37, 3) := by decide +kernel
theorem dX2_joinPart_128 : decode cX2_joinPart 128 = .ok (.lastore, 1) := by decide +kernel
theorem dX2_joinPart_129 : decode cX2_joinPart 129 = .ok (.iload 4, 2) := by decide +kernel
theorem dX2_joinPart_131 : decode cX2_joinPart 131 = .ok (.ifCond .eq 16, 3) := by decide +kernel
theorem dX2_joinPart_134 : decode cX2_joinPart 134 = .ok (.aload_n 0, 1) := by decide +kernel
theorem dX2_joinPart_135 : decode cX2_joinPart 135 = .ok (.getfield 25, 3) := by decide +kernel
theorem dX2_joinPart_138 : decode cX2_joinPart 138 = .ok (.iload_n 3, 1) := by decide +kernel
theorem dX2_joinPart_139 : decode cX2_joinPart 139 = .ok (.aload_n 0, 1) := by decide +kernel
theorem dX2_joinPart_140 : decode cX2_joinPart 140 = .ok (.getfield 40, 3) := by decide +kernel
theorem dX2_joinPart_143 : decode cX2_joinPart 143 = .ok (.bastore, 1) := by decide +kernel
theorem dX2_joinPart_144 : decode cX2_joinPart 144 = .ok (.goto 39, 3) := by decide +kernel
theorem dX2_joinPart_147 : decode cX2_joinPart 147 = .ok (.iload 5, 2) := by decide +kernel
theorem dX2_joinPart_149 : decode cX2_joinPart 149 = .ok (.ifCond .eq 20, 3) := by decide +kernel
theorem dX2_joinPart_152 : decode cX2_joinPart 152 = .ok (.aload_n 0, 1) := by decide +kernel
theorem dX2_joinPart_153 : decode cX2_joinPart 153 = .ok (.getfield 25, 3) := by decide +kernel
theorem dX2_joinPart_156 : decode cX2_joinPart 156 = .ok (.iload_n 3, 1) := by decide +kernel
theorem dX2_joinPart_157 : decode cX2_joinPart 157 = .ok (.dup2, 1) := by decide +kernel
theorem dX2_joinPart_158 : decode cX2_joinPart 158 = .ok (.baload, 1) := by decide +kernel
theorem dX2_joinPart_159 : decode cX2_joinPart 159 = .ok (.aload_n 0, 1) := by decide +kernel
theorem dX2_joinPart_160 : decode cX2_joinPart 160 = .ok (.getfield 40, 3) := by decide +kernel
theorem dX2_joinPart_163 : decode cX2_joinPart 163 = .ok (.ior, 1) := by decide +kernel
theorem dX2_joinPart_164 : decode cX2_joinPart 164 = .ok (.i2b, 1) := by decide +kernel
theorem dX2_joinPart_165 : decode cX2_joinPart 165 = .ok (.bastore, 1) := by decide +kernel
theorem dX2_joinPart_166 : decode cX2_joinPart 166 = .ok (.goto 17, 3) := by decide +kernel
theorem dX2_joinPart_169 : decode cX2_joinPart 169 = .ok (.aload_n 0, 1) := by decide +kernel
theorem dX2_joinPart_170 : decode cX2_joinPart 170 = .ok (.getfield 25, 3) := by decide +kernel
theorem dX2_joinPart_173 : decode cX2_joinPart 173 = .ok (.iload_n 3, 1) := by decide +kernel
theorem dX2_joinPart_174 : decode cX2_joinPart 174 = .ok (.dup2, 1) := by decide +kernel
theorem dX2_joinPart_175 : decode cX2_joinPart 175 = .ok (.baload, 1) := by decide +kernel
theorem dX2_joinPart_176 : decode cX2_joinPart 176 = .ok (.aload_n 0, 1) := by decide +kernel
theorem dX2_joinPart_177 : decode cX2_joinPart 177 = .ok (.getfield 40, 3) := by decide +kernel
theorem dX2_joinPart_180 : decode cX2_joinPart 180 = .ok (.iand, 1) := by decide +kernel
theorem dX2_joinPart_181 : decode cX2_joinPart 181 = .ok (.i2b, 1) := by decide +kernel
theorem dX2_joinPart_182 : decode cX2_joinPart 182 = .ok (.bastore, 1) := by decide +kernel
theorem dX2_joinPart_183 : decode cX2_joinPart 183 = .ok (.aload_n 0, 1) := by decide +kernel
theorem dX2_joinPart_184 : decode cX2_joinPart 184 = .ok (.getfield 15, 3) := by decide +kernel
theorem dX2_joinPart_187 : decode cX2_joinPart 187 = .ok (.iload_n 3, 1) := by decide +kernel
theorem dX2_joinPart_188 : decode cX2_joinPart 188 = .ok (.dup2, 1) := by decide +kernel
theorem dX2_joinPart_189 : decode cX2_joinPart 189 = .ok (.iaload, 1) := by decide +kernel
theorem dX2_joinPart_190 : decode cX2_joinPart 190 = .ok (.iconst 1, 1) := by decide +kernel
theorem dX2_joinPart_191 : decode cX2_joinPart 191 = .ok (.iadd, 1) := by decide +kernel
theorem dX2_joinPart_192 : decode cX2_joinPart 192 = .ok (.iastore, 1) := by decide +kernel
theorem dX2_joinPart_193 : decode cX2_joinPart 193 = .ok (.return_, 1) := by decide +kernel
theorem v_X2_joinPart_0 {cs : Cs} {Q : Option AV → Mm → Prop} {MI ML : Nat → Nat → Int} {b d e nw th : Nat} {l2 l3 : Int} (hbd : b = 38 ∨ b = 81)
    (h : (0 ≤ l3 ∧ l3 < 6) ∧ (((MI 6 l3.toNat) = 0 → wp cs mX2_joinPart KD Q 14 [some (vR 4), some (vR (b + 9)), some (vI l2), some (vI l3), none, none] [vI 1] (KD, MI, ML, (GR d e nw th 1))) ∧ ((MI 6 l3.toNat) ≠ 0 → wp cs mX2_joinPart KD Q 14 [some (vR 4), some (vR (b + 9)), some (vI l2), some (vI l3), none, none] [vI 0] (KD, MI, ML, (GR d e nw th 1))))) :
    wp cs mX2_joinPart KD Q 0 (padL [vR 4, vR (b + 9), vI l2, vI l3] 6) [] (KD, MI, ML, (GR d e nw th 1)) := by
  refine wp_L (L' := [some (vR 4), some (vR (b + 9)), some (vI l2), some (vI l3), none, none]) rfl ?_
  refine wp_aload_n dX2_joinPart_0 rfl rfl (by first | exact Or.inl (by decide) | exact Or.inl (by omega) | exact Or.inr (by decide) | exact Or.inr (by omega)) ?_
  refine wp_getR dX2_joinPart_1 fX2_15 rfl (by decide) ?_
  refine wp_topR (x' := 6) rfl ?_
  refine wp_iload_n dX2_joinPart_4 rfl rfl ?_
  have c0 := h.1
  replace h := h.2
  refine wp_iald dX2_joinPart_5 rfl (by decide) c0 ?_
  refine wp_if_ne (tgt := 13) dX2_joinPart_6 (by decide) (fun h6 => ?_) (fun h6 => ?_)
  · replace h := h.2 h6
    refine wp_iconst dX2_joinPart_13 (by decide) ?_
    exact h
  · replace h := h.1 h6
    refine wp_iconst dX2_joinPart_9 (by decide) ?_
    refine wp_goto (tgt := 14) dX2_joinPart_10 (by decide) ?_
    exact h
theorem v_X2_joinPart_14 {cs : Cs} {Q : Option AV → Mm → Prop} {MI ML : Nat → Nat → Int} {b d e nw th : Nat} {l2 l3 s0 : Int} (hbd : b = 38 ∨ b = 81)
    (h : (0 ≤ l3 ∧ l3 < 6) ∧ (((MI 5 l3.toNat) = 124 → wp cs mX2_joinPart KD Q 32 [some (vR 4), some (vR (b + 9)), some (vI l2), some (vI l3), some (vI s0), none] [vI 1] (KD, MI, ML, (GR d e nw th 1))) ∧ ((MI 5 l3.toNat) ≠ 124 → wp cs mX2_joinPart KD Q 32 [some (vR 4), some (vR (b + 9)), some (vI l2), some (vI l3), some (vI s0), none] [vI 0] (KD, MI, ML, (GR d e nw th 1))))) :
    wp cs mX2_joinPart KD Q 14 [some (vR 4), some (vR (b + 9)), some (vI l2), some (vI l3), none, none] [vI s0] (KD, MI, ML, (GR d e nw th 1)) := by
  refine wp_istore dX2_joinPart_14 (by decide) (wp_L (L' := [some (vR 4), some (vR (b + 9)), some (vI l2), some (vI l3), some (vI s0), none]) rfl ?_)
  refine wp_aload_n dX2_joinPart_16 rfl rfl (by first | exact Or.inl (by decide) | exact Or.inl (by omega) | exact Or.inr (by decide) | exact Or.inr (by omega)) ?_
  refine wp_getR dX2_joinPart_17 fX2_11 rfl (by decide) ?_
  refine wp_topR (x' := 5) rfl ?_
  refine wp_iload_n dX2_joinPart_20 rfl rfl ?_
  have c0 := h.1
  replace h := h.2
  refine wp_iald dX2_joinPart_21 rfl (by decide) c0 ?_
  refine wp_bipush dX2_joinPart_22 (by decide +kernel) (by decide) ?_
  refine wp_icmp_ne (tgt := 31) dX2_joinPart_24 (by decide) (fun h24 => ?_) (fun h24 => ?_)
  · replace h := h.2 h24
    refine wp_iconst dX2_joinPart_31 (by decide) ?_
    exact h
  · replace h := h.1 h24
    refine wp_iconst dX2_joinPart_27 (by decide) ?_
    refine wp_goto (tgt := 32) dX2_joinPart_28 (by decide) ?_
    exact h
theorem v_X2_joinPart_32 {cs : Cs} {Q : Option AV → Mm → Prop} {MI ML : Nat → Nat → Int} {b d e nw th : Nat} {l2 l3 l4 s0 : Int} (hbd : b = 38 ∨ b = 81)
    (h : ((l4 = 0 → ((s0 = 0 → (0 ≤ l3 ∧ l3 < 6) ∧ wp cs mX9_link KD (rV (GR d e nw th 1) fun m56 n56 => wp cs mX2_joinPart KD Q 59 [some (vR 4), some (vR (b + 9)), some (vI l2), some (vI l3), some (vI l4), some (vI s0)] [] (KD, m56, n56, (GR d e nw th 1))) 0 (padL [vR (b + 9), vI l2, vL (ML 8 l3.toNat), vL (ML 4 7)] 7) [] (KD, MI, ML, (GR d e nw th 1))) ∧ (s0 ≠ 0 → wp cs mX2_joinPart KD Q 59 [some (vR 4), some (vR (b + 9)), some (vI l2), some (vI l3), some (vI l4), some (vI s0)] [] (KD, MI, ML, (GR d e nw th 1))))) ∧ (l4 ≠ 0 → wp cs mX2_joinPart KD Q 59 [some (vR 4), some (vR (b + 9)), some (vI l2), some (vI l3), some (vI l4), some (vI s0)] [] (KD, MI, ML, (GR d e nw th 1))))) :
    wp cs mX2_joinPart KD Q 32 [some (vR 4), some (vR (b + 9)), some (vI l2), some (vI l3), some (vI l4), none] [vI s0] (KD, MI, ML, (GR d e nw th 1)) := by
  refine wp_istore dX2_joinPart_32 (by decide) (wp_L (L' := [some (vR 4), some (vR (b + 9)), some (vI l2), some (vI l3), some (vI l4), some (vI s0)]) rfl ?_)
  refine wp_iload dX2_joinPart_34 rfl ?_
  refine wp_if_ne (tgt := 59) dX2_joinPart_36 (by decide) (fun h36 => ?_) (fun h36 => ?_)
  · replace h := h.2 h36
    exact h
  · replace h := h.1 h36
    refine wp_iload dX2_joinPart_39 rfl ?_
    refine wp_if_ne (tgt := 59) dX2_joinPart_41 (by decide) (fun h41 => ?_) (fun h41 => ?_)
    · replace h := h.2 h41
      exact h
    · replace h := h.1 h41
      refine wp_aload_n dX2_joinPart_44 rfl rfl (by first | exact Or.inl (by decide) | exact Or.inl (by omega) | exact Or.inr (by decide) | exact Or.inr (by omega)) ?_
      refine wp_iload_n dX2_joinPart_45 rfl rfl ?_
      refine wp_aload_n dX2_joinPart_46 rfl rfl (by first | exact Or.inl (by decide) | exact Or.inl (by omega) | exact Or.inr (by decide) | exact Or.inr (by omega)) ?_
      refine wp_getR dX2_joinPart_47 fX2_22 rfl (by decide) ?_
      refine wp_topR (x' := 8) rfl ?_
      refine wp_iload_n dX2_joinPart_50 rfl rfl ?_
      have c0 := h.1
      replace h := h.2
      refine wp_lald dX2_joinPart_51 rfl (by decide) c0 ?_
      refine wp_aload_n dX2_joinPart_52 rfl rfl (by first | exact Or.inl (by decide) | exact Or.inl (by omega) | exact Or.inr (by decide) | exact Or.inr (by omega)) ?_
      refine wp_pc (pc' := 53) rfl ?_
      refine wp_getL dX2_joinPart_53 fX2_33 rfl (by decide) ?_
      refine wp_cVq (n := 3) (mt' := mX9_link) (as := [vI l2, vL (ML 8 l3.toNat), vL (ML 4 7)]) (rest := []) _ dX2_joinPart_56 lX2_199 kX9_link vX9_link (by decide) (by decide +kernel) rfl (Nat.le_of_ble_eq_true rfl) (by omega) (kdb_9 hbd) rfl rfl (Nat.le_of_ble_eq_true rfl) (fun hM hS => h) (fun r M' hq hM => ?_)
      obtain ⟨m56, n56, rfl, rfl, h⟩ := rV_out hq
      exact h
theorem v_X2_joinPart_59 {cs : Cs} {Q : Option AV → Mm → Prop} {MI ML : Nat → Nat → Int} {b d e nw th : Nat} {l2 l3 l4 l5 : Int} (hbd : b = 38 ∨ b = 81)
    (h : ((l4 = 0 → ((l5 = 0 → (0 ≤ l3 ∧ l3 < 6) ∧ (((MI 9 l3.toNat) = 0 → wp cs mX2_joinPart KD Q 91 [some (vR 4), some (vR (b + 9)), some (vI l2), some (vI l3), some (vI l4), some (vI l5)] [] (KD, MI, ML, (GR d e nw th 1))) ∧ ((MI 9 l3.toNat) ≠ 0 → wp cs mX2_joinPart KD Q 78 [some (vR 4), some (vR (b + 9)), some (vI l2), some (vI l3), some (vI l4), some (vI l5)] [] (KD, MI, ML, (GR d e nw th 1))))) ∧ (l5 ≠ 0 → wp cs mX2_joinPart KD Q 78 [some (vR 4), some (vR (b + 9)), some (vI l2), some (vI l3), some (vI l4), some (vI l5)] [] (KD, MI, ML, (GR d e nw th 1))))) ∧ (l4 ≠ 0 → wp cs mX2_joinPart KD Q 78 [some (vR 4), some (vR (b + 9)), some (vI l2), some (vI l3), some (vI l4), some (vI l5)] [] (KD, MI, ML, (GR d e nw th 1))))) :
    wp cs mX2_joinPart KD Q 59 [some (vR 4), some (vR (b + 9)), some (vI l2), some (vI l3), some (vI l4), some (vI l5)] [] (KD, MI, ML, (GR d e nw th 1)) := by
  refine wp_iload dX2_joinPart_59 rfl ?_
  refine wp_if_ne (tgt := 78) dX2_joinPart_61 (by decide) (fun h61 => ?_) (fun h61 => ?_)
  · replace h := h.2 h61
    exact h
  · replace h := h.1 h61
    refine wp_iload dX2_joinPart_64 rfl ?_
    refine wp_if_ne (tgt := 78) dX2_joinPart_66 (by decide) (fun h66 => ?_) (fun h66 => ?_)
    · replace h := h.2 h66
      exact h
    · replace h := h.1 h66
      refine wp_aload_n dX2_joinPart_69 rfl rfl (by first | exact Or.inl (by decide) | exact Or.inl (by omega) | exact Or.inr (by decide) | exact Or.inr (by omega)) ?_
      refine wp_getR dX2_joinPart_70 fX2_25 rfl (by decide) ?_
      refine wp_topR (x' := 9) rfl ?_
      refine wp_iload_n dX2_joinPart_73 rfl rfl ?_
      have c0 := h.1
      replace h := h.2
      refine wp_bald dX2_joinPart_74 rfl (by decide) c0 ?_
      refine wp_if_eq (tgt := 91) dX2_joinPart_75 (by decide) (fun h75 => ?_) (fun h75 => ?_)
      · replace h := h.1 h75
        exact h
      · replace h := h.2 h75
        exact h
theorem v_X2_joinPart_78 {cs : Cs} {Q : Option AV → Mm → Prop} {MI ML : Nat → Nat → Int} {b d e nw th : Nat} {l2 l3 l4 l5 : Int} (hbd : b = 38 ∨ b = 81)
    (h : (0 ≤ l3 ∧ l3 < 6) ∧ ∀ n90, n90 = up2 ML 7 l3.toNat (l_or (ML 7 l3.toNat) (ML 4 7)) → wp cs mX2_joinPart KD Q 91 [some (vR 4), some (vR (b + 9)), some (vI l2), some (vI l3), some (vI l4), some (vI l5)] [] (KD, MI, n90, (GR d e nw th 1))) :
    wp cs mX2_joinPart KD Q 78 [some (vR 4), some (vR (b + 9)), some (vI l2), some (vI l3), some (vI l4), some (vI l5)] [] (KD, MI, ML, (GR d e nw th 1)) := by
  refine wp_aload_n dX2_joinPart_78 rfl rfl (by first | exact Or.inl (by decide) | exact Or.inl (by omega) | exact Or.inr (by decide) | exact Or.inr (by omega)) ?_
  refine wp_getR dX2_joinPart_79 fX2_18 rfl (by decide) ?_
  refine wp_topR (x' := 7) rfl ?_
  refine wp_iload_n dX2_joinPart_82 rfl rfl ?_
  refine wp_dup2 dX2_joinPart_83 (fun x e => by cases e) (fun x e => by cases e) ?_
  have c0 := h.1
  replace h := h.2
  refine wp_lald dX2_joinPart_84 rfl (by decide) c0 ?_
  refine wp_aload_n dX2_joinPart_85 rfl rfl (by first | exact Or.inl (by decide) | exact Or.inl (by omega) | exact Or.inr (by decide) | exact Or.inr (by omega)) ?_
  refine wp_getL dX2_joinPart_86 fX2_33 rfl (by decide) ?_
  refine wp_pc (pc' := 89) rfl ?_
  refine wp_lor dX2_joinPart_89 ?_
  refine wp_last dX2_joinPart_90 rfl (by decide) c0 ?_
  refine wp_gL (fun n90 e90 => ?_)
  replace h := h n90 e90
  exact h
theorem v_X2_joinPart_91 {cs : Cs} {Q : Option AV → Mm → Prop} {MI ML : Nat → Nat → Int} {b d e nw th : Nat} {l2 l3 l4 l5 : Int} (hbd : b = 38 ∨ b = 81)
    (h : ((l5 = 0 → (((MI 4 9) = 0 → (0 ≤ l3 ∧ l3 < 6) ∧ ∀ n128, n128 = up2 ML 8 l3.toNat (ML 4 8) → wp cs mX2_joinPart KD Q 129 [some (vR 4), some (vR (b + 9)), some (vI l2), some (vI l3), some (vI l4), some (vI l5)] [] (KD, MI, n128, (GR d e nw th 1))) ∧ ((MI 4 9) ≠ 0 → (0 ≤ l3 ∧ l3 < 6) ∧ ∀ n115, n115 = up2 ML 8 l3.toNat (l_or (ML 8 l3.toNat) (ML 4 8)) → wp cs mX2_joinPart KD Q 129 [some (vR 4), some (vR (b + 9)), some (vI l2), some (vI l3), some (vI l4), some (vI l5)] [] (KD, MI, n115, (GR d e nw th 1))))) ∧ (l5 ≠ 0 → (0 ≤ l3 ∧ l3 < 6) ∧ ∀ n115, n115 = up2 ML 8 l3.toNat (l_or (ML 8 l3.toNat) (ML 4 8)) → wp cs mX2_joinPart KD Q 129 [some (vR 4), some (vR (b + 9)), some (vI l2), some (vI l3), some (vI l4), some (vI l5)] [] (KD, MI, n115, (GR d e nw th 1))))) :
    wp cs mX2_joinPart KD Q 91 [some (vR 4), some (vR (b + 9)), some (vI l2), some (vI l3), some (vI l4), some (vI l5)] [] (KD, MI, ML, (GR d e nw th 1)) := by
  refine wp_iload dX2_joinPart_91 rfl ?_
  refine wp_if_ne (tgt := 103) dX2_joinPart_93 (by decide) (fun h93 => ?_) (fun h93 => ?_)
  · replace h := h.2 h93
    refine wp_aload_n dX2_joinPart_103 rfl rfl (by first | exact Or.inl (by decide) | exact Or.inl (by omega) | exact Or.inr (by decide) | exact Or.inr (by omega)) ?_
    refine wp_getR dX2_joinPart_104 fX2_22 rfl (by decide) ?_
    refine wp_topR (x' := 8) rfl ?_
    refine wp_iload_n dX2_joinPart_107 rfl rfl ?_
    refine wp_dup2 dX2_joinPart_108 (fun x e => by cases e) (fun x e => by cases e) ?_
    have c0 := h.1
    replace h := h.2
    refine wp_lald dX2_joinPart_109 rfl (by decide) c0 ?_
    refine wp_aload_n dX2_joinPart_110 rfl rfl (by first | exact Or.inl (by decide) | exact Or.inl (by omega) | exact Or.inr (by decide) | exact Or.inr (by omega)) ?_
    refine wp_getL dX2_joinPart_111 fX2_37 rfl (by decide) ?_
    refine wp_pc (pc' := 114) rfl ?_
    refine wp_lor dX2_joinPart_114 ?_
    refine wp_last dX2_joinPart_115 rfl (by decide) c0 ?_
    refine wp_gL (fun n115 e115 => ?_)
    replace h := h n115 e115
    refine wp_goto (tgt := 129) dX2_joinPart_116 (by decide) ?_
    exact h
  · replace h := h.1 h93
    refine wp_aload_n dX2_joinPart_96 rfl rfl (by first | exact Or.inl (by decide) | exact Or.inl (by omega) | exact Or.inr (by decide) | exact Or.inr (by omega)) ?_
    refine wp_getI dX2_joinPart_97 fX2_40 rfl (by decide) ?_
    refine wp_if_eq (tgt := 119) dX2_joinPart_100 (by decide) (fun h100 => ?_) (fun h100 => ?_)
    · replace h := h.1 h100
      refine wp_aload_n dX2_joinPart_119 rfl rfl (by first | exact Or.inl (by decide) | exact Or.inl (by omega) | exact Or.inr (by decide) | exact Or.inr (by omega)) ?_
      refine wp_getR dX2_joinPart_120 fX2_22 rfl (by decide) ?_
      refine wp_topR (x' := 8) rfl ?_
      refine wp_iload_n dX2_joinPart_123 rfl rfl ?_
      refine wp_aload_n dX2_joinPart_124 rfl rfl (by first | exact Or.inl (by decide) | exact Or.inl (by omega) | exact Or.inr (by decide) | exact Or.inr (by omega)) ?_
      refine wp_getL dX2_joinPart_125 fX2_37 rfl (by decide) ?_
      have c0 := h.1
      replace h := h.2
      refine wp_last dX2_joinPart_128 rfl (by decide) c0 ?_
      refine wp_gL (fun n128 e128 => ?_)
      replace h := h n128 e128
      exact h
    · replace h := h.2 h100
      refine wp_aload_n dX2_joinPart_103 rfl rfl (by first | exact Or.inl (by decide) | exact Or.inl (by omega) | exact Or.inr (by decide) | exact Or.inr (by omega)) ?_
      refine wp_getR dX2_joinPart_104 fX2_22 rfl (by decide) ?_
      refine wp_topR (x' := 8) rfl ?_
      refine wp_iload_n dX2_joinPart_107 rfl rfl ?_
      refine wp_dup2 dX2_joinPart_108 (fun x e => by cases e) (fun x e => by cases e) ?_
      have c0 := h.1
      replace h := h.2
      refine wp_lald dX2_joinPart_109 rfl (by decide) c0 ?_
      refine wp_aload_n dX2_joinPart_110 rfl rfl (by first | exact Or.inl (by decide) | exact Or.inl (by omega) | exact Or.inr (by decide) | exact Or.inr (by omega)) ?_
      refine wp_getL dX2_joinPart_111 fX2_37 rfl (by decide) ?_
      refine wp_pc (pc' := 114) rfl ?_
      refine wp_lor dX2_joinPart_114 ?_
      refine wp_last dX2_joinPart_115 rfl (by decide) c0 ?_
      refine wp_gL (fun n115 e115 => ?_)
      replace h := h n115 e115
      refine wp_goto (tgt := 129) dX2_joinPart_116 (by decide) ?_
      exact h
theorem v_X2_joinPart_129 {cs : Cs} {Q : Option AV → Mm → Prop} {MI ML : Nat → Nat → Int} {b d e nw th : Nat} {l2 l3 l4 l5 : Int} (hbd : b = 38 ∨ b = 81)
    (h : ((l4 = 0 → ((l5 = 0 → (0 ≤ l3 ∧ l3 < 6) ∧ ∀ m182, m182 = up2 MI 9 l3.toNat (i_2b (i_and (MI 9 l3.toNat) (MI 4 9))) → wp cs mX2_joinPart KD Q 183 [some (vR 4), some (vR (b + 9)), some (vI l2), some (vI l3), some (vI l4), some (vI l5)] [] (KD, m182, ML, (GR d e nw th 1))) ∧ (l5 ≠ 0 → (0 ≤ l3 ∧ l3 < 6) ∧ ∀ m165, m165 = up2 MI 9 l3.toNat (i_2b (i_or (MI 9 l3.toNat) (MI 4 9))) → wp cs mX2_joinPart KD Q 183 [some (vR 4), some (vR (b + 9)), some (vI l2), some (vI l3), some (vI l4), some (vI l5)] [] (KD, m165, ML, (GR d e nw th 1))))) ∧ (l4 ≠ 0 → (0 ≤ l3 ∧ l3 < 6) ∧ (-128 ≤ (MI 4 9) ∧ (MI 4 9) < 128) ∧ ∀ m143, m143 = up2 MI 9 l3.toNat (MI 4 9) → wp cs mX2_joinPart KD Q 183 [some (vR 4), some (vR (b + 9)), some (vI l2), some (vI l3), some (vI l4), some (vI l5)] [] (KD, m143, ML, (GR d e nw th 1))))) :
    wp cs mX2_joinPart KD Q 129 [some (vR 4), some (vR (b + 9)), some (vI l2), some (vI l3), some (vI l4), some (vI l5)] [] (KD, MI, ML, (GR d e nw th 1)) := by
  refine wp_iload dX2_joinPart_129 rfl ?_
  refine wp_if_eq (tgt := 147) dX2_joinPart_131 (by decide) (fun h131 => ?_) (fun h131 => ?_)
  · replace h := h.1 h131
    refine wp_iload dX2_joinPart_147 rfl ?_
    refine wp_if_eq (tgt := 169) dX2_joinPart_149 (by decide) (fun h149 => ?_) (fun h149 => ?_)
    · replace h := h.1 h149
      refine wp_aload_n dX2_joinPart_169 rfl rfl (by first | exact Or.inl (by decide) | exact Or.inl (by omega) | exact Or.inr (by decide) | exact Or.inr (by omega)) ?_
      refine wp_getR dX2_joinPart_170 fX2_25 rfl (by decide) ?_
      refine wp_topR (x' := 9) rfl ?_
      refine wp_iload_n dX2_joinPart_173 rfl rfl ?_
      refine wp_dup2 dX2_joinPart_174 (fun x e => by cases e) (fun x e => by cases e) ?_
      have c0 := h.1
      replace h := h.2
      refine wp_bald dX2_joinPart_175 rfl (by decide) c0 ?_
      refine wp_aload_n dX2_joinPart_176 rfl rfl (by first | exact Or.inl (by decide) | exact Or.inl (by omega) | exact Or.inr (by decide) | exact Or.inr (by omega)) ?_
      refine wp_getI dX2_joinPart_177 fX2_40 rfl (by decide) ?_
      refine wp_pc (pc' := 180) rfl ?_
      refine wp_iand dX2_joinPart_180 ?_
      refine wp_i2b dX2_joinPart_181 ?_
      refine wp_bast dX2_joinPart_182 rfl (by decide) c0 (b_2b _) ?_
      refine wp_gI (fun m182 e182 => ?_)
      replace h := h m182 e182
      exact h
    · replace h := h.2 h149
      refine wp_aload_n dX2_joinPart_152 rfl rfl (by first | exact Or.inl (by decide) | exact Or.inl (by omega) | exact Or.inr (by decide) | exact Or.inr (by omega)) ?_
      refine wp_getR dX2_joinPart_153 fX2_25 rfl (by decide) ?_
      refine wp_topR (x' := 9) rfl ?_
      refine wp_iload_n dX2_joinPart_156 rfl rfl ?_
      refine wp_dup2 dX2_joinPart_157 (fun x e => by cases e) (fun x e => by cases e) ?_
      have c0 := h.1
      replace h := h.2
      refine wp_bald dX2_joinPart_158 rfl (by decide) c0 ?_
      refine wp_aload_n dX2_joinPart_159 rfl rfl (by first | exact Or.inl (by decide) | exact Or.inl (by omega) | exact Or.inr (by decide) | exact Or.inr (by omega)) ?_
      refine wp_getI dX2_joinPart_160 fX2_40 rfl (by decide) ?_
      refine wp_pc (pc' := 163) rfl ?_
      refine wp_ior dX2_joinPart_163 ?_
      refine wp_i2b dX2_joinPart_164 ?_
      refine wp_bast dX2_joinPart_165 rfl (by decide) c0 (b_2b _) ?_
      refine wp_gI (fun m165 e165 => ?_)
      replace h := h m165 e165
      refine wp_goto (tgt := 183) dX2_joinPart_166 (by decide) ?_
      exact h
  · replace h := h.2 h131
    refine wp_aload_n dX2_joinPart_134 rfl rfl (by first | exact Or.inl (by decide) | exact Or.inl (by omega) | exact Or.inr (by decide) | exact Or.inr (by omega)) ?_
    refine wp_getR dX2_joinPart_135 fX2_25 rfl (by decide) ?_
    refine wp_topR (x' := 9) rfl ?_
    refine wp_iload_n dX2_joinPart_138 rfl rfl ?_
    refine wp_aload_n dX2_joinPart_139 rfl rfl (by first | exact Or.inl (by decide) | exact Or.inl (by omega) | exact Or.inr (by decide) | exact Or.inr (by omega)) ?_
    refine wp_getI dX2_joinPart_140 fX2_40 rfl (by decide) ?_
    have c0 := h.1
    replace h := h.2
    have c1 := h.1
    replace h := h.2
    refine wp_bast dX2_joinPart_143 rfl (by decide) c0 c1 ?_
    refine wp_gI (fun m143 e143 => ?_)
    replace h := h m143 e143
    refine wp_goto (tgt := 183) dX2_joinPart_144 (by decide) ?_
    exact h
theorem v_X2_joinPart_183 {cs : Cs} {Q : Option AV → Mm → Prop} {MI ML : Nat → Nat → Int} {b d e nw th : Nat} {l2 l3 l4 l5 : Int} (hbd : b = 38 ∨ b = 81)
    (h : (0 ≤ l3 ∧ l3 < 6) ∧ (-2147483648 ≤ (MI 6 l3.toNat) + 1 ∧ (MI 6 l3.toNat) + 1 < 2147483648) ∧ ∀ m192, m192 = up2 MI 6 l3.toNat ((MI 6 l3.toNat) + 1) → Q none (m192, ML, (GR d e nw th 1))) :
    wp cs mX2_joinPart KD Q 183 [some (vR 4), some (vR (b + 9)), some (vI l2), some (vI l3), some (vI l4), some (vI l5)] [] (KD, MI, ML, (GR d e nw th 1)) := by
  refine wp_aload_n dX2_joinPart_183 rfl rfl (by first | exact Or.inl (by decide) | exact Or.inl (by omega) | exact Or.inr (by decide) | exact Or.inr (by omega)) ?_
  refine wp_getR dX2_joinPart_184 fX2_15 rfl (by decide) ?_
  refine wp_topR (x' := 6) rfl ?_
  refine wp_iload_n dX2_joinPart_187 rfl rfl ?_
  refine wp_dup2 dX2_joinPart_188 (fun x e => by cases e) (fun x e => by cases e) ?_
  have c0 := h.1
  replace h := h.2
  refine wp_iald dX2_joinPart_189 rfl (by decide) c0 ?_
  refine wp_iconst dX2_joinPart_190 (by decide) ?_
  have c1 := h.1
  replace h := h.2
  refine wp_iaddr dX2_joinPart_191 c1 ?_
  refine wp_pc (pc' := 192) rfl ?_
  refine wp_iast dX2_joinPart_192 rfl (by decide) c0 ?_
  refine wp_gI (fun m192 e192 => ?_)
  replace h := h m192 e192
  exact wp_vret dX2_joinPart_193 rfl (fun _ => h)
theorem dX2_endPart_0 : decode cX2_endPart 0 = .ok (.aload_n 0, 1) := by decide +kernel
theorem dX2_endPart_1 : decode cX2_endPart 1 = .ok (.getfield 44, 3) := by decide +kernel
theorem dX2_endPart_4 : decode cX2_endPart 4 = .ok (.ldc 195, 2) := by decide +kernel
theorem dX2_endPart_6 : decode cX2_endPart 6 = .ok (.invokevirtual 50, 3) := by decide +kernel
theorem dX2_endPart_9 : decode cX2_endPart 9 = .ok (.istore_n 3, 1) := by decide +kernel
theorem dX2_endPart_10 : decode cX2_endPart 10 = .ok (.iload_n 3, 1) := by decide +kernel
theorem dX2_endPart_11 : decode cX2_endPart 11 = .ok (.ifCond .ne 19, 3) := by decide +kernel
theorem dX2_endPart_14 : decode cX2_endPart 14 = .ok (.aload_n 0, 1) := by decide +kernel
theorem dX2_endPart_15 : decode cX2_endPart 15 = .ok (.getfield 44, 3) := by decide +kernel
theorem dX2_endPart_18 : decode cX2_endPart 18 = .ok (.ldc 164, 2) := by decide +kernel
theorem dX2_endPart_20 : decode cX2_endPart 20 = .ok (.invokevirtual 50, 3) := by decide +kernel
theorem dX2_endPart_23 : decode cX2_endPart 23 = .ok (.ifCond .eq 7, 3) := by decide +kernel
theorem dX2_endPart_26 : decode cX2_endPart 26 = .ok (.iconst 1, 1) := by decide +kernel
theorem dX2_endPart_27 : decode cX2_endPart 27 = .ok (.goto 4, 3) := by decide +kernel
theorem dX2_endPart_30 : decode cX2_endPart 30 = .ok (.iconst 0, 1) := by decide +kernel
theorem dX2_endPart_31 : decode cX2_endPart 31 = .ok (.istore 4, 2) := by decide +kernel
theorem dX2_endPart_33 : decode cX2_endPart 33 = .ok (.iload 4, 2) := by decide +kernel
theorem dX2_endPart_35 : decode cX2_endPart 35 = .ok (.ifCond .ne 19, 3) := by decide +kernel
theorem dX2_endPart_38 : decode cX2_endPart 38 = .ok (.iload_n 3, 1) := by decide +kernel
theorem dX2_endPart_39 : decode cX2_endPart 39 = .ok (.ifCond .ne 19, 3) := by decide +kernel
theorem dX2_endPart_42 : decode cX2_endPart 42 = .ok (.aload_n 0, 1) := by decide +kernel
theorem dX2_endPart_43 : decode cX2_endPart 43 = .ok (.getfield 44, 3) := by decide +kernel
theorem dX2_endPart_46 : decode cX2_endPart 46 = .ok (.ldc 197, 2) := by decide +kernel
theorem dX2_endPart_48 : decode cX2_endPart 48 = .ok (.invokevirtual 50, 3) := by decide +kernel
theorem dX2_endPart_51 : decode cX2_endPart 51 = .ok (.ifCond .eq 7, 3) := by decide +kernel
theorem dX2_endPart_54 : decode cX2_endPart 54 = .ok (.iconst 1, 1) := by decide +kernel
theorem dX2_endPart_55 : decode cX2_endPart 55 = .ok (.goto 4, 3) := by decide +kernel
theorem dX2_endPart_58 : decode cX2_endPart 58 = .ok (.iconst 0, 1) := by decide +kernel
theorem dX2_endPart_59 : decode cX2_endPart 59 = .ok (.istore 5, 2) := by decide +kernel
theorem dX2_endPart_61 : decode cX2_endPart 61 = .ok (.iload 5, 2) := by decide +kernel
theorem dX2_endPart_63 : decode cX2_endPart 63 = .ok (.ifCond .eq 16, 3) := by decide +kernel
theorem dX2_endPart_66 : decode cX2_endPart 66 = .ok (.aload_n 1, 1) := by decide +kernel
theorem dX2_endPart_67 : decode cX2_endPart 67 = .ok (.iload_n 2, 1) := by decide +kernel
theorem dX2_endPart_68 : decode cX2_endPart 68 = .ok (.aload_n 0, 1) := by decide +kernel
theorem dX2_endPart_69 : decode cX2_endPart 69 = .ok (.getfield 37, 3) := by decide +kernel
theorem dX2_endPart_72 : decode cX2_endPart 72 = .ok (.aload_n 0, 1) := by decide +kernel
theorem dX2_endPart_73 : decode cX2_endPart 73 = .ok (.getfield 33, 3) := by decide +kernel
theorem dX2_endPart_76 : decode cX2_endPart 76 = .ok (.invokevirtual 199, 3) := by decide +kernel
theorem dX2_endPart_79 : decode cX2_endPart 79 = .ok (.iload_n 3, 1) := by decide +kernel
theorem dX2_endPart_80 : decode cX2_endPart 80 = .ok (.ifCond .ne 8, 3) := by decide +kernel
theorem dX2_endPart_83 : decode cX2_endPart 83 = .ok (.iload 4, 2) := by decide +kernel
theorem dX2_endPart_85 : decode cX2_endPart 85 = .ok (.ifCond .eq 8, 3) := by decide +kernel
theorem dX2_endPart_88 : decode cX2_endPart 88 = .ok (.aload_n 0, 1) := by decide +kernel
theorem dX2_endPart_89 : decode cX2_endPart 89 = .ok (.iconst 1, 1) := by decide +kernel
theorem dX2_endPart_90 : decode cX2_endPart 90 = .ok (.putfield 40, 3) := by decide +kernel
theorem dX2_endPart_93 : decode cX2_endPart 93 = .ok (.aload_n 0, 1) := by decide +kernel
theorem dX2_endPart_94 : decode cX2_endPart 94 = .ok (.getfield 29, 3) := by decide +kernel
theorem dX2_endPart_97 : decode cX2_endPart 97 = .ok (.ifCond .le 15, 3) := by decide +kernel
theorem dX2_endPart_100 : decode cX2_endPart 100 = .ok (.aload_n 0, 1) := by decide +kernel
theorem dX2_endPart_101 : decode cX2_endPart 101 = .ok (.aload_n 1, 1) := by decide +kernel
theorem dX2_endPart_102 : decode cX2_endPart 102 = .ok (.iload_n 2, 1) := by decide +kernel
theorem dX2_endPart_103 : decode cX2_endPart 103 = .ok (.aload_n 0, 1) := by decide +kernel
theorem dX2_endPart_104 : decode cX2_endPart 104 = .ok (.getfield 29, 3) := by decide +kernel
theorem dX2_endPart_107 : decode cX2_endPart 107 = .ok (.iconst 1, 1) := by decide +kernel
theorem dX2_endPart_108 : decode cX2_endPart 108 = .ok (.isub, 1) := by decide +kernel
theorem dX2_endPart_109 : decode cX2_endPart 109 = .ok (.invokevirtual 203, 3) := by decide +kernel
theorem dX2_endPart_112 : decode cX2_endPart 112 = .ok (.return_, 1) := by decide +kernel
theorem v_X2_endPart_0 {cs : Cs} {Q : Option AV → Mm → Prop} {MI ML : Nat → Nat → Int} {b d e nw th : Nat} {l2 : Int} (hbd : b = 38 ∨ b = 81)
    (h : wp cs mX1_takeIf KD (rI (GR d e nw th 1) fun x6 m6 n6 => ((x6 = 0 → wp cs mX1_takeIf KD (rI (GR d e nw th 1) fun x20 m20 n20 => ((x20 = 0 → wp cs mX2_endPart KD Q 31 [some (vR 4), some (vR (b + 9)), some (vI l2), some (vI x6), none, none] [vI 0] (KD, m20, n20, (GR d e nw th 1))) ∧ (x20 ≠ 0 → wp cs mX2_endPart KD Q 31 [some (vR 4), some (vR (b + 9)), some (vI l2), some (vI x6), none, none] [vI 1] (KD, m20, n20, (GR d e nw th 1))))) 0 (padL [vR 2, vR 1000016] 4) [] (KD, m6, n6, (GR d e nw th 1))) ∧ (x6 ≠ 0 → wp cs mX2_endPart KD Q 31 [some (vR 4), some (vR (b + 9)), some (vI l2), some (vI x6), none, none] [vI 0] (KD, m6, n6, (GR d e nw th 1))))) 0 (padL [vR 2, vR 1000017] 4) [] (KD, MI, ML, (GR d e nw th 1))) :
    wp cs mX2_endPart KD Q 0 (padL [vR 4, vR (b + 9), vI l2] 6) [] (KD, MI, ML, (GR d e nw th 1)) := by
  refine wp_L (L' := [some (vR 4), some (vR (b + 9)), some (vI l2), none, none, none]) rfl ?_
  refine wp_aload_n dX2_endPart_0 rfl rfl (by first | exact Or.inl (by decide) | exact Or.inl (by omega) | exact Or.inr (by decide) | exact Or.inr (by omega)) ?_
  refine wp_getR dX2_endPart_1 fX2_44 rfl (by decide) ?_
  refine wp_topR (x' := 2) rfl ?_
  refine wp_ldcS (k := 14) dX2_endPart_4 cX2_195 ?_
  refine wp_cVq (n := 1) (mt' := mX1_takeIf) (as := [vR 1000017]) (rest := []) _ dX2_endPart_6 lX2_50 kX1_takeIf vX1_takeIf (by decide) (by decide +kernel) rfl (Nat.le_of_ble_eq_true rfl) (by decide) rfl rfl rfl (Nat.le_of_ble_eq_true rfl) (fun hM hS => h) (fun r M' hq hM => ?_)
  obtain ⟨x6, m6, n6, rfl, rfl, h⟩ := rI_out hq
  refine wp_istore_n dX2_endPart_9 rfl (by decide) (wp_L (L' := [some (vR 4), some (vR (b + 9)), some (vI l2), some (vI x6), none, none]) rfl ?_)
  refine wp_iload_n dX2_endPart_10 rfl rfl ?_
  refine wp_if_ne (tgt := 30) dX2_endPart_11 (by decide) (fun h11 => ?_) (fun h11 => ?_)
  · replace h := h.2 h11
    refine wp_iconst dX2_endPart_30 (by decide) ?_
    exact h
  · replace h := h.1 h11
    refine wp_aload_n dX2_endPart_14 rfl rfl (by first | exact Or.inl (by decide) | exact Or.inl (by omega) | exact Or.inr (by decide) | exact Or.inr (by omega)) ?_
    refine wp_getR dX2_endPart_15 fX2_44 rfl (by decide) ?_
    refine wp_topR (x' := 2) rfl ?_
    refine wp_ldcS (k := 13) dX2_endPart_18 cX2_164 ?_
    refine wp_cVq (n := 1) (mt' := mX1_takeIf) (as := [vR 1000016]) (rest := []) _ dX2_endPart_20 lX2_50 kX1_takeIf vX1_takeIf (by decide) (by decide +kernel) rfl (Nat.le_of_ble_eq_true rfl) (by decide) rfl rfl rfl (Nat.le_of_ble_eq_true rfl) (fun hM hS => h) (fun r M' hq hM => ?_)
    obtain ⟨x20, m20, n20, rfl, rfl, h⟩ := rI_out hq
    refine wp_if_eq (tgt := 30) dX2_endPart_23 (by decide) (fun h23 => ?_) (fun h23 => ?_)
    · replace h := h.1 h23
      refine wp_iconst dX2_endPart_30 (by decide) ?_
      exact h
    · replace h := h.2 h23
      refine wp_iconst dX2_endPart_26 (by decide) ?_
      refine wp_goto (tgt := 31) dX2_endPart_27 (by decide) ?_
      exact h
theorem v_X2_endPart_31 {cs : Cs} {Q : Option AV → Mm → Prop} {MI ML : Nat → Nat → Int} {b d e nw th : Nat} {l2 l3 s0 : Int} (hbd : b = 38 ∨ b = 81)
    (h : ((s0 = 0 → ((l3 = 0 → wp cs mX1_takeIf KD (rI (GR d e nw th 1) fun x48 m48 n48 => ((x48 = 0 → wp cs mX2_endPart KD Q 59 [some (vR 4), some (vR (b + 9)), some (vI l2), some (vI l3), some (vI s0), none] [vI 0] (KD, m48, n48, (GR d e nw th 1))) ∧ (x48 ≠ 0 → wp cs mX2_endPart KD Q 59 [some (vR 4), some (vR (b + 9)), some (vI l2), some (vI l3), some (vI s0), none] [vI 1] (KD, m48, n48, (GR d e nw th 1))))) 0 (padL [vR 2, vR 1000018] 4) [] (KD, MI, ML, (GR d e nw th 1))) ∧ (l3 ≠ 0 → wp cs mX2_endPart KD Q 59 [some (vR 4), some (vR (b + 9)), some (vI l2), some (vI l3), some (vI s0), none] [vI 0] (KD, MI, ML, (GR d e nw th 1))))) ∧ (s0 ≠ 0 → wp cs mX2_endPart KD Q 59 [some (vR 4), some (vR (b + 9)), some (vI l2), some (vI l3), some (vI s0), none] [vI 1] (KD, MI, ML, (GR d e nw th 1))))) :
    wp cs mX2_endPart KD Q 31 [some (vR 4), some (vR (b + 9)), some (vI l2), some (vI l3), none, none] [vI s0] (KD, MI, ML, (GR d e nw th 1)) := by
  refine wp_istore dX2_endPart_31 (by decide) (wp_L (L' := [some (vR 4), some (vR (b + 9)), some (vI l2), some (vI l3), some (vI s0), none]) rfl ?_)
  refine wp_iload dX2_endPart_33 rfl ?_
  refine wp_if_ne (tgt := 54) dX2_endPart_35 (by decide) (fun h35 => ?_) (fun h35 => ?_)
  · replace h := h.2 h35
    refine wp_iconst dX2_endPart_54 (by decide) ?_
    refine wp_goto (tgt := 59) dX2_endPart_55 (by decide) ?_
    exact h
  · replace h := h.1 h35
    refine wp_iload_n dX2_endPart_38 rfl rfl ?_
    refine wp_if_ne (tgt := 58) dX2_endPart_39 (by decide) (fun h39 => ?_) (fun h39 => ?_)
    · replace h := h.2 h39
      refine wp_iconst dX2_endPart_58 (by decide) ?_
      exact h
    · replace h := h.1 h39
      refine wp_aload_n dX2_endPart_42 rfl rfl (by first | exact Or.inl (by decide) | exact Or.inl (by omega) | exact Or.inr (by decide) | exact Or.inr (by omega)) ?_
      refine wp_getR dX2_endPart_43 fX2_44 rfl (by decide) ?_
      refine wp_topR (x' := 2) rfl ?_
      refine wp_ldcS (k := 15) dX2_endPart_46 cX2_197 ?_
      refine wp_cVq (n := 1) (mt' := mX1_takeIf) (as := [vR 1000018]) (rest := []) _ dX2_endPart_48 lX2_50 kX1_takeIf vX1_takeIf (by decide) (by decide +kernel) rfl (Nat.le_of_ble_eq_true rfl) (by decide) rfl rfl rfl (Nat.le_of_ble_eq_true rfl) (fun hM hS => h) (fun r M' hq hM => ?_)
      obtain ⟨x48, m48, n48, rfl, rfl, h⟩ := rI_out hq
      refine wp_if_eq (tgt := 58) dX2_endPart_51 (by decide) (fun h51 => ?_) (fun h51 => ?_)
      · replace h := h.1 h51
        refine wp_iconst dX2_endPart_58 (by decide) ?_
        exact h
      · replace h := h.2 h51
        refine wp_iconst dX2_endPart_54 (by decide) ?_
        refine wp_goto (tgt := 59) dX2_endPart_55 (by decide) ?_
        exact h
theorem v_X2_endPart_59 {cs : Cs} {Q : Option AV → Mm → Prop} {MI ML : Nat → Nat → Int} {b d e nw th : Nat} {l2 l3 l4 s0 : Int} (hbd : b = 38 ∨ b = 81)
    (h : ((s0 = 0 → wp cs mX2_endPart KD Q 79 [some (vR 4), some (vR (b + 9)), some (vI l2), some (vI l3), some (vI l4), some (vI s0)] [] (KD, MI, ML, (GR d e nw th 1))) ∧ (s0 ≠ 0 → wp cs mX9_link KD (rV (GR d e nw th 1) fun m76 n76 => wp cs mX2_endPart KD Q 79 [some (vR 4), some (vR (b + 9)), some (vI l2), some (vI l3), some (vI l4), some (vI s0)] [] (KD, m76, n76, (GR d e nw th 1))) 0 (padL [vR (b + 9), vI l2, vL (ML 4 8), vL (ML 4 7)] 7) [] (KD, MI, ML, (GR d e nw th 1))))) :
    wp cs mX2_endPart KD Q 59 [some (vR 4), some (vR (b + 9)), some (vI l2), some (vI l3), some (vI l4), none] [vI s0] (KD, MI, ML, (GR d e nw th 1)) := by
  refine wp_istore dX2_endPart_59 (by decide) (wp_L (L' := [some (vR 4), some (vR (b + 9)), some (vI l2), some (vI l3), some (vI l4), some (vI s0)]) rfl ?_)
  refine wp_iload dX2_endPart_61 rfl ?_
  refine wp_if_eq (tgt := 79) dX2_endPart_63 (by decide) (fun h63 => ?_) (fun h63 => ?_)
  · replace h := h.1 h63
    exact h
  · replace h := h.2 h63
    refine wp_aload_n dX2_endPart_66 rfl rfl (by first | exact Or.inl (by decide) | exact Or.inl (by omega) | exact Or.inr (by decide) | exact Or.inr (by omega)) ?_
    refine wp_iload_n dX2_endPart_67 rfl rfl ?_
    refine wp_aload_n dX2_endPart_68 rfl rfl (by first | exact Or.inl (by decide) | exact Or.inl (by omega) | exact Or.inr (by decide) | exact Or.inr (by omega)) ?_
    refine wp_getL dX2_endPart_69 fX2_37 rfl (by decide) ?_
    refine wp_aload_n dX2_endPart_72 rfl rfl (by first | exact Or.inl (by decide) | exact Or.inl (by omega) | exact Or.inr (by decide) | exact Or.inr (by omega)) ?_
    refine wp_getL dX2_endPart_73 fX2_33 rfl (by decide) ?_
    refine wp_cVq (n := 3) (mt' := mX9_link) (as := [vI l2, vL (ML 4 8), vL (ML 4 7)]) (rest := []) _ dX2_endPart_76 lX2_199 kX9_link vX9_link (by decide) (by decide +kernel) rfl (Nat.le_of_ble_eq_true rfl) (by omega) (kdb_9 hbd) rfl rfl (Nat.le_of_ble_eq_true rfl) (fun hM hS => h) (fun r M' hq hM => ?_)
    obtain ⟨m76, n76, rfl, rfl, h⟩ := rV_out hq
    exact h
theorem v_X2_endPart_79 {cs : Cs} {Q : Option AV → Mm → Prop} {MI ML : Nat → Nat → Int} {b d e nw th : Nat} {l2 l3 l4 l5 : Int} (hbd : b = 38 ∨ b = 81)
    (h : ((l3 = 0 → ((l4 = 0 → wp cs mX2_endPart KD Q 93 [some (vR 4), some (vR (b + 9)), some (vI l2), some (vI l3), some (vI l4), some (vI l5)] [] (KD, MI, ML, (GR d e nw th 1))) ∧ (l4 ≠ 0 → ∀ m90, m90 = up2 MI 4 9 1 → wp cs mX2_endPart KD Q 93 [some (vR 4), some (vR (b + 9)), some (vI l2), some (vI l3), some (vI l4), some (vI l5)] [] (KD, m90, ML, (GR d e nw th 1))))) ∧ (l3 ≠ 0 → ∀ m90, m90 = up2 MI 4 9 1 → wp cs mX2_endPart KD Q 93 [some (vR 4), some (vR (b + 9)), some (vI l2), some (vI l3), some (vI l4), some (vI l5)] [] (KD, m90, ML, (GR d e nw th 1))))) :
    wp cs mX2_endPart KD Q 79 [some (vR 4), some (vR (b + 9)), some (vI l2), some (vI l3), some (vI l4), some (vI l5)] [] (KD, MI, ML, (GR d e nw th 1)) := by
  refine wp_iload_n dX2_endPart_79 rfl rfl ?_
  refine wp_if_ne (tgt := 88) dX2_endPart_80 (by decide) (fun h80 => ?_) (fun h80 => ?_)
  · replace h := h.2 h80
    refine wp_aload_n dX2_endPart_88 rfl rfl (by first | exact Or.inl (by decide) | exact Or.inl (by omega) | exact Or.inr (by decide) | exact Or.inr (by omega)) ?_
    refine wp_iconst dX2_endPart_89 (by decide) ?_
    refine wp_putB dX2_endPart_90 pX2_40 rfl (by decide) (by decide) ?_
    refine wp_gI (fun m90 e90 => ?_)
    replace h := h m90 e90
    exact h
  · replace h := h.1 h80
    refine wp_iload dX2_endPart_83 rfl ?_
    refine wp_if_eq (tgt := 93) dX2_endPart_85 (by decide) (fun h85 => ?_) (fun h85 => ?_)
    · replace h := h.1 h85
      exact h
    · replace h := h.2 h85
      refine wp_aload_n dX2_endPart_88 rfl rfl (by first | exact Or.inl (by decide) | exact Or.inl (by omega) | exact Or.inr (by decide) | exact Or.inr (by omega)) ?_
      refine wp_iconst dX2_endPart_89 (by decide) ?_
      refine wp_putB dX2_endPart_90 pX2_40 rfl (by decide) (by decide) ?_
      refine wp_gI (fun m90 e90 => ?_)
      replace h := h m90 e90
      exact h
theorem v_X2_endPart_93 {cs : Cs} {Q : Option AV → Mm → Prop} {MI ML : Nat → Nat → Int} {b d e nw th : Nat} {l2 l3 l4 l5 : Int} (hbd : b = 38 ∨ b = 81)
    (h : ((0 < (MI 4 6) → (-2147483648 ≤ (MI 4 6) - 1 ∧ (MI 4 6) - 1 < 2147483648) ∧ wp cs mX2_joinPart KD (rV (GR d e nw th 1) fun m109 n109 => Q none (m109, n109, (GR d e nw th 1))) 0 (padL [vR 4, vR (b + 9), vI l2, vI ((MI 4 6) - 1)] 6) [] (KD, MI, ML, (GR d e nw th 1))) ∧ ((MI 4 6) ≤ 0 → Q none (MI, ML, (GR d e nw th 1))))) :
    wp cs mX2_endPart KD Q 93 [some (vR 4), some (vR (b + 9)), some (vI l2), some (vI l3), some (vI l4), some (vI l5)] [] (KD, MI, ML, (GR d e nw th 1)) := by
  refine wp_aload_n dX2_endPart_93 rfl rfl (by first | exact Or.inl (by decide) | exact Or.inl (by omega) | exact Or.inr (by decide) | exact Or.inr (by omega)) ?_
  refine wp_getI dX2_endPart_94 fX2_29 rfl (by decide) ?_
  refine wp_if_le (tgt := 112) dX2_endPart_97 (by decide) (fun h97 => ?_) (fun h97 => ?_)
  · replace h := h.2 h97
    exact wp_vret dX2_endPart_112 rfl (fun _ => h)
  · replace h := h.1 h97
    refine wp_aload_n dX2_endPart_100 rfl rfl (by first | exact Or.inl (by decide) | exact Or.inl (by omega) | exact Or.inr (by decide) | exact Or.inr (by omega)) ?_
    refine wp_aload_n dX2_endPart_101 rfl rfl (by first | exact Or.inl (by decide) | exact Or.inl (by omega) | exact Or.inr (by decide) | exact Or.inr (by omega)) ?_
    refine wp_iload_n dX2_endPart_102 rfl rfl ?_
    refine wp_aload_n dX2_endPart_103 rfl rfl (by first | exact Or.inl (by decide) | exact Or.inl (by omega) | exact Or.inr (by decide) | exact Or.inr (by omega)) ?_
    refine wp_getI dX2_endPart_104 fX2_29 rfl (by decide) ?_
    refine wp_iconst dX2_endPart_107 (by decide) ?_
    have c0 := h.1
    replace h := h.2
    refine wp_isubr dX2_endPart_108 c0 ?_
    refine wp_pc (pc' := 109) rfl ?_
    refine wp_cVq (n := 3) (mt' := mX2_joinPart) (as := [vR (b + 9), vI l2, vI ((MI 4 6) - 1)]) (rest := []) _ dX2_endPart_109 lX2_203 kX2_joinPart vX2_joinPart (by decide) (by decide +kernel) rfl (Nat.le_of_ble_eq_true rfl) (by decide) rfl rfl rfl (Nat.le_of_ble_eq_true rfl) (fun hM hS => h) (fun r M' hq hM => ?_)
    obtain ⟨m109, n109, rfl, rfl, h⟩ := rV_out hq
    exact wp_vret dX2_endPart_112 rfl (fun _ => h)
