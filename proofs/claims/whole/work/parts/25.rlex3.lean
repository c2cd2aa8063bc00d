theorem wbl_11565 : wbl 11565 2 = [45, 45] := by decide +kernel
theorem wbl_1008807213 : wbl 1008807213 4 = [60, 33, 45, 45] := by decide +kernel
theorem stb1 {T : Nat → Int} {n h c : Int} : stb T n h [c] = true ↔ ob T n h = c := by simp [stb]
theorem stb_c {T : Nat → Int} {n h b : Int} {l : List Int} (hb : ob T n h = b) : stb T n h (b :: l) = stb T n (h + 1) l := by simp [stb, hb]
theorem cmS_eq2 {T : Nat → Int} {n h : Int} : cmS T n h = if stb T n h [45, 45] = true then (if stb T n (h + 2) [62] = true then .inr (h + 2 + 1) else .inl (-1, h + 2)) else if isCh (ob T n h) then cmS T n (h + 1) else .inl (-1, h) := by
  rw [cmS_eq]
  by_cases q : h < n
  · rw [if_pos q]
  · have e : ob T n h = -1 := ob_out (by omega)
    rw [if_neg q, if_neg (by simp [stb, e]), if_neg (by rw [e]; omega)]
theorem stb_lt {T : Nat → Int} {n h b : Int} {l : List Int} (hb : 0 ≤ b) (hs : stb T n h (b :: l) = true) : h < n := by
  by_cases q : 0 ≤ h ∧ h < n
  · exact q.2
  · simp [stb, ob_out q] at hs; omega
section P25
variable {cs : Cs} {Q : Option AV → Mm → Prop} {MI ML : Nat → Nat → Int} {d e nw th x : Nat} {a w pl sz br : Int}
theorem dX12_comment_0 : decode cX12_comment 0 = .ok (.aload_n 0, 1) := by decide +kernel
theorem dX12_comment_1 : decode cX12_comment 1 = .ok (.dup, 1) := by decide +kernel
theorem dX12_comment_2 : decode cX12_comment 2 = .ok (.getfield 276, 3) := by decide +kernel
theorem dX12_comment_5 : decode cX12_comment 5 = .ok (.iconst 4, 1) := by decide +kernel
theorem dX12_comment_6 : decode cX12_comment 6 = .ok (.iadd, 1) := by decide +kernel
theorem dX12_comment_7 : decode cX12_comment 7 = .ok (.putfield 276, 3) := by decide +kernel
theorem dX12_comment_10 : decode cX12_comment 10 = .ok (.aload_n 0, 1) := by decide +kernel
theorem dX12_comment_11 : decode cX12_comment 11 = .ok (.invokevirtual 289, 3) := by decide +kernel
theorem dX12_comment_14 : decode cX12_comment 14 = .ok (.ifCond .eq 50, 3) := by decide +kernel
theorem dX12_comment_17 : decode cX12_comment 17 = .ok (.aload_n 0, 1) := by decide +kernel
theorem dX12_comment_18 : decode cX12_comment 18 = .ok (.ldc2_w 338, 3) := by decide +kernel
theorem dX12_comment_21 : decode cX12_comment 21 = .ok (.iconst 2, 1) := by decide +kernel
theorem dX12_comment_22 : decode cX12_comment 22 = .ok (.invokevirtual 285, 3) := by decide +kernel
theorem dX12_comment_25 : decode cX12_comment 25 = .ok (.ifCond .ne 39, 3) := by decide +kernel
theorem dX12_comment_28 : decode cX12_comment 28 = .ok (.aload_n 0, 1) := by decide +kernel
theorem dX12_comment_29 : decode cX12_comment 29 = .ok (.aload_n 0, 1) := by decide +kernel
theorem dX12_comment_30 : decode cX12_comment 30 = .ok (.getfield 276, 3) := by decide +kernel
theorem dX12_comment_33 : decode cX12_comment 33 = .ok (.invokevirtual 279, 3) := by decide +kernel
theorem dX12_comment_36 : decode cX12_comment 36 = .ok (.invokestatic 313, 3) := by decide +kernel
theorem dX12_comment_39 : decode cX12_comment 39 = .ok (.ifCond .ne 12, 3) := by decide +kernel
theorem dX12_comment_42 : decode cX12_comment 42 = .ok (.aload_n 0, 1) := by decide +kernel
theorem dX12_comment_43 : decode cX12_comment 43 = .ok (.iconst (-1), 1) := by decide +kernel
theorem dX12_comment_44 : decode cX12_comment 44 = .ok (.aload_n 0, 1) := by decide +kernel
theorem dX12_comment_45 : decode cX12_comment 45 = .ok (.getfield 276, 3) := by decide +kernel
theorem dX12_comment_48 : decode cX12_comment 48 = .ok (.invokevirtual 293, 3) := by decide +kernel
theorem dX12_comment_51 : decode cX12_comment 51 = .ok (.aload_n 0, 1) := by decide +kernel
theorem dX12_comment_52 : decode cX12_comment 52 = .ok (.dup, 1) := by decide +kernel
theorem dX12_comment_53 : decode cX12_comment 53 = .ok (.getfield 276, 3) := by decide +kernel
theorem dX12_comment_56 : decode cX12_comment 56 = .ok (.iconst 1, 1) := by decide +kernel
theorem dX12_comment_57 : decode cX12_comment 57 = .ok (.iadd, 1) := by decide +kernel
theorem dX12_comment_58 : decode cX12_comment 58 = .ok (.putfield 276, 3) := by decide +kernel
theorem dX12_comment_61 : decode cX12_comment 61 = .ok (.goto (-51), 3) := by decide +kernel
theorem dX12_comment_64 : decode cX12_comment 64 = .ok (.aload_n 0, 1) := by decide +kernel
theorem dX12_comment_65 : decode cX12_comment 65 = .ok (.dup, 1) := by decide +kernel
theorem dX12_comment_66 : decode cX12_comment 66 = .ok (.getfield 276, 3) := by decide +kernel
theorem dX12_comment_69 : decode cX12_comment 69 = .ok (.iconst 2, 1) := by decide +kernel
theorem dX12_comment_70 : decode cX12_comment 70 = .ok (.iadd, 1) := by decide +kernel
theorem dX12_comment_71 : decode cX12_comment 71 = .ok (.putfield 276, 3) := by decide +kernel
theorem dX12_comment_74 : decode cX12_comment 74 = .ok (.aload_n 0, 1) := by decide +kernel
theorem dX12_comment_75 : decode cX12_comment 75 = .ok (.bipush 62, 2) := by decide +kernel
theorem dX12_comment_77 : decode cX12_comment 77 = .ok (.invokevirtual 340, 3) := by decide +kernel
theorem dX12_comment_80 : decode cX12_comment 80 = .ok (.istore_n 1, 1) := by decide +kernel
theorem dX12_comment_81 : decode cX12_comment 81 = .ok (.return_, 1) := by decide +kernel
theorem w_comment_l (hs0 : 0 ≤ MI 124 3) (hsz : MI 124 3 ≤ 6000) : ∀ (k : Nat) (g : Int), 0 ≤ g ∧ g ≤ 10010 → (MI 124 3 - g).toNat ≤ k → (∀ y, cmS (MI 126) (MI 124 3) g = .inr y → Q none (Mr MI ML d e nw th x y 0 pl sz br)) → (∀ f p g', 0 ≤ g' ∧ g' ≤ 20000 → cmS (MI 126) (MI 124 3) g = .inl (f, p) → f ≠ 0 → Q none (Mr MI ML d e nw th x g' f p sz br)) → wp cs mX12_comment KD Q 10 [some (vR 124), none] [] (KD, Mr MI ML d e nw th x g 0 pl sz br) := by
  intro k
  induction k with
  | zero =>
    intro g hg hk hT hF
    refine wp_aload_n dX12_comment_10 rfl rfl (by first | exact Or.inl (by decide) | exact Or.inl (by omega) | exact Or.inr (by decide) | exact Or.inr (by omega)) ?_
    refine wp_cV (n := 0) (mt' := mX12_isGood) (as := []) (rest := []) (some (vI 1)) ((rs MI g 0 pl sz br), ML, (GR d e nw th x)) dX12_comment_11 lX12_289 kX12_isGood vX12_isGood (by decide) (by decide +kernel) rfl (Nat.le_of_ble_eq_true rfl) (by decide) rfl rfl rfl (Nat.le_of_ble_eq_true rfl) (fun hM hS Q' hq => w_X12_isGood hq) (fun hM => ?_)
    refine wp_if_eq (tgt := 64) dX12_comment_14 (by decide) (fun q => absurd q (by decide)) (fun _ => ?_)
    refine wp_aload_n dX12_comment_17 rfl rfl (by first | exact Or.inl (by decide) | exact Or.inl (by omega) | exact Or.inr (by decide) | exact Or.inr (by omega)) ?_
    refine wp_ldc2 (x := 11565) dX12_comment_18 cX12_338 (by decide) ?_
    refine wp_iconst dX12_comment_21 (by decide) ?_
    refine wp_cVq (n := 2) (mt' := mX12_stands) (as := [vL 11565, vI 2]) (rest := []) (fun r M' => (stb (MI 126) (MI 124 3) g [45, 45] = true ∧ r = some (vI 1) ∧ M' = Mr MI ML d e nw th x g 0 pl sz br) ∨ (stb (MI 126) (MI 124 3) g [45, 45] = false ∧ r = some (vI 0) ∧ M' = Mr MI ML d e nw th x g 0 pl sz br)) dX12_comment_22 lX12_285 kX12_stands vX12_stands (by decide) (by decide +kernel) rfl (Nat.le_of_ble_eq_true rfl) (by decide) rfl rfl rfl (Nat.le_of_ble_eq_true rfl) (fun hM hS => w_X12_stands (z := 11565) (n := 2) (by decide) hs0 hsz (by omega) (fun hs => Or.inl ⟨by rw [← wbl_11565]; exact hs, rfl, rfl⟩) (fun hs => Or.inr ⟨by rw [← wbl_11565]; exact hs, rfl, rfl⟩)) (fun r M' hq hM => ?_)
    rcases hq with ⟨h22, rfl, rfl⟩ | ⟨h22, rfl, rfl⟩
    · refine wp_if_ne (tgt := 64) dX12_comment_25 (by decide) (fun _ => ?_) (fun q => absurd q (by decide))
      refine wp_aload_n dX12_comment_64 rfl rfl (by first | exact Or.inl (by decide) | exact Or.inl (by omega) | exact Or.inr (by decide) | exact Or.inr (by omega)) ?_
      refine wp_dup dX12_comment_65 (fun x e => by cases e) ?_
      refine wp_getI dX12_comment_66 fX12_276 rfl (by decide) ?_
      refine wp_topI (x' := g) rfl ?_
      refine wp_iconst dX12_comment_69 (by decide) ?_
      refine wp_iaddr dX12_comment_70 (by omega) ?_
      refine wp_putI dX12_comment_71 pX12_276 rfl (by decide) ?_
      refine wp_M (M' := ((rs MI (g + 2) 0 pl sz br), ML, (GR d e nw th x))) (by rw [rs_4]) ?_
      refine wp_pc (pc' := 74) rfl ?_
      refine wp_aload_n dX12_comment_74 rfl rfl (by first | exact Or.inl (by decide) | exact Or.inl (by omega) | exact Or.inr (by decide) | exact Or.inr (by omega)) ?_
      refine wp_bipush dX12_comment_75 (by decide +kernel) (by decide) ?_
      refine wp_cVq (n := 1) (mt' := mX12_passes) (as := [vI 62]) (rest := []) (fun r M' => (ob (MI 126) (MI 124 3) (g + 2) = 62 ∧ r = some (vI 1) ∧ M' = Mr MI ML d e nw th x ((g + 2) + 1) 0 pl sz br) ∨ (ob (MI 126) (MI 124 3) (g + 2) ≠ 62 ∧ r = some (vI 0) ∧ M' = Mr MI ML d e nw th x (g + 2) (-1) (g + 2) sz br)) dX12_comment_77 lX12_340 kX12_passes vX12_passes (by decide) (by decide +kernel) rfl (Nat.le_of_ble_eq_true rfl) (by decide) rfl rfl rfl (Nat.le_of_ble_eq_true rfl) (fun hM hS => w_passes_g hs0 hsz (by omega) (fun hs => Or.inl ⟨hs, rfl, rfl⟩) (fun hs => Or.inr ⟨hs, rfl, rfl⟩)) (fun r M' hq hM => ?_)
      rcases hq with ⟨h77, rfl, rfl⟩ | ⟨h77, rfl, rfl⟩
      · refine wp_istore_n dX12_comment_80 rfl (by decide) (wp_L (L' := [some (vR 124), some (vI 1)]) rfl ?_)
        exact wp_vret dX12_comment_81 rfl (fun _ => hT _ (by rw [cmS_eq2, if_pos h22, if_pos (stb1.mpr h77)]))
      · refine wp_istore_n dX12_comment_80 rfl (by decide) (wp_L (L' := [some (vR 124), some (vI 0)]) rfl ?_)
        exact wp_vret dX12_comment_81 rfl (fun _ => hF _ _ _ (by omega) (by rw [cmS_eq2, if_pos h22, if_neg (fun q => h77 (stb1.mp q))]) (by decide))
    · refine wp_if_ne (tgt := 64) dX12_comment_25 (by decide) (fun q => absurd q (by decide)) (fun _ => ?_)
      refine wp_aload_n dX12_comment_28 rfl rfl (by first | exact Or.inl (by decide) | exact Or.inl (by omega) | exact Or.inr (by decide) | exact Or.inr (by omega)) ?_
      refine wp_aload_n dX12_comment_29 rfl rfl (by first | exact Or.inl (by decide) | exact Or.inl (by omega) | exact Or.inr (by decide) | exact Or.inr (by omega)) ?_
      refine wp_getI dX12_comment_30 fX12_276 rfl (by decide) ?_
      refine wp_topI (x' := g) rfl ?_
      refine wp_cV (n := 1) (mt' := mX12_octet) (as := [vI g]) (rest := []) (some (vI ((ob (MI 126) (MI 124 3) g)))) ((rs MI g 0 pl sz br), ML, (GR d e nw th x)) dX12_comment_33 lX12_279 kX12_octet vX12_octet (by decide) (by decide +kernel) rfl (Nat.le_of_ble_eq_true rfl) (by decide) rfl rfl rfl (Nat.le_of_ble_eq_true rfl) (fun hM hS Q' hq => w_X12_octet hs0 hsz (by first | assumption | omega) hq) (fun hM => ?_)
      refine wp_cS (n := 1) (mt' := mX12_isChar) (as := [vI ((ob (MI 126) (MI 124 3) g))]) (rest := []) (some (vI ((bI (isCh (ob (MI 126) (MI 124 3) g)))))) ((rs MI g 0 pl sz br), ML, (GR d e nw th x)) dX12_comment_36 lX12_313 kX12_isChar vX12_isChar (by decide) (by decide +kernel) rfl (Nat.le_of_ble_eq_true rfl) rfl (Nat.le_of_ble_eq_true rfl) (fun hM hS Q' hq => w_X12_isChar hq) (fun hM => ?_)
      by_cases h36 : isCh (ob (MI 126) (MI 124 3) g)
      · refine wp_topI (x' := 1) (if_pos h36) ?_
        refine wp_if_ne (tgt := 51) dX12_comment_39 (by decide) (fun _ => ?_) (fun q => absurd q (by decide))
        refine wp_aload_n dX12_comment_51 rfl rfl (by first | exact Or.inl (by decide) | exact Or.inl (by omega) | exact Or.inr (by decide) | exact Or.inr (by omega)) ?_
        refine wp_dup dX12_comment_52 (fun x e => by cases e) ?_
        refine wp_getI dX12_comment_53 fX12_276 rfl (by decide) ?_
        refine wp_topI (x' := g) rfl ?_
        refine wp_iconst dX12_comment_56 (by decide) ?_
        refine wp_iaddr dX12_comment_57 (by omega) ?_
        refine wp_putI dX12_comment_58 pX12_276 rfl (by decide) ?_
        refine wp_M (M' := ((rs MI (g + 1) 0 pl sz br), ML, (GR d e nw th x))) (by rw [rs_4]) ?_
        refine wp_pc (pc' := 61) rfl ?_
        refine wp_goto (tgt := 10) dX12_comment_61 (by decide) ?_
        exfalso; have := isCh_lt h36; omega
      · refine wp_topI (x' := 0) (if_neg h36) ?_
        refine wp_if_ne (tgt := 51) dX12_comment_39 (by decide) (fun q => absurd q (by decide)) (fun _ => ?_)
        refine wp_aload_n dX12_comment_42 rfl rfl (by first | exact Or.inl (by decide) | exact Or.inl (by omega) | exact Or.inr (by decide) | exact Or.inr (by omega)) ?_
        refine wp_iconst dX12_comment_43 (by decide) ?_
        refine wp_aload_n dX12_comment_44 rfl rfl (by first | exact Or.inl (by decide) | exact Or.inl (by omega) | exact Or.inr (by decide) | exact Or.inr (by omega)) ?_
        refine wp_getI dX12_comment_45 fX12_276 rfl (by decide) ?_
        refine wp_topI (x' := g) rfl ?_
        refine wp_cV (n := 2) (mt' := mX12_fail) (as := [vI ((-1)), vI g]) (rest := []) none ((rs MI g (-1) g sz br), ML, (GR d e nw th x)) dX12_comment_48 lX12_293 kX12_fail vX12_fail (by decide) (by decide +kernel) rfl (Nat.le_of_ble_eq_true rfl) (by decide) rfl rfl rfl (Nat.le_of_ble_eq_true rfl) (fun hM hS Q' hq => w_X12_fail (fun _ => hq) (fun q => absurd rfl q)) (fun hM => ?_)
        refine wp_aload_n dX12_comment_51 rfl rfl (by first | exact Or.inl (by decide) | exact Or.inl (by omega) | exact Or.inr (by decide) | exact Or.inr (by omega)) ?_
        refine wp_pc (pc' := 52) rfl ?_
        refine wp_dup dX12_comment_52 (fun x e => by cases e) ?_
        refine wp_getI dX12_comment_53 fX12_276 rfl (by decide) ?_
        refine wp_topI (x' := g) rfl ?_
        refine wp_iconst dX12_comment_56 (by decide) ?_
        refine wp_iaddr dX12_comment_57 (by omega) ?_
        refine wp_putI dX12_comment_58 pX12_276 rfl (by decide) ?_
        refine wp_M (M' := ((rs MI (g + 1) (-1) g sz br), ML, (GR d e nw th x))) (by rw [rs_4]) ?_
        refine wp_goto (tgt := 10) dX12_comment_61 (by decide) ?_
        refine wp_aload_n dX12_comment_10 rfl rfl (by first | exact Or.inl (by decide) | exact Or.inl (by omega) | exact Or.inr (by decide) | exact Or.inr (by omega)) ?_
        refine wp_cV (n := 0) (mt' := mX12_isGood) (as := []) (rest := []) (some (vI 0)) ((rs MI (g + 1) (-1) g sz br), ML, (GR d e nw th x)) dX12_comment_11 lX12_289 kX12_isGood vX12_isGood (by decide) (by decide +kernel) rfl (Nat.le_of_ble_eq_true rfl) (by decide) rfl rfl rfl (Nat.le_of_ble_eq_true rfl) (fun hM hS Q' hq => w_X12_isGood hq) (fun hM => ?_)
        refine wp_if_eq (tgt := 64) dX12_comment_14 (by decide) (fun _ => ?_) (fun q => absurd q (by decide))
        refine wp_aload_n dX12_comment_64 rfl rfl (by first | exact Or.inl (by decide) | exact Or.inl (by omega) | exact Or.inr (by decide) | exact Or.inr (by omega)) ?_
        refine wp_dup dX12_comment_65 (fun x e => by cases e) ?_
        refine wp_getI dX12_comment_66 fX12_276 rfl (by decide) ?_
        refine wp_topI (x' := (g + 1)) rfl ?_
        refine wp_iconst dX12_comment_69 (by decide) ?_
        refine wp_pc (pc' := 70) rfl ?_
        refine wp_iaddr dX12_comment_70 (by omega) ?_
        refine wp_putI dX12_comment_71 pX12_276 rfl (by decide) ?_
        refine wp_M (M' := ((rs MI ((g + 1) + 2) (-1) g sz br), ML, (GR d e nw th x))) (by rw [rs_4]) ?_
        refine wp_aload_n dX12_comment_74 rfl rfl (by first | exact Or.inl (by decide) | exact Or.inl (by omega) | exact Or.inr (by decide) | exact Or.inr (by omega)) ?_
        refine wp_bipush dX12_comment_75 (by decide +kernel) (by decide) ?_
        refine wp_cV (n := 1) (mt' := mX12_passes) (as := [vI 62]) (rest := []) (some (vI 0)) ((rs MI ((g + 1) + 2) (-1) g sz br), ML, (GR d e nw th x)) dX12_comment_77 lX12_340 kX12_passes vX12_passes (by decide) (by decide +kernel) rfl (Nat.le_of_ble_eq_true rfl) (by decide) rfl rfl rfl (Nat.le_of_ble_eq_true rfl) (fun hM hS Q' hq => w_passes_b (by first | assumption | decide) (by omega) hq) (fun hM => ?_)
        refine wp_istore_n dX12_comment_80 rfl (by decide) (wp_L (L' := [some (vR 124), some (vI 0)]) rfl ?_)
        exact wp_vret dX12_comment_81 rfl (fun _ => hF _ _ _ (by omega) (by rw [cmS_eq2, if_neg (by rw [h22]; decide), if_neg h36]) (by decide))
  | succ k ih =>
    intro g hg hk hT hF
    refine wp_aload_n dX12_comment_10 rfl rfl (by first | exact Or.inl (by decide) | exact Or.inl (by omega) | exact Or.inr (by decide) | exact Or.inr (by omega)) ?_
    refine wp_cV (n := 0) (mt' := mX12_isGood) (as := []) (rest := []) (some (vI 1)) ((rs MI g 0 pl sz br), ML, (GR d e nw th x)) dX12_comment_11 lX12_289 kX12_isGood vX12_isGood (by decide) (by decide +kernel) rfl (Nat.le_of_ble_eq_true rfl) (by decide) rfl rfl rfl (Nat.le_of_ble_eq_true rfl) (fun hM hS Q' hq => w_X12_isGood hq) (fun hM => ?_)
    refine wp_if_eq (tgt := 64) dX12_comment_14 (by decide) (fun q => absurd q (by decide)) (fun _ => ?_)
    refine wp_aload_n dX12_comment_17 rfl rfl (by first | exact Or.inl (by decide) | exact Or.inl (by omega) | exact Or.inr (by decide) | exact Or.inr (by omega)) ?_
    refine wp_ldc2 (x := 11565) dX12_comment_18 cX12_338 (by decide) ?_
    refine wp_iconst dX12_comment_21 (by decide) ?_
    refine wp_cVq (n := 2) (mt' := mX12_stands) (as := [vL 11565, vI 2]) (rest := []) (fun r M' => (stb (MI 126) (MI 124 3) g [45, 45] = true ∧ r = some (vI 1) ∧ M' = Mr MI ML d e nw th x g 0 pl sz br) ∨ (stb (MI 126) (MI 124 3) g [45, 45] = false ∧ r = some (vI 0) ∧ M' = Mr MI ML d e nw th x g 0 pl sz br)) dX12_comment_22 lX12_285 kX12_stands vX12_stands (by decide) (by decide +kernel) rfl (Nat.le_of_ble_eq_true rfl) (by decide) rfl rfl rfl (Nat.le_of_ble_eq_true rfl) (fun hM hS => w_X12_stands (z := 11565) (n := 2) (by decide) hs0 hsz (by omega) (fun hs => Or.inl ⟨by rw [← wbl_11565]; exact hs, rfl, rfl⟩) (fun hs => Or.inr ⟨by rw [← wbl_11565]; exact hs, rfl, rfl⟩)) (fun r M' hq hM => ?_)
    rcases hq with ⟨h22, rfl, rfl⟩ | ⟨h22, rfl, rfl⟩
    · refine wp_if_ne (tgt := 64) dX12_comment_25 (by decide) (fun _ => ?_) (fun q => absurd q (by decide))
      refine wp_aload_n dX12_comment_64 rfl rfl (by first | exact Or.inl (by decide) | exact Or.inl (by omega) | exact Or.inr (by decide) | exact Or.inr (by omega)) ?_
      refine wp_dup dX12_comment_65 (fun x e => by cases e) ?_
      refine wp_getI dX12_comment_66 fX12_276 rfl (by decide) ?_
      refine wp_topI (x' := g) rfl ?_
      refine wp_iconst dX12_comment_69 (by decide) ?_
      refine wp_iaddr dX12_comment_70 (by omega) ?_
      refine wp_putI dX12_comment_71 pX12_276 rfl (by decide) ?_
      refine wp_M (M' := ((rs MI (g + 2) 0 pl sz br), ML, (GR d e nw th x))) (by rw [rs_4]) ?_
      refine wp_pc (pc' := 74) rfl ?_
      refine wp_aload_n dX12_comment_74 rfl rfl (by first | exact Or.inl (by decide) | exact Or.inl (by omega) | exact Or.inr (by decide) | exact Or.inr (by omega)) ?_
      refine wp_bipush dX12_comment_75 (by decide +kernel) (by decide) ?_
      refine wp_cVq (n := 1) (mt' := mX12_passes) (as := [vI 62]) (rest := []) (fun r M' => (ob (MI 126) (MI 124 3) (g + 2) = 62 ∧ r = some (vI 1) ∧ M' = Mr MI ML d e nw th x ((g + 2) + 1) 0 pl sz br) ∨ (ob (MI 126) (MI 124 3) (g + 2) ≠ 62 ∧ r = some (vI 0) ∧ M' = Mr MI ML d e nw th x (g + 2) (-1) (g + 2) sz br)) dX12_comment_77 lX12_340 kX12_passes vX12_passes (by decide) (by decide +kernel) rfl (Nat.le_of_ble_eq_true rfl) (by decide) rfl rfl rfl (Nat.le_of_ble_eq_true rfl) (fun hM hS => w_passes_g hs0 hsz (by omega) (fun hs => Or.inl ⟨hs, rfl, rfl⟩) (fun hs => Or.inr ⟨hs, rfl, rfl⟩)) (fun r M' hq hM => ?_)
      rcases hq with ⟨h77, rfl, rfl⟩ | ⟨h77, rfl, rfl⟩
      · refine wp_istore_n dX12_comment_80 rfl (by decide) (wp_L (L' := [some (vR 124), some (vI 1)]) rfl ?_)
        exact wp_vret dX12_comment_81 rfl (fun _ => hT _ (by rw [cmS_eq2, if_pos h22, if_pos (stb1.mpr h77)]))
      · refine wp_istore_n dX12_comment_80 rfl (by decide) (wp_L (L' := [some (vR 124), some (vI 0)]) rfl ?_)
        exact wp_vret dX12_comment_81 rfl (fun _ => hF _ _ _ (by omega) (by rw [cmS_eq2, if_pos h22, if_neg (fun q => h77 (stb1.mp q))]) (by decide))
    · refine wp_if_ne (tgt := 64) dX12_comment_25 (by decide) (fun q => absurd q (by decide)) (fun _ => ?_)
      refine wp_aload_n dX12_comment_28 rfl rfl (by first | exact Or.inl (by decide) | exact Or.inl (by omega) | exact Or.inr (by decide) | exact Or.inr (by omega)) ?_
      refine wp_aload_n dX12_comment_29 rfl rfl (by first | exact Or.inl (by decide) | exact Or.inl (by omega) | exact Or.inr (by decide) | exact Or.inr (by omega)) ?_
      refine wp_getI dX12_comment_30 fX12_276 rfl (by decide) ?_
      refine wp_topI (x' := g) rfl ?_
      refine wp_cV (n := 1) (mt' := mX12_octet) (as := [vI g]) (rest := []) (some (vI ((ob (MI 126) (MI 124 3) g)))) ((rs MI g 0 pl sz br), ML, (GR d e nw th x)) dX12_comment_33 lX12_279 kX12_octet vX12_octet (by decide) (by decide +kernel) rfl (Nat.le_of_ble_eq_true rfl) (by decide) rfl rfl rfl (Nat.le_of_ble_eq_true rfl) (fun hM hS Q' hq => w_X12_octet hs0 hsz (by first | assumption | omega) hq) (fun hM => ?_)
      refine wp_cS (n := 1) (mt' := mX12_isChar) (as := [vI ((ob (MI 126) (MI 124 3) g))]) (rest := []) (some (vI ((bI (isCh (ob (MI 126) (MI 124 3) g)))))) ((rs MI g 0 pl sz br), ML, (GR d e nw th x)) dX12_comment_36 lX12_313 kX12_isChar vX12_isChar (by decide) (by decide +kernel) rfl (Nat.le_of_ble_eq_true rfl) rfl (Nat.le_of_ble_eq_true rfl) (fun hM hS Q' hq => w_X12_isChar hq) (fun hM => ?_)
      by_cases h36 : isCh (ob (MI 126) (MI 124 3) g)
      · refine wp_topI (x' := 1) (if_pos h36) ?_
        refine wp_if_ne (tgt := 51) dX12_comment_39 (by decide) (fun _ => ?_) (fun q => absurd q (by decide))
        refine wp_aload_n dX12_comment_51 rfl rfl (by first | exact Or.inl (by decide) | exact Or.inl (by omega) | exact Or.inr (by decide) | exact Or.inr (by omega)) ?_
        refine wp_dup dX12_comment_52 (fun x e => by cases e) ?_
        refine wp_getI dX12_comment_53 fX12_276 rfl (by decide) ?_
        refine wp_topI (x' := g) rfl ?_
        refine wp_iconst dX12_comment_56 (by decide) ?_
        refine wp_iaddr dX12_comment_57 (by omega) ?_
        refine wp_putI dX12_comment_58 pX12_276 rfl (by decide) ?_
        refine wp_M (M' := ((rs MI (g + 1) 0 pl sz br), ML, (GR d e nw th x))) (by rw [rs_4]) ?_
        refine wp_pc (pc' := 61) rfl ?_
        refine wp_goto (tgt := 10) dX12_comment_61 (by decide) ?_
        have hlt := isCh_lt h36; exact ih (g + 1) (by omega) (by omega) (fun y hy => hT y (by rw [cmS_eq2, if_neg (by rw [h22]; decide), if_pos h36]; exact hy)) (fun f p g' hb hy => hF f p g' hb (by rw [cmS_eq2, if_neg (by rw [h22]; decide), if_pos h36]; exact hy))
      · refine wp_topI (x' := 0) (if_neg h36) ?_
        refine wp_if_ne (tgt := 51) dX12_comment_39 (by decide) (fun q => absurd q (by decide)) (fun _ => ?_)
        refine wp_aload_n dX12_comment_42 rfl rfl (by first | exact Or.inl (by decide) | exact Or.inl (by omega) | exact Or.inr (by decide) | exact Or.inr (by omega)) ?_
        refine wp_iconst dX12_comment_43 (by decide) ?_
        refine wp_aload_n dX12_comment_44 rfl rfl (by first | exact Or.inl (by decide) | exact Or.inl (by omega) | exact Or.inr (by decide) | exact Or.inr (by omega)) ?_
        refine wp_getI dX12_comment_45 fX12_276 rfl (by decide) ?_
        refine wp_topI (x' := g) rfl ?_
        refine wp_cV (n := 2) (mt' := mX12_fail) (as := [vI ((-1)), vI g]) (rest := []) none ((rs MI g (-1) g sz br), ML, (GR d e nw th x)) dX12_comment_48 lX12_293 kX12_fail vX12_fail (by decide) (by decide +kernel) rfl (Nat.le_of_ble_eq_true rfl) (by decide) rfl rfl rfl (Nat.le_of_ble_eq_true rfl) (fun hM hS Q' hq => w_X12_fail (fun _ => hq) (fun q => absurd rfl q)) (fun hM => ?_)
        refine wp_aload_n dX12_comment_51 rfl rfl (by first | exact Or.inl (by decide) | exact Or.inl (by omega) | exact Or.inr (by decide) | exact Or.inr (by omega)) ?_
        refine wp_pc (pc' := 52) rfl ?_
        refine wp_dup dX12_comment_52 (fun x e => by cases e) ?_
        refine wp_getI dX12_comment_53 fX12_276 rfl (by decide) ?_
        refine wp_topI (x' := g) rfl ?_
        refine wp_iconst dX12_comment_56 (by decide) ?_
        refine wp_iaddr dX12_comment_57 (by omega) ?_
        refine wp_putI dX12_comment_58 pX12_276 rfl (by decide) ?_
        refine wp_M (M' := ((rs MI (g + 1) (-1) g sz br), ML, (GR d e nw th x))) (by rw [rs_4]) ?_
        refine wp_goto (tgt := 10) dX12_comment_61 (by decide) ?_
        refine wp_aload_n dX12_comment_10 rfl rfl (by first | exact Or.inl (by decide) | exact Or.inl (by omega) | exact Or.inr (by decide) | exact Or.inr (by omega)) ?_
        refine wp_cV (n := 0) (mt' := mX12_isGood) (as := []) (rest := []) (some (vI 0)) ((rs MI (g + 1) (-1) g sz br), ML, (GR d e nw th x)) dX12_comment_11 lX12_289 kX12_isGood vX12_isGood (by decide) (by decide +kernel) rfl (Nat.le_of_ble_eq_true rfl) (by decide) rfl rfl rfl (Nat.le_of_ble_eq_true rfl) (fun hM hS Q' hq => w_X12_isGood hq) (fun hM => ?_)
        refine wp_if_eq (tgt := 64) dX12_comment_14 (by decide) (fun _ => ?_) (fun q => absurd q (by decide))
        refine wp_aload_n dX12_comment_64 rfl rfl (by first | exact Or.inl (by decide) | exact Or.inl (by omega) | exact Or.inr (by decide) | exact Or.inr (by omega)) ?_
        refine wp_dup dX12_comment_65 (fun x e => by cases e) ?_
        refine wp_getI dX12_comment_66 fX12_276 rfl (by decide) ?_
        refine wp_topI (x' := (g + 1)) rfl ?_
        refine wp_iconst dX12_comment_69 (by decide) ?_
        refine wp_pc (pc' := 70) rfl ?_
        refine wp_iaddr dX12_comment_70 (by omega) ?_
        refine wp_putI dX12_comment_71 pX12_276 rfl (by decide) ?_
        refine wp_M (M' := ((rs MI ((g + 1) + 2) (-1) g sz br), ML, (GR d e nw th x))) (by rw [rs_4]) ?_
        refine wp_aload_n dX12_comment_74 rfl rfl (by first | exact Or.inl (by decide) | exact Or.inl (by omega) | exact Or.inr (by decide) | exact Or.inr (by omega)) ?_
        refine wp_bipush dX12_comment_75 (by decide +kernel) (by decide) ?_
        refine wp_cV (n := 1) (mt' := mX12_passes) (as := [vI 62]) (rest := []) (some (vI 0)) ((rs MI ((g + 1) + 2) (-1) g sz br), ML, (GR d e nw th x)) dX12_comment_77 lX12_340 kX12_passes vX12_passes (by decide) (by decide +kernel) rfl (Nat.le_of_ble_eq_true rfl) (by decide) rfl rfl rfl (Nat.le_of_ble_eq_true rfl) (fun hM hS Q' hq => w_passes_b (by first | assumption | decide) (by omega) hq) (fun hM => ?_)
        refine wp_istore_n dX12_comment_80 rfl (by decide) (wp_L (L' := [some (vR 124), some (vI 0)]) rfl ?_)
        exact wp_vret dX12_comment_81 rfl (fun _ => hF _ _ _ (by omega) (by rw [cmS_eq2, if_neg (by rw [h22]; decide), if_neg h36]) (by decide))
theorem w_comment_g (hs0 : 0 ≤ MI 124 3) (hsz : MI 124 3 ≤ 6000) (ha : 0 ≤ a ∧ a ≤ 10000) (hT : ∀ y, cmS (MI 126) (MI 124 3) (a + 4) = .inr y → Q none (Mr MI ML d e nw th x y 0 pl sz br)) (hF : ∀ f p g, 0 ≤ g ∧ g ≤ 20000 → cmS (MI 126) (MI 124 3) (a + 4) = .inl (f, p) → f ≠ 0 → Q none (Mr MI ML d e nw th x g f p sz br)) : wp cs mX12_comment KD Q 0 (padL [vR 124] 2) [] (KD, Mr MI ML d e nw th x a 0 pl sz br) := by
  refine wp_L (L' := [some (vR 124), none]) rfl ?_
  refine wp_aload_n dX12_comment_0 rfl rfl (by first | exact Or.inl (by decide) | exact Or.inl (by omega) | exact Or.inr (by decide) | exact Or.inr (by omega)) ?_
  refine wp_dup dX12_comment_1 (fun x e => by cases e) ?_
  refine wp_getI dX12_comment_2 fX12_276 rfl (by decide) ?_
  refine wp_topI (x' := a) rfl ?_
  refine wp_iconst dX12_comment_5 (by decide) ?_
  refine wp_iaddr dX12_comment_6 (by omega) ?_
  refine wp_putI dX12_comment_7 pX12_276 rfl (by decide) ?_
  refine wp_M (M' := ((rs MI (a + 4) 0 pl sz br), ML, (GR d e nw th x))) (by rw [rs_4]) ?_
  exact w_comment_l hs0 hsz _ (a + 4) (by omega) (Nat.le_refl _) hT hF
theorem dX12_misc_0 : decode cX12_misc 0 = .ok (.aload_n 0, 1) := by decide +kernel
theorem dX12_misc_1 : decode cX12_misc 1 = .ok (.invokevirtual 300, 3) := by decide +kernel
theorem dX12_misc_4 : decode cX12_misc 4 = .ok (.aload_n 0, 1) := by decide +kernel
theorem dX12_misc_5 : decode cX12_misc 5 = .ok (.invokevirtual 289, 3) := by decide +kernel
theorem dX12_misc_8 : decode cX12_misc 8 = .ok (.ifCond .eq 25, 3) := by decide +kernel
theorem dX12_misc_11 : decode cX12_misc 11 = .ok (.aload_n 0, 1) := by decide +kernel
theorem dX12_misc_12 : decode cX12_misc 12 = .ok (.ldc2_w 343, 3) := by decide +kernel
theorem dX12_misc_15 : decode cX12_misc 15 = .ok (.iconst 4, 1) := by decide +kernel
theorem dX12_misc_16 : decode cX12_misc 16 = .ok (.invokevirtual 285, 3) := by decide +kernel
theorem dX12_misc_19 : decode cX12_misc 19 = .ok (.ifCond .eq 14, 3) := by decide +kernel
theorem dX12_misc_22 : decode cX12_misc 22 = .ok (.aload_n 0, 1) := by decide +kernel
theorem dX12_misc_23 : decode cX12_misc 23 = .ok (.invokevirtual 345, 3) := by decide +kernel
theorem dX12_misc_26 : decode cX12_misc 26 = .ok (.aload_n 0, 1) := by decide +kernel
theorem dX12_misc_27 : decode cX12_misc 27 = .ok (.invokevirtual 300, 3) := by decide +kernel
theorem dX12_misc_30 : decode cX12_misc 30 = .ok (.goto (-26), 3) := by decide +kernel
theorem dX12_misc_33 : decode cX12_misc 33 = .ok (.return_, 1) := by decide +kernel
theorem cmF_le (T : Nat → Int) (n : Int) : ∀ (k : Nat) (h y : Int), 0 ≤ h → cmF T n k h = .inr y → h + 3 ≤ y ∧ y ≤ n
  | 0, h, y, _, hy => by simp [cmF] at hy
  | k + 1, h, y, h0, hy => by
    unfold cmF at hy
    split at hy
    · split at hy
      · split at hy
        · rename_i q1 q2 q3
          have := Sum.inr.inj hy
          have := stb_lt (by decide) q3
          omega
        · cases hy
      · split at hy
        · have := cmF_le T n k (h + 1) y (by omega) hy; omega
        · cases hy
    · cases hy
theorem cmS_le {T : Nat → Int} {n h y : Int} (h0 : 0 ≤ h) (hy : cmS T n h = .inr y) : h + 3 ≤ y ∧ y ≤ n := cmF_le T n _ h y h0 hy
theorem w_misc_l (hs0 : 0 ≤ MI 124 3) (hsz : MI 124 3 ≤ 6000) : ∀ (k : Nat) (a : Int), 0 ≤ a ∧ a ≤ 6000 → (MI 124 3 - a).toNat ≤ k → (∀ y, mcF (MI 126) (MI 124 3) k a = .inr y → Q none (Mr MI ML d e nw th x y 0 pl sz br)) → (∀ f p g, 0 ≤ g ∧ g ≤ 20000 → mcF (MI 126) (MI 124 3) k a = .inl (f, p) → f ≠ 0 → Q none (Mr MI ML d e nw th x g f p sz br)) → wp cs mX12_misc KD Q 4 [some (vR 124)] [] (KD, Mr MI ML d e nw th x (sk (MI 126) (MI 124 3) a) 0 pl sz br) := by
  intro k
  induction k with
  | zero =>
    intro a ha hk hT hF
    have hsk : sk (MI 126) (MI 124 3) a = a := by rw [sk_eq, if_neg (by omega)]
    have hob : ob (MI 126) (MI 124 3) a = -1 := ob_out (by omega)
    have hb0 : 0 ≤ sk (MI 126) (MI 124 3) a ∧ sk (MI 126) (MI 124 3) a ≤ 6000 := by omega
    refine wp_aload_n dX12_misc_4 rfl rfl (by first | exact Or.inl (by decide) | exact Or.inl (by omega) | exact Or.inr (by decide) | exact Or.inr (by omega)) ?_
    refine wp_cV (n := 0) (mt' := mX12_isGood) (as := []) (rest := []) (some (vI 1)) ((rs MI (sk (MI 126) (MI 124 3) a) 0 pl sz br), ML, (GR d e nw th x)) dX12_misc_5 lX12_289 kX12_isGood vX12_isGood (by decide) (by decide +kernel) rfl (Nat.le_of_ble_eq_true rfl) (by decide) rfl rfl rfl (Nat.le_of_ble_eq_true rfl) (fun hM hS Q' hq => w_X12_isGood hq) (fun hM => ?_)
    refine wp_if_eq (tgt := 33) dX12_misc_8 (by decide) (fun q => absurd q (by decide)) (fun _ => ?_)
    refine wp_aload_n dX12_misc_11 rfl rfl (by first | exact Or.inl (by decide) | exact Or.inl (by omega) | exact Or.inr (by decide) | exact Or.inr (by omega)) ?_
    refine wp_ldc2 (x := 1008807213) dX12_misc_12 cX12_343 (by decide) ?_
    refine wp_iconst dX12_misc_15 (by decide) ?_
    refine wp_cVq (n := 2) (mt' := mX12_stands) (as := [vL 1008807213, vI 4]) (rest := []) (fun r M' => (stb (MI 126) (MI 124 3) (sk (MI 126) (MI 124 3) a) [60, 33, 45, 45] = true ∧ r = some (vI 1) ∧ M' = Mr MI ML d e nw th x (sk (MI 126) (MI 124 3) a) 0 pl sz br) ∨ (stb (MI 126) (MI 124 3) (sk (MI 126) (MI 124 3) a) [60, 33, 45, 45] = false ∧ r = some (vI 0) ∧ M' = Mr MI ML d e nw th x (sk (MI 126) (MI 124 3) a) 0 pl sz br)) dX12_misc_16 lX12_285 kX12_stands vX12_stands (by decide) (by decide +kernel) rfl (Nat.le_of_ble_eq_true rfl) (by decide) rfl rfl rfl (Nat.le_of_ble_eq_true rfl) (fun hM hS => w_X12_stands (z := 1008807213) (n := 4) (by decide) hs0 hsz (by omega) (fun hs => Or.inl ⟨by rw [← wbl_1008807213]; exact hs, rfl, rfl⟩) (fun hs => Or.inr ⟨by rw [← wbl_1008807213]; exact hs, rfl, rfl⟩)) (fun r M' hq hM => ?_)
    rcases hq with ⟨h16, rfl, rfl⟩ | ⟨h16, rfl, rfl⟩
    · refine wp_if_eq (tgt := 33) dX12_misc_19 (by decide) (fun q => absurd q (by decide)) (fun _ => ?_)
      exfalso; rw [hsk] at h16; have := stb_lt (by decide) h16; omega
    · refine wp_if_eq (tgt := 33) dX12_misc_19 (by decide) (fun _ => ?_) (fun q => absurd q (by decide))
      exact wp_vret dX12_misc_33 rfl (fun _ => hT _ (by rw [mcF, hsk]))
  | succ k0 ih =>
    intro a ha hk hT hF
    have hsk := sk_le (MI 126) (MI 124 3) a
    have hb0 : 0 ≤ sk (MI 126) (MI 124 3) a ∧ sk (MI 126) (MI 124 3) a ≤ 6000 := by
      by_cases q : a ≤ MI 124 3
      · have := hsk.2 q; omega
      · have : sk (MI 126) (MI 124 3) a = a := by rw [sk_eq, if_neg (by omega)]
        omega
    obtain ⟨k, hk1⟩ : ∃ k : Nat, k = k0 + 1 := ⟨_, rfl⟩
    rw [← hk1] at hT hF
    refine wp_aload_n dX12_misc_4 rfl rfl (by first | exact Or.inl (by decide) | exact Or.inl (by omega) | exact Or.inr (by decide) | exact Or.inr (by omega)) ?_
    refine wp_cV (n := 0) (mt' := mX12_isGood) (as := []) (rest := []) (some (vI 1)) ((rs MI (sk (MI 126) (MI 124 3) a) 0 pl sz br), ML, (GR d e nw th x)) dX12_misc_5 lX12_289 kX12_isGood vX12_isGood (by decide) (by decide +kernel) rfl (Nat.le_of_ble_eq_true rfl) (by decide) rfl rfl rfl (Nat.le_of_ble_eq_true rfl) (fun hM hS Q' hq => w_X12_isGood hq) (fun hM => ?_)
    refine wp_if_eq (tgt := 33) dX12_misc_8 (by decide) (fun q => absurd q (by decide)) (fun _ => ?_)
    refine wp_aload_n dX12_misc_11 rfl rfl (by first | exact Or.inl (by decide) | exact Or.inl (by omega) | exact Or.inr (by decide) | exact Or.inr (by omega)) ?_
    refine wp_ldc2 (x := 1008807213) dX12_misc_12 cX12_343 (by decide) ?_
    refine wp_iconst dX12_misc_15 (by decide) ?_
    refine wp_cVq (n := 2) (mt' := mX12_stands) (as := [vL 1008807213, vI 4]) (rest := []) (fun r M' => (stb (MI 126) (MI 124 3) (sk (MI 126) (MI 124 3) a) [60, 33, 45, 45] = true ∧ r = some (vI 1) ∧ M' = Mr MI ML d e nw th x (sk (MI 126) (MI 124 3) a) 0 pl sz br) ∨ (stb (MI 126) (MI 124 3) (sk (MI 126) (MI 124 3) a) [60, 33, 45, 45] = false ∧ r = some (vI 0) ∧ M' = Mr MI ML d e nw th x (sk (MI 126) (MI 124 3) a) 0 pl sz br)) dX12_misc_16 lX12_285 kX12_stands vX12_stands (by decide) (by decide +kernel) rfl (Nat.le_of_ble_eq_true rfl) (by decide) rfl rfl rfl (Nat.le_of_ble_eq_true rfl) (fun hM hS => w_X12_stands (z := 1008807213) (n := 4) (by decide) hs0 hsz (by omega) (fun hs => Or.inl ⟨by rw [← wbl_1008807213]; exact hs, rfl, rfl⟩) (fun hs => Or.inr ⟨by rw [← wbl_1008807213]; exact hs, rfl, rfl⟩)) (fun r M' hq hM => ?_)
    rcases hq with ⟨h16, rfl, rfl⟩ | ⟨h16, rfl, rfl⟩
    · refine wp_if_eq (tgt := 33) dX12_misc_19 (by decide) (fun q => absurd q (by decide)) (fun _ => ?_)
      refine wp_aload_n dX12_misc_22 rfl rfl (by first | exact Or.inl (by decide) | exact Or.inl (by omega) | exact Or.inr (by decide) | exact Or.inr (by omega)) ?_
      refine wp_cVq (n := 0) (mt' := mX12_comment) (as := []) (rest := []) (fun r M' => (∃ y, cmS (MI 126) (MI 124 3) ((sk (MI 126) (MI 124 3) a) + 4) = .inr y ∧ r = none ∧ M' = Mr MI ML d e nw th x y 0 pl sz br) ∨ (∃ f p g, (0 ≤ g ∧ g ≤ 20000) ∧ cmS (MI 126) (MI 124 3) ((sk (MI 126) (MI 124 3) a) + 4) = .inl (f, p) ∧ f ≠ 0 ∧ r = none ∧ M' = Mr MI ML d e nw th x g f p sz br)) dX12_misc_23 lX12_345 kX12_comment vX12_comment (by decide) (by decide +kernel) rfl (Nat.le_of_ble_eq_true rfl) (by decide) rfl rfl rfl (Nat.le_of_ble_eq_true rfl) (fun hM hS => w_comment_g hs0 hsz (by omega) (fun y hy => Or.inl ⟨y, hy, rfl, rfl⟩) (fun f p g hb hy hf => Or.inr ⟨f, p, g, hb, hy, hf, rfl, rfl⟩)) (fun r M' hq hM => ?_)
      rcases hq with ⟨y, hy, rfl, rfl⟩ | ⟨f, p, g, hb, hy, hf, rfl, rfl⟩
      · refine wp_aload_n dX12_misc_26 rfl rfl (by first | exact Or.inl (by decide) | exact Or.inl (by omega) | exact Or.inr (by decide) | exact Or.inr (by omega)) ?_
        refine wp_cV (n := 0) (mt' := mX12_maybeS) (as := []) (rest := []) none ((rs MI (sk (MI 126) (MI 124 3) y) 0 pl sz br), ML, (GR d e nw th x)) dX12_misc_27 lX12_300 kX12_maybeS vX12_maybeS (by decide) (by decide +kernel) rfl (Nat.le_of_ble_eq_true rfl) (by decide) rfl rfl rfl (Nat.le_of_ble_eq_true rfl) (fun hM hS Q' hq => w_maybeS_g hs0 hsz (by have := cmS_le (by omega) hy; omega) hq) (fun hM => ?_)
        have hcl := cmS_le (by omega) hy
        refine wp_goto (tgt := 4) dX12_misc_30 (by decide) ?_
        exact ih y (by omega) (by omega) (fun z hz => hT z (by rw [hk1, mcF, if_pos h16, hy]; exact hz)) (fun f p g hb hz => hF f p g hb (by rw [hk1, mcF, if_pos h16, hy]; exact hz))
      · refine wp_aload_n dX12_misc_26 rfl rfl (by first | exact Or.inl (by decide) | exact Or.inl (by omega) | exact Or.inr (by decide) | exact Or.inr (by omega)) ?_
        refine wp_cV (n := 0) (mt' := mX12_maybeS) (as := []) (rest := []) none ((rs MI g f p sz br), ML, (GR d e nw th x)) dX12_misc_27 lX12_300 kX12_maybeS vX12_maybeS (by decide) (by decide +kernel) rfl (Nat.le_of_ble_eq_true rfl) (by decide) rfl rfl rfl (Nat.le_of_ble_eq_true rfl) (fun hM hS Q' hq => w_maybeS_b (by assumption) hq) (fun hM => ?_)
        refine wp_goto (tgt := 4) dX12_misc_30 (by decide) ?_
        refine wp_aload_n dX12_misc_4 rfl rfl (by first | exact Or.inl (by decide) | exact Or.inl (by omega) | exact Or.inr (by decide) | exact Or.inr (by omega)) ?_
        refine wp_cV (n := 0) (mt' := mX12_isGood) (as := []) (rest := []) (some (vI 0)) ((rs MI g f p sz br), ML, (GR d e nw th x)) dX12_misc_5 lX12_289 kX12_isGood vX12_isGood (by decide) (by decide +kernel) rfl (Nat.le_of_ble_eq_true rfl) (by decide) rfl rfl rfl (Nat.le_of_ble_eq_true rfl) (fun hM hS Q' hq => w_isGood_b (by assumption) hq) (fun hM => ?_)
        refine wp_if_eq (tgt := 33) dX12_misc_8 (by decide) (fun _ => ?_) (fun q => absurd q (by decide))
        exact wp_vret dX12_misc_33 rfl (fun _ => hF f p g hb (by rw [hk1, mcF, if_pos h16, hy]) hf)
    · refine wp_if_eq (tgt := 33) dX12_misc_19 (by decide) (fun _ => ?_) (fun q => absurd q (by decide))
      exact wp_vret dX12_misc_33 rfl (fun _ => hT _ (by rw [hk1, mcF, if_neg (by rw [h16]; decide)]))
theorem mcF_more (T : Nat → Int) (n : Int) : ∀ (k j : Nat) (h : Int), 0 ≤ h → (n - h).toNat ≤ k → (n - h).toNat ≤ j → mcF T n k h = mcF T n j h
  | 0, 0, h, _, _, _ => rfl
  | 0, j + 1, h, h0, h1, _ => by
    have e : sk T n h = h := by rw [sk_eq, if_neg (by omega)]
    rw [mcF, mcF, e, if_neg (fun q => by have := stb_lt (by decide) q; omega)]
  | k + 1, 0, h, h0, _, h1 => by
    have e : sk T n h = h := by rw [sk_eq, if_neg (by omega)]
    rw [mcF, mcF, e, if_neg (fun q => by have := stb_lt (by decide) q; omega)]
  | k + 1, j + 1, h, h0, h1, h2 => by
    rw [mcF, mcF]
    have hsk := sk_le T n h
    cases hc : cmS T n (sk T n h + 4) with
    | inl f => rfl
    | inr y =>
      have hy := cmS_le (by omega) hc
      simp only
      rw [mcF_more T n k j y (by omega) (by omega) (by omega)]
theorem w_misc_g (hs0 : 0 ≤ MI 124 3) (hsz : MI 124 3 ≤ 6000) (ha : 0 ≤ a ∧ a ≤ 6000) (hT : ∀ y, mcS (MI 126) (MI 124 3) a = .inr y → Q none (Mr MI ML d e nw th x y 0 pl sz br)) (hF : ∀ f p g, 0 ≤ g ∧ g ≤ 20000 → mcS (MI 126) (MI 124 3) a = .inl (f, p) → f ≠ 0 → Q none (Mr MI ML d e nw th x g f p sz br)) : wp cs mX12_misc KD Q 0 (padL [vR 124] 1) [] (KD, Mr MI ML d e nw th x a 0 pl sz br) := by
  refine wp_L (L' := [some (vR 124)]) rfl ?_
  refine wp_aload_n dX12_misc_0 rfl rfl (by first | exact Or.inl (by decide) | exact Or.inl (by omega) | exact Or.inr (by decide) | exact Or.inr (by omega)) ?_
  refine wp_cV (n := 0) (mt' := mX12_maybeS) (as := []) (rest := []) none ((rs MI (sk (MI 126) (MI 124 3) a) 0 pl sz br), ML, (GR d e nw th x)) dX12_misc_1 lX12_300 kX12_maybeS vX12_maybeS (by decide) (by decide +kernel) rfl (Nat.le_of_ble_eq_true rfl) (by decide) rfl rfl rfl (Nat.le_of_ble_eq_true rfl) (fun hM hS Q' hq => w_maybeS_g hs0 hsz (by omega) hq) (fun hM => ?_)
  exact w_misc_l hs0 hsz (MI 124 3 + 1).toNat a (by omega) (by omega) hT hF
theorem w_misc_b (hw : w ≠ 0) (hQ : Q none (Mr MI ML d e nw th x a w pl sz br)) : wp cs mX12_misc KD Q 0 (padL [vR 124] 1) [] (KD, Mr MI ML d e nw th x a w pl sz br) := by
  refine wp_L (L' := [some (vR 124)]) rfl ?_
  refine wp_aload_n dX12_misc_0 rfl rfl (by first | exact Or.inl (by decide) | exact Or.inl (by omega) | exact Or.inr (by decide) | exact Or.inr (by omega)) ?_
  refine wp_cV (n := 0) (mt' := mX12_maybeS) (as := []) (rest := []) none ((rs MI a w pl sz br), ML, (GR d e nw th x)) dX12_misc_1 lX12_300 kX12_maybeS vX12_maybeS (by decide) (by decide +kernel) rfl (Nat.le_of_ble_eq_true rfl) (by decide) rfl rfl rfl (Nat.le_of_ble_eq_true rfl) (fun hM hS Q' hq => w_maybeS_b (by first | assumption | decide) hq) (fun hM => ?_)
  refine wp_aload_n dX12_misc_4 rfl rfl (by first | exact Or.inl (by decide) | exact Or.inl (by omega) | exact Or.inr (by decide) | exact Or.inr (by omega)) ?_
  refine wp_cV (n := 0) (mt' := mX12_isGood) (as := []) (rest := []) (some (vI 0)) ((rs MI a w pl sz br), ML, (GR d e nw th x)) dX12_misc_5 lX12_289 kX12_isGood vX12_isGood (by decide) (by decide +kernel) rfl (Nat.le_of_ble_eq_true rfl) (by decide) rfl rfl rfl (Nat.le_of_ble_eq_true rfl) (fun hM hS Q' hq => w_isGood_b (by assumption) hq) (fun hM => ?_)
  refine wp_if_eq (tgt := 33) dX12_misc_8 (by decide) (fun _ => ?_) (fun q => absurd q (by decide))
  exact wp_vret dX12_misc_33 rfl (fun _ => hQ)
end P25
