theorem dX12_maybeS_0 : decode cX12_maybeS 0 = .ok (.aload_n 0, 1) := by decide +kernel
theorem dX12_maybeS_1 : decode cX12_maybeS 1 = .ok (.invokevirtual 289, 3) := by decide +kernel
theorem dX12_maybeS_4 : decode cX12_maybeS 4 = .ok (.ifCond .eq 30, 3) := by decide +kernel
theorem dX12_maybeS_7 : decode cX12_maybeS 7 = .ok (.aload_n 0, 1) := by decide +kernel
theorem dX12_maybeS_8 : decode cX12_maybeS 8 = .ok (.aload_n 0, 1) := by decide +kernel
theorem dX12_maybeS_9 : decode cX12_maybeS 9 = .ok (.getfield 276, 3) := by decide +kernel
theorem dX12_maybeS_12 : decode cX12_maybeS 12 = .ok (.invokevirtual 279, 3) := by decide +kernel
theorem dX12_maybeS_15 : decode cX12_maybeS 15 = .ok (.invokestatic 297, 3) := by decide +kernel
theorem dX12_maybeS_18 : decode cX12_maybeS 18 = .ok (.ifCond .eq 16, 3) := by decide +kernel
theorem dX12_maybeS_21 : decode cX12_maybeS 21 = .ok (.aload_n 0, 1) := by decide +kernel
theorem dX12_maybeS_22 : decode cX12_maybeS 22 = .ok (.dup, 1) := by decide +kernel
theorem dX12_maybeS_23 : decode cX12_maybeS 23 = .ok (.getfield 276, 3) := by decide +kernel
theorem dX12_maybeS_26 : decode cX12_maybeS 26 = .ok (.iconst 1, 1) := by decide +kernel
theorem dX12_maybeS_27 : decode cX12_maybeS 27 = .ok (.iadd, 1) := by decide +kernel
theorem dX12_maybeS_28 : decode cX12_maybeS 28 = .ok (.putfield 276, 3) := by decide +kernel
theorem dX12_maybeS_31 : decode cX12_maybeS 31 = .ok (.goto (-31), 3) := by decide +kernel
theorem dX12_maybeS_34 : decode cX12_maybeS 34 = .ok (.return_, 1) := by decide +kernel
theorem sk_eq2 {T : Nat → Int} {n h : Int} : sk T n h = if isSp (ob T n h) then sk T n (h + 1) else h := by
  rw [sk_eq]
  by_cases q : isSp (ob T n h)
  · have : h < n := by
      by_cases z : 0 ≤ h ∧ h < n
      · exact z.2
      · rw [ob_out z] at q; omega
    rw [if_pos ⟨this, q⟩, if_pos q]
  · rw [if_neg (fun z => q z.2), if_neg q]
theorem isSp_lt {T : Nat → Int} {n h : Int} (q : isSp (ob T n h)) : h < n := by
  by_cases z : 0 ≤ h ∧ h < n
  · exact z.2
  · rw [ob_out z] at q; omega
theorem isNb_lt {T : Nat → Int} {n h : Int} (q : isNb (ob T n h)) : h < n := by
  by_cases z : 0 ≤ h ∧ h < n
  · exact z.2
  · rw [ob_out z] at q; omega
theorem isCh_lt {T : Nat → Int} {n h : Int} (q : isCh (ob T n h)) : h < n := by
  by_cases z : 0 ≤ h ∧ h < n
  · exact z.2
  · rw [ob_out z] at q; omega
section P24
variable {cs : Cs} {Q : Option AV → Mm → Prop} {MI ML : Nat → Nat → Int} {d e nw th x : Nat} {a w pl sz br : Int}
theorem w_isGood_b (hw : w ≠ 0) (hQ : Q (some (vI 0)) (Mr MI ML d e nw th x a w pl sz br)) : wp cs mX12_isGood KD Q 0 (padL [vR 124] 1) [] (KD, Mr MI ML d e nw th x a w pl sz br) := w_X12_isGood (by rw [show bI (w = 0) = 0 from if_neg hw]; exact hQ)
theorem w_maybeS_l (hs0 : 0 ≤ MI 124 3) (hsz : MI 124 3 ≤ 6000) : ∀ (k : Nat) (a : Int), 0 ≤ a → (MI 124 3 - a).toNat ≤ k → Q none (Mr MI ML d e nw th x (sk (MI 126) (MI 124 3) a) 0 pl sz br) → wp cs mX12_maybeS KD Q 0 [some (vR 124)] [] (KD, Mr MI ML d e nw th x a 0 pl sz br) := by
  intro k
  induction k with
  | zero =>
    intro a ha hk hQ
    refine wp_aload_n dX12_maybeS_0 rfl rfl (by first | exact Or.inl (by decide) | exact Or.inl (by omega) | exact Or.inr (by decide) | exact Or.inr (by omega)) ?_
    refine wp_cV (n := 0) (mt' := mX12_isGood) (as := []) (rest := []) (some (vI 1)) ((rs MI a 0 pl sz br), ML, (GR d e nw th x)) dX12_maybeS_1 lX12_289 kX12_isGood vX12_isGood (by decide) (by decide +kernel) rfl (Nat.le_of_ble_eq_true rfl) (by decide) rfl rfl rfl (Nat.le_of_ble_eq_true rfl) (fun hM hS Q' hq => w_X12_isGood hq) (fun hM => ?_)
    refine wp_if_eq (tgt := 34) dX12_maybeS_4 (by decide) (fun q => absurd q (by decide)) (fun _ => ?_)
    refine wp_aload_n dX12_maybeS_7 rfl rfl (by first | exact Or.inl (by decide) | exact Or.inl (by omega) | exact Or.inr (by decide) | exact Or.inr (by omega)) ?_
    refine wp_aload_n dX12_maybeS_8 rfl rfl (by first | exact Or.inl (by decide) | exact Or.inl (by omega) | exact Or.inr (by decide) | exact Or.inr (by omega)) ?_
    refine wp_getI dX12_maybeS_9 fX12_276 rfl (by decide) ?_
    refine wp_topI (x' := a) rfl ?_
    refine wp_cV (n := 1) (mt' := mX12_octet) (as := [vI a]) (rest := []) (some (vI ((ob (MI 126) (MI 124 3) a)))) ((rs MI a 0 pl sz br), ML, (GR d e nw th x)) dX12_maybeS_12 lX12_279 kX12_octet vX12_octet (by decide) (by decide +kernel) rfl (Nat.le_of_ble_eq_true rfl) (by decide) rfl rfl rfl (Nat.le_of_ble_eq_true rfl) (fun hM hS Q' hq => w_X12_octet hs0 hsz (by first | assumption | omega) hq) (fun hM => ?_)
    refine wp_pc (pc' := 15) rfl ?_
    refine wp_cS (n := 1) (mt' := mX12_isS) (as := [vI ((ob (MI 126) (MI 124 3) a))]) (rest := []) (some (vI ((bI (isSp (ob (MI 126) (MI 124 3) a)))))) ((rs MI a 0 pl sz br), ML, (GR d e nw th x)) dX12_maybeS_15 lX12_297 kX12_isS vX12_isS (by decide) (by decide +kernel) rfl (Nat.le_of_ble_eq_true rfl) rfl (Nat.le_of_ble_eq_true rfl) (fun hM hS Q' hq => w_X12_isS hq) (fun hM => ?_)
    by_cases h15 : isSp (ob (MI 126) (MI 124 3) a)
    · refine wp_topI (x' := 1) (if_pos h15) ?_
      refine wp_if_eq (tgt := 34) dX12_maybeS_18 (by decide) (fun q => absurd q (by decide)) (fun _ => ?_)
      have hlt := isSp_lt h15
      refine wp_aload_n dX12_maybeS_21 rfl rfl (by first | exact Or.inl (by decide) | exact Or.inl (by omega) | exact Or.inr (by decide) | exact Or.inr (by omega)) ?_
      refine wp_dup dX12_maybeS_22 (fun x e => by cases e) ?_
      refine wp_getI dX12_maybeS_23 fX12_276 rfl (by decide) ?_
      refine wp_topI (x' := a) rfl ?_
      refine wp_iconst dX12_maybeS_26 (by decide) ?_
      refine wp_iaddr dX12_maybeS_27 (by omega) ?_
      refine wp_putI dX12_maybeS_28 pX12_276 rfl (by decide) ?_
      refine wp_M (M' := ((rs MI (a + 1) 0 pl sz br), ML, (GR d e nw th x))) (by rw [rs_4]) ?_
      refine wp_pc (pc' := 31) rfl ?_
      refine wp_goto (tgt := 0) dX12_maybeS_31 (by decide) ?_
      exfalso; have := isSp_lt h15; omega
    · refine wp_topI (x' := 0) (if_neg h15) ?_
      refine wp_if_eq (tgt := 34) dX12_maybeS_18 (by decide) (fun _ => ?_) (fun q => absurd q (by decide))
      exact wp_vret dX12_maybeS_34 rfl (fun _ => by rw [sk_eq2, if_neg h15] at hQ; exact hQ)
  | succ k ih =>
    intro a ha hk hQ
    refine wp_aload_n dX12_maybeS_0 rfl rfl (by first | exact Or.inl (by decide) | exact Or.inl (by omega) | exact Or.inr (by decide) | exact Or.inr (by omega)) ?_
    refine wp_cV (n := 0) (mt' := mX12_isGood) (as := []) (rest := []) (some (vI 1)) ((rs MI a 0 pl sz br), ML, (GR d e nw th x)) dX12_maybeS_1 lX12_289 kX12_isGood vX12_isGood (by decide) (by decide +kernel) rfl (Nat.le_of_ble_eq_true rfl) (by decide) rfl rfl rfl (Nat.le_of_ble_eq_true rfl) (fun hM hS Q' hq => w_X12_isGood hq) (fun hM => ?_)
    refine wp_if_eq (tgt := 34) dX12_maybeS_4 (by decide) (fun q => absurd q (by decide)) (fun _ => ?_)
    refine wp_aload_n dX12_maybeS_7 rfl rfl (by first | exact Or.inl (by decide) | exact Or.inl (by omega) | exact Or.inr (by decide) | exact Or.inr (by omega)) ?_
    refine wp_aload_n dX12_maybeS_8 rfl rfl (by first | exact Or.inl (by decide) | exact Or.inl (by omega) | exact Or.inr (by decide) | exact Or.inr (by omega)) ?_
    refine wp_getI dX12_maybeS_9 fX12_276 rfl (by decide) ?_
    refine wp_topI (x' := a) rfl ?_
    refine wp_cV (n := 1) (mt' := mX12_octet) (as := [vI a]) (rest := []) (some (vI ((ob (MI 126) (MI 124 3) a)))) ((rs MI a 0 pl sz br), ML, (GR d e nw th x)) dX12_maybeS_12 lX12_279 kX12_octet vX12_octet (by decide) (by decide +kernel) rfl (Nat.le_of_ble_eq_true rfl) (by decide) rfl rfl rfl (Nat.le_of_ble_eq_true rfl) (fun hM hS Q' hq => w_X12_octet hs0 hsz (by first | assumption | omega) hq) (fun hM => ?_)
    refine wp_pc (pc' := 15) rfl ?_
    refine wp_cS (n := 1) (mt' := mX12_isS) (as := [vI ((ob (MI 126) (MI 124 3) a))]) (rest := []) (some (vI ((bI (isSp (ob (MI 126) (MI 124 3) a)))))) ((rs MI a 0 pl sz br), ML, (GR d e nw th x)) dX12_maybeS_15 lX12_297 kX12_isS vX12_isS (by decide) (by decide +kernel) rfl (Nat.le_of_ble_eq_true rfl) rfl (Nat.le_of_ble_eq_true rfl) (fun hM hS Q' hq => w_X12_isS hq) (fun hM => ?_)
    by_cases h15 : isSp (ob (MI 126) (MI 124 3) a)
    · refine wp_topI (x' := 1) (if_pos h15) ?_
      refine wp_if_eq (tgt := 34) dX12_maybeS_18 (by decide) (fun q => absurd q (by decide)) (fun _ => ?_)
      have hlt := isSp_lt h15
      refine wp_aload_n dX12_maybeS_21 rfl rfl (by first | exact Or.inl (by decide) | exact Or.inl (by omega) | exact Or.inr (by decide) | exact Or.inr (by omega)) ?_
      refine wp_dup dX12_maybeS_22 (fun x e => by cases e) ?_
      refine wp_getI dX12_maybeS_23 fX12_276 rfl (by decide) ?_
      refine wp_topI (x' := a) rfl ?_
      refine wp_iconst dX12_maybeS_26 (by decide) ?_
      refine wp_iaddr dX12_maybeS_27 (by omega) ?_
      refine wp_putI dX12_maybeS_28 pX12_276 rfl (by decide) ?_
      refine wp_M (M' := ((rs MI (a + 1) 0 pl sz br), ML, (GR d e nw th x))) (by rw [rs_4]) ?_
      refine wp_pc (pc' := 31) rfl ?_
      refine wp_goto (tgt := 0) dX12_maybeS_31 (by decide) ?_
      exact ih (a + 1) (by omega) (by omega) (by rw [sk_eq2, if_pos h15] at hQ; exact hQ)
    · refine wp_topI (x' := 0) (if_neg h15) ?_
      refine wp_if_eq (tgt := 34) dX12_maybeS_18 (by decide) (fun _ => ?_) (fun q => absurd q (by decide))
      exact wp_vret dX12_maybeS_34 rfl (fun _ => by rw [sk_eq2, if_neg h15] at hQ; exact hQ)
theorem w_maybeS_g (hs0 : 0 ≤ MI 124 3) (hsz : MI 124 3 ≤ 6000) (ha : 0 ≤ a) (hQ : Q none (Mr MI ML d e nw th x (sk (MI 126) (MI 124 3) a) 0 pl sz br)) : wp cs mX12_maybeS KD Q 0 (padL [vR 124] 1) [] (KD, Mr MI ML d e nw th x a 0 pl sz br) := wp_L (L' := [some (vR 124)]) rfl (w_maybeS_l hs0 hsz _ a ha (Nat.le_refl _) hQ)
theorem w_maybeS_b (hw : w ≠ 0) (hQ : Q none (Mr MI ML d e nw th x a w pl sz br)) : wp cs mX12_maybeS KD Q 0 (padL [vR 124] 1) [] (KD, Mr MI ML d e nw th x a w pl sz br) := by
  refine wp_L (L' := [some (vR 124)]) rfl ?_
  refine wp_aload_n dX12_maybeS_0 rfl rfl (by first | exact Or.inl (by decide) | exact Or.inl (by omega) | exact Or.inr (by decide) | exact Or.inr (by omega)) ?_
  refine wp_cV (n := 0) (mt' := mX12_isGood) (as := []) (rest := []) (some (vI 0)) ((rs MI a w pl sz br), ML, (GR d e nw th x)) dX12_maybeS_1 lX12_289 kX12_isGood vX12_isGood (by decide) (by decide +kernel) rfl (Nat.le_of_ble_eq_true rfl) (by decide) rfl rfl rfl (Nat.le_of_ble_eq_true rfl) (fun hM hS Q' hq => w_isGood_b (by assumption) hq) (fun hM => ?_)
  refine wp_if_eq (tgt := 34) dX12_maybeS_4 (by decide) (fun _ => ?_) (fun q => absurd q (by decide))
  exact wp_vret dX12_maybeS_34 rfl (fun _ => hQ)
theorem dX12_mustS_0 : decode cX12_mustS 0 = .ok (.aload_n 0, 1) := by decide +kernel
theorem dX12_mustS_1 : decode cX12_mustS 1 = .ok (.invokevirtual 289, 3) := by decide +kernel
theorem dX12_mustS_4 : decode cX12_mustS 4 = .ok (.ifCond .eq 26, 3) := by decide +kernel
theorem dX12_mustS_7 : decode cX12_mustS 7 = .ok (.aload_n 0, 1) := by decide +kernel
theorem dX12_mustS_8 : decode cX12_mustS 8 = .ok (.aload_n 0, 1) := by decide +kernel
theorem dX12_mustS_9 : decode cX12_mustS 9 = .ok (.getfield 276, 3) := by decide +kernel
theorem dX12_mustS_12 : decode cX12_mustS 12 = .ok (.invokevirtual 279, 3) := by decide +kernel
theorem dX12_mustS_15 : decode cX12_mustS 15 = .ok (.invokestatic 297, 3) := by decide +kernel
theorem dX12_mustS_18 : decode cX12_mustS 18 = .ok (.ifCond .ne 12, 3) := by decide +kernel
theorem dX12_mustS_21 : decode cX12_mustS 21 = .ok (.aload_n 0, 1) := by decide +kernel
theorem dX12_mustS_22 : decode cX12_mustS 22 = .ok (.iconst (-1), 1) := by decide +kernel
theorem dX12_mustS_23 : decode cX12_mustS 23 = .ok (.aload_n 0, 1) := by decide +kernel
theorem dX12_mustS_24 : decode cX12_mustS 24 = .ok (.getfield 276, 3) := by decide +kernel
theorem dX12_mustS_27 : decode cX12_mustS 27 = .ok (.invokevirtual 293, 3) := by decide +kernel
theorem dX12_mustS_30 : decode cX12_mustS 30 = .ok (.aload_n 0, 1) := by decide +kernel
theorem dX12_mustS_31 : decode cX12_mustS 31 = .ok (.invokevirtual 300, 3) := by decide +kernel
theorem dX12_mustS_34 : decode cX12_mustS 34 = .ok (.return_, 1) := by decide +kernel
theorem w_mustS_g (hs0 : 0 ≤ MI 124 3) (hsz : MI 124 3 ≤ 6000) (ha : 0 ≤ a) (hT : isSp (ob (MI 126) (MI 124 3) a) → Q none (Mr MI ML d e nw th x (sk (MI 126) (MI 124 3) a) 0 pl sz br)) (hF : ¬ isSp (ob (MI 126) (MI 124 3) a) → Q none (Mr MI ML d e nw th x a (-1) a sz br)) : wp cs mX12_mustS KD Q 0 (padL [vR 124] 1) [] (KD, Mr MI ML d e nw th x a 0 pl sz br) := by
  refine wp_L (L' := [some (vR 124)]) rfl ?_
  refine wp_aload_n dX12_mustS_0 rfl rfl (by first | exact Or.inl (by decide) | exact Or.inl (by omega) | exact Or.inr (by decide) | exact Or.inr (by omega)) ?_
  refine wp_cV (n := 0) (mt' := mX12_isGood) (as := []) (rest := []) (some (vI 1)) ((rs MI a 0 pl sz br), ML, (GR d e nw th x)) dX12_mustS_1 lX12_289 kX12_isGood vX12_isGood (by decide) (by decide +kernel) rfl (Nat.le_of_ble_eq_true rfl) (by decide) rfl rfl rfl (Nat.le_of_ble_eq_true rfl) (fun hM hS Q' hq => w_X12_isGood hq) (fun hM => ?_)
  refine wp_if_eq (tgt := 30) dX12_mustS_4 (by decide) (fun q => absurd q (by decide)) (fun _ => ?_)
  refine wp_aload_n dX12_mustS_7 rfl rfl (by first | exact Or.inl (by decide) | exact Or.inl (by omega) | exact Or.inr (by decide) | exact Or.inr (by omega)) ?_
  refine wp_aload_n dX12_mustS_8 rfl rfl (by first | exact Or.inl (by decide) | exact Or.inl (by omega) | exact Or.inr (by decide) | exact Or.inr (by omega)) ?_
  refine wp_getI dX12_mustS_9 fX12_276 rfl (by decide) ?_
  refine wp_topI (x' := a) rfl ?_
  refine wp_cV (n := 1) (mt' := mX12_octet) (as := [vI a]) (rest := []) (some (vI ((ob (MI 126) (MI 124 3) a)))) ((rs MI a 0 pl sz br), ML, (GR d e nw th x)) dX12_mustS_12 lX12_279 kX12_octet vX12_octet (by decide) (by decide +kernel) rfl (Nat.le_of_ble_eq_true rfl) (by decide) rfl rfl rfl (Nat.le_of_ble_eq_true rfl) (fun hM hS Q' hq => w_X12_octet hs0 hsz (by first | assumption | omega) hq) (fun hM => ?_)
  refine wp_pc (pc' := 15) rfl ?_
  refine wp_cS (n := 1) (mt' := mX12_isS) (as := [vI ((ob (MI 126) (MI 124 3) a))]) (rest := []) (some (vI ((bI (isSp (ob (MI 126) (MI 124 3) a)))))) ((rs MI a 0 pl sz br), ML, (GR d e nw th x)) dX12_mustS_15 lX12_297 kX12_isS vX12_isS (by decide) (by decide +kernel) rfl (Nat.le_of_ble_eq_true rfl) rfl (Nat.le_of_ble_eq_true rfl) (fun hM hS Q' hq => w_X12_isS hq) (fun hM => ?_)
  by_cases h15 : isSp (ob (MI 126) (MI 124 3) a)
  · refine wp_topI (x' := 1) (if_pos h15) ?_
    refine wp_if_ne (tgt := 30) dX12_mustS_18 (by decide) (fun _ => ?_) (fun q => absurd q (by decide))
    refine wp_aload_n dX12_mustS_30 rfl rfl (by first | exact Or.inl (by decide) | exact Or.inl (by omega) | exact Or.inr (by decide) | exact Or.inr (by omega)) ?_
    refine wp_cV (n := 0) (mt' := mX12_maybeS) (as := []) (rest := []) none ((rs MI (sk (MI 126) (MI 124 3) a) 0 pl sz br), ML, (GR d e nw th x)) dX12_mustS_31 lX12_300 kX12_maybeS vX12_maybeS (by decide) (by decide +kernel) rfl (Nat.le_of_ble_eq_true rfl) (by decide) rfl rfl rfl (Nat.le_of_ble_eq_true rfl) (fun hM hS Q' hq => w_maybeS_g hs0 hsz (by omega) hq) (fun hM => ?_)
    exact wp_vret dX12_mustS_34 rfl (fun _ => hT h15)
  · refine wp_topI (x' := 0) (if_neg h15) ?_
    refine wp_if_ne (tgt := 30) dX12_mustS_18 (by decide) (fun q => absurd q (by decide)) (fun _ => ?_)
    refine wp_aload_n dX12_mustS_21 rfl rfl (by first | exact Or.inl (by decide) | exact Or.inl (by omega) | exact Or.inr (by decide) | exact Or.inr (by omega)) ?_
    refine wp_iconst dX12_mustS_22 (by decide) ?_
    refine wp_aload_n dX12_mustS_23 rfl rfl (by first | exact Or.inl (by decide) | exact Or.inl (by omega) | exact Or.inr (by decide) | exact Or.inr (by omega)) ?_
    refine wp_getI dX12_mustS_24 fX12_276 rfl (by decide) ?_
    refine wp_topI (x' := a) rfl ?_
    refine wp_cV (n := 2) (mt' := mX12_fail) (as := [vI ((-1)), vI a]) (rest := []) none ((rs MI a (-1) a sz br), ML, (GR d e nw th x)) dX12_mustS_27 lX12_293 kX12_fail vX12_fail (by decide) (by decide +kernel) rfl (Nat.le_of_ble_eq_true rfl) (by decide) rfl rfl rfl (Nat.le_of_ble_eq_true rfl) (fun hM hS Q' hq => w_X12_fail (fun _ => hq) (fun q => absurd rfl q)) (fun hM => ?_)
    refine wp_aload_n dX12_mustS_30 rfl rfl (by first | exact Or.inl (by decide) | exact Or.inl (by omega) | exact Or.inr (by decide) | exact Or.inr (by omega)) ?_
    refine wp_pc (pc' := 31) rfl ?_
    refine wp_cV (n := 0) (mt' := mX12_maybeS) (as := []) (rest := []) none ((rs MI a (-1) a sz br), ML, (GR d e nw th x)) dX12_mustS_31 lX12_300 kX12_maybeS vX12_maybeS (by decide) (by decide +kernel) rfl (Nat.le_of_ble_eq_true rfl) (by decide) rfl rfl rfl (Nat.le_of_ble_eq_true rfl) (fun hM hS Q' hq => w_maybeS_b (by first | assumption | decide) hq) (fun hM => ?_)
    exact wp_vret dX12_mustS_34 rfl (fun _ => hF h15)
theorem w_mustS_b (hw : w ≠ 0) (hQ : Q none (Mr MI ML d e nw th x a w pl sz br)) : wp cs mX12_mustS KD Q 0 (padL [vR 124] 1) [] (KD, Mr MI ML d e nw th x a w pl sz br) := by
  refine wp_L (L' := [some (vR 124)]) rfl ?_
  refine wp_aload_n dX12_mustS_0 rfl rfl (by first | exact Or.inl (by decide) | exact Or.inl (by omega) | exact Or.inr (by decide) | exact Or.inr (by omega)) ?_
  refine wp_cV (n := 0) (mt' := mX12_isGood) (as := []) (rest := []) (some (vI 0)) ((rs MI a w pl sz br), ML, (GR d e nw th x)) dX12_mustS_1 lX12_289 kX12_isGood vX12_isGood (by decide) (by decide +kernel) rfl (Nat.le_of_ble_eq_true rfl) (by decide) rfl rfl rfl (Nat.le_of_ble_eq_true rfl) (fun hM hS Q' hq => w_isGood_b (by assumption) hq) (fun hM => ?_)
  refine wp_if_eq (tgt := 30) dX12_mustS_4 (by decide) (fun _ => ?_) (fun q => absurd q (by decide))
  refine wp_aload_n dX12_mustS_30 rfl rfl (by first | exact Or.inl (by decide) | exact Or.inl (by omega) | exact Or.inr (by decide) | exact Or.inr (by omega)) ?_
  refine wp_cV (n := 0) (mt' := mX12_maybeS) (as := []) (rest := []) none ((rs MI a w pl sz br), ML, (GR d e nw th x)) dX12_mustS_31 lX12_300 kX12_maybeS vX12_maybeS (by decide) (by decide +kernel) rfl (Nat.le_of_ble_eq_true rfl) (by decide) rfl rfl rfl (Nat.le_of_ble_eq_true rfl) (fun hM hS Q' hq => w_maybeS_b (by first | assumption | decide) hq) (fun hM => ?_)
  exact wp_vret dX12_mustS_34 rfl (fun _ => hQ)
theorem dX12_passes_0 : decode cX12_passes 0 = .ok (.aload_n 0, 1) := by decide +kernel
theorem dX12_passes_1 : decode cX12_passes 1 = .ok (.invokevirtual 289, 3) := by decide +kernel
theorem dX12_passes_4 : decode cX12_passes 4 = .ok (.ifCond .eq 24, 3) := by decide +kernel
theorem dX12_passes_7 : decode cX12_passes 7 = .ok (.aload_n 0, 1) := by decide +kernel
theorem dX12_passes_8 : decode cX12_passes 8 = .ok (.aload_n 0, 1) := by decide +kernel
theorem dX12_passes_9 : decode cX12_passes 9 = .ok (.getfield 276, 3) := by decide +kernel
theorem dX12_passes_12 : decode cX12_passes 12 = .ok (.invokevirtual 279, 3) := by decide +kernel
theorem dX12_passes_15 : decode cX12_passes 15 = .ok (.iload_n 1, 1) := by decide +kernel
theorem dX12_passes_16 : decode cX12_passes 16 = .ok (.if_icmp .eq 12, 3) := by decide +kernel
theorem dX12_passes_19 : decode cX12_passes 19 = .ok (.aload_n 0, 1) := by decide +kernel
theorem dX12_passes_20 : decode cX12_passes 20 = .ok (.iconst (-1), 1) := by decide +kernel
theorem dX12_passes_21 : decode cX12_passes 21 = .ok (.aload_n 0, 1) := by decide +kernel
theorem dX12_passes_22 : decode cX12_passes 22 = .ok (.getfield 276, 3) := by decide +kernel
theorem dX12_passes_25 : decode cX12_passes 25 = .ok (.invokevirtual 293, 3) := by decide +kernel
theorem dX12_passes_28 : decode cX12_passes 28 = .ok (.aload_n 0, 1) := by decide +kernel
theorem dX12_passes_29 : decode cX12_passes 29 = .ok (.dup, 1) := by decide +kernel
theorem dX12_passes_30 : decode cX12_passes 30 = .ok (.getfield 276, 3) := by decide +kernel
theorem dX12_passes_33 : decode cX12_passes 33 = .ok (.aload_n 0, 1) := by decide +kernel
theorem dX12_passes_34 : decode cX12_passes 34 = .ok (.invokevirtual 289, 3) := by decide +kernel
theorem dX12_passes_37 : decode cX12_passes 37 = .ok (.ifCond .eq 7, 3) := by decide +kernel
theorem dX12_passes_40 : decode cX12_passes 40 = .ok (.iconst 1, 1) := by decide +kernel
theorem dX12_passes_41 : decode cX12_passes 41 = .ok (.goto 4, 3) := by decide +kernel
theorem dX12_passes_44 : decode cX12_passes 44 = .ok (.iconst 0, 1) := by decide +kernel
theorem dX12_passes_45 : decode cX12_passes 45 = .ok (.iadd, 1) := by decide +kernel
theorem dX12_passes_46 : decode cX12_passes 46 = .ok (.putfield 276, 3) := by decide +kernel
theorem dX12_passes_49 : decode cX12_passes 49 = .ok (.aload_n 0, 1) := by decide +kernel
theorem dX12_passes_50 : decode cX12_passes 50 = .ok (.invokevirtual 289, 3) := by decide +kernel
theorem dX12_passes_53 : decode cX12_passes 53 = .ok (.ireturn, 1) := by decide +kernel
theorem w_passes_g {c : Int} (hs0 : 0 ≤ MI 124 3) (hsz : MI 124 3 ≤ 6000) (ha : 0 ≤ a ∧ a ≤ 100000) (hT : ob (MI 126) (MI 124 3) a = c → Q (some (vI 1)) (Mr MI ML d e nw th x (a + 1) 0 pl sz br)) (hF : ob (MI 126) (MI 124 3) a ≠ c → Q (some (vI 0)) (Mr MI ML d e nw th x a (-1) a sz br)) : wp cs mX12_passes KD Q 0 (padL [vR 124, vI c] 2) [] (KD, Mr MI ML d e nw th x a 0 pl sz br) := by
  refine wp_L (L' := [some (vR 124), some (vI c)]) rfl ?_
  refine wp_aload_n dX12_passes_0 rfl rfl (by first | exact Or.inl (by decide) | exact Or.inl (by omega) | exact Or.inr (by decide) | exact Or.inr (by omega)) ?_
  refine wp_cV (n := 0) (mt' := mX12_isGood) (as := []) (rest := []) (some (vI 1)) ((rs MI a 0 pl sz br), ML, (GR d e nw th x)) dX12_passes_1 lX12_289 kX12_isGood vX12_isGood (by decide) (by decide +kernel) rfl (Nat.le_of_ble_eq_true rfl) (by decide) rfl rfl rfl (Nat.le_of_ble_eq_true rfl) (fun hM hS Q' hq => w_X12_isGood hq) (fun hM => ?_)
  refine wp_if_eq (tgt := 28) dX12_passes_4 (by decide) (fun q => absurd q (by decide)) (fun _ => ?_)
  refine wp_aload_n dX12_passes_7 rfl rfl (by first | exact Or.inl (by decide) | exact Or.inl (by omega) | exact Or.inr (by decide) | exact Or.inr (by omega)) ?_
  refine wp_aload_n dX12_passes_8 rfl rfl (by first | exact Or.inl (by decide) | exact Or.inl (by omega) | exact Or.inr (by decide) | exact Or.inr (by omega)) ?_
  refine wp_getI dX12_passes_9 fX12_276 rfl (by decide) ?_
  refine wp_topI (x' := a) rfl ?_
  refine wp_cV (n := 1) (mt' := mX12_octet) (as := [vI a]) (rest := []) (some (vI ((ob (MI 126) (MI 124 3) a)))) ((rs MI a 0 pl sz br), ML, (GR d e nw th x)) dX12_passes_12 lX12_279 kX12_octet vX12_octet (by decide) (by decide +kernel) rfl (Nat.le_of_ble_eq_true rfl) (by decide) rfl rfl rfl (Nat.le_of_ble_eq_true rfl) (fun hM hS Q' hq => w_X12_octet hs0 hsz (by first | assumption | omega) hq) (fun hM => ?_)
  refine wp_pc (pc' := 15) rfl ?_
  refine wp_iload_n dX12_passes_15 rfl rfl ?_
  refine wp_icmp_eq (tgt := 28) dX12_passes_16 (by decide) (fun h16 => ?_) (fun h16 => ?_)
  · refine wp_aload_n dX12_passes_28 rfl rfl (by first | exact Or.inl (by decide) | exact Or.inl (by omega) | exact Or.inr (by decide) | exact Or.inr (by omega)) ?_
    refine wp_dup dX12_passes_29 (fun x e => by cases e) ?_
    refine wp_getI dX12_passes_30 fX12_276 rfl (by decide) ?_
    refine wp_topI (x' := a) rfl ?_
    refine wp_aload_n dX12_passes_33 rfl rfl (by first | exact Or.inl (by decide) | exact Or.inl (by omega) | exact Or.inr (by decide) | exact Or.inr (by omega)) ?_
    refine wp_cV (n := 0) (mt' := mX12_isGood) (as := []) (rest := [vI a, vR 124]) (some (vI 1)) ((rs MI a 0 pl sz br), ML, (GR d e nw th x)) dX12_passes_34 lX12_289 kX12_isGood vX12_isGood (by decide) (by decide +kernel) rfl (Nat.le_of_ble_eq_true rfl) (by decide) rfl rfl rfl (Nat.le_of_ble_eq_true rfl) (fun hM hS Q' hq => w_X12_isGood hq) (fun hM => ?_)
    refine wp_if_eq (tgt := 44) dX12_passes_37 (by decide) (fun q => absurd q (by decide)) (fun _ => ?_)
    refine wp_iconst dX12_passes_40 (by decide) ?_
    refine wp_pc (pc' := 41) rfl ?_
    refine wp_goto (tgt := 45) dX12_passes_41 (by decide) ?_
    refine wp_iaddr dX12_passes_45 (by omega) ?_
    refine wp_putI dX12_passes_46 pX12_276 rfl (by decide) ?_
    refine wp_M (M' := ((rs MI (a + 1) 0 pl sz br), ML, (GR d e nw th x))) (by rw [rs_4]) ?_
    refine wp_aload_n dX12_passes_49 rfl rfl (by first | exact Or.inl (by decide) | exact Or.inl (by omega) | exact Or.inr (by decide) | exact Or.inr (by omega)) ?_
    refine wp_cV (n := 0) (mt' := mX12_isGood) (as := []) (rest := []) (some (vI 1)) ((rs MI (a + 1) 0 pl sz br), ML, (GR d e nw th x)) dX12_passes_50 lX12_289 kX12_isGood vX12_isGood (by decide) (by decide +kernel) rfl (Nat.le_of_ble_eq_true rfl) (by decide) rfl rfl rfl (Nat.le_of_ble_eq_true rfl) (fun hM hS Q' hq => w_X12_isGood hq) (fun hM => ?_)
    exact wp_zret dX12_passes_53 rfl (Or.inr rfl) (fun _ => hT h16)
  · refine wp_aload_n dX12_passes_19 rfl rfl (by first | exact Or.inl (by decide) | exact Or.inl (by omega) | exact Or.inr (by decide) | exact Or.inr (by omega)) ?_
    refine wp_iconst dX12_passes_20 (by decide) ?_
    refine wp_aload_n dX12_passes_21 rfl rfl (by first | exact Or.inl (by decide) | exact Or.inl (by omega) | exact Or.inr (by decide) | exact Or.inr (by omega)) ?_
    refine wp_getI dX12_passes_22 fX12_276 rfl (by decide) ?_
    refine wp_topI (x' := a) rfl ?_
    refine wp_cV (n := 2) (mt' := mX12_fail) (as := [vI ((-1)), vI a]) (rest := []) none ((rs MI a (-1) a sz br), ML, (GR d e nw th x)) dX12_passes_25 lX12_293 kX12_fail vX12_fail (by decide) (by decide +kernel) rfl (Nat.le_of_ble_eq_true rfl) (by decide) rfl rfl rfl (Nat.le_of_ble_eq_true rfl) (fun hM hS Q' hq => w_X12_fail (fun _ => hq) (fun q => absurd rfl q)) (fun hM => ?_)
    refine wp_aload_n dX12_passes_28 rfl rfl (by first | exact Or.inl (by decide) | exact Or.inl (by omega) | exact Or.inr (by decide) | exact Or.inr (by omega)) ?_
    refine wp_dup dX12_passes_29 (fun x e => by cases e) ?_
    refine wp_pc (pc' := 30) rfl ?_
    refine wp_getI dX12_passes_30 fX12_276 rfl (by decide) ?_
    refine wp_topI (x' := a) rfl ?_
    refine wp_aload_n dX12_passes_33 rfl rfl (by first | exact Or.inl (by decide) | exact Or.inl (by omega) | exact Or.inr (by decide) | exact Or.inr (by omega)) ?_
    refine wp_cV (n := 0) (mt' := mX12_isGood) (as := []) (rest := [vI a, vR 124]) (some (vI 0)) ((rs MI a (-1) a sz br), ML, (GR d e nw th x)) dX12_passes_34 lX12_289 kX12_isGood vX12_isGood (by decide) (by decide +kernel) rfl (Nat.le_of_ble_eq_true rfl) (by decide) rfl rfl rfl (Nat.le_of_ble_eq_true rfl) (fun hM hS Q' hq => w_X12_isGood hq) (fun hM => ?_)
    refine wp_if_eq (tgt := 44) dX12_passes_37 (by decide) (fun _ => ?_) (fun q => absurd q (by decide))
    refine wp_iconst dX12_passes_44 (by decide) ?_
    refine wp_iaddr dX12_passes_45 (by omega) ?_
    refine wp_topI (x' := a) (by omega) ?_
    refine wp_putI dX12_passes_46 pX12_276 rfl (by decide) ?_
    refine wp_M (M' := ((rs MI a (-1) a sz br), ML, (GR d e nw th x))) (by rw [rs_4]) ?_
    refine wp_aload_n dX12_passes_49 rfl rfl (by first | exact Or.inl (by decide) | exact Or.inl (by omega) | exact Or.inr (by decide) | exact Or.inr (by omega)) ?_
    refine wp_pc (pc' := 50) rfl ?_
    refine wp_cV (n := 0) (mt' := mX12_isGood) (as := []) (rest := []) (some (vI 0)) ((rs MI a (-1) a sz br), ML, (GR d e nw th x)) dX12_passes_50 lX12_289 kX12_isGood vX12_isGood (by decide) (by decide +kernel) rfl (Nat.le_of_ble_eq_true rfl) (by decide) rfl rfl rfl (Nat.le_of_ble_eq_true rfl) (fun hM hS Q' hq => w_X12_isGood hq) (fun hM => ?_)
    exact wp_zret dX12_passes_53 rfl (Or.inl rfl) (fun _ => hF h16)
theorem w_passes_b {c : Int} (hw : w ≠ 0) (ha : 0 ≤ a ∧ a ≤ 100000) (hQ : Q (some (vI 0)) (Mr MI ML d e nw th x a w pl sz br)) : wp cs mX12_passes KD Q 0 (padL [vR 124, vI c] 2) [] (KD, Mr MI ML d e nw th x a w pl sz br) := by
  refine wp_L (L' := [some (vR 124), some (vI c)]) rfl ?_
  refine wp_aload_n dX12_passes_0 rfl rfl (by first | exact Or.inl (by decide) | exact Or.inl (by omega) | exact Or.inr (by decide) | exact Or.inr (by omega)) ?_
  refine wp_cV (n := 0) (mt' := mX12_isGood) (as := []) (rest := []) (some (vI 0)) ((rs MI a w pl sz br), ML, (GR d e nw th x)) dX12_passes_1 lX12_289 kX12_isGood vX12_isGood (by decide) (by decide +kernel) rfl (Nat.le_of_ble_eq_true rfl) (by decide) rfl rfl rfl (Nat.le_of_ble_eq_true rfl) (fun hM hS Q' hq => w_isGood_b (by assumption) hq) (fun hM => ?_)
  refine wp_if_eq (tgt := 28) dX12_passes_4 (by decide) (fun _ => ?_) (fun q => absurd q (by decide))
  refine wp_aload_n dX12_passes_28 rfl rfl (by first | exact Or.inl (by decide) | exact Or.inl (by omega) | exact Or.inr (by decide) | exact Or.inr (by omega)) ?_
  refine wp_dup dX12_passes_29 (fun x e => by cases e) ?_
  refine wp_getI dX12_passes_30 fX12_276 rfl (by decide) ?_
  refine wp_topI (x' := a) rfl ?_
  refine wp_aload_n dX12_passes_33 rfl rfl (by first | exact Or.inl (by decide) | exact Or.inl (by omega) | exact Or.inr (by decide) | exact Or.inr (by omega)) ?_
  refine wp_pc (pc' := 34) rfl ?_
  refine wp_cV (n := 0) (mt' := mX12_isGood) (as := []) (rest := [vI a, vR 124]) (some (vI 0)) ((rs MI a w pl sz br), ML, (GR d e nw th x)) dX12_passes_34 lX12_289 kX12_isGood vX12_isGood (by decide) (by decide +kernel) rfl (Nat.le_of_ble_eq_true rfl) (by decide) rfl rfl rfl (Nat.le_of_ble_eq_true rfl) (fun hM hS Q' hq => w_isGood_b (by assumption) hq) (fun hM => ?_)
  refine wp_if_eq (tgt := 44) dX12_passes_37 (by decide) (fun _ => ?_) (fun q => absurd q (by decide))
  refine wp_iconst dX12_passes_44 (by decide) ?_
  refine wp_iaddr dX12_passes_45 (by omega) ?_
  refine wp_topI (x' := a) (by omega) ?_
  refine wp_putI dX12_passes_46 pX12_276 rfl (by decide) ?_
  refine wp_M (M' := ((rs MI a w pl sz br), ML, (GR d e nw th x))) (by rw [rs_4]) ?_
  refine wp_aload_n dX12_passes_49 rfl rfl (by first | exact Or.inl (by decide) | exact Or.inl (by omega) | exact Or.inr (by decide) | exact Or.inr (by omega)) ?_
  refine wp_cV (n := 0) (mt' := mX12_isGood) (as := []) (rest := []) (some (vI 0)) ((rs MI a w pl sz br), ML, (GR d e nw th x)) dX12_passes_50 lX12_289 kX12_isGood vX12_isGood (by decide) (by decide +kernel) rfl (Nat.le_of_ble_eq_true rfl) (by decide) rfl rfl rfl (Nat.le_of_ble_eq_true rfl) (fun hM hS Q' hq => w_isGood_b (by assumption) hq) (fun hM => ?_)
  exact wp_zret dX12_passes_53 rfl (Or.inl rfl) (fun _ => hQ)
theorem dX12_takeName_0 : decode cX12_takeName 0 = .ok (.aload_n 0, 1) := by decide +kernel
theorem dX12_takeName_1 : decode cX12_takeName 1 = .ok (.getfield 276, 3) := by decide +kernel
theorem dX12_takeName_4 : decode cX12_takeName 4 = .ok (.istore_n 1, 1) := by decide +kernel
theorem dX12_takeName_5 : decode cX12_takeName 5 = .ok (.aload_n 0, 1) := by decide +kernel
theorem dX12_takeName_6 : decode cX12_takeName 6 = .ok (.invokevirtual 289, 3) := by decide +kernel
theorem dX12_takeName_9 : decode cX12_takeName 9 = .ok (.ifCond .eq 26, 3) := by decide +kernel
theorem dX12_takeName_12 : decode cX12_takeName 12 = .ok (.aload_n 0, 1) := by decide +kernel
theorem dX12_takeName_13 : decode cX12_takeName 13 = .ok (.aload_n 0, 1) := by decide +kernel
theorem dX12_takeName_14 : decode cX12_takeName 14 = .ok (.getfield 276, 3) := by decide +kernel
theorem dX12_takeName_17 : decode cX12_takeName 17 = .ok (.invokevirtual 279, 3) := by decide +kernel
theorem dX12_takeName_20 : decode cX12_takeName 20 = .ok (.invokestatic 268, 3) := by decide +kernel
theorem dX12_takeName_23 : decode cX12_takeName 23 = .ok (.ifCond .ne 12, 3) := by decide +kernel
theorem dX12_takeName_26 : decode cX12_takeName 26 = .ok (.aload_n 0, 1) := by decide +kernel
theorem dX12_takeName_27 : decode cX12_takeName 27 = .ok (.iconst (-1), 1) := by decide +kernel
theorem dX12_takeName_28 : decode cX12_takeName 28 = .ok (.aload_n 0, 1) := by decide +kernel
theorem dX12_takeName_29 : decode cX12_takeName 29 = .ok (.getfield 276, 3) := by decide +kernel
theorem dX12_takeName_32 : decode cX12_takeName 32 = .ok (.invokevirtual 293, 3) := by decide +kernel
theorem dX12_takeName_35 : decode cX12_takeName 35 = .ok (.aload_n 0, 1) := by decide +kernel
theorem dX12_takeName_36 : decode cX12_takeName 36 = .ok (.invokevirtual 289, 3) := by decide +kernel
theorem dX12_takeName_39 : decode cX12_takeName 39 = .ok (.ifCond .eq 30, 3) := by decide +kernel
theorem dX12_takeName_42 : decode cX12_takeName 42 = .ok (.aload_n 0, 1) := by decide +kernel
theorem dX12_takeName_43 : decode cX12_takeName 43 = .ok (.aload_n 0, 1) := by decide +kernel
theorem dX12_takeName_44 : decode cX12_takeName 44 = .ok (.getfield 276, 3) := by decide +kernel
theorem dX12_takeName_47 : decode cX12_takeName 47 = .ok (.invokevirtual 279, 3) := by decide +kernel
theorem dX12_takeName_50 : decode cX12_takeName 50 = .ok (.invokestatic 303, 3) := by decide +kernel
theorem dX12_takeName_53 : decode cX12_takeName 53 = .ok (.ifCond .eq 16, 3) := by decide +kernel
theorem dX12_takeName_56 : decode cX12_takeName 56 = .ok (.aload_n 0, 1) := by decide +kernel
theorem dX12_takeName_57 : decode cX12_takeName 57 = .ok (.dup, 1) := by decide +kernel
theorem dX12_takeName_58 : decode cX12_takeName 58 = .ok (.getfield 276, 3) := by decide +kernel
theorem dX12_takeName_61 : decode cX12_takeName 61 = .ok (.iconst 1, 1) := by decide +kernel
theorem dX12_takeName_62 : decode cX12_takeName 62 = .ok (.iadd, 1) := by decide +kernel
theorem dX12_takeName_63 : decode cX12_takeName 63 = .ok (.putfield 276, 3) := by decide +kernel
theorem dX12_takeName_66 : decode cX12_takeName 66 = .ok (.goto (-31), 3) := by decide +kernel
theorem dX12_takeName_69 : decode cX12_takeName 69 = .ok (.aload_n 0, 1) := by decide +kernel
theorem dX12_takeName_70 : decode cX12_takeName 70 = .ok (.aload_n 0, 1) := by decide +kernel
theorem dX12_takeName_71 : decode cX12_takeName 71 = .ok (.getfield 276, 3) := by decide +kernel
theorem dX12_takeName_74 : decode cX12_takeName 74 = .ok (.iload_n 1, 1) := by decide +kernel
theorem dX12_takeName_75 : decode cX12_takeName 75 = .ok (.isub, 1) := by decide +kernel
theorem dX12_takeName_76 : decode cX12_takeName 76 = .ok (.putfield 306, 3) := by decide +kernel
theorem dX12_takeName_79 : decode cX12_takeName 79 = .ok (.aload_n 0, 1) := by decide +kernel
theorem dX12_takeName_80 : decode cX12_takeName 80 = .ok (.invokevirtual 289, 3) := by decide +kernel
theorem dX12_takeName_83 : decode cX12_takeName 83 = .ok (.ifCond .eq 19, 3) := by decide +kernel
theorem dX12_takeName_86 : decode cX12_takeName 86 = .ok (.aload_n 0, 1) := by decide +kernel
theorem dX12_takeName_87 : decode cX12_takeName 87 = .ok (.getfield 306, 3) := by decide +kernel
theorem dX12_takeName_90 : decode cX12_takeName 90 = .ok (.bipush 20, 2) := by decide +kernel
theorem dX12_takeName_92 : decode cX12_takeName 92 = .ok (.if_icmp .le 10, 3) := by decide +kernel
theorem dX12_takeName_95 : decode cX12_takeName 95 = .ok (.aload_n 0, 1) := by decide +kernel
theorem dX12_takeName_96 : decode cX12_takeName 96 = .ok (.bipush (-3), 2) := by decide +kernel
theorem dX12_takeName_98 : decode cX12_takeName 98 = .ok (.iload_n 1, 1) := by decide +kernel
theorem dX12_takeName_99 : decode cX12_takeName 99 = .ok (.invokevirtual 293, 3) := by decide +kernel
theorem dX12_takeName_102 : decode cX12_takeName 102 = .ok (.iload_n 1, 1) := by decide +kernel
theorem dX12_takeName_103 : decode cX12_takeName 103 = .ok (.ireturn, 1) := by decide +kernel
theorem w_takeName_x (hs0 : 0 ≤ MI 124 3) (hsz : MI 124 3 ≤ 6000) (ha : 0 ≤ a) {g : Int} (hg : a < g ∧ g ≤ a + 6001) (hf : isNs (ob (MI 126) (MI 124 3) a)) (hn : nme (MI 126) (MI 124 3) a = g) (hT : ∀ y, nmS (MI 126) (MI 124 3) a = .inr y → Q (some (vI a)) (Mr MI ML d e nw th x y 0 pl (y - a) br)) (hF : ∀ f p g z, 0 ≤ g ∧ g ≤ 6001 + a → nmS (MI 126) (MI 124 3) a = .inl (f, p) → f ≠ 0 → Q (some (vI a)) (Mr MI ML d e nw th x g f p z br)) : wp cs mX12_takeName KD Q 69 [some (vR 124), some (vI a)] [] (KD, Mr MI ML d e nw th x g 0 pl sz br) := by
  refine wp_ok fun hM0 _ _ => ?_
  have hr2 : -2147483648 ≤ g ∧ g < 2147483648 := hM0.1 124 4
  refine wp_aload_n dX12_takeName_69 rfl rfl (by first | exact Or.inl (by decide) | exact Or.inl (by omega) | exact Or.inr (by decide) | exact Or.inr (by omega)) ?_
  refine wp_aload_n dX12_takeName_70 rfl rfl (by first | exact Or.inl (by decide) | exact Or.inl (by omega) | exact Or.inr (by decide) | exact Or.inr (by omega)) ?_
  refine wp_getI dX12_takeName_71 fX12_276 rfl (by decide) ?_
  refine wp_topI (x' := g) rfl ?_
  refine wp_iload_n dX12_takeName_74 rfl rfl ?_
  refine wp_isubr dX12_takeName_75 (by omega) ?_
  refine wp_putI dX12_takeName_76 pX12_306 rfl (by decide) ?_
  refine wp_M (M' := ((rs MI g 0 pl (g - a) br), ML, (GR d e nw th x))) (by rw [rs_51]) ?_
  refine wp_aload_n dX12_takeName_79 rfl rfl (by first | exact Or.inl (by decide) | exact Or.inl (by omega) | exact Or.inr (by decide) | exact Or.inr (by omega)) ?_
  refine wp_pc (pc' := 80) rfl ?_
  refine wp_cV (n := 0) (mt' := mX12_isGood) (as := []) (rest := []) (some (vI 1)) ((rs MI g 0 pl (g - a) br), ML, (GR d e nw th x)) dX12_takeName_80 lX12_289 kX12_isGood vX12_isGood (by decide) (by decide +kernel) rfl (Nat.le_of_ble_eq_true rfl) (by decide) rfl rfl rfl (Nat.le_of_ble_eq_true rfl) (fun hM hS Q' hq => w_X12_isGood hq) (fun hM => ?_)
  refine wp_if_eq (tgt := 102) dX12_takeName_83 (by decide) (fun q => absurd q (by decide)) (fun _ => ?_)
  refine wp_aload_n dX12_takeName_86 rfl rfl (by first | exact Or.inl (by decide) | exact Or.inl (by omega) | exact Or.inr (by decide) | exact Or.inr (by omega)) ?_
  refine wp_getI dX12_takeName_87 fX12_306 rfl (by decide) ?_
  refine wp_topI (x' := (g - a)) rfl ?_
  refine wp_bipush dX12_takeName_90 (by decide +kernel) (by decide) ?_
  refine wp_icmp_le (tgt := 102) dX12_takeName_92 (by decide) (fun h92 => ?_) (fun h92 => ?_)
  · refine wp_iload_n dX12_takeName_102 rfl rfl ?_
    exact wp_iret dX12_takeName_103 rfl (fun _ => hT _ (by unfold nmS tokS; rw [if_pos hf, hn, if_neg (by omega), if_pos (by omega)]))
  · refine wp_aload_n dX12_takeName_95 rfl rfl (by first | exact Or.inl (by decide) | exact Or.inl (by omega) | exact Or.inr (by decide) | exact Or.inr (by omega)) ?_
    refine wp_bipush dX12_takeName_96 (by decide +kernel) (by decide) ?_
    refine wp_iload_n dX12_takeName_98 rfl rfl ?_
    refine wp_cV (n := 2) (mt' := mX12_fail) (as := [vI ((-3)), vI a]) (rest := []) none ((rs MI g (-3) a (g - a) br), ML, (GR d e nw th x)) dX12_takeName_99 lX12_293 kX12_fail vX12_fail (by decide) (by decide +kernel) rfl (Nat.le_of_ble_eq_true rfl) (by decide) rfl rfl rfl (Nat.le_of_ble_eq_true rfl) (fun hM hS Q' hq => w_X12_fail (fun _ => hq) (fun q => absurd rfl q)) (fun hM => ?_)
    refine wp_iload_n dX12_takeName_102 rfl rfl ?_
    exact wp_iret dX12_takeName_103 rfl (fun _ => hF _ _ _ _ (by omega) (by unfold nmS tokS; rw [if_pos hf, hn, if_neg (by omega), if_neg (by omega)]) (by decide))
theorem w_takeName_l (hs0 : 0 ≤ MI 124 3) (hsz : MI 124 3 ≤ 6000) (ha : 0 ≤ a) (hf : isNs (ob (MI 126) (MI 124 3) a)) (hT : ∀ y, nmS (MI 126) (MI 124 3) a = .inr y → Q (some (vI a)) (Mr MI ML d e nw th x y 0 pl (y - a) br)) (hF : ∀ f p g z, 0 ≤ g ∧ g ≤ 6001 + a → nmS (MI 126) (MI 124 3) a = .inl (f, p) → f ≠ 0 → Q (some (vI a)) (Mr MI ML d e nw th x g f p z br)) : ∀ (k : Nat) (g : Int), (a = g ∨ a < g) ∧ g ≤ a + 6001 ∧ g ≤ MI 124 3 → (MI 124 3 - g).toNat ≤ k → nme (MI 126) (MI 124 3) a = nme (MI 126) (MI 124 3) g → wp cs mX12_takeName KD Q 35 [some (vR 124), some (vI a)] [] (KD, Mr MI ML d e nw th x g 0 pl sz br) := by
  intro k
  have hnb : isNb (ob (MI 126) (MI 124 3) a) := by omega
  induction k with
  | zero =>
    intro g hg hk hi
    refine wp_aload_n dX12_takeName_35 rfl rfl (by first | exact Or.inl (by decide) | exact Or.inl (by omega) | exact Or.inr (by decide) | exact Or.inr (by omega)) ?_
    refine wp_cV (n := 0) (mt' := mX12_isGood) (as := []) (rest := []) (some (vI 1)) ((rs MI g 0 pl sz br), ML, (GR d e nw th x)) dX12_takeName_36 lX12_289 kX12_isGood vX12_isGood (by decide) (by decide +kernel) rfl (Nat.le_of_ble_eq_true rfl) (by decide) rfl rfl rfl (Nat.le_of_ble_eq_true rfl) (fun hM hS Q' hq => w_X12_isGood hq) (fun hM => ?_)
    refine wp_if_eq (tgt := 69) dX12_takeName_39 (by decide) (fun q => absurd q (by decide)) (fun _ => ?_)
    refine wp_aload_n dX12_takeName_42 rfl rfl (by first | exact Or.inl (by decide) | exact Or.inl (by omega) | exact Or.inr (by decide) | exact Or.inr (by omega)) ?_
    refine wp_aload_n dX12_takeName_43 rfl rfl (by first | exact Or.inl (by decide) | exact Or.inl (by omega) | exact Or.inr (by decide) | exact Or.inr (by omega)) ?_
    refine wp_getI dX12_takeName_44 fX12_276 rfl (by decide) ?_
    refine wp_topI (x' := g) rfl ?_
    refine wp_cV (n := 1) (mt' := mX12_octet) (as := [vI g]) (rest := []) (some (vI ((ob (MI 126) (MI 124 3) g)))) ((rs MI g 0 pl sz br), ML, (GR d e nw th x)) dX12_takeName_47 lX12_279 kX12_octet vX12_octet (by decide) (by decide +kernel) rfl (Nat.le_of_ble_eq_true rfl) (by decide) rfl rfl rfl (Nat.le_of_ble_eq_true rfl) (fun hM hS Q' hq => w_X12_octet hs0 hsz (by first | assumption | omega) hq) (fun hM => ?_)
    refine wp_pc (pc' := 50) rfl ?_
    refine wp_cS (n := 1) (mt' := mX12_isNext) (as := [vI ((ob (MI 126) (MI 124 3) g))]) (rest := []) (some (vI ((bI (isNb (ob (MI 126) (MI 124 3) g)))))) ((rs MI g 0 pl sz br), ML, (GR d e nw th x)) dX12_takeName_50 lX12_303 kX12_isNext vX12_isNext (by decide) (by decide +kernel) rfl (Nat.le_of_ble_eq_true rfl) rfl (Nat.le_of_ble_eq_true rfl) (fun hM hS Q' hq => w_X12_isNext hq) (fun hM => ?_)
    by_cases h50 : isNb (ob (MI 126) (MI 124 3) g)
    · refine wp_topI (x' := 1) (if_pos h50) ?_
      refine wp_if_eq (tgt := 69) dX12_takeName_53 (by decide) (fun q => absurd q (by decide)) (fun _ => ?_)
      have hlt := isNb_lt h50
      refine wp_aload_n dX12_takeName_56 rfl rfl (by first | exact Or.inl (by decide) | exact Or.inl (by omega) | exact Or.inr (by decide) | exact Or.inr (by omega)) ?_
      refine wp_dup dX12_takeName_57 (fun x e => by cases e) ?_
      refine wp_getI dX12_takeName_58 fX12_276 rfl (by decide) ?_
      refine wp_topI (x' := g) rfl ?_
      refine wp_iconst dX12_takeName_61 (by decide) ?_
      refine wp_iaddr dX12_takeName_62 (by omega) ?_
      refine wp_putI dX12_takeName_63 pX12_276 rfl (by decide) ?_
      refine wp_M (M' := ((rs MI (g + 1) 0 pl sz br), ML, (GR d e nw th x))) (by rw [rs_4]) ?_
      refine wp_pc (pc' := 66) rfl ?_
      refine wp_goto (tgt := 35) dX12_takeName_66 (by decide) ?_
      exfalso; omega
    · refine wp_topI (x' := 0) (if_neg h50) ?_
      refine wp_if_eq (tgt := 69) dX12_takeName_53 (by decide) (fun _ => ?_) (fun q => absurd q (by decide))
      by_cases q0 : a = g
      · exact absurd (q0 ▸ hnb) h50
      · exact w_takeName_x hs0 hsz ha (by omega) hf (by rw [hi, nme_eq, if_neg (fun q => h50 q.2)]) hT hF
  | succ k ih =>
    intro g hg hk hi
    refine wp_aload_n dX12_takeName_35 rfl rfl (by first | exact Or.inl (by decide) | exact Or.inl (by omega) | exact Or.inr (by decide) | exact Or.inr (by omega)) ?_
    refine wp_cV (n := 0) (mt' := mX12_isGood) (as := []) (rest := []) (some (vI 1)) ((rs MI g 0 pl sz br), ML, (GR d e nw th x)) dX12_takeName_36 lX12_289 kX12_isGood vX12_isGood (by decide) (by decide +kernel) rfl (Nat.le_of_ble_eq_true rfl) (by decide) rfl rfl rfl (Nat.le_of_ble_eq_true rfl) (fun hM hS Q' hq => w_X12_isGood hq) (fun hM => ?_)
    refine wp_if_eq (tgt := 69) dX12_takeName_39 (by decide) (fun q => absurd q (by decide)) (fun _ => ?_)
    refine wp_aload_n dX12_takeName_42 rfl rfl (by first | exact Or.inl (by decide) | exact Or.inl (by omega) | exact Or.inr (by decide) | exact Or.inr (by omega)) ?_
    refine wp_aload_n dX12_takeName_43 rfl rfl (by first | exact Or.inl (by decide) | exact Or.inl (by omega) | exact Or.inr (by decide) | exact Or.inr (by omega)) ?_
    refine wp_getI dX12_takeName_44 fX12_276 rfl (by decide) ?_
    refine wp_topI (x' := g) rfl ?_
    refine wp_cV (n := 1) (mt' := mX12_octet) (as := [vI g]) (rest := []) (some (vI ((ob (MI 126) (MI 124 3) g)))) ((rs MI g 0 pl sz br), ML, (GR d e nw th x)) dX12_takeName_47 lX12_279 kX12_octet vX12_octet (by decide) (by decide +kernel) rfl (Nat.le_of_ble_eq_true rfl) (by decide) rfl rfl rfl (Nat.le_of_ble_eq_true rfl) (fun hM hS Q' hq => w_X12_octet hs0 hsz (by first | assumption | omega) hq) (fun hM => ?_)
    refine wp_pc (pc' := 50) rfl ?_
    refine wp_cS (n := 1) (mt' := mX12_isNext) (as := [vI ((ob (MI 126) (MI 124 3) g))]) (rest := []) (some (vI ((bI (isNb (ob (MI 126) (MI 124 3) g)))))) ((rs MI g 0 pl sz br), ML, (GR d e nw th x)) dX12_takeName_50 lX12_303 kX12_isNext vX12_isNext (by decide) (by decide +kernel) rfl (Nat.le_of_ble_eq_true rfl) rfl (Nat.le_of_ble_eq_true rfl) (fun hM hS Q' hq => w_X12_isNext hq) (fun hM => ?_)
    by_cases h50 : isNb (ob (MI 126) (MI 124 3) g)
    · refine wp_topI (x' := 1) (if_pos h50) ?_
      refine wp_if_eq (tgt := 69) dX12_takeName_53 (by decide) (fun q => absurd q (by decide)) (fun _ => ?_)
      have hlt := isNb_lt h50
      refine wp_aload_n dX12_takeName_56 rfl rfl (by first | exact Or.inl (by decide) | exact Or.inl (by omega) | exact Or.inr (by decide) | exact Or.inr (by omega)) ?_
      refine wp_dup dX12_takeName_57 (fun x e => by cases e) ?_
      refine wp_getI dX12_takeName_58 fX12_276 rfl (by decide) ?_
      refine wp_topI (x' := g) rfl ?_
      refine wp_iconst dX12_takeName_61 (by decide) ?_
      refine wp_iaddr dX12_takeName_62 (by omega) ?_
      refine wp_putI dX12_takeName_63 pX12_276 rfl (by decide) ?_
      refine wp_M (M' := ((rs MI (g + 1) 0 pl sz br), ML, (GR d e nw th x))) (by rw [rs_4]) ?_
      refine wp_pc (pc' := 66) rfl ?_
      refine wp_goto (tgt := 35) dX12_takeName_66 (by decide) ?_
      exact ih (g + 1) (by omega) (by omega) (by rw [hi, nme_eq, if_pos ⟨hlt, h50⟩])
    · refine wp_topI (x' := 0) (if_neg h50) ?_
      refine wp_if_eq (tgt := 69) dX12_takeName_53 (by decide) (fun _ => ?_) (fun q => absurd q (by decide))
      by_cases q0 : a = g
      · exact absurd (q0 ▸ hnb) h50
      · exact w_takeName_x hs0 hsz ha (by omega) hf (by rw [hi, nme_eq, if_neg (fun q => h50 q.2)]) hT hF
theorem w_takeName_g (hs0 : 0 ≤ MI 124 3) (hsz : MI 124 3 ≤ 6000) (ha : 0 ≤ a ∧ a ≤ 100000) (hT : ∀ y, nmS (MI 126) (MI 124 3) a = .inr y → Q (some (vI a)) (Mr MI ML d e nw th x y 0 pl (y - a) br)) (hF : ∀ f p g z, 0 ≤ g ∧ g ≤ 6001 + a → nmS (MI 126) (MI 124 3) a = .inl (f, p) → f ≠ 0 → Q (some (vI a)) (Mr MI ML d e nw th x g f p z br)) : wp cs mX12_takeName KD Q 0 (padL [vR 124] 2) [] (KD, Mr MI ML d e nw th x a 0 pl sz br) := by
  refine wp_L (L' := [some (vR 124), none]) rfl ?_
  refine wp_aload_n dX12_takeName_0 rfl rfl (by first | exact Or.inl (by decide) | exact Or.inl (by omega) | exact Or.inr (by decide) | exact Or.inr (by omega)) ?_
  refine wp_getI dX12_takeName_1 fX12_276 rfl (by decide) ?_
  refine wp_topI (x' := a) rfl ?_
  refine wp_istore_n dX12_takeName_4 rfl (by decide) (wp_L (L' := [some (vR 124), some (vI a)]) rfl ?_)
  refine wp_aload_n dX12_takeName_5 rfl rfl (by first | exact Or.inl (by decide) | exact Or.inl (by omega) | exact Or.inr (by decide) | exact Or.inr (by omega)) ?_
  refine wp_cV (n := 0) (mt' := mX12_isGood) (as := []) (rest := []) (some (vI 1)) ((rs MI a 0 pl sz br), ML, (GR d e nw th x)) dX12_takeName_6 lX12_289 kX12_isGood vX12_isGood (by decide) (by decide +kernel) rfl (Nat.le_of_ble_eq_true rfl) (by decide) rfl rfl rfl (Nat.le_of_ble_eq_true rfl) (fun hM hS Q' hq => w_X12_isGood hq) (fun hM => ?_)
  refine wp_if_eq (tgt := 35) dX12_takeName_9 (by decide) (fun q => absurd q (by decide)) (fun _ => ?_)
  refine wp_aload_n dX12_takeName_12 rfl rfl (by first | exact Or.inl (by decide) | exact Or.inl (by omega) | exact Or.inr (by decide) | exact Or.inr (by omega)) ?_
  refine wp_pc (pc' := 13) rfl ?_
  refine wp_aload_n dX12_takeName_13 rfl rfl (by first | exact Or.inl (by decide) | exact Or.inl (by omega) | exact Or.inr (by decide) | exact Or.inr (by omega)) ?_
  refine wp_getI dX12_takeName_14 fX12_276 rfl (by decide) ?_
  refine wp_topI (x' := a) rfl ?_
  refine wp_cV (n := 1) (mt' := mX12_octet) (as := [vI a]) (rest := []) (some (vI ((ob (MI 126) (MI 124 3) a)))) ((rs MI a 0 pl sz br), ML, (GR d e nw th x)) dX12_takeName_17 lX12_279 kX12_octet vX12_octet (by decide) (by decide +kernel) rfl (Nat.le_of_ble_eq_true rfl) (by decide) rfl rfl rfl (Nat.le_of_ble_eq_true rfl) (fun hM hS Q' hq => w_X12_octet hs0 hsz (by first | assumption | omega) hq) (fun hM => ?_)
  refine wp_cS (n := 1) (mt' := mX12_isFirst) (as := [vI ((ob (MI 126) (MI 124 3) a))]) (rest := []) (some (vI ((bI (isNs (ob (MI 126) (MI 124 3) a)))))) ((rs MI a 0 pl sz br), ML, (GR d e nw th x)) dX12_takeName_20 lX12_268 kX12_isFirst vX12_isFirst (by decide) (by decide +kernel) rfl (Nat.le_of_ble_eq_true rfl) rfl (Nat.le_of_ble_eq_true rfl) (fun hM hS Q' hq => w_X12_isFirst hq) (fun hM => ?_)
  by_cases h20 : isNs (ob (MI 126) (MI 124 3) a)
  · refine wp_topI (x' := 1) (if_pos h20) ?_
    refine wp_if_ne (tgt := 35) dX12_takeName_23 (by decide) (fun _ => ?_) (fun q => absurd q (by decide))
    exact w_takeName_l hs0 hsz ha.1 h20 hT hF _ a ⟨Or.inl rfl, by omega, by have := isNb_lt (T := MI 126) (n := MI 124 3) (h := a) (by omega); omega⟩ (Nat.le_refl _) rfl
  · refine wp_topI (x' := 0) (if_neg h20) ?_
    refine wp_if_ne (tgt := 35) dX12_takeName_23 (by decide) (fun q => absurd q (by decide)) (fun _ => ?_)
    refine wp_aload_n dX12_takeName_26 rfl rfl (by first | exact Or.inl (by decide) | exact Or.inl (by omega) | exact Or.inr (by decide) | exact Or.inr (by omega)) ?_
    refine wp_iconst dX12_takeName_27 (by decide) ?_
    refine wp_aload_n dX12_takeName_28 rfl rfl (by first | exact Or.inl (by decide) | exact Or.inl (by omega) | exact Or.inr (by decide) | exact Or.inr (by omega)) ?_
    refine wp_getI dX12_takeName_29 fX12_276 rfl (by decide) ?_
    refine wp_topI (x' := a) rfl ?_
    refine wp_cV (n := 2) (mt' := mX12_fail) (as := [vI ((-1)), vI a]) (rest := []) none ((rs MI a (-1) a sz br), ML, (GR d e nw th x)) dX12_takeName_32 lX12_293 kX12_fail vX12_fail (by decide) (by decide +kernel) rfl (Nat.le_of_ble_eq_true rfl) (by decide) rfl rfl rfl (Nat.le_of_ble_eq_true rfl) (fun hM hS Q' hq => w_X12_fail (fun _ => hq) (fun q => absurd rfl q)) (fun hM => ?_)
    refine wp_aload_n dX12_takeName_35 rfl rfl (by first | exact Or.inl (by decide) | exact Or.inl (by omega) | exact Or.inr (by decide) | exact Or.inr (by omega)) ?_
    refine wp_cV (n := 0) (mt' := mX12_isGood) (as := []) (rest := []) (some (vI 0)) ((rs MI a (-1) a sz br), ML, (GR d e nw th x)) dX12_takeName_36 lX12_289 kX12_isGood vX12_isGood (by decide) (by decide +kernel) rfl (Nat.le_of_ble_eq_true rfl) (by decide) rfl rfl rfl (Nat.le_of_ble_eq_true rfl) (fun hM hS Q' hq => w_X12_isGood hq) (fun hM => ?_)
    refine wp_if_eq (tgt := 69) dX12_takeName_39 (by decide) (fun _ => ?_) (fun q => absurd q (by decide))
    refine wp_aload_n dX12_takeName_69 rfl rfl (by first | exact Or.inl (by decide) | exact Or.inl (by omega) | exact Or.inr (by decide) | exact Or.inr (by omega)) ?_
    refine wp_aload_n dX12_takeName_70 rfl rfl (by first | exact Or.inl (by decide) | exact Or.inl (by omega) | exact Or.inr (by decide) | exact Or.inr (by omega)) ?_
    refine wp_getI dX12_takeName_71 fX12_276 rfl (by decide) ?_
    refine wp_topI (x' := a) rfl ?_
    refine wp_iload_n dX12_takeName_74 rfl rfl ?_
    refine wp_pc (pc' := 75) rfl ?_
    refine wp_isubr dX12_takeName_75 (by omega) ?_
    refine wp_putI dX12_takeName_76 pX12_306 rfl (by decide) ?_
    refine wp_M (M' := ((rs MI a (-1) a (a - a) br), ML, (GR d e nw th x))) (by rw [rs_51]) ?_
    refine wp_aload_n dX12_takeName_79 rfl rfl (by first | exact Or.inl (by decide) | exact Or.inl (by omega) | exact Or.inr (by decide) | exact Or.inr (by omega)) ?_
    refine wp_cV (n := 0) (mt' := mX12_isGood) (as := []) (rest := []) (some (vI 0)) ((rs MI a (-1) a (a - a) br), ML, (GR d e nw th x)) dX12_takeName_80 lX12_289 kX12_isGood vX12_isGood (by decide) (by decide +kernel) rfl (Nat.le_of_ble_eq_true rfl) (by decide) rfl rfl rfl (Nat.le_of_ble_eq_true rfl) (fun hM hS Q' hq => w_X12_isGood hq) (fun hM => ?_)
    refine wp_if_eq (tgt := 102) dX12_takeName_83 (by decide) (fun _ => ?_) (fun q => absurd q (by decide))
    refine wp_iload_n dX12_takeName_102 rfl rfl ?_
    exact wp_iret dX12_takeName_103 rfl (fun _ => hF _ _ _ _ (by omega) (by unfold nmS; rw [if_neg h20]) (by decide))
theorem w_takeName_b (hw : w ≠ 0) (ha : 0 ≤ a ∧ a ≤ 100000) (hQ : Q (some (vI a)) (Mr MI ML d e nw th x a w pl (a - a) br)) : wp cs mX12_takeName KD Q 0 (padL [vR 124] 2) [] (KD, Mr MI ML d e nw th x a w pl sz br) := by
  refine wp_L (L' := [some (vR 124), none]) rfl ?_
  refine wp_aload_n dX12_takeName_0 rfl rfl (by first | exact Or.inl (by decide) | exact Or.inl (by omega) | exact Or.inr (by decide) | exact Or.inr (by omega)) ?_
  refine wp_getI dX12_takeName_1 fX12_276 rfl (by decide) ?_
  refine wp_topI (x' := a) rfl ?_
  refine wp_istore_n dX12_takeName_4 rfl (by decide) (wp_L (L' := [some (vR 124), some (vI a)]) rfl ?_)
  refine wp_aload_n dX12_takeName_5 rfl rfl (by first | exact Or.inl (by decide) | exact Or.inl (by omega) | exact Or.inr (by decide) | exact Or.inr (by omega)) ?_
  refine wp_cV (n := 0) (mt' := mX12_isGood) (as := []) (rest := []) (some (vI 0)) ((rs MI a w pl sz br), ML, (GR d e nw th x)) dX12_takeName_6 lX12_289 kX12_isGood vX12_isGood (by decide) (by decide +kernel) rfl (Nat.le_of_ble_eq_true rfl) (by decide) rfl rfl rfl (Nat.le_of_ble_eq_true rfl) (fun hM hS Q' hq => w_isGood_b (by assumption) hq) (fun hM => ?_)
  refine wp_if_eq (tgt := 35) dX12_takeName_9 (by decide) (fun _ => ?_) (fun q => absurd q (by decide))
  refine wp_aload_n dX12_takeName_35 rfl rfl (by first | exact Or.inl (by decide) | exact Or.inl (by omega) | exact Or.inr (by decide) | exact Or.inr (by omega)) ?_
  refine wp_pc (pc' := 36) rfl ?_
  refine wp_cV (n := 0) (mt' := mX12_isGood) (as := []) (rest := []) (some (vI 0)) ((rs MI a w pl sz br), ML, (GR d e nw th x)) dX12_takeName_36 lX12_289 kX12_isGood vX12_isGood (by decide) (by decide +kernel) rfl (Nat.le_of_ble_eq_true rfl) (by decide) rfl rfl rfl (Nat.le_of_ble_eq_true rfl) (fun hM hS Q' hq => w_isGood_b (by assumption) hq) (fun hM => ?_)
  refine wp_if_eq (tgt := 69) dX12_takeName_39 (by decide) (fun _ => ?_) (fun q => absurd q (by decide))
  refine wp_aload_n dX12_takeName_69 rfl rfl (by first | exact Or.inl (by decide) | exact Or.inl (by omega) | exact Or.inr (by decide) | exact Or.inr (by omega)) ?_
  refine wp_aload_n dX12_takeName_70 rfl rfl (by first | exact Or.inl (by decide) | exact Or.inl (by omega) | exact Or.inr (by decide) | exact Or.inr (by omega)) ?_
  refine wp_getI dX12_takeName_71 fX12_276 rfl (by decide) ?_
  refine wp_topI (x' := a) rfl ?_
  refine wp_iload_n dX12_takeName_74 rfl rfl ?_
  refine wp_isubr dX12_takeName_75 (by omega) ?_
  refine wp_putI dX12_takeName_76 pX12_306 rfl (by decide) ?_
  refine wp_M (M' := ((rs MI a w pl (a - a) br), ML, (GR d e nw th x))) (by rw [rs_51]) ?_
  refine wp_pc (pc' := 79) rfl ?_
  refine wp_aload_n dX12_takeName_79 rfl rfl (by first | exact Or.inl (by decide) | exact Or.inl (by omega) | exact Or.inr (by decide) | exact Or.inr (by omega)) ?_
  refine wp_cV (n := 0) (mt' := mX12_isGood) (as := []) (rest := []) (some (vI 0)) ((rs MI a w pl (a - a) br), ML, (GR d e nw th x)) dX12_takeName_80 lX12_289 kX12_isGood vX12_isGood (by decide) (by decide +kernel) rfl (Nat.le_of_ble_eq_true rfl) (by decide) rfl rfl rfl (Nat.le_of_ble_eq_true rfl) (fun hM hS Q' hq => w_isGood_b (by assumption) hq) (fun hM => ?_)
  refine wp_if_eq (tgt := 102) dX12_takeName_83 (by decide) (fun _ => ?_) (fun q => absurd q (by decide))
  refine wp_iload_n dX12_takeName_102 rfl rfl ?_
  exact wp_iret dX12_takeName_103 rfl (fun _ => hQ)
end P24
