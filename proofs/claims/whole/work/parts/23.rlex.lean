/-- the reference's changing fields of reading: at, wrong, place, sized, byRef -/
def rs (MI : Nat → Nat → Int) (a w pl sz br : Int) : Nat → Nat → Int := fun i k => if i = 124 then (if k = 4 then a else if k = 5 then w else if k = 6 then pl else if k = 51 then sz else if k = 52 then br else MI i k) else MI i k
theorem rs_4 {MI : Nat → Nat → Int} {a w pl sz br y : Int} : up2 (rs MI a w pl sz br) 124 4 y = rs MI y w pl sz br := by
  funext i j; unfold up2 rs; by_cases hi : i = 124 <;> by_cases hj : j = 4 <;> simp [hi, hj]
theorem rs_5 {MI : Nat → Nat → Int} {a w pl sz br y : Int} : up2 (rs MI a w pl sz br) 124 5 y = rs MI a y pl sz br := by
  funext i j; unfold up2 rs; by_cases hi : i = 124 <;> by_cases hj : j = 5 <;> simp [hi, hj]
theorem rs_6 {MI : Nat → Nat → Int} {a w pl sz br y : Int} : up2 (rs MI a w pl sz br) 124 6 y = rs MI a w y sz br := by
  funext i j; unfold up2 rs; by_cases hi : i = 124 <;> by_cases hj : j = 6 <;> simp [hi, hj]
theorem rs_51 {MI : Nat → Nat → Int} {a w pl sz br y : Int} : up2 (rs MI a w pl sz br) 124 51 y = rs MI a w pl y br := by
  funext i j; unfold up2 rs; by_cases hi : i = 124 <;> by_cases hj : j = 51 <;> simp [hi, hj]
theorem rs_52 {MI : Nat → Nat → Int} {a w pl sz br y : Int} : up2 (rs MI a w pl sz br) 124 52 y = rs MI a w pl sz y := by
  funext i j; unfold up2 rs; by_cases hi : i = 124 <;> by_cases hj : j = 52 <;> simp [hi, hj]
theorem rs_off {MI : Nat → Nat → Int} {a w pl sz br : Int} {i : Nat} (hi : i ≠ 124) (j : Nat) : rs MI a w pl sz br i j = MI i j := by simp [rs, hi]
abbrev Mr (MI ML : Nat → Nat → Int) (d e nw th x : Nat) (a w pl sz br : Int) : Mm := (rs MI a w pl sz br, ML, GR d e nw th x)
theorem l_cmp_z {x y : Int} (h : l_cmp x y = 0) : x = y := by unfold l_cmp at h; split at h; omega; split at h; assumption; omega
theorem l_cmp_nz {x y : Int} (h : l_cmp x y ≠ 0) : x ≠ y := by unfold l_cmp at h; split at h; omega; split at h; omega; assumption
/-- the bytes of a long's last n -/
def wb (z : Int) (n : Nat) (j : Nat) : Int := l_and (l_shr z (8 * ((n : Int) - 1 - j))) 255
def wbl (z : Int) (n : Nat) : List Int := (List.range n).map (wb z n)
section P23
variable {cs : Cs} {kf : Kd} {Q : Option AV → Mm → Prop} {MI ML : Nat → Nat → Int} {d e nw th x : Nat} {a w pl sz br : Int} {M : Mm}
theorem dX12_in_0 : decode cX12_in 0 = .ok (.lload_n 0, 1) := by decide +kernel
theorem dX12_in_1 : decode cX12_in 1 = .ok (.lload_n 2, 1) := by decide +kernel
theorem dX12_in_2 : decode cX12_in 2 = .ok (.lcmp, 1) := by decide +kernel
theorem dX12_in_3 : decode cX12_in 3 = .ok (.ifCond .lt 14, 3) := by decide +kernel
theorem dX12_in_6 : decode cX12_in 6 = .ok (.lload_n 0, 1) := by decide +kernel
theorem dX12_in_7 : decode cX12_in 7 = .ok (.lload 4, 2) := by decide +kernel
theorem dX12_in_9 : decode cX12_in 9 = .ok (.lcmp, 1) := by decide +kernel
theorem dX12_in_10 : decode cX12_in 10 = .ok (.ifCond .gt 7, 3) := by decide +kernel
theorem dX12_in_13 : decode cX12_in 13 = .ok (.iconst 1, 1) := by decide +kernel
theorem dX12_in_14 : decode cX12_in 14 = .ok (.goto 4, 3) := by decide +kernel
theorem dX12_in_17 : decode cX12_in 17 = .ok (.iconst 0, 1) := by decide +kernel
theorem dX12_in_18 : decode cX12_in 18 = .ok (.ireturn, 1) := by decide +kernel
theorem w_X12_in {u lo hi : Int} (hQ : Q (some (vI (bI (lo ≤ u ∧ u ≤ hi)))) M) : wp cs mX12_in kf Q 0 (padL [vL u, vL lo, vL hi] 6) [] (kf, M) := by
  refine wp_L (L' := [some (vL u), none, some (vL lo), none, some (vL hi), none]) rfl ?_
  refine wp_lload_n dX12_in_0 rfl rfl ?_
  refine wp_lload_n dX12_in_1 rfl rfl ?_
  refine wp_lcmp dX12_in_2 ?_
  refine wp_if_lt (tgt := 17) dX12_in_3 (by decide) (fun h3 => ?_) (fun h3 => ?_)
  · refine wp_iconst dX12_in_17 (by decide) ?_
    exact wp_zret dX12_in_18 rfl (Or.inl rfl) (fun _ => by first | (have q1 := l_cmp_lt h3; rw [show bI (lo ≤ u ∧ u ≤ hi) = 0 from if_neg (by omega)] at hQ; exact hQ) | (have q2 := l_cmp_gt h10; rw [show bI (lo ≤ u ∧ u ≤ hi) = 0 from if_neg (by omega)] at hQ; exact hQ))
  · refine wp_lload_n dX12_in_6 rfl rfl ?_
    refine wp_lload dX12_in_7 rfl ?_
    refine wp_lcmp dX12_in_9 ?_
    refine wp_if_gt (tgt := 17) dX12_in_10 (by decide) (fun h10 => ?_) (fun h10 => ?_)
    · refine wp_iconst dX12_in_17 (by decide) ?_
      exact wp_zret dX12_in_18 rfl (Or.inl rfl) (fun _ => by first | (have q1 := l_cmp_lt h3; rw [show bI (lo ≤ u ∧ u ≤ hi) = 0 from if_neg (by omega)] at hQ; exact hQ) | (have q2 := l_cmp_gt h10; rw [show bI (lo ≤ u ∧ u ≤ hi) = 0 from if_neg (by omega)] at hQ; exact hQ))
    · refine wp_iconst dX12_in_13 (by decide) ?_
      refine wp_goto (tgt := 18) dX12_in_14 (by decide) ?_
      exact wp_zret dX12_in_18 rfl (Or.inr rfl) (fun _ => by have q1 := l_cmp_ge h3; have q2 := l_cmp_le h10; rw [show bI (lo ≤ u ∧ u ≤ hi) = 1 from if_pos ⟨q1, q2⟩] at hQ; exact hQ)
theorem dX12_isChar_0 : decode cX12_isChar 0 = .ok (.iload_n 0, 1) := by decide +kernel
theorem dX12_isChar_1 : decode cX12_isChar 1 = .ok (.bipush 9, 2) := by decide +kernel
theorem dX12_isChar_3 : decode cX12_isChar 3 = .ok (.if_icmp .eq 29, 3) := by decide +kernel
theorem dX12_isChar_6 : decode cX12_isChar 6 = .ok (.iload_n 0, 1) := by decide +kernel
theorem dX12_isChar_7 : decode cX12_isChar 7 = .ok (.bipush 10, 2) := by decide +kernel
theorem dX12_isChar_9 : decode cX12_isChar 9 = .ok (.if_icmp .eq 23, 3) := by decide +kernel
theorem dX12_isChar_12 : decode cX12_isChar 12 = .ok (.iload_n 0, 1) := by decide +kernel
theorem dX12_isChar_13 : decode cX12_isChar 13 = .ok (.bipush 13, 2) := by decide +kernel
theorem dX12_isChar_15 : decode cX12_isChar 15 = .ok (.if_icmp .eq 17, 3) := by decide +kernel
theorem dX12_isChar_18 : decode cX12_isChar 18 = .ok (.iload_n 0, 1) := by decide +kernel
theorem dX12_isChar_19 : decode cX12_isChar 19 = .ok (.i2l, 1) := by decide +kernel
theorem dX12_isChar_20 : decode cX12_isChar 20 = .ok (.ldc2_w 252, 3) := by decide +kernel
theorem dX12_isChar_23 : decode cX12_isChar 23 = .ok (.ldc2_w 254, 3) := by decide +kernel
theorem dX12_isChar_26 : decode cX12_isChar 26 = .ok (.invokestatic 256, 3) := by decide +kernel
theorem dX12_isChar_29 : decode cX12_isChar 29 = .ok (.ifCond .eq 7, 3) := by decide +kernel
theorem dX12_isChar_32 : decode cX12_isChar 32 = .ok (.iconst 1, 1) := by decide +kernel
theorem dX12_isChar_33 : decode cX12_isChar 33 = .ok (.goto 4, 3) := by decide +kernel
theorem dX12_isChar_36 : decode cX12_isChar 36 = .ok (.iconst 0, 1) := by decide +kernel
theorem dX12_isChar_37 : decode cX12_isChar 37 = .ok (.ireturn, 1) := by decide +kernel
theorem w_X12_isChar {c : Int} (hQ : Q (some (vI (bI (isCh c)))) M) : wp cs mX12_isChar kf Q 0 (padL [vI c] 1) [] (kf, M) := by
  refine wp_L (L' := [some (vI c)]) rfl ?_
  refine wp_iload_n dX12_isChar_0 rfl rfl ?_
  refine wp_bipush dX12_isChar_1 (by decide +kernel) (by decide) ?_
  refine wp_icmp_eq (tgt := 32) dX12_isChar_3 (by decide) (fun h3 => ?_) (fun h3 => ?_)
  · refine wp_iconst dX12_isChar_32 (by decide) ?_
    refine wp_goto (tgt := 37) dX12_isChar_33 (by decide) ?_
    exact wp_zret dX12_isChar_37 rfl (Or.inr rfl) (fun _ => by rw [show bI (isCh c) = 1 from if_pos (by omega)] at hQ; exact hQ)
  · refine wp_iload_n dX12_isChar_6 rfl rfl ?_
    refine wp_bipush dX12_isChar_7 (by decide +kernel) (by decide) ?_
    refine wp_icmp_eq (tgt := 32) dX12_isChar_9 (by decide) (fun h9 => ?_) (fun h9 => ?_)
    · refine wp_iconst dX12_isChar_32 (by decide) ?_
      refine wp_goto (tgt := 37) dX12_isChar_33 (by decide) ?_
      exact wp_zret dX12_isChar_37 rfl (Or.inr rfl) (fun _ => by rw [show bI (isCh c) = 1 from if_pos (by omega)] at hQ; exact hQ)
    · refine wp_iload_n dX12_isChar_12 rfl rfl ?_
      refine wp_bipush dX12_isChar_13 (by decide +kernel) (by decide) ?_
      refine wp_icmp_eq (tgt := 32) dX12_isChar_15 (by decide) (fun h15 => ?_) (fun h15 => ?_)
      · refine wp_iconst dX12_isChar_32 (by decide) ?_
        refine wp_goto (tgt := 37) dX12_isChar_33 (by decide) ?_
        exact wp_zret dX12_isChar_37 rfl (Or.inr rfl) (fun _ => by rw [show bI (isCh c) = 1 from if_pos (by omega)] at hQ; exact hQ)
      · refine wp_iload_n dX12_isChar_18 rfl rfl ?_
        refine wp_i2l dX12_isChar_19 ?_
        refine wp_ldc2 (x := 32) dX12_isChar_20 cX12_252 (by decide) ?_
        refine wp_ldc2 (x := 126) dX12_isChar_23 cX12_254 (by decide) ?_
        refine wp_cS (n := 3) (mt' := mX12_in) (as := [vL c, vL 32, vL 126]) (rest := []) (some (vI ((bI (32 ≤ c ∧ c ≤ 126))))) (M.1, M.2.1, M.2.2) dX12_isChar_26 lX12_256 kX12_in vX12_in (by decide) (by decide +kernel) rfl (Nat.le_of_ble_eq_true rfl) rfl (Nat.le_of_ble_eq_true rfl) (fun hM hS Q' hq => w_X12_in hq) (fun hM => ?_)
        by_cases h26 : 32 ≤ c ∧ c ≤ 126
        · refine wp_topI (x' := 1) (if_pos h26) ?_
          refine wp_if_eq (tgt := 36) dX12_isChar_29 (by decide) (fun q => absurd q (by decide)) (fun _ => ?_)
          refine wp_iconst dX12_isChar_32 (by decide) ?_
          refine wp_goto (tgt := 37) dX12_isChar_33 (by decide) ?_
          exact wp_zret dX12_isChar_37 rfl (Or.inr rfl) (fun _ => by rw [show bI (isCh c) = 1 from if_pos (by omega)] at hQ; exact hQ)
        · refine wp_topI (x' := 0) (if_neg h26) ?_
          refine wp_if_eq (tgt := 36) dX12_isChar_29 (by decide) (fun _ => ?_) (fun q => absurd q (by decide))
          refine wp_iconst dX12_isChar_36 (by decide) ?_
          exact wp_zret dX12_isChar_37 rfl (Or.inl rfl) (fun _ => by rw [show bI (isCh c) = 0 from if_neg (by omega)] at hQ; exact hQ)
theorem dX12_isFirst_0 : decode cX12_isFirst 0 = .ok (.iload_n 0, 1) := by decide +kernel
theorem dX12_isFirst_1 : decode cX12_isFirst 1 = .ok (.i2l, 1) := by decide +kernel
theorem dX12_isFirst_2 : decode cX12_isFirst 2 = .ok (.ldc2_w 260, 3) := by decide +kernel
theorem dX12_isFirst_5 : decode cX12_isFirst 5 = .ok (.ldc2_w 262, 3) := by decide +kernel
theorem dX12_isFirst_8 : decode cX12_isFirst 8 = .ok (.invokestatic 256, 3) := by decide +kernel
theorem dX12_isFirst_11 : decode cX12_isFirst 11 = .ok (.ifCond .ne 23, 3) := by decide +kernel
theorem dX12_isFirst_14 : decode cX12_isFirst 14 = .ok (.iload_n 0, 1) := by decide +kernel
theorem dX12_isFirst_15 : decode cX12_isFirst 15 = .ok (.i2l, 1) := by decide +kernel
theorem dX12_isFirst_16 : decode cX12_isFirst 16 = .ok (.ldc2_w 264, 3) := by decide +kernel
theorem dX12_isFirst_19 : decode cX12_isFirst 19 = .ok (.ldc2_w 266, 3) := by decide +kernel
theorem dX12_isFirst_22 : decode cX12_isFirst 22 = .ok (.invokestatic 256, 3) := by decide +kernel
theorem dX12_isFirst_25 : decode cX12_isFirst 25 = .ok (.ifCond .ne 9, 3) := by decide +kernel
theorem dX12_isFirst_28 : decode cX12_isFirst 28 = .ok (.iload_n 0, 1) := by decide +kernel
theorem dX12_isFirst_29 : decode cX12_isFirst 29 = .ok (.bipush 95, 2) := by decide +kernel
theorem dX12_isFirst_31 : decode cX12_isFirst 31 = .ok (.if_icmp .ne 7, 3) := by decide +kernel
theorem dX12_isFirst_34 : decode cX12_isFirst 34 = .ok (.iconst 1, 1) := by decide +kernel
theorem dX12_isFirst_35 : decode cX12_isFirst 35 = .ok (.goto 4, 3) := by decide +kernel
theorem dX12_isFirst_38 : decode cX12_isFirst 38 = .ok (.iconst 0, 1) := by decide +kernel
theorem dX12_isFirst_39 : decode cX12_isFirst 39 = .ok (.ireturn, 1) := by decide +kernel
theorem w_X12_isFirst {c : Int} (hQ : Q (some (vI (bI (isNs c)))) M) : wp cs mX12_isFirst kf Q 0 (padL [vI c] 1) [] (kf, M) := by
  refine wp_L (L' := [some (vI c)]) rfl ?_
  refine wp_iload_n dX12_isFirst_0 rfl rfl ?_
  refine wp_i2l dX12_isFirst_1 ?_
  refine wp_ldc2 (x := 97) dX12_isFirst_2 cX12_260 (by decide) ?_
  refine wp_ldc2 (x := 122) dX12_isFirst_5 cX12_262 (by decide) ?_
  refine wp_cS (n := 3) (mt' := mX12_in) (as := [vL c, vL 97, vL 122]) (rest := []) (some (vI ((bI (97 ≤ c ∧ c ≤ 122))))) (M.1, M.2.1, M.2.2) dX12_isFirst_8 lX12_256 kX12_in vX12_in (by decide) (by decide +kernel) rfl (Nat.le_of_ble_eq_true rfl) rfl (Nat.le_of_ble_eq_true rfl) (fun hM hS Q' hq => w_X12_in hq) (fun hM => ?_)
  by_cases h8 : 97 ≤ c ∧ c ≤ 122
  · refine wp_topI (x' := 1) (if_pos h8) ?_
    refine wp_if_ne (tgt := 34) dX12_isFirst_11 (by decide) (fun _ => ?_) (fun q => absurd q (by decide))
    refine wp_iconst dX12_isFirst_34 (by decide) ?_
    refine wp_goto (tgt := 39) dX12_isFirst_35 (by decide) ?_
    exact wp_zret dX12_isFirst_39 rfl (Or.inr rfl) (fun _ => by rw [show bI (isNs c) = 1 from if_pos (by omega)] at hQ; exact hQ)
  · refine wp_topI (x' := 0) (if_neg h8) ?_
    refine wp_if_ne (tgt := 34) dX12_isFirst_11 (by decide) (fun q => absurd q (by decide)) (fun _ => ?_)
    refine wp_iload_n dX12_isFirst_14 rfl rfl ?_
    refine wp_i2l dX12_isFirst_15 ?_
    refine wp_ldc2 (x := 65) dX12_isFirst_16 cX12_264 (by decide) ?_
    refine wp_ldc2 (x := 90) dX12_isFirst_19 cX12_266 (by decide) ?_
    refine wp_cS (n := 3) (mt' := mX12_in) (as := [vL c, vL 65, vL 90]) (rest := []) (some (vI ((bI (65 ≤ c ∧ c ≤ 90))))) (M.1, M.2.1, M.2.2) dX12_isFirst_22 lX12_256 kX12_in vX12_in (by decide) (by decide +kernel) rfl (Nat.le_of_ble_eq_true rfl) rfl (Nat.le_of_ble_eq_true rfl) (fun hM hS Q' hq => w_X12_in hq) (fun hM => ?_)
    by_cases h22 : 65 ≤ c ∧ c ≤ 90
    · refine wp_topI (x' := 1) (if_pos h22) ?_
      refine wp_if_ne (tgt := 34) dX12_isFirst_25 (by decide) (fun _ => ?_) (fun q => absurd q (by decide))
      refine wp_iconst dX12_isFirst_34 (by decide) ?_
      refine wp_goto (tgt := 39) dX12_isFirst_35 (by decide) ?_
      exact wp_zret dX12_isFirst_39 rfl (Or.inr rfl) (fun _ => by rw [show bI (isNs c) = 1 from if_pos (by omega)] at hQ; exact hQ)
    · refine wp_topI (x' := 0) (if_neg h22) ?_
      refine wp_if_ne (tgt := 34) dX12_isFirst_25 (by decide) (fun q => absurd q (by decide)) (fun _ => ?_)
      refine wp_iload_n dX12_isFirst_28 rfl rfl ?_
      refine wp_bipush dX12_isFirst_29 (by decide +kernel) (by decide) ?_
      refine wp_icmp_ne (tgt := 38) dX12_isFirst_31 (by decide) (fun h31 => ?_) (fun h31 => ?_)
      · refine wp_iconst dX12_isFirst_38 (by decide) ?_
        exact wp_zret dX12_isFirst_39 rfl (Or.inl rfl) (fun _ => by rw [show bI (isNs c) = 0 from if_neg (by omega)] at hQ; exact hQ)
      · refine wp_iconst dX12_isFirst_34 (by decide) ?_
        refine wp_goto (tgt := 39) dX12_isFirst_35 (by decide) ?_
        exact wp_zret dX12_isFirst_39 rfl (Or.inr rfl) (fun _ => by rw [show bI (isNs c) = 1 from if_pos (by omega)] at hQ; exact hQ)
theorem dX12_isNext_0 : decode cX12_isNext 0 = .ok (.iload_n 0, 1) := by decide +kernel
theorem dX12_isNext_1 : decode cX12_isNext 1 = .ok (.invokestatic 268, 3) := by decide +kernel
theorem dX12_isNext_4 : decode cX12_isNext 4 = .ok (.ifCond .ne 29, 3) := by decide +kernel
theorem dX12_isNext_7 : decode cX12_isNext 7 = .ok (.iload_n 0, 1) := by decide +kernel
theorem dX12_isNext_8 : decode cX12_isNext 8 = .ok (.i2l, 1) := by decide +kernel
theorem dX12_isNext_9 : decode cX12_isNext 9 = .ok (.ldc2_w 272, 3) := by decide +kernel
theorem dX12_isNext_12 : decode cX12_isNext 12 = .ok (.ldc2_w 274, 3) := by decide +kernel
theorem dX12_isNext_15 : decode cX12_isNext 15 = .ok (.invokestatic 256, 3) := by decide +kernel
theorem dX12_isNext_18 : decode cX12_isNext 18 = .ok (.ifCond .ne 15, 3) := by decide +kernel
theorem dX12_isNext_21 : decode cX12_isNext 21 = .ok (.iload_n 0, 1) := by decide +kernel
theorem dX12_isNext_22 : decode cX12_isNext 22 = .ok (.bipush 45, 2) := by decide +kernel
theorem dX12_isNext_24 : decode cX12_isNext 24 = .ok (.if_icmp .eq 9, 3) := by decide +kernel
theorem dX12_isNext_27 : decode cX12_isNext 27 = .ok (.iload_n 0, 1) := by decide +kernel
theorem dX12_isNext_28 : decode cX12_isNext 28 = .ok (.bipush 46, 2) := by decide +kernel
theorem dX12_isNext_30 : decode cX12_isNext 30 = .ok (.if_icmp .ne 7, 3) := by decide +kernel
theorem dX12_isNext_33 : decode cX12_isNext 33 = .ok (.iconst 1, 1) := by decide +kernel
theorem dX12_isNext_34 : decode cX12_isNext 34 = .ok (.goto 4, 3) := by decide +kernel
theorem dX12_isNext_37 : decode cX12_isNext 37 = .ok (.iconst 0, 1) := by decide +kernel
theorem dX12_isNext_38 : decode cX12_isNext 38 = .ok (.ireturn, 1) := by decide +kernel
theorem w_X12_isNext {c : Int} (hQ : Q (some (vI (bI (isNb c)))) M) : wp cs mX12_isNext kf Q 0 (padL [vI c] 1) [] (kf, M) := by
  refine wp_L (L' := [some (vI c)]) rfl ?_
  refine wp_iload_n dX12_isNext_0 rfl rfl ?_
  refine wp_cS (n := 1) (mt' := mX12_isFirst) (as := [vI c]) (rest := []) (some (vI ((bI (isNs c))))) (M.1, M.2.1, M.2.2) dX12_isNext_1 lX12_268 kX12_isFirst vX12_isFirst (by decide) (by decide +kernel) rfl (Nat.le_of_ble_eq_true rfl) rfl (Nat.le_of_ble_eq_true rfl) (fun hM hS Q' hq => w_X12_isFirst hq) (fun hM => ?_)
  by_cases h1 : isNs c
  · refine wp_topI (x' := 1) (if_pos h1) ?_
    refine wp_if_ne (tgt := 33) dX12_isNext_4 (by decide) (fun _ => ?_) (fun q => absurd q (by decide))
    refine wp_iconst dX12_isNext_33 (by decide) ?_
    refine wp_goto (tgt := 38) dX12_isNext_34 (by decide) ?_
    exact wp_zret dX12_isNext_38 rfl (Or.inr rfl) (fun _ => by rw [show bI (isNb c) = 1 from if_pos (by omega)] at hQ; exact hQ)
  · refine wp_topI (x' := 0) (if_neg h1) ?_
    refine wp_if_ne (tgt := 33) dX12_isNext_4 (by decide) (fun q => absurd q (by decide)) (fun _ => ?_)
    refine wp_iload_n dX12_isNext_7 rfl rfl ?_
    refine wp_i2l dX12_isNext_8 ?_
    refine wp_ldc2 (x := 48) dX12_isNext_9 cX12_272 (by decide) ?_
    refine wp_ldc2 (x := 57) dX12_isNext_12 cX12_274 (by decide) ?_
    refine wp_cS (n := 3) (mt' := mX12_in) (as := [vL c, vL 48, vL 57]) (rest := []) (some (vI ((bI (48 ≤ c ∧ c ≤ 57))))) (M.1, M.2.1, M.2.2) dX12_isNext_15 lX12_256 kX12_in vX12_in (by decide) (by decide +kernel) rfl (Nat.le_of_ble_eq_true rfl) rfl (Nat.le_of_ble_eq_true rfl) (fun hM hS Q' hq => w_X12_in hq) (fun hM => ?_)
    by_cases h15 : 48 ≤ c ∧ c ≤ 57
    · refine wp_topI (x' := 1) (if_pos h15) ?_
      refine wp_if_ne (tgt := 33) dX12_isNext_18 (by decide) (fun _ => ?_) (fun q => absurd q (by decide))
      refine wp_iconst dX12_isNext_33 (by decide) ?_
      refine wp_goto (tgt := 38) dX12_isNext_34 (by decide) ?_
      exact wp_zret dX12_isNext_38 rfl (Or.inr rfl) (fun _ => by rw [show bI (isNb c) = 1 from if_pos (by omega)] at hQ; exact hQ)
    · refine wp_topI (x' := 0) (if_neg h15) ?_
      refine wp_if_ne (tgt := 33) dX12_isNext_18 (by decide) (fun q => absurd q (by decide)) (fun _ => ?_)
      refine wp_iload_n dX12_isNext_21 rfl rfl ?_
      refine wp_bipush dX12_isNext_22 (by decide +kernel) (by decide) ?_
      refine wp_icmp_eq (tgt := 33) dX12_isNext_24 (by decide) (fun h24 => ?_) (fun h24 => ?_)
      · refine wp_iconst dX12_isNext_33 (by decide) ?_
        refine wp_goto (tgt := 38) dX12_isNext_34 (by decide) ?_
        exact wp_zret dX12_isNext_38 rfl (Or.inr rfl) (fun _ => by rw [show bI (isNb c) = 1 from if_pos (by omega)] at hQ; exact hQ)
      · refine wp_iload_n dX12_isNext_27 rfl rfl ?_
        refine wp_bipush dX12_isNext_28 (by decide +kernel) (by decide) ?_
        refine wp_icmp_ne (tgt := 37) dX12_isNext_30 (by decide) (fun h30 => ?_) (fun h30 => ?_)
        · refine wp_iconst dX12_isNext_37 (by decide) ?_
          exact wp_zret dX12_isNext_38 rfl (Or.inl rfl) (fun _ => by rw [show bI (isNb c) = 0 from if_neg (by omega)] at hQ; exact hQ)
        · refine wp_iconst dX12_isNext_33 (by decide) ?_
          refine wp_goto (tgt := 38) dX12_isNext_34 (by decide) ?_
          exact wp_zret dX12_isNext_38 rfl (Or.inr rfl) (fun _ => by rw [show bI (isNb c) = 1 from if_pos (by omega)] at hQ; exact hQ)
theorem dX12_isGood_0 : decode cX12_isGood 0 = .ok (.aload_n 0, 1) := by decide +kernel
theorem dX12_isGood_1 : decode cX12_isGood 1 = .ok (.getfield 246, 3) := by decide +kernel
theorem dX12_isGood_4 : decode cX12_isGood 4 = .ok (.ifCond .ne 7, 3) := by decide +kernel
theorem dX12_isGood_7 : decode cX12_isGood 7 = .ok (.iconst 1, 1) := by decide +kernel
theorem dX12_isGood_8 : decode cX12_isGood 8 = .ok (.goto 4, 3) := by decide +kernel
theorem dX12_isGood_11 : decode cX12_isGood 11 = .ok (.iconst 0, 1) := by decide +kernel
theorem dX12_isGood_12 : decode cX12_isGood 12 = .ok (.ireturn, 1) := by decide +kernel
theorem w_X12_isGood (hQ : Q (some (vI (bI (w = 0)))) (Mr MI ML d e nw th x a w pl sz br)) : wp cs mX12_isGood KD Q 0 (padL [vR 124] 1) [] (KD, Mr MI ML d e nw th x a w pl sz br) := by
  refine wp_L (L' := [some (vR 124)]) rfl ?_
  refine wp_aload_n dX12_isGood_0 rfl rfl (by first | exact Or.inl (by decide) | exact Or.inl (by omega) | exact Or.inr (by decide) | exact Or.inr (by omega)) ?_
  refine wp_getI dX12_isGood_1 fX12_246 rfl (by decide) ?_
  refine wp_topI (x' := w) rfl ?_
  refine wp_if_ne (tgt := 11) dX12_isGood_4 (by decide) (fun h4 => ?_) (fun h4 => ?_)
  · refine wp_iconst dX12_isGood_11 (by decide) ?_
    exact wp_zret dX12_isGood_12 rfl (Or.inl rfl) (fun _ => by rw [show bI (w = 0) = 0 from if_neg (by omega)] at hQ; exact hQ)
  · refine wp_iconst dX12_isGood_7 (by decide) ?_
    refine wp_goto (tgt := 12) dX12_isGood_8 (by decide) ?_
    exact wp_zret dX12_isGood_12 rfl (Or.inr rfl) (fun _ => by rw [show bI (w = 0) = 1 from if_pos (by omega)] at hQ; exact hQ)
theorem dX12_fail_0 : decode cX12_fail 0 = .ok (.aload_n 0, 1) := by decide +kernel
theorem dX12_fail_1 : decode cX12_fail 1 = .ok (.getfield 246, 3) := by decide +kernel
theorem dX12_fail_4 : decode cX12_fail 4 = .ok (.ifCond .ne 13, 3) := by decide +kernel
theorem dX12_fail_7 : decode cX12_fail 7 = .ok (.aload_n 0, 1) := by decide +kernel
theorem dX12_fail_8 : decode cX12_fail 8 = .ok (.iload_n 1, 1) := by decide +kernel
theorem dX12_fail_9 : decode cX12_fail 9 = .ok (.putfield 246, 3) := by decide +kernel
theorem dX12_fail_12 : decode cX12_fail 12 = .ok (.aload_n 0, 1) := by decide +kernel
theorem dX12_fail_13 : decode cX12_fail 13 = .ok (.iload_n 2, 1) := by decide +kernel
theorem dX12_fail_14 : decode cX12_fail 14 = .ok (.putfield 16, 3) := by decide +kernel
theorem dX12_fail_17 : decode cX12_fail 17 = .ok (.return_, 1) := by decide +kernel
theorem w_X12_fail {f : Int} {p : Int} (hT : w = 0 → Q none (Mr MI ML d e nw th x a f p sz br)) (hF : w ≠ 0 → Q none (Mr MI ML d e nw th x a w pl sz br)) : wp cs mX12_fail KD Q 0 (padL [vR 124, vI f, vI p] 3) [] (KD, Mr MI ML d e nw th x a w pl sz br) := by
  refine wp_L (L' := [some (vR 124), some (vI f), some (vI p)]) rfl ?_
  refine wp_aload_n dX12_fail_0 rfl rfl (by first | exact Or.inl (by decide) | exact Or.inl (by omega) | exact Or.inr (by decide) | exact Or.inr (by omega)) ?_
  refine wp_getI dX12_fail_1 fX12_246 rfl (by decide) ?_
  refine wp_topI (x' := w) rfl ?_
  refine wp_if_ne (tgt := 17) dX12_fail_4 (by decide) (fun h4 => ?_) (fun h4 => ?_)
  · exact wp_vret dX12_fail_17 rfl (fun _ => hF (by omega))
  · refine wp_aload_n dX12_fail_7 rfl rfl (by first | exact Or.inl (by decide) | exact Or.inl (by omega) | exact Or.inr (by decide) | exact Or.inr (by omega)) ?_
    refine wp_iload_n dX12_fail_8 rfl rfl ?_
    refine wp_putI dX12_fail_9 pX12_246 rfl (by decide) ?_
    refine wp_M (M' := ((rs MI a f pl sz br), ML, (GR d e nw th x))) (by rw [rs_5]) ?_
    refine wp_aload_n dX12_fail_12 rfl rfl (by first | exact Or.inl (by decide) | exact Or.inl (by omega) | exact Or.inr (by decide) | exact Or.inr (by omega)) ?_
    refine wp_iload_n dX12_fail_13 rfl rfl ?_
    refine wp_putI dX12_fail_14 pX12_16 rfl (by decide) ?_
    refine wp_M (M' := ((rs MI a f p sz br), ML, (GR d e nw th x))) (by rw [rs_6]) ?_
    exact wp_vret dX12_fail_17 rfl (fun _ => hT (by omega))
theorem dX12_octet_0 : decode cX12_octet 0 = .ok (.iload_n 1, 1) := by decide +kernel
theorem dX12_octet_1 : decode cX12_octet 1 = .ok (.aload_n 0, 1) := by decide +kernel
theorem dX12_octet_2 : decode cX12_octet 2 = .ok (.getfield 249, 3) := by decide +kernel
theorem dX12_octet_5 : decode cX12_octet 5 = .ok (.if_icmp .ge 16, 3) := by decide +kernel
theorem dX12_octet_8 : decode cX12_octet 8 = .ok (.aload_n 0, 1) := by decide +kernel
theorem dX12_octet_9 : decode cX12_octet 9 = .ok (.getfield 13, 3) := by decide +kernel
theorem dX12_octet_12 : decode cX12_octet 12 = .ok (.iload_n 1, 1) := by decide +kernel
theorem dX12_octet_13 : decode cX12_octet 13 = .ok (.baload, 1) := by decide +kernel
theorem dX12_octet_14 : decode cX12_octet 14 = .ok (.sipush 255, 3) := by decide +kernel
theorem dX12_octet_17 : decode cX12_octet 17 = .ok (.iand, 1) := by decide +kernel
theorem dX12_octet_18 : decode cX12_octet 18 = .ok (.goto 4, 3) := by decide +kernel
theorem dX12_octet_21 : decode cX12_octet 21 = .ok (.iconst (-1), 1) := by decide +kernel
theorem dX12_octet_22 : decode cX12_octet 22 = .ok (.ireturn, 1) := by decide +kernel
theorem w_X12_octet {i : Int} (hs0 : 0 ≤ MI 124 3) (hsz : MI 124 3 ≤ 6000) (hi : 0 ≤ i) (hQ : Q (some (vI (ob (MI 126) (MI 124 3) i))) (Mr MI ML d e nw th x a w pl sz br)) : wp cs mX12_octet KD Q 0 (padL [vR 124, vI i] 2) [] (KD, Mr MI ML d e nw th x a w pl sz br) := by
  refine wp_L (L' := [some (vR 124), some (vI i)]) rfl ?_
  refine wp_iload_n dX12_octet_0 rfl rfl ?_
  refine wp_aload_n dX12_octet_1 rfl rfl (by first | exact Or.inl (by decide) | exact Or.inl (by omega) | exact Or.inr (by decide) | exact Or.inr (by omega)) ?_
  refine wp_getI dX12_octet_2 fX12_249 rfl (by decide) ?_
  refine wp_topI (x' := (MI 124 3)) rfl ?_
  refine wp_icmp_ge (tgt := 21) dX12_octet_5 (by decide) (fun h5 => ?_) (fun h5 => ?_)
  · refine wp_iconst dX12_octet_21 (by decide) ?_
    exact wp_iret dX12_octet_22 rfl (fun _ => by rw [ob_out (by omega)] at hQ; exact hQ)
  · refine wp_aload_n dX12_octet_8 rfl rfl (by first | exact Or.inl (by decide) | exact Or.inl (by omega) | exact Or.inr (by decide) | exact Or.inr (by omega)) ?_
    refine wp_getR dX12_octet_9 fX12_13 rfl (by decide) ?_
    refine wp_topR (x' := 126) rfl ?_
    refine wp_iload_n dX12_octet_12 rfl rfl ?_
    refine wp_bald dX12_octet_13 rfl (by decide) (by omega) ?_
    refine wp_sipush dX12_octet_14 (by decide +kernel) (by decide) ?_
    refine wp_iand dX12_octet_17 ?_
    refine wp_goto (tgt := 22) dX12_octet_18 (by decide) ?_
    refine wp_pc (pc' := 22) rfl ?_
    exact wp_iret dX12_octet_22 rfl (fun _ => by rw [ob_in (by omega)] at hQ; exact hQ)
theorem dX12_stands_0 : decode cX12_stands 0 = .ok (.iconst 1, 1) := by decide +kernel
theorem dX12_stands_1 : decode cX12_stands 1 = .ok (.istore 4, 2) := by decide +kernel
theorem dX12_stands_3 : decode cX12_stands 3 = .ok (.iconst 0, 1) := by decide +kernel
theorem dX12_stands_4 : decode cX12_stands 4 = .ok (.istore 5, 2) := by decide +kernel
theorem dX12_stands_6 : decode cX12_stands 6 = .ok (.iload 5, 2) := by decide +kernel
theorem dX12_stands_8 : decode cX12_stands 8 = .ok (.iload_n 3, 1) := by decide +kernel
theorem dX12_stands_9 : decode cX12_stands 9 = .ok (.if_icmp .ge 52, 3) := by decide +kernel
theorem dX12_stands_12 : decode cX12_stands 12 = .ok (.iload 4, 2) := by decide +kernel
theorem dX12_stands_14 : decode cX12_stands 14 = .ok (.ifCond .eq 47, 3) := by decide +kernel
theorem dX12_stands_17 : decode cX12_stands 17 = .ok (.aload_n 0, 1) := by decide +kernel
theorem dX12_stands_18 : decode cX12_stands 18 = .ok (.aload_n 0, 1) := by decide +kernel
theorem dX12_stands_19 : decode cX12_stands 19 = .ok (.getfield 276, 3) := by decide +kernel
theorem dX12_stands_22 : decode cX12_stands 22 = .ok (.iload 5, 2) := by decide +kernel
theorem dX12_stands_24 : decode cX12_stands 24 = .ok (.iadd, 1) := by decide +kernel
theorem dX12_stands_25 : decode cX12_stands 25 = .ok (.invokevirtual 279, 3) := by decide +kernel
theorem dX12_stands_28 : decode cX12_stands 28 = .ok (.i2l, 1) := by decide +kernel
theorem dX12_stands_29 : decode cX12_stands 29 = .ok (.lload_n 1, 1) := by decide +kernel
theorem dX12_stands_30 : decode cX12_stands 30 = .ok (.bipush 8, 2) := by decide +kernel
theorem dX12_stands_32 : decode cX12_stands 32 = .ok (.iload_n 3, 1) := by decide +kernel
theorem dX12_stands_33 : decode cX12_stands 33 = .ok (.iconst 1, 1) := by decide +kernel
theorem dX12_stands_34 : decode cX12_stands 34 = .ok (.isub, 1) := by decide +kernel
theorem dX12_stands_35 : decode cX12_stands 35 = .ok (.iload 5, 2) := by decide +kernel
theorem dX12_stands_37 : decode cX12_stands 37 = .ok (.isub, 1) := by decide +kernel
theorem dX12_stands_38 : decode cX12_stands 38 = .ok (.imul, 1) := by decide +kernel
theorem dX12_stands_39 : decode cX12_stands 39 = .ok (.lshr, 1) := by decide +kernel
theorem dX12_stands_40 : decode cX12_stands 40 = .ok (.ldc2_w 283, 3) := by decide +kernel
theorem dX12_stands_43 : decode cX12_stands 43 = .ok (.land, 1) := by decide +kernel
theorem dX12_stands_44 : decode cX12_stands 44 = .ok (.lcmp, 1) := by decide +kernel
theorem dX12_stands_45 : decode cX12_stands 45 = .ok (.ifCond .ne 7, 3) := by decide +kernel
theorem dX12_stands_48 : decode cX12_stands 48 = .ok (.iconst 1, 1) := by decide +kernel
theorem dX12_stands_49 : decode cX12_stands 49 = .ok (.goto 4, 3) := by decide +kernel
theorem dX12_stands_52 : decode cX12_stands 52 = .ok (.iconst 0, 1) := by decide +kernel
theorem dX12_stands_53 : decode cX12_stands 53 = .ok (.istore 4, 2) := by decide +kernel
theorem dX12_stands_55 : decode cX12_stands 55 = .ok (.iinc 5 1, 3) := by decide +kernel
theorem dX12_stands_58 : decode cX12_stands 58 = .ok (.goto (-52), 3) := by decide +kernel
theorem dX12_stands_61 : decode cX12_stands 61 = .ok (.iload 4, 2) := by decide +kernel
theorem dX12_stands_63 : decode cX12_stands 63 = .ok (.ireturn, 1) := by decide +kernel
theorem w_stands_0 {z i : Int} {n : Nat} (hQ : Q (some (vI 0)) (Mr MI ML d e nw th x a w pl sz br)) : wp cs mX12_stands KD Q 6 [some (vR 124), some (vL z), none, some (vI ((n : Int))), some (vI 0), some (vI i)] [] (KD, Mr MI ML d e nw th x a w pl sz br) := by
  refine wp_iload dX12_stands_6 rfl ?_
  refine wp_iload_n dX12_stands_8 rfl rfl ?_
  refine wp_icmp_ge (tgt := 61) dX12_stands_9 (by decide) (fun h9 => ?_) (fun h9 => ?_)
  · refine wp_iload dX12_stands_61 rfl ?_
    exact wp_zret dX12_stands_63 rfl (Or.inl rfl) (fun _ => hQ)
  · refine wp_iload dX12_stands_12 rfl ?_
    refine wp_if_eq (tgt := 61) dX12_stands_14 (by decide) (fun _ => ?_) (fun q => absurd q (by decide))
    refine wp_iload dX12_stands_61 rfl ?_
    exact wp_zret dX12_stands_63 rfl (Or.inl rfl) (fun _ => hQ)
theorem wbl_get {z : Int} {n k : Nat} (h : k < n) : (wbl z n).getD k 0 = l_and (l_shr z (8 * ((n : Int) - 1 - (k : Int)))) 255 := by
  unfold wbl
  rw [List.getD_eq_getElem?_getD, List.getElem?_map, List.getElem?_range h]
  rfl
theorem w_stands_l {z : Int} {n : Nat} (hn : n ≤ 8) (hs0 : 0 ≤ MI 124 3) (hsz : MI 124 3 ≤ 6000) (ha : 0 ≤ a ∧ a ≤ 100000) : ∀ (m k : Nat), k + m = n → stb (MI 126) (MI 124 3) a (wbl z n) = stb (MI 126) (MI 124 3) (a + k) ((wbl z n).drop k) → (stb (MI 126) (MI 124 3) a (wbl z n) = true → Q (some (vI 1)) (Mr MI ML d e nw th x a w pl sz br)) → (stb (MI 126) (MI 124 3) a (wbl z n) = false → Q (some (vI 0)) (Mr MI ML d e nw th x a w pl sz br)) →
    wp cs mX12_stands KD Q 6 [some (vR 124), some (vL z), none, some (vI ((n : Int))), some (vI 1), some (vI ((k : Int)))] [] (KD, Mr MI ML d e nw th x a w pl sz br) := by
  intro m
  induction m with
  | zero =>
    intro k hk hi hT hF
    refine wp_iload dX12_stands_6 rfl ?_
    refine wp_iload_n dX12_stands_8 rfl rfl ?_
    refine wp_icmp_ge (tgt := 61) dX12_stands_9 (by decide) (fun h9 => ?_) (fun h9 => ?_)
    · refine wp_iload dX12_stands_61 rfl ?_
      exact wp_zret dX12_stands_63 rfl (Or.inr rfl) (fun _ => hT (by rw [hi, List.drop_eq_nil_of_le (by simp [wbl]; omega)]; rfl))
    · exfalso; omega
  | succ m ih =>
    intro k hk hi hT hF
    refine wp_iload dX12_stands_6 rfl ?_
    refine wp_iload_n dX12_stands_8 rfl rfl ?_
    refine wp_icmp_ge (tgt := 61) dX12_stands_9 (by decide) (fun h9 => ?_) (fun h9 => ?_)
    · refine wp_iload dX12_stands_61 rfl ?_
      exfalso; omega
    · refine wp_iload dX12_stands_12 rfl ?_
      refine wp_if_eq (tgt := 61) dX12_stands_14 (by decide) (fun q => absurd q (by decide)) (fun _ => ?_)
      refine wp_aload_n dX12_stands_17 rfl rfl (by first | exact Or.inl (by decide) | exact Or.inl (by omega) | exact Or.inr (by decide) | exact Or.inr (by omega)) ?_
      refine wp_aload_n dX12_stands_18 rfl rfl (by first | exact Or.inl (by decide) | exact Or.inl (by omega) | exact Or.inr (by decide) | exact Or.inr (by omega)) ?_
      refine wp_getI dX12_stands_19 fX12_276 rfl (by decide) ?_
      refine wp_topI (x' := a) rfl ?_
      refine wp_iload dX12_stands_22 rfl ?_
      refine wp_iaddr dX12_stands_24 (by omega) ?_
      refine wp_pc (pc' := 25) rfl ?_
      refine wp_cV (n := 1) (mt' := mX12_octet) (as := [vI ((a + (k : Int)))]) (rest := []) (some (vI ((ob (MI 126) (MI 124 3) (a + (k : Int)))))) ((rs MI a w pl sz br), ML, (GR d e nw th x)) dX12_stands_25 lX12_279 kX12_octet vX12_octet (by decide) (by decide +kernel) rfl (Nat.le_of_ble_eq_true rfl) (by decide) rfl rfl rfl (Nat.le_of_ble_eq_true rfl) (fun hM hS Q' hq => w_X12_octet hs0 hsz (by first | assumption | omega) hq) (fun hM => ?_)
      refine wp_i2l dX12_stands_28 ?_
      refine wp_lload_n dX12_stands_29 rfl rfl ?_
      refine wp_bipush dX12_stands_30 (by decide +kernel) (by decide) ?_
      refine wp_iload_n dX12_stands_32 rfl rfl ?_
      refine wp_iconst dX12_stands_33 (by decide) ?_
      refine wp_isubr dX12_stands_34 (by omega) ?_
      refine wp_iload dX12_stands_35 rfl ?_
      refine wp_pc (pc' := 37) rfl ?_
      refine wp_isubr dX12_stands_37 (by omega) ?_
      refine wp_imulr dX12_stands_38 (by omega) ?_
      refine wp_lshr dX12_stands_39 ?_
      refine wp_ldc2 (x := 255) dX12_stands_40 cX12_283 (by decide) ?_
      refine wp_land dX12_stands_43 ?_
      refine wp_lcmp dX12_stands_44 ?_
      refine wp_if_ne (tgt := 52) dX12_stands_45 (by decide) (fun h45 => ?_) (fun h45 => ?_)
      · refine wp_iconst dX12_stands_52 (by decide) ?_
        refine wp_istore dX12_stands_53 (by decide) (wp_L (L' := [some (vR 124), some (vL z), none, some (vI ((n : Int))), some (vI 0), some (vI ((k : Int)))]) rfl ?_)
        refine wp_iincr dX12_stands_55 rfl (by decide) (by omega) (wp_L (L' := [some (vR 124), some (vL z), none, some (vI ((n : Int))), some (vI 0), some (vI (((k : Int) + 1)))]) rfl ?_)
        refine wp_goto (tgt := 6) dX12_stands_58 (by decide) ?_
        exact w_stands_0 (hF (by rw [hi, stb_drop (by simp [wbl]; omega), decide_eq_false (by rw [wbl_get (by omega)]; exact l_cmp_nz h45), Bool.false_and]))
      · refine wp_iconst dX12_stands_48 (by decide) ?_
        refine wp_goto (tgt := 53) dX12_stands_49 (by decide) ?_
        refine wp_istore dX12_stands_53 (by decide) (wp_L (L' := [some (vR 124), some (vL z), none, some (vI ((n : Int))), some (vI 1), some (vI ((k : Int)))]) rfl ?_)
        refine wp_iincr dX12_stands_55 rfl (by decide) (by omega) (wp_L (L' := [some (vR 124), some (vL z), none, some (vI ((n : Int))), some (vI 1), some (vI (((k : Int) + 1)))]) rfl ?_)
        refine wp_goto (tgt := 6) dX12_stands_58 (by decide) ?_
        refine wp_L (L' := [some (vR 124), some (vL z), none, some (vI (n : Int)), some (vI 1), some (vI ((k + 1 : Nat) : Int))]) rfl ?_; exact ih (k + 1) (by omega) (by rw [hi, stb_drop (by simp [wbl]; omega), decide_eq_true (by rw [wbl_get (by omega)]; exact l_cmp_z h45), Bool.true_and, show (a + ((k + 1 : Nat) : Int)) = a + (k : Int) + 1 by omega]) hT hF
theorem w_X12_stands {z : Int} {n : Nat} (hn : n ≤ 8) (hs0 : 0 ≤ MI 124 3) (hsz : MI 124 3 ≤ 6000) (ha : 0 ≤ a ∧ a ≤ 100000) (hT : stb (MI 126) (MI 124 3) a (wbl z n) = true → Q (some (vI 1)) (Mr MI ML d e nw th x a w pl sz br)) (hF : stb (MI 126) (MI 124 3) a (wbl z n) = false → Q (some (vI 0)) (Mr MI ML d e nw th x a w pl sz br)) : wp cs mX12_stands KD Q 0 (padL [vR 124, vL z, vI (n : Int)] 6) [] (KD, Mr MI ML d e nw th x a w pl sz br) := by
  refine wp_L (L' := [some (vR 124), some (vL z), none, some (vI ((n : Int))), none, none]) rfl ?_
  refine wp_iconst dX12_stands_0 (by decide) ?_
  refine wp_istore dX12_stands_1 (by decide) (wp_L (L' := [some (vR 124), some (vL z), none, some (vI ((n : Int))), some (vI 1), none]) rfl ?_)
  refine wp_iconst dX12_stands_3 (by decide) ?_
  refine wp_istore dX12_stands_4 (by decide) (wp_L (L' := [some (vR 124), some (vL z), none, some (vI ((n : Int))), some (vI 1), some (vI 0)]) rfl ?_)
  exact w_stands_l hn hs0 hsz ha n 0 (by omega) (by simp) hT hF
end P23
