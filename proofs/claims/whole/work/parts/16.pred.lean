abbrev bI (p : Prop) [Decidable p] : Int := if p then 1 else 0
abbrev isSp (c : Int) : Prop := c = 32 ∨ c = 9 ∨ c = 10 ∨ c = 13
abbrev isCh (c : Int) : Prop := (32 ≤ c ∧ c ≤ 126) ∨ c = 9 ∨ c = 10 ∨ c = 13
abbrev isDg (c : Int) : Prop := 48 ≤ c ∧ c ≤ 57
abbrev isNs (c : Int) : Prop := (97 ≤ c ∧ c ≤ 122) ∨ (65 ≤ c ∧ c ≤ 90) ∨ c = 95
abbrev isNb (c : Int) : Prop := (97 ≤ c ∧ c ≤ 122) ∨ (65 ≤ c ∧ c ≤ 90) ∨ (48 ≤ c ∧ c ≤ 57) ∨ c = 95 ∨ c = 45 ∨ c = 46
theorem l_cmp_ge {x y : Int} (h : 0 ≤ l_cmp x y) : y ≤ x := by unfold l_cmp at h; split at h; omega; split at h <;> omega
theorem l_cmp_lt {x y : Int} (h : l_cmp x y < 0) : x < y := by unfold l_cmp at h; split at h; omega; split at h <;> omega
theorem l_cmp_le {x y : Int} (h : l_cmp x y ≤ 0) : x ≤ y := by unfold l_cmp at h; split at h; omega; omega
theorem l_cmp_gt {x y : Int} (h : 0 < l_cmp x y) : y < x := by unfold l_cmp at h; split at h; assumption; split at h <;> omega
section P16
variable {cs : Cs} {kf : Kd} {Q : Option AV → Mm → Prop} {M : Mm}
theorem dX1_isSpace_0 : decode cX1_isSpace 0 = .ok (.iload_n 0, 1) := by decide +kernel
theorem dX1_isSpace_1 : decode cX1_isSpace 1 = .ok (.bipush 32, 2) := by decide +kernel
theorem dX1_isSpace_3 : decode cX1_isSpace 3 = .ok (.if_icmp .eq 21, 3) := by decide +kernel
theorem dX1_isSpace_6 : decode cX1_isSpace 6 = .ok (.iload_n 0, 1) := by decide +kernel
theorem dX1_isSpace_7 : decode cX1_isSpace 7 = .ok (.bipush 9, 2) := by decide +kernel
theorem dX1_isSpace_9 : decode cX1_isSpace 9 = .ok (.if_icmp .eq 15, 3) := by decide +kernel
theorem dX1_isSpace_12 : decode cX1_isSpace 12 = .ok (.iload_n 0, 1) := by decide +kernel
theorem dX1_isSpace_13 : decode cX1_isSpace 13 = .ok (.bipush 10, 2) := by decide +kernel
theorem dX1_isSpace_15 : decode cX1_isSpace 15 = .ok (.if_icmp .eq 9, 3) := by decide +kernel
theorem dX1_isSpace_18 : decode cX1_isSpace 18 = .ok (.iload_n 0, 1) := by decide +kernel
theorem dX1_isSpace_19 : decode cX1_isSpace 19 = .ok (.bipush 13, 2) := by decide +kernel
theorem dX1_isSpace_21 : decode cX1_isSpace 21 = .ok (.if_icmp .ne 7, 3) := by decide +kernel
theorem dX1_isSpace_24 : decode cX1_isSpace 24 = .ok (.iconst 1, 1) := by decide +kernel
theorem dX1_isSpace_25 : decode cX1_isSpace 25 = .ok (.goto 4, 3) := by decide +kernel
theorem dX1_isSpace_28 : decode cX1_isSpace 28 = .ok (.iconst 0, 1) := by decide +kernel
theorem dX1_isSpace_29 : decode cX1_isSpace 29 = .ok (.ireturn, 1) := by decide +kernel
theorem w_X1_isSpace {c : Int} (hQ : Q (some (vI (bI (isSp c)))) M) : wp cs mX1_isSpace kf Q 0 (padL [vI c] 1) [] (kf, M) := by
  refine wp_L (L' := [some (vI c)]) rfl ?_
  refine wp_iload_n dX1_isSpace_0 rfl rfl ?_
  refine wp_bipush dX1_isSpace_1 (by decide +kernel) (by decide) ?_
  refine wp_icmp_eq (tgt := 24) dX1_isSpace_3 (by decide) (fun h3 => ?_) (fun h3 => ?_)
  · refine wp_iconst dX1_isSpace_24 (by decide) ?_
    refine wp_goto (tgt := 29) dX1_isSpace_25 (by decide) ?_
    exact wp_zret dX1_isSpace_29 rfl (Or.inr rfl) (fun _ => by rw [show bI (isSp c) = 1 from if_pos (by omega)] at hQ; exact hQ)
  · refine wp_iload_n dX1_isSpace_6 rfl rfl ?_
    refine wp_bipush dX1_isSpace_7 (by decide +kernel) (by decide) ?_
    refine wp_icmp_eq (tgt := 24) dX1_isSpace_9 (by decide) (fun h9 => ?_) (fun h9 => ?_)
    · refine wp_iconst dX1_isSpace_24 (by decide) ?_
      refine wp_goto (tgt := 29) dX1_isSpace_25 (by decide) ?_
      exact wp_zret dX1_isSpace_29 rfl (Or.inr rfl) (fun _ => by rw [show bI (isSp c) = 1 from if_pos (by omega)] at hQ; exact hQ)
    · refine wp_iload_n dX1_isSpace_12 rfl rfl ?_
      refine wp_bipush dX1_isSpace_13 (by decide +kernel) (by decide) ?_
      refine wp_icmp_eq (tgt := 24) dX1_isSpace_15 (by decide) (fun h15 => ?_) (fun h15 => ?_)
      · refine wp_iconst dX1_isSpace_24 (by decide) ?_
        refine wp_goto (tgt := 29) dX1_isSpace_25 (by decide) ?_
        exact wp_zret dX1_isSpace_29 rfl (Or.inr rfl) (fun _ => by rw [show bI (isSp c) = 1 from if_pos (by omega)] at hQ; exact hQ)
      · refine wp_iload_n dX1_isSpace_18 rfl rfl ?_
        refine wp_bipush dX1_isSpace_19 (by decide +kernel) (by decide) ?_
        refine wp_icmp_ne (tgt := 28) dX1_isSpace_21 (by decide) (fun h21 => ?_) (fun h21 => ?_)
        · refine wp_iconst dX1_isSpace_28 (by decide) ?_
          exact wp_zret dX1_isSpace_29 rfl (Or.inl rfl) (fun _ => by rw [show bI (isSp c) = 0 from if_neg (by omega)] at hQ; exact hQ)
        · refine wp_iconst dX1_isSpace_24 (by decide) ?_
          refine wp_goto (tgt := 29) dX1_isSpace_25 (by decide) ?_
          exact wp_zret dX1_isSpace_29 rfl (Or.inr rfl) (fun _ => by rw [show bI (isSp c) = 1 from if_pos (by omega)] at hQ; exact hQ)
theorem dX1_isChar_0 : decode cX1_isChar 0 = .ok (.iload_n 0, 1) := by decide +kernel
theorem dX1_isChar_1 : decode cX1_isChar 1 = .ok (.bipush 32, 2) := by decide +kernel
theorem dX1_isChar_3 : decode cX1_isChar 3 = .ok (.if_icmp .lt 9, 3) := by decide +kernel
theorem dX1_isChar_6 : decode cX1_isChar 6 = .ok (.iload_n 0, 1) := by decide +kernel
theorem dX1_isChar_7 : decode cX1_isChar 7 = .ok (.bipush 126, 2) := by decide +kernel
theorem dX1_isChar_9 : decode cX1_isChar 9 = .ok (.if_icmp .le 21, 3) := by decide +kernel
theorem dX1_isChar_12 : decode cX1_isChar 12 = .ok (.iload_n 0, 1) := by decide +kernel
theorem dX1_isChar_13 : decode cX1_isChar 13 = .ok (.bipush 9, 2) := by decide +kernel
theorem dX1_isChar_15 : decode cX1_isChar 15 = .ok (.if_icmp .eq 15, 3) := by decide +kernel
theorem dX1_isChar_18 : decode cX1_isChar 18 = .ok (.iload_n 0, 1) := by decide +kernel
theorem dX1_isChar_19 : decode cX1_isChar 19 = .ok (.bipush 10, 2) := by decide +kernel
theorem dX1_isChar_21 : decode cX1_isChar 21 = .ok (.if_icmp .eq 9, 3) := by decide +kernel
theorem dX1_isChar_24 : decode cX1_isChar 24 = .ok (.iload_n 0, 1) := by decide +kernel
theorem dX1_isChar_25 : decode cX1_isChar 25 = .ok (.bipush 13, 2) := by decide +kernel
theorem dX1_isChar_27 : decode cX1_isChar 27 = .ok (.if_icmp .ne 7, 3) := by decide +kernel
theorem dX1_isChar_30 : decode cX1_isChar 30 = .ok (.iconst 1, 1) := by decide +kernel
theorem dX1_isChar_31 : decode cX1_isChar 31 = .ok (.goto 4, 3) := by decide +kernel
theorem dX1_isChar_34 : decode cX1_isChar 34 = .ok (.iconst 0, 1) := by decide +kernel
theorem dX1_isChar_35 : decode cX1_isChar 35 = .ok (.ireturn, 1) := by decide +kernel
theorem w_X1_isChar {c : Int} (hQ : Q (some (vI (bI (isCh c)))) M) : wp cs mX1_isChar kf Q 0 (padL [vI c] 1) [] (kf, M) := by
  refine wp_L (L' := [some (vI c)]) rfl ?_
  refine wp_iload_n dX1_isChar_0 rfl rfl ?_
  refine wp_bipush dX1_isChar_1 (by decide +kernel) (by decide) ?_
  refine wp_icmp_lt (tgt := 12) dX1_isChar_3 (by decide) (fun h3 => ?_) (fun h3 => ?_)
  · refine wp_iload_n dX1_isChar_12 rfl rfl ?_
    refine wp_bipush dX1_isChar_13 (by decide +kernel) (by decide) ?_
    refine wp_icmp_eq (tgt := 30) dX1_isChar_15 (by decide) (fun h15 => ?_) (fun h15 => ?_)
    · refine wp_iconst dX1_isChar_30 (by decide) ?_
      refine wp_goto (tgt := 35) dX1_isChar_31 (by decide) ?_
      exact wp_zret dX1_isChar_35 rfl (Or.inr rfl) (fun _ => by rw [show bI (isCh c) = 1 from if_pos (by omega)] at hQ; exact hQ)
    · refine wp_iload_n dX1_isChar_18 rfl rfl ?_
      refine wp_bipush dX1_isChar_19 (by decide +kernel) (by decide) ?_
      refine wp_icmp_eq (tgt := 30) dX1_isChar_21 (by decide) (fun h21 => ?_) (fun h21 => ?_)
      · refine wp_iconst dX1_isChar_30 (by decide) ?_
        refine wp_goto (tgt := 35) dX1_isChar_31 (by decide) ?_
        exact wp_zret dX1_isChar_35 rfl (Or.inr rfl) (fun _ => by rw [show bI (isCh c) = 1 from if_pos (by omega)] at hQ; exact hQ)
      · refine wp_iload_n dX1_isChar_24 rfl rfl ?_
        refine wp_bipush dX1_isChar_25 (by decide +kernel) (by decide) ?_
        refine wp_icmp_ne (tgt := 34) dX1_isChar_27 (by decide) (fun h27 => ?_) (fun h27 => ?_)
        · refine wp_iconst dX1_isChar_34 (by decide) ?_
          exact wp_zret dX1_isChar_35 rfl (Or.inl rfl) (fun _ => by rw [show bI (isCh c) = 0 from if_neg (by omega)] at hQ; exact hQ)
        · refine wp_iconst dX1_isChar_30 (by decide) ?_
          refine wp_goto (tgt := 35) dX1_isChar_31 (by decide) ?_
          exact wp_zret dX1_isChar_35 rfl (Or.inr rfl) (fun _ => by rw [show bI (isCh c) = 1 from if_pos (by omega)] at hQ; exact hQ)
  · refine wp_iload_n dX1_isChar_6 rfl rfl ?_
    refine wp_bipush dX1_isChar_7 (by decide +kernel) (by decide) ?_
    refine wp_icmp_le (tgt := 30) dX1_isChar_9 (by decide) (fun h9 => ?_) (fun h9 => ?_)
    · refine wp_iconst dX1_isChar_30 (by decide) ?_
      refine wp_goto (tgt := 35) dX1_isChar_31 (by decide) ?_
      exact wp_zret dX1_isChar_35 rfl (Or.inr rfl) (fun _ => by rw [show bI (isCh c) = 1 from if_pos (by omega)] at hQ; exact hQ)
    · refine wp_iload_n dX1_isChar_12 rfl rfl ?_
      refine wp_bipush dX1_isChar_13 (by decide +kernel) (by decide) ?_
      refine wp_icmp_eq (tgt := 30) dX1_isChar_15 (by decide) (fun h15 => ?_) (fun h15 => ?_)
      · refine wp_iconst dX1_isChar_30 (by decide) ?_
        refine wp_goto (tgt := 35) dX1_isChar_31 (by decide) ?_
        exact wp_zret dX1_isChar_35 rfl (Or.inr rfl) (fun _ => by rw [show bI (isCh c) = 1 from if_pos (by omega)] at hQ; exact hQ)
      · refine wp_iload_n dX1_isChar_18 rfl rfl ?_
        refine wp_bipush dX1_isChar_19 (by decide +kernel) (by decide) ?_
        refine wp_icmp_eq (tgt := 30) dX1_isChar_21 (by decide) (fun h21 => ?_) (fun h21 => ?_)
        · refine wp_iconst dX1_isChar_30 (by decide) ?_
          refine wp_goto (tgt := 35) dX1_isChar_31 (by decide) ?_
          exact wp_zret dX1_isChar_35 rfl (Or.inr rfl) (fun _ => by rw [show bI (isCh c) = 1 from if_pos (by omega)] at hQ; exact hQ)
        · refine wp_iload_n dX1_isChar_24 rfl rfl ?_
          refine wp_bipush dX1_isChar_25 (by decide +kernel) (by decide) ?_
          refine wp_icmp_ne (tgt := 34) dX1_isChar_27 (by decide) (fun h27 => ?_) (fun h27 => ?_)
          · refine wp_iconst dX1_isChar_34 (by decide) ?_
            exact wp_zret dX1_isChar_35 rfl (Or.inl rfl) (fun _ => by rw [show bI (isCh c) = 0 from if_neg (by omega)] at hQ; exact hQ)
          · refine wp_iconst dX1_isChar_30 (by decide) ?_
            refine wp_goto (tgt := 35) dX1_isChar_31 (by decide) ?_
            exact wp_zret dX1_isChar_35 rfl (Or.inr rfl) (fun _ => by rw [show bI (isCh c) = 1 from if_pos (by omega)] at hQ; exact hQ)
theorem dX1_isDigit_0 : decode cX1_isDigit 0 = .ok (.iload_n 0, 1) := by decide +kernel
theorem dX1_isDigit_1 : decode cX1_isDigit 1 = .ok (.bipush 48, 2) := by decide +kernel
theorem dX1_isDigit_3 : decode cX1_isDigit 3 = .ok (.if_icmp .lt 13, 3) := by decide +kernel
theorem dX1_isDigit_6 : decode cX1_isDigit 6 = .ok (.iload_n 0, 1) := by decide +kernel
theorem dX1_isDigit_7 : decode cX1_isDigit 7 = .ok (.bipush 57, 2) := by decide +kernel
theorem dX1_isDigit_9 : decode cX1_isDigit 9 = .ok (.if_icmp .gt 7, 3) := by decide +kernel
theorem dX1_isDigit_12 : decode cX1_isDigit 12 = .ok (.iconst 1, 1) := by decide +kernel
theorem dX1_isDigit_13 : decode cX1_isDigit 13 = .ok (.goto 4, 3) := by decide +kernel
theorem dX1_isDigit_16 : decode cX1_isDigit 16 = .ok (.iconst 0, 1) := by decide +kernel
theorem dX1_isDigit_17 : decode cX1_isDigit 17 = .ok (.ireturn, 1) := by decide +kernel
theorem w_X1_isDigit {c : Int} (hQ : Q (some (vI (bI (isDg c)))) M) : wp cs mX1_isDigit kf Q 0 (padL [vI c] 1) [] (kf, M) := by
  refine wp_L (L' := [some (vI c)]) rfl ?_
  refine wp_iload_n dX1_isDigit_0 rfl rfl ?_
  refine wp_bipush dX1_isDigit_1 (by decide +kernel) (by decide) ?_
  refine wp_icmp_lt (tgt := 16) dX1_isDigit_3 (by decide) (fun h3 => ?_) (fun h3 => ?_)
  · refine wp_iconst dX1_isDigit_16 (by decide) ?_
    exact wp_zret dX1_isDigit_17 rfl (Or.inl rfl) (fun _ => by rw [show bI (isDg c) = 0 from if_neg (by omega)] at hQ; exact hQ)
  · refine wp_iload_n dX1_isDigit_6 rfl rfl ?_
    refine wp_bipush dX1_isDigit_7 (by decide +kernel) (by decide) ?_
    refine wp_icmp_gt (tgt := 16) dX1_isDigit_9 (by decide) (fun h9 => ?_) (fun h9 => ?_)
    · refine wp_iconst dX1_isDigit_16 (by decide) ?_
      exact wp_zret dX1_isDigit_17 rfl (Or.inl rfl) (fun _ => by rw [show bI (isDg c) = 0 from if_neg (by omega)] at hQ; exact hQ)
    · refine wp_iconst dX1_isDigit_12 (by decide) ?_
      refine wp_goto (tgt := 17) dX1_isDigit_13 (by decide) ?_
      exact wp_zret dX1_isDigit_17 rfl (Or.inr rfl) (fun _ => by rw [show bI (isDg c) = 1 from if_pos (by omega)] at hQ; exact hQ)
theorem dX1_startsName_0 : decode cX1_startsName 0 = .ok (.iload_n 0, 1) := by decide +kernel
theorem dX1_startsName_1 : decode cX1_startsName 1 = .ok (.bipush 97, 2) := by decide +kernel
theorem dX1_startsName_3 : decode cX1_startsName 3 = .ok (.if_icmp .lt 9, 3) := by decide +kernel
theorem dX1_startsName_6 : decode cX1_startsName 6 = .ok (.iload_n 0, 1) := by decide +kernel
theorem dX1_startsName_7 : decode cX1_startsName 7 = .ok (.bipush 122, 2) := by decide +kernel
theorem dX1_startsName_9 : decode cX1_startsName 9 = .ok (.if_icmp .le 21, 3) := by decide +kernel
theorem dX1_startsName_12 : decode cX1_startsName 12 = .ok (.iload_n 0, 1) := by decide +kernel
theorem dX1_startsName_13 : decode cX1_startsName 13 = .ok (.bipush 65, 2) := by decide +kernel
theorem dX1_startsName_15 : decode cX1_startsName 15 = .ok (.if_icmp .lt 9, 3) := by decide +kernel
theorem dX1_startsName_18 : decode cX1_startsName 18 = .ok (.iload_n 0, 1) := by decide +kernel
theorem dX1_startsName_19 : decode cX1_startsName 19 = .ok (.bipush 90, 2) := by decide +kernel
theorem dX1_startsName_21 : decode cX1_startsName 21 = .ok (.if_icmp .le 9, 3) := by decide +kernel
theorem dX1_startsName_24 : decode cX1_startsName 24 = .ok (.iload_n 0, 1) := by decide +kernel
theorem dX1_startsName_25 : decode cX1_startsName 25 = .ok (.bipush 95, 2) := by decide +kernel
theorem dX1_startsName_27 : decode cX1_startsName 27 = .ok (.if_icmp .ne 7, 3) := by decide +kernel
theorem dX1_startsName_30 : decode cX1_startsName 30 = .ok (.iconst 1, 1) := by decide +kernel
theorem dX1_startsName_31 : decode cX1_startsName 31 = .ok (.goto 4, 3) := by decide +kernel
theorem dX1_startsName_34 : decode cX1_startsName 34 = .ok (.iconst 0, 1) := by decide +kernel
theorem dX1_startsName_35 : decode cX1_startsName 35 = .ok (.ireturn, 1) := by decide +kernel
theorem w_X1_startsName {c : Int} (hQ : Q (some (vI (bI (isNs c)))) M) : wp cs mX1_startsName kf Q 0 (padL [vI c] 1) [] (kf, M) := by
  refine wp_L (L' := [some (vI c)]) rfl ?_
  refine wp_iload_n dX1_startsName_0 rfl rfl ?_
  refine wp_bipush dX1_startsName_1 (by decide +kernel) (by decide) ?_
  refine wp_icmp_lt (tgt := 12) dX1_startsName_3 (by decide) (fun h3 => ?_) (fun h3 => ?_)
  · refine wp_iload_n dX1_startsName_12 rfl rfl ?_
    refine wp_bipush dX1_startsName_13 (by decide +kernel) (by decide) ?_
    refine wp_icmp_lt (tgt := 24) dX1_startsName_15 (by decide) (fun h15 => ?_) (fun h15 => ?_)
    · refine wp_iload_n dX1_startsName_24 rfl rfl ?_
      refine wp_bipush dX1_startsName_25 (by decide +kernel) (by decide) ?_
      refine wp_icmp_ne (tgt := 34) dX1_startsName_27 (by decide) (fun h27 => ?_) (fun h27 => ?_)
      · refine wp_iconst dX1_startsName_34 (by decide) ?_
        exact wp_zret dX1_startsName_35 rfl (Or.inl rfl) (fun _ => by rw [show bI (isNs c) = 0 from if_neg (by omega)] at hQ; exact hQ)
      · refine wp_iconst dX1_startsName_30 (by decide) ?_
        refine wp_goto (tgt := 35) dX1_startsName_31 (by decide) ?_
        exact wp_zret dX1_startsName_35 rfl (Or.inr rfl) (fun _ => by rw [show bI (isNs c) = 1 from if_pos (by omega)] at hQ; exact hQ)
    · refine wp_iload_n dX1_startsName_18 rfl rfl ?_
      refine wp_bipush dX1_startsName_19 (by decide +kernel) (by decide) ?_
      refine wp_icmp_le (tgt := 30) dX1_startsName_21 (by decide) (fun h21 => ?_) (fun h21 => ?_)
      · refine wp_iconst dX1_startsName_30 (by decide) ?_
        refine wp_goto (tgt := 35) dX1_startsName_31 (by decide) ?_
        exact wp_zret dX1_startsName_35 rfl (Or.inr rfl) (fun _ => by rw [show bI (isNs c) = 1 from if_pos (by omega)] at hQ; exact hQ)
      · refine wp_iload_n dX1_startsName_24 rfl rfl ?_
        refine wp_bipush dX1_startsName_25 (by decide +kernel) (by decide) ?_
        refine wp_icmp_ne (tgt := 34) dX1_startsName_27 (by decide) (fun h27 => ?_) (fun h27 => ?_)
        · refine wp_iconst dX1_startsName_34 (by decide) ?_
          exact wp_zret dX1_startsName_35 rfl (Or.inl rfl) (fun _ => by rw [show bI (isNs c) = 0 from if_neg (by omega)] at hQ; exact hQ)
        · refine wp_iconst dX1_startsName_30 (by decide) ?_
          refine wp_goto (tgt := 35) dX1_startsName_31 (by decide) ?_
          exact wp_zret dX1_startsName_35 rfl (Or.inr rfl) (fun _ => by rw [show bI (isNs c) = 1 from if_pos (by omega)] at hQ; exact hQ)
  · refine wp_iload_n dX1_startsName_6 rfl rfl ?_
    refine wp_bipush dX1_startsName_7 (by decide +kernel) (by decide) ?_
    refine wp_icmp_le (tgt := 30) dX1_startsName_9 (by decide) (fun h9 => ?_) (fun h9 => ?_)
    · refine wp_iconst dX1_startsName_30 (by decide) ?_
      refine wp_goto (tgt := 35) dX1_startsName_31 (by decide) ?_
      exact wp_zret dX1_startsName_35 rfl (Or.inr rfl) (fun _ => by rw [show bI (isNs c) = 1 from if_pos (by omega)] at hQ; exact hQ)
    · refine wp_iload_n dX1_startsName_12 rfl rfl ?_
      refine wp_bipush dX1_startsName_13 (by decide +kernel) (by decide) ?_
      refine wp_icmp_lt (tgt := 24) dX1_startsName_15 (by decide) (fun h15 => ?_) (fun h15 => ?_)
      · refine wp_iload_n dX1_startsName_24 rfl rfl ?_
        refine wp_bipush dX1_startsName_25 (by decide +kernel) (by decide) ?_
        refine wp_icmp_ne (tgt := 34) dX1_startsName_27 (by decide) (fun h27 => ?_) (fun h27 => ?_)
        · refine wp_iconst dX1_startsName_34 (by decide) ?_
          exact wp_zret dX1_startsName_35 rfl (Or.inl rfl) (fun _ => by rw [show bI (isNs c) = 0 from if_neg (by omega)] at hQ; exact hQ)
        · refine wp_iconst dX1_startsName_30 (by decide) ?_
          refine wp_goto (tgt := 35) dX1_startsName_31 (by decide) ?_
          exact wp_zret dX1_startsName_35 rfl (Or.inr rfl) (fun _ => by rw [show bI (isNs c) = 1 from if_pos (by omega)] at hQ; exact hQ)
      · refine wp_iload_n dX1_startsName_18 rfl rfl ?_
        refine wp_bipush dX1_startsName_19 (by decide +kernel) (by decide) ?_
        refine wp_icmp_le (tgt := 30) dX1_startsName_21 (by decide) (fun h21 => ?_) (fun h21 => ?_)
        · refine wp_iconst dX1_startsName_30 (by decide) ?_
          refine wp_goto (tgt := 35) dX1_startsName_31 (by decide) ?_
          exact wp_zret dX1_startsName_35 rfl (Or.inr rfl) (fun _ => by rw [show bI (isNs c) = 1 from if_pos (by omega)] at hQ; exact hQ)
        · refine wp_iload_n dX1_startsName_24 rfl rfl ?_
          refine wp_bipush dX1_startsName_25 (by decide +kernel) (by decide) ?_
          refine wp_icmp_ne (tgt := 34) dX1_startsName_27 (by decide) (fun h27 => ?_) (fun h27 => ?_)
          · refine wp_iconst dX1_startsName_34 (by decide) ?_
            exact wp_zret dX1_startsName_35 rfl (Or.inl rfl) (fun _ => by rw [show bI (isNs c) = 0 from if_neg (by omega)] at hQ; exact hQ)
          · refine wp_iconst dX1_startsName_30 (by decide) ?_
            refine wp_goto (tgt := 35) dX1_startsName_31 (by decide) ?_
            exact wp_zret dX1_startsName_35 rfl (Or.inr rfl) (fun _ => by rw [show bI (isNs c) = 1 from if_pos (by omega)] at hQ; exact hQ)
theorem dX1_isNameByte_0 : decode cX1_isNameByte 0 = .ok (.iload_n 0, 1) := by decide +kernel
theorem dX1_isNameByte_1 : decode cX1_isNameByte 1 = .ok (.bipush 97, 2) := by decide +kernel
theorem dX1_isNameByte_3 : decode cX1_isNameByte 3 = .ok (.if_icmp .lt 9, 3) := by decide +kernel
theorem dX1_isNameByte_6 : decode cX1_isNameByte 6 = .ok (.iload_n 0, 1) := by decide +kernel
theorem dX1_isNameByte_7 : decode cX1_isNameByte 7 = .ok (.bipush 122, 2) := by decide +kernel
theorem dX1_isNameByte_9 : decode cX1_isNameByte 9 = .ok (.if_icmp .le 45, 3) := by decide +kernel
theorem dX1_isNameByte_12 : decode cX1_isNameByte 12 = .ok (.iload_n 0, 1) := by decide +kernel
theorem dX1_isNameByte_13 : decode cX1_isNameByte 13 = .ok (.bipush 65, 2) := by decide +kernel
theorem dX1_isNameByte_15 : decode cX1_isNameByte 15 = .ok (.if_icmp .lt 9, 3) := by decide +kernel
theorem dX1_isNameByte_18 : decode cX1_isNameByte 18 = .ok (.iload_n 0, 1) := by decide +kernel
theorem dX1_isNameByte_19 : decode cX1_isNameByte 19 = .ok (.bipush 90, 2) := by decide +kernel
theorem dX1_isNameByte_21 : decode cX1_isNameByte 21 = .ok (.if_icmp .le 33, 3) := by decide +kernel
theorem dX1_isNameByte_24 : decode cX1_isNameByte 24 = .ok (.iload_n 0, 1) := by decide +kernel
theorem dX1_isNameByte_25 : decode cX1_isNameByte 25 = .ok (.bipush 48, 2) := by decide +kernel
theorem dX1_isNameByte_27 : decode cX1_isNameByte 27 = .ok (.if_icmp .lt 9, 3) := by decide +kernel
theorem dX1_isNameByte_30 : decode cX1_isNameByte 30 = .ok (.iload_n 0, 1) := by decide +kernel
theorem dX1_isNameByte_31 : decode cX1_isNameByte 31 = .ok (.bipush 57, 2) := by decide +kernel
theorem dX1_isNameByte_33 : decode cX1_isNameByte 33 = .ok (.if_icmp .le 21, 3) := by decide +kernel
theorem dX1_isNameByte_36 : decode cX1_isNameByte 36 = .ok (.iload_n 0, 1) := by decide +kernel
theorem dX1_isNameByte_37 : decode cX1_isNameByte 37 = .ok (.bipush 95, 2) := by decide +kernel
theorem dX1_isNameByte_39 : decode cX1_isNameByte 39 = .ok (.if_icmp .eq 15, 3) := by decide +kernel
theorem dX1_isNameByte_42 : decode cX1_isNameByte 42 = .ok (.iload_n 0, 1) := by decide +kernel
theorem dX1_isNameByte_43 : decode cX1_isNameByte 43 = .ok (.bipush 45, 2) := by decide +kernel
theorem dX1_isNameByte_45 : decode cX1_isNameByte 45 = .ok (.if_icmp .eq 9, 3) := by decide +kernel
theorem dX1_isNameByte_48 : decode cX1_isNameByte 48 = .ok (.iload_n 0, 1) := by decide +kernel
theorem dX1_isNameByte_49 : decode cX1_isNameByte 49 = .ok (.bipush 46, 2) := by decide +kernel
theorem dX1_isNameByte_51 : decode cX1_isNameByte 51 = .ok (.if_icmp .ne 7, 3) := by decide +kernel
theorem dX1_isNameByte_54 : decode cX1_isNameByte 54 = .ok (.iconst 1, 1) := by decide +kernel
theorem dX1_isNameByte_55 : decode cX1_isNameByte 55 = .ok (.goto 4, 3) := by decide +kernel
theorem dX1_isNameByte_58 : decode cX1_isNameByte 58 = .ok (.iconst 0, 1) := by decide +kernel
theorem dX1_isNameByte_59 : decode cX1_isNameByte 59 = .ok (.ireturn, 1) := by decide +kernel
theorem w_X1_isNameByte {c : Int} (hQ : Q (some (vI (bI (isNb c)))) M) : wp cs mX1_isNameByte kf Q 0 (padL [vI c] 1) [] (kf, M) := by
  refine wp_L (L' := [some (vI c)]) rfl ?_
  refine wp_iload_n dX1_isNameByte_0 rfl rfl ?_
  refine wp_bipush dX1_isNameByte_1 (by decide +kernel) (by decide) ?_
  refine wp_icmp_lt (tgt := 12) dX1_isNameByte_3 (by decide) (fun h3 => ?_) (fun h3 => ?_)
  · refine wp_iload_n dX1_isNameByte_12 rfl rfl ?_
    refine wp_bipush dX1_isNameByte_13 (by decide +kernel) (by decide) ?_
    refine wp_icmp_lt (tgt := 24) dX1_isNameByte_15 (by decide) (fun h15 => ?_) (fun h15 => ?_)
    · refine wp_iload_n dX1_isNameByte_24 rfl rfl ?_
      refine wp_bipush dX1_isNameByte_25 (by decide +kernel) (by decide) ?_
      refine wp_icmp_lt (tgt := 36) dX1_isNameByte_27 (by decide) (fun h27 => ?_) (fun h27 => ?_)
      · refine wp_iload_n dX1_isNameByte_36 rfl rfl ?_
        refine wp_bipush dX1_isNameByte_37 (by decide +kernel) (by decide) ?_
        refine wp_icmp_eq (tgt := 54) dX1_isNameByte_39 (by decide) (fun h39 => ?_) (fun h39 => ?_)
        · refine wp_iconst dX1_isNameByte_54 (by decide) ?_
          refine wp_goto (tgt := 59) dX1_isNameByte_55 (by decide) ?_
          exact wp_zret dX1_isNameByte_59 rfl (Or.inr rfl) (fun _ => by rw [show bI (isNb c) = 1 from if_pos (by omega)] at hQ; exact hQ)
        · refine wp_iload_n dX1_isNameByte_42 rfl rfl ?_
          refine wp_bipush dX1_isNameByte_43 (by decide +kernel) (by decide) ?_
          refine wp_icmp_eq (tgt := 54) dX1_isNameByte_45 (by decide) (fun h45 => ?_) (fun h45 => ?_)
          · refine wp_iconst dX1_isNameByte_54 (by decide) ?_
            refine wp_goto (tgt := 59) dX1_isNameByte_55 (by decide) ?_
            exact wp_zret dX1_isNameByte_59 rfl (Or.inr rfl) (fun _ => by rw [show bI (isNb c) = 1 from if_pos (by omega)] at hQ; exact hQ)
          · refine wp_iload_n dX1_isNameByte_48 rfl rfl ?_
            refine wp_bipush dX1_isNameByte_49 (by decide +kernel) (by decide) ?_
            refine wp_icmp_ne (tgt := 58) dX1_isNameByte_51 (by decide) (fun h51 => ?_) (fun h51 => ?_)
            · refine wp_iconst dX1_isNameByte_58 (by decide) ?_
              exact wp_zret dX1_isNameByte_59 rfl (Or.inl rfl) (fun _ => by rw [show bI (isNb c) = 0 from if_neg (by omega)] at hQ; exact hQ)
            · refine wp_iconst dX1_isNameByte_54 (by decide) ?_
              refine wp_goto (tgt := 59) dX1_isNameByte_55 (by decide) ?_
              exact wp_zret dX1_isNameByte_59 rfl (Or.inr rfl) (fun _ => by rw [show bI (isNb c) = 1 from if_pos (by omega)] at hQ; exact hQ)
      · refine wp_iload_n dX1_isNameByte_30 rfl rfl ?_
        refine wp_bipush dX1_isNameByte_31 (by decide +kernel) (by decide) ?_
        refine wp_icmp_le (tgt := 54) dX1_isNameByte_33 (by decide) (fun h33 => ?_) (fun h33 => ?_)
        · refine wp_iconst dX1_isNameByte_54 (by decide) ?_
          refine wp_goto (tgt := 59) dX1_isNameByte_55 (by decide) ?_
          exact wp_zret dX1_isNameByte_59 rfl (Or.inr rfl) (fun _ => by rw [show bI (isNb c) = 1 from if_pos (by omega)] at hQ; exact hQ)
        · refine wp_iload_n dX1_isNameByte_36 rfl rfl ?_
          refine wp_bipush dX1_isNameByte_37 (by decide +kernel) (by decide) ?_
          refine wp_icmp_eq (tgt := 54) dX1_isNameByte_39 (by decide) (fun h39 => ?_) (fun h39 => ?_)
          · refine wp_iconst dX1_isNameByte_54 (by decide) ?_
            refine wp_goto (tgt := 59) dX1_isNameByte_55 (by decide) ?_
            exact wp_zret dX1_isNameByte_59 rfl (Or.inr rfl) (fun _ => by rw [show bI (isNb c) = 1 from if_pos (by omega)] at hQ; exact hQ)
          · refine wp_iload_n dX1_isNameByte_42 rfl rfl ?_
            refine wp_bipush dX1_isNameByte_43 (by decide +kernel) (by decide) ?_
            refine wp_icmp_eq (tgt := 54) dX1_isNameByte_45 (by decide) (fun h45 => ?_) (fun h45 => ?_)
            · refine wp_iconst dX1_isNameByte_54 (by decide) ?_
              refine wp_goto (tgt := 59) dX1_isNameByte_55 (by decide) ?_
              exact wp_zret dX1_isNameByte_59 rfl (Or.inr rfl) (fun _ => by rw [show bI (isNb c) = 1 from if_pos (by omega)] at hQ; exact hQ)
            · refine wp_iload_n dX1_isNameByte_48 rfl rfl ?_
              refine wp_bipush dX1_isNameByte_49 (by decide +kernel) (by decide) ?_
              refine wp_icmp_ne (tgt := 58) dX1_isNameByte_51 (by decide) (fun h51 => ?_) (fun h51 => ?_)
              · refine wp_iconst dX1_isNameByte_58 (by decide) ?_
                exact wp_zret dX1_isNameByte_59 rfl (Or.inl rfl) (fun _ => by rw [show bI (isNb c) = 0 from if_neg (by omega)] at hQ; exact hQ)
              · refine wp_iconst dX1_isNameByte_54 (by decide) ?_
                refine wp_goto (tgt := 59) dX1_isNameByte_55 (by decide) ?_
                exact wp_zret dX1_isNameByte_59 rfl (Or.inr rfl) (fun _ => by rw [show bI (isNb c) = 1 from if_pos (by omega)] at hQ; exact hQ)
    · refine wp_iload_n dX1_isNameByte_18 rfl rfl ?_
      refine wp_bipush dX1_isNameByte_19 (by decide +kernel) (by decide) ?_
      refine wp_icmp_le (tgt := 54) dX1_isNameByte_21 (by decide) (fun h21 => ?_) (fun h21 => ?_)
      · refine wp_iconst dX1_isNameByte_54 (by decide) ?_
        refine wp_goto (tgt := 59) dX1_isNameByte_55 (by decide) ?_
        exact wp_zret dX1_isNameByte_59 rfl (Or.inr rfl) (fun _ => by rw [show bI (isNb c) = 1 from if_pos (by omega)] at hQ; exact hQ)
      · refine wp_iload_n dX1_isNameByte_24 rfl rfl ?_
        refine wp_bipush dX1_isNameByte_25 (by decide +kernel) (by decide) ?_
        refine wp_icmp_lt (tgt := 36) dX1_isNameByte_27 (by decide) (fun h27 => ?_) (fun h27 => ?_)
        · refine wp_iload_n dX1_isNameByte_36 rfl rfl ?_
          refine wp_bipush dX1_isNameByte_37 (by decide +kernel) (by decide) ?_
          refine wp_icmp_eq (tgt := 54) dX1_isNameByte_39 (by decide) (fun h39 => ?_) (fun h39 => ?_)
          · refine wp_iconst dX1_isNameByte_54 (by decide) ?_
            refine wp_goto (tgt := 59) dX1_isNameByte_55 (by decide) ?_
            exact wp_zret dX1_isNameByte_59 rfl (Or.inr rfl) (fun _ => by rw [show bI (isNb c) = 1 from if_pos (by omega)] at hQ; exact hQ)
          · refine wp_iload_n dX1_isNameByte_42 rfl rfl ?_
            refine wp_bipush dX1_isNameByte_43 (by decide +kernel) (by decide) ?_
            refine wp_icmp_eq (tgt := 54) dX1_isNameByte_45 (by decide) (fun h45 => ?_) (fun h45 => ?_)
            · refine wp_iconst dX1_isNameByte_54 (by decide) ?_
              refine wp_goto (tgt := 59) dX1_isNameByte_55 (by decide) ?_
              exact wp_zret dX1_isNameByte_59 rfl (Or.inr rfl) (fun _ => by rw [show bI (isNb c) = 1 from if_pos (by omega)] at hQ; exact hQ)
            · refine wp_iload_n dX1_isNameByte_48 rfl rfl ?_
              refine wp_bipush dX1_isNameByte_49 (by decide +kernel) (by decide) ?_
              refine wp_icmp_ne (tgt := 58) dX1_isNameByte_51 (by decide) (fun h51 => ?_) (fun h51 => ?_)
              · refine wp_iconst dX1_isNameByte_58 (by decide) ?_
                exact wp_zret dX1_isNameByte_59 rfl (Or.inl rfl) (fun _ => by rw [show bI (isNb c) = 0 from if_neg (by omega)] at hQ; exact hQ)
              · refine wp_iconst dX1_isNameByte_54 (by decide) ?_
                refine wp_goto (tgt := 59) dX1_isNameByte_55 (by decide) ?_
                exact wp_zret dX1_isNameByte_59 rfl (Or.inr rfl) (fun _ => by rw [show bI (isNb c) = 1 from if_pos (by omega)] at hQ; exact hQ)
        · refine wp_iload_n dX1_isNameByte_30 rfl rfl ?_
          refine wp_bipush dX1_isNameByte_31 (by decide +kernel) (by decide) ?_
          refine wp_icmp_le (tgt := 54) dX1_isNameByte_33 (by decide) (fun h33 => ?_) (fun h33 => ?_)
          · refine wp_iconst dX1_isNameByte_54 (by decide) ?_
            refine wp_goto (tgt := 59) dX1_isNameByte_55 (by decide) ?_
            exact wp_zret dX1_isNameByte_59 rfl (Or.inr rfl) (fun _ => by rw [show bI (isNb c) = 1 from if_pos (by omega)] at hQ; exact hQ)
          · refine wp_iload_n dX1_isNameByte_36 rfl rfl ?_
            refine wp_bipush dX1_isNameByte_37 (by decide +kernel) (by decide) ?_
            refine wp_icmp_eq (tgt := 54) dX1_isNameByte_39 (by decide) (fun h39 => ?_) (fun h39 => ?_)
            · refine wp_iconst dX1_isNameByte_54 (by decide) ?_
              refine wp_goto (tgt := 59) dX1_isNameByte_55 (by decide) ?_
              exact wp_zret dX1_isNameByte_59 rfl (Or.inr rfl) (fun _ => by rw [show bI (isNb c) = 1 from if_pos (by omega)] at hQ; exact hQ)
            · refine wp_iload_n dX1_isNameByte_42 rfl rfl ?_
              refine wp_bipush dX1_isNameByte_43 (by decide +kernel) (by decide) ?_
              refine wp_icmp_eq (tgt := 54) dX1_isNameByte_45 (by decide) (fun h45 => ?_) (fun h45 => ?_)
              · refine wp_iconst dX1_isNameByte_54 (by decide) ?_
                refine wp_goto (tgt := 59) dX1_isNameByte_55 (by decide) ?_
                exact wp_zret dX1_isNameByte_59 rfl (Or.inr rfl) (fun _ => by rw [show bI (isNb c) = 1 from if_pos (by omega)] at hQ; exact hQ)
              · refine wp_iload_n dX1_isNameByte_48 rfl rfl ?_
                refine wp_bipush dX1_isNameByte_49 (by decide +kernel) (by decide) ?_
                refine wp_icmp_ne (tgt := 58) dX1_isNameByte_51 (by decide) (fun h51 => ?_) (fun h51 => ?_)
                · refine wp_iconst dX1_isNameByte_58 (by decide) ?_
                  exact wp_zret dX1_isNameByte_59 rfl (Or.inl rfl) (fun _ => by rw [show bI (isNb c) = 0 from if_neg (by omega)] at hQ; exact hQ)
                · refine wp_iconst dX1_isNameByte_54 (by decide) ?_
                  refine wp_goto (tgt := 59) dX1_isNameByte_55 (by decide) ?_
                  exact wp_zret dX1_isNameByte_59 rfl (Or.inr rfl) (fun _ => by rw [show bI (isNb c) = 1 from if_pos (by omega)] at hQ; exact hQ)
  · refine wp_iload_n dX1_isNameByte_6 rfl rfl ?_
    refine wp_bipush dX1_isNameByte_7 (by decide +kernel) (by decide) ?_
    refine wp_icmp_le (tgt := 54) dX1_isNameByte_9 (by decide) (fun h9 => ?_) (fun h9 => ?_)
    · refine wp_iconst dX1_isNameByte_54 (by decide) ?_
      refine wp_goto (tgt := 59) dX1_isNameByte_55 (by decide) ?_
      exact wp_zret dX1_isNameByte_59 rfl (Or.inr rfl) (fun _ => by rw [show bI (isNb c) = 1 from if_pos (by omega)] at hQ; exact hQ)
    · refine wp_iload_n dX1_isNameByte_12 rfl rfl ?_
      refine wp_bipush dX1_isNameByte_13 (by decide +kernel) (by decide) ?_
      refine wp_icmp_lt (tgt := 24) dX1_isNameByte_15 (by decide) (fun h15 => ?_) (fun h15 => ?_)
      · refine wp_iload_n dX1_isNameByte_24 rfl rfl ?_
        refine wp_bipush dX1_isNameByte_25 (by decide +kernel) (by decide) ?_
        refine wp_icmp_lt (tgt := 36) dX1_isNameByte_27 (by decide) (fun h27 => ?_) (fun h27 => ?_)
        · refine wp_iload_n dX1_isNameByte_36 rfl rfl ?_
          refine wp_bipush dX1_isNameByte_37 (by decide +kernel) (by decide) ?_
          refine wp_icmp_eq (tgt := 54) dX1_isNameByte_39 (by decide) (fun h39 => ?_) (fun h39 => ?_)
          · refine wp_iconst dX1_isNameByte_54 (by decide) ?_
            refine wp_goto (tgt := 59) dX1_isNameByte_55 (by decide) ?_
            exact wp_zret dX1_isNameByte_59 rfl (Or.inr rfl) (fun _ => by rw [show bI (isNb c) = 1 from if_pos (by omega)] at hQ; exact hQ)
          · refine wp_iload_n dX1_isNameByte_42 rfl rfl ?_
            refine wp_bipush dX1_isNameByte_43 (by decide +kernel) (by decide) ?_
            refine wp_icmp_eq (tgt := 54) dX1_isNameByte_45 (by decide) (fun h45 => ?_) (fun h45 => ?_)
            · refine wp_iconst dX1_isNameByte_54 (by decide) ?_
              refine wp_goto (tgt := 59) dX1_isNameByte_55 (by decide) ?_
              exact wp_zret dX1_isNameByte_59 rfl (Or.inr rfl) (fun _ => by rw [show bI (isNb c) = 1 from if_pos (by omega)] at hQ; exact hQ)
            · refine wp_iload_n dX1_isNameByte_48 rfl rfl ?_
              refine wp_bipush dX1_isNameByte_49 (by decide +kernel) (by decide) ?_
              refine wp_icmp_ne (tgt := 58) dX1_isNameByte_51 (by decide) (fun h51 => ?_) (fun h51 => ?_)
              · refine wp_iconst dX1_isNameByte_58 (by decide) ?_
                exact wp_zret dX1_isNameByte_59 rfl (Or.inl rfl) (fun _ => by rw [show bI (isNb c) = 0 from if_neg (by omega)] at hQ; exact hQ)
              · refine wp_iconst dX1_isNameByte_54 (by decide) ?_
                refine wp_goto (tgt := 59) dX1_isNameByte_55 (by decide) ?_
                exact wp_zret dX1_isNameByte_59 rfl (Or.inr rfl) (fun _ => by rw [show bI (isNb c) = 1 from if_pos (by omega)] at hQ; exact hQ)
        · refine wp_iload_n dX1_isNameByte_30 rfl rfl ?_
          refine wp_bipush dX1_isNameByte_31 (by decide +kernel) (by decide) ?_
          refine wp_icmp_le (tgt := 54) dX1_isNameByte_33 (by decide) (fun h33 => ?_) (fun h33 => ?_)
          · refine wp_iconst dX1_isNameByte_54 (by decide) ?_
            refine wp_goto (tgt := 59) dX1_isNameByte_55 (by decide) ?_
            exact wp_zret dX1_isNameByte_59 rfl (Or.inr rfl) (fun _ => by rw [show bI (isNb c) = 1 from if_pos (by omega)] at hQ; exact hQ)
          · refine wp_iload_n dX1_isNameByte_36 rfl rfl ?_
            refine wp_bipush dX1_isNameByte_37 (by decide +kernel) (by decide) ?_
            refine wp_icmp_eq (tgt := 54) dX1_isNameByte_39 (by decide) (fun h39 => ?_) (fun h39 => ?_)
            · refine wp_iconst dX1_isNameByte_54 (by decide) ?_
              refine wp_goto (tgt := 59) dX1_isNameByte_55 (by decide) ?_
              exact wp_zret dX1_isNameByte_59 rfl (Or.inr rfl) (fun _ => by rw [show bI (isNb c) = 1 from if_pos (by omega)] at hQ; exact hQ)
            · refine wp_iload_n dX1_isNameByte_42 rfl rfl ?_
              refine wp_bipush dX1_isNameByte_43 (by decide +kernel) (by decide) ?_
              refine wp_icmp_eq (tgt := 54) dX1_isNameByte_45 (by decide) (fun h45 => ?_) (fun h45 => ?_)
              · refine wp_iconst dX1_isNameByte_54 (by decide) ?_
                refine wp_goto (tgt := 59) dX1_isNameByte_55 (by decide) ?_
                exact wp_zret dX1_isNameByte_59 rfl (Or.inr rfl) (fun _ => by rw [show bI (isNb c) = 1 from if_pos (by omega)] at hQ; exact hQ)
              · refine wp_iload_n dX1_isNameByte_48 rfl rfl ?_
                refine wp_bipush dX1_isNameByte_49 (by decide +kernel) (by decide) ?_
                refine wp_icmp_ne (tgt := 58) dX1_isNameByte_51 (by decide) (fun h51 => ?_) (fun h51 => ?_)
                · refine wp_iconst dX1_isNameByte_58 (by decide) ?_
                  exact wp_zret dX1_isNameByte_59 rfl (Or.inl rfl) (fun _ => by rw [show bI (isNb c) = 0 from if_neg (by omega)] at hQ; exact hQ)
                · refine wp_iconst dX1_isNameByte_54 (by decide) ?_
                  refine wp_goto (tgt := 59) dX1_isNameByte_55 (by decide) ?_
                  exact wp_zret dX1_isNameByte_59 rfl (Or.inr rfl) (fun _ => by rw [show bI (isNb c) = 1 from if_pos (by omega)] at hQ; exact hQ)
      · refine wp_iload_n dX1_isNameByte_18 rfl rfl ?_
        refine wp_bipush dX1_isNameByte_19 (by decide +kernel) (by decide) ?_
        refine wp_icmp_le (tgt := 54) dX1_isNameByte_21 (by decide) (fun h21 => ?_) (fun h21 => ?_)
        · refine wp_iconst dX1_isNameByte_54 (by decide) ?_
          refine wp_goto (tgt := 59) dX1_isNameByte_55 (by decide) ?_
          exact wp_zret dX1_isNameByte_59 rfl (Or.inr rfl) (fun _ => by rw [show bI (isNb c) = 1 from if_pos (by omega)] at hQ; exact hQ)
        · refine wp_iload_n dX1_isNameByte_24 rfl rfl ?_
          refine wp_bipush dX1_isNameByte_25 (by decide +kernel) (by decide) ?_
          refine wp_icmp_lt (tgt := 36) dX1_isNameByte_27 (by decide) (fun h27 => ?_) (fun h27 => ?_)
          · refine wp_iload_n dX1_isNameByte_36 rfl rfl ?_
            refine wp_bipush dX1_isNameByte_37 (by decide +kernel) (by decide) ?_
            refine wp_icmp_eq (tgt := 54) dX1_isNameByte_39 (by decide) (fun h39 => ?_) (fun h39 => ?_)
            · refine wp_iconst dX1_isNameByte_54 (by decide) ?_
              refine wp_goto (tgt := 59) dX1_isNameByte_55 (by decide) ?_
              exact wp_zret dX1_isNameByte_59 rfl (Or.inr rfl) (fun _ => by rw [show bI (isNb c) = 1 from if_pos (by omega)] at hQ; exact hQ)
            · refine wp_iload_n dX1_isNameByte_42 rfl rfl ?_
              refine wp_bipush dX1_isNameByte_43 (by decide +kernel) (by decide) ?_
              refine wp_icmp_eq (tgt := 54) dX1_isNameByte_45 (by decide) (fun h45 => ?_) (fun h45 => ?_)
              · refine wp_iconst dX1_isNameByte_54 (by decide) ?_
                refine wp_goto (tgt := 59) dX1_isNameByte_55 (by decide) ?_
                exact wp_zret dX1_isNameByte_59 rfl (Or.inr rfl) (fun _ => by rw [show bI (isNb c) = 1 from if_pos (by omega)] at hQ; exact hQ)
              · refine wp_iload_n dX1_isNameByte_48 rfl rfl ?_
                refine wp_bipush dX1_isNameByte_49 (by decide +kernel) (by decide) ?_
                refine wp_icmp_ne (tgt := 58) dX1_isNameByte_51 (by decide) (fun h51 => ?_) (fun h51 => ?_)
                · refine wp_iconst dX1_isNameByte_58 (by decide) ?_
                  exact wp_zret dX1_isNameByte_59 rfl (Or.inl rfl) (fun _ => by rw [show bI (isNb c) = 0 from if_neg (by omega)] at hQ; exact hQ)
                · refine wp_iconst dX1_isNameByte_54 (by decide) ?_
                  refine wp_goto (tgt := 59) dX1_isNameByte_55 (by decide) ?_
                  exact wp_zret dX1_isNameByte_59 rfl (Or.inr rfl) (fun _ => by rw [show bI (isNb c) = 1 from if_pos (by omega)] at hQ; exact hQ)
          · refine wp_iload_n dX1_isNameByte_30 rfl rfl ?_
            refine wp_bipush dX1_isNameByte_31 (by decide +kernel) (by decide) ?_
            refine wp_icmp_le (tgt := 54) dX1_isNameByte_33 (by decide) (fun h33 => ?_) (fun h33 => ?_)
            · refine wp_iconst dX1_isNameByte_54 (by decide) ?_
              refine wp_goto (tgt := 59) dX1_isNameByte_55 (by decide) ?_
              exact wp_zret dX1_isNameByte_59 rfl (Or.inr rfl) (fun _ => by rw [show bI (isNb c) = 1 from if_pos (by omega)] at hQ; exact hQ)
            · refine wp_iload_n dX1_isNameByte_36 rfl rfl ?_
              refine wp_bipush dX1_isNameByte_37 (by decide +kernel) (by decide) ?_
              refine wp_icmp_eq (tgt := 54) dX1_isNameByte_39 (by decide) (fun h39 => ?_) (fun h39 => ?_)
              · refine wp_iconst dX1_isNameByte_54 (by decide) ?_
                refine wp_goto (tgt := 59) dX1_isNameByte_55 (by decide) ?_
                exact wp_zret dX1_isNameByte_59 rfl (Or.inr rfl) (fun _ => by rw [show bI (isNb c) = 1 from if_pos (by omega)] at hQ; exact hQ)
              · refine wp_iload_n dX1_isNameByte_42 rfl rfl ?_
                refine wp_bipush dX1_isNameByte_43 (by decide +kernel) (by decide) ?_
                refine wp_icmp_eq (tgt := 54) dX1_isNameByte_45 (by decide) (fun h45 => ?_) (fun h45 => ?_)
                · refine wp_iconst dX1_isNameByte_54 (by decide) ?_
                  refine wp_goto (tgt := 59) dX1_isNameByte_55 (by decide) ?_
                  exact wp_zret dX1_isNameByte_59 rfl (Or.inr rfl) (fun _ => by rw [show bI (isNb c) = 1 from if_pos (by omega)] at hQ; exact hQ)
                · refine wp_iload_n dX1_isNameByte_48 rfl rfl ?_
                  refine wp_bipush dX1_isNameByte_49 (by decide +kernel) (by decide) ?_
                  refine wp_icmp_ne (tgt := 58) dX1_isNameByte_51 (by decide) (fun h51 => ?_) (fun h51 => ?_)
                  · refine wp_iconst dX1_isNameByte_58 (by decide) ?_
                    exact wp_zret dX1_isNameByte_59 rfl (Or.inl rfl) (fun _ => by rw [show bI (isNb c) = 0 from if_neg (by omega)] at hQ; exact hQ)
                  · refine wp_iconst dX1_isNameByte_54 (by decide) ?_
                    refine wp_goto (tgt := 59) dX1_isNameByte_55 (by decide) ?_
                    exact wp_zret dX1_isNameByte_59 rfl (Or.inr rfl) (fun _ => by rw [show bI (isNb c) = 1 from if_pos (by omega)] at hQ; exact hQ)
theorem dX12_isS_0 : decode cX12_isS 0 = .ok (.iload_n 0, 1) := by decide +kernel
theorem dX12_isS_1 : decode cX12_isS 1 = .ok (.bipush 32, 2) := by decide +kernel
theorem dX12_isS_3 : decode cX12_isS 3 = .ok (.if_icmp .eq 21, 3) := by decide +kernel
theorem dX12_isS_6 : decode cX12_isS 6 = .ok (.iload_n 0, 1) := by decide +kernel
theorem dX12_isS_7 : decode cX12_isS 7 = .ok (.bipush 9, 2) := by decide +kernel
theorem dX12_isS_9 : decode cX12_isS 9 = .ok (.if_icmp .eq 15, 3) := by decide +kernel
theorem dX12_isS_12 : decode cX12_isS 12 = .ok (.iload_n 0, 1) := by decide +kernel
theorem dX12_isS_13 : decode cX12_isS 13 = .ok (.bipush 10, 2) := by decide +kernel
theorem dX12_isS_15 : decode cX12_isS 15 = .ok (.if_icmp .eq 9, 3) := by decide +kernel
theorem dX12_isS_18 : decode cX12_isS 18 = .ok (.iload_n 0, 1) := by decide +kernel
theorem dX12_isS_19 : decode cX12_isS 19 = .ok (.bipush 13, 2) := by decide +kernel
theorem dX12_isS_21 : decode cX12_isS 21 = .ok (.if_icmp .ne 7, 3) := by decide +kernel
theorem dX12_isS_24 : decode cX12_isS 24 = .ok (.iconst 1, 1) := by decide +kernel
theorem dX12_isS_25 : decode cX12_isS 25 = .ok (.goto 4, 3) := by decide +kernel
theorem dX12_isS_28 : decode cX12_isS 28 = .ok (.iconst 0, 1) := by decide +kernel
theorem dX12_isS_29 : decode cX12_isS 29 = .ok (.ireturn, 1) := by decide +kernel
theorem w_X12_isS {c : Int} (hQ : Q (some (vI (bI (isSp c)))) M) : wp cs mX12_isS kf Q 0 (padL [vI c] 1) [] (kf, M) := by
  refine wp_L (L' := [some (vI c)]) rfl ?_
  refine wp_iload_n dX12_isS_0 rfl rfl ?_
  refine wp_bipush dX12_isS_1 (by decide +kernel) (by decide) ?_
  refine wp_icmp_eq (tgt := 24) dX12_isS_3 (by decide) (fun h3 => ?_) (fun h3 => ?_)
  · refine wp_iconst dX12_isS_24 (by decide) ?_
    refine wp_goto (tgt := 29) dX12_isS_25 (by decide) ?_
    exact wp_zret dX12_isS_29 rfl (Or.inr rfl) (fun _ => by rw [show bI (isSp c) = 1 from if_pos (by omega)] at hQ; exact hQ)
  · refine wp_iload_n dX12_isS_6 rfl rfl ?_
    refine wp_bipush dX12_isS_7 (by decide +kernel) (by decide) ?_
    refine wp_icmp_eq (tgt := 24) dX12_isS_9 (by decide) (fun h9 => ?_) (fun h9 => ?_)
    · refine wp_iconst dX12_isS_24 (by decide) ?_
      refine wp_goto (tgt := 29) dX12_isS_25 (by decide) ?_
      exact wp_zret dX12_isS_29 rfl (Or.inr rfl) (fun _ => by rw [show bI (isSp c) = 1 from if_pos (by omega)] at hQ; exact hQ)
    · refine wp_iload_n dX12_isS_12 rfl rfl ?_
      refine wp_bipush dX12_isS_13 (by decide +kernel) (by decide) ?_
      refine wp_icmp_eq (tgt := 24) dX12_isS_15 (by decide) (fun h15 => ?_) (fun h15 => ?_)
      · refine wp_iconst dX12_isS_24 (by decide) ?_
        refine wp_goto (tgt := 29) dX12_isS_25 (by decide) ?_
        exact wp_zret dX12_isS_29 rfl (Or.inr rfl) (fun _ => by rw [show bI (isSp c) = 1 from if_pos (by omega)] at hQ; exact hQ)
      · refine wp_iload_n dX12_isS_18 rfl rfl ?_
        refine wp_bipush dX12_isS_19 (by decide +kernel) (by decide) ?_
        refine wp_icmp_ne (tgt := 28) dX12_isS_21 (by decide) (fun h21 => ?_) (fun h21 => ?_)
        · refine wp_iconst dX12_isS_28 (by decide) ?_
          exact wp_zret dX12_isS_29 rfl (Or.inl rfl) (fun _ => by rw [show bI (isSp c) = 0 from if_neg (by omega)] at hQ; exact hQ)
        · refine wp_iconst dX12_isS_24 (by decide) ?_
          refine wp_goto (tgt := 29) dX12_isS_25 (by decide) ?_
          exact wp_zret dX12_isS_29 rfl (Or.inr rfl) (fun _ => by rw [show bI (isSp c) = 1 from if_pos (by omega)] at hQ; exact hQ)
end P16
