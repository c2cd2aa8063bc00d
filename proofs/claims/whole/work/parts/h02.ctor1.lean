/-! The two constructors, step by step. -/
def kI_0 : List (Nat × Nat × Nat × Int) := []
def kL_0 : List (Nat × Nat × Nat × Int) := []
def kR_0 : List (Nat × Nat × Nat × Nat) := []
theorem dX11_init_0 : decode cX11_init 0 = .ok (.aload_n 0, 1) := by decide +kernel
theorem dX11_init_1 : decode cX11_init 1 = .ok (.invokespecial 3, 3) := by decide +kernel
theorem dX11_init_4 : decode cX11_init 4 = .ok (.aload_n 0, 1) := by decide +kernel
theorem dX11_init_5 : decode cX11_init 5 = .ok (.sipush 6000, 3) := by decide +kernel
theorem dX11_init_8 : decode cX11_init 8 = .ok (.newarray .byte, 2) := by decide +kernel
theorem dX11_init_10 : decode cX11_init 10 = .ok (.putfield 9, 3) := by decide +kernel
theorem dX11_init_13 : decode cX11_init 13 = .ok (.aload_n 0, 1) := by decide +kernel
theorem dX11_init_14 : decode cX11_init 14 = .ok (.new 13, 3) := by decide +kernel
theorem dX11_init_17 : decode cX11_init 17 = .ok (.dup, 1) := by decide +kernel
theorem dX11_init_18 : decode cX11_init 18 = .ok (.invokespecial 15, 3) := by decide +kernel
theorem dX11_init_21 : decode cX11_init 21 = .ok (.putfield 16, 3) := by decide +kernel
theorem dX11_init_24 : decode cX11_init 24 = .ok (.aload_n 0, 1) := by decide +kernel
theorem dX11_init_25 : decode cX11_init 25 = .ok (.new 20, 3) := by decide +kernel
theorem dX11_init_28 : decode cX11_init 28 = .ok (.dup, 1) := by decide +kernel
theorem dX11_init_29 : decode cX11_init 29 = .ok (.aload_n 0, 1) := by decide +kernel
theorem dX11_init_30 : decode cX11_init 30 = .ok (.getfield 16, 3) := by decide +kernel
theorem dX11_init_33 : decode cX11_init 33 = .ok (.invokespecial 22, 3) := by decide +kernel
theorem dX11_init_36 : decode cX11_init 36 = .ok (.putfield 25, 3) := by decide +kernel
theorem dX11_init_39 : decode cX11_init 39 = .ok (.aload_n 0, 1) := by decide +kernel
theorem dX11_init_40 : decode cX11_init 40 = .ok (.new 29, 3) := by decide +kernel
theorem dX11_init_43 : decode cX11_init 43 = .ok (.dup, 1) := by decide +kernel
theorem dX11_init_44 : decode cX11_init 44 = .ok (.aload_n 0, 1) := by decide +kernel
theorem dX11_init_45 : decode cX11_init 45 = .ok (.getfield 16, 3) := by decide +kernel
theorem dX11_init_48 : decode cX11_init 48 = .ok (.invokespecial 31, 3) := by decide +kernel
theorem dX11_init_51 : decode cX11_init 51 = .ok (.putfield 32, 3) := by decide +kernel
theorem dX11_init_54 : decode cX11_init 54 = .ok (.aload_n 0, 1) := by decide +kernel
theorem dX11_init_55 : decode cX11_init 55 = .ok (.new 36, 3) := by decide +kernel
theorem dX11_init_58 : decode cX11_init 58 = .ok (.dup, 1) := by decide +kernel
theorem dX11_init_59 : decode cX11_init 59 = .ok (.invokespecial 38, 3) := by decide +kernel
theorem dX11_init_62 : decode cX11_init 62 = .ok (.putfield 39, 3) := by decide +kernel
theorem dX11_init_65 : decode cX11_init 65 = .ok (.aload_n 0, 1) := by decide +kernel
theorem dX11_init_66 : decode cX11_init 66 = .ok (.new 43, 3) := by decide +kernel
theorem dX11_init_69 : decode cX11_init 69 = .ok (.dup, 1) := by decide +kernel
theorem dX11_init_70 : decode cX11_init 70 = .ok (.aload_n 0, 1) := by decide +kernel
theorem dX11_init_71 : decode cX11_init 71 = .ok (.getfield 16, 3) := by decide +kernel
theorem dX11_init_74 : decode cX11_init 74 = .ok (.invokespecial 45, 3) := by decide +kernel
theorem dX11_init_77 : decode cX11_init 77 = .ok (.putfield 46, 3) := by decide +kernel
theorem dX11_init_80 : decode cX11_init 80 = .ok (.aload_n 0, 1) := by decide +kernel
theorem dX11_init_81 : decode cX11_init 81 = .ok (.new 50, 3) := by decide +kernel
theorem dX11_init_84 : decode cX11_init 84 = .ok (.dup, 1) := by decide +kernel
theorem dX11_init_85 : decode cX11_init 85 = .ok (.invokespecial 52, 3) := by decide +kernel
theorem dX11_init_88 : decode cX11_init 88 = .ok (.putfield 53, 3) := by decide +kernel
theorem dX11_init_91 : decode cX11_init 91 = .ok (.aload_n 0, 1) := by decide +kernel
theorem dX11_init_92 : decode cX11_init 92 = .ok (.new 57, 3) := by decide +kernel
theorem dX11_init_95 : decode cX11_init 95 = .ok (.dup, 1) := by decide +kernel
theorem dX11_init_96 : decode cX11_init 96 = .ok (.invokespecial 59, 3) := by decide +kernel
theorem dX11_init_99 : decode cX11_init 99 = .ok (.putfield 60, 3) := by decide +kernel
theorem dX11_init_102 : decode cX11_init 102 = .ok (.aload_n 0, 1) := by decide +kernel
theorem dX11_init_103 : decode cX11_init 103 = .ok (.new 64, 3) := by decide +kernel
theorem dX11_init_106 : decode cX11_init 106 = .ok (.dup, 1) := by decide +kernel
theorem dX11_init_107 : decode cX11_init 107 = .ok (.invokespecial 66, 3) := by decide +kernel
theorem dX11_init_110 : decode cX11_init 110 = .ok (.putfield 67, 3) := by decide +kernel
theorem dX11_init_113 : decode cX11_init 113 = .ok (.aload_n 0, 1) := by decide +kernel
theorem dX11_init_114 : decode cX11_init 114 = .ok (.new 64, 3) := by decide +kernel
theorem dX11_init_117 : decode cX11_init 117 = .ok (.dup, 1) := by decide +kernel
theorem dX11_init_118 : decode cX11_init 118 = .ok (.invokespecial 66, 3) := by decide +kernel
theorem dX11_init_121 : decode cX11_init 121 = .ok (.putfield 71, 3) := by decide +kernel
theorem dX11_init_124 : decode cX11_init 124 = .ok (.aload_n 0, 1) := by decide +kernel
theorem dX11_init_125 : decode cX11_init 125 = .ok (.iconst 0, 1) := by decide +kernel
theorem dX11_init_126 : decode cX11_init 126 = .ok (.putfield 74, 3) := by decide +kernel
theorem dX11_init_129 : decode cX11_init 129 = .ok (.aload_n 0, 1) := by decide +kernel
theorem dX11_init_130 : decode cX11_init 130 = .ok (.iconst (-1), 1) := by decide +kernel
theorem dX11_init_131 : decode cX11_init 131 = .ok (.putfield 78, 3) := by decide +kernel
theorem dX11_init_134 : decode cX11_init 134 = .ok (.return_, 1) := by decide +kernel
def kR_1 : List (Nat × Nat × Nat × Nat) := (0, 0, 1, 1) :: kR_0
theorem dX1_init_0 : decode cX1_init 0 = .ok (.aload_n 0, 1) := by decide +kernel
theorem dX1_init_1 : decode cX1_init 1 = .ok (.invokespecial 3, 3) := by decide +kernel
theorem dX1_init_4 : decode cX1_init 4 = .ok (.aload_n 0, 1) := by decide +kernel
theorem dX1_init_5 : decode cX1_init 5 = .ok (.iconst 0, 1) := by decide +kernel
theorem dX1_init_6 : decode cX1_init 6 = .ok (.newarray .byte, 2) := by decide +kernel
theorem dX1_init_8 : decode cX1_init 8 = .ok (.putfield 9, 3) := by decide +kernel
theorem dX1_init_11 : decode cX1_init 11 = .ok (.aload_n 0, 1) := by decide +kernel
theorem dX1_init_12 : decode cX1_init 12 = .ok (.iconst 0, 1) := by decide +kernel
theorem dX1_init_13 : decode cX1_init 13 = .ok (.putfield 15, 3) := by decide +kernel
theorem dX1_init_16 : decode cX1_init 16 = .ok (.aload_n 0, 1) := by decide +kernel
theorem dX1_init_17 : decode cX1_init 17 = .ok (.iconst 0, 1) := by decide +kernel
theorem dX1_init_18 : decode cX1_init 18 = .ok (.putfield 19, 3) := by decide +kernel
theorem dX1_init_21 : decode cX1_init 21 = .ok (.aload_n 0, 1) := by decide +kernel
theorem dX1_init_22 : decode cX1_init 22 = .ok (.iconst 0, 1) := by decide +kernel
theorem dX1_init_23 : decode cX1_init 23 = .ok (.putfield 22, 3) := by decide +kernel
theorem dX1_init_26 : decode cX1_init 26 = .ok (.aload_n 0, 1) := by decide +kernel
theorem dX1_init_27 : decode cX1_init 27 = .ok (.iconst 0, 1) := by decide +kernel
theorem dX1_init_28 : decode cX1_init 28 = .ok (.putfield 25, 3) := by decide +kernel
theorem dX1_init_31 : decode cX1_init 31 = .ok (.aload_n 0, 1) := by decide +kernel
theorem dX1_init_32 : decode cX1_init 32 = .ok (.iconst 0, 1) := by decide +kernel
theorem dX1_init_33 : decode cX1_init 33 = .ok (.putfield 28, 3) := by decide +kernel
theorem dX1_init_36 : decode cX1_init 36 = .ok (.aload_n 0, 1) := by decide +kernel
theorem dX1_init_37 : decode cX1_init 37 = .ok (.iconst (-1), 1) := by decide +kernel
theorem dX1_init_38 : decode cX1_init 38 = .ok (.putfield 31, 3) := by decide +kernel
theorem dX1_init_41 : decode cX1_init 41 = .ok (.return_, 1) := by decide +kernel
def kR_2 : List (Nat × Nat × Nat × Nat) := (2, 0, 1, 3) :: kR_1
def kI_1 : List (Nat × Nat × Nat × Int) := (2, 1, 1, 0) :: kI_0
def kI_2 : List (Nat × Nat × Nat × Int) := (2, 2, 1, 0) :: kI_1
def kI_3 : List (Nat × Nat × Nat × Int) := (2, 3, 1, 0) :: kI_2
def kI_4 : List (Nat × Nat × Nat × Int) := (2, 4, 1, 0) :: kI_3
def kI_5 : List (Nat × Nat × Nat × Int) := (2, 5, 1, 0) :: kI_4
def kI_6 : List (Nat × Nat × Nat × Int) := (2, 6, 1, -1) :: kI_5
theorem kc_X1_init_2 {cs : Cs} : Mk cs mX1_init [] 2 3 4 kI_0 kL_0 kR_1 kI_6 kL_0 kR_2 := by
  intro Q hQ
  refine wp_L (L' := [some (vR 2)]) rfl ?_
  refine wp_aload_n dX1_init_0 rfl rfl (Or.inl (by decide)) ?_
  refine wp_objInit dX1_init_1 lX1_3 oi1 oi2 (Or.inl (by decide)) (Nat.le_of_ble_eq_true rfl) (by decide) (by decide) ?_
  refine wp_aload_n dX1_init_4 rfl rfl (Or.inl (by decide)) ?_
  refine wp_iconst dX1_init_5 (by decide) ?_
  refine kn_nB (j := 3) dX1_init_6 (by decide) (by decide +kernel) (by decide) (by decide +kernel) ?_
  refine kn_pR (N := 7) dX1_init_8 pX1_9 rfl (by decide +kernel) (by decide) (by decide) (by decide) (Or.inr ⟨_, rfl⟩) ?_
  refine wp_so (σ' := (KD.take 4, rdL 0 kI_0, rdL 0 kL_0, rdL 1000000 kR_2)) rfl ?_
  refine wp_pc (pc' := 11) rfl ?_
  refine wp_aload_n dX1_init_11 rfl rfl (Or.inl (by decide)) ?_
  refine wp_iconst dX1_init_12 (by decide) ?_
  refine kn_pI (N := 7) dX1_init_13 pX1_15 (by decide +kernel) (by decide) (by decide) ?_
  refine wp_so (σ' := (KD.take 4, rdL 0 kI_1, rdL 0 kL_0, rdL 1000000 kR_2)) rfl ?_
  refine wp_aload_n dX1_init_16 rfl rfl (Or.inl (by decide)) ?_
  refine wp_iconst dX1_init_17 (by decide) ?_
  refine kn_pI (N := 7) dX1_init_18 pX1_19 (by decide +kernel) (by decide) (by decide) ?_
  refine wp_so (σ' := (KD.take 4, rdL 0 kI_2, rdL 0 kL_0, rdL 1000000 kR_2)) rfl ?_
  refine wp_aload_n dX1_init_21 rfl rfl (Or.inl (by decide)) ?_
  refine wp_iconst dX1_init_22 (by decide) ?_
  refine wp_pc (pc' := 23) rfl ?_
  refine kn_pI (N := 7) dX1_init_23 pX1_22 (by decide +kernel) (by decide) (by decide) ?_
  refine wp_so (σ' := (KD.take 4, rdL 0 kI_3, rdL 0 kL_0, rdL 1000000 kR_2)) rfl ?_
  refine wp_aload_n dX1_init_26 rfl rfl (Or.inl (by decide)) ?_
  refine wp_iconst dX1_init_27 (by decide) ?_
  refine kn_pI (N := 7) dX1_init_28 pX1_25 (by decide +kernel) (by decide) (by decide) ?_
  refine wp_so (σ' := (KD.take 4, rdL 0 kI_4, rdL 0 kL_0, rdL 1000000 kR_2)) rfl ?_
  refine wp_aload_n dX1_init_31 rfl rfl (Or.inl (by decide)) ?_
  refine wp_iconst dX1_init_32 (by decide) ?_
  refine kn_pI (N := 7) dX1_init_33 pX1_28 (by decide +kernel) (by decide) (by decide) ?_
  refine wp_so (σ' := (KD.take 4, rdL 0 kI_5, rdL 0 kL_0, rdL 1000000 kR_2)) rfl ?_
  refine wp_aload_n dX1_init_36 rfl rfl (Or.inl (by decide)) ?_
  refine wp_pc (pc' := 37) rfl ?_
  refine wp_iconst dX1_init_37 (by decide) ?_
  refine kn_pI (N := 7) dX1_init_38 pX1_31 (by decide +kernel) (by decide) (by decide) ?_
  refine wp_so (σ' := (KD.take 4, rdL 0 kI_6, rdL 0 kL_0, rdL 1000000 kR_2)) rfl ?_
  exact wp_vret dX1_init_41 rfl (fun _ => hQ)
def kR_3 : List (Nat × Nat × Nat × Nat) := (0, 1, 1, 2) :: kR_2
theorem dX2_init_0 : decode cX2_init 0 = .ok (.aload_n 0, 1) := by decide +kernel
theorem dX2_init_1 : decode cX2_init 1 = .ok (.invokespecial 3, 3) := by decide +kernel
theorem dX2_init_4 : decode cX2_init 4 = .ok (.aload_n 0, 1) := by decide +kernel
theorem dX2_init_5 : decode cX2_init 5 = .ok (.bipush 6, 2) := by decide +kernel
theorem dX2_init_7 : decode cX2_init 7 = .ok (.newarray .int, 2) := by decide +kernel
theorem dX2_init_9 : decode cX2_init 9 = .ok (.putfield 11, 3) := by decide +kernel
theorem dX2_init_12 : decode cX2_init 12 = .ok (.aload_n 0, 1) := by decide +kernel
theorem dX2_init_13 : decode cX2_init 13 = .ok (.bipush 6, 2) := by decide +kernel
theorem dX2_init_15 : decode cX2_init 15 = .ok (.newarray .int, 2) := by decide +kernel
theorem dX2_init_17 : decode cX2_init 17 = .ok (.putfield 15, 3) := by decide +kernel
theorem dX2_init_20 : decode cX2_init 20 = .ok (.aload_n 0, 1) := by decide +kernel
theorem dX2_init_21 : decode cX2_init 21 = .ok (.bipush 6, 2) := by decide +kernel
theorem dX2_init_23 : decode cX2_init 23 = .ok (.newarray .long, 2) := by decide +kernel
theorem dX2_init_25 : decode cX2_init 25 = .ok (.putfield 18, 3) := by decide +kernel
theorem dX2_init_28 : decode cX2_init 28 = .ok (.aload_n 0, 1) := by decide +kernel
theorem dX2_init_29 : decode cX2_init 29 = .ok (.bipush 6, 2) := by decide +kernel
theorem dX2_init_31 : decode cX2_init 31 = .ok (.newarray .long, 2) := by decide +kernel
theorem dX2_init_33 : decode cX2_init 33 = .ok (.putfield 22, 3) := by decide +kernel
theorem dX2_init_36 : decode cX2_init 36 = .ok (.aload_n 0, 1) := by decide +kernel
theorem dX2_init_37 : decode cX2_init 37 = .ok (.bipush 6, 2) := by decide +kernel
theorem dX2_init_39 : decode cX2_init 39 = .ok (.newarray .byte, 2) := by decide +kernel
theorem dX2_init_41 : decode cX2_init 41 = .ok (.putfield 25, 3) := by decide +kernel
theorem dX2_init_44 : decode cX2_init 44 = .ok (.aload_n 0, 1) := by decide +kernel
theorem dX2_init_45 : decode cX2_init 45 = .ok (.iconst 0, 1) := by decide +kernel
theorem dX2_init_46 : decode cX2_init 46 = .ok (.putfield 29, 3) := by decide +kernel
theorem dX2_init_49 : decode cX2_init 49 = .ok (.aload_n 0, 1) := by decide +kernel
theorem dX2_init_50 : decode cX2_init 50 = .ok (.lconst 0, 1) := by decide +kernel
theorem dX2_init_51 : decode cX2_init 51 = .ok (.putfield 33, 3) := by decide +kernel
theorem dX2_init_54 : decode cX2_init 54 = .ok (.aload_n 0, 1) := by decide +kernel
theorem dX2_init_55 : decode cX2_init 55 = .ok (.lconst 0, 1) := by decide +kernel
theorem dX2_init_56 : decode cX2_init 56 = .ok (.putfield 37, 3) := by decide +kernel
theorem dX2_init_59 : decode cX2_init 59 = .ok (.aload_n 0, 1) := by decide +kernel
theorem dX2_init_60 : decode cX2_init 60 = .ok (.iconst 0, 1) := by decide +kernel
theorem dX2_init_61 : decode cX2_init 61 = .ok (.putfield 40, 3) := by decide +kernel
theorem dX2_init_64 : decode cX2_init 64 = .ok (.aload_n 0, 1) := by decide +kernel
theorem dX2_init_65 : decode cX2_init 65 = .ok (.aload_n 1, 1) := by decide +kernel
theorem dX2_init_66 : decode cX2_init 66 = .ok (.putfield 44, 3) := by decide +kernel
theorem dX2_init_69 : decode cX2_init 69 = .ok (.return_, 1) := by decide +kernel
def kR_4 : List (Nat × Nat × Nat × Nat) := (4, 1, 1, 5) :: kR_3
def kR_5 : List (Nat × Nat × Nat × Nat) := (4, 2, 1, 6) :: kR_4
def kR_6 : List (Nat × Nat × Nat × Nat) := (4, 3, 1, 7) :: kR_5
def kR_7 : List (Nat × Nat × Nat × Nat) := (4, 4, 1, 8) :: kR_6
def kR_8 : List (Nat × Nat × Nat × Nat) := (4, 5, 1, 9) :: kR_7
def kI_7 : List (Nat × Nat × Nat × Int) := (4, 6, 1, 0) :: kI_6
def kL_1 : List (Nat × Nat × Nat × Int) := (4, 7, 1, 0) :: kL_0
def kL_2 : List (Nat × Nat × Nat × Int) := (4, 8, 1, 0) :: kL_1
def kI_8 : List (Nat × Nat × Nat × Int) := (4, 9, 1, 0) :: kI_7
def kR_9 : List (Nat × Nat × Nat × Nat) := (4, 0, 1, 2) :: kR_8
theorem kc_X2_init_4 {cs : Cs} : Mk cs mX2_init [vR 2] 4 5 10 kI_6 kL_0 kR_3 kI_8 kL_2 kR_9 := by
  intro Q hQ
  refine wp_L (L' := [some (vR 4), some (vR 2)]) rfl ?_
  refine wp_aload_n dX2_init_0 rfl rfl (Or.inl (by decide)) ?_
  refine wp_objInit dX2_init_1 lX2_3 oi1 oi2 (Or.inl (by decide)) (Nat.le_of_ble_eq_true rfl) (by decide) (by decide) ?_
  refine wp_aload_n dX2_init_4 rfl rfl (Or.inl (by decide)) ?_
  refine wp_bipush dX2_init_5 (by decide +kernel) (by decide) ?_
  refine kn_nI (j := 5) dX2_init_7 (by decide) (by decide +kernel) (by decide) (by decide +kernel) ?_
  refine kn_pR (N := 10) dX2_init_9 pX2_11 rfl (by decide +kernel) (by decide) (by decide) (by decide) (Or.inr ⟨_, rfl⟩) ?_
  refine wp_so (σ' := (KD.take 6, rdL 0 kI_6, rdL 0 kL_0, rdL 1000000 kR_4)) rfl ?_
  refine wp_pc (pc' := 12) rfl ?_
  refine wp_aload_n dX2_init_12 rfl rfl (Or.inl (by decide)) ?_
  refine wp_bipush dX2_init_13 (by decide +kernel) (by decide) ?_
  refine kn_nI (j := 6) dX2_init_15 (by decide) (by decide +kernel) (by decide) (by decide +kernel) ?_
  refine kn_pR (N := 10) dX2_init_17 pX2_15 rfl (by decide +kernel) (by decide) (by decide) (by decide) (Or.inr ⟨_, rfl⟩) ?_
  refine wp_so (σ' := (KD.take 7, rdL 0 kI_6, rdL 0 kL_0, rdL 1000000 kR_5)) rfl ?_
  refine wp_aload_n dX2_init_20 rfl rfl (Or.inl (by decide)) ?_
  refine wp_bipush dX2_init_21 (by decide +kernel) (by decide) ?_
  refine kn_nJ (j := 7) dX2_init_23 (by decide) (by decide +kernel) (by decide) (by decide +kernel) ?_
  refine kn_pR (N := 10) dX2_init_25 pX2_18 rfl (by decide +kernel) (by decide) (by decide) (by decide) (Or.inr ⟨_, rfl⟩) ?_
  refine wp_so (σ' := (KD.take 8, rdL 0 kI_6, rdL 0 kL_0, rdL 1000000 kR_6)) rfl ?_
  refine wp_pc (pc' := 28) rfl ?_
  refine wp_aload_n dX2_init_28 rfl rfl (Or.inl (by decide)) ?_
  refine wp_bipush dX2_init_29 (by decide +kernel) (by decide) ?_
  refine kn_nJ (j := 8) dX2_init_31 (by decide) (by decide +kernel) (by decide) (by decide +kernel) ?_
  refine kn_pR (N := 10) dX2_init_33 pX2_22 rfl (by decide +kernel) (by decide) (by decide) (by decide) (Or.inr ⟨_, rfl⟩) ?_
  refine wp_so (σ' := (KD.take 9, rdL 0 kI_6, rdL 0 kL_0, rdL 1000000 kR_7)) rfl ?_
  refine wp_aload_n dX2_init_36 rfl rfl (Or.inl (by decide)) ?_
  refine wp_bipush dX2_init_37 (by decide +kernel) (by decide) ?_
  refine kn_nB (j := 9) dX2_init_39 (by decide) (by decide +kernel) (by decide) (by decide +kernel) ?_
  refine kn_pR (N := 10) dX2_init_41 pX2_25 rfl (by decide +kernel) (by decide) (by decide) (by decide) (Or.inr ⟨_, rfl⟩) ?_
  refine wp_so (σ' := (KD.take 10, rdL 0 kI_6, rdL 0 kL_0, rdL 1000000 kR_8)) rfl ?_
  refine wp_pc (pc' := 44) rfl ?_
  refine wp_aload_n dX2_init_44 rfl rfl (Or.inl (by decide)) ?_
  refine wp_iconst dX2_init_45 (by decide) ?_
  refine kn_pI (N := 10) dX2_init_46 pX2_29 (by decide +kernel) (by decide) (by decide) ?_
  refine wp_so (σ' := (KD.take 10, rdL 0 kI_7, rdL 0 kL_0, rdL 1000000 kR_8)) rfl ?_
  refine wp_aload_n dX2_init_49 rfl rfl (Or.inl (by decide)) ?_
  refine wp_lconst (z := 0) dX2_init_50 (by decide +kernel) (by decide) ?_
  refine kn_pL (N := 10) dX2_init_51 pX2_33 (by decide +kernel) (by decide) (by decide) ?_
  refine wp_so (σ' := (KD.take 10, rdL 0 kI_7, rdL 0 kL_1, rdL 1000000 kR_8)) rfl ?_
  refine wp_aload_n dX2_init_54 rfl rfl (Or.inl (by decide)) ?_
  refine wp_lconst (z := 0) dX2_init_55 (by decide +kernel) (by decide) ?_
  refine wp_pc (pc' := 56) rfl ?_
  refine kn_pL (N := 10) dX2_init_56 pX2_37 (by decide +kernel) (by decide) (by decide) ?_
  refine wp_so (σ' := (KD.take 10, rdL 0 kI_7, rdL 0 kL_2, rdL 1000000 kR_8)) rfl ?_
  refine wp_aload_n dX2_init_59 rfl rfl (Or.inl (by decide)) ?_
  refine wp_iconst dX2_init_60 (by decide) ?_
  refine kn_pB (N := 10) dX2_init_61 pX2_40 (by decide +kernel) (by decide) (by decide) (by decide) ?_
  refine wp_so (σ' := (KD.take 10, rdL 0 kI_8, rdL 0 kL_2, rdL 1000000 kR_8)) rfl ?_
  refine wp_aload_n dX2_init_64 rfl rfl (Or.inl (by decide)) ?_
  refine wp_aload_n dX2_init_65 rfl rfl (Or.inl (by decide)) ?_
  refine kn_pR (N := 10) dX2_init_66 pX2_44 rfl (by decide +kernel) (by decide) (by decide) (by decide) (Or.inl ⟨_, rfl⟩) ?_
  refine wp_so (σ' := (KD.take 10, rdL 0 kI_8, rdL 0 kL_2, rdL 1000000 kR_9)) rfl ?_
  exact wp_vret dX2_init_69 rfl (fun _ => hQ)
def kR_10 : List (Nat × Nat × Nat × Nat) := (0, 2, 1, 4) :: kR_9
theorem dX10_init_0 : decode cX10_init 0 = .ok (.aload_n 0, 1) := by decide +kernel
theorem dX10_init_1 : decode cX10_init 1 = .ok (.invokespecial 3, 3) := by decide +kernel
theorem dX10_init_4 : decode cX10_init 4 = .ok (.aload_n 0, 1) := by decide +kernel
theorem dX10_init_5 : decode cX10_init 5 = .ok (.iconst (-1), 1) := by decide +kernel
theorem dX10_init_6 : decode cX10_init 6 = .ok (.putfield 9, 3) := by decide +kernel
theorem dX10_init_9 : decode cX10_init 9 = .ok (.aload_n 0, 1) := by decide +kernel
theorem dX10_init_10 : decode cX10_init 10 = .ok (.iconst 0, 1) := by decide +kernel
theorem dX10_init_11 : decode cX10_init 11 = .ok (.putfield 15, 3) := by decide +kernel
theorem dX10_init_14 : decode cX10_init 14 = .ok (.aload_n 0, 1) := by decide +kernel
theorem dX10_init_15 : decode cX10_init 15 = .ok (.aload_n 1, 1) := by decide +kernel
theorem dX10_init_16 : decode cX10_init 16 = .ok (.putfield 18, 3) := by decide +kernel
theorem dX10_init_19 : decode cX10_init 19 = .ok (.return_, 1) := by decide +kernel
def kI_9 : List (Nat × Nat × Nat × Int) := (10, 1, 1, -1) :: kI_8
def kI_10 : List (Nat × Nat × Nat × Int) := (10, 2, 1, 0) :: kI_9
def kR_11 : List (Nat × Nat × Nat × Nat) := (10, 0, 1, 2) :: kR_10
theorem kc_X10_init_10 {cs : Cs} : Mk cs mX10_init [vR 2] 10 11 11 kI_8 kL_2 kR_10 kI_10 kL_2 kR_11 := by
  intro Q hQ
  refine wp_L (L' := [some (vR 10), some (vR 2)]) rfl ?_
  refine wp_aload_n dX10_init_0 rfl rfl (Or.inl (by decide)) ?_
  refine wp_objInit dX10_init_1 lX10_3 oi1 oi2 (Or.inl (by decide)) (Nat.le_of_ble_eq_true rfl) (by decide) (by decide) ?_
  refine wp_aload_n dX10_init_4 rfl rfl (Or.inl (by decide)) ?_
  refine wp_iconst dX10_init_5 (by decide) ?_
  refine kn_pI (N := 3) dX10_init_6 pX10_9 (by decide +kernel) (by decide) (by decide) ?_
  refine wp_so (σ' := (KD.take 11, rdL 0 kI_9, rdL 0 kL_2, rdL 1000000 kR_10)) rfl ?_
  refine wp_aload_n dX10_init_9 rfl rfl (Or.inl (by decide)) ?_
  refine wp_pc (pc' := 10) rfl ?_
  refine wp_iconst dX10_init_10 (by decide) ?_
  refine kn_pI (N := 3) dX10_init_11 pX10_15 (by decide +kernel) (by decide) (by decide) ?_
  refine wp_so (σ' := (KD.take 11, rdL 0 kI_10, rdL 0 kL_2, rdL 1000000 kR_10)) rfl ?_
  refine wp_aload_n dX10_init_14 rfl rfl (Or.inl (by decide)) ?_
  refine wp_aload_n dX10_init_15 rfl rfl (Or.inl (by decide)) ?_
  refine kn_pR (N := 3) dX10_init_16 pX10_18 rfl (by decide +kernel) (by decide) (by decide) (by decide) (Or.inl ⟨_, rfl⟩) ?_
  refine wp_so (σ' := (KD.take 11, rdL 0 kI_10, rdL 0 kL_2, rdL 1000000 kR_11)) rfl ?_
  exact wp_vret dX10_init_19 rfl (fun _ => hQ)
def kR_12 : List (Nat × Nat × Nat × Nat) := (0, 3, 1, 10) :: kR_11
theorem dX4_init_0 : decode cX4_init 0 = .ok (.aload_n 0, 1) := by decide +kernel
theorem dX4_init_1 : decode cX4_init 1 = .ok (.invokespecial 3, 3) := by decide +kernel
theorem dX4_init_4 : decode cX4_init 4 = .ok (.aload_n 0, 1) := by decide +kernel
theorem dX4_init_5 : decode cX4_init 5 = .ok (.sipush 8200, 3) := by decide +kernel
theorem dX4_init_8 : decode cX4_init 8 = .ok (.newarray .int, 2) := by decide +kernel
theorem dX4_init_10 : decode cX4_init 10 = .ok (.putfield 11, 3) := by decide +kernel
theorem dX4_init_13 : decode cX4_init 13 = .ok (.aload_n 0, 1) := by decide +kernel
theorem dX4_init_14 : decode cX4_init 14 = .ok (.sipush 600, 3) := by decide +kernel
theorem dX4_init_17 : decode cX4_init 17 = .ok (.newarray .int, 2) := by decide +kernel
theorem dX4_init_19 : decode cX4_init 19 = .ok (.putfield 15, 3) := by decide +kernel
theorem dX4_init_22 : decode cX4_init 22 = .ok (.aload_n 0, 1) := by decide +kernel
theorem dX4_init_23 : decode cX4_init 23 = .ok (.iconst 0, 1) := by decide +kernel
theorem dX4_init_24 : decode cX4_init 24 = .ok (.putfield 18, 3) := by decide +kernel
theorem dX4_init_27 : decode cX4_init 27 = .ok (.aload_n 0, 1) := by decide +kernel
theorem dX4_init_28 : decode cX4_init 28 = .ok (.iconst 0, 1) := by decide +kernel
theorem dX4_init_29 : decode cX4_init 29 = .ok (.putfield 22, 3) := by decide +kernel
theorem dX4_init_32 : decode cX4_init 32 = .ok (.return_, 1) := by decide +kernel
def kR_13 : List (Nat × Nat × Nat × Nat) := (11, 0, 1, 12) :: kR_12
def kR_14 : List (Nat × Nat × Nat × Nat) := (11, 1, 1, 13) :: kR_13
def kI_11 : List (Nat × Nat × Nat × Int) := (11, 2, 1, 0) :: kI_10
def kI_12 : List (Nat × Nat × Nat × Int) := (11, 3, 1, 0) :: kI_11
theorem kc_X4_init_11 {cs : Cs} : Mk cs mX4_init [] 11 12 14 kI_10 kL_2 kR_12 kI_12 kL_2 kR_14 := by
  intro Q hQ
  refine wp_L (L' := [some (vR 11)]) rfl ?_
  refine wp_aload_n dX4_init_0 rfl rfl (Or.inl (by decide)) ?_
  refine wp_objInit dX4_init_1 lX4_3 oi1 oi2 (Or.inl (by decide)) (Nat.le_of_ble_eq_true rfl) (by decide) (by decide) ?_
  refine wp_aload_n dX4_init_4 rfl rfl (Or.inl (by decide)) ?_
  refine wp_sipush dX4_init_5 (by decide +kernel) (by decide) ?_
  refine kn_nI (j := 12) dX4_init_8 (by decide) (by decide +kernel) (by decide) (by decide +kernel) ?_
  refine kn_pR (N := 4) dX4_init_10 pX4_11 rfl (by decide +kernel) (by decide) (by decide) (by decide) (Or.inr ⟨_, rfl⟩) ?_
  refine wp_so (σ' := (KD.take 13, rdL 0 kI_10, rdL 0 kL_2, rdL 1000000 kR_13)) rfl ?_
  refine wp_pc (pc' := 13) rfl ?_
  refine wp_aload_n dX4_init_13 rfl rfl (Or.inl (by decide)) ?_
  refine wp_sipush dX4_init_14 (by decide +kernel) (by decide) ?_
  refine kn_nI (j := 13) dX4_init_17 (by decide) (by decide +kernel) (by decide) (by decide +kernel) ?_
  refine kn_pR (N := 4) dX4_init_19 pX4_15 rfl (by decide +kernel) (by decide) (by decide) (by decide) (Or.inr ⟨_, rfl⟩) ?_
  refine wp_so (σ' := (KD.take 14, rdL 0 kI_10, rdL 0 kL_2, rdL 1000000 kR_14)) rfl ?_
  refine wp_aload_n dX4_init_22 rfl rfl (Or.inl (by decide)) ?_
  refine wp_iconst dX4_init_23 (by decide) ?_
  refine kn_pI (N := 4) dX4_init_24 pX4_18 (by decide +kernel) (by decide) (by decide) ?_
  refine wp_so (σ' := (KD.take 14, rdL 0 kI_11, rdL 0 kL_2, rdL 1000000 kR_14)) rfl ?_
  refine wp_aload_n dX4_init_27 rfl rfl (Or.inl (by decide)) ?_
  refine wp_pc (pc' := 28) rfl ?_
  refine wp_iconst dX4_init_28 (by decide) ?_
  refine kn_pI (N := 4) dX4_init_29 pX4_22 (by decide +kernel) (by decide) (by decide) ?_
  refine wp_so (σ' := (KD.take 14, rdL 0 kI_12, rdL 0 kL_2, rdL 1000000 kR_14)) rfl ?_
  exact wp_vret dX4_init_32 rfl (fun _ => hQ)
def kR_15 : List (Nat × Nat × Nat × Nat) := (0, 4, 1, 11) :: kR_14
theorem dX6_init_0 : decode cX6_init 0 = .ok (.aload_n 0, 1) := by decide +kernel
theorem dX6_init_1 : decode cX6_init 1 = .ok (.invokespecial 3, 3) := by decide +kernel
theorem dX6_init_4 : decode cX6_init 4 = .ok (.aload_n 0, 1) := by decide +kernel
theorem dX6_init_5 : decode cX6_init 5 = .ok (.bipush 12, 2) := by decide +kernel
theorem dX6_init_7 : decode cX6_init 7 = .ok (.newarray .int, 2) := by decide +kernel
theorem dX6_init_9 : decode cX6_init 9 = .ok (.putfield 11, 3) := by decide +kernel
theorem dX6_init_12 : decode cX6_init 12 = .ok (.aload_n 0, 1) := by decide +kernel
theorem dX6_init_13 : decode cX6_init 13 = .ok (.bipush 12, 2) := by decide +kernel
theorem dX6_init_15 : decode cX6_init 15 = .ok (.newarray .int, 2) := by decide +kernel
theorem dX6_init_17 : decode cX6_init 17 = .ok (.putfield 15, 3) := by decide +kernel
theorem dX6_init_20 : decode cX6_init 20 = .ok (.aload_n 0, 1) := by decide +kernel
theorem dX6_init_21 : decode cX6_init 21 = .ok (.bipush 12, 2) := by decide +kernel
theorem dX6_init_23 : decode cX6_init 23 = .ok (.newarray .byte, 2) := by decide +kernel
theorem dX6_init_25 : decode cX6_init 25 = .ok (.putfield 18, 3) := by decide +kernel
theorem dX6_init_28 : decode cX6_init 28 = .ok (.aload_n 0, 1) := by decide +kernel
theorem dX6_init_29 : decode cX6_init 29 = .ok (.bipush 12, 2) := by decide +kernel
theorem dX6_init_31 : decode cX6_init 31 = .ok (.newarray .int, 2) := by decide +kernel
theorem dX6_init_33 : decode cX6_init 33 = .ok (.putfield 22, 3) := by decide +kernel
theorem dX6_init_36 : decode cX6_init 36 = .ok (.aload_n 0, 1) := by decide +kernel
theorem dX6_init_37 : decode cX6_init 37 = .ok (.bipush 48, 2) := by decide +kernel
theorem dX6_init_39 : decode cX6_init 39 = .ok (.newarray .int, 2) := by decide +kernel
theorem dX6_init_41 : decode cX6_init 41 = .ok (.putfield 25, 3) := by decide +kernel
theorem dX6_init_44 : decode cX6_init 44 = .ok (.aload_n 0, 1) := by decide +kernel
theorem dX6_init_45 : decode cX6_init 45 = .ok (.bipush 48, 2) := by decide +kernel
theorem dX6_init_47 : decode cX6_init 47 = .ok (.newarray .int, 2) := by decide +kernel
theorem dX6_init_49 : decode cX6_init 49 = .ok (.putfield 28, 3) := by decide +kernel
theorem dX6_init_52 : decode cX6_init 52 = .ok (.aload_n 0, 1) := by decide +kernel
theorem dX6_init_53 : decode cX6_init 53 = .ok (.bipush 48, 2) := by decide +kernel
theorem dX6_init_55 : decode cX6_init 55 = .ok (.newarray .int, 2) := by decide +kernel
theorem dX6_init_57 : decode cX6_init 57 = .ok (.putfield 31, 3) := by decide +kernel
theorem dX6_init_60 : decode cX6_init 60 = .ok (.aload_n 0, 1) := by decide +kernel
theorem dX6_init_61 : decode cX6_init 61 = .ok (.bipush 48, 2) := by decide +kernel
theorem dX6_init_63 : decode cX6_init 63 = .ok (.newarray .int, 2) := by decide +kernel
theorem dX6_init_65 : decode cX6_init 65 = .ok (.putfield 34, 3) := by decide +kernel
theorem dX6_init_68 : decode cX6_init 68 = .ok (.aload_n 0, 1) := by decide +kernel
theorem dX6_init_69 : decode cX6_init 69 = .ok (.iconst 0, 1) := by decide +kernel
theorem dX6_init_70 : decode cX6_init 70 = .ok (.putfield 37, 3) := by decide +kernel
theorem dX6_init_73 : decode cX6_init 73 = .ok (.aload_n 0, 1) := by decide +kernel
theorem dX6_init_74 : decode cX6_init 74 = .ok (.iconst 0, 1) := by decide +kernel
theorem dX6_init_75 : decode cX6_init 75 = .ok (.putfield 41, 3) := by decide +kernel
theorem dX6_init_78 : decode cX6_init 78 = .ok (.aload_n 0, 1) := by decide +kernel
theorem dX6_init_79 : decode cX6_init 79 = .ok (.aload_n 1, 1) := by decide +kernel
theorem dX6_init_80 : decode cX6_init 80 = .ok (.putfield 45, 3) := by decide +kernel
theorem dX6_init_83 : decode cX6_init 83 = .ok (.return_, 1) := by decide +kernel
def kR_16 : List (Nat × Nat × Nat × Nat) := (14, 1, 1, 15) :: kR_15
def kR_17 : List (Nat × Nat × Nat × Nat) := (14, 2, 1, 16) :: kR_16
def kR_18 : List (Nat × Nat × Nat × Nat) := (14, 3, 1, 17) :: kR_17
def kR_19 : List (Nat × Nat × Nat × Nat) := (14, 4, 1, 18) :: kR_18
def kR_20 : List (Nat × Nat × Nat × Nat) := (14, 5, 1, 19) :: kR_19
def kR_21 : List (Nat × Nat × Nat × Nat) := (14, 6, 1, 20) :: kR_20
def kR_22 : List (Nat × Nat × Nat × Nat) := (14, 7, 1, 21) :: kR_21
def kR_23 : List (Nat × Nat × Nat × Nat) := (14, 8, 1, 22) :: kR_22
def kI_13 : List (Nat × Nat × Nat × Int) := (14, 9, 1, 0) :: kI_12
def kI_14 : List (Nat × Nat × Nat × Int) := (14, 10, 1, 0) :: kI_13
def kR_24 : List (Nat × Nat × Nat × Nat) := (14, 0, 1, 2) :: kR_23
theorem kc_X6_init_14 {cs : Cs} : Mk cs mX6_init [vR 2] 14 15 23 kI_12 kL_2 kR_15 kI_14 kL_2 kR_24 := by
  intro Q hQ
  refine wp_L (L' := [some (vR 14), some (vR 2)]) rfl ?_
  refine wp_aload_n dX6_init_0 rfl rfl (Or.inl (by decide)) ?_
  refine wp_objInit dX6_init_1 lX6_3 oi1 oi2 (Or.inl (by decide)) (Nat.le_of_ble_eq_true rfl) (by decide) (by decide) ?_
  refine wp_aload_n dX6_init_4 rfl rfl (Or.inl (by decide)) ?_
  refine wp_bipush dX6_init_5 (by decide +kernel) (by decide) ?_
  refine kn_nI (j := 15) dX6_init_7 (by decide) (by decide +kernel) (by decide) (by decide +kernel) ?_
  refine kn_pR (N := 11) dX6_init_9 pX6_11 rfl (by decide +kernel) (by decide) (by decide) (by decide) (Or.inr ⟨_, rfl⟩) ?_
  refine wp_so (σ' := (KD.take 16, rdL 0 kI_12, rdL 0 kL_2, rdL 1000000 kR_16)) rfl ?_
  refine wp_pc (pc' := 12) rfl ?_
  refine wp_aload_n dX6_init_12 rfl rfl (Or.inl (by decide)) ?_
  refine wp_bipush dX6_init_13 (by decide +kernel) (by decide) ?_
  refine kn_nI (j := 16) dX6_init_15 (by decide) (by decide +kernel) (by decide) (by decide +kernel) ?_
  refine kn_pR (N := 11) dX6_init_17 pX6_15 rfl (by decide +kernel) (by decide) (by decide) (by decide) (Or.inr ⟨_, rfl⟩) ?_
  refine wp_so (σ' := (KD.take 17, rdL 0 kI_12, rdL 0 kL_2, rdL 1000000 kR_17)) rfl ?_
  refine wp_aload_n dX6_init_20 rfl rfl (Or.inl (by decide)) ?_
  refine wp_bipush dX6_init_21 (by decide +kernel) (by decide) ?_
  refine kn_nB (j := 17) dX6_init_23 (by decide) (by decide +kernel) (by decide) (by decide +kernel) ?_
  refine kn_pR (N := 11) dX6_init_25 pX6_18 rfl (by decide +kernel) (by decide) (by decide) (by decide) (Or.inr ⟨_, rfl⟩) ?_
  refine wp_so (σ' := (KD.take 18, rdL 0 kI_12, rdL 0 kL_2, rdL 1000000 kR_18)) rfl ?_
  refine wp_pc (pc' := 28) rfl ?_
  refine wp_aload_n dX6_init_28 rfl rfl (Or.inl (by decide)) ?_
  refine wp_bipush dX6_init_29 (by decide +kernel) (by decide) ?_
  refine kn_nI (j := 18) dX6_init_31 (by decide) (by decide +kernel) (by decide) (by decide +kernel) ?_
  refine kn_pR (N := 11) dX6_init_33 pX6_22 rfl (by decide +kernel) (by decide) (by decide) (by decide) (Or.inr ⟨_, rfl⟩) ?_
  refine wp_so (σ' := (KD.take 19, rdL 0 kI_12, rdL 0 kL_2, rdL 1000000 kR_19)) rfl ?_
  refine wp_aload_n dX6_init_36 rfl rfl (Or.inl (by decide)) ?_
  refine wp_bipush dX6_init_37 (by decide +kernel) (by decide) ?_
  refine kn_nI (j := 19) dX6_init_39 (by decide) (by decide +kernel) (by decide) (by decide +kernel) ?_
  refine kn_pR (N := 11) dX6_init_41 pX6_25 rfl (by decide +kernel) (by decide) (by decide) (by decide) (Or.inr ⟨_, rfl⟩) ?_
  refine wp_so (σ' := (KD.take 20, rdL 0 kI_12, rdL 0 kL_2, rdL 1000000 kR_20)) rfl ?_
  refine wp_pc (pc' := 44) rfl ?_
  refine wp_aload_n dX6_init_44 rfl rfl (Or.inl (by decide)) ?_
  refine wp_bipush dX6_init_45 (by decide +kernel) (by decide) ?_
  refine kn_nI (j := 20) dX6_init_47 (by decide) (by decide +kernel) (by decide) (by decide +kernel) ?_
  refine kn_pR (N := 11) dX6_init_49 pX6_28 rfl (by decide +kernel) (by decide) (by decide) (by decide) (Or.inr ⟨_, rfl⟩) ?_
  refine wp_so (σ' := (KD.take 21, rdL 0 kI_12, rdL 0 kL_2, rdL 1000000 kR_21)) rfl ?_
  refine wp_aload_n dX6_init_52 rfl rfl (Or.inl (by decide)) ?_
  refine wp_bipush dX6_init_53 (by decide +kernel) (by decide) ?_
  refine kn_nI (j := 21) dX6_init_55 (by decide) (by decide +kernel) (by decide) (by decide +kernel) ?_
  refine kn_pR (N := 11) dX6_init_57 pX6_31 rfl (by decide +kernel) (by decide) (by decide) (by decide) (Or.inr ⟨_, rfl⟩) ?_
  refine wp_so (σ' := (KD.take 22, rdL 0 kI_12, rdL 0 kL_2, rdL 1000000 kR_22)) rfl ?_
  refine wp_pc (pc' := 60) rfl ?_
  refine wp_aload_n dX6_init_60 rfl rfl (Or.inl (by decide)) ?_
  refine wp_bipush dX6_init_61 (by decide +kernel) (by decide) ?_
  refine kn_nI (j := 22) dX6_init_63 (by decide) (by decide +kernel) (by decide) (by decide +kernel) ?_
  refine kn_pR (N := 11) dX6_init_65 pX6_34 rfl (by decide +kernel) (by decide) (by decide) (by decide) (Or.inr ⟨_, rfl⟩) ?_
  refine wp_so (σ' := (KD.take 23, rdL 0 kI_12, rdL 0 kL_2, rdL 1000000 kR_23)) rfl ?_
  refine wp_aload_n dX6_init_68 rfl rfl (Or.inl (by decide)) ?_
  refine wp_iconst dX6_init_69 (by decide) ?_
  refine kn_pI (N := 11) dX6_init_70 pX6_37 (by decide +kernel) (by decide) (by decide) ?_
  refine wp_so (σ' := (KD.take 23, rdL 0 kI_13, rdL 0 kL_2, rdL 1000000 kR_23)) rfl ?_
  refine wp_aload_n dX6_init_73 rfl rfl (Or.inl (by decide)) ?_
  refine wp_pc (pc' := 74) rfl ?_
  refine wp_iconst dX6_init_74 (by decide) ?_
  refine kn_pZ (N := 11) dX6_init_75 pX6_41 (by decide +kernel) (by decide) (by decide) (by decide) ?_
  refine wp_so (σ' := (KD.take 23, rdL 0 kI_14, rdL 0 kL_2, rdL 1000000 kR_23)) rfl ?_
  refine wp_aload_n dX6_init_78 rfl rfl (Or.inl (by decide)) ?_
  refine wp_aload_n dX6_init_79 rfl rfl (Or.inl (by decide)) ?_
  refine kn_pR (N := 11) dX6_init_80 pX6_45 rfl (by decide +kernel) (by decide) (by decide) (by decide) (Or.inl ⟨_, rfl⟩) ?_
  refine wp_so (σ' := (KD.take 23, rdL 0 kI_14, rdL 0 kL_2, rdL 1000000 kR_24)) rfl ?_
  exact wp_vret dX6_init_83 rfl (fun _ => hQ)
def kR_25 : List (Nat × Nat × Nat × Nat) := (0, 5, 1, 14) :: kR_24
theorem dX8_init_0 : decode cX8_init 0 = .ok (.aload_n 0, 1) := by decide +kernel
theorem dX8_init_1 : decode cX8_init 1 = .ok (.invokespecial 3, 3) := by decide +kernel
theorem dX8_init_4 : decode cX8_init 4 = .ok (.aload_n 0, 1) := by decide +kernel
theorem dX8_init_5 : decode cX8_init 5 = .ok (.sipush 600, 3) := by decide +kernel
theorem dX8_init_8 : decode cX8_init 8 = .ok (.newarray .int, 2) := by decide +kernel
theorem dX8_init_10 : decode cX8_init 10 = .ok (.putfield 9, 3) := by decide +kernel
theorem dX8_init_13 : decode cX8_init 13 = .ok (.aload_n 0, 1) := by decide +kernel
theorem dX8_init_14 : decode cX8_init 14 = .ok (.iconst 0, 1) := by decide +kernel
theorem dX8_init_15 : decode cX8_init 15 = .ok (.putfield 15, 3) := by decide +kernel
theorem dX8_init_18 : decode cX8_init 18 = .ok (.aload_n 0, 1) := by decide +kernel
theorem dX8_init_19 : decode cX8_init 19 = .ok (.sipush 600, 3) := by decide +kernel
theorem dX8_init_22 : decode cX8_init 22 = .ok (.newarray .byte, 2) := by decide +kernel
theorem dX8_init_24 : decode cX8_init 24 = .ok (.putfield 19, 3) := by decide +kernel
theorem dX8_init_27 : decode cX8_init 27 = .ok (.aload_n 0, 1) := by decide +kernel
theorem dX8_init_28 : decode cX8_init 28 = .ok (.sipush 600, 3) := by decide +kernel
theorem dX8_init_31 : decode cX8_init 31 = .ok (.newarray .byte, 2) := by decide +kernel
theorem dX8_init_33 : decode cX8_init 33 = .ok (.putfield 23, 3) := by decide +kernel
theorem dX8_init_36 : decode cX8_init 36 = .ok (.aload_n 0, 1) := by decide +kernel
theorem dX8_init_37 : decode cX8_init 37 = .ok (.sipush 600, 3) := by decide +kernel
theorem dX8_init_40 : decode cX8_init 40 = .ok (.newarray .int, 2) := by decide +kernel
theorem dX8_init_42 : decode cX8_init 42 = .ok (.putfield 26, 3) := by decide +kernel
theorem dX8_init_45 : decode cX8_init 45 = .ok (.aload_n 0, 1) := by decide +kernel
theorem dX8_init_46 : decode cX8_init 46 = .ok (.iconst 0, 1) := by decide +kernel
theorem dX8_init_47 : decode cX8_init 47 = .ok (.putfield 29, 3) := by decide +kernel
theorem dX8_init_50 : decode cX8_init 50 = .ok (.return_, 1) := by decide +kernel
def kR_26 : List (Nat × Nat × Nat × Nat) := (23, 0, 1, 24) :: kR_25
def kI_15 : List (Nat × Nat × Nat × Int) := (23, 1, 1, 0) :: kI_14
def kR_27 : List (Nat × Nat × Nat × Nat) := (23, 2, 1, 25) :: kR_26
def kR_28 : List (Nat × Nat × Nat × Nat) := (23, 3, 1, 26) :: kR_27
def kR_29 : List (Nat × Nat × Nat × Nat) := (23, 4, 1, 27) :: kR_28
def kI_16 : List (Nat × Nat × Nat × Int) := (23, 5, 1, 0) :: kI_15
theorem kc_X8_init_23 {cs : Cs} : Mk cs mX8_init [] 23 24 28 kI_14 kL_2 kR_25 kI_16 kL_2 kR_29 := by
  intro Q hQ
  refine wp_L (L' := [some (vR 23)]) rfl ?_
  refine wp_aload_n dX8_init_0 rfl rfl (Or.inl (by decide)) ?_
  refine wp_objInit dX8_init_1 lX8_3 oi1 oi2 (Or.inl (by decide)) (Nat.le_of_ble_eq_true rfl) (by decide) (by decide) ?_
  refine wp_aload_n dX8_init_4 rfl rfl (Or.inl (by decide)) ?_
  refine wp_sipush dX8_init_5 (by decide +kernel) (by decide) ?_
  refine kn_nI (j := 24) dX8_init_8 (by decide) (by decide +kernel) (by decide) (by decide +kernel) ?_
  refine kn_pR (N := 6) dX8_init_10 pX8_9 rfl (by decide +kernel) (by decide) (by decide) (by decide) (Or.inr ⟨_, rfl⟩) ?_
  refine wp_so (σ' := (KD.take 25, rdL 0 kI_14, rdL 0 kL_2, rdL 1000000 kR_26)) rfl ?_
  refine wp_pc (pc' := 13) rfl ?_
  refine wp_aload_n dX8_init_13 rfl rfl (Or.inl (by decide)) ?_
  refine wp_iconst dX8_init_14 (by decide) ?_
  refine kn_pI (N := 6) dX8_init_15 pX8_15 (by decide +kernel) (by decide) (by decide) ?_
  refine wp_so (σ' := (KD.take 25, rdL 0 kI_15, rdL 0 kL_2, rdL 1000000 kR_26)) rfl ?_
  refine wp_aload_n dX8_init_18 rfl rfl (Or.inl (by decide)) ?_
  refine wp_sipush dX8_init_19 (by decide +kernel) (by decide) ?_
  refine kn_nB (j := 25) dX8_init_22 (by decide) (by decide +kernel) (by decide) (by decide +kernel) ?_
  refine kn_pR (N := 6) dX8_init_24 pX8_19 rfl (by decide +kernel) (by decide) (by decide) (by decide) (Or.inr ⟨_, rfl⟩) ?_
  refine wp_so (σ' := (KD.take 26, rdL 0 kI_15, rdL 0 kL_2, rdL 1000000 kR_27)) rfl ?_
  refine wp_aload_n dX8_init_27 rfl rfl (Or.inl (by decide)) ?_
  refine wp_pc (pc' := 28) rfl ?_
  refine wp_sipush dX8_init_28 (by decide +kernel) (by decide) ?_
  refine kn_nB (j := 26) dX8_init_31 (by decide) (by decide +kernel) (by decide) (by decide +kernel) ?_
  refine kn_pR (N := 6) dX8_init_33 pX8_23 rfl (by decide +kernel) (by decide) (by decide) (by decide) (Or.inr ⟨_, rfl⟩) ?_
  refine wp_so (σ' := (KD.take 27, rdL 0 kI_15, rdL 0 kL_2, rdL 1000000 kR_28)) rfl ?_
  refine wp_aload_n dX8_init_36 rfl rfl (Or.inl (by decide)) ?_
  refine wp_sipush dX8_init_37 (by decide +kernel) (by decide) ?_
  refine kn_nI (j := 27) dX8_init_40 (by decide) (by decide +kernel) (by decide) (by decide +kernel) ?_
  refine kn_pR (N := 6) dX8_init_42 pX8_26 rfl (by decide +kernel) (by decide) (by decide) (by decide) (Or.inr ⟨_, rfl⟩) ?_
  refine wp_so (σ' := (KD.take 28, rdL 0 kI_15, rdL 0 kL_2, rdL 1000000 kR_29)) rfl ?_
  refine wp_aload_n dX8_init_45 rfl rfl (Or.inl (by decide)) ?_
  refine wp_pc (pc' := 46) rfl ?_
  refine wp_iconst dX8_init_46 (by decide) ?_
  refine kn_pI (N := 6) dX8_init_47 pX8_29 (by decide +kernel) (by decide) (by decide) ?_
  refine wp_so (σ' := (KD.take 28, rdL 0 kI_16, rdL 0 kL_2, rdL 1000000 kR_29)) rfl ?_
  exact wp_vret dX8_init_50 rfl (fun _ => hQ)
def kR_30 : List (Nat × Nat × Nat × Nat) := (0, 6, 1, 23) :: kR_29
theorem dX0_init_0 : decode cX0_init 0 = .ok (.aload_n 0, 1) := by decide +kernel
theorem dX0_init_1 : decode cX0_init 1 = .ok (.invokespecial 3, 3) := by decide +kernel
theorem dX0_init_4 : decode cX0_init 4 = .ok (.aload_n 0, 1) := by decide +kernel
theorem dX0_init_5 : decode cX0_init 5 = .ok (.sipush 2000, 3) := by decide +kernel
theorem dX0_init_8 : decode cX0_init 8 = .ok (.newarray .byte, 2) := by decide +kernel
theorem dX0_init_10 : decode cX0_init 10 = .ok (.putfield 9, 3) := by decide +kernel
theorem dX0_init_13 : decode cX0_init 13 = .ok (.aload_n 0, 1) := by decide +kernel
theorem dX0_init_14 : decode cX0_init 14 = .ok (.sipush 2000, 3) := by decide +kernel
theorem dX0_init_17 : decode cX0_init 17 = .ok (.newarray .int, 2) := by decide +kernel
theorem dX0_init_19 : decode cX0_init 19 = .ok (.putfield 15, 3) := by decide +kernel
theorem dX0_init_22 : decode cX0_init 22 = .ok (.aload_n 0, 1) := by decide +kernel
theorem dX0_init_23 : decode cX0_init 23 = .ok (.sipush 2000, 3) := by decide +kernel
theorem dX0_init_26 : decode cX0_init 26 = .ok (.newarray .int, 2) := by decide +kernel
theorem dX0_init_28 : decode cX0_init 28 = .ok (.putfield 19, 3) := by decide +kernel
theorem dX0_init_31 : decode cX0_init 31 = .ok (.aload_n 0, 1) := by decide +kernel
theorem dX0_init_32 : decode cX0_init 32 = .ok (.sipush 2000, 3) := by decide +kernel
theorem dX0_init_35 : decode cX0_init 35 = .ok (.newarray .int, 2) := by decide +kernel
theorem dX0_init_37 : decode cX0_init 37 = .ok (.putfield 22, 3) := by decide +kernel
theorem dX0_init_40 : decode cX0_init 40 = .ok (.aload_n 0, 1) := by decide +kernel
theorem dX0_init_41 : decode cX0_init 41 = .ok (.sipush 2000, 3) := by decide +kernel
theorem dX0_init_44 : decode cX0_init 44 = .ok (.newarray .int, 2) := by decide +kernel
theorem dX0_init_46 : decode cX0_init 46 = .ok (.putfield 25, 3) := by decide +kernel
theorem dX0_init_49 : decode cX0_init 49 = .ok (.aload_n 0, 1) := by decide +kernel
theorem dX0_init_50 : decode cX0_init 50 = .ok (.sipush 2000, 3) := by decide +kernel
theorem dX0_init_53 : decode cX0_init 53 = .ok (.newarray .int, 2) := by decide +kernel
theorem dX0_init_55 : decode cX0_init 55 = .ok (.putfield 28, 3) := by decide +kernel
theorem dX0_init_58 : decode cX0_init 58 = .ok (.aload_n 0, 1) := by decide +kernel
theorem dX0_init_59 : decode cX0_init 59 = .ok (.sipush 2000, 3) := by decide +kernel
theorem dX0_init_62 : decode cX0_init 62 = .ok (.newarray .int, 2) := by decide +kernel
theorem dX0_init_64 : decode cX0_init 64 = .ok (.putfield 31, 3) := by decide +kernel
theorem dX0_init_67 : decode cX0_init 67 = .ok (.aload_n 0, 1) := by decide +kernel
theorem dX0_init_68 : decode cX0_init 68 = .ok (.bipush 30, 2) := by decide +kernel
theorem dX0_init_70 : decode cX0_init 70 = .ok (.newarray .int, 2) := by decide +kernel
theorem dX0_init_72 : decode cX0_init 72 = .ok (.putfield 34, 3) := by decide +kernel
theorem dX0_init_75 : decode cX0_init 75 = .ok (.aload_n 0, 1) := by decide +kernel
theorem dX0_init_76 : decode cX0_init 76 = .ok (.bipush 30, 2) := by decide +kernel
theorem dX0_init_78 : decode cX0_init 78 = .ok (.newarray .int, 2) := by decide +kernel
theorem dX0_init_80 : decode cX0_init 80 = .ok (.putfield 37, 3) := by decide +kernel
theorem dX0_init_83 : decode cX0_init 83 = .ok (.aload_n 0, 1) := by decide +kernel
theorem dX0_init_84 : decode cX0_init 84 = .ok (.iconst 0, 1) := by decide +kernel
theorem dX0_init_85 : decode cX0_init 85 = .ok (.putfield 40, 3) := by decide +kernel
theorem dX0_init_88 : decode cX0_init 88 = .ok (.aload_n 0, 1) := by decide +kernel
theorem dX0_init_89 : decode cX0_init 89 = .ok (.iconst 0, 1) := by decide +kernel
theorem dX0_init_90 : decode cX0_init 90 = .ok (.putfield 44, 3) := by decide +kernel
theorem dX0_init_93 : decode cX0_init 93 = .ok (.aload_n 0, 1) := by decide +kernel
theorem dX0_init_94 : decode cX0_init 94 = .ok (.iconst 0, 1) := by decide +kernel
theorem dX0_init_95 : decode cX0_init 95 = .ok (.putfield 47, 3) := by decide +kernel
theorem dX0_init_98 : decode cX0_init 98 = .ok (.aload_n 0, 1) := by decide +kernel
theorem dX0_init_99 : decode cX0_init 99 = .ok (.iconst 0, 1) := by decide +kernel
theorem dX0_init_100 : decode cX0_init 100 = .ok (.putfield 50, 3) := by decide +kernel
theorem dX0_init_103 : decode cX0_init 103 = .ok (.aload_n 0, 1) := by decide +kernel
theorem dX0_init_104 : decode cX0_init 104 = .ok (.iconst 0, 1) := by decide +kernel
theorem dX0_init_105 : decode cX0_init 105 = .ok (.putfield 53, 3) := by decide +kernel
theorem dX0_init_108 : decode cX0_init 108 = .ok (.aload_n 0, 1) := by decide +kernel
theorem dX0_init_109 : decode cX0_init 109 = .ok (.iconst 1, 1) := by decide +kernel
theorem dX0_init_110 : decode cX0_init 110 = .ok (.putfield 56, 3) := by decide +kernel
theorem dX0_init_113 : decode cX0_init 113 = .ok (.aload_n 0, 1) := by decide +kernel
theorem dX0_init_114 : decode cX0_init 114 = .ok (.iconst 1, 1) := by decide +kernel
theorem dX0_init_115 : decode cX0_init 115 = .ok (.putfield 59, 3) := by decide +kernel
theorem dX0_init_118 : decode cX0_init 118 = .ok (.aload_n 0, 1) := by decide +kernel
theorem dX0_init_119 : decode cX0_init 119 = .ok (.iconst 0, 1) := by decide +kernel
theorem dX0_init_120 : decode cX0_init 120 = .ok (.putfield 62, 3) := by decide +kernel
theorem dX0_init_123 : decode cX0_init 123 = .ok (.aload_n 0, 1) := by decide +kernel
theorem dX0_init_124 : decode cX0_init 124 = .ok (.iconst 0, 1) := by decide +kernel
theorem dX0_init_125 : decode cX0_init 125 = .ok (.putfield 65, 3) := by decide +kernel
theorem dX0_init_128 : decode cX0_init 128 = .ok (.return_, 1) := by decide +kernel
def kR_31 : List (Nat × Nat × Nat × Nat) := (28, 0, 1, 29) :: kR_30
def kR_32 : List (Nat × Nat × Nat × Nat) := (28, 1, 1, 30) :: kR_31
def kR_33 : List (Nat × Nat × Nat × Nat) := (28, 2, 1, 31) :: kR_32
def kR_34 : List (Nat × Nat × Nat × Nat) := (28, 3, 1, 32) :: kR_33
def kR_35 : List (Nat × Nat × Nat × Nat) := (28, 4, 1, 33) :: kR_34
def kR_36 : List (Nat × Nat × Nat × Nat) := (28, 5, 1, 34) :: kR_35
def kR_37 : List (Nat × Nat × Nat × Nat) := (28, 6, 1, 35) :: kR_36
def kR_38 : List (Nat × Nat × Nat × Nat) := (28, 7, 1, 36) :: kR_37
def kR_39 : List (Nat × Nat × Nat × Nat) := (28, 8, 1, 37) :: kR_38
def kI_17 : List (Nat × Nat × Nat × Int) := (28, 9, 1, 0) :: kI_16
def kI_18 : List (Nat × Nat × Nat × Int) := (28, 10, 1, 0) :: kI_17
def kI_19 : List (Nat × Nat × Nat × Int) := (28, 11, 1, 0) :: kI_18
def kI_20 : List (Nat × Nat × Nat × Int) := (28, 12, 1, 0) :: kI_19
def kI_21 : List (Nat × Nat × Nat × Int) := (28, 13, 1, 0) :: kI_20
def kI_22 : List (Nat × Nat × Nat × Int) := (28, 14, 1, 1) :: kI_21
def kI_23 : List (Nat × Nat × Nat × Int) := (28, 15, 1, 1) :: kI_22
def kI_24 : List (Nat × Nat × Nat × Int) := (28, 16, 1, 0) :: kI_23
def kI_25 : List (Nat × Nat × Nat × Int) := (28, 17, 1, 0) :: kI_24
theorem kc_X0_init_28 {cs : Cs} : Mk cs mX0_init [] 28 29 38 kI_16 kL_2 kR_30 kI_25 kL_2 kR_39 := by
  intro Q hQ
  refine wp_L (L' := [some (vR 28)]) rfl ?_
  refine wp_aload_n dX0_init_0 rfl rfl (Or.inl (by decide)) ?_
  refine wp_objInit dX0_init_1 lX0_3 oi1 oi2 (Or.inl (by decide)) (Nat.le_of_ble_eq_true rfl) (by decide) (by decide) ?_
  refine wp_aload_n dX0_init_4 rfl rfl (Or.inl (by decide)) ?_
  refine wp_sipush dX0_init_5 (by decide +kernel) (by decide) ?_
  refine kn_nB (j := 29) dX0_init_8 (by decide) (by decide +kernel) (by decide) (by decide +kernel) ?_
  refine kn_pR (N := 18) dX0_init_10 pX0_9 rfl (by decide +kernel) (by decide) (by decide) (by decide) (Or.inr ⟨_, rfl⟩) ?_
  refine wp_so (σ' := (KD.take 30, rdL 0 kI_16, rdL 0 kL_2, rdL 1000000 kR_31)) rfl ?_
  refine wp_pc (pc' := 13) rfl ?_
  refine wp_aload_n dX0_init_13 rfl rfl (Or.inl (by decide)) ?_
  refine wp_sipush dX0_init_14 (by decide +kernel) (by decide) ?_
  refine kn_nI (j := 30) dX0_init_17 (by decide) (by decide +kernel) (by decide) (by decide +kernel) ?_
  refine kn_pR (N := 18) dX0_init_19 pX0_15 rfl (by decide +kernel) (by decide) (by decide) (by decide) (Or.inr ⟨_, rfl⟩) ?_
  refine wp_so (σ' := (KD.take 31, rdL 0 kI_16, rdL 0 kL_2, rdL 1000000 kR_32)) rfl ?_
  refine wp_aload_n dX0_init_22 rfl rfl (Or.inl (by decide)) ?_
  refine wp_sipush dX0_init_23 (by decide +kernel) (by decide) ?_
  refine kn_nI (j := 31) dX0_init_26 (by decide) (by decide +kernel) (by decide) (by decide +kernel) ?_
  refine kn_pR (N := 18) dX0_init_28 pX0_19 rfl (by decide +kernel) (by decide) (by decide) (by decide) (Or.inr ⟨_, rfl⟩) ?_
  refine wp_so (σ' := (KD.take 32, rdL 0 kI_16, rdL 0 kL_2, rdL 1000000 kR_33)) rfl ?_
  refine wp_pc (pc' := 31) rfl ?_
  refine wp_aload_n dX0_init_31 rfl rfl (Or.inl (by decide)) ?_
  refine wp_sipush dX0_init_32 (by decide +kernel) (by decide) ?_
  refine kn_nI (j := 32) dX0_init_35 (by decide) (by decide +kernel) (by decide) (by decide +kernel) ?_
  refine kn_pR (N := 18) dX0_init_37 pX0_22 rfl (by decide +kernel) (by decide) (by decide) (by decide) (Or.inr ⟨_, rfl⟩) ?_
  refine wp_so (σ' := (KD.take 33, rdL 0 kI_16, rdL 0 kL_2, rdL 1000000 kR_34)) rfl ?_
  refine wp_aload_n dX0_init_40 rfl rfl (Or.inl (by decide)) ?_
  refine wp_sipush dX0_init_41 (by decide +kernel) (by decide) ?_
  refine kn_nI (j := 33) dX0_init_44 (by decide) (by decide +kernel) (by decide) (by decide +kernel) ?_
  refine kn_pR (N := 18) dX0_init_46 pX0_25 rfl (by decide +kernel) (by decide) (by decide) (by decide) (Or.inr ⟨_, rfl⟩) ?_
  refine wp_so (σ' := (KD.take 34, rdL 0 kI_16, rdL 0 kL_2, rdL 1000000 kR_35)) rfl ?_
  refine wp_pc (pc' := 49) rfl ?_
  refine wp_aload_n dX0_init_49 rfl rfl (Or.inl (by decide)) ?_
  refine wp_sipush dX0_init_50 (by decide +kernel) (by decide) ?_
  refine kn_nI (j := 34) dX0_init_53 (by decide) (by decide +kernel) (by decide) (by decide +kernel) ?_
  refine kn_pR (N := 18) dX0_init_55 pX0_28 rfl (by decide +kernel) (by decide) (by decide) (by decide) (Or.inr ⟨_, rfl⟩) ?_
  refine wp_so (σ' := (KD.take 35, rdL 0 kI_16, rdL 0 kL_2, rdL 1000000 kR_36)) rfl ?_
  refine wp_aload_n dX0_init_58 rfl rfl (Or.inl (by decide)) ?_
  refine wp_sipush dX0_init_59 (by decide +kernel) (by decide) ?_
  refine kn_nI (j := 35) dX0_init_62 (by decide) (by decide +kernel) (by decide) (by decide +kernel) ?_
  refine kn_pR (N := 18) dX0_init_64 pX0_31 rfl (by decide +kernel) (by decide) (by decide) (by decide) (Or.inr ⟨_, rfl⟩) ?_
  refine wp_so (σ' := (KD.take 36, rdL 0 kI_16, rdL 0 kL_2, rdL 1000000 kR_37)) rfl ?_
  refine wp_pc (pc' := 67) rfl ?_
  refine wp_aload_n dX0_init_67 rfl rfl (Or.inl (by decide)) ?_
  refine wp_bipush dX0_init_68 (by decide +kernel) (by decide) ?_
  refine kn_nI (j := 36) dX0_init_70 (by decide) (by decide +kernel) (by decide) (by decide +kernel) ?_
  refine kn_pR (N := 18) dX0_init_72 pX0_34 rfl (by decide +kernel) (by decide) (by decide) (by decide) (Or.inr ⟨_, rfl⟩) ?_
  refine wp_so (σ' := (KD.take 37, rdL 0 kI_16, rdL 0 kL_2, rdL 1000000 kR_38)) rfl ?_
  refine wp_aload_n dX0_init_75 rfl rfl (Or.inl (by decide)) ?_
  refine wp_bipush dX0_init_76 (by decide +kernel) (by decide) ?_
  refine kn_nI (j := 37) dX0_init_78 (by decide) (by decide +kernel) (by decide) (by decide +kernel) ?_
  refine kn_pR (N := 18) dX0_init_80 pX0_37 rfl (by decide +kernel) (by decide) (by decide) (by decide) (Or.inr ⟨_, rfl⟩) ?_
  refine wp_so (σ' := (KD.take 38, rdL 0 kI_16, rdL 0 kL_2, rdL 1000000 kR_39)) rfl ?_
  refine wp_pc (pc' := 83) rfl ?_
  refine wp_aload_n dX0_init_83 rfl rfl (Or.inl (by decide)) ?_
  refine wp_iconst dX0_init_84 (by decide) ?_
  refine kn_pI (N := 18) dX0_init_85 pX0_40 (by decide +kernel) (by decide) (by decide) ?_
  refine wp_so (σ' := (KD.take 38, rdL 0 kI_17, rdL 0 kL_2, rdL 1000000 kR_39)) rfl ?_
  refine wp_aload_n dX0_init_88 rfl rfl (Or.inl (by decide)) ?_
  refine wp_iconst dX0_init_89 (by decide) ?_
  refine kn_pI (N := 18) dX0_init_90 pX0_44 (by decide +kernel) (by decide) (by decide) ?_
  refine wp_so (σ' := (KD.take 38, rdL 0 kI_18, rdL 0 kL_2, rdL 1000000 kR_39)) rfl ?_
  refine wp_aload_n dX0_init_93 rfl rfl (Or.inl (by decide)) ?_
  refine wp_iconst dX0_init_94 (by decide) ?_
  refine wp_pc (pc' := 95) rfl ?_
  refine kn_pI (N := 18) dX0_init_95 pX0_47 (by decide +kernel) (by decide) (by decide) ?_
  refine wp_so (σ' := (KD.take 38, rdL 0 kI_19, rdL 0 kL_2, rdL 1000000 kR_39)) rfl ?_
  refine wp_aload_n dX0_init_98 rfl rfl (Or.inl (by decide)) ?_
  refine wp_iconst dX0_init_99 (by decide) ?_
  refine kn_pI (N := 18) dX0_init_100 pX0_50 (by decide +kernel) (by decide) (by decide) ?_
  refine wp_so (σ' := (KD.take 38, rdL 0 kI_20, rdL 0 kL_2, rdL 1000000 kR_39)) rfl ?_
  refine wp_aload_n dX0_init_103 rfl rfl (Or.inl (by decide)) ?_
  refine wp_iconst dX0_init_104 (by decide) ?_
  refine kn_pI (N := 18) dX0_init_105 pX0_53 (by decide +kernel) (by decide) (by decide) ?_
  refine wp_so (σ' := (KD.take 38, rdL 0 kI_21, rdL 0 kL_2, rdL 1000000 kR_39)) rfl ?_
  refine wp_aload_n dX0_init_108 rfl rfl (Or.inl (by decide)) ?_
  refine wp_pc (pc' := 109) rfl ?_
  refine wp_iconst dX0_init_109 (by decide) ?_
  refine kn_pI (N := 18) dX0_init_110 pX0_56 (by decide +kernel) (by decide) (by decide) ?_
  refine wp_so (σ' := (KD.take 38, rdL 0 kI_22, rdL 0 kL_2, rdL 1000000 kR_39)) rfl ?_
  refine wp_aload_n dX0_init_113 rfl rfl (Or.inl (by decide)) ?_
  refine wp_iconst dX0_init_114 (by decide) ?_
  refine kn_pI (N := 18) dX0_init_115 pX0_59 (by decide +kernel) (by decide) (by decide) ?_
  refine wp_so (σ' := (KD.take 38, rdL 0 kI_23, rdL 0 kL_2, rdL 1000000 kR_39)) rfl ?_
  refine wp_aload_n dX0_init_118 rfl rfl (Or.inl (by decide)) ?_
  refine wp_iconst dX0_init_119 (by decide) ?_
  refine kn_pI (N := 18) dX0_init_120 pX0_62 (by decide +kernel) (by decide) (by decide) ?_
  refine wp_so (σ' := (KD.take 38, rdL 0 kI_24, rdL 0 kL_2, rdL 1000000 kR_39)) rfl ?_
  refine wp_pc (pc' := 123) rfl ?_
  refine wp_aload_n dX0_init_123 rfl rfl (Or.inl (by decide)) ?_
  refine wp_iconst dX0_init_124 (by decide) ?_
  refine kn_pI (N := 18) dX0_init_125 pX0_65 (by decide +kernel) (by decide) (by decide) ?_
  refine wp_so (σ' := (KD.take 38, rdL 0 kI_25, rdL 0 kL_2, rdL 1000000 kR_39)) rfl ?_
  exact wp_vret dX0_init_128 rfl (fun _ => hQ)
def kR_40 : List (Nat × Nat × Nat × Nat) := (0, 7, 1, 28) :: kR_39
theorem dX3_init_0 : decode cX3_init 0 = .ok (.aload_n 0, 1) := by decide +kernel
theorem dX3_init_1 : decode cX3_init 1 = .ok (.invokespecial 3, 3) := by decide +kernel
theorem dX3_init_4 : decode cX3_init 4 = .ok (.aload_n 0, 1) := by decide +kernel
theorem dX3_init_5 : decode cX3_init 5 = .ok (.new 9, 3) := by decide +kernel
theorem dX3_init_8 : decode cX3_init 8 = .ok (.dup, 1) := by decide +kernel
theorem dX3_init_9 : decode cX3_init 9 = .ok (.invokespecial 11, 3) := by decide +kernel
theorem dX3_init_12 : decode cX3_init 12 = .ok (.putfield 12, 3) := by decide +kernel
theorem dX3_init_15 : decode cX3_init 15 = .ok (.aload_n 0, 1) := by decide +kernel
theorem dX3_init_16 : decode cX3_init 16 = .ok (.new 18, 3) := by decide +kernel
theorem dX3_init_19 : decode cX3_init 19 = .ok (.dup, 1) := by decide +kernel
theorem dX3_init_20 : decode cX3_init 20 = .ok (.invokespecial 20, 3) := by decide +kernel
theorem dX3_init_23 : decode cX3_init 23 = .ok (.putfield 21, 3) := by decide +kernel
theorem dX3_init_26 : decode cX3_init 26 = .ok (.aload_n 0, 1) := by decide +kernel
theorem dX3_init_27 : decode cX3_init 27 = .ok (.new 25, 3) := by decide +kernel
theorem dX3_init_30 : decode cX3_init 30 = .ok (.dup, 1) := by decide +kernel
theorem dX3_init_31 : decode cX3_init 31 = .ok (.invokespecial 27, 3) := by decide +kernel
theorem dX3_init_34 : decode cX3_init 34 = .ok (.putfield 28, 3) := by decide +kernel
theorem dX3_init_37 : decode cX3_init 37 = .ok (.aload_n 0, 1) := by decide +kernel
theorem dX3_init_38 : decode cX3_init 38 = .ok (.sipush 600, 3) := by decide +kernel
theorem dX3_init_41 : decode cX3_init 41 = .ok (.newarray .int, 2) := by decide +kernel
theorem dX3_init_43 : decode cX3_init 43 = .ok (.putfield 32, 3) := by decide +kernel
theorem dX3_init_46 : decode cX3_init 46 = .ok (.aload_n 0, 1) := by decide +kernel
theorem dX3_init_47 : decode cX3_init 47 = .ok (.sipush 600, 3) := by decide +kernel
theorem dX3_init_50 : decode cX3_init 50 = .ok (.newarray .int, 2) := by decide +kernel
theorem dX3_init_52 : decode cX3_init 52 = .ok (.putfield 36, 3) := by decide +kernel
theorem dX3_init_55 : decode cX3_init 55 = .ok (.aload_n 0, 1) := by decide +kernel
theorem dX3_init_56 : decode cX3_init 56 = .ok (.sipush 600, 3) := by decide +kernel
theorem dX3_init_59 : decode cX3_init 59 = .ok (.newarray .int, 2) := by decide +kernel
theorem dX3_init_61 : decode cX3_init 61 = .ok (.putfield 39, 3) := by decide +kernel
theorem dX3_init_64 : decode cX3_init 64 = .ok (.aload_n 0, 1) := by decide +kernel
theorem dX3_init_65 : decode cX3_init 65 = .ok (.sipush 600, 3) := by decide +kernel
theorem dX3_init_68 : decode cX3_init 68 = .ok (.newarray .int, 2) := by decide +kernel
theorem dX3_init_70 : decode cX3_init 70 = .ok (.putfield 42, 3) := by decide +kernel
theorem dX3_init_73 : decode cX3_init 73 = .ok (.aload_n 0, 1) := by decide +kernel
theorem dX3_init_74 : decode cX3_init 74 = .ok (.sipush 600, 3) := by decide +kernel
theorem dX3_init_77 : decode cX3_init 77 = .ok (.newarray .int, 2) := by decide +kernel
theorem dX3_init_79 : decode cX3_init 79 = .ok (.putfield 45, 3) := by decide +kernel
theorem dX3_init_82 : decode cX3_init 82 = .ok (.aload_n 0, 1) := by decide +kernel
theorem dX3_init_83 : decode cX3_init 83 = .ok (.sipush 600, 3) := by decide +kernel
theorem dX3_init_86 : decode cX3_init 86 = .ok (.newarray .int, 2) := by decide +kernel
theorem dX3_init_88 : decode cX3_init 88 = .ok (.putfield 48, 3) := by decide +kernel
theorem dX3_init_91 : decode cX3_init 91 = .ok (.aload_n 0, 1) := by decide +kernel
theorem dX3_init_92 : decode cX3_init 92 = .ok (.sipush 600, 3) := by decide +kernel
theorem dX3_init_95 : decode cX3_init 95 = .ok (.newarray .int, 2) := by decide +kernel
theorem dX3_init_97 : decode cX3_init 97 = .ok (.putfield 51, 3) := by decide +kernel
theorem dX3_init_100 : decode cX3_init 100 = .ok (.aload_n 0, 1) := by decide +kernel
theorem dX3_init_101 : decode cX3_init 101 = .ok (.sipush 600, 3) := by decide +kernel
theorem dX3_init_104 : decode cX3_init 104 = .ok (.newarray .int, 2) := by decide +kernel
theorem dX3_init_106 : decode cX3_init 106 = .ok (.putfield 54, 3) := by decide +kernel
theorem dX3_init_109 : decode cX3_init 109 = .ok (.aload_n 0, 1) := by decide +kernel
theorem dX3_init_110 : decode cX3_init 110 = .ok (.sipush 600, 3) := by decide +kernel
theorem dX3_init_113 : decode cX3_init 113 = .ok (.newarray .int, 2) := by decide +kernel
theorem dX3_init_115 : decode cX3_init 115 = .ok (.putfield 57, 3) := by decide +kernel
theorem dX3_init_118 : decode cX3_init 118 = .ok (.aload_n 0, 1) := by decide +kernel
theorem dX3_init_119 : decode cX3_init 119 = .ok (.sipush 2000, 3) := by decide +kernel
theorem dX3_init_122 : decode cX3_init 122 = .ok (.newarray .byte, 2) := by decide +kernel
theorem dX3_init_124 : decode cX3_init 124 = .ok (.putfield 60, 3) := by decide +kernel
theorem dX3_init_127 : decode cX3_init 127 = .ok (.aload_n 0, 1) := by decide +kernel
theorem dX3_init_128 : decode cX3_init 128 = .ok (.sipush 2000, 3) := by decide +kernel
theorem dX3_init_131 : decode cX3_init 131 = .ok (.newarray .byte, 2) := by decide +kernel
theorem dX3_init_133 : decode cX3_init 133 = .ok (.putfield 64, 3) := by decide +kernel
theorem dX3_init_136 : decode cX3_init 136 = .ok (.aload_n 0, 1) := by decide +kernel
theorem dX3_init_137 : decode cX3_init 137 = .ok (.iconst 0, 1) := by decide +kernel
theorem dX3_init_138 : decode cX3_init 138 = .ok (.putfield 67, 3) := by decide +kernel
theorem dX3_init_141 : decode cX3_init 141 = .ok (.aload_n 0, 1) := by decide +kernel
theorem dX3_init_142 : decode cX3_init 142 = .ok (.iconst 0, 1) := by decide +kernel
theorem dX3_init_143 : decode cX3_init 143 = .ok (.putfield 71, 3) := by decide +kernel
theorem dX3_init_146 : decode cX3_init 146 = .ok (.aload_n 0, 1) := by decide +kernel
theorem dX3_init_147 : decode cX3_init 147 = .ok (.iconst 0, 1) := by decide +kernel
theorem dX3_init_148 : decode cX3_init 148 = .ok (.putfield 74, 3) := by decide +kernel
theorem dX3_init_151 : decode cX3_init 151 = .ok (.aload_n 0, 1) := by decide +kernel
theorem dX3_init_152 : decode cX3_init 152 = .ok (.iconst (-1), 1) := by decide +kernel
theorem dX3_init_153 : decode cX3_init 153 = .ok (.putfield 77, 3) := by decide +kernel
theorem dX3_init_156 : decode cX3_init 156 = .ok (.aload_n 0, 1) := by decide +kernel
theorem dX3_init_157 : decode cX3_init 157 = .ok (.iconst 0, 1) := by decide +kernel
theorem dX3_init_158 : decode cX3_init 158 = .ok (.putfield 80, 3) := by decide +kernel
theorem dX3_init_161 : decode cX3_init 161 = .ok (.return_, 1) := by decide +kernel
theorem dX5_init_0 : decode cX5_init 0 = .ok (.aload_n 0, 1) := by decide +kernel
theorem dX5_init_1 : decode cX5_init 1 = .ok (.invokespecial 3, 3) := by decide +kernel
theorem dX5_init_4 : decode cX5_init 4 = .ok (.aload_n 0, 1) := by decide +kernel
theorem dX5_init_5 : decode cX5_init 5 = .ok (.sipush 6000, 3) := by decide +kernel
theorem dX5_init_8 : decode cX5_init 8 = .ok (.newarray .byte, 2) := by decide +kernel
theorem dX5_init_10 : decode cX5_init 10 = .ok (.putfield 9, 3) := by decide +kernel
theorem dX5_init_13 : decode cX5_init 13 = .ok (.aload_n 0, 1) := by decide +kernel
theorem dX5_init_14 : decode cX5_init 14 = .ok (.sipush 2020, 3) := by decide +kernel
theorem dX5_init_17 : decode cX5_init 17 = .ok (.newarray .int, 2) := by decide +kernel
theorem dX5_init_19 : decode cX5_init 19 = .ok (.putfield 15, 3) := by decide +kernel
theorem dX5_init_22 : decode cX5_init 22 = .ok (.aload_n 0, 1) := by decide +kernel
theorem dX5_init_23 : decode cX5_init 23 = .ok (.sipush 2020, 3) := by decide +kernel
theorem dX5_init_26 : decode cX5_init 26 = .ok (.newarray .int, 2) := by decide +kernel
theorem dX5_init_28 : decode cX5_init 28 = .ok (.putfield 19, 3) := by decide +kernel
theorem dX5_init_31 : decode cX5_init 31 = .ok (.aload_n 0, 1) := by decide +kernel
theorem dX5_init_32 : decode cX5_init 32 = .ok (.sipush 2020, 3) := by decide +kernel
theorem dX5_init_35 : decode cX5_init 35 = .ok (.newarray .int, 2) := by decide +kernel
theorem dX5_init_37 : decode cX5_init 37 = .ok (.putfield 22, 3) := by decide +kernel
theorem dX5_init_40 : decode cX5_init 40 = .ok (.aload_n 0, 1) := by decide +kernel
theorem dX5_init_41 : decode cX5_init 41 = .ok (.sipush 2020, 3) := by decide +kernel
theorem dX5_init_44 : decode cX5_init 44 = .ok (.newarray .int, 2) := by decide +kernel
theorem dX5_init_46 : decode cX5_init 46 = .ok (.putfield 25, 3) := by decide +kernel
theorem dX5_init_49 : decode cX5_init 49 = .ok (.aload_n 0, 1) := by decide +kernel
theorem dX5_init_50 : decode cX5_init 50 = .ok (.sipush 2020, 3) := by decide +kernel
theorem dX5_init_53 : decode cX5_init 53 = .ok (.newarray .int, 2) := by decide +kernel
theorem dX5_init_55 : decode cX5_init 55 = .ok (.putfield 28, 3) := by decide +kernel
theorem dX5_init_58 : decode cX5_init 58 = .ok (.aload_n 0, 1) := by decide +kernel
theorem dX5_init_59 : decode cX5_init 59 = .ok (.sipush 256, 3) := by decide +kernel
theorem dX5_init_62 : decode cX5_init 62 = .ok (.newarray .int, 2) := by decide +kernel
theorem dX5_init_64 : decode cX5_init 64 = .ok (.putfield 31, 3) := by decide +kernel
theorem dX5_init_67 : decode cX5_init 67 = .ok (.aload_n 0, 1) := by decide +kernel
theorem dX5_init_68 : decode cX5_init 68 = .ok (.iconst 0, 1) := by decide +kernel
theorem dX5_init_69 : decode cX5_init 69 = .ok (.putfield 34, 3) := by decide +kernel
theorem dX5_init_72 : decode cX5_init 72 = .ok (.aload_n 0, 1) := by decide +kernel
theorem dX5_init_73 : decode cX5_init 73 = .ok (.getfield 31, 3) := by decide +kernel
theorem dX5_init_76 : decode cX5_init 76 = .ok (.iconst (-1), 1) := by decide +kernel
theorem dX5_init_77 : decode cX5_init 77 = .ok (.invokestatic 38, 3) := by decide +kernel
theorem dX5_init_80 : decode cX5_init 80 = .ok (.return_, 1) := by decide +kernel
def kR_41 : List (Nat × Nat × Nat × Nat) := (39, 0, 1, 40) :: kR_40
def kR_42 : List (Nat × Nat × Nat × Nat) := (39, 1, 1, 41) :: kR_41
def kR_43 : List (Nat × Nat × Nat × Nat) := (39, 2, 1, 42) :: kR_42
def kR_44 : List (Nat × Nat × Nat × Nat) := (39, 3, 1, 43) :: kR_43
def kR_45 : List (Nat × Nat × Nat × Nat) := (39, 4, 1, 44) :: kR_44
def kR_46 : List (Nat × Nat × Nat × Nat) := (39, 5, 1, 45) :: kR_45
def kR_47 : List (Nat × Nat × Nat × Nat) := (39, 6, 1, 46) :: kR_46
def kI_26 : List (Nat × Nat × Nat × Int) := (39, 7, 1, 0) :: kI_25
def kI_27 : List (Nat × Nat × Nat × Int) := (46, 0, 256, -1) :: kI_26
theorem kc_X5_init_39 {cs : Cs} : Mk cs mX5_init [] 39 40 47 kI_25 kL_2 kR_40 kI_27 kL_2 kR_47 := by
  intro Q hQ
  refine wp_L (L' := [some (vR 39)]) rfl ?_
  refine wp_aload_n dX5_init_0 rfl rfl (Or.inl (by decide)) ?_
  refine wp_objInit dX5_init_1 lX5_3 oi1 oi2 (Or.inl (by decide)) (Nat.le_of_ble_eq_true rfl) (by decide) (by decide) ?_
  refine wp_aload_n dX5_init_4 rfl rfl (Or.inl (by decide)) ?_
  refine wp_sipush dX5_init_5 (by decide +kernel) (by decide) ?_
  refine kn_nB (j := 40) dX5_init_8 (by decide) (by decide +kernel) (by decide) (by decide +kernel) ?_
  refine kn_pR (N := 8) dX5_init_10 pX5_9 rfl (by decide +kernel) (by decide) (by decide) (by decide) (Or.inr ⟨_, rfl⟩) ?_
  refine wp_so (σ' := (KD.take 41, rdL 0 kI_25, rdL 0 kL_2, rdL 1000000 kR_41)) rfl ?_
  refine wp_pc (pc' := 13) rfl ?_
  refine wp_aload_n dX5_init_13 rfl rfl (Or.inl (by decide)) ?_
  refine wp_sipush dX5_init_14 (by decide +kernel) (by decide) ?_
  refine kn_nI (j := 41) dX5_init_17 (by decide) (by decide +kernel) (by decide) (by decide +kernel) ?_
  refine kn_pR (N := 8) dX5_init_19 pX5_15 rfl (by decide +kernel) (by decide) (by decide) (by decide) (Or.inr ⟨_, rfl⟩) ?_
  refine wp_so (σ' := (KD.take 42, rdL 0 kI_25, rdL 0 kL_2, rdL 1000000 kR_42)) rfl ?_
  refine wp_aload_n dX5_init_22 rfl rfl (Or.inl (by decide)) ?_
  refine wp_sipush dX5_init_23 (by decide +kernel) (by decide) ?_
  refine kn_nI (j := 42) dX5_init_26 (by decide) (by decide +kernel) (by decide) (by decide +kernel) ?_
  refine kn_pR (N := 8) dX5_init_28 pX5_19 rfl (by decide +kernel) (by decide) (by decide) (by decide) (Or.inr ⟨_, rfl⟩) ?_
  refine wp_so (σ' := (KD.take 43, rdL 0 kI_25, rdL 0 kL_2, rdL 1000000 kR_43)) rfl ?_
  refine wp_pc (pc' := 31) rfl ?_
  refine wp_aload_n dX5_init_31 rfl rfl (Or.inl (by decide)) ?_
  refine wp_sipush dX5_init_32 (by decide +kernel) (by decide) ?_
  refine kn_nI (j := 43) dX5_init_35 (by decide) (by decide +kernel) (by decide) (by decide +kernel) ?_
  refine kn_pR (N := 8) dX5_init_37 pX5_22 rfl (by decide +kernel) (by decide) (by decide) (by decide) (Or.inr ⟨_, rfl⟩) ?_
  refine wp_so (σ' := (KD.take 44, rdL 0 kI_25, rdL 0 kL_2, rdL 1000000 kR_44)) rfl ?_
  refine wp_aload_n dX5_init_40 rfl rfl (Or.inl (by decide)) ?_
  refine wp_sipush dX5_init_41 (by decide +kernel) (by decide) ?_
  refine kn_nI (j := 44) dX5_init_44 (by decide) (by decide +kernel) (by decide) (by decide +kernel) ?_
  refine kn_pR (N := 8) dX5_init_46 pX5_25 rfl (by decide +kernel) (by decide) (by decide) (by decide) (Or.inr ⟨_, rfl⟩) ?_
  refine wp_so (σ' := (KD.take 45, rdL 0 kI_25, rdL 0 kL_2, rdL 1000000 kR_45)) rfl ?_
  refine wp_pc (pc' := 49) rfl ?_
  refine wp_aload_n dX5_init_49 rfl rfl (Or.inl (by decide)) ?_
  refine wp_sipush dX5_init_50 (by decide +kernel) (by decide) ?_
  refine kn_nI (j := 45) dX5_init_53 (by decide) (by decide +kernel) (by decide) (by decide +kernel) ?_
  refine kn_pR (N := 8) dX5_init_55 pX5_28 rfl (by decide +kernel) (by decide) (by decide) (by decide) (Or.inr ⟨_, rfl⟩) ?_
  refine wp_so (σ' := (KD.take 46, rdL 0 kI_25, rdL 0 kL_2, rdL 1000000 kR_46)) rfl ?_
  refine wp_aload_n dX5_init_58 rfl rfl (Or.inl (by decide)) ?_
  refine wp_sipush dX5_init_59 (by decide +kernel) (by decide) ?_
  refine kn_nI (j := 46) dX5_init_62 (by decide) (by decide +kernel) (by decide) (by decide +kernel) ?_
  refine kn_pR (N := 8) dX5_init_64 pX5_31 rfl (by decide +kernel) (by decide) (by decide) (by decide) (Or.inr ⟨_, rfl⟩) ?_
  refine wp_so (σ' := (KD.take 47, rdL 0 kI_25, rdL 0 kL_2, rdL 1000000 kR_47)) rfl ?_
  refine wp_pc (pc' := 67) rfl ?_
  refine wp_aload_n dX5_init_67 rfl rfl (Or.inl (by decide)) ?_
  refine wp_iconst dX5_init_68 (by decide) ?_
  refine kn_pI (N := 8) dX5_init_69 pX5_34 (by decide +kernel) (by decide) (by decide) ?_
  refine wp_so (σ' := (KD.take 47, rdL 0 kI_26, rdL 0 kL_2, rdL 1000000 kR_47)) rfl ?_
  refine wp_aload_n dX5_init_72 rfl rfl (Or.inl (by decide)) ?_
  refine kn_gR (N := 8) (v := 46) dX5_init_73 fX5_31 (by decide +kernel) (by decide) (by decide) (by decide +kernel) ?_
  refine wp_iconst dX5_init_76 (by decide) ?_
  refine wp_callS (n := 2) (mt' := mJ7_fill_53178) (as := [vR 46, vI (-1)]) (rest := []) (k1 := KD.take 47) (Q' := fun r M => r = none ∧ M = (rdL 0 kI_27, rdL 0 kL_2, rdL 1000000 kR_47)) dX5_init_77 lX5_38 kJ7_fill_53178 vJ7_fill_53178 (by decide) (by decide +kernel) rfl (Nat.le_of_ble_eq_true rfl) rfl (Nat.le_of_ble_eq_true rfl) (kle (by decide)) (kle (by decide)) (w_fillIk (n := 256) (ktg (by decide +kernel) (by decide)) (by decide) (by decide) ⟨rfl, by rw [rdL_fl]; rfl⟩) (fun r M' hq hM => ?_)
  obtain ⟨rfl, rfl⟩ := hq
  refine wp_so (σ' := (KD.take 47, rdL 0 kI_27, rdL 0 kL_2, rdL 1000000 kR_47)) rfl ?_
  exact wp_vret dX5_init_80 rfl (fun _ => hQ)
def kR_48 : List (Nat × Nat × Nat × Nat) := (38, 0, 1, 39) :: kR_47
theorem dX9_init_0 : decode cX9_init 0 = .ok (.aload_n 0, 1) := by decide +kernel
theorem dX9_init_1 : decode cX9_init 1 = .ok (.invokespecial 3, 3) := by decide +kernel
theorem dX9_init_4 : decode cX9_init 4 = .ok (.aload_n 0, 1) := by decide +kernel
theorem dX9_init_5 : decode cX9_init 5 = .ok (.bipush 30, 2) := by decide +kernel
theorem dX9_init_7 : decode cX9_init 7 = .ok (.newarray .int, 2) := by decide +kernel
theorem dX9_init_9 : decode cX9_init 9 = .ok (.putfield 11, 3) := by decide +kernel
theorem dX9_init_12 : decode cX9_init 12 = .ok (.aload_n 0, 1) := by decide +kernel
theorem dX9_init_13 : decode cX9_init 13 = .ok (.bipush 30, 2) := by decide +kernel
theorem dX9_init_15 : decode cX9_init 15 = .ok (.newarray .int, 2) := by decide +kernel
theorem dX9_init_17 : decode cX9_init 17 = .ok (.putfield 15, 3) := by decide +kernel
theorem dX9_init_20 : decode cX9_init 20 = .ok (.aload_n 0, 1) := by decide +kernel
theorem dX9_init_21 : decode cX9_init 21 = .ok (.bipush 30, 2) := by decide +kernel
theorem dX9_init_23 : decode cX9_init 23 = .ok (.newarray .int, 2) := by decide +kernel
theorem dX9_init_25 : decode cX9_init 25 = .ok (.putfield 18, 3) := by decide +kernel
theorem dX9_init_28 : decode cX9_init 28 = .ok (.aload_n 0, 1) := by decide +kernel
theorem dX9_init_29 : decode cX9_init 29 = .ok (.bipush 30, 2) := by decide +kernel
theorem dX9_init_31 : decode cX9_init 31 = .ok (.newarray .int, 2) := by decide +kernel
theorem dX9_init_33 : decode cX9_init 33 = .ok (.putfield 21, 3) := by decide +kernel
theorem dX9_init_36 : decode cX9_init 36 = .ok (.aload_n 0, 1) := by decide +kernel
theorem dX9_init_37 : decode cX9_init 37 = .ok (.sipush 1200, 3) := by decide +kernel
theorem dX9_init_40 : decode cX9_init 40 = .ok (.newarray .int, 2) := by decide +kernel
theorem dX9_init_42 : decode cX9_init 42 = .ok (.putfield 24, 3) := by decide +kernel
theorem dX9_init_45 : decode cX9_init 45 = .ok (.aload_n 0, 1) := by decide +kernel
theorem dX9_init_46 : decode cX9_init 46 = .ok (.sipush 1200, 3) := by decide +kernel
theorem dX9_init_49 : decode cX9_init 49 = .ok (.newarray .long, 2) := by decide +kernel
theorem dX9_init_51 : decode cX9_init 51 = .ok (.putfield 27, 3) := by decide +kernel
theorem dX9_init_54 : decode cX9_init 54 = .ok (.aload_n 0, 1) := by decide +kernel
theorem dX9_init_55 : decode cX9_init 55 = .ok (.sipush 1200, 3) := by decide +kernel
theorem dX9_init_58 : decode cX9_init 58 = .ok (.newarray .long, 2) := by decide +kernel
theorem dX9_init_60 : decode cX9_init 60 = .ok (.putfield 31, 3) := by decide +kernel
theorem dX9_init_63 : decode cX9_init 63 = .ok (.aload_n 0, 1) := by decide +kernel
theorem dX9_init_64 : decode cX9_init 64 = .ok (.bipush 30, 2) := by decide +kernel
theorem dX9_init_66 : decode cX9_init 66 = .ok (.newarray .long, 2) := by decide +kernel
theorem dX9_init_68 : decode cX9_init 68 = .ok (.putfield 34, 3) := by decide +kernel
theorem dX9_init_71 : decode cX9_init 71 = .ok (.aload_n 0, 1) := by decide +kernel
theorem dX9_init_72 : decode cX9_init 72 = .ok (.bipush 30, 2) := by decide +kernel
theorem dX9_init_74 : decode cX9_init 74 = .ok (.newarray .long, 2) := by decide +kernel
theorem dX9_init_76 : decode cX9_init 76 = .ok (.putfield 37, 3) := by decide +kernel
theorem dX9_init_79 : decode cX9_init 79 = .ok (.aload_n 0, 1) := by decide +kernel
theorem dX9_init_80 : decode cX9_init 80 = .ok (.bipush 30, 2) := by decide +kernel
theorem dX9_init_82 : decode cX9_init 82 = .ok (.newarray .byte, 2) := by decide +kernel
theorem dX9_init_84 : decode cX9_init 84 = .ok (.putfield 40, 3) := by decide +kernel
theorem dX9_init_87 : decode cX9_init 87 = .ok (.aload_n 0, 1) := by decide +kernel
theorem dX9_init_88 : decode cX9_init 88 = .ok (.iconst 0, 1) := by decide +kernel
theorem dX9_init_89 : decode cX9_init 89 = .ok (.putfield 44, 3) := by decide +kernel
theorem dX9_init_92 : decode cX9_init 92 = .ok (.return_, 1) := by decide +kernel
def kR_49 : List (Nat × Nat × Nat × Nat) := (47, 0, 1, 48) :: kR_48
def kR_50 : List (Nat × Nat × Nat × Nat) := (47, 1, 1, 49) :: kR_49
def kR_51 : List (Nat × Nat × Nat × Nat) := (47, 2, 1, 50) :: kR_50
def kR_52 : List (Nat × Nat × Nat × Nat) := (47, 3, 1, 51) :: kR_51
def kR_53 : List (Nat × Nat × Nat × Nat) := (47, 4, 1, 52) :: kR_52
def kR_54 : List (Nat × Nat × Nat × Nat) := (47, 5, 1, 53) :: kR_53
def kR_55 : List (Nat × Nat × Nat × Nat) := (47, 6, 1, 54) :: kR_54
def kR_56 : List (Nat × Nat × Nat × Nat) := (47, 7, 1, 55) :: kR_55
def kR_57 : List (Nat × Nat × Nat × Nat) := (47, 8, 1, 56) :: kR_56
def kR_58 : List (Nat × Nat × Nat × Nat) := (47, 9, 1, 57) :: kR_57
def kI_28 : List (Nat × Nat × Nat × Int) := (47, 10, 1, 0) :: kI_27
theorem kc_X9_init_47 {cs : Cs} : Mk cs mX9_init [] 47 48 58 kI_27 kL_2 kR_48 kI_28 kL_2 kR_58 := by
  intro Q hQ
  refine wp_L (L' := [some (vR 47)]) rfl ?_
  refine wp_aload_n dX9_init_0 rfl rfl (Or.inl (by decide)) ?_
  refine wp_objInit dX9_init_1 lX9_3 oi1 oi2 (Or.inl (by decide)) (Nat.le_of_ble_eq_true rfl) (by decide) (by decide) ?_
  refine wp_aload_n dX9_init_4 rfl rfl (Or.inl (by decide)) ?_
  refine wp_bipush dX9_init_5 (by decide +kernel) (by decide) ?_
  refine kn_nI (j := 48) dX9_init_7 (by decide) (by decide +kernel) (by decide) (by decide +kernel) ?_
  refine kn_pR (N := 11) dX9_init_9 pX9_11 rfl (by decide +kernel) (by decide) (by decide) (by decide) (Or.inr ⟨_, rfl⟩) ?_
  refine wp_so (σ' := (KD.take 49, rdL 0 kI_27, rdL 0 kL_2, rdL 1000000 kR_49)) rfl ?_
  refine wp_pc (pc' := 12) rfl ?_
  refine wp_aload_n dX9_init_12 rfl rfl (Or.inl (by decide)) ?_
  refine wp_bipush dX9_init_13 (by decide +kernel) (by decide) ?_
  refine kn_nI (j := 49) dX9_init_15 (by decide) (by decide +kernel) (by decide) (by decide +kernel) ?_
  refine kn_pR (N := 11) dX9_init_17 pX9_15 rfl (by decide +kernel) (by decide) (by decide) (by decide) (Or.inr ⟨_, rfl⟩) ?_
  refine wp_so (σ' := (KD.take 50, rdL 0 kI_27, rdL 0 kL_2, rdL 1000000 kR_50)) rfl ?_
  refine wp_aload_n dX9_init_20 rfl rfl (Or.inl (by decide)) ?_
  refine wp_bipush dX9_init_21 (by decide +kernel) (by decide) ?_
  refine kn_nI (j := 50) dX9_init_23 (by decide) (by decide +kernel) (by decide) (by decide +kernel) ?_
  refine kn_pR (N := 11) dX9_init_25 pX9_18 rfl (by decide +kernel) (by decide) (by decide) (by decide) (Or.inr ⟨_, rfl⟩) ?_
  refine wp_so (σ' := (KD.take 51, rdL 0 kI_27, rdL 0 kL_2, rdL 1000000 kR_51)) rfl ?_
  refine wp_pc (pc' := 28) rfl ?_
  refine wp_aload_n dX9_init_28 rfl rfl (Or.inl (by decide)) ?_
  refine wp_bipush dX9_init_29 (by decide +kernel) (by decide) ?_
  refine kn_nI (j := 51) dX9_init_31 (by decide) (by decide +kernel) (by decide) (by decide +kernel) ?_
  refine kn_pR (N := 11) dX9_init_33 pX9_21 rfl (by decide +kernel) (by decide) (by decide) (by decide) (Or.inr ⟨_, rfl⟩) ?_
  refine wp_so (σ' := (KD.take 52, rdL 0 kI_27, rdL 0 kL_2, rdL 1000000 kR_52)) rfl ?_
  refine wp_aload_n dX9_init_36 rfl rfl (Or.inl (by decide)) ?_
  refine wp_sipush dX9_init_37 (by decide +kernel) (by decide) ?_
  refine kn_nI (j := 52) dX9_init_40 (by decide) (by decide +kernel) (by decide) (by decide +kernel) ?_
  refine kn_pR (N := 11) dX9_init_42 pX9_24 rfl (by decide +kernel) (by decide) (by decide) (by decide) (Or.inr ⟨_, rfl⟩) ?_
  refine wp_so (σ' := (KD.take 53, rdL 0 kI_27, rdL 0 kL_2, rdL 1000000 kR_53)) rfl ?_
  refine wp_pc (pc' := 45) rfl ?_
  refine wp_aload_n dX9_init_45 rfl rfl (Or.inl (by decide)) ?_
  refine wp_sipush dX9_init_46 (by decide +kernel) (by decide) ?_
  refine kn_nJ (j := 53) dX9_init_49 (by decide) (by decide +kernel) (by decide) (by decide +kernel) ?_
  refine kn_pR (N := 11) dX9_init_51 pX9_27 rfl (by decide +kernel) (by decide) (by decide) (by decide) (Or.inr ⟨_, rfl⟩) ?_
  refine wp_so (σ' := (KD.take 54, rdL 0 kI_27, rdL 0 kL_2, rdL 1000000 kR_54)) rfl ?_
  refine wp_aload_n dX9_init_54 rfl rfl (Or.inl (by decide)) ?_
  refine wp_sipush dX9_init_55 (by decide +kernel) (by decide) ?_
  refine kn_nJ (j := 54) dX9_init_58 (by decide) (by decide +kernel) (by decide) (by decide +kernel) ?_
  refine kn_pR (N := 11) dX9_init_60 pX9_31 rfl (by decide +kernel) (by decide) (by decide) (by decide) (Or.inr ⟨_, rfl⟩) ?_
  refine wp_so (σ' := (KD.take 55, rdL 0 kI_27, rdL 0 kL_2, rdL 1000000 kR_55)) rfl ?_
  refine wp_pc (pc' := 63) rfl ?_
  refine wp_aload_n dX9_init_63 rfl rfl (Or.inl (by decide)) ?_
  refine wp_bipush dX9_init_64 (by decide +kernel) (by decide) ?_
  refine kn_nJ (j := 55) dX9_init_66 (by decide) (by decide +kernel) (by decide) (by decide +kernel) ?_
  refine kn_pR (N := 11) dX9_init_68 pX9_34 rfl (by decide +kernel) (by decide) (by decide) (by decide) (Or.inr ⟨_, rfl⟩) ?_
  refine wp_so (σ' := (KD.take 56, rdL 0 kI_27, rdL 0 kL_2, rdL 1000000 kR_56)) rfl ?_
  refine wp_aload_n dX9_init_71 rfl rfl (Or.inl (by decide)) ?_
  refine wp_bipush dX9_init_72 (by decide +kernel) (by decide) ?_
  refine kn_nJ (j := 56) dX9_init_74 (by decide) (by decide +kernel) (by decide) (by decide +kernel) ?_
  refine kn_pR (N := 11) dX9_init_76 pX9_37 rfl (by decide +kernel) (by decide) (by decide) (by decide) (Or.inr ⟨_, rfl⟩) ?_
  refine wp_so (σ' := (KD.take 57, rdL 0 kI_27, rdL 0 kL_2, rdL 1000000 kR_57)) rfl ?_
  refine wp_pc (pc' := 79) rfl ?_
  refine wp_aload_n dX9_init_79 rfl rfl (Or.inl (by decide)) ?_
  refine wp_bipush dX9_init_80 (by decide +kernel) (by decide) ?_
  refine kn_nB (j := 57) dX9_init_82 (by decide) (by decide +kernel) (by decide) (by decide +kernel) ?_
  refine kn_pR (N := 11) dX9_init_84 pX9_40 rfl (by decide +kernel) (by decide) (by decide) (by decide) (Or.inr ⟨_, rfl⟩) ?_
  refine wp_so (σ' := (KD.take 58, rdL 0 kI_27, rdL 0 kL_2, rdL 1000000 kR_58)) rfl ?_
  refine wp_aload_n dX9_init_87 rfl rfl (Or.inl (by decide)) ?_
  refine wp_iconst dX9_init_88 (by decide) ?_
  refine kn_pI (N := 11) dX9_init_89 pX9_44 (by decide +kernel) (by decide) (by decide) ?_
  refine wp_so (σ' := (KD.take 58, rdL 0 kI_28, rdL 0 kL_2, rdL 1000000 kR_58)) rfl ?_
  exact wp_vret dX9_init_92 rfl (fun _ => hQ)
def kR_59 : List (Nat × Nat × Nat × Nat) := (38, 1, 1, 47) :: kR_58
theorem dX7_init_0 : decode cX7_init 0 = .ok (.aload_n 0, 1) := by decide +kernel
theorem dX7_init_1 : decode cX7_init 1 = .ok (.invokespecial 3, 3) := by decide +kernel
theorem dX7_init_4 : decode cX7_init 4 = .ok (.aload_n 0, 1) := by decide +kernel
theorem dX7_init_5 : decode cX7_init 5 = .ok (.sipush 750, 3) := by decide +kernel
theorem dX7_init_8 : decode cX7_init 8 = .ok (.newarray .int, 2) := by decide +kernel
theorem dX7_init_10 : decode cX7_init 10 = .ok (.putfield 11, 3) := by decide +kernel
theorem dX7_init_13 : decode cX7_init 13 = .ok (.aload_n 0, 1) := by decide +kernel
theorem dX7_init_14 : decode cX7_init 14 = .ok (.sipush 750, 3) := by decide +kernel
theorem dX7_init_17 : decode cX7_init 17 = .ok (.newarray .int, 2) := by decide +kernel
theorem dX7_init_19 : decode cX7_init 19 = .ok (.putfield 15, 3) := by decide +kernel
theorem dX7_init_22 : decode cX7_init 22 = .ok (.aload_n 0, 1) := by decide +kernel
theorem dX7_init_23 : decode cX7_init 23 = .ok (.sipush 750, 3) := by decide +kernel
theorem dX7_init_26 : decode cX7_init 26 = .ok (.newarray .int, 2) := by decide +kernel
theorem dX7_init_28 : decode cX7_init 28 = .ok (.putfield 18, 3) := by decide +kernel
theorem dX7_init_31 : decode cX7_init 31 = .ok (.aload_n 0, 1) := by decide +kernel
theorem dX7_init_32 : decode cX7_init 32 = .ok (.sipush 750, 3) := by decide +kernel
theorem dX7_init_35 : decode cX7_init 35 = .ok (.newarray .int, 2) := by decide +kernel
theorem dX7_init_37 : decode cX7_init 37 = .ok (.putfield 21, 3) := by decide +kernel
theorem dX7_init_40 : decode cX7_init 40 = .ok (.aload_n 0, 1) := by decide +kernel
theorem dX7_init_41 : decode cX7_init 41 = .ok (.sipush 750, 3) := by decide +kernel
theorem dX7_init_44 : decode cX7_init 44 = .ok (.newarray .int, 2) := by decide +kernel
theorem dX7_init_46 : decode cX7_init 46 = .ok (.putfield 24, 3) := by decide +kernel
theorem dX7_init_49 : decode cX7_init 49 = .ok (.aload_n 0, 1) := by decide +kernel
theorem dX7_init_50 : decode cX7_init 50 = .ok (.sipush 750, 3) := by decide +kernel
theorem dX7_init_53 : decode cX7_init 53 = .ok (.newarray .int, 2) := by decide +kernel
theorem dX7_init_55 : decode cX7_init 55 = .ok (.putfield 27, 3) := by decide +kernel
theorem dX7_init_58 : decode cX7_init 58 = .ok (.aload_n 0, 1) := by decide +kernel
theorem dX7_init_59 : decode cX7_init 59 = .ok (.sipush 750, 3) := by decide +kernel
theorem dX7_init_62 : decode cX7_init 62 = .ok (.newarray .int, 2) := by decide +kernel
theorem dX7_init_64 : decode cX7_init 64 = .ok (.putfield 30, 3) := by decide +kernel
theorem dX7_init_67 : decode cX7_init 67 = .ok (.aload_n 0, 1) := by decide +kernel
theorem dX7_init_68 : decode cX7_init 68 = .ok (.sipush 750, 3) := by decide +kernel
theorem dX7_init_71 : decode cX7_init 71 = .ok (.newarray .int, 2) := by decide +kernel
theorem dX7_init_73 : decode cX7_init 73 = .ok (.putfield 33, 3) := by decide +kernel
theorem dX7_init_76 : decode cX7_init 76 = .ok (.aload_n 0, 1) := by decide +kernel
theorem dX7_init_77 : decode cX7_init 77 = .ok (.sipush 750, 3) := by decide +kernel
theorem dX7_init_80 : decode cX7_init 80 = .ok (.newarray .int, 2) := by decide +kernel
theorem dX7_init_82 : decode cX7_init 82 = .ok (.putfield 36, 3) := by decide +kernel
theorem dX7_init_85 : decode cX7_init 85 = .ok (.aload_n 0, 1) := by decide +kernel
theorem dX7_init_86 : decode cX7_init 86 = .ok (.sipush 3000, 3) := by decide +kernel
theorem dX7_init_89 : decode cX7_init 89 = .ok (.newarray .int, 2) := by decide +kernel
theorem dX7_init_91 : decode cX7_init 91 = .ok (.putfield 39, 3) := by decide +kernel
theorem dX7_init_94 : decode cX7_init 94 = .ok (.aload_n 0, 1) := by decide +kernel
theorem dX7_init_95 : decode cX7_init 95 = .ok (.sipush 3000, 3) := by decide +kernel
theorem dX7_init_98 : decode cX7_init 98 = .ok (.newarray .int, 2) := by decide +kernel
theorem dX7_init_100 : decode cX7_init 100 = .ok (.putfield 42, 3) := by decide +kernel
theorem dX7_init_103 : decode cX7_init 103 = .ok (.aload_n 0, 1) := by decide +kernel
theorem dX7_init_104 : decode cX7_init 104 = .ok (.iconst 0, 1) := by decide +kernel
theorem dX7_init_105 : decode cX7_init 105 = .ok (.putfield 45, 3) := by decide +kernel
theorem dX7_init_108 : decode cX7_init 108 = .ok (.aload_n 0, 1) := by decide +kernel
theorem dX7_init_109 : decode cX7_init 109 = .ok (.iconst 0, 1) := by decide +kernel
theorem dX7_init_110 : decode cX7_init 110 = .ok (.putfield 49, 3) := by decide +kernel
theorem dX7_init_113 : decode cX7_init 113 = .ok (.return_, 1) := by decide +kernel
def kR_60 : List (Nat × Nat × Nat × Nat) := (58, 0, 1, 59) :: kR_59
def kR_61 : List (Nat × Nat × Nat × Nat) := (58, 1, 1, 60) :: kR_60
def kR_62 : List (Nat × Nat × Nat × Nat) := (58, 2, 1, 61) :: kR_61
def kR_63 : List (Nat × Nat × Nat × Nat) := (58, 3, 1, 62) :: kR_62
def kR_64 : List (Nat × Nat × Nat × Nat) := (58, 4, 1, 63) :: kR_63
def kR_65 : List (Nat × Nat × Nat × Nat) := (58, 5, 1, 64) :: kR_64
def kR_66 : List (Nat × Nat × Nat × Nat) := (58, 6, 1, 65) :: kR_65
def kR_67 : List (Nat × Nat × Nat × Nat) := (58, 7, 1, 66) :: kR_66
def kR_68 : List (Nat × Nat × Nat × Nat) := (58, 8, 1, 67) :: kR_67
def kR_69 : List (Nat × Nat × Nat × Nat) := (58, 9, 1, 68) :: kR_68
def kR_70 : List (Nat × Nat × Nat × Nat) := (58, 10, 1, 69) :: kR_69
def kI_29 : List (Nat × Nat × Nat × Int) := (58, 11, 1, 0) :: kI_28
def kI_30 : List (Nat × Nat × Nat × Int) := (58, 12, 1, 0) :: kI_29
theorem kc_X7_init_58 {cs : Cs} : Mk cs mX7_init [] 58 59 70 kI_28 kL_2 kR_59 kI_30 kL_2 kR_70 := by
  intro Q hQ
  refine wp_L (L' := [some (vR 58)]) rfl ?_
  refine wp_aload_n dX7_init_0 rfl rfl (Or.inl (by decide)) ?_
  refine wp_objInit dX7_init_1 lX7_3 oi1 oi2 (Or.inl (by decide)) (Nat.le_of_ble_eq_true rfl) (by decide) (by decide) ?_
  refine wp_aload_n dX7_init_4 rfl rfl (Or.inl (by decide)) ?_
  refine wp_sipush dX7_init_5 (by decide +kernel) (by decide) ?_
  refine kn_nI (j := 59) dX7_init_8 (by decide) (by decide +kernel) (by decide) (by decide +kernel) ?_
  refine kn_pR (N := 13) dX7_init_10 pX7_11 rfl (by decide +kernel) (by decide) (by decide) (by decide) (Or.inr ⟨_, rfl⟩) ?_
  refine wp_so (σ' := (KD.take 60, rdL 0 kI_28, rdL 0 kL_2, rdL 1000000 kR_60)) rfl ?_
  refine wp_pc (pc' := 13) rfl ?_
  refine wp_aload_n dX7_init_13 rfl rfl (Or.inl (by decide)) ?_
  refine wp_sipush dX7_init_14 (by decide +kernel) (by decide) ?_
  refine kn_nI (j := 60) dX7_init_17 (by decide) (by decide +kernel) (by decide) (by decide +kernel) ?_
  refine kn_pR (N := 13) dX7_init_19 pX7_15 rfl (by decide +kernel) (by decide) (by decide) (by decide) (Or.inr ⟨_, rfl⟩) ?_
  refine wp_so (σ' := (KD.take 61, rdL 0 kI_28, rdL 0 kL_2, rdL 1000000 kR_61)) rfl ?_
  refine wp_aload_n dX7_init_22 rfl rfl (Or.inl (by decide)) ?_
  refine wp_sipush dX7_init_23 (by decide +kernel) (by decide) ?_
  refine kn_nI (j := 61) dX7_init_26 (by decide) (by decide +kernel) (by decide) (by decide +kernel) ?_
  refine kn_pR (N := 13) dX7_init_28 pX7_18 rfl (by decide +kernel) (by decide) (by decide) (by decide) (Or.inr ⟨_, rfl⟩) ?_
  refine wp_so (σ' := (KD.take 62, rdL 0 kI_28, rdL 0 kL_2, rdL 1000000 kR_62)) rfl ?_
  refine wp_pc (pc' := 31) rfl ?_
  refine wp_aload_n dX7_init_31 rfl rfl (Or.inl (by decide)) ?_
  refine wp_sipush dX7_init_32 (by decide +kernel) (by decide) ?_
  refine kn_nI (j := 62) dX7_init_35 (by decide) (by decide +kernel) (by decide) (by decide +kernel) ?_
  refine kn_pR (N := 13) dX7_init_37 pX7_21 rfl (by decide +kernel) (by decide) (by decide) (by decide) (Or.inr ⟨_, rfl⟩) ?_
  refine wp_so (σ' := (KD.take 63, rdL 0 kI_28, rdL 0 kL_2, rdL 1000000 kR_63)) rfl ?_
  refine wp_aload_n dX7_init_40 rfl rfl (Or.inl (by decide)) ?_
  refine wp_sipush dX7_init_41 (by decide +kernel) (by decide) ?_
  refine kn_nI (j := 63) dX7_init_44 (by decide) (by decide +kernel) (by decide) (by decide +kernel) ?_
  refine kn_pR (N := 13) dX7_init_46 pX7_24 rfl (by decide +kernel) (by decide) (by decide) (by decide) (Or.inr ⟨_, rfl⟩) ?_
  refine wp_so (σ' := (KD.take 64, rdL 0 kI_28, rdL 0 kL_2, rdL 1000000 kR_64)) rfl ?_
  refine wp_pc (pc' := 49) rfl ?_
  refine wp_aload_n dX7_init_49 rfl rfl (Or.inl (by decide)) ?_
  refine wp_sipush dX7_init_50 (by decide +kernel) (by decide) ?_
  refine kn_nI (j := 64) dX7_init_53 (by decide) (by decide +kernel) (by decide) (by decide +kernel) ?_
  refine kn_pR (N := 13) dX7_init_55 pX7_27 rfl (by decide +kernel) (by decide) (by decide) (by decide) (Or.inr ⟨_, rfl⟩) ?_
  refine wp_so (σ' := (KD.take 65, rdL 0 kI_28, rdL 0 kL_2, rdL 1000000 kR_65)) rfl ?_
  refine wp_aload_n dX7_init_58 rfl rfl (Or.inl (by decide)) ?_
  refine wp_sipush dX7_init_59 (by decide +kernel) (by decide) ?_
  refine kn_nI (j := 65) dX7_init_62 (by decide) (by decide +kernel) (by decide) (by decide +kernel) ?_
  refine kn_pR (N := 13) dX7_init_64 pX7_30 rfl (by decide +kernel) (by decide) (by decide) (by decide) (Or.inr ⟨_, rfl⟩) ?_
  refine wp_so (σ' := (KD.take 66, rdL 0 kI_28, rdL 0 kL_2, rdL 1000000 kR_66)) rfl ?_
  refine wp_pc (pc' := 67) rfl ?_
  refine wp_aload_n dX7_init_67 rfl rfl (Or.inl (by decide)) ?_
  refine wp_sipush dX7_init_68 (by decide +kernel) (by decide) ?_
  refine kn_nI (j := 66) dX7_init_71 (by decide) (by decide +kernel) (by decide) (by decide +kernel) ?_
  refine kn_pR (N := 13) dX7_init_73 pX7_33 rfl (by decide +kernel) (by decide) (by decide) (by decide) (Or.inr ⟨_, rfl⟩) ?_
  refine wp_so (σ' := (KD.take 67, rdL 0 kI_28, rdL 0 kL_2, rdL 1000000 kR_67)) rfl ?_
  refine wp_aload_n dX7_init_76 rfl rfl (Or.inl (by decide)) ?_
  refine wp_sipush dX7_init_77 (by decide +kernel) (by decide) ?_
  refine kn_nI (j := 67) dX7_init_80 (by decide) (by decide +kernel) (by decide) (by decide +kernel) ?_
  refine kn_pR (N := 13) dX7_init_82 pX7_36 rfl (by decide +kernel) (by decide) (by decide) (by decide) (Or.inr ⟨_, rfl⟩) ?_
  refine wp_so (σ' := (KD.take 68, rdL 0 kI_28, rdL 0 kL_2, rdL 1000000 kR_68)) rfl ?_
  refine wp_pc (pc' := 85) rfl ?_
  refine wp_aload_n dX7_init_85 rfl rfl (Or.inl (by decide)) ?_
  refine wp_sipush dX7_init_86 (by decide +kernel) (by decide) ?_
  refine kn_nI (j := 68) dX7_init_89 (by decide) (by decide +kernel) (by decide) (by decide +kernel) ?_
  refine kn_pR (N := 13) dX7_init_91 pX7_39 rfl (by decide +kernel) (by decide) (by decide) (by decide) (Or.inr ⟨_, rfl⟩) ?_
  refine wp_so (σ' := (KD.take 69, rdL 0 kI_28, rdL 0 kL_2, rdL 1000000 kR_69)) rfl ?_
  refine wp_aload_n dX7_init_94 rfl rfl (Or.inl (by decide)) ?_
  refine wp_sipush dX7_init_95 (by decide +kernel) (by decide) ?_
  refine kn_nI (j := 69) dX7_init_98 (by decide) (by decide +kernel) (by decide) (by decide +kernel) ?_
  refine kn_pR (N := 13) dX7_init_100 pX7_42 rfl (by decide +kernel) (by decide) (by decide) (by decide) (Or.inr ⟨_, rfl⟩) ?_
  refine wp_so (σ' := (KD.take 70, rdL 0 kI_28, rdL 0 kL_2, rdL 1000000 kR_70)) rfl ?_
  refine wp_pc (pc' := 103) rfl ?_
  refine wp_aload_n dX7_init_103 rfl rfl (Or.inl (by decide)) ?_
  refine wp_iconst dX7_init_104 (by decide) ?_
  refine kn_pI (N := 13) dX7_init_105 pX7_45 (by decide +kernel) (by decide) (by decide) ?_
  refine wp_so (σ' := (KD.take 70, rdL 0 kI_29, rdL 0 kL_2, rdL 1000000 kR_70)) rfl ?_
  refine wp_aload_n dX7_init_108 rfl rfl (Or.inl (by decide)) ?_
  refine wp_iconst dX7_init_109 (by decide) ?_
  refine kn_pI (N := 13) dX7_init_110 pX7_49 (by decide +kernel) (by decide) (by decide) ?_
  refine wp_so (σ' := (KD.take 70, rdL 0 kI_30, rdL 0 kL_2, rdL 1000000 kR_70)) rfl ?_
  exact wp_vret dX7_init_113 rfl (fun _ => hQ)
def kR_71 : List (Nat × Nat × Nat × Nat) := (38, 2, 1, 58) :: kR_70
def kR_72 : List (Nat × Nat × Nat × Nat) := (38, 3, 1, 70) :: kR_71
def kR_73 : List (Nat × Nat × Nat × Nat) := (38, 4, 1, 71) :: kR_72
def kR_74 : List (Nat × Nat × Nat × Nat) := (38, 5, 1, 72) :: kR_73
def kR_75 : List (Nat × Nat × Nat × Nat) := (38, 6, 1, 73) :: kR_74
def kR_76 : List (Nat × Nat × Nat × Nat) := (38, 7, 1, 74) :: kR_75
def kR_77 : List (Nat × Nat × Nat × Nat) := (38, 8, 1, 75) :: kR_76
def kR_78 : List (Nat × Nat × Nat × Nat) := (38, 9, 1, 76) :: kR_77
def kR_79 : List (Nat × Nat × Nat × Nat) := (38, 10, 1, 77) :: kR_78
def kR_80 : List (Nat × Nat × Nat × Nat) := (38, 11, 1, 78) :: kR_79
def kR_81 : List (Nat × Nat × Nat × Nat) := (38, 12, 1, 79) :: kR_80
def kR_82 : List (Nat × Nat × Nat × Nat) := (38, 13, 1, 80) :: kR_81
def kI_31 : List (Nat × Nat × Nat × Int) := (38, 14, 1, 0) :: kI_30
def kI_32 : List (Nat × Nat × Nat × Int) := (38, 15, 1, 0) :: kI_31
def kI_33 : List (Nat × Nat × Nat × Int) := (38, 16, 1, 0) :: kI_32
def kI_34 : List (Nat × Nat × Nat × Int) := (38, 17, 1, -1) :: kI_33
def kI_35 : List (Nat × Nat × Nat × Int) := (38, 18, 1, 0) :: kI_34
theorem kc_X3_init_38 {cs : Cs} : Mk cs mX3_init [] 38 39 81 kI_25 kL_2 kR_40 kI_35 kL_2 kR_82 := by
  intro Q hQ
  refine wp_L (L' := [some (vR 38)]) rfl ?_
  refine wp_aload_n dX3_init_0 rfl rfl (Or.inl (by decide)) ?_
  refine wp_objInit dX3_init_1 lX3_3 oi1 oi2 (Or.inl (by decide)) (Nat.le_of_ble_eq_true rfl) (by decide) (by decide) ?_
  refine wp_aload_n dX3_init_4 rfl rfl (Or.inl (by decide)) ?_
  refine kn_new (j := 39) dX3_init_5 nX3_9 (by decide +kernel) (by decide) (by decide +kernel) (by decide +kernel) (by decide +kernel) ?_
  refine wp_dup dX3_init_8 (fun x e => by cases e) ?_
  refine kn_call (mt' := mX5_init) (n := 0) (as := []) (rest := [vR 39, vR 38]) (j' := 47) (il' := kI_27) (ll' := kL_2) (rl' := kR_47) dX3_init_9 lX3_11 kX5_init oX5_init rfl rfl (by decide) (by decide +kernel) rfl (Nat.le_of_ble_eq_true rfl) (by decide) rfl (Nat.le_of_ble_eq_true rfl) (by decide) (by decide) kc_X5_init_39 ?_
  refine wp_pc (pc' := 12) rfl ?_
  refine kn_pR (N := 19) dX3_init_12 pX3_12 rfl (by decide +kernel) (by decide) (by decide) (by decide) (Or.inl ⟨_, rfl⟩) ?_
  refine wp_so (σ' := (KD.take 47, rdL 0 kI_27, rdL 0 kL_2, rdL 1000000 kR_48)) rfl ?_
  refine wp_aload_n dX3_init_15 rfl rfl (Or.inl (by decide)) ?_
  refine kn_new (j := 47) dX3_init_16 nX3_18 (by decide +kernel) (by decide) (by decide +kernel) (by decide +kernel) (by decide +kernel) ?_
  refine wp_dup dX3_init_19 (fun x e => by cases e) ?_
  refine kn_callN (mt' := mX9_init) (n := 0) (as := []) (rest := [vR 47, vR 38]) (j' := 58) (il' := kI_28) (ll' := kL_2) (rl' := kR_58) dX3_init_20 lX3_20 kX9_init oX9_init rfl rfl (by decide) (by decide +kernel) rfl (Nat.le_of_ble_eq_true rfl) (by decide) rfl (Nat.le_of_ble_eq_true rfl) (by decide) (by decide) kc_X9_init_47 ?_
  refine kn_pR (N := 19) dX3_init_23 pX3_21 rfl (by decide +kernel) (by decide) (by decide) (by decide) (Or.inl ⟨_, rfl⟩) ?_
  refine wp_so (σ' := (KD.take 58, rdL 0 kI_28, rdL 0 kL_2, rdL 1000000 kR_59)) rfl ?_
  refine wp_aload_n dX3_init_26 rfl rfl (Or.inl (by decide)) ?_
  refine kn_new (j := 58) dX3_init_27 nX3_25 (by decide +kernel) (by decide) (by decide +kernel) (by decide +kernel) (by decide +kernel) ?_
  refine wp_pc (pc' := 30) rfl ?_
  refine wp_dup dX3_init_30 (fun x e => by cases e) ?_
  refine kn_callN (mt' := mX7_init) (n := 0) (as := []) (rest := [vR 58, vR 38]) (j' := 70) (il' := kI_30) (ll' := kL_2) (rl' := kR_70) dX3_init_31 lX3_27 kX7_init oX7_init rfl rfl (by decide) (by decide +kernel) rfl (Nat.le_of_ble_eq_true rfl) (by decide) rfl (Nat.le_of_ble_eq_true rfl) (by decide) (by decide) kc_X7_init_58 ?_
  refine kn_pR (N := 19) dX3_init_34 pX3_28 rfl (by decide +kernel) (by decide) (by decide) (by decide) (Or.inl ⟨_, rfl⟩) ?_
  refine wp_so (σ' := (KD.take 70, rdL 0 kI_30, rdL 0 kL_2, rdL 1000000 kR_71)) rfl ?_
  refine wp_aload_n dX3_init_37 rfl rfl (Or.inl (by decide)) ?_
  refine wp_sipush dX3_init_38 (by decide +kernel) (by decide) ?_
  refine kn_nI (j := 70) dX3_init_41 (by decide) (by decide +kernel) (by decide) (by decide +kernel) ?_
  refine kn_pR (N := 19) dX3_init_43 pX3_32 rfl (by decide +kernel) (by decide) (by decide) (by decide) (Or.inr ⟨_, rfl⟩) ?_
  refine wp_so (σ' := (KD.take 71, rdL 0 kI_30, rdL 0 kL_2, rdL 1000000 kR_72)) rfl ?_
  refine wp_aload_n dX3_init_46 rfl rfl (Or.inl (by decide)) ?_
  refine wp_pc (pc' := 47) rfl ?_
  refine wp_sipush dX3_init_47 (by decide +kernel) (by decide) ?_
  refine kn_nI (j := 71) dX3_init_50 (by decide) (by decide +kernel) (by decide) (by decide +kernel) ?_
  refine kn_pR (N := 19) dX3_init_52 pX3_36 rfl (by decide +kernel) (by decide) (by decide) (by decide) (Or.inr ⟨_, rfl⟩) ?_
  refine wp_so (σ' := (KD.take 72, rdL 0 kI_30, rdL 0 kL_2, rdL 1000000 kR_73)) rfl ?_
  refine wp_aload_n dX3_init_55 rfl rfl (Or.inl (by decide)) ?_
  refine wp_sipush dX3_init_56 (by decide +kernel) (by decide) ?_
  refine kn_nI (j := 72) dX3_init_59 (by decide) (by decide +kernel) (by decide) (by decide +kernel) ?_
  refine kn_pR (N := 19) dX3_init_61 pX3_39 rfl (by decide +kernel) (by decide) (by decide) (by decide) (Or.inr ⟨_, rfl⟩) ?_
  refine wp_so (σ' := (KD.take 73, rdL 0 kI_30, rdL 0 kL_2, rdL 1000000 kR_74)) rfl ?_
  refine wp_aload_n dX3_init_64 rfl rfl (Or.inl (by decide)) ?_
  refine wp_pc (pc' := 65) rfl ?_
  refine wp_sipush dX3_init_65 (by decide +kernel) (by decide) ?_
  refine kn_nI (j := 73) dX3_init_68 (by decide) (by decide +kernel) (by decide) (by decide +kernel) ?_
  refine kn_pR (N := 19) dX3_init_70 pX3_42 rfl (by decide +kernel) (by decide) (by decide) (by decide) (Or.inr ⟨_, rfl⟩) ?_
  refine wp_so (σ' := (KD.take 74, rdL 0 kI_30, rdL 0 kL_2, rdL 1000000 kR_75)) rfl ?_
  refine wp_aload_n dX3_init_73 rfl rfl (Or.inl (by decide)) ?_
  refine wp_sipush dX3_init_74 (by decide +kernel) (by decide) ?_
  refine kn_nI (j := 74) dX3_init_77 (by decide) (by decide +kernel) (by decide) (by decide +kernel) ?_
  refine kn_pR (N := 19) dX3_init_79 pX3_45 rfl (by decide +kernel) (by decide) (by decide) (by decide) (Or.inr ⟨_, rfl⟩) ?_
  refine wp_so (σ' := (KD.take 75, rdL 0 kI_30, rdL 0 kL_2, rdL 1000000 kR_76)) rfl ?_
  refine wp_aload_n dX3_init_82 rfl rfl (Or.inl (by decide)) ?_
  refine wp_pc (pc' := 83) rfl ?_
  refine wp_sipush dX3_init_83 (by decide +kernel) (by decide) ?_
  refine kn_nI (j := 75) dX3_init_86 (by decide) (by decide +kernel) (by decide) (by decide +kernel) ?_
  refine kn_pR (N := 19) dX3_init_88 pX3_48 rfl (by decide +kernel) (by decide) (by decide) (by decide) (Or.inr ⟨_, rfl⟩) ?_
  refine wp_so (σ' := (KD.take 76, rdL 0 kI_30, rdL 0 kL_2, rdL 1000000 kR_77)) rfl ?_
  refine wp_aload_n dX3_init_91 rfl rfl (Or.inl (by decide)) ?_
  refine wp_sipush dX3_init_92 (by decide +kernel) (by decide) ?_
  refine kn_nI (j := 76) dX3_init_95 (by decide) (by decide +kernel) (by decide) (by decide +kernel) ?_
  refine kn_pR (N := 19) dX3_init_97 pX3_51 rfl (by decide +kernel) (by decide) (by decide) (by decide) (Or.inr ⟨_, rfl⟩) ?_
  refine wp_so (σ' := (KD.take 77, rdL 0 kI_30, rdL 0 kL_2, rdL 1000000 kR_78)) rfl ?_
  refine wp_aload_n dX3_init_100 rfl rfl (Or.inl (by decide)) ?_
  refine wp_pc (pc' := 101) rfl ?_
  refine wp_sipush dX3_init_101 (by decide +kernel) (by decide) ?_
  refine kn_nI (j := 77) dX3_init_104 (by decide) (by decide +kernel) (by decide) (by decide +kernel) ?_
  refine kn_pR (N := 19) dX3_init_106 pX3_54 rfl (by decide +kernel) (by decide) (by decide) (by decide) (Or.inr ⟨_, rfl⟩) ?_
  refine wp_so (σ' := (KD.take 78, rdL 0 kI_30, rdL 0 kL_2, rdL 1000000 kR_79)) rfl ?_
  refine wp_aload_n dX3_init_109 rfl rfl (Or.inl (by decide)) ?_
  refine wp_sipush dX3_init_110 (by decide +kernel) (by decide) ?_
  refine kn_nI (j := 78) dX3_init_113 (by decide) (by decide +kernel) (by decide) (by decide +kernel) ?_
  refine kn_pR (N := 19) dX3_init_115 pX3_57 rfl (by decide +kernel) (by decide) (by decide) (by decide) (Or.inr ⟨_, rfl⟩) ?_
  refine wp_so (σ' := (KD.take 79, rdL 0 kI_30, rdL 0 kL_2, rdL 1000000 kR_80)) rfl ?_
  refine wp_aload_n dX3_init_118 rfl rfl (Or.inl (by decide)) ?_
  refine wp_pc (pc' := 119) rfl ?_
  refine wp_sipush dX3_init_119 (by decide +kernel) (by decide) ?_
  refine kn_nB (j := 79) dX3_init_122 (by decide) (by decide +kernel) (by decide) (by decide +kernel) ?_
  refine kn_pR (N := 19) dX3_init_124 pX3_60 rfl (by decide +kernel) (by decide) (by decide) (by decide) (Or.inr ⟨_, rfl⟩) ?_
  refine wp_so (σ' := (KD.take 80, rdL 0 kI_30, rdL 0 kL_2, rdL 1000000 kR_81)) rfl ?_
  refine wp_aload_n dX3_init_127 rfl rfl (Or.inl (by decide)) ?_
  refine wp_sipush dX3_init_128 (by decide +kernel) (by decide) ?_
  refine kn_nB (j := 80) dX3_init_131 (by decide) (by decide +kernel) (by decide) (by decide +kernel) ?_
  refine kn_pR (N := 19) dX3_init_133 pX3_64 rfl (by decide +kernel) (by decide) (by decide) (by decide) (Or.inr ⟨_, rfl⟩) ?_
  refine wp_so (σ' := (KD.take 81, rdL 0 kI_30, rdL 0 kL_2, rdL 1000000 kR_82)) rfl ?_
  refine wp_aload_n dX3_init_136 rfl rfl (Or.inl (by decide)) ?_
  refine wp_pc (pc' := 137) rfl ?_
  refine wp_iconst dX3_init_137 (by decide) ?_
  refine kn_pI (N := 19) dX3_init_138 pX3_67 (by decide +kernel) (by decide) (by decide) ?_
  refine wp_so (σ' := (KD.take 81, rdL 0 kI_31, rdL 0 kL_2, rdL 1000000 kR_82)) rfl ?_
  refine wp_aload_n dX3_init_141 rfl rfl (Or.inl (by decide)) ?_
  refine wp_iconst dX3_init_142 (by decide) ?_
  refine kn_pI (N := 19) dX3_init_143 pX3_71 (by decide +kernel) (by decide) (by decide) ?_
  refine wp_so (σ' := (KD.take 81, rdL 0 kI_32, rdL 0 kL_2, rdL 1000000 kR_82)) rfl ?_
  refine wp_aload_n dX3_init_146 rfl rfl (Or.inl (by decide)) ?_
  refine wp_iconst dX3_init_147 (by decide) ?_
  refine kn_pI (N := 19) dX3_init_148 pX3_74 (by decide +kernel) (by decide) (by decide) ?_
  refine wp_so (σ' := (KD.take 81, rdL 0 kI_33, rdL 0 kL_2, rdL 1000000 kR_82)) rfl ?_
  refine wp_pc (pc' := 151) rfl ?_
  refine wp_aload_n dX3_init_151 rfl rfl (Or.inl (by decide)) ?_
  refine wp_iconst dX3_init_152 (by decide) ?_
  refine kn_pI (N := 19) dX3_init_153 pX3_77 (by decide +kernel) (by decide) (by decide) ?_
  refine wp_so (σ' := (KD.take 81, rdL 0 kI_34, rdL 0 kL_2, rdL 1000000 kR_82)) rfl ?_
  refine wp_aload_n dX3_init_156 rfl rfl (Or.inl (by decide)) ?_
  refine wp_iconst dX3_init_157 (by decide) ?_
  refine kn_pI (N := 19) dX3_init_158 pX3_80 (by decide +kernel) (by decide) (by decide) ?_
  refine wp_so (σ' := (KD.take 81, rdL 0 kI_35, rdL 0 kL_2, rdL 1000000 kR_82)) rfl ?_
  exact wp_vret dX3_init_161 rfl (fun _ => hQ)
def kR_83 : List (Nat × Nat × Nat × Nat) := (0, 8, 1, 38) :: kR_82
def kR_84 : List (Nat × Nat × Nat × Nat) := (82, 0, 1, 83) :: kR_83
def kR_85 : List (Nat × Nat × Nat × Nat) := (82, 1, 1, 84) :: kR_84
def kR_86 : List (Nat × Nat × Nat × Nat) := (82, 2, 1, 85) :: kR_85
def kR_87 : List (Nat × Nat × Nat × Nat) := (82, 3, 1, 86) :: kR_86
def kR_88 : List (Nat × Nat × Nat × Nat) := (82, 4, 1, 87) :: kR_87
def kR_89 : List (Nat × Nat × Nat × Nat) := (82, 5, 1, 88) :: kR_88
def kR_90 : List (Nat × Nat × Nat × Nat) := (82, 6, 1, 89) :: kR_89
def kI_36 : List (Nat × Nat × Nat × Int) := (82, 7, 1, 0) :: kI_35
def kI_37 : List (Nat × Nat × Nat × Int) := (89, 0, 256, -1) :: kI_36
theorem kc_X5_init_82 {cs : Cs} : Mk cs mX5_init [] 82 83 90 kI_35 kL_2 kR_83 kI_37 kL_2 kR_90 := by
  intro Q hQ
  refine wp_L (L' := [some (vR 82)]) rfl ?_
  refine wp_aload_n dX5_init_0 rfl rfl (Or.inl (by decide)) ?_
  refine wp_objInit dX5_init_1 lX5_3 oi1 oi2 (Or.inl (by decide)) (Nat.le_of_ble_eq_true rfl) (by decide) (by decide) ?_
  refine wp_aload_n dX5_init_4 rfl rfl (Or.inl (by decide)) ?_
  refine wp_sipush dX5_init_5 (by decide +kernel) (by decide) ?_
  refine kn_nB (j := 83) dX5_init_8 (by decide) (by decide +kernel) (by decide) (by decide +kernel) ?_
  refine kn_pR (N := 8) dX5_init_10 pX5_9 rfl (by decide +kernel) (by decide) (by decide) (by decide) (Or.inr ⟨_, rfl⟩) ?_
  refine wp_so (σ' := (KD.take 84, rdL 0 kI_35, rdL 0 kL_2, rdL 1000000 kR_84)) rfl ?_
  refine wp_pc (pc' := 13) rfl ?_
  refine wp_aload_n dX5_init_13 rfl rfl (Or.inl (by decide)) ?_
  refine wp_sipush dX5_init_14 (by decide +kernel) (by decide) ?_
  refine kn_nI (j := 84) dX5_init_17 (by decide) (by decide +kernel) (by decide) (by decide +kernel) ?_
  refine kn_pR (N := 8) dX5_init_19 pX5_15 rfl (by decide +kernel) (by decide) (by decide) (by decide) (Or.inr ⟨_, rfl⟩) ?_
  refine wp_so (σ' := (KD.take 85, rdL 0 kI_35, rdL 0 kL_2, rdL 1000000 kR_85)) rfl ?_
  refine wp_aload_n dX5_init_22 rfl rfl (Or.inl (by decide)) ?_
  refine wp_sipush dX5_init_23 (by decide +kernel) (by decide) ?_
  refine kn_nI (j := 85) dX5_init_26 (by decide) (by decide +kernel) (by decide) (by decide +kernel) ?_
  refine kn_pR (N := 8) dX5_init_28 pX5_19 rfl (by decide +kernel) (by decide) (by decide) (by decide) (Or.inr ⟨_, rfl⟩) ?_
  refine wp_so (σ' := (KD.take 86, rdL 0 kI_35, rdL 0 kL_2, rdL 1000000 kR_86)) rfl ?_
  refine wp_pc (pc' := 31) rfl ?_
  refine wp_aload_n dX5_init_31 rfl rfl (Or.inl (by decide)) ?_
  refine wp_sipush dX5_init_32 (by decide +kernel) (by decide) ?_
  refine kn_nI (j := 86) dX5_init_35 (by decide) (by decide +kernel) (by decide) (by decide +kernel) ?_
  refine kn_pR (N := 8) dX5_init_37 pX5_22 rfl (by decide +kernel) (by decide) (by decide) (by decide) (Or.inr ⟨_, rfl⟩) ?_
  refine wp_so (σ' := (KD.take 87, rdL 0 kI_35, rdL 0 kL_2, rdL 1000000 kR_87)) rfl ?_
  refine wp_aload_n dX5_init_40 rfl rfl (Or.inl (by decide)) ?_
  refine wp_sipush dX5_init_41 (by decide +kernel) (by decide) ?_
  refine kn_nI (j := 87) dX5_init_44 (by decide) (by decide +kernel) (by decide) (by decide +kernel) ?_
  refine kn_pR (N := 8) dX5_init_46 pX5_25 rfl (by decide +kernel) (by decide) (by decide) (by decide) (Or.inr ⟨_, rfl⟩) ?_
  refine wp_so (σ' := (KD.take 88, rdL 0 kI_35, rdL 0 kL_2, rdL 1000000 kR_88)) rfl ?_
  refine wp_pc (pc' := 49) rfl ?_
  refine wp_aload_n dX5_init_49 rfl rfl (Or.inl (by decide)) ?_
  refine wp_sipush dX5_init_50 (by decide +kernel) (by decide) ?_
  refine kn_nI (j := 88) dX5_init_53 (by decide) (by decide +kernel) (by decide) (by decide +kernel) ?_
  refine kn_pR (N := 8) dX5_init_55 pX5_28 rfl (by decide +kernel) (by decide) (by decide) (by decide) (Or.inr ⟨_, rfl⟩) ?_
  refine wp_so (σ' := (KD.take 89, rdL 0 kI_35, rdL 0 kL_2, rdL 1000000 kR_89)) rfl ?_
  refine wp_aload_n dX5_init_58 rfl rfl (Or.inl (by decide)) ?_
  refine wp_sipush dX5_init_59 (by decide +kernel) (by decide) ?_
  refine kn_nI (j := 89) dX5_init_62 (by decide) (by decide +kernel) (by decide) (by decide +kernel) ?_
  refine kn_pR (N := 8) dX5_init_64 pX5_31 rfl (by decide +kernel) (by decide) (by decide) (by decide) (Or.inr ⟨_, rfl⟩) ?_
  refine wp_so (σ' := (KD.take 90, rdL 0 kI_35, rdL 0 kL_2, rdL 1000000 kR_90)) rfl ?_
  refine wp_pc (pc' := 67) rfl ?_
  refine wp_aload_n dX5_init_67 rfl rfl (Or.inl (by decide)) ?_
  refine wp_iconst dX5_init_68 (by decide) ?_
  refine kn_pI (N := 8) dX5_init_69 pX5_34 (by decide +kernel) (by decide) (by decide) ?_
  refine wp_so (σ' := (KD.take 90, rdL 0 kI_36, rdL 0 kL_2, rdL 1000000 kR_90)) rfl ?_
  refine wp_aload_n dX5_init_72 rfl rfl (Or.inl (by decide)) ?_
  refine kn_gR (N := 8) (v := 89) dX5_init_73 fX5_31 (by decide +kernel) (by decide) (by decide) (by decide +kernel) ?_
  refine wp_iconst dX5_init_76 (by decide) ?_
  refine wp_callS (n := 2) (mt' := mJ7_fill_53178) (as := [vR 89, vI (-1)]) (rest := []) (k1 := KD.take 90) (Q' := fun r M => r = none ∧ M = (rdL 0 kI_37, rdL 0 kL_2, rdL 1000000 kR_90)) dX5_init_77 lX5_38 kJ7_fill_53178 vJ7_fill_53178 (by decide) (by decide +kernel) rfl (Nat.le_of_ble_eq_true rfl) rfl (Nat.le_of_ble_eq_true rfl) (kle (by decide)) (kle (by decide)) (w_fillIk (n := 256) (ktg (by decide +kernel) (by decide)) (by decide) (by decide) ⟨rfl, by rw [rdL_fl]; rfl⟩) (fun r M' hq hM => ?_)
  obtain ⟨rfl, rfl⟩ := hq
  refine wp_so (σ' := (KD.take 90, rdL 0 kI_37, rdL 0 kL_2, rdL 1000000 kR_90)) rfl ?_
  exact wp_vret dX5_init_80 rfl (fun _ => hQ)
def kR_91 : List (Nat × Nat × Nat × Nat) := (81, 0, 1, 82) :: kR_90
def kR_92 : List (Nat × Nat × Nat × Nat) := (90, 0, 1, 91) :: kR_91
def kR_93 : List (Nat × Nat × Nat × Nat) := (90, 1, 1, 92) :: kR_92
def kR_94 : List (Nat × Nat × Nat × Nat) := (90, 2, 1, 93) :: kR_93
def kR_95 : List (Nat × Nat × Nat × Nat) := (90, 3, 1, 94) :: kR_94
def kR_96 : List (Nat × Nat × Nat × Nat) := (90, 4, 1, 95) :: kR_95
def kR_97 : List (Nat × Nat × Nat × Nat) := (90, 5, 1, 96) :: kR_96
def kR_98 : List (Nat × Nat × Nat × Nat) := (90, 6, 1, 97) :: kR_97
def kR_99 : List (Nat × Nat × Nat × Nat) := (90, 7, 1, 98) :: kR_98
def kR_100 : List (Nat × Nat × Nat × Nat) := (90, 8, 1, 99) :: kR_99
def kR_101 : List (Nat × Nat × Nat × Nat) := (90, 9, 1, 100) :: kR_100
def kI_38 : List (Nat × Nat × Nat × Int) := (90, 10, 1, 0) :: kI_37
theorem kc_X9_init_90 {cs : Cs} : Mk cs mX9_init [] 90 91 101 kI_37 kL_2 kR_91 kI_38 kL_2 kR_101 := by
  intro Q hQ
  refine wp_L (L' := [some (vR 90)]) rfl ?_
  refine wp_aload_n dX9_init_0 rfl rfl (Or.inl (by decide)) ?_
  refine wp_objInit dX9_init_1 lX9_3 oi1 oi2 (Or.inl (by decide)) (Nat.le_of_ble_eq_true rfl) (by decide) (by decide) ?_
  refine wp_aload_n dX9_init_4 rfl rfl (Or.inl (by decide)) ?_
  refine wp_bipush dX9_init_5 (by decide +kernel) (by decide) ?_
  refine kn_nI (j := 91) dX9_init_7 (by decide) (by decide +kernel) (by decide) (by decide +kernel) ?_
  refine kn_pR (N := 11) dX9_init_9 pX9_11 rfl (by decide +kernel) (by decide) (by decide) (by decide) (Or.inr ⟨_, rfl⟩) ?_
  refine wp_so (σ' := (KD.take 92, rdL 0 kI_37, rdL 0 kL_2, rdL 1000000 kR_92)) rfl ?_
  refine wp_pc (pc' := 12) rfl ?_
  refine wp_aload_n dX9_init_12 rfl rfl (Or.inl (by decide)) ?_
  refine wp_bipush dX9_init_13 (by decide +kernel) (by decide) ?_
  refine kn_nI (j := 92) dX9_init_15 (by decide) (by decide +kernel) (by decide) (by decide +kernel) ?_
  refine kn_pR (N := 11) dX9_init_17 pX9_15 rfl (by decide +kernel) (by decide) (by decide) (by decide) (Or.inr ⟨_, rfl⟩) ?_
  refine wp_so (σ' := (KD.take 93, rdL 0 kI_37, rdL 0 kL_2, rdL 1000000 kR_93)) rfl ?_
  refine wp_aload_n dX9_init_20 rfl rfl (Or.inl (by decide)) ?_
  refine wp_bipush dX9_init_21 (by decide +kernel) (by decide) ?_
  refine kn_nI (j := 93) dX9_init_23 (by decide) (by decide +kernel) (by decide) (by decide +kernel) ?_
  refine kn_pR (N := 11) dX9_init_25 pX9_18 rfl (by decide +kernel) (by decide) (by decide) (by decide) (Or.inr ⟨_, rfl⟩) ?_
  refine wp_so (σ' := (KD.take 94, rdL 0 kI_37, rdL 0 kL_2, rdL 1000000 kR_94)) rfl ?_
  refine wp_pc (pc' := 28) rfl ?_
  refine wp_aload_n dX9_init_28 rfl rfl (Or.inl (by decide)) ?_
  refine wp_bipush dX9_init_29 (by decide +kernel) (by decide) ?_
  refine kn_nI (j := 94) dX9_init_31 (by decide) (by decide +kernel) (by decide) (by decide +kernel) ?_
  refine kn_pR (N := 11) dX9_init_33 pX9_21 rfl (by decide +kernel) (by decide) (by decide) (by decide) (Or.inr ⟨_, rfl⟩) ?_
  refine wp_so (σ' := (KD.take 95, rdL 0 kI_37, rdL 0 kL_2, rdL 1000000 kR_95)) rfl ?_
  refine wp_aload_n dX9_init_36 rfl rfl (Or.inl (by decide)) ?_
  refine wp_sipush dX9_init_37 (by decide +kernel) (by decide) ?_
  refine kn_nI (j := 95) dX9_init_40 (by decide) (by decide +kernel) (by decide) (by decide +kernel) ?_
  refine kn_pR (N := 11) dX9_init_42 pX9_24 rfl (by decide +kernel) (by decide) (by decide) (by decide) (Or.inr ⟨_, rfl⟩) ?_
  refine wp_so (σ' := (KD.take 96, rdL 0 kI_37, rdL 0 kL_2, rdL 1000000 kR_96)) rfl ?_
  refine wp_pc (pc' := 45) rfl ?_
  refine wp_aload_n dX9_init_45 rfl rfl (Or.inl (by decide)) ?_
  refine wp_sipush dX9_init_46 (by decide +kernel) (by decide) ?_
  refine kn_nJ (j := 96) dX9_init_49 (by decide) (by decide +kernel) (by decide) (by decide +kernel) ?_
  refine kn_pR (N := 11) dX9_init_51 pX9_27 rfl (by decide +kernel) (by decide) (by decide) (by decide) (Or.inr ⟨_, rfl⟩) ?_
  refine wp_so (σ' := (KD.take 97, rdL 0 kI_37, rdL 0 kL_2, rdL 1000000 kR_97)) rfl ?_
  refine wp_aload_n dX9_init_54 rfl rfl (Or.inl (by decide)) ?_
  refine wp_sipush dX9_init_55 (by decide +kernel) (by decide) ?_
  refine kn_nJ (j := 97) dX9_init_58 (by decide) (by decide +kernel) (by decide) (by decide +kernel) ?_
  refine kn_pR (N := 11) dX9_init_60 pX9_31 rfl (by decide +kernel) (by decide) (by decide) (by decide) (Or.inr ⟨_, rfl⟩) ?_
  refine wp_so (σ' := (KD.take 98, rdL 0 kI_37, rdL 0 kL_2, rdL 1000000 kR_98)) rfl ?_
  refine wp_pc (pc' := 63) rfl ?_
  refine wp_aload_n dX9_init_63 rfl rfl (Or.inl (by decide)) ?_
  refine wp_bipush dX9_init_64 (by decide +kernel) (by decide) ?_
  refine kn_nJ (j := 98) dX9_init_66 (by decide) (by decide +kernel) (by decide) (by decide +kernel) ?_
  refine kn_pR (N := 11) dX9_init_68 pX9_34 rfl (by decide +kernel) (by decide) (by decide) (by decide) (Or.inr ⟨_, rfl⟩) ?_
  refine wp_so (σ' := (KD.take 99, rdL 0 kI_37, rdL 0 kL_2, rdL 1000000 kR_99)) rfl ?_
  refine wp_aload_n dX9_init_71 rfl rfl (Or.inl (by decide)) ?_
  refine wp_bipush dX9_init_72 (by decide +kernel) (by decide) ?_
  refine kn_nJ (j := 99) dX9_init_74 (by decide) (by decide +kernel) (by decide) (by decide +kernel) ?_
  refine kn_pR (N := 11) dX9_init_76 pX9_37 rfl (by decide +kernel) (by decide) (by decide) (by decide) (Or.inr ⟨_, rfl⟩) ?_
  refine wp_so (σ' := (KD.take 100, rdL 0 kI_37, rdL 0 kL_2, rdL 1000000 kR_100)) rfl ?_
  refine wp_pc (pc' := 79) rfl ?_
  refine wp_aload_n dX9_init_79 rfl rfl (Or.inl (by decide)) ?_
  refine wp_bipush dX9_init_80 (by decide +kernel) (by decide) ?_
  refine kn_nB (j := 100) dX9_init_82 (by decide) (by decide +kernel) (by decide) (by decide +kernel) ?_
  refine kn_pR (N := 11) dX9_init_84 pX9_40 rfl (by decide +kernel) (by decide) (by decide) (by decide) (Or.inr ⟨_, rfl⟩) ?_
  refine wp_so (σ' := (KD.take 101, rdL 0 kI_37, rdL 0 kL_2, rdL 1000000 kR_101)) rfl ?_
  refine wp_aload_n dX9_init_87 rfl rfl (Or.inl (by decide)) ?_
  refine wp_iconst dX9_init_88 (by decide) ?_
  refine kn_pI (N := 11) dX9_init_89 pX9_44 (by decide +kernel) (by decide) (by decide) ?_
  refine wp_so (σ' := (KD.take 101, rdL 0 kI_38, rdL 0 kL_2, rdL 1000000 kR_101)) rfl ?_
  exact wp_vret dX9_init_92 rfl (fun _ => hQ)
def kR_102 : List (Nat × Nat × Nat × Nat) := (81, 1, 1, 90) :: kR_101
def kR_103 : List (Nat × Nat × Nat × Nat) := (101, 0, 1, 102) :: kR_102
def kR_104 : List (Nat × Nat × Nat × Nat) := (101, 1, 1, 103) :: kR_103
def kR_105 : List (Nat × Nat × Nat × Nat) := (101, 2, 1, 104) :: kR_104
def kR_106 : List (Nat × Nat × Nat × Nat) := (101, 3, 1, 105) :: kR_105
def kR_107 : List (Nat × Nat × Nat × Nat) := (101, 4, 1, 106) :: kR_106
def kR_108 : List (Nat × Nat × Nat × Nat) := (101, 5, 1, 107) :: kR_107
def kR_109 : List (Nat × Nat × Nat × Nat) := (101, 6, 1, 108) :: kR_108
def kR_110 : List (Nat × Nat × Nat × Nat) := (101, 7, 1, 109) :: kR_109
def kR_111 : List (Nat × Nat × Nat × Nat) := (101, 8, 1, 110) :: kR_110
def kR_112 : List (Nat × Nat × Nat × Nat) := (101, 9, 1, 111) :: kR_111
def kR_113 : List (Nat × Nat × Nat × Nat) := (101, 10, 1, 112) :: kR_112
def kI_39 : List (Nat × Nat × Nat × Int) := (101, 11, 1, 0) :: kI_38
def kI_40 : List (Nat × Nat × Nat × Int) := (101, 12, 1, 0) :: kI_39
theorem kc_X7_init_101 {cs : Cs} : Mk cs mX7_init [] 101 102 113 kI_38 kL_2 kR_102 kI_40 kL_2 kR_113 := by
  intro Q hQ
  refine wp_L (L' := [some (vR 101)]) rfl ?_
  refine wp_aload_n dX7_init_0 rfl rfl (Or.inl (by decide)) ?_
  refine wp_objInit dX7_init_1 lX7_3 oi1 oi2 (Or.inl (by decide)) (Nat.le_of_ble_eq_true rfl) (by decide) (by decide) ?_
  refine wp_aload_n dX7_init_4 rfl rfl (Or.inl (by decide)) ?_
  refine wp_sipush dX7_init_5 (by decide +kernel) (by decide) ?_
  refine kn_nI (j := 102) dX7_init_8 (by decide) (by decide +kernel) (by decide) (by decide +kernel) ?_
  refine kn_pR (N := 13) dX7_init_10 pX7_11 rfl (by decide +kernel) (by decide) (by decide) (by decide) (Or.inr ⟨_, rfl⟩) ?_
  refine wp_so (σ' := (KD.take 103, rdL 0 kI_38, rdL 0 kL_2, rdL 1000000 kR_103)) rfl ?_
  refine wp_pc (pc' := 13) rfl ?_
  refine wp_aload_n dX7_init_13 rfl rfl (Or.inl (by decide)) ?_
  refine wp_sipush dX7_init_14 (by decide +kernel) (by decide) ?_
  refine kn_nI (j := 103) dX7_init_17 (by decide) (by decide +kernel) (by decide) (by decide +kernel) ?_
  refine kn_pR (N := 13) dX7_init_19 pX7_15 rfl (by decide +kernel) (by decide) (by decide) (by decide) (Or.inr ⟨_, rfl⟩) ?_
  refine wp_so (σ' := (KD.take 104, rdL 0 kI_38, rdL 0 kL_2, rdL 1000000 kR_104)) rfl ?_
  refine wp_aload_n dX7_init_22 rfl rfl (Or.inl (by decide)) ?_
  refine wp_sipush dX7_init_23 (by decide +kernel) (by decide) ?_
  refine kn_nI (j := 104) dX7_init_26 (by decide) (by decide +kernel) (by decide) (by decide +kernel) ?_
  refine kn_pR (N := 13) dX7_init_28 pX7_18 rfl (by decide +kernel) (by decide) (by decide) (by decide) (Or.inr ⟨_, rfl⟩) ?_
  refine wp_so (σ' := (KD.take 105, rdL 0 kI_38, rdL 0 kL_2, rdL 1000000 kR_105)) rfl ?_
  refine wp_pc (pc' := 31) rfl ?_
  refine wp_aload_n dX7_init_31 rfl rfl (Or.inl (by decide)) ?_
  refine wp_sipush dX7_init_32 (by decide +kernel) (by decide) ?_
  refine kn_nI (j := 105) dX7_init_35 (by decide) (by decide +kernel) (by decide) (by decide +kernel) ?_
  refine kn_pR (N := 13) dX7_init_37 pX7_21 rfl (by decide +kernel) (by decide) (by decide) (by decide) (Or.inr ⟨_, rfl⟩) ?_
  refine wp_so (σ' := (KD.take 106, rdL 0 kI_38, rdL 0 kL_2, rdL 1000000 kR_106)) rfl ?_
  refine wp_aload_n dX7_init_40 rfl rfl (Or.inl (by decide)) ?_
  refine wp_sipush dX7_init_41 (by decide +kernel) (by decide) ?_
  refine kn_nI (j := 106) dX7_init_44 (by decide) (by decide +kernel) (by decide) (by decide +kernel) ?_
  refine kn_pR (N := 13) dX7_init_46 pX7_24 rfl (by decide +kernel) (by decide) (by decide) (by decide) (Or.inr ⟨_, rfl⟩) ?_
  refine wp_so (σ' := (KD.take 107, rdL 0 kI_38, rdL 0 kL_2, rdL 1000000 kR_107)) rfl ?_
  refine wp_pc (pc' := 49) rfl ?_
  refine wp_aload_n dX7_init_49 rfl rfl (Or.inl (by decide)) ?_
  refine wp_sipush dX7_init_50 (by decide +kernel) (by decide) ?_
  refine kn_nI (j := 107) dX7_init_53 (by decide) (by decide +kernel) (by decide) (by decide +kernel) ?_
  refine kn_pR (N := 13) dX7_init_55 pX7_27 rfl (by decide +kernel) (by decide) (by decide) (by decide) (Or.inr ⟨_, rfl⟩) ?_
  refine wp_so (σ' := (KD.take 108, rdL 0 kI_38, rdL 0 kL_2, rdL 1000000 kR_108)) rfl ?_
  refine wp_aload_n dX7_init_58 rfl rfl (Or.inl (by decide)) ?_
  refine wp_sipush dX7_init_59 (by decide +kernel) (by decide) ?_
  refine kn_nI (j := 108) dX7_init_62 (by decide) (by decide +kernel) (by decide) (by decide +kernel) ?_
  refine kn_pR (N := 13) dX7_init_64 pX7_30 rfl (by decide +kernel) (by decide) (by decide) (by decide) (Or.inr ⟨_, rfl⟩) ?_
  refine wp_so (σ' := (KD.take 109, rdL 0 kI_38, rdL 0 kL_2, rdL 1000000 kR_109)) rfl ?_
  refine wp_pc (pc' := 67) rfl ?_
  refine wp_aload_n dX7_init_67 rfl rfl (Or.inl (by decide)) ?_
  refine wp_sipush dX7_init_68 (by decide +kernel) (by decide) ?_
  refine kn_nI (j := 109) dX7_init_71 (by decide) (by decide +kernel) (by decide) (by decide +kernel) ?_
  refine kn_pR (N := 13) dX7_init_73 pX7_33 rfl (by decide +kernel) (by decide) (by decide) (by decide) (Or.inr ⟨_, rfl⟩) ?_
  refine wp_so (σ' := (KD.take 110, rdL 0 kI_38, rdL 0 kL_2, rdL 1000000 kR_110)) rfl ?_
  refine wp_aload_n dX7_init_76 rfl rfl (Or.inl (by decide)) ?_
  refine wp_sipush dX7_init_77 (by decide +kernel) (by decide) ?_
  refine kn_nI (j := 110) dX7_init_80 (by decide) (by decide +kernel) (by decide) (by decide +kernel) ?_
  refine kn_pR (N := 13) dX7_init_82 pX7_36 rfl (by decide +kernel) (by decide) (by decide) (by decide) (Or.inr ⟨_, rfl⟩) ?_
  refine wp_so (σ' := (KD.take 111, rdL 0 kI_38, rdL 0 kL_2, rdL 1000000 kR_111)) rfl ?_
  refine wp_pc (pc' := 85) rfl ?_
  refine wp_aload_n dX7_init_85 rfl rfl (Or.inl (by decide)) ?_
  refine wp_sipush dX7_init_86 (by decide +kernel) (by decide) ?_
  refine kn_nI (j := 111) dX7_init_89 (by decide) (by decide +kernel) (by decide) (by decide +kernel) ?_
  refine kn_pR (N := 13) dX7_init_91 pX7_39 rfl (by decide +kernel) (by decide) (by decide) (by decide) (Or.inr ⟨_, rfl⟩) ?_
  refine wp_so (σ' := (KD.take 112, rdL 0 kI_38, rdL 0 kL_2, rdL 1000000 kR_112)) rfl ?_
  refine wp_aload_n dX7_init_94 rfl rfl (Or.inl (by decide)) ?_
  refine wp_sipush dX7_init_95 (by decide +kernel) (by decide) ?_
  refine kn_nI (j := 112) dX7_init_98 (by decide) (by decide +kernel) (by decide) (by decide +kernel) ?_
  refine kn_pR (N := 13) dX7_init_100 pX7_42 rfl (by decide +kernel) (by decide) (by decide) (by decide) (Or.inr ⟨_, rfl⟩) ?_
  refine wp_so (σ' := (KD.take 113, rdL 0 kI_38, rdL 0 kL_2, rdL 1000000 kR_113)) rfl ?_
  refine wp_pc (pc' := 103) rfl ?_
  refine wp_aload_n dX7_init_103 rfl rfl (Or.inl (by decide)) ?_
  refine wp_iconst dX7_init_104 (by decide) ?_
  refine kn_pI (N := 13) dX7_init_105 pX7_45 (by decide +kernel) (by decide) (by decide) ?_
  refine wp_so (σ' := (KD.take 113, rdL 0 kI_39, rdL 0 kL_2, rdL 1000000 kR_113)) rfl ?_
  refine wp_aload_n dX7_init_108 rfl rfl (Or.inl (by decide)) ?_
  refine wp_iconst dX7_init_109 (by decide) ?_
  refine kn_pI (N := 13) dX7_init_110 pX7_49 (by decide +kernel) (by decide) (by decide) ?_
  refine wp_so (σ' := (KD.take 113, rdL 0 kI_40, rdL 0 kL_2, rdL 1000000 kR_113)) rfl ?_
  exact wp_vret dX7_init_113 rfl (fun _ => hQ)
def kR_114 : List (Nat × Nat × Nat × Nat) := (81, 2, 1, 101) :: kR_113
def kR_115 : List (Nat × Nat × Nat × Nat) := (81, 3, 1, 113) :: kR_114
def kR_116 : List (Nat × Nat × Nat × Nat) := (81, 4, 1, 114) :: kR_115
def kR_117 : List (Nat × Nat × Nat × Nat) := (81, 5, 1, 115) :: kR_116
def kR_118 : List (Nat × Nat × Nat × Nat) := (81, 6, 1, 116) :: kR_117
def kR_119 : List (Nat × Nat × Nat × Nat) := (81, 7, 1, 117) :: kR_118
def kR_120 : List (Nat × Nat × Nat × Nat) := (81, 8, 1, 118) :: kR_119
def kR_121 : List (Nat × Nat × Nat × Nat) := (81, 9, 1, 119) :: kR_120
def kR_122 : List (Nat × Nat × Nat × Nat) := (81, 10, 1, 120) :: kR_121
def kR_123 : List (Nat × Nat × Nat × Nat) := (81, 11, 1, 121) :: kR_122
def kR_124 : List (Nat × Nat × Nat × Nat) := (81, 12, 1, 122) :: kR_123
def kR_125 : List (Nat × Nat × Nat × Nat) := (81, 13, 1, 123) :: kR_124
def kI_41 : List (Nat × Nat × Nat × Int) := (81, 14, 1, 0) :: kI_40
def kI_42 : List (Nat × Nat × Nat × Int) := (81, 15, 1, 0) :: kI_41
def kI_43 : List (Nat × Nat × Nat × Int) := (81, 16, 1, 0) :: kI_42
def kI_44 : List (Nat × Nat × Nat × Int) := (81, 17, 1, -1) :: kI_43
def kI_45 : List (Nat × Nat × Nat × Int) := (81, 18, 1, 0) :: kI_44
theorem kc_X3_init_81 {cs : Cs} : Mk cs mX3_init [] 81 82 124 kI_35 kL_2 kR_83 kI_45 kL_2 kR_125 := by
  intro Q hQ
  refine wp_L (L' := [some (vR 81)]) rfl ?_
  refine wp_aload_n dX3_init_0 rfl rfl (Or.inl (by decide)) ?_
  refine wp_objInit dX3_init_1 lX3_3 oi1 oi2 (Or.inl (by decide)) (Nat.le_of_ble_eq_true rfl) (by decide) (by decide) ?_
  refine wp_aload_n dX3_init_4 rfl rfl (Or.inl (by decide)) ?_
  refine kn_new (j := 82) dX3_init_5 nX3_9 (by decide +kernel) (by decide) (by decide +kernel) (by decide +kernel) (by decide +kernel) ?_
  refine wp_dup dX3_init_8 (fun x e => by cases e) ?_
  refine kn_call (mt' := mX5_init) (n := 0) (as := []) (rest := [vR 82, vR 81]) (j' := 90) (il' := kI_37) (ll' := kL_2) (rl' := kR_90) dX3_init_9 lX3_11 kX5_init oX5_init rfl rfl (by decide) (by decide +kernel) rfl (Nat.le_of_ble_eq_true rfl) (by decide) rfl (Nat.le_of_ble_eq_true rfl) (by decide) (by decide) kc_X5_init_82 ?_
  refine wp_pc (pc' := 12) rfl ?_
  refine kn_pR (N := 19) dX3_init_12 pX3_12 rfl (by decide +kernel) (by decide) (by decide) (by decide) (Or.inl ⟨_, rfl⟩) ?_
  refine wp_so (σ' := (KD.take 90, rdL 0 kI_37, rdL 0 kL_2, rdL 1000000 kR_91)) rfl ?_
  refine wp_aload_n dX3_init_15 rfl rfl (Or.inl (by decide)) ?_
  refine kn_new (j := 90) dX3_init_16 nX3_18 (by decide +kernel) (by decide) (by decide +kernel) (by decide +kernel) (by decide +kernel) ?_
  refine wp_dup dX3_init_19 (fun x e => by cases e) ?_
  refine kn_callN (mt' := mX9_init) (n := 0) (as := []) (rest := [vR 90, vR 81]) (j' := 101) (il' := kI_38) (ll' := kL_2) (rl' := kR_101) dX3_init_20 lX3_20 kX9_init oX9_init rfl rfl (by decide) (by decide +kernel) rfl (Nat.le_of_ble_eq_true rfl) (by decide) rfl (Nat.le_of_ble_eq_true rfl) (by decide) (by decide) kc_X9_init_90 ?_
  refine kn_pR (N := 19) dX3_init_23 pX3_21 rfl (by decide +kernel) (by decide) (by decide) (by decide) (Or.inl ⟨_, rfl⟩) ?_
  refine wp_so (σ' := (KD.take 101, rdL 0 kI_38, rdL 0 kL_2, rdL 1000000 kR_102)) rfl ?_
  refine wp_aload_n dX3_init_26 rfl rfl (Or.inl (by decide)) ?_
  refine kn_new (j := 101) dX3_init_27 nX3_25 (by decide +kernel) (by decide) (by decide +kernel) (by decide +kernel) (by decide +kernel) ?_
  refine wp_pc (pc' := 30) rfl ?_
  refine wp_dup dX3_init_30 (fun x e => by cases e) ?_
  refine kn_callN (mt' := mX7_init) (n := 0) (as := []) (rest := [vR 101, vR 81]) (j' := 113) (il' := kI_40) (ll' := kL_2) (rl' := kR_113) dX3_init_31 lX3_27 kX7_init oX7_init rfl rfl (by decide) (by decide +kernel) rfl (Nat.le_of_ble_eq_true rfl) (by decide) rfl (Nat.le_of_ble_eq_true rfl) (by decide) (by decide) kc_X7_init_101 ?_
  refine kn_pR (N := 19) dX3_init_34 pX3_28 rfl (by decide +kernel) (by decide) (by decide) (by decide) (Or.inl ⟨_, rfl⟩) ?_
  refine wp_so (σ' := (KD.take 113, rdL 0 kI_40, rdL 0 kL_2, rdL 1000000 kR_114)) rfl ?_
  refine wp_aload_n dX3_init_37 rfl rfl (Or.inl (by decide)) ?_
  refine wp_sipush dX3_init_38 (by decide +kernel) (by decide) ?_
  refine kn_nI (j := 113) dX3_init_41 (by decide) (by decide +kernel) (by decide) (by decide +kernel) ?_
  refine kn_pR (N := 19) dX3_init_43 pX3_32 rfl (by decide +kernel) (by decide) (by decide) (by decide) (Or.inr ⟨_, rfl⟩) ?_
  refine wp_so (σ' := (KD.take 114, rdL 0 kI_40, rdL 0 kL_2, rdL 1000000 kR_115)) rfl ?_
  refine wp_aload_n dX3_init_46 rfl rfl (Or.inl (by decide)) ?_
  refine wp_pc (pc' := 47) rfl ?_
  refine wp_sipush dX3_init_47 (by decide +kernel) (by decide) ?_
  refine kn_nI (j := 114) dX3_init_50 (by decide) (by decide +kernel) (by decide) (by decide +kernel) ?_
  refine kn_pR (N := 19) dX3_init_52 pX3_36 rfl (by decide +kernel) (by decide) (by decide) (by decide) (Or.inr ⟨_, rfl⟩) ?_
  refine wp_so (σ' := (KD.take 115, rdL 0 kI_40, rdL 0 kL_2, rdL 1000000 kR_116)) rfl ?_
  refine wp_aload_n dX3_init_55 rfl rfl (Or.inl (by decide)) ?_
  refine wp_sipush dX3_init_56 (by decide +kernel) (by decide) ?_
  refine kn_nI (j := 115) dX3_init_59 (by decide) (by decide +kernel) (by decide) (by decide +kernel) ?_
  refine kn_pR (N := 19) dX3_init_61 pX3_39 rfl (by decide +kernel) (by decide) (by decide) (by decide) (Or.inr ⟨_, rfl⟩) ?_
  refine wp_so (σ' := (KD.take 116, rdL 0 kI_40, rdL 0 kL_2, rdL 1000000 kR_117)) rfl ?_
  refine wp_aload_n dX3_init_64 rfl rfl (Or.inl (by decide)) ?_
  refine wp_pc (pc' := 65) rfl ?_
  refine wp_sipush dX3_init_65 (by decide +kernel) (by decide) ?_
  refine kn_nI (j := 116) dX3_init_68 (by decide) (by decide +kernel) (by decide) (by decide +kernel) ?_
  refine kn_pR (N := 19) dX3_init_70 pX3_42 rfl (by decide +kernel) (by decide) (by decide) (by decide) (Or.inr ⟨_, rfl⟩) ?_
  refine wp_so (σ' := (KD.take 117, rdL 0 kI_40, rdL 0 kL_2, rdL 1000000 kR_118)) rfl ?_
  refine wp_aload_n dX3_init_73 rfl rfl (Or.inl (by decide)) ?_
  refine wp_sipush dX3_init_74 (by decide +kernel) (by decide) ?_
  refine kn_nI (j := 117) dX3_init_77 (by decide) (by decide +kernel) (by decide) (by decide +kernel) ?_
  refine kn_pR (N := 19) dX3_init_79 pX3_45 rfl (by decide +kernel) (by decide) (by decide) (by decide) (Or.inr ⟨_, rfl⟩) ?_
  refine wp_so (σ' := (KD.take 118, rdL 0 kI_40, rdL 0 kL_2, rdL 1000000 kR_119)) rfl ?_
  refine wp_aload_n dX3_init_82 rfl rfl (Or.inl (by decide)) ?_
  refine wp_pc (pc' := 83) rfl ?_
  refine wp_sipush dX3_init_83 (by decide +kernel) (by decide) ?_
  refine kn_nI (j := 118) dX3_init_86 (by decide) (by decide +kernel) (by decide) (by decide +kernel) ?_
  refine kn_pR (N := 19) dX3_init_88 pX3_48 rfl (by decide +kernel) (by decide) (by decide) (by decide) (Or.inr ⟨_, rfl⟩) ?_
  refine wp_so (σ' := (KD.take 119, rdL 0 kI_40, rdL 0 kL_2, rdL 1000000 kR_120)) rfl ?_
  refine wp_aload_n dX3_init_91 rfl rfl (Or.inl (by decide)) ?_
  refine wp_sipush dX3_init_92 (by decide +kernel) (by decide) ?_
  refine kn_nI (j := 119) dX3_init_95 (by decide) (by decide +kernel) (by decide) (by decide +kernel) ?_
  refine kn_pR (N := 19) dX3_init_97 pX3_51 rfl (by decide +kernel) (by decide) (by decide) (by decide) (Or.inr ⟨_, rfl⟩) ?_
  refine wp_so (σ' := (KD.take 120, rdL 0 kI_40, rdL 0 kL_2, rdL 1000000 kR_121)) rfl ?_
  refine wp_aload_n dX3_init_100 rfl rfl (Or.inl (by decide)) ?_
  refine wp_pc (pc' := 101) rfl ?_
  refine wp_sipush dX3_init_101 (by decide +kernel) (by decide) ?_
  refine kn_nI (j := 120) dX3_init_104 (by decide) (by decide +kernel) (by decide) (by decide +kernel) ?_
  refine kn_pR (N := 19) dX3_init_106 pX3_54 rfl (by decide +kernel) (by decide) (by decide) (by decide) (Or.inr ⟨_, rfl⟩) ?_
  refine wp_so (σ' := (KD.take 121, rdL 0 kI_40, rdL 0 kL_2, rdL 1000000 kR_122)) rfl ?_
  refine wp_aload_n dX3_init_109 rfl rfl (Or.inl (by decide)) ?_
  refine wp_sipush dX3_init_110 (by decide +kernel) (by decide) ?_
  refine kn_nI (j := 121) dX3_init_113 (by decide) (by decide +kernel) (by decide) (by decide +kernel) ?_
  refine kn_pR (N := 19) dX3_init_115 pX3_57 rfl (by decide +kernel) (by decide) (by decide) (by decide) (Or.inr ⟨_, rfl⟩) ?_
  refine wp_so (σ' := (KD.take 122, rdL 0 kI_40, rdL 0 kL_2, rdL 1000000 kR_123)) rfl ?_
  refine wp_aload_n dX3_init_118 rfl rfl (Or.inl (by decide)) ?_
  refine wp_pc (pc' := 119) rfl ?_
  refine wp_sipush dX3_init_119 (by decide +kernel) (by decide) ?_
  refine kn_nB (j := 122) dX3_init_122 (by decide) (by decide +kernel) (by decide) (by decide +kernel) ?_
  refine kn_pR (N := 19) dX3_init_124 pX3_60 rfl (by decide +kernel) (by decide) (by decide) (by decide) (Or.inr ⟨_, rfl⟩) ?_
  refine wp_so (σ' := (KD.take 123, rdL 0 kI_40, rdL 0 kL_2, rdL 1000000 kR_124)) rfl ?_
  refine wp_aload_n dX3_init_127 rfl rfl (Or.inl (by decide)) ?_
  refine wp_sipush dX3_init_128 (by decide +kernel) (by decide) ?_
  refine kn_nB (j := 123) dX3_init_131 (by decide) (by decide +kernel) (by decide) (by decide +kernel) ?_
  refine kn_pR (N := 19) dX3_init_133 pX3_64 rfl (by decide +kernel) (by decide) (by decide) (by decide) (Or.inr ⟨_, rfl⟩) ?_
  refine wp_so (σ' := (KD.take 124, rdL 0 kI_40, rdL 0 kL_2, rdL 1000000 kR_125)) rfl ?_
  refine wp_aload_n dX3_init_136 rfl rfl (Or.inl (by decide)) ?_
  refine wp_pc (pc' := 137) rfl ?_
  refine wp_iconst dX3_init_137 (by decide) ?_
  refine kn_pI (N := 19) dX3_init_138 pX3_67 (by decide +kernel) (by decide) (by decide) ?_
  refine wp_so (σ' := (KD.take 124, rdL 0 kI_41, rdL 0 kL_2, rdL 1000000 kR_125)) rfl ?_
  refine wp_aload_n dX3_init_141 rfl rfl (Or.inl (by decide)) ?_
  refine wp_iconst dX3_init_142 (by decide) ?_
  refine kn_pI (N := 19) dX3_init_143 pX3_71 (by decide +kernel) (by decide) (by decide) ?_
  refine wp_so (σ' := (KD.take 124, rdL 0 kI_42, rdL 0 kL_2, rdL 1000000 kR_125)) rfl ?_
  refine wp_aload_n dX3_init_146 rfl rfl (Or.inl (by decide)) ?_
  refine wp_iconst dX3_init_147 (by decide) ?_
  refine kn_pI (N := 19) dX3_init_148 pX3_74 (by decide +kernel) (by decide) (by decide) ?_
  refine wp_so (σ' := (KD.take 124, rdL 0 kI_43, rdL 0 kL_2, rdL 1000000 kR_125)) rfl ?_
  refine wp_pc (pc' := 151) rfl ?_
  refine wp_aload_n dX3_init_151 rfl rfl (Or.inl (by decide)) ?_
  refine wp_iconst dX3_init_152 (by decide) ?_
  refine kn_pI (N := 19) dX3_init_153 pX3_77 (by decide +kernel) (by decide) (by decide) ?_
  refine wp_so (σ' := (KD.take 124, rdL 0 kI_44, rdL 0 kL_2, rdL 1000000 kR_125)) rfl ?_
  refine wp_aload_n dX3_init_156 rfl rfl (Or.inl (by decide)) ?_
  refine wp_iconst dX3_init_157 (by decide) ?_
  refine kn_pI (N := 19) dX3_init_158 pX3_80 (by decide +kernel) (by decide) (by decide) ?_
  refine wp_so (σ' := (KD.take 124, rdL 0 kI_45, rdL 0 kL_2, rdL 1000000 kR_125)) rfl ?_
  exact wp_vret dX3_init_161 rfl (fun _ => hQ)
def kR_126 : List (Nat × Nat × Nat × Nat) := (0, 9, 1, 81) :: kR_125
def kI_46 : List (Nat × Nat × Nat × Int) := (0, 10, 1, 0) :: kI_45
def kI_47 : List (Nat × Nat × Nat × Int) := (0, 11, 1, -1) :: kI_46
theorem kc_X11_init_0 {cs : Cs} : Mk cs mX11_init [] 0 1 124 kI_0 kL_0 kR_0 kI_47 kL_2 kR_126 := by
  intro Q hQ
  refine wp_L (L' := [some (vR 0)]) rfl ?_
  refine wp_aload_n dX11_init_0 rfl rfl (Or.inl (by decide)) ?_
  refine wp_objInit dX11_init_1 lX11_3 oi1 oi2 (Or.inl (by decide)) (Nat.le_of_ble_eq_true rfl) (by decide) (by decide) ?_
  refine wp_aload_n dX11_init_4 rfl rfl (Or.inl (by decide)) ?_
  refine wp_sipush dX11_init_5 (by decide +kernel) (by decide) ?_
  refine kn_nB (j := 1) dX11_init_8 (by decide) (by decide +kernel) (by decide) (by decide +kernel) ?_
  refine kn_pR (N := 12) dX11_init_10 pX11_9 rfl (by decide +kernel) (by decide) (by decide) (by decide) (Or.inr ⟨_, rfl⟩) ?_
  refine wp_so (σ' := (KD.take 2, rdL 0 kI_0, rdL 0 kL_0, rdL 1000000 kR_1)) rfl ?_
  refine wp_pc (pc' := 13) rfl ?_
  refine wp_aload_n dX11_init_13 rfl rfl (Or.inl (by decide)) ?_
  refine kn_new (j := 2) dX11_init_14 nX11_13 (by decide +kernel) (by decide) (by decide +kernel) (by decide +kernel) (by decide +kernel) ?_
  refine wp_dup dX11_init_17 (fun x e => by cases e) ?_
  refine kn_callN (mt' := mX1_init) (n := 0) (as := []) (rest := [vR 2, vR 0]) (j' := 4) (il' := kI_6) (ll' := kL_0) (rl' := kR_2) dX11_init_18 lX11_15 kX1_init oX1_init rfl rfl (by decide) (by decide +kernel) rfl (Nat.le_of_ble_eq_true rfl) (by decide) rfl (Nat.le_of_ble_eq_true rfl) (by decide) (by decide) kc_X1_init_2 ?_
  refine kn_pR (N := 12) dX11_init_21 pX11_16 rfl (by decide +kernel) (by decide) (by decide) (by decide) (Or.inl ⟨_, rfl⟩) ?_
  refine wp_so (σ' := (KD.take 4, rdL 0 kI_6, rdL 0 kL_0, rdL 1000000 kR_3)) rfl ?_
  refine wp_aload_n dX11_init_24 rfl rfl (Or.inl (by decide)) ?_
  refine kn_new (j := 4) dX11_init_25 nX11_20 (by decide +kernel) (by decide) (by decide +kernel) (by decide +kernel) (by decide +kernel) ?_
  refine wp_dup dX11_init_28 (fun x e => by cases e) ?_
  refine wp_pc (pc' := 29) rfl ?_
  refine wp_aload_n dX11_init_29 rfl rfl (Or.inl (by decide)) ?_
  refine kn_gR (N := 12) (v := 2) dX11_init_30 fX11_16 (by decide +kernel) (by decide) (by decide) (by decide +kernel) ?_
  refine kn_call (mt' := mX2_init) (n := 1) (as := [vR 2]) (rest := [vR 4, vR 0]) (j' := 10) (il' := kI_8) (ll' := kL_2) (rl' := kR_9) dX11_init_33 lX11_22 kX2_init oX2_init rfl rfl (by decide) (by decide +kernel) rfl (Nat.le_of_ble_eq_true rfl) (by decide) rfl (Nat.le_of_ble_eq_true rfl) (by decide) (by decide) kc_X2_init_4 ?_
  refine kn_pR (N := 12) dX11_init_36 pX11_25 rfl (by decide +kernel) (by decide) (by decide) (by decide) (Or.inl ⟨_, rfl⟩) ?_
  refine wp_so (σ' := (KD.take 10, rdL 0 kI_8, rdL 0 kL_2, rdL 1000000 kR_10)) rfl ?_
  refine wp_aload_n dX11_init_39 rfl rfl (Or.inl (by decide)) ?_
  refine kn_new (j := 10) dX11_init_40 nX11_29 (by decide +kernel) (by decide) (by decide +kernel) (by decide +kernel) (by decide +kernel) ?_
  refine wp_dup dX11_init_43 (fun x e => by cases e) ?_
  refine wp_aload_n dX11_init_44 rfl rfl (Or.inl (by decide)) ?_
  refine wp_pc (pc' := 45) rfl ?_
  refine kn_gR (N := 12) (v := 2) dX11_init_45 fX11_16 (by decide +kernel) (by decide) (by decide) (by decide +kernel) ?_
  refine kn_call (mt' := mX10_init) (n := 1) (as := [vR 2]) (rest := [vR 10, vR 0]) (j' := 11) (il' := kI_10) (ll' := kL_2) (rl' := kR_11) dX11_init_48 lX11_31 kX10_init oX10_init rfl rfl (by decide) (by decide +kernel) rfl (Nat.le_of_ble_eq_true rfl) (by decide) rfl (Nat.le_of_ble_eq_true rfl) (by decide) (by decide) kc_X10_init_10 ?_
  refine kn_pR (N := 12) dX11_init_51 pX11_32 rfl (by decide +kernel) (by decide) (by decide) (by decide) (Or.inl ⟨_, rfl⟩) ?_
  refine wp_so (σ' := (KD.take 11, rdL 0 kI_10, rdL 0 kL_2, rdL 1000000 kR_12)) rfl ?_
  refine wp_aload_n dX11_init_54 rfl rfl (Or.inl (by decide)) ?_
  refine kn_new (j := 11) dX11_init_55 nX11_36 (by decide +kernel) (by decide) (by decide +kernel) (by decide +kernel) (by decide +kernel) ?_
  refine wp_dup dX11_init_58 (fun x e => by cases e) ?_
  refine kn_callN (mt' := mX4_init) (n := 0) (as := []) (rest := [vR 11, vR 0]) (j' := 14) (il' := kI_12) (ll' := kL_2) (rl' := kR_14) dX11_init_59 lX11_38 kX4_init oX4_init rfl rfl (by decide) (by decide +kernel) rfl (Nat.le_of_ble_eq_true rfl) (by decide) rfl (Nat.le_of_ble_eq_true rfl) (by decide) (by decide) kc_X4_init_11 ?_
  refine kn_pR (N := 12) dX11_init_62 pX11_39 rfl (by decide +kernel) (by decide) (by decide) (by decide) (Or.inl ⟨_, rfl⟩) ?_
  refine wp_so (σ' := (KD.take 14, rdL 0 kI_12, rdL 0 kL_2, rdL 1000000 kR_15)) rfl ?_
  refine wp_pc (pc' := 65) rfl ?_
  refine wp_aload_n dX11_init_65 rfl rfl (Or.inl (by decide)) ?_
  refine kn_new (j := 14) dX11_init_66 nX11_43 (by decide +kernel) (by decide) (by decide +kernel) (by decide +kernel) (by decide +kernel) ?_
  refine wp_dup dX11_init_69 (fun x e => by cases e) ?_
  refine wp_aload_n dX11_init_70 rfl rfl (Or.inl (by decide)) ?_
  refine kn_gR (N := 12) (v := 2) dX11_init_71 fX11_16 (by decide +kernel) (by decide) (by decide) (by decide +kernel) ?_
  refine kn_call (mt' := mX6_init) (n := 1) (as := [vR 2]) (rest := [vR 14, vR 0]) (j' := 23) (il' := kI_14) (ll' := kL_2) (rl' := kR_24) dX11_init_74 lX11_45 kX6_init oX6_init rfl rfl (by decide) (by decide +kernel) rfl (Nat.le_of_ble_eq_true rfl) (by decide) rfl (Nat.le_of_ble_eq_true rfl) (by decide) (by decide) kc_X6_init_14 ?_
  refine kn_pR (N := 12) dX11_init_77 pX11_46 rfl (by decide +kernel) (by decide) (by decide) (by decide) (Or.inl ⟨_, rfl⟩) ?_
  refine wp_so (σ' := (KD.take 23, rdL 0 kI_14, rdL 0 kL_2, rdL 1000000 kR_25)) rfl ?_
  refine wp_aload_n dX11_init_80 rfl rfl (Or.inl (by decide)) ?_
  refine wp_pc (pc' := 81) rfl ?_
  refine kn_new (j := 23) dX11_init_81 nX11_50 (by decide +kernel) (by decide) (by decide +kernel) (by decide +kernel) (by decide +kernel) ?_
  refine wp_dup dX11_init_84 (fun x e => by cases e) ?_
  refine kn_callN (mt' := mX8_init) (n := 0) (as := []) (rest := [vR 23, vR 0]) (j' := 28) (il' := kI_16) (ll' := kL_2) (rl' := kR_29) dX11_init_85 lX11_52 kX8_init oX8_init rfl rfl (by decide) (by decide +kernel) rfl (Nat.le_of_ble_eq_true rfl) (by decide) rfl (Nat.le_of_ble_eq_true rfl) (by decide) (by decide) kc_X8_init_23 ?_
  refine kn_pR (N := 12) dX11_init_88 pX11_53 rfl (by decide +kernel) (by decide) (by decide) (by decide) (Or.inl ⟨_, rfl⟩) ?_
  refine wp_so (σ' := (KD.take 28, rdL 0 kI_16, rdL 0 kL_2, rdL 1000000 kR_30)) rfl ?_
  refine wp_aload_n dX11_init_91 rfl rfl (Or.inl (by decide)) ?_
  refine kn_new (j := 28) dX11_init_92 nX11_57 (by decide +kernel) (by decide) (by decide +kernel) (by decide +kernel) (by decide +kernel) ?_
  refine wp_dup dX11_init_95 (fun x e => by cases e) ?_
  refine kn_callN (mt' := mX0_init) (n := 0) (as := []) (rest := [vR 28, vR 0]) (j' := 38) (il' := kI_25) (ll' := kL_2) (rl' := kR_39) dX11_init_96 lX11_59 kX0_init oX0_init rfl rfl (by decide) (by decide +kernel) rfl (Nat.le_of_ble_eq_true rfl) (by decide) rfl (Nat.le_of_ble_eq_true rfl) (by decide) (by decide) kc_X0_init_28 ?_
  refine wp_pc (pc' := 99) rfl ?_
  refine kn_pR (N := 12) dX11_init_99 pX11_60 rfl (by decide +kernel) (by decide) (by decide) (by decide) (Or.inl ⟨_, rfl⟩) ?_
  refine wp_so (σ' := (KD.take 38, rdL 0 kI_25, rdL 0 kL_2, rdL 1000000 kR_40)) rfl ?_
  refine wp_aload_n dX11_init_102 rfl rfl (Or.inl (by decide)) ?_
  refine kn_new (j := 38) dX11_init_103 nX11_64 (by decide +kernel) (by decide) (by decide +kernel) (by decide +kernel) (by decide +kernel) ?_
  refine wp_dup dX11_init_106 (fun x e => by cases e) ?_
  refine kn_callN (mt' := mX3_init) (n := 0) (as := []) (rest := [vR 38, vR 0]) (j' := 81) (il' := kI_35) (ll' := kL_2) (rl' := kR_82) dX11_init_107 lX11_66 kX3_init oX3_init rfl rfl (by decide) (by decide +kernel) rfl (Nat.le_of_ble_eq_true rfl) (by decide) rfl (Nat.le_of_ble_eq_true rfl) (by decide) (by decide) kc_X3_init_38 ?_
  refine kn_pR (N := 12) dX11_init_110 pX11_67 rfl (by decide +kernel) (by decide) (by decide) (by decide) (Or.inl ⟨_, rfl⟩) ?_
  refine wp_so (σ' := (KD.take 81, rdL 0 kI_35, rdL 0 kL_2, rdL 1000000 kR_83)) rfl ?_
  refine wp_aload_n dX11_init_113 rfl rfl (Or.inl (by decide)) ?_
  refine kn_new (j := 81) dX11_init_114 nX11_64 (by decide +kernel) (by decide) (by decide +kernel) (by decide +kernel) (by decide +kernel) ?_
  refine wp_pc (pc' := 117) rfl ?_
  refine wp_dup dX11_init_117 (fun x e => by cases e) ?_
  refine kn_callN (mt' := mX3_init) (n := 0) (as := []) (rest := [vR 81, vR 0]) (j' := 124) (il' := kI_45) (ll' := kL_2) (rl' := kR_125) dX11_init_118 lX11_66 kX3_init oX3_init rfl rfl (by decide) (by decide +kernel) rfl (Nat.le_of_ble_eq_true rfl) (by decide) rfl (Nat.le_of_ble_eq_true rfl) (by decide) (by decide) kc_X3_init_81 ?_
  refine kn_pR (N := 12) dX11_init_121 pX11_71 rfl (by decide +kernel) (by decide) (by decide) (by decide) (Or.inl ⟨_, rfl⟩) ?_
  refine wp_so (σ' := (KD.take 124, rdL 0 kI_45, rdL 0 kL_2, rdL 1000000 kR_126)) rfl ?_
  refine wp_aload_n dX11_init_124 rfl rfl (Or.inl (by decide)) ?_
  refine wp_iconst dX11_init_125 (by decide) ?_
  refine kn_pI (N := 12) dX11_init_126 pX11_74 (by decide +kernel) (by decide) (by decide) ?_
  refine wp_so (σ' := (KD.take 124, rdL 0 kI_46, rdL 0 kL_2, rdL 1000000 kR_126)) rfl ?_
  refine wp_aload_n dX11_init_129 rfl rfl (Or.inl (by decide)) ?_
  refine wp_iconst dX11_init_130 (by decide) ?_
  refine wp_pc (pc' := 131) rfl ?_
  refine kn_pI (N := 12) dX11_init_131 pX11_78 (by decide +kernel) (by decide) (by decide) ?_
  refine wp_so (σ' := (KD.take 124, rdL 0 kI_47, rdL 0 kL_2, rdL 1000000 kR_126)) rfl ?_
  exact wp_vret dX11_init_134 rfl (fun _ => hQ)
