section P37
variable {cs : Cs} {Q : Option AV → Mm → Prop} {MI ML : Nat → Nat → Int} {b d e nw th x : Nat}
def nLen (MI : Nat → Nat → Int) (b : Nat) (k : Int) : Int := if 0 ≤ k ∧ k < MI (b + 1) 7 then MI (b + 6) k.toNat else 0
theorem dX5_byteOf_0 : decode cX5_byteOf 0 = .ok (.iload_n 2, 1) := by decide +kernel
theorem dX5_byteOf_1 : decode cX5_byteOf 1 = .ok (.ifCond .lt 28, 3) := by decide +kernel
theorem dX5_byteOf_4 : decode cX5_byteOf 4 = .ok (.iload_n 2, 1) := by decide +kernel
theorem dX5_byteOf_5 : decode cX5_byteOf 5 = .ok (.aload_n 0, 1) := by decide +kernel
theorem dX5_byteOf_6 : decode cX5_byteOf 6 = .ok (.iload_n 1, 1) := by decide +kernel
theorem dX5_byteOf_7 : decode cX5_byteOf 7 = .ok (.invokevirtual 83, 3) := by decide +kernel
theorem dX5_byteOf_10 : decode cX5_byteOf 10 = .ok (.if_icmp .ge 19, 3) := by decide +kernel
theorem dX5_byteOf_13 : decode cX5_byteOf 13 = .ok (.aload_n 0, 1) := by decide +kernel
theorem dX5_byteOf_14 : decode cX5_byteOf 14 = .ok (.getfield 9, 3) := by decide +kernel
theorem dX5_byteOf_17 : decode cX5_byteOf 17 = .ok (.aload_n 0, 1) := by decide +kernel
theorem dX5_byteOf_18 : decode cX5_byteOf 18 = .ok (.getfield 22, 3) := by decide +kernel
theorem dX5_byteOf_21 : decode cX5_byteOf 21 = .ok (.iload_n 1, 1) := by decide +kernel
theorem dX5_byteOf_22 : decode cX5_byteOf 22 = .ok (.iaload, 1) := by decide +kernel
theorem dX5_byteOf_23 : decode cX5_byteOf 23 = .ok (.iload_n 2, 1) := by decide +kernel
theorem dX5_byteOf_24 : decode cX5_byteOf 24 = .ok (.iadd, 1) := by decide +kernel
theorem dX5_byteOf_25 : decode cX5_byteOf 25 = .ok (.baload, 1) := by decide +kernel
theorem dX5_byteOf_26 : decode cX5_byteOf 26 = .ok (.goto 4, 3) := by decide +kernel
theorem dX5_byteOf_29 : decode cX5_byteOf 29 = .ok (.iconst (-1), 1) := by decide +kernel
theorem dX5_byteOf_30 : decode cX5_byteOf 30 = .ok (.ireturn, 1) := by decide +kernel
theorem w_X5_byteOf {k : Int} {i : Int} (hbd : b = 38 ∨ b = 81) (hn : MI (b + 1) 7 ≤ 2020) (hk : 0 ≤ i ∧ i < nLen MI b k → (0 ≤ k ∧ k < MI (b + 1) 7) ∧ 0 ≤ MI (b + 5) k.toNat ∧ MI (b + 5) k.toNat + i < 6000) (hT : 0 ≤ i ∧ i < nLen MI b k → Q (some (vI (MI (b + 2) (MI (b + 5) k.toNat + i).toNat))) (MI, ML, GR d e nw th x)) (hF : ¬ (0 ≤ i ∧ i < nLen MI b k) → Q (some (vI (-1))) (MI, ML, GR d e nw th x)) : wp cs mX5_byteOf KD Q 0 (padL [vR ((b + 1)), vI k, vI i] 3) [] (KD, MI, ML, GR d e nw th x) := by
  refine wp_L (L' := [some (vR ((b + 1))), some (vI k), some (vI i)]) rfl ?_
  refine wp_iload_n dX5_byteOf_0 rfl rfl ?_
  refine wp_if_lt (tgt := 29) dX5_byteOf_1 (by decide) (fun h1 => ?_) (fun h1 => ?_)
  · refine wp_iconst dX5_byteOf_29 (by decide) ?_
    exact wp_iret dX5_byteOf_30 rfl (fun _ => hF (by omega))
  · refine wp_iload_n dX5_byteOf_4 rfl rfl ?_
    refine wp_aload_n dX5_byteOf_5 rfl rfl (by first | exact Or.inl (by decide) | exact Or.inl (by omega) | exact Or.inr (by decide) | exact Or.inr (by omega)) ?_
    refine wp_iload_n dX5_byteOf_6 rfl rfl ?_
    refine wp_cV (n := 1) (mt' := mX5_lengthOf) (as := [vI k]) (rest := [vI i]) (some (vI ((nLen MI b k)))) (MI, ML, (GR d e nw th x)) dX5_byteOf_7 lX5_83 kX5_lengthOf vX5_lengthOf (by decide) (by decide +kernel) rfl (Nat.le_of_ble_eq_true rfl) (by omega) (kdb_1 hbd) rfl rfl (Nat.le_of_ble_eq_true rfl) (fun hM hS Q' hq => w_X5_lengthOf hbd hn (fun hs => by rw [show nLen MI b _ = MI (b + 6) _ from if_pos hs] at hq; exact hq) (fun hs => by rw [show nLen MI b _ = 0 from if_neg hs] at hq; exact hq)) (fun hM => ?_)
    refine wp_icmp_ge (tgt := 29) dX5_byteOf_10 (by decide) (fun h10 => ?_) (fun h10 => ?_)
    · refine wp_iconst dX5_byteOf_29 (by decide) ?_
      exact wp_iret dX5_byteOf_30 rfl (fun _ => hF (by omega))
    · refine wp_aload_n dX5_byteOf_13 rfl rfl (by first | exact Or.inl (by decide) | exact Or.inl (by omega) | exact Or.inr (by decide) | exact Or.inr (by omega)) ?_
      refine wp_getR dX5_byteOf_14 fX5_9 (kdb_1 hbd) (by omega) ?_
      refine wp_topR (x' := (b + 2)) (grb_1_0 hbd) ?_
      refine wp_aload_n dX5_byteOf_17 rfl rfl (by first | exact Or.inl (by decide) | exact Or.inl (by omega) | exact Or.inr (by decide) | exact Or.inr (by omega)) ?_
      refine wp_getR dX5_byteOf_18 fX5_22 (kdb_1 hbd) (by omega) ?_
      refine wp_topR (x' := (b + 5)) (grb_1_3 hbd) ?_
      refine wp_iload_n dX5_byteOf_21 rfl rfl ?_
      refine wp_iald dX5_byteOf_22 (kdb_5 hbd) (by omega) (by omega) ?_
      refine wp_iload_n dX5_byteOf_23 rfl rfl ?_
      refine wp_pc (pc' := 24) rfl ?_
      refine wp_iaddr dX5_byteOf_24 (by omega) ?_
      refine wp_bald dX5_byteOf_25 (kdb_2 hbd) (by omega) (by omega) ?_
      refine wp_goto (tgt := 30) dX5_byteOf_26 (by decide) ?_
      exact wp_iret dX5_byteOf_30 rfl (fun _ => hT (by omega))
theorem dX3_firstIn_0 : decode cX3_firstIn 0 = .ok (.iload_n 1, 1) := by decide +kernel
theorem dX3_firstIn_1 : decode cX3_firstIn 1 = .ok (.iconst 1, 1) := by decide +kernel
theorem dX3_firstIn_2 : decode cX3_firstIn 2 = .ok (.iadd, 1) := by decide +kernel
theorem dX3_firstIn_3 : decode cX3_firstIn 3 = .ok (.aload_n 0, 1) := by decide +kernel
theorem dX3_firstIn_4 : decode cX3_firstIn 4 = .ok (.getfield 42, 3) := by decide +kernel
theorem dX3_firstIn_7 : decode cX3_firstIn 7 = .ok (.iload_n 1, 1) := by decide +kernel
theorem dX3_firstIn_8 : decode cX3_firstIn 8 = .ok (.iaload, 1) := by decide +kernel
theorem dX3_firstIn_9 : decode cX3_firstIn 9 = .ok (.iadd, 1) := by decide +kernel
theorem dX3_firstIn_10 : decode cX3_firstIn 10 = .ok (.ireturn, 1) := by decide +kernel
theorem w_X3_firstIn {k : Int} (hbd : b = 38 ∨ b = 81) (hk : 0 ≤ k ∧ k < 600) (ha : 0 ≤ MI (b + 35) k.toNat ∧ MI (b + 35) k.toNat ≤ 600) (hQ : Q (some (vI (k + 1 + MI (b + 35) k.toNat))) (MI, ML, GR d e nw th x)) : wp cs mX3_firstIn KD Q 0 (padL [vR b, vI k] 2) [] (KD, MI, ML, GR d e nw th x) := by
  refine wp_L (L' := [some (vR b), some (vI k)]) rfl ?_
  refine wp_iload_n dX3_firstIn_0 rfl rfl ?_
  refine wp_iconst dX3_firstIn_1 (by decide) ?_
  refine wp_iaddr dX3_firstIn_2 (by omega) ?_
  refine wp_aload_n dX3_firstIn_3 rfl rfl (by first | exact Or.inl (by decide) | exact Or.inl (by omega) | exact Or.inr (by decide) | exact Or.inr (by omega)) ?_
  refine wp_getR dX3_firstIn_4 fX3_42 (show KD[b]? = some (7, 19) from kdb_0 hbd) (by omega) ?_
  refine wp_topR (x' := (b + 35)) (grb_0_6 hbd) ?_
  refine wp_iload_n dX3_firstIn_7 rfl rfl ?_
  refine wp_iald dX3_firstIn_8 (kdb_35 hbd) (by omega) (by omega) ?_
  refine wp_pc (pc' := 9) rfl ?_
  refine wp_iaddr dX3_firstIn_9 (by omega) ?_
  exact wp_iret dX3_firstIn_10 rfl (fun _ => hQ)
def abC (MI : Nat → Nat → Int) (b : Nat) (k w : Int) : Int := if w = 0 then MI (b + 32) k.toNat else if w = 1 then MI (b + 33) k.toNat else if w = 2 then nLen MI b (MI (b + 34) k.toNat) else if w = 3 then MI (b + 40) k.toNat - MI (b + 39) k.toNat else if w = 4 then MI (b + 35) k.toNat else if w = 5 then MI (b + 36) k.toNat else if w = 6 then i_and (MI (b + 37) k.toNat) 1 else -9
theorem dX3_about_0 : decode cX3_about 0 = .ok (.iload_n 2, 1) := by decide +kernel
theorem dX3_about_1 : decode cX3_about 1 = .ok (.tableswitch 108 0 6 #[43, 50, 57, 71, 85, 92, 99], 43) := by decide +kernel
theorem dX3_about_44 : decode cX3_about 44 = .ok (.aload_n 0, 1) := by decide +kernel
theorem dX3_about_45 : decode cX3_about 45 = .ok (.getfield 32, 3) := by decide +kernel
theorem dX3_about_48 : decode cX3_about 48 = .ok (.iload_n 1, 1) := by decide +kernel
theorem dX3_about_49 : decode cX3_about 49 = .ok (.iaload, 1) := by decide +kernel
theorem dX3_about_50 : decode cX3_about 50 = .ok (.ireturn, 1) := by decide +kernel
theorem dX3_about_51 : decode cX3_about 51 = .ok (.aload_n 0, 1) := by decide +kernel
theorem dX3_about_52 : decode cX3_about 52 = .ok (.getfield 36, 3) := by decide +kernel
theorem dX3_about_55 : decode cX3_about 55 = .ok (.iload_n 1, 1) := by decide +kernel
theorem dX3_about_56 : decode cX3_about 56 = .ok (.iaload, 1) := by decide +kernel
theorem dX3_about_57 : decode cX3_about 57 = .ok (.ireturn, 1) := by decide +kernel
theorem dX3_about_58 : decode cX3_about 58 = .ok (.aload_n 0, 1) := by decide +kernel
theorem dX3_about_59 : decode cX3_about 59 = .ok (.getfield 12, 3) := by decide +kernel
theorem dX3_about_62 : decode cX3_about 62 = .ok (.aload_n 0, 1) := by decide +kernel
theorem dX3_about_63 : decode cX3_about 63 = .ok (.getfield 39, 3) := by decide +kernel
theorem dX3_about_66 : decode cX3_about 66 = .ok (.iload_n 1, 1) := by decide +kernel
theorem dX3_about_67 : decode cX3_about 67 = .ok (.iaload, 1) := by decide +kernel
theorem dX3_about_68 : decode cX3_about 68 = .ok (.invokevirtual 102, 3) := by decide +kernel
theorem dX3_about_71 : decode cX3_about 71 = .ok (.ireturn, 1) := by decide +kernel
theorem dX3_about_72 : decode cX3_about 72 = .ok (.aload_n 0, 1) := by decide +kernel
theorem dX3_about_73 : decode cX3_about 73 = .ok (.getfield 57, 3) := by decide +kernel
theorem dX3_about_76 : decode cX3_about 76 = .ok (.iload_n 1, 1) := by decide +kernel
theorem dX3_about_77 : decode cX3_about 77 = .ok (.iaload, 1) := by decide +kernel
theorem dX3_about_78 : decode cX3_about 78 = .ok (.aload_n 0, 1) := by decide +kernel
theorem dX3_about_79 : decode cX3_about 79 = .ok (.getfield 54, 3) := by decide +kernel
theorem dX3_about_82 : decode cX3_about 82 = .ok (.iload_n 1, 1) := by decide +kernel
theorem dX3_about_83 : decode cX3_about 83 = .ok (.iaload, 1) := by decide +kernel
theorem dX3_about_84 : decode cX3_about 84 = .ok (.isub, 1) := by decide +kernel
theorem dX3_about_85 : decode cX3_about 85 = .ok (.ireturn, 1) := by decide +kernel
theorem dX3_about_86 : decode cX3_about 86 = .ok (.aload_n 0, 1) := by decide +kernel
theorem dX3_about_87 : decode cX3_about 87 = .ok (.getfield 42, 3) := by decide +kernel
theorem dX3_about_90 : decode cX3_about 90 = .ok (.iload_n 1, 1) := by decide +kernel
theorem dX3_about_91 : decode cX3_about 91 = .ok (.iaload, 1) := by decide +kernel
theorem dX3_about_92 : decode cX3_about 92 = .ok (.ireturn, 1) := by decide +kernel
theorem dX3_about_93 : decode cX3_about 93 = .ok (.aload_n 0, 1) := by decide +kernel
theorem dX3_about_94 : decode cX3_about 94 = .ok (.getfield 45, 3) := by decide +kernel
theorem dX3_about_97 : decode cX3_about 97 = .ok (.iload_n 1, 1) := by decide +kernel
theorem dX3_about_98 : decode cX3_about 98 = .ok (.iaload, 1) := by decide +kernel
theorem dX3_about_99 : decode cX3_about 99 = .ok (.ireturn, 1) := by decide +kernel
theorem dX3_about_100 : decode cX3_about 100 = .ok (.aload_n 0, 1) := by decide +kernel
theorem dX3_about_101 : decode cX3_about 101 = .ok (.getfield 48, 3) := by decide +kernel
theorem dX3_about_104 : decode cX3_about 104 = .ok (.iload_n 1, 1) := by decide +kernel
theorem dX3_about_105 : decode cX3_about 105 = .ok (.iaload, 1) := by decide +kernel
theorem dX3_about_106 : decode cX3_about 106 = .ok (.iconst 1, 1) := by decide +kernel
theorem dX3_about_107 : decode cX3_about 107 = .ok (.iand, 1) := by decide +kernel
theorem dX3_about_108 : decode cX3_about 108 = .ok (.ireturn, 1) := by decide +kernel
theorem dX3_about_109 : decode cX3_about 109 = .ok (.bipush (-9), 2) := by decide +kernel
theorem dX3_about_111 : decode cX3_about 111 = .ok (.ireturn, 1) := by decide +kernel
theorem w_X3_about {k : Int} {w : Int} (hbd : b = 38 ∨ b = 81) (hn : MI (b + 1) 7 ≤ 2020) (hk : 0 ≤ k ∧ k < 600) (hs : 0 ≤ MI (b + 39) k.toNat ∧ MI (b + 39) k.toNat ≤ 2000 ∧ 0 ≤ MI (b + 40) k.toNat ∧ MI (b + 40) k.toNat ≤ 2000) (hQ : Q (some (vI (abC MI b k w))) (MI, ML, GR d e nw th x)) : wp cs mX3_about KD Q 0 (padL [vR b, vI k, vI w] 3) [] (KD, MI, ML, GR d e nw th x) := by
  refine wp_L (L' := [some (vR b), some (vI k), some (vI w)]) rfl ?_
  refine wp_iload_n dX3_about_0 rfl rfl ?_
  by_cases hsw : 0 ≤ w ∧ w ≤ 6
  · rcases (by omega : w = 0 ∨ w = 1 ∨ w = 2 ∨ w = 3 ∨ w = 4 ∨ w = 5 ∨ w = 6) with rfl | rfl | rfl | rfl | rfl | rfl | rfl
    · refine wp_tableIn (tgt := 44) dX3_about_1 (by decide) rfl (by decide) ?_
      refine wp_aload_n dX3_about_44 rfl rfl (by first | exact Or.inl (by decide) | exact Or.inl (by omega) | exact Or.inr (by decide) | exact Or.inr (by omega)) ?_
      refine wp_getR dX3_about_45 fX3_32 (show KD[b]? = some (7, 19) from kdb_0 hbd) (by omega) ?_
      refine wp_topR (x' := (b + 32)) (grb_0_3 hbd) ?_
      refine wp_iload_n dX3_about_48 rfl rfl ?_
      refine wp_iald dX3_about_49 (kdb_32 hbd) (by omega) (by omega) ?_
      exact wp_iret dX3_about_50 rfl (fun _ => hQ)
    · refine wp_tableIn (tgt := 51) dX3_about_1 (by decide) rfl (by decide) ?_
      refine wp_aload_n dX3_about_51 rfl rfl (by first | exact Or.inl (by decide) | exact Or.inl (by omega) | exact Or.inr (by decide) | exact Or.inr (by omega)) ?_
      refine wp_getR dX3_about_52 fX3_36 (show KD[b]? = some (7, 19) from kdb_0 hbd) (by omega) ?_
      refine wp_topR (x' := (b + 33)) (grb_0_4 hbd) ?_
      refine wp_iload_n dX3_about_55 rfl rfl ?_
      refine wp_iald dX3_about_56 (kdb_33 hbd) (by omega) (by omega) ?_
      exact wp_iret dX3_about_57 rfl (fun _ => hQ)
    · refine wp_tableIn (tgt := 58) dX3_about_1 (by decide) rfl (by decide) ?_
      refine wp_aload_n dX3_about_58 rfl rfl (by first | exact Or.inl (by decide) | exact Or.inl (by omega) | exact Or.inr (by decide) | exact Or.inr (by omega)) ?_
      refine wp_getR dX3_about_59 fX3_12 (show KD[b]? = some (7, 19) from kdb_0 hbd) (by omega) ?_
      refine wp_topR (x' := (b + 1)) (grb_0_0 hbd) ?_
      refine wp_aload_n dX3_about_62 rfl rfl (by first | exact Or.inl (by decide) | exact Or.inl (by omega) | exact Or.inr (by decide) | exact Or.inr (by omega)) ?_
      refine wp_getR dX3_about_63 fX3_39 (show KD[b]? = some (7, 19) from kdb_0 hbd) (by omega) ?_
      refine wp_topR (x' := (b + 34)) (grb_0_5 hbd) ?_
      refine wp_iload_n dX3_about_66 rfl rfl ?_
      refine wp_iald dX3_about_67 (kdb_34 hbd) (by omega) (by omega) ?_
      refine wp_cV (n := 1) (mt' := mX5_lengthOf) (as := [vI ((MI (b + 34) (k).toNat))]) (rest := []) (some (vI ((nLen MI b (MI (b + 34) (k).toNat))))) (MI, ML, (GR d e nw th x)) dX3_about_68 lX3_102 kX5_lengthOf vX5_lengthOf (by decide) (by decide +kernel) rfl (Nat.le_of_ble_eq_true rfl) (by omega) (kdb_1 hbd) rfl rfl (Nat.le_of_ble_eq_true rfl) (fun hM hS Q' hq => w_X5_lengthOf hbd hn (fun hs => by rw [show nLen MI b _ = MI (b + 6) _ from if_pos hs] at hq; exact hq) (fun hs => by rw [show nLen MI b _ = 0 from if_neg hs] at hq; exact hq)) (fun hM => ?_)
      refine wp_pc (pc' := 71) rfl ?_
      exact wp_iret dX3_about_71 rfl (fun _ => hQ)
    · refine wp_tableIn (tgt := 72) dX3_about_1 (by decide) rfl (by decide) ?_
      refine wp_aload_n dX3_about_72 rfl rfl (by first | exact Or.inl (by decide) | exact Or.inl (by omega) | exact Or.inr (by decide) | exact Or.inr (by omega)) ?_
      refine wp_getR dX3_about_73 fX3_57 (show KD[b]? = some (7, 19) from kdb_0 hbd) (by omega) ?_
      refine wp_topR (x' := (b + 40)) (grb_0_11 hbd) ?_
      refine wp_iload_n dX3_about_76 rfl rfl ?_
      refine wp_iald dX3_about_77 (kdb_40 hbd) (by omega) (by omega) ?_
      refine wp_aload_n dX3_about_78 rfl rfl (by first | exact Or.inl (by decide) | exact Or.inl (by omega) | exact Or.inr (by decide) | exact Or.inr (by omega)) ?_
      refine wp_getR dX3_about_79 fX3_54 (show KD[b]? = some (7, 19) from kdb_0 hbd) (by omega) ?_
      refine wp_topR (x' := (b + 39)) (grb_0_10 hbd) ?_
      refine wp_iload_n dX3_about_82 rfl rfl ?_
      refine wp_pc (pc' := 83) rfl ?_
      refine wp_iald dX3_about_83 (kdb_39 hbd) (by omega) (by omega) ?_
      refine wp_isubr dX3_about_84 (by omega) ?_
      exact wp_iret dX3_about_85 rfl (fun _ => hQ)
    · refine wp_tableIn (tgt := 86) dX3_about_1 (by decide) rfl (by decide) ?_
      refine wp_aload_n dX3_about_86 rfl rfl (by first | exact Or.inl (by decide) | exact Or.inl (by omega) | exact Or.inr (by decide) | exact Or.inr (by omega)) ?_
      refine wp_getR dX3_about_87 fX3_42 (show KD[b]? = some (7, 19) from kdb_0 hbd) (by omega) ?_
      refine wp_topR (x' := (b + 35)) (grb_0_6 hbd) ?_
      refine wp_iload_n dX3_about_90 rfl rfl ?_
      refine wp_iald dX3_about_91 (kdb_35 hbd) (by omega) (by omega) ?_
      exact wp_iret dX3_about_92 rfl (fun _ => hQ)
    · refine wp_tableIn (tgt := 93) dX3_about_1 (by decide) rfl (by decide) ?_
      refine wp_aload_n dX3_about_93 rfl rfl (by first | exact Or.inl (by decide) | exact Or.inl (by omega) | exact Or.inr (by decide) | exact Or.inr (by omega)) ?_
      refine wp_getR dX3_about_94 fX3_45 (show KD[b]? = some (7, 19) from kdb_0 hbd) (by omega) ?_
      refine wp_topR (x' := (b + 36)) (grb_0_7 hbd) ?_
      refine wp_iload_n dX3_about_97 rfl rfl ?_
      refine wp_iald dX3_about_98 (kdb_36 hbd) (by omega) (by omega) ?_
      exact wp_iret dX3_about_99 rfl (fun _ => hQ)
    · refine wp_tableIn (tgt := 100) dX3_about_1 (by decide) rfl (by decide) ?_
      refine wp_aload_n dX3_about_100 rfl rfl (by first | exact Or.inl (by decide) | exact Or.inl (by omega) | exact Or.inr (by decide) | exact Or.inr (by omega)) ?_
      refine wp_getR dX3_about_101 fX3_48 (show KD[b]? = some (7, 19) from kdb_0 hbd) (by omega) ?_
      refine wp_topR (x' := (b + 37)) (grb_0_8 hbd) ?_
      refine wp_iload_n dX3_about_104 rfl rfl ?_
      refine wp_iald dX3_about_105 (kdb_37 hbd) (by omega) (by omega) ?_
      refine wp_iconst dX3_about_106 (by decide) ?_
      refine wp_iand dX3_about_107 ?_
      exact wp_iret dX3_about_108 rfl (fun _ => hQ)
  · refine wp_tableOut (tgt := 109) dX3_about_1 (by omega) (by decide) ?_
    refine wp_bipush dX3_about_109 (by decide +kernel) (by decide) ?_
    exact wp_iret dX3_about_111 rfl (fun _ => by rw [show abC MI b k w = -9 by unfold abC; repeat rw [if_neg (by omega)]] at hQ; exact hQ)
end P37
