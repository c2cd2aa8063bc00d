def cntC (MI : Nat → Nat → Int) (b : Nat) (k : Int) : Int := if k = 0 then MI b 16 else if k = 1 then MI (b + 9) 10 else if k = 2 then MI (b + 20) 11 else if k = 3 then MI 28 16 else if k = 4 then MI 28 17 else if k = 5 then MI 0 10 else if k = 6 then MI b 18 else -9
def atR (MI : Nat → Nat → Int) (c : Nat) : Int := if MI 124 9 = 0 then 0 else MI c (MI 124 7).toNat
def cntR (MI : Nat → Nat → Int) (k : Int) : Int := if k = 0 then atR MI 129 else if k = 1 then atR MI 143 else if k = 2 then atR MI 154 else if k = 3 then MI 124 86 else if k = 4 then (if MI 124 86 = 0 then 0 else MI 124 87) else if k = 5 then MI 124 1 else if k = 6 then atR MI 140 else -9
section P36
variable {cs : Cs} {Q : Option AV → Mm → Prop} {MI ML : Nat → Nat → Int} {b d e nw th x : Nat}
theorem dX11_count_0 : decode cX11_count 0 = .ok (.iload_n 1, 1) := by decide +kernel
theorem dX11_count_1 : decode cX11_count 1 = .ok (.tableswitch 102 0 6 #[43, 51, 62, 73, 81, 89, 94], 43) := by decide +kernel
theorem dX11_count_44 : decode cX11_count 44 = .ok (.aload_n 0, 1) := by decide +kernel
theorem dX11_count_45 : decode cX11_count 45 = .ok (.getfield 67, 3) := by decide +kernel
theorem dX11_count_48 : decode cX11_count 48 = .ok (.getfield 117, 3) := by decide +kernel
theorem dX11_count_51 : decode cX11_count 51 = .ok (.ireturn, 1) := by decide +kernel
theorem dX11_count_52 : decode cX11_count 52 = .ok (.aload_n 0, 1) := by decide +kernel
theorem dX11_count_53 : decode cX11_count 53 = .ok (.getfield 67, 3) := by decide +kernel
theorem dX11_count_56 : decode cX11_count 56 = .ok (.getfield 190, 3) := by decide +kernel
theorem dX11_count_59 : decode cX11_count 59 = .ok (.getfield 194, 3) := by decide +kernel
theorem dX11_count_62 : decode cX11_count 62 = .ok (.ireturn, 1) := by decide +kernel
theorem dX11_count_63 : decode cX11_count 63 = .ok (.aload_n 0, 1) := by decide +kernel
theorem dX11_count_64 : decode cX11_count 64 = .ok (.getfield 67, 3) := by decide +kernel
theorem dX11_count_67 : decode cX11_count 67 = .ok (.getfield 197, 3) := by decide +kernel
theorem dX11_count_70 : decode cX11_count 70 = .ok (.getfield 201, 3) := by decide +kernel
theorem dX11_count_73 : decode cX11_count 73 = .ok (.ireturn, 1) := by decide +kernel
theorem dX11_count_74 : decode cX11_count 74 = .ok (.aload_n 0, 1) := by decide +kernel
theorem dX11_count_75 : decode cX11_count 75 = .ok (.getfield 60, 3) := by decide +kernel
theorem dX11_count_78 : decode cX11_count 78 = .ok (.getfield 171, 3) := by decide +kernel
theorem dX11_count_81 : decode cX11_count 81 = .ok (.ireturn, 1) := by decide +kernel
theorem dX11_count_82 : decode cX11_count 82 = .ok (.aload_n 0, 1) := by decide +kernel
theorem dX11_count_83 : decode cX11_count 83 = .ok (.getfield 60, 3) := by decide +kernel
theorem dX11_count_86 : decode cX11_count 86 = .ok (.getfield 204, 3) := by decide +kernel
theorem dX11_count_89 : decode cX11_count 89 = .ok (.ireturn, 1) := by decide +kernel
theorem dX11_count_90 : decode cX11_count 90 = .ok (.aload_n 0, 1) := by decide +kernel
theorem dX11_count_91 : decode cX11_count 91 = .ok (.getfield 74, 3) := by decide +kernel
theorem dX11_count_94 : decode cX11_count 94 = .ok (.ireturn, 1) := by decide +kernel
theorem dX11_count_95 : decode cX11_count 95 = .ok (.aload_n 0, 1) := by decide +kernel
theorem dX11_count_96 : decode cX11_count 96 = .ok (.getfield 67, 3) := by decide +kernel
theorem dX11_count_99 : decode cX11_count 99 = .ok (.getfield 207, 3) := by decide +kernel
theorem dX11_count_102 : decode cX11_count 102 = .ok (.ireturn, 1) := by decide +kernel
theorem dX11_count_103 : decode cX11_count 103 = .ok (.bipush (-9), 2) := by decide +kernel
theorem dX11_count_105 : decode cX11_count 105 = .ok (.ireturn, 1) := by decide +kernel
theorem w_X11_count {k : Int} (hbd : b = 38 ∨ b = 81) (hQ : Q (some (vI (cntC MI b k))) (MI, ML, (GR b e nw th x))) : wp cs mX11_count KD Q 0 (padL [vR 0, vI k] 2) [] (KD, MI, ML, (GR b e nw th x)) := by
  refine wp_L (L' := [some (vR 0), some (vI k)]) rfl ?_
  refine wp_iload_n dX11_count_0 rfl rfl ?_
  by_cases hsw : 0 ≤ k ∧ k ≤ 6
  · rcases (by omega : k = 0 ∨ k = 1 ∨ k = 2 ∨ k = 3 ∨ k = 4 ∨ k = 5 ∨ k = 6) with rfl | rfl | rfl | rfl | rfl | rfl | rfl
    · refine wp_tableIn (tgt := 44) dX11_count_1 (by decide) rfl (by decide) ?_
      refine wp_aload_n dX11_count_44 rfl rfl (by first | exact Or.inl (by decide) | exact Or.inl (by omega) | exact Or.inr (by decide) | exact Or.inr (by omega)) ?_
      refine wp_getR dX11_count_45 fX11_67 rfl (by decide) ?_
      refine wp_topR (x' := b) rfl ?_
      refine wp_getI dX11_count_48 fX11_117 (show KD[b]? = some (7, 19) from kdb_0 hbd) (by omega) ?_
      exact wp_iret dX11_count_51 rfl (fun _ => hQ)
    · refine wp_tableIn (tgt := 52) dX11_count_1 (by decide) rfl (by decide) ?_
      refine wp_aload_n dX11_count_52 rfl rfl (by first | exact Or.inl (by decide) | exact Or.inl (by omega) | exact Or.inr (by decide) | exact Or.inr (by omega)) ?_
      refine wp_getR dX11_count_53 fX11_67 rfl (by decide) ?_
      refine wp_topR (x' := b) rfl ?_
      refine wp_getR dX11_count_56 fX11_190 (show KD[b]? = some (7, 19) from kdb_0 hbd) (by omega) ?_
      refine wp_topR (x' := (b + 9)) (grb_0_1 hbd) ?_
      refine wp_getI dX11_count_59 fX11_194 (kdb_9 hbd) (by omega) ?_
      exact wp_iret dX11_count_62 rfl (fun _ => hQ)
    · refine wp_tableIn (tgt := 63) dX11_count_1 (by decide) rfl (by decide) ?_
      refine wp_aload_n dX11_count_63 rfl rfl (by first | exact Or.inl (by decide) | exact Or.inl (by omega) | exact Or.inr (by decide) | exact Or.inr (by omega)) ?_
      refine wp_getR dX11_count_64 fX11_67 rfl (by decide) ?_
      refine wp_topR (x' := b) rfl ?_
      refine wp_getR dX11_count_67 fX11_197 (show KD[b]? = some (7, 19) from kdb_0 hbd) (by omega) ?_
      refine wp_topR (x' := (b + 20)) (grb_0_2 hbd) ?_
      refine wp_getI dX11_count_70 fX11_201 (kdb_20 hbd) (by omega) ?_
      exact wp_iret dX11_count_73 rfl (fun _ => hQ)
    · refine wp_tableIn (tgt := 74) dX11_count_1 (by decide) rfl (by decide) ?_
      refine wp_aload_n dX11_count_74 rfl rfl (by first | exact Or.inl (by decide) | exact Or.inl (by omega) | exact Or.inr (by decide) | exact Or.inr (by omega)) ?_
      refine wp_getR dX11_count_75 fX11_60 rfl (by decide) ?_
      refine wp_topR (x' := 28) rfl ?_
      refine wp_getI dX11_count_78 fX11_171 rfl (by decide) ?_
      exact wp_iret dX11_count_81 rfl (fun _ => hQ)
    · refine wp_tableIn (tgt := 82) dX11_count_1 (by decide) rfl (by decide) ?_
      refine wp_aload_n dX11_count_82 rfl rfl (by first | exact Or.inl (by decide) | exact Or.inl (by omega) | exact Or.inr (by decide) | exact Or.inr (by omega)) ?_
      refine wp_getR dX11_count_83 fX11_60 rfl (by decide) ?_
      refine wp_topR (x' := 28) rfl ?_
      refine wp_getI dX11_count_86 fX11_204 rfl (by decide) ?_
      exact wp_iret dX11_count_89 rfl (fun _ => hQ)
    · refine wp_tableIn (tgt := 90) dX11_count_1 (by decide) rfl (by decide) ?_
      refine wp_aload_n dX11_count_90 rfl rfl (by first | exact Or.inl (by decide) | exact Or.inl (by omega) | exact Or.inr (by decide) | exact Or.inr (by omega)) ?_
      refine wp_getI dX11_count_91 fX11_74 rfl (by decide) ?_
      exact wp_iret dX11_count_94 rfl (fun _ => hQ)
    · refine wp_tableIn (tgt := 95) dX11_count_1 (by decide) rfl (by decide) ?_
      refine wp_aload_n dX11_count_95 rfl rfl (by first | exact Or.inl (by decide) | exact Or.inl (by omega) | exact Or.inr (by decide) | exact Or.inr (by omega)) ?_
      refine wp_getR dX11_count_96 fX11_67 rfl (by decide) ?_
      refine wp_topR (x' := b) rfl ?_
      refine wp_getI dX11_count_99 fX11_207 (show KD[b]? = some (7, 19) from kdb_0 hbd) (by omega) ?_
      exact wp_iret dX11_count_102 rfl (fun _ => hQ)
  · refine wp_tableOut (tgt := 103) dX11_count_1 (by omega) (by decide) ?_
    refine wp_bipush dX11_count_103 (by decide +kernel) (by decide) ?_
    exact wp_iret dX11_count_105 rfl (fun _ => by rw [show cntC MI b k = -9 by unfold cntC; repeat rw [if_neg (by omega)]] at hQ; exact hQ)
theorem dX12_count_0 : decode cX12_count 0 = .ok (.iload_n 1, 1) := by decide +kernel
theorem dX12_count_1 : decode cX12_count 1 = .ok (.tableswitch 153 0 6 #[43, 64, 85, 106, 111, 127, 132], 43) := by decide +kernel
theorem dX12_count_44 : decode cX12_count 44 = .ok (.aload_n 0, 1) := by decide +kernel
theorem dX12_count_45 : decode cX12_count 45 = .ok (.getfield 498, 3) := by decide +kernel
theorem dX12_count_48 : decode cX12_count 48 = .ok (.ifCond .eq 15, 3) := by decide +kernel
theorem dX12_count_51 : decode cX12_count 51 = .ok (.aload_n 0, 1) := by decide +kernel
theorem dX12_count_52 : decode cX12_count 52 = .ok (.getfield 27, 3) := by decide +kernel
theorem dX12_count_55 : decode cX12_count 55 = .ok (.aload_n 0, 1) := by decide +kernel
theorem dX12_count_56 : decode cX12_count 56 = .ok (.getfield 482, 3) := by decide +kernel
theorem dX12_count_59 : decode cX12_count 59 = .ok (.iaload, 1) := by decide +kernel
theorem dX12_count_60 : decode cX12_count 60 = .ok (.goto 4, 3) := by decide +kernel
theorem dX12_count_63 : decode cX12_count 63 = .ok (.iconst 0, 1) := by decide +kernel
theorem dX12_count_64 : decode cX12_count 64 = .ok (.ireturn, 1) := by decide +kernel
theorem dX12_count_65 : decode cX12_count 65 = .ok (.aload_n 0, 1) := by decide +kernel
theorem dX12_count_66 : decode cX12_count 66 = .ok (.getfield 498, 3) := by decide +kernel
theorem dX12_count_69 : decode cX12_count 69 = .ok (.ifCond .eq 15, 3) := by decide +kernel
theorem dX12_count_72 : decode cX12_count 72 = .ok (.aload_n 0, 1) := by decide +kernel
theorem dX12_count_73 : decode cX12_count 73 = .ok (.getfield 70, 3) := by decide +kernel
theorem dX12_count_76 : decode cX12_count 76 = .ok (.aload_n 0, 1) := by decide +kernel
theorem dX12_count_77 : decode cX12_count 77 = .ok (.getfield 482, 3) := by decide +kernel
theorem dX12_count_80 : decode cX12_count 80 = .ok (.iaload, 1) := by decide +kernel
theorem dX12_count_81 : decode cX12_count 81 = .ok (.goto 4, 3) := by decide +kernel
theorem dX12_count_84 : decode cX12_count 84 = .ok (.iconst 0, 1) := by decide +kernel
theorem dX12_count_85 : decode cX12_count 85 = .ok (.ireturn, 1) := by decide +kernel
theorem dX12_count_86 : decode cX12_count 86 = .ok (.aload_n 0, 1) := by decide +kernel
theorem dX12_count_87 : decode cX12_count 87 = .ok (.getfield 498, 3) := by decide +kernel
theorem dX12_count_90 : decode cX12_count 90 = .ok (.ifCond .eq 15, 3) := by decide +kernel
theorem dX12_count_93 : decode cX12_count 93 = .ok (.aload_n 0, 1) := by decide +kernel
theorem dX12_count_94 : decode cX12_count 94 = .ok (.getfield 104, 3) := by decide +kernel
theorem dX12_count_97 : decode cX12_count 97 = .ok (.aload_n 0, 1) := by decide +kernel
theorem dX12_count_98 : decode cX12_count 98 = .ok (.getfield 482, 3) := by decide +kernel
theorem dX12_count_101 : decode cX12_count 101 = .ok (.iaload, 1) := by decide +kernel
theorem dX12_count_102 : decode cX12_count 102 = .ok (.goto 4, 3) := by decide +kernel
theorem dX12_count_105 : decode cX12_count 105 = .ok (.iconst 0, 1) := by decide +kernel
theorem dX12_count_106 : decode cX12_count 106 = .ok (.ireturn, 1) := by decide +kernel
theorem dX12_count_107 : decode cX12_count 107 = .ok (.aload_n 0, 1) := by decide +kernel
theorem dX12_count_108 : decode cX12_count 108 = .ok (.getfield 501, 3) := by decide +kernel
theorem dX12_count_111 : decode cX12_count 111 = .ok (.ireturn, 1) := by decide +kernel
theorem dX12_count_112 : decode cX12_count 112 = .ok (.aload_n 0, 1) := by decide +kernel
theorem dX12_count_113 : decode cX12_count 113 = .ok (.getfield 501, 3) := by decide +kernel
theorem dX12_count_116 : decode cX12_count 116 = .ok (.ifCond .ne 7, 3) := by decide +kernel
theorem dX12_count_119 : decode cX12_count 119 = .ok (.iconst 0, 1) := by decide +kernel
theorem dX12_count_120 : decode cX12_count 120 = .ok (.goto 7, 3) := by decide +kernel
theorem dX12_count_123 : decode cX12_count 123 = .ok (.aload_n 0, 1) := by decide +kernel
theorem dX12_count_124 : decode cX12_count 124 = .ok (.getfield 661, 3) := by decide +kernel
theorem dX12_count_127 : decode cX12_count 127 = .ok (.ireturn, 1) := by decide +kernel
theorem dX12_count_128 : decode cX12_count 128 = .ok (.aload_n 0, 1) := by decide +kernel
theorem dX12_count_129 : decode cX12_count 129 = .ok (.getfield 476, 3) := by decide +kernel
theorem dX12_count_132 : decode cX12_count 132 = .ok (.ireturn, 1) := by decide +kernel
theorem dX12_count_133 : decode cX12_count 133 = .ok (.aload_n 0, 1) := by decide +kernel
theorem dX12_count_134 : decode cX12_count 134 = .ok (.getfield 498, 3) := by decide +kernel
theorem dX12_count_137 : decode cX12_count 137 = .ok (.ifCond .eq 15, 3) := by decide +kernel
theorem dX12_count_140 : decode cX12_count 140 = .ok (.aload_n 0, 1) := by decide +kernel
theorem dX12_count_141 : decode cX12_count 141 = .ok (.getfield 61, 3) := by decide +kernel
theorem dX12_count_144 : decode cX12_count 144 = .ok (.aload_n 0, 1) := by decide +kernel
theorem dX12_count_145 : decode cX12_count 145 = .ok (.getfield 482, 3) := by decide +kernel
theorem dX12_count_148 : decode cX12_count 148 = .ok (.iaload, 1) := by decide +kernel
theorem dX12_count_149 : decode cX12_count 149 = .ok (.goto 4, 3) := by decide +kernel
theorem dX12_count_152 : decode cX12_count 152 = .ok (.iconst 0, 1) := by decide +kernel
theorem dX12_count_153 : decode cX12_count 153 = .ok (.ireturn, 1) := by decide +kernel
theorem dX12_count_154 : decode cX12_count 154 = .ok (.bipush (-9), 2) := by decide +kernel
theorem dX12_count_156 : decode cX12_count 156 = .ok (.ireturn, 1) := by decide +kernel
theorem w_X12_count {k : Int} (hb : 0 ≤ MI 124 7 ∧ MI 124 7 ≤ 1) (hQ : Q (some (vI (cntR MI k))) (MI, ML, (GR d e nw th x))) : wp cs mX12_count KD Q 0 (padL [vR 124, vI k] 2) [] (KD, MI, ML, (GR d e nw th x)) := by
  refine wp_L (L' := [some (vR 124), some (vI k)]) rfl ?_
  refine wp_iload_n dX12_count_0 rfl rfl ?_
  by_cases hsw : 0 ≤ k ∧ k ≤ 6
  · rcases (by omega : k = 0 ∨ k = 1 ∨ k = 2 ∨ k = 3 ∨ k = 4 ∨ k = 5 ∨ k = 6) with rfl | rfl | rfl | rfl | rfl | rfl | rfl
    · refine wp_tableIn (tgt := 44) dX12_count_1 (by decide) rfl (by decide) ?_
      refine wp_aload_n dX12_count_44 rfl rfl (by first | exact Or.inl (by decide) | exact Or.inl (by omega) | exact Or.inr (by decide) | exact Or.inr (by omega)) ?_
      refine wp_getI dX12_count_45 fX12_498 rfl (by decide) ?_
      refine wp_if_eq (tgt := 63) dX12_count_48 (by decide) (fun h48 => ?_) (fun h48 => ?_)
      · refine wp_iconst dX12_count_63 (by decide) ?_
        exact wp_iret dX12_count_64 rfl (fun _ => by simpa [cntR, atR, *] using hQ)
      · refine wp_aload_n dX12_count_51 rfl rfl (by first | exact Or.inl (by decide) | exact Or.inl (by omega) | exact Or.inr (by decide) | exact Or.inr (by omega)) ?_
        refine wp_getR dX12_count_52 fX12_27 rfl (by decide) ?_
        refine wp_topR (x' := 129) rfl ?_
        refine wp_aload_n dX12_count_55 rfl rfl (by first | exact Or.inl (by decide) | exact Or.inl (by omega) | exact Or.inr (by decide) | exact Or.inr (by omega)) ?_
        refine wp_getI dX12_count_56 fX12_482 rfl (by decide) ?_
        refine wp_iald dX12_count_59 rfl (by decide) (by omega) ?_
        refine wp_goto (tgt := 64) dX12_count_60 (by decide) ?_
        exact wp_iret dX12_count_64 rfl (fun _ => by simpa [cntR, atR, *] using hQ)
    · refine wp_tableIn (tgt := 65) dX12_count_1 (by decide) rfl (by decide) ?_
      refine wp_aload_n dX12_count_65 rfl rfl (by first | exact Or.inl (by decide) | exact Or.inl (by omega) | exact Or.inr (by decide) | exact Or.inr (by omega)) ?_
      refine wp_getI dX12_count_66 fX12_498 rfl (by decide) ?_
      refine wp_if_eq (tgt := 84) dX12_count_69 (by decide) (fun h69 => ?_) (fun h69 => ?_)
      · refine wp_iconst dX12_count_84 (by decide) ?_
        exact wp_iret dX12_count_85 rfl (fun _ => by simpa [cntR, atR, *] using hQ)
      · refine wp_aload_n dX12_count_72 rfl rfl (by first | exact Or.inl (by decide) | exact Or.inl (by omega) | exact Or.inr (by decide) | exact Or.inr (by omega)) ?_
        refine wp_getR dX12_count_73 fX12_70 rfl (by decide) ?_
        refine wp_topR (x' := 143) rfl ?_
        refine wp_aload_n dX12_count_76 rfl rfl (by first | exact Or.inl (by decide) | exact Or.inl (by omega) | exact Or.inr (by decide) | exact Or.inr (by omega)) ?_
        refine wp_getI dX12_count_77 fX12_482 rfl (by decide) ?_
        refine wp_iald dX12_count_80 rfl (by decide) (by omega) ?_
        refine wp_goto (tgt := 85) dX12_count_81 (by decide) ?_
        exact wp_iret dX12_count_85 rfl (fun _ => by simpa [cntR, atR, *] using hQ)
    · refine wp_tableIn (tgt := 86) dX12_count_1 (by decide) rfl (by decide) ?_
      refine wp_aload_n dX12_count_86 rfl rfl (by first | exact Or.inl (by decide) | exact Or.inl (by omega) | exact Or.inr (by decide) | exact Or.inr (by omega)) ?_
      refine wp_getI dX12_count_87 fX12_498 rfl (by decide) ?_
      refine wp_if_eq (tgt := 105) dX12_count_90 (by decide) (fun h90 => ?_) (fun h90 => ?_)
      · refine wp_iconst dX12_count_105 (by decide) ?_
        exact wp_iret dX12_count_106 rfl (fun _ => by simpa [cntR, atR, *] using hQ)
      · refine wp_aload_n dX12_count_93 rfl rfl (by first | exact Or.inl (by decide) | exact Or.inl (by omega) | exact Or.inr (by decide) | exact Or.inr (by omega)) ?_
        refine wp_getR dX12_count_94 fX12_104 rfl (by decide) ?_
        refine wp_topR (x' := 154) rfl ?_
        refine wp_aload_n dX12_count_97 rfl rfl (by first | exact Or.inl (by decide) | exact Or.inl (by omega) | exact Or.inr (by decide) | exact Or.inr (by omega)) ?_
        refine wp_getI dX12_count_98 fX12_482 rfl (by decide) ?_
        refine wp_iald dX12_count_101 rfl (by decide) (by omega) ?_
        refine wp_goto (tgt := 106) dX12_count_102 (by decide) ?_
        exact wp_iret dX12_count_106 rfl (fun _ => by simpa [cntR, atR, *] using hQ)
    · refine wp_tableIn (tgt := 107) dX12_count_1 (by decide) rfl (by decide) ?_
      refine wp_aload_n dX12_count_107 rfl rfl (by first | exact Or.inl (by decide) | exact Or.inl (by omega) | exact Or.inr (by decide) | exact Or.inr (by omega)) ?_
      refine wp_getI dX12_count_108 fX12_501 rfl (by decide) ?_
      exact wp_iret dX12_count_111 rfl (fun _ => by simpa [cntR, atR, *] using hQ)
    · refine wp_tableIn (tgt := 112) dX12_count_1 (by decide) rfl (by decide) ?_
      refine wp_aload_n dX12_count_112 rfl rfl (by first | exact Or.inl (by decide) | exact Or.inl (by omega) | exact Or.inr (by decide) | exact Or.inr (by omega)) ?_
      refine wp_getI dX12_count_113 fX12_501 rfl (by decide) ?_
      refine wp_if_ne (tgt := 123) dX12_count_116 (by decide) (fun h116 => ?_) (fun h116 => ?_)
      · refine wp_aload_n dX12_count_123 rfl rfl (by first | exact Or.inl (by decide) | exact Or.inl (by omega) | exact Or.inr (by decide) | exact Or.inr (by omega)) ?_
        refine wp_getI dX12_count_124 fX12_661 rfl (by decide) ?_
        exact wp_iret dX12_count_127 rfl (fun _ => by simpa [cntR, atR, *] using hQ)
      · refine wp_iconst dX12_count_119 (by decide) ?_
        refine wp_goto (tgt := 127) dX12_count_120 (by decide) ?_
        exact wp_iret dX12_count_127 rfl (fun _ => by simpa [cntR, atR, *] using hQ)
    · refine wp_tableIn (tgt := 128) dX12_count_1 (by decide) rfl (by decide) ?_
      refine wp_aload_n dX12_count_128 rfl rfl (by first | exact Or.inl (by decide) | exact Or.inl (by omega) | exact Or.inr (by decide) | exact Or.inr (by omega)) ?_
      refine wp_getI dX12_count_129 fX12_476 rfl (by decide) ?_
      exact wp_iret dX12_count_132 rfl (fun _ => by simpa [cntR, atR, *] using hQ)
    · refine wp_tableIn (tgt := 133) dX12_count_1 (by decide) rfl (by decide) ?_
      refine wp_aload_n dX12_count_133 rfl rfl (by first | exact Or.inl (by decide) | exact Or.inl (by omega) | exact Or.inr (by decide) | exact Or.inr (by omega)) ?_
      refine wp_getI dX12_count_134 fX12_498 rfl (by decide) ?_
      refine wp_if_eq (tgt := 152) dX12_count_137 (by decide) (fun h137 => ?_) (fun h137 => ?_)
      · refine wp_iconst dX12_count_152 (by decide) ?_
        exact wp_iret dX12_count_153 rfl (fun _ => by simpa [cntR, atR, *] using hQ)
      · refine wp_aload_n dX12_count_140 rfl rfl (by first | exact Or.inl (by decide) | exact Or.inl (by omega) | exact Or.inr (by decide) | exact Or.inr (by omega)) ?_
        refine wp_getR dX12_count_141 fX12_61 rfl (by decide) ?_
        refine wp_topR (x' := 140) rfl ?_
        refine wp_aload_n dX12_count_144 rfl rfl (by first | exact Or.inl (by decide) | exact Or.inl (by omega) | exact Or.inr (by decide) | exact Or.inr (by omega)) ?_
        refine wp_getI dX12_count_145 fX12_482 rfl (by decide) ?_
        refine wp_iald dX12_count_148 rfl (by decide) (by omega) ?_
        refine wp_goto (tgt := 153) dX12_count_149 (by decide) ?_
        exact wp_iret dX12_count_153 rfl (fun _ => by simpa [cntR, atR, *] using hQ)
  · refine wp_tableOut (tgt := 154) dX12_count_1 (by omega) (by decide) ?_
    refine wp_bipush dX12_count_154 (by decide +kernel) (by decide) ?_
    exact wp_iret dX12_count_156 rfl (fun _ => by rw [show cntR MI k = -9 by unfold cntR; repeat rw [if_neg (by omega)]] at hQ; exact hQ)
end P36
