section P35
variable {cs : Cs} {Q : Option AV → Mm → Prop} {MI ML : Nat → Nat → Int} {d e nw th x : Nat} {a w pl sz br : Int}
theorem dX12_keep_0 : decode cX12_keep 0 = .ok (.aload_n 0, 1) := by decide +kernel
theorem dX12_keep_1 : decode cX12_keep 1 = .ok (.getfield 58, 3) := by decide +kernel
theorem dX12_keep_4 : decode cX12_keep 4 = .ok (.aload_n 0, 1) := by decide +kernel
theorem dX12_keep_5 : decode cX12_keep 5 = .ok (.getfield 328, 3) := by decide +kernel
theorem dX12_keep_8 : decode cX12_keep 8 = .ok (.iaload, 1) := by decide +kernel
theorem dX12_keep_9 : decode cX12_keep 9 = .ok (.sipush 2000, 3) := by decide +kernel
theorem dX12_keep_12 : decode cX12_keep 12 = .ok (.if_icmp .ne 11, 3) := by decide +kernel
theorem dX12_keep_15 : decode cX12_keep 15 = .ok (.aload_n 0, 1) := by decide +kernel
theorem dX12_keep_16 : decode cX12_keep 16 = .ok (.bipush (-3), 2) := by decide +kernel
theorem dX12_keep_18 : decode cX12_keep 18 = .ok (.iload_n 2, 1) := by decide +kernel
theorem dX12_keep_19 : decode cX12_keep 19 = .ok (.invokevirtual 293, 3) := by decide +kernel
theorem dX12_keep_22 : decode cX12_keep 22 = .ok (.return_, 1) := by decide +kernel
theorem dX12_keep_23 : decode cX12_keep 23 = .ok (.aload_n 0, 1) := by decide +kernel
theorem dX12_keep_24 : decode cX12_keep 24 = .ok (.getfield 55, 3) := by decide +kernel
theorem dX12_keep_27 : decode cX12_keep 27 = .ok (.sipush 2000, 3) := by decide +kernel
theorem dX12_keep_30 : decode cX12_keep 30 = .ok (.aload_n 0, 1) := by decide +kernel
theorem dX12_keep_31 : decode cX12_keep 31 = .ok (.getfield 328, 3) := by decide +kernel
theorem dX12_keep_34 : decode cX12_keep 34 = .ok (.imul, 1) := by decide +kernel
theorem dX12_keep_35 : decode cX12_keep 35 = .ok (.aload_n 0, 1) := by decide +kernel
theorem dX12_keep_36 : decode cX12_keep 36 = .ok (.getfield 58, 3) := by decide +kernel
theorem dX12_keep_39 : decode cX12_keep 39 = .ok (.aload_n 0, 1) := by decide +kernel
theorem dX12_keep_40 : decode cX12_keep 40 = .ok (.getfield 328, 3) := by decide +kernel
theorem dX12_keep_43 : decode cX12_keep 43 = .ok (.iaload, 1) := by decide +kernel
theorem dX12_keep_44 : decode cX12_keep 44 = .ok (.iadd, 1) := by decide +kernel
theorem dX12_keep_45 : decode cX12_keep 45 = .ok (.iload_n 1, 1) := by decide +kernel
theorem dX12_keep_46 : decode cX12_keep 46 = .ok (.i2b, 1) := by decide +kernel
theorem dX12_keep_47 : decode cX12_keep 47 = .ok (.bastore, 1) := by decide +kernel
theorem dX12_keep_48 : decode cX12_keep 48 = .ok (.aload_n 0, 1) := by decide +kernel
theorem dX12_keep_49 : decode cX12_keep 49 = .ok (.getfield 58, 3) := by decide +kernel
theorem dX12_keep_52 : decode cX12_keep 52 = .ok (.aload_n 0, 1) := by decide +kernel
theorem dX12_keep_53 : decode cX12_keep 53 = .ok (.getfield 328, 3) := by decide +kernel
theorem dX12_keep_56 : decode cX12_keep 56 = .ok (.dup2, 1) := by decide +kernel
theorem dX12_keep_57 : decode cX12_keep 57 = .ok (.iaload, 1) := by decide +kernel
theorem dX12_keep_58 : decode cX12_keep 58 = .ok (.iconst 1, 1) := by decide +kernel
theorem dX12_keep_59 : decode cX12_keep 59 = .ok (.iadd, 1) := by decide +kernel
theorem dX12_keep_60 : decode cX12_keep 60 = .ok (.iastore, 1) := by decide +kernel
theorem dX12_keep_61 : decode cX12_keep 61 = .ok (.return_, 1) := by decide +kernel
theorem w_keep_g {v p : Int} (hb : 0 ≤ MI 124 8 ∧ MI 124 8 ≤ 1) (hp : 0 ≤ MI 139 (MI 124 8).toNat ∧ MI 139 (MI 124 8).toNat ≤ 2000)
    (hT : MI 139 (MI 124 8).toNat < 2000 → Q none (Mr (up2 (up2 MI 138 (2000 * MI 124 8 + MI 139 (MI 124 8).toNat).toNat (i_2b v)) 139 (MI 124 8).toNat (MI 139 (MI 124 8).toNat + 1)) ML d e nw th x a 0 pl sz br)) (hF : MI 139 (MI 124 8).toNat = 2000 → Q none (Mr MI ML d e nw th x a (-3) p sz br)) : wp cs mX12_keep KD Q 0 (padL [vR 124, vI v, vI p] 3) [] (KD, Mr MI ML d e nw th x a 0 pl sz br) := by
  refine wp_L (L' := [some (vR 124), some (vI v), some (vI p)]) rfl ?_
  refine wp_aload_n dX12_keep_0 rfl rfl (by first | exact Or.inl (by decide) | exact Or.inl (by omega) | exact Or.inr (by decide) | exact Or.inr (by omega)) ?_
  refine wp_getR dX12_keep_1 fX12_58 rfl (by decide) ?_
  refine wp_topR (x' := 139) rfl ?_
  refine wp_aload_n dX12_keep_4 rfl rfl (by first | exact Or.inl (by decide) | exact Or.inl (by omega) | exact Or.inr (by decide) | exact Or.inr (by omega)) ?_
  refine wp_getI dX12_keep_5 fX12_328 rfl (by decide) ?_
  refine wp_topI (x' := (MI 124 8)) rfl ?_
  refine wp_iald dX12_keep_8 rfl (by decide) (by omega) ?_
  refine wp_topI (x' := MI 139 (MI 124 8).toNat) (by first | exact rs_off (by decide) _ | (rw [up2_ne (by decide)]; exact rs_off (by decide) _)) ?_
  refine wp_sipush dX12_keep_9 (by decide +kernel) (by decide) ?_
  refine wp_icmp_ne (tgt := 23) dX12_keep_12 (by decide) (fun h12 => ?_) (fun h12 => ?_)
  · refine wp_aload_n dX12_keep_23 rfl rfl (by first | exact Or.inl (by decide) | exact Or.inl (by omega) | exact Or.inr (by decide) | exact Or.inr (by omega)) ?_
    refine wp_getR dX12_keep_24 fX12_55 rfl (by decide) ?_
    refine wp_topR (x' := 138) rfl ?_
    refine wp_sipush dX12_keep_27 (by decide +kernel) (by decide) ?_
    refine wp_aload_n dX12_keep_30 rfl rfl (by first | exact Or.inl (by decide) | exact Or.inl (by omega) | exact Or.inr (by decide) | exact Or.inr (by omega)) ?_
    refine wp_getI dX12_keep_31 fX12_328 rfl (by decide) ?_
    refine wp_topI (x' := (MI 124 8)) rfl ?_
    refine wp_imulr dX12_keep_34 (by omega) ?_
    refine wp_aload_n dX12_keep_35 rfl rfl (by first | exact Or.inl (by decide) | exact Or.inl (by omega) | exact Or.inr (by decide) | exact Or.inr (by omega)) ?_
    refine wp_pc (pc' := 36) rfl ?_
    refine wp_getR dX12_keep_36 fX12_58 rfl (by decide) ?_
    refine wp_topR (x' := 139) rfl ?_
    refine wp_aload_n dX12_keep_39 rfl rfl (by first | exact Or.inl (by decide) | exact Or.inl (by omega) | exact Or.inr (by decide) | exact Or.inr (by omega)) ?_
    refine wp_getI dX12_keep_40 fX12_328 rfl (by decide) ?_
    refine wp_topI (x' := (MI 124 8)) rfl ?_
    refine wp_iald dX12_keep_43 rfl (by decide) (by omega) ?_
    refine wp_topI (x' := MI 139 (MI 124 8).toNat) (by first | exact rs_off (by decide) _ | (rw [up2_ne (by decide)]; exact rs_off (by decide) _)) ?_
    refine wp_iaddr dX12_keep_44 (by omega) ?_
    refine wp_iload_n dX12_keep_45 rfl rfl ?_
    refine wp_i2b dX12_keep_46 ?_
    refine wp_bast dX12_keep_47 rfl (by decide) (by omega) (b_2b _) ?_
    refine wp_pc (pc' := 48) rfl ?_
    refine wp_aload_n dX12_keep_48 rfl rfl (by first | exact Or.inl (by decide) | exact Or.inl (by omega) | exact Or.inr (by decide) | exact Or.inr (by omega)) ?_
    refine wp_getR dX12_keep_49 fX12_58 rfl (by decide) ?_
    refine wp_topR (x' := 139) rfl ?_
    refine wp_aload_n dX12_keep_52 rfl rfl (by first | exact Or.inl (by decide) | exact Or.inl (by omega) | exact Or.inr (by decide) | exact Or.inr (by omega)) ?_
    refine wp_getI dX12_keep_53 fX12_328 rfl (by decide) ?_
    refine wp_topI (x' := (MI 124 8)) rfl ?_
    refine wp_dup2 dX12_keep_56 (fun x e => by cases e) (fun x e => by cases e) ?_
    refine wp_iald dX12_keep_57 rfl (by decide) (by omega) ?_
    refine wp_topI (x' := MI 139 (MI 124 8).toNat) (by first | exact rs_off (by decide) _ | (rw [up2_ne (by decide)]; exact rs_off (by decide) _)) ?_
    refine wp_iconst dX12_keep_58 (by decide) ?_
    refine wp_iaddr dX12_keep_59 (by omega) ?_
    refine wp_pc (pc' := 60) rfl ?_
    refine wp_iast dX12_keep_60 rfl (by decide) (by omega) ?_
    exact wp_vret dX12_keep_61 rfl (fun _ => by rw [rs_up (by decide), rs_up (by decide)]; exact hT (by omega))
  · refine wp_aload_n dX12_keep_15 rfl rfl (by first | exact Or.inl (by decide) | exact Or.inl (by omega) | exact Or.inr (by decide) | exact Or.inr (by omega)) ?_
    refine wp_bipush dX12_keep_16 (by decide +kernel) (by decide) ?_
    refine wp_iload_n dX12_keep_18 rfl rfl ?_
    refine wp_cV (n := 2) (mt' := mX12_fail) (as := [vI ((-3)), vI p]) (rest := []) none ((rs MI a (-3) p sz br), ML, (GR d e nw th x)) dX12_keep_19 lX12_293 kX12_fail vX12_fail (by decide) (by decide +kernel) rfl (Nat.le_of_ble_eq_true rfl) (by decide) rfl rfl rfl (Nat.le_of_ble_eq_true rfl) (fun hM hS Q' hq => w_X12_fail (fun _ => hq) (fun q => absurd rfl q)) (fun hM => ?_)
    exact wp_vret dX12_keep_22 rfl (fun _ => hF (by omega))
end P35
