/-- the first m of a row are x -/
def fl (MI : Nat → Nat → Int) (r m : Nat) (x : Int) : Nat → Nat → Int := fun i k => if i = r ∧ k < m then x else MI i k
theorem fl_0 {MI : Nat → Nat → Int} {r : Nat} {x : Int} : fl MI r 0 x = MI := by funext i k; simp [fl]
theorem fl_s {MI : Nat → Nat → Int} {r m : Nat} {x : Int} : up2 (fl MI r m x) r m x = fl MI r (m + 1) x := by
  funext i k
  unfold up2 fl
  by_cases h : i = r
  · subst h
    by_cases h2 : k = m
    · subst h2; simp
    · by_cases h3 : k < m
      · simp [h2, h3, show k < m + 1 by omega]
      · simp [h2, h3, show ¬ k < m + 1 by omega]
  · simp [h]
section P29
variable {cs : Cs} {Q : Option AV → Mm → Prop} {MI ML : Nat → Nat → Int} {MR : Nat → Nat → Nat} {d e nw th x : Nat}
theorem dJ7_fill_53178_0 : decode cJ7_fill_53178 0 = .ok (.iconst 0, 1) := by decide +kernel
theorem dJ7_fill_53178_1 : decode cJ7_fill_53178 1 = .ok (.istore_n 2, 1) := by decide +kernel
theorem dJ7_fill_53178_2 : decode cJ7_fill_53178 2 = .ok (.aload_n 0, 1) := by decide +kernel
theorem dJ7_fill_53178_3 : decode cJ7_fill_53178 3 = .ok (.arraylength, 1) := by decide +kernel
theorem dJ7_fill_53178_4 : decode cJ7_fill_53178 4 = .ok (.istore_n 3, 1) := by decide +kernel
theorem dJ7_fill_53178_5 : decode cJ7_fill_53178 5 = .ok (.iload_n 2, 1) := by decide +kernel
theorem dJ7_fill_53178_6 : decode cJ7_fill_53178 6 = .ok (.iload_n 3, 1) := by decide +kernel
theorem dJ7_fill_53178_7 : decode cJ7_fill_53178 7 = .ok (.if_icmp .ge 13, 3) := by decide +kernel
theorem dJ7_fill_53178_10 : decode cJ7_fill_53178 10 = .ok (.aload_n 0, 1) := by decide +kernel
theorem dJ7_fill_53178_11 : decode cJ7_fill_53178 11 = .ok (.iload_n 2, 1) := by decide +kernel
theorem dJ7_fill_53178_12 : decode cJ7_fill_53178 12 = .ok (.iload_n 1, 1) := by decide +kernel
theorem dJ7_fill_53178_13 : decode cJ7_fill_53178 13 = .ok (.iastore, 1) := by decide +kernel
theorem dJ7_fill_53178_14 : decode cJ7_fill_53178 14 = .ok (.iinc 2 1, 3) := by decide +kernel
theorem dJ7_fill_53178_17 : decode cJ7_fill_53178 17 = .ok (.goto (-12), 3) := by decide +kernel
theorem dJ7_fill_53178_20 : decode cJ7_fill_53178 20 = .ok (.return_, 1) := by decide +kernel
theorem w_fillI_l {r n : Nat} {v : Int} (hr : KD[r]? = some (0, n)) (hr2 : r < 1000000) (hn : n < 1000000) : ∀ (j m : Nat), m + j = n → Q none (fl MI r n v, ML, MR) → wp cs mJ7_fill_53178 KD Q 5 [some (vR r), some (vI v), some (vI (m : Int)), some (vI (n : Int))] [] (KD, fl MI r m v, ML, MR) := by
  intro j
  induction j with
  | zero =>
    intro m hm hQ
    refine wp_iload_n dJ7_fill_53178_5 rfl rfl ?_
    refine wp_iload_n dJ7_fill_53178_6 rfl rfl ?_
    refine wp_icmp_ge (tgt := 20) dJ7_fill_53178_7 (by decide) (fun h => ?_) (fun h => by omega)
    exact wp_vret dJ7_fill_53178_20 rfl (fun _ => by rw [show m = n by omega]; exact hQ)
  | succ j ih =>
    intro m hm hQ
    refine wp_iload_n dJ7_fill_53178_5 rfl rfl ?_
    refine wp_iload_n dJ7_fill_53178_6 rfl rfl ?_
    refine wp_icmp_ge (tgt := 20) dJ7_fill_53178_7 (by decide) (fun h => by omega) (fun h => ?_)
    refine wp_aload_n dJ7_fill_53178_10 rfl rfl (Or.inl hr2) ?_
    refine wp_iload_n dJ7_fill_53178_11 rfl rfl ?_
    refine wp_iload_n dJ7_fill_53178_12 rfl rfl ?_
    refine wp_iast dJ7_fill_53178_13 hr hr2 (by omega) ?_
    refine wp_M (M' := (fl MI r (m + 1) v, ML, MR)) (by rw [Int.toNat_natCast, fl_s]) ?_
    refine wp_iincr dJ7_fill_53178_14 rfl (by decide) (by omega) (wp_L (L' := [some (vR r), some (vI v), some (vI ((m + 1 : Nat) : Int)), some (vI (n : Int))]) rfl ?_)
    refine wp_goto (tgt := 5) dJ7_fill_53178_17 (by decide) ?_
    exact ih (m + 1) (by omega) hQ
theorem w_fillI {r n : Nat} {v : Int} (hr : KD[r]? = some (0, n)) (hr2 : r < 1000000) (hn : n < 1000000) (hQ : Q none (fl MI r n v, ML, MR)) : wp cs mJ7_fill_53178 KD Q 0 (padL [vR r, vI v] 4) [] (KD, MI, ML, MR) := by
  refine wp_L (L' := [some (vR r), some (vI v), none, none]) rfl ?_
  refine wp_iconst dJ7_fill_53178_0 (by decide) ?_
  refine wp_istore_n dJ7_fill_53178_1 rfl (by decide) (wp_L (L' := [some (vR r), some (vI v), some (vI 0), none]) rfl ?_)
  refine wp_aload_n dJ7_fill_53178_2 rfl rfl (Or.inl hr2) ?_
  refine wp_alen dJ7_fill_53178_3 hr (by decide) hr2 (by omega) ?_
  refine wp_istore_n dJ7_fill_53178_4 rfl (by decide) (wp_L (L' := [some (vR r), some (vI v), some (vI ((0 : Nat) : Int)), some (vI (n : Int))]) rfl ?_)
  refine wp_M (M' := (fl MI r 0 v, ML, MR)) (by rw [fl_0]) ?_
  exact w_fillI_l hr hr2 hn n 0 (by omega) hQ
theorem dJ7_fill_031fb_0 : decode cJ7_fill_031fb 0 = .ok (.iconst 0, 1) := by decide +kernel
theorem dJ7_fill_031fb_1 : decode cJ7_fill_031fb 1 = .ok (.istore_n 2, 1) := by decide +kernel
theorem dJ7_fill_031fb_2 : decode cJ7_fill_031fb 2 = .ok (.aload_n 0, 1) := by decide +kernel
theorem dJ7_fill_031fb_3 : decode cJ7_fill_031fb 3 = .ok (.arraylength, 1) := by decide +kernel
theorem dJ7_fill_031fb_4 : decode cJ7_fill_031fb 4 = .ok (.istore_n 3, 1) := by decide +kernel
theorem dJ7_fill_031fb_5 : decode cJ7_fill_031fb 5 = .ok (.iload_n 2, 1) := by decide +kernel
theorem dJ7_fill_031fb_6 : decode cJ7_fill_031fb 6 = .ok (.iload_n 3, 1) := by decide +kernel
theorem dJ7_fill_031fb_7 : decode cJ7_fill_031fb 7 = .ok (.if_icmp .ge 13, 3) := by decide +kernel
theorem dJ7_fill_031fb_10 : decode cJ7_fill_031fb 10 = .ok (.aload_n 0, 1) := by decide +kernel
theorem dJ7_fill_031fb_11 : decode cJ7_fill_031fb 11 = .ok (.iload_n 2, 1) := by decide +kernel
theorem dJ7_fill_031fb_12 : decode cJ7_fill_031fb 12 = .ok (.iload_n 1, 1) := by decide +kernel
theorem dJ7_fill_031fb_13 : decode cJ7_fill_031fb 13 = .ok (.bastore, 1) := by decide +kernel
theorem dJ7_fill_031fb_14 : decode cJ7_fill_031fb 14 = .ok (.iinc 2 1, 3) := by decide +kernel
theorem dJ7_fill_031fb_17 : decode cJ7_fill_031fb 17 = .ok (.goto (-12), 3) := by decide +kernel
theorem dJ7_fill_031fb_20 : decode cJ7_fill_031fb 20 = .ok (.return_, 1) := by decide +kernel
theorem w_fillB_l {r n : Nat} {v : Int} (hr : KD[r]? = some (1, n)) (hr2 : r < 1000000) (hn : n < 1000000) (hv : -128 ≤ v ∧ v < 128) : ∀ (j m : Nat), m + j = n → Q none (fl MI r n v, ML, MR) → wp cs mJ7_fill_031fb KD Q 5 [some (vR r), some (vI v), some (vI (m : Int)), some (vI (n : Int))] [] (KD, fl MI r m v, ML, MR) := by
  intro j
  induction j with
  | zero =>
    intro m hm hQ
    refine wp_iload_n dJ7_fill_031fb_5 rfl rfl ?_
    refine wp_iload_n dJ7_fill_031fb_6 rfl rfl ?_
    refine wp_icmp_ge (tgt := 20) dJ7_fill_031fb_7 (by decide) (fun h => ?_) (fun h => by omega)
    exact wp_vret dJ7_fill_031fb_20 rfl (fun _ => by rw [show m = n by omega]; exact hQ)
  | succ j ih =>
    intro m hm hQ
    refine wp_iload_n dJ7_fill_031fb_5 rfl rfl ?_
    refine wp_iload_n dJ7_fill_031fb_6 rfl rfl ?_
    refine wp_icmp_ge (tgt := 20) dJ7_fill_031fb_7 (by decide) (fun h => by omega) (fun h => ?_)
    refine wp_aload_n dJ7_fill_031fb_10 rfl rfl (Or.inl hr2) ?_
    refine wp_iload_n dJ7_fill_031fb_11 rfl rfl ?_
    refine wp_iload_n dJ7_fill_031fb_12 rfl rfl ?_
    refine wp_bast dJ7_fill_031fb_13 hr hr2 (by omega) hv ?_
    refine wp_M (M' := (fl MI r (m + 1) v, ML, MR)) (by rw [Int.toNat_natCast, fl_s]) ?_
    refine wp_iincr dJ7_fill_031fb_14 rfl (by decide) (by omega) (wp_L (L' := [some (vR r), some (vI v), some (vI ((m + 1 : Nat) : Int)), some (vI (n : Int))]) rfl ?_)
    refine wp_goto (tgt := 5) dJ7_fill_031fb_17 (by decide) ?_
    exact ih (m + 1) (by omega) hQ
theorem w_fillB {r n : Nat} {v : Int} (hr : KD[r]? = some (1, n)) (hr2 : r < 1000000) (hn : n < 1000000) (hv : -128 ≤ v ∧ v < 128) (hQ : Q none (fl MI r n v, ML, MR)) : wp cs mJ7_fill_031fb KD Q 0 (padL [vR r, vI v] 4) [] (KD, MI, ML, MR) := by
  refine wp_L (L' := [some (vR r), some (vI v), none, none]) rfl ?_
  refine wp_iconst dJ7_fill_031fb_0 (by decide) ?_
  refine wp_istore_n dJ7_fill_031fb_1 rfl (by decide) (wp_L (L' := [some (vR r), some (vI v), some (vI 0), none]) rfl ?_)
  refine wp_aload_n dJ7_fill_031fb_2 rfl rfl (Or.inl hr2) ?_
  refine wp_alen dJ7_fill_031fb_3 hr (by decide) hr2 (by omega) ?_
  refine wp_istore_n dJ7_fill_031fb_4 rfl (by decide) (wp_L (L' := [some (vR r), some (vI v), some (vI ((0 : Nat) : Int)), some (vI (n : Int))]) rfl ?_)
  refine wp_M (M' := (fl MI r 0 v, ML, MR)) (by rw [fl_0]) ?_
  exact w_fillB_l hr hr2 hn hv n 0 (by omega) hQ
theorem dX11_place_0 : decode cX11_place 0 = .ok (.aload_n 0, 1) := by decide +kernel
theorem dX11_place_1 : decode cX11_place 1 = .ok (.getfield 78, 3) := by decide +kernel
theorem dX11_place_4 : decode cX11_place 4 = .ok (.ireturn, 1) := by decide +kernel
theorem w_X11_place (hQ : Q (some (vI (MI 0 11))) (MI, ML, GR d e nw th x)) : wp cs mX11_place KD Q 0 (padL [vR 0] 1) [] (KD, MI, ML, GR d e nw th x) := by
  refine wp_L (L' := [some (vR 0)]) rfl ?_
  refine wp_aload_n dX11_place_0 rfl rfl (by first | exact Or.inl (by decide) | exact Or.inl (by omega) | exact Or.inr (by decide) | exact Or.inr (by omega)) ?_
  refine wp_getI dX11_place_1 fX11_78 rfl (by decide) ?_
  exact wp_iret dX11_place_4 rfl (fun _ => hQ)
theorem dX12_place_0 : decode cX12_place 0 = .ok (.aload_n 0, 1) := by decide +kernel
theorem dX12_place_1 : decode cX12_place 1 = .ok (.getfield 16, 3) := by decide +kernel
theorem dX12_place_4 : decode cX12_place 4 = .ok (.ireturn, 1) := by decide +kernel
theorem w_X12_place (hQ : Q (some (vI (MI 124 6))) (MI, ML, GR d e nw th x)) : wp cs mX12_place KD Q 0 (padL [vR 124] 1) [] (KD, MI, ML, GR d e nw th x) := by
  refine wp_L (L' := [some (vR 124)]) rfl ?_
  refine wp_aload_n dX12_place_0 rfl rfl (by first | exact Or.inl (by decide) | exact Or.inl (by omega) | exact Or.inr (by decide) | exact Or.inr (by omega)) ?_
  refine wp_getI dX12_place_1 fX12_16 rfl (by decide) ?_
  exact wp_iret dX12_place_4 rfl (fun _ => hQ)
theorem dX11_told_0 : decode cX11_told 0 = .ok (.iload_n 1, 1) := by decide +kernel
theorem dX11_told_1 : decode cX11_told 1 = .ok (.ifCond .lt 26, 3) := by decide +kernel
theorem dX11_told_4 : decode cX11_told 4 = .ok (.iload_n 1, 1) := by decide +kernel
theorem dX11_told_5 : decode cX11_told 5 = .ok (.aload_n 0, 1) := by decide +kernel
theorem dX11_told_6 : decode cX11_told 6 = .ok (.getfield 53, 3) := by decide +kernel
theorem dX11_told_9 : decode cX11_told 9 = .ok (.getfield 163, 3) := by decide +kernel
theorem dX11_told_12 : decode cX11_told 12 = .ok (.if_icmp .ge 15, 3) := by decide +kernel
theorem dX11_told_15 : decode cX11_told 15 = .ok (.aload_n 0, 1) := by decide +kernel
theorem dX11_told_16 : decode cX11_told 16 = .ok (.getfield 53, 3) := by decide +kernel
theorem dX11_told_19 : decode cX11_told 19 = .ok (.getfield 164, 3) := by decide +kernel
theorem dX11_told_22 : decode cX11_told 22 = .ok (.iload_n 1, 1) := by decide +kernel
theorem dX11_told_23 : decode cX11_told 23 = .ok (.iaload, 1) := by decide +kernel
theorem dX11_told_24 : decode cX11_told 24 = .ok (.goto 4, 3) := by decide +kernel
theorem dX11_told_27 : decode cX11_told 27 = .ok (.iconst (-1), 1) := by decide +kernel
theorem dX11_told_28 : decode cX11_told 28 = .ok (.ireturn, 1) := by decide +kernel
theorem w_X11_told {i : Int} (hb : MI 23 1 ≤ 600) (hT : 0 ≤ i ∧ i < MI 23 1 → Q (some (vI (MI 24 i.toNat))) (MI, ML, GR d e nw th x)) (hF : ¬ (0 ≤ i ∧ i < MI 23 1) → Q (some (vI (-1))) (MI, ML, GR d e nw th x)) : wp cs mX11_told KD Q 0 (padL [vR 0, vI i] 2) [] (KD, MI, ML, GR d e nw th x) := by
  refine wp_L (L' := [some (vR 0), some (vI i)]) rfl ?_
  refine wp_iload_n dX11_told_0 rfl rfl ?_
  refine wp_if_lt (tgt := 27) dX11_told_1 (by decide) (fun h1 => ?_) (fun h1 => ?_)
  · refine wp_iconst dX11_told_27 (by decide) ?_
    exact wp_iret dX11_told_28 rfl (fun _ => hF (by omega))
  · refine wp_iload_n dX11_told_4 rfl rfl ?_
    refine wp_aload_n dX11_told_5 rfl rfl (by first | exact Or.inl (by decide) | exact Or.inl (by omega) | exact Or.inr (by decide) | exact Or.inr (by omega)) ?_
    refine wp_getR dX11_told_6 fX11_53 rfl (by decide) ?_
    refine wp_topR (x' := 23) rfl ?_
    refine wp_getI dX11_told_9 fX11_163 rfl (by decide) ?_
    refine wp_icmp_ge (tgt := 27) dX11_told_12 (by decide) (fun h12 => ?_) (fun h12 => ?_)
    · refine wp_iconst dX11_told_27 (by decide) ?_
      exact wp_iret dX11_told_28 rfl (fun _ => hF (by omega))
    · refine wp_aload_n dX11_told_15 rfl rfl (by first | exact Or.inl (by decide) | exact Or.inl (by omega) | exact Or.inr (by decide) | exact Or.inr (by omega)) ?_
      refine wp_getR dX11_told_16 fX11_53 rfl (by decide) ?_
      refine wp_topR (x' := 23) rfl ?_
      refine wp_getR dX11_told_19 fX11_164 rfl (by decide) ?_
      refine wp_topR (x' := 24) rfl ?_
      refine wp_iload_n dX11_told_22 rfl rfl ?_
      refine wp_iald dX11_told_23 rfl (by decide) (by omega) ?_
      refine wp_goto (tgt := 28) dX11_told_24 (by decide) ?_
      exact wp_iret dX11_told_28 rfl (fun _ => hT (by omega))
theorem dX12_told_0 : decode cX12_told 0 = .ok (.iload_n 1, 1) := by decide +kernel
theorem dX12_told_1 : decode cX12_told 1 = .ok (.i2l, 1) := by decide +kernel
theorem dX12_told_2 : decode cX12_told 2 = .ok (.lconst 0, 1) := by decide +kernel
theorem dX12_told_3 : decode cX12_told 3 = .ok (.aload_n 0, 1) := by decide +kernel
theorem dX12_told_4 : decode cX12_told 4 = .ok (.getfield 504, 3) := by decide +kernel
theorem dX12_told_7 : decode cX12_told 7 = .ok (.iconst 1, 1) := by decide +kernel
theorem dX12_told_8 : decode cX12_told 8 = .ok (.isub, 1) := by decide +kernel
theorem dX12_told_9 : decode cX12_told 9 = .ok (.i2l, 1) := by decide +kernel
theorem dX12_told_10 : decode cX12_told 10 = .ok (.invokestatic 256, 3) := by decide +kernel
theorem dX12_told_13 : decode cX12_told 13 = .ok (.ifCond .eq 12, 3) := by decide +kernel
theorem dX12_told_16 : decode cX12_told 16 = .ok (.aload_n 0, 1) := by decide +kernel
theorem dX12_told_17 : decode cX12_told 17 = .ok (.getfield 170, 3) := by decide +kernel
theorem dX12_told_20 : decode cX12_told 20 = .ok (.iload_n 1, 1) := by decide +kernel
theorem dX12_told_21 : decode cX12_told 21 = .ok (.iaload, 1) := by decide +kernel
theorem dX12_told_22 : decode cX12_told 22 = .ok (.goto 4, 3) := by decide +kernel
theorem dX12_told_25 : decode cX12_told 25 = .ok (.iconst (-1), 1) := by decide +kernel
theorem dX12_told_26 : decode cX12_told 26 = .ok (.ireturn, 1) := by decide +kernel
theorem w_X12_told {i : Int} (hb : 0 ≤ MI 124 68 ∧ MI 124 68 ≤ 600) (hT : 0 ≤ i ∧ i < MI 124 68 → Q (some (vI (MI 176 i.toNat))) (MI, ML, GR d e nw th x)) (hF : ¬ (0 ≤ i ∧ i < MI 124 68) → Q (some (vI (-1))) (MI, ML, GR d e nw th x)) : wp cs mX12_told KD Q 0 (padL [vR 124, vI i] 2) [] (KD, MI, ML, GR d e nw th x) := by
  refine wp_L (L' := [some (vR 124), some (vI i)]) rfl ?_
  refine wp_iload_n dX12_told_0 rfl rfl ?_
  refine wp_i2l dX12_told_1 ?_
  refine wp_lconst (z := 0) dX12_told_2 (by decide +kernel) (by decide) ?_
  refine wp_aload_n dX12_told_3 rfl rfl (by first | exact Or.inl (by decide) | exact Or.inl (by omega) | exact Or.inr (by decide) | exact Or.inr (by omega)) ?_
  refine wp_getI dX12_told_4 fX12_504 rfl (by decide) ?_
  refine wp_iconst dX12_told_7 (by decide) ?_
  refine wp_isubr dX12_told_8 (by omega) ?_
  refine wp_pc (pc' := 9) rfl ?_
  refine wp_i2l dX12_told_9 ?_
  refine wp_cS (n := 3) (mt' := mX12_in) (as := [vL i, vL 0, vL (((MI 124 68) - 1))]) (rest := []) (some (vI ((bI (0 ≤ i ∧ i ≤ ((MI 124 68) - 1)))))) (MI, ML, (GR d e nw th x)) dX12_told_10 lX12_256 kX12_in vX12_in (by decide) (by decide +kernel) rfl (Nat.le_of_ble_eq_true rfl) rfl (Nat.le_of_ble_eq_true rfl) (fun hM hS Q' hq => w_X12_in hq) (fun hM => ?_)
  by_cases h10 : 0 ≤ i ∧ i ≤ ((MI 124 68) - 1)
  · refine wp_topI (x' := 1) (if_pos h10) ?_
    refine wp_if_eq (tgt := 25) dX12_told_13 (by decide) (fun q => absurd q (by decide)) (fun _ => ?_)
    refine wp_aload_n dX12_told_16 rfl rfl (by first | exact Or.inl (by decide) | exact Or.inl (by omega) | exact Or.inr (by decide) | exact Or.inr (by omega)) ?_
    refine wp_getR dX12_told_17 fX12_170 rfl (by decide) ?_
    refine wp_topR (x' := 176) rfl ?_
    refine wp_iload_n dX12_told_20 rfl rfl ?_
    refine wp_iald dX12_told_21 rfl (by decide) (by omega) ?_
    refine wp_goto (tgt := 26) dX12_told_22 (by decide) ?_
    exact wp_iret dX12_told_26 rfl (fun _ => hT (by omega))
  · refine wp_topI (x' := 0) (if_neg h10) ?_
    refine wp_if_eq (tgt := 25) dX12_told_13 (by decide) (fun _ => ?_) (fun q => absurd q (by decide))
    refine wp_iconst dX12_told_25 (by decide) ?_
    exact wp_iret dX12_told_26 rfl (fun _ => hF (by omega))
end P29
