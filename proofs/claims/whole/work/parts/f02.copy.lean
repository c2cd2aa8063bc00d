/-! A copy of bytes: only those that are copied must be bytes. -/
section Pf02a
variable {cs : Cs} {mt : Mth} {kf : Kd} {Q : Option AV → Mm → Prop} {pc : Nat} {L : Lc} {S : List AV} {kd : Kd} {MI ML : Nat → Nat → Int} {MR : Nat → Nat → Nat}
theorem wp_copyB2 {idx a b na nb : Nat} {sp dp n : Int} (hd : decode mt.2.1 pc = .ok (.invokestatic idx, 3)) (hl : Cond.methodLink mt.1.cls idx arraycopyName ∈ lw_tbl) (hnat : Cond.native arraycopyName ∈ lw_tbl) (hstat : Cond.static arraycopyName ∈ lw_tbl) (hini : Cond.initialized "java/lang/System" ∈ lw_tbl)
    (ha : kd[a]? = some (1, na)) (hb : kd[b]? = some (1, nb)) (hra : a < 1000000) (hrb : b < 1000000) (h1 : 0 ≤ sp) (h2 : 0 ≤ dp) (h3 : 0 ≤ n) (h4 : sp + n ≤ na) (h5 : dp + n ≤ nb) (hby : ∀ k, sp.toNat ≤ k → k < sp.toNat + n.toNat → -128 ≤ MI a k ∧ MI a k < 128) (hfr : 1 ≤ mt.2.2.2.2.1) (hlo : 40 ≤ mt.2.2.2.2.2) (hw : nativeFrameWords "java/lang/System" "arraycopy" 5 ≤ 20) (hcat : catS S ≤ 8)
    (kk : wp cs mt kf Q (pc + 3) L S (kd, cpy MI a sp.toNat b dp.toNat n.toNat, ML, MR)) : wp cs mt kf Q pc L (vI n :: vI dp :: vR b :: vI sp :: vR a :: S) (kd, MI, ML, MR) := by
  intro p l e R s m args below meth c H locs ls k0 hC hR hM hL hS hP hV hl'
  have hg := hC.2.2.2.2.2.2.2.1
  have on : okV (vI n) := hS.hd
  have od : okV (vI dp) := hS.tl.hd
  have os : okV (vI sp) := hS.tl.tl.tl.hd
  have f1 := hC.2.2.2.2.2.2.2.2.2.1
  have f2 := hC.2.2.2.2.2.2.2.2.2.2.1
  have neg : ∀ {z : Int}, okV (vI z) → 0 ≤ z → ¬ Int32.ofInt z < 0 := fun {z} oz hz => by
    rw [show (Int32.ofInt z < 0) = (Int32.ofInt z < Int32.ofInt 0) from rfl, tc10 oz (by omega)]; omega
  simp only [List.map_cons]
  rw [show cv cs (vR a) = .ref (cs.1 + a) from cr_cell hra, show cv cs (vR b) = .ref (cs.1 + b) from cr_cell hrb]
  refine va_copyi (sp := Int32.ofInt sp) (dp := Int32.ofInt dp) (n := Int32.ofInt n) hC.1 hC.2.1 (hC.2.2.1.trans hl'.1.symm) hC.2.2.2.2.1 (hg _ (gw_mem hl rfl)) (hg _ (gw_mem hnat rfl)) (hg _ (gw_mem hstat rfl)) (hg _ (gw_mem hini rfl)) hC.2.2.2.2.2.2.2.2.1 hP.1 (cW_D cs _) hV a b 1 1 (arr_i ha (Or.inr (Or.inl rfl)) _) (arr_i hb (Or.inr (Or.inl rfl)) _) rfl rfl rfl
    (neg os h1) (neg od h2) (neg on h3) (by rw [tc13 os, tc13 on]; omega) (by rw [tc13 od, tc13 on]; omega) (fun i hin => ?_) (Nat.le_trans hfr f1) ?_ hd (fun H1 locs1 g1 g2 g3 => ?_)
  · have hb' := hby ((Int32.ofInt sp).toNatClampNeg + i) (by rw [tc13 os]; omega) (by rw [tc13 on] at hin; rw [tc13 os]; omega)
    simp only [fits, decide_eq_true_eq, Bool.and_eq_true]
    show Int32.ofInt (-128) ≤ Int32.ofInt _ ∧ Int32.ofInt _ ≤ Int32.ofInt 127
    rw [tc11 (by omega) (by omega), tc11 (by omega) (by omega)]
    omega
  · rw [catS_eq hC.fmt]
    omega
  · have e1 : (cW cs (kd, MI, ML, MR)).set b (cs.1 + b, .inl (cs.2.2.2.1 1, nb, .inl (va_cpy (fun k => Int32.ofInt (MI a k)) (fun k => Int32.ofInt (MI b k)) (Int32.ofInt sp).toNatClampNeg (Int32.ofInt dp).toNatClampNeg (Int32.ofInt n).toNatClampNeg))) = cW cs (kd, cpy MI a sp.toNat b dp.toNat n.toNat, ML, MR) := by
      refine cW_set (M := (MI, ML, MR)) (M' := (cpy MI a sp.toNat b dp.toNat n.toNat, ML, MR)) hb (fun i hi q' => cE_off (fun k => by simp [cpy, hi]) (fun _ => rfl) (fun _ => rfl) q') ?_
      rw [tc13 os, tc13 od, tc13 on]
      show Sum.inl (_, _, Sum.inl (fun k => Int32.ofInt (cpy MI a sp.toNat b dp.toNat n.toNat b k))) = _
      have : (fun k => Int32.ofInt (cpy MI a sp.toNat b dp.toNat n.toNat b k)) = va_cpy (fun k => Int32.ofInt (MI a k)) (fun k => Int32.ofInt (MI b k)) sp.toNat dp.toNat n.toNat := by
        funext k
        unfold cpy va_cpy
        by_cases hk : dp.toNat ≤ k ∧ k < dp.toNat + n.toNat
        · rw [if_pos ⟨rfl, hk⟩, if_pos hk]
        · rw [if_neg (fun q => hk q.2), if_neg hk]
      rw [this]
    have hM' : okM (cpy MI a sp.toNat b dp.toNat n.toNat, ML, MR) := by
      refine ⟨fun i k => ?_, hM.2⟩
      show -2147483648 ≤ cpy MI a sp.toNat b dp.toNat n.toNat i k ∧ cpy MI a sp.toNat b dp.toNat n.toNat i k < 2147483648
      unfold cpy
      split
      · exact hM.1 _ _
      · exact hM.1 _ _
    have e1' : va_P cs.2.2.1 vwCl (cW cs (kd, cpy MI a sp.toNat b dp.toNat n.toNat, ML, MR)) H1 := by rw [← e1]; exact g1
    intro T hT X
    refine kk p l e R s m args below meth c H1 locs1 ls k0 hC hR hM' hL hS.tl.tl.tl.tl.tl ⟨e1', ?_⟩ g3 hl' T hT X
    have x1 := X.heapSize
    rw [hT] at x1
    have x2 : s.heap.size = cs.1 + k0.length := hR.2.2.1
    have x3 : k0.length ≤ kd.length := hR.2.2.2.1
    have x4 : kd.length - 1 < kd.length := by have := (List.getElem?_eq_some_iff.mp ha).1; omega
    have x5 := (e1' (kd.length - 1) _ (cW_get (List.getElem?_eq_getElem x4))).lt
    have x6 : H1.size ≤ s.heap.size + (kd.length - k0.length) := x1
    show H1.size = cs.1 + kd.length
    have x7 : cs.1 + (kd.length - 1) < H1.size := x5
    omega
end Pf02a
theorem v_X0_append_12b {cs : Cs} {Q : Option AV → Mm → Prop} {MI ML : Nat → Nat → Int} {b d e nw th x : Nat} {l2 s0 : Int} (hbd : b = 38 ∨ b = 81)
    (h : (((MI 28 16) < 2000 → (-2147483648 ≤ (MI 28 10) + s0 ∧ (MI 28 10) + s0 < 2147483648) ∧ (-2147483648 ≤ ((MI 28 10) + s0) + l2 ∧ ((MI 28 10) + s0) + l2 < 2147483648) ∧ ((2000 < (((MI 28 10) + s0) + l2) → Q none (MI, ML, (GR d e nw th x))) ∧ ((((MI 28 10) + s0) + l2) ≤ 2000 → ((s0 = 0 → (0 ≤ (MI 28 16) ∧ (MI 28 16) < 2000) ∧ ∀ m54, m54 = up2 MI 30 (MI 28 16).toNat (MI 28 10) → (0 ≤ (m54 28 16) ∧ (m54 28 16) < 2000) ∧ ∀ m67, m67 = up2 m54 34 (m54 28 16).toNat (m54 28 12) → ((0 : Int) ≤ l2 ∧ (0 : Int) ≤ (m67 28 12) ∧ (m67 28 12) + l2 ≤ 2000 ∧ (0 : Int) ≤ (m67 28 10) ∧ (m67 28 10) + l2 ≤ 2000 ∧ (∀ k, (m67 28 12).toNat ≤ k → k < (m67 28 12).toNat + l2.toNat → -128 ≤ m67 (b + 42) k ∧ m67 (b + 42) k < 128)) ∧ ∀ m119, m119 = cpy m67 (b + 42) (m67 28 12).toNat 29 (m67 28 10).toNat l2.toNat → (-2147483648 ≤ (m119 28 10) + l2 ∧ (m119 28 10) + l2 < 2147483648) ∧ ∀ m129, m129 = up2 m119 28 10 ((m119 28 10) + l2) → (-2147483648 ≤ (m129 28 11) + l2 ∧ (m129 28 11) + l2 < 2147483648) ∧ ∀ m139, m139 = up2 m129 28 11 ((m129 28 11) + l2) → Q none (m139, ML, (GR d e nw th x))) ∧ (s0 ≠ 0 → (0 ≤ (MI 28 10) ∧ (MI 28 10) < 2000) ∧ ∀ m81, m81 = up2 MI 29 (MI 28 10).toNat 32 → (-2147483648 ≤ (m81 28 10) + 1 ∧ (m81 28 10) + 1 < 2147483648) ∧ ∀ m89, m89 = up2 m81 28 10 ((m81 28 10) + 1) → (-2147483648 ≤ (m89 28 11) + 1 ∧ (m89 28 11) + 1 < 2147483648) ∧ ∀ m99, m99 = up2 m89 28 11 ((m89 28 11) + 1) → ((0 : Int) ≤ l2 ∧ (0 : Int) ≤ (m99 28 12) ∧ (m99 28 12) + l2 ≤ 2000 ∧ (0 : Int) ≤ (m99 28 10) ∧ (m99 28 10) + l2 ≤ 2000 ∧ (∀ k, (m99 28 12).toNat ≤ k → k < (m99 28 12).toNat + l2.toNat → -128 ≤ m99 (b + 42) k ∧ m99 (b + 42) k < 128)) ∧ ∀ m119, m119 = cpy m99 (b + 42) (m99 28 12).toNat 29 (m99 28 10).toNat l2.toNat → (-2147483648 ≤ (m119 28 10) + l2 ∧ (m119 28 10) + l2 < 2147483648) ∧ ∀ m129, m129 = up2 m119 28 10 ((m119 28 10) + l2) → (-2147483648 ≤ (m129 28 11) + l2 ∧ (m129 28 11) + l2 < 2147483648) ∧ ∀ m139, m139 = up2 m129 28 11 ((m129 28 11) + l2) → Q none (m139, ML, (GR d e nw th x))))))) ∧ (2000 ≤ (MI 28 16) → Q none (MI, ML, (GR d e nw th x))))) :
    wp cs mX0_append KD Q 12 [some (vR 28), some (vR b), some (vI l2), none] [vI s0] (KD, MI, ML, (GR d e nw th x)) := by
  refine wp_istore_n dX0_append_12 rfl (by decide) (wp_L (L' := [some (vR 28), some (vR b), some (vI l2), some (vI s0)]) rfl ?_)
  refine wp_aload_n dX0_append_13 rfl rfl (by first | exact Or.inl (by decide) | exact Or.inl (by omega) | exact Or.inr (by decide) | exact Or.inr (by omega)) ?_
  refine wp_getI dX0_append_14 fX0_62 rfl (by decide) ?_
  refine wp_sipush dX0_append_17 (by decide +kernel) (by decide) ?_
  refine wp_icmp_ge (tgt := 37) dX0_append_20 (by decide) (fun h20 => ?_) (fun h20 => ?_)
  · replace h := h.2 h20
    exact wp_vret dX0_append_37 rfl (fun _ => h)
  · replace h := h.1 h20
    refine wp_aload_n dX0_append_23 rfl rfl (by first | exact Or.inl (by decide) | exact Or.inl (by omega) | exact Or.inr (by decide) | exact Or.inr (by omega)) ?_
    refine wp_getI dX0_append_24 fX0_44 rfl (by decide) ?_
    refine wp_iload_n dX0_append_27 rfl rfl ?_
    have c0 := h.1
    replace h := h.2
    refine wp_iaddr dX0_append_28 c0 ?_
    refine wp_iload_n dX0_append_29 rfl rfl ?_
    have c1 := h.1
    replace h := h.2
    refine wp_iaddr dX0_append_30 c1 ?_
    refine wp_sipush dX0_append_31 (by decide +kernel) (by decide) ?_
    refine wp_pc (pc' := 34) rfl ?_
    refine wp_icmp_le (tgt := 38) dX0_append_34 (by decide) (fun h34 => ?_) (fun h34 => ?_)
    · replace h := h.2 h34
      refine wp_iload_n dX0_append_38 rfl rfl ?_
      refine wp_if_ne (tgt := 71) dX0_append_39 (by decide) (fun h39 => ?_) (fun h39 => ?_)
      · replace h := h.2 h39
        refine wp_aload_n dX0_append_71 rfl rfl (by first | exact Or.inl (by decide) | exact Or.inl (by omega) | exact Or.inr (by decide) | exact Or.inr (by omega)) ?_
        refine wp_getR dX0_append_72 fX0_9 rfl (by decide) ?_
        refine wp_topR (x' := 29) rfl ?_
        refine wp_aload_n dX0_append_75 rfl rfl (by first | exact Or.inl (by decide) | exact Or.inl (by omega) | exact Or.inr (by decide) | exact Or.inr (by omega)) ?_
        refine wp_getI dX0_append_76 fX0_44 rfl (by decide) ?_
        refine wp_bipush dX0_append_79 (by decide +kernel) (by decide) ?_
        have c2 := h.1
        replace h := h.2
        refine wp_bast dX0_append_81 rfl (by decide) c2 (by decide) ?_
        refine wp_gI (fun m81 e81 => ?_)
        replace h := h m81 e81
        refine wp_aload_n dX0_append_82 rfl rfl (by first | exact Or.inl (by decide) | exact Or.inl (by omega) | exact Or.inr (by decide) | exact Or.inr (by omega)) ?_
        refine wp_pc (pc' := 83) rfl ?_
        refine wp_dup dX0_append_83 (fun x e => by cases e) ?_
        refine wp_getI dX0_append_84 fX0_44 rfl (by decide) ?_
        refine wp_iconst dX0_append_87 (by decide) ?_
        have c3 := h.1
        replace h := h.2
        refine wp_iaddr dX0_append_88 c3 ?_
        refine wp_putI dX0_append_89 pX0_44 rfl (by decide) ?_
        refine wp_gI (fun m89 e89 => ?_)
        replace h := h m89 e89
        refine wp_aload_n dX0_append_92 rfl rfl (by first | exact Or.inl (by decide) | exact Or.inl (by omega) | exact Or.inr (by decide) | exact Or.inr (by omega)) ?_
        refine wp_dup dX0_append_93 (fun x e => by cases e) ?_
        refine wp_getI dX0_append_94 fX0_47 rfl (by decide) ?_
        refine wp_pc (pc' := 97) rfl ?_
        refine wp_iconst dX0_append_97 (by decide) ?_
        have c4 := h.1
        replace h := h.2
        refine wp_iaddr dX0_append_98 c4 ?_
        refine wp_putI dX0_append_99 pX0_47 rfl (by decide) ?_
        refine wp_gI (fun m99 e99 => ?_)
        replace h := h m99 e99
        refine wp_aload_n dX0_append_102 rfl rfl (by first | exact Or.inl (by decide) | exact Or.inl (by omega) | exact Or.inr (by decide) | exact Or.inr (by omega)) ?_
        refine wp_getR dX0_append_103 fX0_144 (show KD[b]? = some (7, 19) from kdb_0 hbd) (by omega) ?_
        refine wp_topR (x' := (b + 42)) (grb_0_13 hbd) ?_
        refine wp_aload_n dX0_append_106 rfl rfl (by first | exact Or.inl (by decide) | exact Or.inl (by omega) | exact Or.inr (by decide) | exact Or.inr (by omega)) ?_
        refine wp_getI dX0_append_107 fX0_50 rfl (by decide) ?_
        refine wp_aload_n dX0_append_110 rfl rfl (by first | exact Or.inl (by decide) | exact Or.inl (by omega) | exact Or.inr (by decide) | exact Or.inr (by omega)) ?_
        refine wp_pc (pc' := 111) rfl ?_
        refine wp_getR dX0_append_111 fX0_9 rfl (by decide) ?_
        refine wp_topR (x' := 29) rfl ?_
        refine wp_aload_n dX0_append_114 rfl rfl (by first | exact Or.inl (by decide) | exact Or.inl (by omega) | exact Or.inr (by decide) | exact Or.inr (by omega)) ?_
        refine wp_getI dX0_append_115 fX0_44 rfl (by decide) ?_
        refine wp_iload_n dX0_append_118 rfl rfl ?_
        have c5 := h.1
        replace h := h.2
        refine wp_copyB2 dX0_append_119 lX0_162 ac1 ac2 ac3 (kdb_42 hbd) rfl (by omega) (by decide) c5.2.1 c5.2.2.2.1 c5.1 c5.2.2.1 c5.2.2.2.2.1 c5.2.2.2.2.2 (by decide) (by decide) (by decide +kernel) (Nat.le_of_ble_eq_true rfl) ?_
        refine wp_gI (fun m119 e119 => ?_)
        replace h := h m119 e119
        refine wp_aload_n dX0_append_122 rfl rfl (by first | exact Or.inl (by decide) | exact Or.inl (by omega) | exact Or.inr (by decide) | exact Or.inr (by omega)) ?_
        refine wp_dup dX0_append_123 (fun x e => by cases e) ?_
        refine wp_getI dX0_append_124 fX0_44 rfl (by decide) ?_
        refine wp_pc (pc' := 127) rfl ?_
        refine wp_iload_n dX0_append_127 rfl rfl ?_
        have c6 := h.1
        replace h := h.2
        refine wp_iaddr dX0_append_128 c6 ?_
        refine wp_putI dX0_append_129 pX0_44 rfl (by decide) ?_
        refine wp_gI (fun m129 e129 => ?_)
        replace h := h m129 e129
        refine wp_aload_n dX0_append_132 rfl rfl (by first | exact Or.inl (by decide) | exact Or.inl (by omega) | exact Or.inr (by decide) | exact Or.inr (by omega)) ?_
        refine wp_dup dX0_append_133 (fun x e => by cases e) ?_
        refine wp_getI dX0_append_134 fX0_47 rfl (by decide) ?_
        refine wp_iload_n dX0_append_137 rfl rfl ?_
        have c7 := h.1
        replace h := h.2
        refine wp_iaddr dX0_append_138 c7 ?_
        refine wp_pc (pc' := 139) rfl ?_
        refine wp_putI dX0_append_139 pX0_47 rfl (by decide) ?_
        refine wp_gI (fun m139 e139 => ?_)
        replace h := h m139 e139
        exact wp_vret dX0_append_142 rfl (fun _ => h)
      · replace h := h.1 h39
        refine wp_aload_n dX0_append_42 rfl rfl (by first | exact Or.inl (by decide) | exact Or.inl (by omega) | exact Or.inr (by decide) | exact Or.inr (by omega)) ?_
        refine wp_getR dX0_append_43 fX0_15 rfl (by decide) ?_
        refine wp_topR (x' := 30) rfl ?_
        refine wp_aload_n dX0_append_46 rfl rfl (by first | exact Or.inl (by decide) | exact Or.inl (by omega) | exact Or.inr (by decide) | exact Or.inr (by omega)) ?_
        refine wp_getI dX0_append_47 fX0_62 rfl (by decide) ?_
        refine wp_aload_n dX0_append_50 rfl rfl (by first | exact Or.inl (by decide) | exact Or.inl (by omega) | exact Or.inr (by decide) | exact Or.inr (by omega)) ?_
        refine wp_getI dX0_append_51 fX0_44 rfl (by decide) ?_
        have c2 := h.1
        replace h := h.2
        refine wp_iast dX0_append_54 rfl (by decide) c2 ?_
        refine wp_gI (fun m54 e54 => ?_)
        replace h := h m54 e54
        refine wp_pc (pc' := 55) rfl ?_
        refine wp_aload_n dX0_append_55 rfl rfl (by first | exact Or.inl (by decide) | exact Or.inl (by omega) | exact Or.inr (by decide) | exact Or.inr (by omega)) ?_
        refine wp_getR dX0_append_56 fX0_28 rfl (by decide) ?_
        refine wp_topR (x' := 34) rfl ?_
        refine wp_aload_n dX0_append_59 rfl rfl (by first | exact Or.inl (by decide) | exact Or.inl (by omega) | exact Or.inr (by decide) | exact Or.inr (by omega)) ?_
        refine wp_getI dX0_append_60 fX0_62 rfl (by decide) ?_
        refine wp_aload_n dX0_append_63 rfl rfl (by first | exact Or.inl (by decide) | exact Or.inl (by omega) | exact Or.inr (by decide) | exact Or.inr (by omega)) ?_
        refine wp_getI dX0_append_64 fX0_50 rfl (by decide) ?_
        have c3 := h.1
        replace h := h.2
        refine wp_iast dX0_append_67 rfl (by decide) c3 ?_
        refine wp_gI (fun m67 e67 => ?_)
        replace h := h m67 e67
        refine wp_goto (tgt := 102) dX0_append_68 (by decide) ?_
        refine wp_pc (pc' := 102) rfl ?_
        refine wp_aload_n dX0_append_102 rfl rfl (by first | exact Or.inl (by decide) | exact Or.inl (by omega) | exact Or.inr (by decide) | exact Or.inr (by omega)) ?_
        refine wp_getR dX0_append_103 fX0_144 (show KD[b]? = some (7, 19) from kdb_0 hbd) (by omega) ?_
        refine wp_topR (x' := (b + 42)) (grb_0_13 hbd) ?_
        refine wp_aload_n dX0_append_106 rfl rfl (by first | exact Or.inl (by decide) | exact Or.inl (by omega) | exact Or.inr (by decide) | exact Or.inr (by omega)) ?_
        refine wp_getI dX0_append_107 fX0_50 rfl (by decide) ?_
        refine wp_aload_n dX0_append_110 rfl rfl (by first | exact Or.inl (by decide) | exact Or.inl (by omega) | exact Or.inr (by decide) | exact Or.inr (by omega)) ?_
        refine wp_getR dX0_append_111 fX0_9 rfl (by decide) ?_
        refine wp_topR (x' := 29) rfl ?_
        refine wp_aload_n dX0_append_114 rfl rfl (by first | exact Or.inl (by decide) | exact Or.inl (by omega) | exact Or.inr (by decide) | exact Or.inr (by omega)) ?_
        refine wp_getI dX0_append_115 fX0_44 rfl (by decide) ?_
        refine wp_pc (pc' := 118) rfl ?_
        refine wp_iload_n dX0_append_118 rfl rfl ?_
        have c4 := h.1
        replace h := h.2
        refine wp_copyB2 dX0_append_119 lX0_162 ac1 ac2 ac3 (kdb_42 hbd) rfl (by omega) (by decide) c4.2.1 c4.2.2.2.1 c4.1 c4.2.2.1 c4.2.2.2.2.1 c4.2.2.2.2.2 (by decide) (by decide) (by decide +kernel) (Nat.le_of_ble_eq_true rfl) ?_
        refine wp_gI (fun m119 e119 => ?_)
        replace h := h m119 e119
        refine wp_aload_n dX0_append_122 rfl rfl (by first | exact Or.inl (by decide) | exact Or.inl (by omega) | exact Or.inr (by decide) | exact Or.inr (by omega)) ?_
        refine wp_dup dX0_append_123 (fun x e => by cases e) ?_
        refine wp_getI dX0_append_124 fX0_44 rfl (by decide) ?_
        refine wp_iload_n dX0_append_127 rfl rfl ?_
        have c5 := h.1
        replace h := h.2
        refine wp_iaddr dX0_append_128 c5 ?_
        refine wp_putI dX0_append_129 pX0_44 rfl (by decide) ?_
        refine wp_gI (fun m129 e129 => ?_)
        replace h := h m129 e129
        refine wp_pc (pc' := 132) rfl ?_
        refine wp_aload_n dX0_append_132 rfl rfl (by first | exact Or.inl (by decide) | exact Or.inl (by omega) | exact Or.inr (by decide) | exact Or.inr (by omega)) ?_
        refine wp_dup dX0_append_133 (fun x e => by cases e) ?_
        refine wp_getI dX0_append_134 fX0_47 rfl (by decide) ?_
        refine wp_iload_n dX0_append_137 rfl rfl ?_
        have c6 := h.1
        replace h := h.2
        refine wp_iaddr dX0_append_138 c6 ?_
        refine wp_putI dX0_append_139 pX0_47 rfl (by decide) ?_
        refine wp_gI (fun m139 e139 => ?_)
        replace h := h m139 e139
        exact wp_vret dX0_append_142 rfl (fun _ => h)
    · replace h := h.1 h34
      exact wp_vret dX0_append_37 rfl (fun _ => h)
