theorem dX1_takeValue_0 : decode cX1_takeValue 0 = .ok (.aload_n 0, 1) := by decide +kernel
theorem dX1_takeValue_1 : decode cX1_takeValue 1 = .ok (.invokevirtual 61, 3) := by decide +kernel
theorem dX1_takeValue_4 : decode cX1_takeValue 4 = .ok (.istore_n 2, 1) := by decide +kernel
theorem dX1_takeValue_5 : decode cX1_takeValue 5 = .ok (.iload_n 2, 1) := by decide +kernel
theorem dX1_takeValue_6 : decode cX1_takeValue 6 = .ok (.bipush 34, 2) := by decide +kernel
theorem dX1_takeValue_8 : decode cX1_takeValue 8 = .ok (.if_icmp .eq 19, 3) := by decide +kernel
theorem dX1_takeValue_11 : decode cX1_takeValue 11 = .ok (.iload_n 2, 1) := by decide +kernel
theorem dX1_takeValue_12 : decode cX1_takeValue 12 = .ok (.bipush 39, 2) := by decide +kernel
theorem dX1_takeValue_14 : decode cX1_takeValue 14 = .ok (.if_icmp .eq 13, 3) := by decide +kernel
theorem dX1_takeValue_17 : decode cX1_takeValue 17 = .ok (.aload_n 0, 1) := by decide +kernel
theorem dX1_takeValue_18 : decode cX1_takeValue 18 = .ok (.iconst (-1), 1) := by decide +kernel
theorem dX1_takeValue_19 : decode cX1_takeValue 19 = .ok (.aload_n 0, 1) := by decide +kernel
theorem dX1_takeValue_20 : decode cX1_takeValue 20 = .ok (.getfield 19, 3) := by decide +kernel
theorem dX1_takeValue_23 : decode cX1_takeValue 23 = .ok (.invokevirtual 57, 3) := by decide +kernel
theorem dX1_takeValue_26 : decode cX1_takeValue 26 = .ok (.ireturn, 1) := by decide +kernel
theorem dX1_takeValue_27 : decode cX1_takeValue 27 = .ok (.aload_n 0, 1) := by decide +kernel
theorem dX1_takeValue_28 : decode cX1_takeValue 28 = .ok (.dup, 1) := by decide +kernel
theorem dX1_takeValue_29 : decode cX1_takeValue 29 = .ok (.getfield 19, 3) := by decide +kernel
theorem dX1_takeValue_32 : decode cX1_takeValue 32 = .ok (.iconst 1, 1) := by decide +kernel
theorem dX1_takeValue_33 : decode cX1_takeValue 33 = .ok (.iadd, 1) := by decide +kernel
theorem dX1_takeValue_34 : decode cX1_takeValue 34 = .ok (.putfield 19, 3) := by decide +kernel
theorem dX1_takeValue_37 : decode cX1_takeValue 37 = .ok (.iconst 0, 1) := by decide +kernel
theorem dX1_takeValue_38 : decode cX1_takeValue 38 = .ok (.istore_n 3, 1) := by decide +kernel
theorem dX1_takeValue_39 : decode cX1_takeValue 39 = .ok (.iload_n 3, 1) := by decide +kernel
theorem dX1_takeValue_40 : decode cX1_takeValue 40 = .ok (.aload_n 0, 1) := by decide +kernel
theorem dX1_takeValue_41 : decode cX1_takeValue 41 = .ok (.getfield 15, 3) := by decide +kernel
theorem dX1_takeValue_44 : decode cX1_takeValue 44 = .ok (.if_icmp .ge 102, 3) := by decide +kernel
theorem dX1_takeValue_47 : decode cX1_takeValue 47 = .ok (.aload_n 0, 1) := by decide +kernel
theorem dX1_takeValue_48 : decode cX1_takeValue 48 = .ok (.getfield 19, 3) := by decide +kernel
theorem dX1_takeValue_51 : decode cX1_takeValue 51 = .ok (.aload_n 0, 1) := by decide +kernel
theorem dX1_takeValue_52 : decode cX1_takeValue 52 = .ok (.getfield 15, 3) := by decide +kernel
theorem dX1_takeValue_55 : decode cX1_takeValue 55 = .ok (.if_icmp .ge 91, 3) := by decide +kernel
theorem dX1_takeValue_58 : decode cX1_takeValue 58 = .ok (.aload_n 0, 1) := by decide +kernel
theorem dX1_takeValue_59 : decode cX1_takeValue 59 = .ok (.invokevirtual 61, 3) := by decide +kernel
theorem dX1_takeValue_62 : decode cX1_takeValue 62 = .ok (.iload_n 2, 1) := by decide +kernel
theorem dX1_takeValue_63 : decode cX1_takeValue 63 = .ok (.if_icmp .eq 83, 3) := by decide +kernel
theorem dX1_takeValue_66 : decode cX1_takeValue 66 = .ok (.aload_n 0, 1) := by decide +kernel
theorem dX1_takeValue_67 : decode cX1_takeValue 67 = .ok (.getfield 19, 3) := by decide +kernel
theorem dX1_takeValue_70 : decode cX1_takeValue 70 = .ok (.istore 4, 2) := by decide +kernel
theorem dX1_takeValue_72 : decode cX1_takeValue 72 = .ok (.aload_n 0, 1) := by decide +kernel
theorem dX1_takeValue_73 : decode cX1_takeValue 73 = .ok (.invokevirtual 61, 3) := by decide +kernel
theorem dX1_takeValue_76 : decode cX1_takeValue 76 = .ok (.istore 5, 2) := by decide +kernel
theorem dX1_takeValue_78 : decode cX1_takeValue 78 = .ok (.iload 5, 2) := by decide +kernel
theorem dX1_takeValue_80 : decode cX1_takeValue 80 = .ok (.bipush 60, 2) := by decide +kernel
theorem dX1_takeValue_82 : decode cX1_takeValue 82 = .ok (.if_icmp .ne 13, 3) := by decide +kernel
theorem dX1_takeValue_85 : decode cX1_takeValue 85 = .ok (.aload_n 0, 1) := by decide +kernel
theorem dX1_takeValue_86 : decode cX1_takeValue 86 = .ok (.iconst (-1), 1) := by decide +kernel
theorem dX1_takeValue_87 : decode cX1_takeValue 87 = .ok (.aload_n 0, 1) := by decide +kernel
theorem dX1_takeValue_88 : decode cX1_takeValue 88 = .ok (.getfield 19, 3) := by decide +kernel
theorem dX1_takeValue_91 : decode cX1_takeValue 91 = .ok (.invokevirtual 57, 3) := by decide +kernel
theorem dX1_takeValue_94 : decode cX1_takeValue 94 = .ok (.ireturn, 1) := by decide +kernel
theorem dX1_takeValue_95 : decode cX1_takeValue 95 = .ok (.aload_n 0, 1) := by decide +kernel
theorem dX1_takeValue_96 : decode cX1_takeValue 96 = .ok (.invokevirtual 112, 3) := by decide +kernel
theorem dX1_takeValue_99 : decode cX1_takeValue 99 = .ok (.istore 6, 2) := by decide +kernel
theorem dX1_takeValue_101 : decode cX1_takeValue 101 = .ok (.iload 6, 2) := by decide +kernel
theorem dX1_takeValue_103 : decode cX1_takeValue 103 = .ok (.iconst (-1), 1) := by decide +kernel
theorem dX1_takeValue_104 : decode cX1_takeValue 104 = .ok (.if_icmp .ne 5, 3) := by decide +kernel
theorem dX1_takeValue_107 : decode cX1_takeValue 107 = .ok (.iconst 0, 1) := by decide +kernel
theorem dX1_takeValue_108 : decode cX1_takeValue 108 = .ok (.ireturn, 1) := by decide +kernel
theorem dX1_takeValue_109 : decode cX1_takeValue 109 = .ok (.aload_n 1, 1) := by decide +kernel
theorem dX1_takeValue_110 : decode cX1_takeValue 110 = .ok (.iload 5, 2) := by decide +kernel
theorem dX1_takeValue_112 : decode cX1_takeValue 112 = .ok (.invokestatic 64, 3) := by decide +kernel
theorem dX1_takeValue_115 : decode cX1_takeValue 115 = .ok (.ifCond .eq 8, 3) := by decide +kernel
theorem dX1_takeValue_118 : decode cX1_takeValue 118 = .ok (.bipush 32, 2) := by decide +kernel
theorem dX1_takeValue_120 : decode cX1_takeValue 120 = .ok (.goto 5, 3) := by decide +kernel
theorem dX1_takeValue_123 : decode cX1_takeValue 123 = .ok (.iload 6, 2) := by decide +kernel
theorem dX1_takeValue_125 : decode cX1_takeValue 125 = .ok (.invokevirtual 115, 3) := by decide +kernel
theorem dX1_takeValue_128 : decode cX1_takeValue 128 = .ok (.ifCond .ne 12, 3) := by decide +kernel
theorem dX1_takeValue_131 : decode cX1_takeValue 131 = .ok (.aload_n 0, 1) := by decide +kernel
theorem dX1_takeValue_132 : decode cX1_takeValue 132 = .ok (.bipush (-3), 2) := by decide +kernel
theorem dX1_takeValue_134 : decode cX1_takeValue 134 = .ok (.iload 4, 2) := by decide +kernel
theorem dX1_takeValue_136 : decode cX1_takeValue 136 = .ok (.invokevirtual 57, 3) := by decide +kernel
theorem dX1_takeValue_139 : decode cX1_takeValue 139 = .ok (.ireturn, 1) := by decide +kernel
theorem dX1_takeValue_140 : decode cX1_takeValue 140 = .ok (.iinc 3 1, 3) := by decide +kernel
theorem dX1_takeValue_143 : decode cX1_takeValue 143 = .ok (.goto (-104), 3) := by decide +kernel
theorem dX1_takeValue_146 : decode cX1_takeValue 146 = .ok (.aload_n 0, 1) := by decide +kernel
theorem dX1_takeValue_147 : decode cX1_takeValue 147 = .ok (.getfield 19, 3) := by decide +kernel
theorem dX1_takeValue_150 : decode cX1_takeValue 150 = .ok (.aload_n 0, 1) := by decide +kernel
theorem dX1_takeValue_151 : decode cX1_takeValue 151 = .ok (.getfield 15, 3) := by decide +kernel
theorem dX1_takeValue_154 : decode cX1_takeValue 154 = .ok (.if_icmp .lt 13, 3) := by decide +kernel
theorem dX1_takeValue_157 : decode cX1_takeValue 157 = .ok (.aload_n 0, 1) := by decide +kernel
theorem dX1_takeValue_158 : decode cX1_takeValue 158 = .ok (.iconst (-1), 1) := by decide +kernel
theorem dX1_takeValue_159 : decode cX1_takeValue 159 = .ok (.aload_n 0, 1) := by decide +kernel
theorem dX1_takeValue_160 : decode cX1_takeValue 160 = .ok (.getfield 19, 3) := by decide +kernel
theorem dX1_takeValue_163 : decode cX1_takeValue 163 = .ok (.invokevirtual 57, 3) := by decide +kernel
theorem dX1_takeValue_166 : decode cX1_takeValue 166 = .ok (.ireturn, 1) := by decide +kernel
theorem dX1_takeValue_167 : decode cX1_takeValue 167 = .ok (.aload_n 0, 1) := by decide +kernel
theorem dX1_takeValue_168 : decode cX1_takeValue 168 = .ok (.dup, 1) := by decide +kernel
theorem dX1_takeValue_169 : decode cX1_takeValue 169 = .ok (.getfield 19, 3) := by decide +kernel
theorem dX1_takeValue_172 : decode cX1_takeValue 172 = .ok (.iconst 1, 1) := by decide +kernel
theorem dX1_takeValue_173 : decode cX1_takeValue 173 = .ok (.iadd, 1) := by decide +kernel
theorem dX1_takeValue_174 : decode cX1_takeValue 174 = .ok (.putfield 19, 3) := by decide +kernel
theorem dX1_takeValue_177 : decode cX1_takeValue 177 = .ok (.iconst 1, 1) := by decide +kernel
theorem dX1_takeValue_178 : decode cX1_takeValue 178 = .ok (.ireturn, 1) := by decide +kernel
section P34
variable {cs : Cs} {Q : Option AV → Mm → Prop} {ML : Nat → Nat → Int} {b d e nw th : Nat} {nf nl ft fa : Int}
theorem w_takeValue_l {T : Nat → Int} {n q : Int} (hbd : b = 38 ∨ b = 81) (hq : q = 34 ∨ q = 39) : ∀ (k : Nat) (MI : Nat → Nat → Int) (h t : Int) (r : Nat), MI 1 = T → MI 2 1 = n → 0 ≤ n ∧ n ≤ 6000 → 0 ≤ t ∧ t + 1 ≤ h ∧ h ≤ 6000 + 1 → (n - h).toNat < k → 0 ≤ MI b 14 ∧ 0 ≤ MI b 15 → MI b 14 + MI b 15 + r = 2000 →
    (∀ l y, vlF T n q k r h = .inr (l, y) → Q (some (vI 1)) (Mc (fed MI (b + 41) b 14 (MI b 14) (gl l) l.length) ML d e nw th y nf nl ft fa)) → (∀ f p a l, vlF T n q k r h = .inl (f, p) → Q (some (vI 0)) (Mc (fed MI (b + 41) b 14 (MI b 14) (gl l) l.length) ML d e nw th a nf nl f p)) → wp cs mX1_takeValue KD Q 39 [some (vR 2), some (vR b), some (vI q), some (vI t), none, none, none] [] (KD, Mc MI ML d e nw th h nf nl ft fa) := by
  intro k
  induction k with
  | zero => intro MI h t r _ _ _ _ hk; omega
  | succ k ih =>
    intro MI h t r e1 e2 hn ht hk hv hr hT hF
    subst e1
    subst e2
    have hs0 := hn.1
    have hsz := hn.2
    have hF0 : ∀ f p a, vlF (MI 1) (MI 2 1) q (k + 1) r h = .inl (f, p) → Q (some (vI 0)) (Mc MI ML d e nw th a nf nl f p) := fun f p a hx => by have := hF f p a [] hx; rw [(show fed MI (b + 41) b 14 (MI b 14) (gl []) ([] : List Int).length = MI from fed_0)] at this; exact this
    have hT0 : ∀ y, vlF (MI 1) (MI 2 1) q (k + 1) r h = .inr ([], y) → Q (some (vI 1)) (Mc MI ML d e nw th y nf nl ft fa) := fun y hx => by have := hT [] y hx; rw [(show fed MI (b + 41) b 14 (MI b 14) (gl []) ([] : List Int).length = MI from fed_0)] at this; exact this
    refine wp_iload_n dX1_takeValue_39 rfl rfl ?_
    refine wp_aload_n dX1_takeValue_40 rfl rfl (by first | exact Or.inl (by decide) | exact Or.inl (by omega) | exact Or.inr (by decide) | exact Or.inr (by omega)) ?_
    refine wp_getI dX1_takeValue_41 fX1_15 rfl (by decide) ?_
    refine wp_topI (x' := (MI 2 1)) rfl ?_
    refine wp_icmp_ge (tgt := 146) dX1_takeValue_44 (by decide) (fun h44 => ?_) (fun h44 => ?_)
    · have hout : ∀ _ : MI 2 1 ≤ h, ob (MI 1) (MI 2 1) h = -1 := fun z => ob_out (by omega)
      refine wp_aload_n dX1_takeValue_146 rfl rfl (by first | exact Or.inl (by decide) | exact Or.inl (by omega) | exact Or.inr (by decide) | exact Or.inr (by omega)) ?_
      refine wp_getI dX1_takeValue_147 fX1_19 rfl (by decide) ?_
      refine wp_topI (x' := h) rfl ?_
      refine wp_aload_n dX1_takeValue_150 rfl rfl (by first | exact Or.inl (by decide) | exact Or.inl (by omega) | exact Or.inr (by decide) | exact Or.inr (by omega)) ?_
      refine wp_getI dX1_takeValue_151 fX1_15 rfl (by decide) ?_
      refine wp_topI (x' := (MI 2 1)) rfl ?_
      refine wp_icmp_lt (tgt := 167) dX1_takeValue_154 (by decide) (fun h154 => ?_) (fun h154 => ?_)
      · refine wp_aload_n dX1_takeValue_167 rfl rfl (by first | exact Or.inl (by decide) | exact Or.inl (by omega) | exact Or.inr (by decide) | exact Or.inr (by omega)) ?_
        refine wp_dup dX1_takeValue_168 (fun x e => by cases e) ?_
        refine wp_getI dX1_takeValue_169 fX1_19 rfl (by decide) ?_
        refine wp_topI (x' := h) rfl ?_
        refine wp_iconst dX1_takeValue_172 (by decide) ?_
        refine wp_iaddr dX1_takeValue_173 (by omega) ?_
        refine wp_putI dX1_takeValue_174 pX1_19 rfl (by decide) ?_
        refine wp_M (M' := ((cu MI (h + 1) nf nl ft fa), ML, (GR d e nw th 1))) (by rw [cu_2]) ?_
        refine wp_iconst dX1_takeValue_177 (by decide) ?_
        refine wp_pc (pc' := 178) rfl ?_
        exact wp_zret dX1_takeValue_178 rfl (Or.inr rfl) (fun _ => hT0 _ (by rw [vlF, if_pos (by omega)]))
      · have hout := hout (by omega)
        refine wp_aload_n dX1_takeValue_157 rfl rfl (by first | exact Or.inl (by decide) | exact Or.inl (by omega) | exact Or.inr (by decide) | exact Or.inr (by omega)) ?_
        refine wp_iconst dX1_takeValue_158 (by decide) ?_
        refine wp_aload_n dX1_takeValue_159 rfl rfl (by first | exact Or.inl (by decide) | exact Or.inl (by omega) | exact Or.inr (by decide) | exact Or.inr (by omega)) ?_
        refine wp_getI dX1_takeValue_160 fX1_19 rfl (by decide) ?_
        refine wp_topI (x' := h) rfl ?_
        refine wp_cV (n := 2) (mt' := mX1_refuse) (as := [vI ((-1)), vI h]) (rest := []) (some (vI 0)) ((cu MI h nf nl (-1) h), ML, (GR d e nw th 1)) dX1_takeValue_163 lX1_57 kX1_refuse vX1_refuse (by decide) (by decide +kernel) rfl (Nat.le_of_ble_eq_true rfl) (by decide) rfl rfl rfl (Nat.le_of_ble_eq_true rfl) (fun hM hS Q' hq => w_X1_refuse hq) (fun hM => ?_)
        exact wp_zret dX1_takeValue_166 rfl (Or.inl rfl) (fun _ => hF0 _ _ _ (by rw [vlF, if_neg (by rw [hout]; omega), if_neg (by rw [hout]; omega), pcS, if_pos (by rw [hout]; omega), if_neg (by rw [hout]; omega)]))
    · refine wp_aload_n dX1_takeValue_47 rfl rfl (by first | exact Or.inl (by decide) | exact Or.inl (by omega) | exact Or.inr (by decide) | exact Or.inr (by omega)) ?_
      refine wp_getI dX1_takeValue_48 fX1_19 rfl (by decide) ?_
      refine wp_topI (x' := h) rfl ?_
      refine wp_aload_n dX1_takeValue_51 rfl rfl (by first | exact Or.inl (by decide) | exact Or.inl (by omega) | exact Or.inr (by decide) | exact Or.inr (by omega)) ?_
      refine wp_getI dX1_takeValue_52 fX1_15 rfl (by decide) ?_
      refine wp_topI (x' := (MI 2 1)) rfl ?_
      refine wp_icmp_ge (tgt := 146) dX1_takeValue_55 (by decide) (fun h55 => ?_) (fun h55 => ?_)
      · have hout : ∀ _ : MI 2 1 ≤ h, ob (MI 1) (MI 2 1) h = -1 := fun z => ob_out (by omega)
        refine wp_aload_n dX1_takeValue_146 rfl rfl (by first | exact Or.inl (by decide) | exact Or.inl (by omega) | exact Or.inr (by decide) | exact Or.inr (by omega)) ?_
        refine wp_getI dX1_takeValue_147 fX1_19 rfl (by decide) ?_
        refine wp_topI (x' := h) rfl ?_
        refine wp_aload_n dX1_takeValue_150 rfl rfl (by first | exact Or.inl (by decide) | exact Or.inl (by omega) | exact Or.inr (by decide) | exact Or.inr (by omega)) ?_
        refine wp_getI dX1_takeValue_151 fX1_15 rfl (by decide) ?_
        refine wp_topI (x' := (MI 2 1)) rfl ?_
        refine wp_icmp_lt (tgt := 167) dX1_takeValue_154 (by decide) (fun h154 => ?_) (fun h154 => ?_)
        · refine wp_aload_n dX1_takeValue_167 rfl rfl (by first | exact Or.inl (by decide) | exact Or.inl (by omega) | exact Or.inr (by decide) | exact Or.inr (by omega)) ?_
          refine wp_dup dX1_takeValue_168 (fun x e => by cases e) ?_
          refine wp_getI dX1_takeValue_169 fX1_19 rfl (by decide) ?_
          refine wp_topI (x' := h) rfl ?_
          refine wp_iconst dX1_takeValue_172 (by decide) ?_
          refine wp_iaddr dX1_takeValue_173 (by omega) ?_
          refine wp_putI dX1_takeValue_174 pX1_19 rfl (by decide) ?_
          refine wp_M (M' := ((cu MI (h + 1) nf nl ft fa), ML, (GR d e nw th 1))) (by rw [cu_2]) ?_
          refine wp_iconst dX1_takeValue_177 (by decide) ?_
          refine wp_pc (pc' := 178) rfl ?_
          exact wp_zret dX1_takeValue_178 rfl (Or.inr rfl) (fun _ => hT0 _ (by rw [vlF, if_pos (by omega)]))
        · have hout := hout (by omega)
          refine wp_aload_n dX1_takeValue_157 rfl rfl (by first | exact Or.inl (by decide) | exact Or.inl (by omega) | exact Or.inr (by decide) | exact Or.inr (by omega)) ?_
          refine wp_iconst dX1_takeValue_158 (by decide) ?_
          refine wp_aload_n dX1_takeValue_159 rfl rfl (by first | exact Or.inl (by decide) | exact Or.inl (by omega) | exact Or.inr (by decide) | exact Or.inr (by omega)) ?_
          refine wp_getI dX1_takeValue_160 fX1_19 rfl (by decide) ?_
          refine wp_topI (x' := h) rfl ?_
          refine wp_cV (n := 2) (mt' := mX1_refuse) (as := [vI ((-1)), vI h]) (rest := []) (some (vI 0)) ((cu MI h nf nl (-1) h), ML, (GR d e nw th 1)) dX1_takeValue_163 lX1_57 kX1_refuse vX1_refuse (by decide) (by decide +kernel) rfl (Nat.le_of_ble_eq_true rfl) (by decide) rfl rfl rfl (Nat.le_of_ble_eq_true rfl) (fun hM hS Q' hq => w_X1_refuse hq) (fun hM => ?_)
          exact wp_zret dX1_takeValue_166 rfl (Or.inl rfl) (fun _ => hF0 _ _ _ (by rw [vlF, if_neg (by rw [hout]; omega), if_neg (by rw [hout]; omega), pcS, if_pos (by rw [hout]; omega), if_neg (by rw [hout]; omega)]))
      · refine wp_aload_n dX1_takeValue_58 rfl rfl (by first | exact Or.inl (by decide) | exact Or.inl (by omega) | exact Or.inr (by decide) | exact Or.inr (by omega)) ?_
        refine wp_cV (n := 0) (mt' := mX1_peek) (as := []) (rest := []) (some (vI ((ob (MI 1) (MI 2 1) h)))) ((cu MI h nf nl ft fa), ML, (GR d e nw th 1)) dX1_takeValue_59 lX1_61 kX1_peek vX1_peek (by decide) (by decide +kernel) rfl (Nat.le_of_ble_eq_true rfl) (by decide) rfl rfl rfl (Nat.le_of_ble_eq_true rfl) (fun hM hS Q' hq => w_X1_peek hsz hq) (fun hM => ?_)
        refine wp_iload_n dX1_takeValue_62 rfl rfl ?_
        refine wp_icmp_eq (tgt := 146) dX1_takeValue_63 (by decide) (fun h63 => ?_) (fun h63 => ?_)
        · have hout : ∀ _ : MI 2 1 ≤ h, ob (MI 1) (MI 2 1) h = -1 := fun z => ob_out (by omega)
          refine wp_aload_n dX1_takeValue_146 rfl rfl (by first | exact Or.inl (by decide) | exact Or.inl (by omega) | exact Or.inr (by decide) | exact Or.inr (by omega)) ?_
          refine wp_getI dX1_takeValue_147 fX1_19 rfl (by decide) ?_
          refine wp_topI (x' := h) rfl ?_
          refine wp_aload_n dX1_takeValue_150 rfl rfl (by first | exact Or.inl (by decide) | exact Or.inl (by omega) | exact Or.inr (by decide) | exact Or.inr (by omega)) ?_
          refine wp_getI dX1_takeValue_151 fX1_15 rfl (by decide) ?_
          refine wp_topI (x' := (MI 2 1)) rfl ?_
          refine wp_icmp_lt (tgt := 167) dX1_takeValue_154 (by decide) (fun h154 => ?_) (fun h154 => ?_)
          · refine wp_aload_n dX1_takeValue_167 rfl rfl (by first | exact Or.inl (by decide) | exact Or.inl (by omega) | exact Or.inr (by decide) | exact Or.inr (by omega)) ?_
            refine wp_dup dX1_takeValue_168 (fun x e => by cases e) ?_
            refine wp_getI dX1_takeValue_169 fX1_19 rfl (by decide) ?_
            refine wp_topI (x' := h) rfl ?_
            refine wp_iconst dX1_takeValue_172 (by decide) ?_
            refine wp_iaddr dX1_takeValue_173 (by omega) ?_
            refine wp_putI dX1_takeValue_174 pX1_19 rfl (by decide) ?_
            refine wp_M (M' := ((cu MI (h + 1) nf nl ft fa), ML, (GR d e nw th 1))) (by rw [cu_2]) ?_
            refine wp_iconst dX1_takeValue_177 (by decide) ?_
            refine wp_pc (pc' := 178) rfl ?_
            exact wp_zret dX1_takeValue_178 rfl (Or.inr rfl) (fun _ => hT0 _ (by rw [vlF, if_pos (by omega)]))
          · have hout := hout (by omega)
            refine wp_aload_n dX1_takeValue_157 rfl rfl (by first | exact Or.inl (by decide) | exact Or.inl (by omega) | exact Or.inr (by decide) | exact Or.inr (by omega)) ?_
            refine wp_iconst dX1_takeValue_158 (by decide) ?_
            refine wp_aload_n dX1_takeValue_159 rfl rfl (by first | exact Or.inl (by decide) | exact Or.inl (by omega) | exact Or.inr (by decide) | exact Or.inr (by omega)) ?_
            refine wp_getI dX1_takeValue_160 fX1_19 rfl (by decide) ?_
            refine wp_topI (x' := h) rfl ?_
            refine wp_cV (n := 2) (mt' := mX1_refuse) (as := [vI ((-1)), vI h]) (rest := []) (some (vI 0)) ((cu MI h nf nl (-1) h), ML, (GR d e nw th 1)) dX1_takeValue_163 lX1_57 kX1_refuse vX1_refuse (by decide) (by decide +kernel) rfl (Nat.le_of_ble_eq_true rfl) (by decide) rfl rfl rfl (Nat.le_of_ble_eq_true rfl) (fun hM hS Q' hq => w_X1_refuse hq) (fun hM => ?_)
            exact wp_zret dX1_takeValue_166 rfl (Or.inl rfl) (fun _ => hF0 _ _ _ (by rw [vlF, if_neg (by rw [hout]; omega), if_neg (by rw [hout]; omega), pcS, if_pos (by rw [hout]; omega), if_neg (by rw [hout]; omega)]))
        · refine wp_aload_n dX1_takeValue_66 rfl rfl (by first | exact Or.inl (by decide) | exact Or.inl (by omega) | exact Or.inr (by decide) | exact Or.inr (by omega)) ?_
          refine wp_getI dX1_takeValue_67 fX1_19 rfl (by decide) ?_
          refine wp_topI (x' := h) rfl ?_
          refine wp_istore dX1_takeValue_70 (by decide) (wp_L (L' := [some (vR 2), some (vR b), some (vI q), some (vI t), some (vI h), none, none]) rfl ?_)
          refine wp_aload_n dX1_takeValue_72 rfl rfl (by first | exact Or.inl (by decide) | exact Or.inl (by omega) | exact Or.inr (by decide) | exact Or.inr (by omega)) ?_
          refine wp_cV (n := 0) (mt' := mX1_peek) (as := []) (rest := []) (some (vI ((ob (MI 1) (MI 2 1) h)))) ((cu MI h nf nl ft fa), ML, (GR d e nw th 1)) dX1_takeValue_73 lX1_61 kX1_peek vX1_peek (by decide) (by decide +kernel) rfl (Nat.le_of_ble_eq_true rfl) (by decide) rfl rfl rfl (Nat.le_of_ble_eq_true rfl) (fun hM hS Q' hq => w_X1_peek hsz hq) (fun hM => ?_)
          refine wp_istore dX1_takeValue_76 (by decide) (wp_L (L' := [some (vR 2), some (vR b), some (vI q), some (vI t), some (vI h), some (vI ((ob (MI 1) (MI 2 1) h))), none]) rfl ?_)
          refine wp_iload dX1_takeValue_78 rfl ?_
          refine wp_pc (pc' := 80) rfl ?_
          refine wp_bipush dX1_takeValue_80 (by decide +kernel) (by decide) ?_
          refine wp_icmp_ne (tgt := 95) dX1_takeValue_82 (by decide) (fun h82 => ?_) (fun h82 => ?_)
          · refine wp_aload_n dX1_takeValue_95 rfl rfl (by first | exact Or.inl (by decide) | exact Or.inl (by omega) | exact Or.inr (by decide) | exact Or.inr (by omega)) ?_
            refine wp_cVq (n := 0) (mt' := mX1_takePiece) (as := []) (rest := []) (fun r M' => (∃ c y, pcS (MI 1) (MI 2 1) h = .inr (c, y) ∧ r = some (vI c) ∧ M' = Mc MI ML d e nw th y nf nl ft fa) ∨ (∃ f p a, pcS (MI 1) (MI 2 1) h = .inl (f, p) ∧ r = some (vI (-1)) ∧ M' = Mc MI ML d e nw th a nf nl f p)) dX1_takeValue_96 lX1_112 kX1_takePiece vX1_takePiece (by decide) (by decide +kernel) rfl (Nat.le_of_ble_eq_true rfl) (by decide) rfl rfl rfl (Nat.le_of_ble_eq_true rfl) (fun hM hS => w_X1_takePiece hs0 hsz (by omega) (by omega) (fun c y hx => Or.inl ⟨c, y, hx, rfl, rfl⟩) (fun f p a hx => Or.inr ⟨f, p, a, hx, rfl, rfl⟩)) (fun r M' hq hM => ?_)
            rcases hq with ⟨c, y, hx, rfl, rfl⟩ | ⟨f, p, a, hx, rfl, rfl⟩
            · refine wp_istore dX1_takeValue_99 (by decide) (wp_L (L' := [some (vR 2), some (vR b), some (vI q), some (vI t), some (vI h), some (vI ((ob (MI 1) (MI 2 1) h))), some (vI c)]) rfl ?_)
              try have hpc := pcS_ok (by omega) hx
              refine wp_iload dX1_takeValue_101 rfl ?_
              refine wp_iconst dX1_takeValue_103 (by decide) ?_
              refine wp_icmp_ne (tgt := 109) dX1_takeValue_104 (by decide) (fun h104 => ?_) (fun h104 => ?_)
              · have hpc := pcS_ok (by omega) hx
                refine wp_aload_n dX1_takeValue_109 rfl rfl (by first | exact Or.inl (by decide) | exact Or.inl (by omega) | exact Or.inr (by decide) | exact Or.inr (by omega)) ?_
                refine wp_iload dX1_takeValue_110 rfl ?_
                refine wp_cS (n := 1) (mt' := mX1_isSpace) (as := [vI ((ob (MI 1) (MI 2 1) h))]) (rest := [vR b]) (some (vI ((bI (isSp (ob (MI 1) (MI 2 1) h)))))) ((cu MI y nf nl ft fa), ML, (GR d e nw th 1)) dX1_takeValue_112 lX1_64 kX1_isSpace vX1_isSpace (by decide) (by decide +kernel) rfl (Nat.le_of_ble_eq_true rfl) rfl (Nat.le_of_ble_eq_true rfl) (fun hM hS Q' hq => w_X1_isSpace hq) (fun hM => ?_)
                by_cases h112 : isSp (ob (MI 1) (MI 2 1) h)
                · refine wp_topI (x' := 1) (if_pos h112) ?_
                  refine wp_if_eq (tgt := 123) dX1_takeValue_115 (by decide) (fun q => absurd q (by decide)) (fun _ => ?_)
                  refine wp_bipush dX1_takeValue_118 (by decide +kernel) (by decide) ?_
                  refine wp_goto (tgt := 125) dX1_takeValue_120 (by decide) ?_
                  refine wp_cVq (n := 1) (mt' := mX3_addValueByte) (as := [vI 32]) (rest := []) (fun r M' => (MI b 14 + MI b 15 < 2000 ∧ r = some (vI 1) ∧ M' = Mc (up2 (up2 MI (b + 41) (MI b 14).toNat 32) b 14 (MI b 14 + 1)) ML d e nw th y nf nl ft fa) ∨ (2000 ≤ MI b 14 + MI b 15 ∧ r = some (vI 0) ∧ M' = Mc MI ML d e nw th y nf nl ft fa)) dX1_takeValue_125 lX1_115 kX3_addValueByte vX3_addValueByte (by decide) (by decide +kernel) rfl (Nat.le_of_ble_eq_true rfl) (by omega) (show KD[b]? = some (7, 19) from kdb_0 hbd) rfl rfl (Nat.le_of_ble_eq_true rfl) (fun hM hS => w_X3_addValueByte hbd (by rw [cu_off (by omega)]; omega) (by rw [cu_off (by omega)]; omega) (fun hs => Or.inl ⟨by rw [cu_off (by omega), cu_off (by omega)] at hs; exact hs, rfl, by rw [cu_off (by omega), cu_up (by omega), cu_up (by omega), i_2b_id (by omega)]⟩) (fun hs => Or.inr ⟨by rw [cu_off (by omega), cu_off (by omega)] at hs; exact hs, rfl, rfl⟩)) (fun r M' hq hM => ?_)
                  rcases hq with ⟨hav, rfl, rfl⟩ | ⟨hav, rfl, rfl⟩
                  · refine wp_if_ne (tgt := 140) dX1_takeValue_128 (by decide) (fun _ => ?_) (fun q => absurd q (by decide))
                    refine wp_iincr dX1_takeValue_140 rfl (by decide) (by omega) (wp_L (L' := [some (vR 2), some (vR b), some (vI q), some (vI ((t + 1))), some (vI h), some (vI ((ob (MI 1) (MI 2 1) h))), some (vI c)]) rfl ?_)
                    refine wp_goto (tgt := 39) dX1_takeValue_143 (by decide) ?_
                    refine wp_forget (L' := [some (vR 2), some (vR b), some (vI q), some (vI (t + 1)), none, none, none]) (by repeat' (first | exact trivial | refine ⟨rfl, ?_⟩)) ?_
                    have e14 : (up2 (up2 MI (b + 41) (MI b 14).toNat 32) b 14 (MI b 14 + 1)) b 14 = MI b 14 + 1 := by simp [up2]
                    have e15 : (up2 (up2 MI (b + 41) (MI b 14).toNat 32) b 14 (MI b 14 + 1)) b 15 = MI b 15 := by simp [up2]
                    have eT : (up2 (up2 MI (b + 41) (MI b 14).toNat 32) b 14 (MI b 14 + 1)) 1 = MI 1 := by funext z; rw [up2_ne (by omega), up2_ne (by omega)]
                    have en : (up2 (up2 MI (b + 41) (MI b 14).toNat 32) b 14 (MI b 14 + 1)) 2 1 = MI 2 1 := by rw [up2_ne (by omega), up2_ne (by omega)]
                    refine ih (up2 (up2 MI (b + 41) (MI b 14).toNat 32) b 14 (MI b 14 + 1)) y (t + 1) (r - 1) eT en (by omega) (by omega) (by omega) (by omega) (by rw [e14, e15]; omega) (fun l z hz => ?_) (fun f p a l hz => ?_)
                    · rw [e14, fed_cons (by omega) (by omega)]; exact hT (32 :: l) z (by rw [vlF, if_neg (by omega), if_neg (by omega), hx]; refine (if_neg (by omega)).trans ?_; rw [hz]; simp only; rw [if_pos h112])
                    · rw [e14, fed_cons (by omega) (by omega)]; exact hF f p a (32 :: l) (by rw [vlF, if_neg (by omega), if_neg (by omega), hx]; refine (if_neg (by omega)).trans ?_; rw [hz])
                  · refine wp_if_ne (tgt := 140) dX1_takeValue_128 (by decide) (fun q => absurd q (by decide)) (fun _ => ?_)
                    refine wp_aload_n dX1_takeValue_131 rfl rfl (by first | exact Or.inl (by decide) | exact Or.inl (by omega) | exact Or.inr (by decide) | exact Or.inr (by omega)) ?_
                    refine wp_bipush dX1_takeValue_132 (by decide +kernel) (by decide) ?_
                    refine wp_iload dX1_takeValue_134 rfl ?_
                    refine wp_cV (n := 2) (mt' := mX1_refuse) (as := [vI ((-3)), vI h]) (rest := []) (some (vI 0)) ((cu MI y nf nl (-3) h), ML, (GR d e nw th 1)) dX1_takeValue_136 lX1_57 kX1_refuse vX1_refuse (by decide) (by decide +kernel) rfl (Nat.le_of_ble_eq_true rfl) (by decide) rfl rfl rfl (Nat.le_of_ble_eq_true rfl) (fun hM hS Q' hq => w_X1_refuse hq) (fun hM => ?_)
                    exact wp_zret dX1_takeValue_139 rfl (Or.inl rfl) (fun _ => hF0 _ _ _ (by rw [vlF, if_neg (by omega), if_neg (by omega), hx]; exact if_pos (by omega)))
                · refine wp_topI (x' := 0) (if_neg h112) ?_
                  refine wp_if_eq (tgt := 123) dX1_takeValue_115 (by decide) (fun _ => ?_) (fun q => absurd q (by decide))
                  refine wp_iload dX1_takeValue_123 rfl ?_
                  refine wp_cVq (n := 1) (mt' := mX3_addValueByte) (as := [vI c]) (rest := []) (fun r M' => (MI b 14 + MI b 15 < 2000 ∧ r = some (vI 1) ∧ M' = Mc (up2 (up2 MI (b + 41) (MI b 14).toNat c) b 14 (MI b 14 + 1)) ML d e nw th y nf nl ft fa) ∨ (2000 ≤ MI b 14 + MI b 15 ∧ r = some (vI 0) ∧ M' = Mc MI ML d e nw th y nf nl ft fa)) dX1_takeValue_125 lX1_115 kX3_addValueByte vX3_addValueByte (by decide) (by decide +kernel) rfl (Nat.le_of_ble_eq_true rfl) (by omega) (show KD[b]? = some (7, 19) from kdb_0 hbd) rfl rfl (Nat.le_of_ble_eq_true rfl) (fun hM hS => w_X3_addValueByte hbd (by rw [cu_off (by omega)]; omega) (by rw [cu_off (by omega)]; omega) (fun hs => Or.inl ⟨by rw [cu_off (by omega), cu_off (by omega)] at hs; exact hs, rfl, by rw [cu_off (by omega), cu_up (by omega), cu_up (by omega), i_2b_id (by omega)]⟩) (fun hs => Or.inr ⟨by rw [cu_off (by omega), cu_off (by omega)] at hs; exact hs, rfl, rfl⟩)) (fun r M' hq hM => ?_)
                  rcases hq with ⟨hav, rfl, rfl⟩ | ⟨hav, rfl, rfl⟩
                  · refine wp_if_ne (tgt := 140) dX1_takeValue_128 (by decide) (fun _ => ?_) (fun q => absurd q (by decide))
                    refine wp_iincr dX1_takeValue_140 rfl (by decide) (by omega) (wp_L (L' := [some (vR 2), some (vR b), some (vI q), some (vI ((t + 1))), some (vI h), some (vI ((ob (MI 1) (MI 2 1) h))), some (vI c)]) rfl ?_)
                    refine wp_goto (tgt := 39) dX1_takeValue_143 (by decide) ?_
                    refine wp_forget (L' := [some (vR 2), some (vR b), some (vI q), some (vI (t + 1)), none, none, none]) (by repeat' (first | exact trivial | refine ⟨rfl, ?_⟩)) ?_
                    have e14 : (up2 (up2 MI (b + 41) (MI b 14).toNat c) b 14 (MI b 14 + 1)) b 14 = MI b 14 + 1 := by simp [up2]
                    have e15 : (up2 (up2 MI (b + 41) (MI b 14).toNat c) b 14 (MI b 14 + 1)) b 15 = MI b 15 := by simp [up2]
                    have eT : (up2 (up2 MI (b + 41) (MI b 14).toNat c) b 14 (MI b 14 + 1)) 1 = MI 1 := by funext z; rw [up2_ne (by omega), up2_ne (by omega)]
                    have en : (up2 (up2 MI (b + 41) (MI b 14).toNat c) b 14 (MI b 14 + 1)) 2 1 = MI 2 1 := by rw [up2_ne (by omega), up2_ne (by omega)]
                    refine ih (up2 (up2 MI (b + 41) (MI b 14).toNat c) b 14 (MI b 14 + 1)) y (t + 1) (r - 1) eT en (by omega) (by omega) (by omega) (by omega) (by rw [e14, e15]; omega) (fun l z hz => ?_) (fun f p a l hz => ?_)
                    · rw [e14, fed_cons (by omega) (by omega)]; exact hT (c :: l) z (by rw [vlF, if_neg (by omega), if_neg (by omega), hx]; refine (if_neg (by omega)).trans ?_; rw [hz]; simp only; rw [if_neg h112])
                    · rw [e14, fed_cons (by omega) (by omega)]; exact hF f p a (c :: l) (by rw [vlF, if_neg (by omega), if_neg (by omega), hx]; refine (if_neg (by omega)).trans ?_; rw [hz])
                  · refine wp_if_ne (tgt := 140) dX1_takeValue_128 (by decide) (fun q => absurd q (by decide)) (fun _ => ?_)
                    refine wp_aload_n dX1_takeValue_131 rfl rfl (by first | exact Or.inl (by decide) | exact Or.inl (by omega) | exact Or.inr (by decide) | exact Or.inr (by omega)) ?_
                    refine wp_bipush dX1_takeValue_132 (by decide +kernel) (by decide) ?_
                    refine wp_iload dX1_takeValue_134 rfl ?_
                    refine wp_cV (n := 2) (mt' := mX1_refuse) (as := [vI ((-3)), vI h]) (rest := []) (some (vI 0)) ((cu MI y nf nl (-3) h), ML, (GR d e nw th 1)) dX1_takeValue_136 lX1_57 kX1_refuse vX1_refuse (by decide) (by decide +kernel) rfl (Nat.le_of_ble_eq_true rfl) (by decide) rfl rfl rfl (Nat.le_of_ble_eq_true rfl) (fun hM hS Q' hq => w_X1_refuse hq) (fun hM => ?_)
                    exact wp_zret dX1_takeValue_139 rfl (Or.inl rfl) (fun _ => hF0 _ _ _ (by rw [vlF, if_neg (by omega), if_neg (by omega), hx]; exact if_pos (by omega)))
              · refine wp_iconst dX1_takeValue_107 (by decide) ?_
                exfalso; omega
            · refine wp_istore dX1_takeValue_99 (by decide) (wp_L (L' := [some (vR 2), some (vR b), some (vI q), some (vI t), some (vI h), some (vI ((ob (MI 1) (MI 2 1) h))), some (vI ((-1)))]) rfl ?_)
              try have hpc := pcS_ok (by omega) hx
              refine wp_iload dX1_takeValue_101 rfl ?_
              refine wp_iconst dX1_takeValue_103 (by decide) ?_
              refine wp_icmp_ne (tgt := 109) dX1_takeValue_104 (by decide) (fun q => absurd q (by decide)) (fun _ => ?_)
              refine wp_iconst dX1_takeValue_107 (by decide) ?_
              exact wp_zret dX1_takeValue_108 rfl (Or.inl rfl) (fun _ => hF0 _ _ _ (by rw [vlF, if_neg (by omega), if_neg (by omega), hx]))
          · refine wp_aload_n dX1_takeValue_85 rfl rfl (by first | exact Or.inl (by decide) | exact Or.inl (by omega) | exact Or.inr (by decide) | exact Or.inr (by omega)) ?_
            refine wp_iconst dX1_takeValue_86 (by decide) ?_
            refine wp_aload_n dX1_takeValue_87 rfl rfl (by first | exact Or.inl (by decide) | exact Or.inl (by omega) | exact Or.inr (by decide) | exact Or.inr (by omega)) ?_
            refine wp_getI dX1_takeValue_88 fX1_19 rfl (by decide) ?_
            refine wp_topI (x' := h) rfl ?_
            refine wp_cV (n := 2) (mt' := mX1_refuse) (as := [vI ((-1)), vI h]) (rest := []) (some (vI 0)) ((cu MI h nf nl (-1) h), ML, (GR d e nw th 1)) dX1_takeValue_91 lX1_57 kX1_refuse vX1_refuse (by decide) (by decide +kernel) rfl (Nat.le_of_ble_eq_true rfl) (by decide) rfl rfl rfl (Nat.le_of_ble_eq_true rfl) (fun hM hS Q' hq => w_X1_refuse hq) (fun hM => ?_)
            exact wp_zret dX1_takeValue_94 rfl (Or.inl rfl) (fun _ => hF0 _ _ _ (by rw [vlF, if_neg (by omega), if_pos (by omega)]))
theorem w_X1_takeValue {MI : Nat → Nat → Int} {h : Int} (hbd : b = 38 ∨ b = 81) (hs0 : 0 ≤ MI 2 1) (hsz : MI 2 1 ≤ 6000) (hh : 0 ≤ h ∧ h ≤ 6000) (hv : 0 ≤ MI b 14 ∧ 0 ≤ MI b 15) {r : Nat} (hr : MI b 14 + MI b 15 + r = 2000)
    (hT : ∀ l y, vlS (MI 1) (MI 2 1) r h = .inr (l, y) → Q (some (vI 1)) (Mc (fed MI (b + 41) b 14 (MI b 14) (gl l) l.length) ML d e nw th y nf nl ft fa)) (hF : ∀ f p a l, vlS (MI 1) (MI 2 1) r h = .inl (f, p) → Q (some (vI 0)) (Mc (fed MI (b + 41) b 14 (MI b 14) (gl l) l.length) ML d e nw th a nf nl f p)) : wp cs mX1_takeValue KD Q 0 (padL [vR 2, vR b] 7) [] (KD, Mc MI ML d e nw th h nf nl ft fa) := by
  have hF0 : ∀ f p a, vlS (MI 1) (MI 2 1) r h = .inl (f, p) → Q (some (vI 0)) (Mc MI ML d e nw th a nf nl f p) := fun f p a hx => by have := hF f p a [] hx; rw [(show fed MI (b + 41) b 14 (MI b 14) (gl []) ([] : List Int).length = MI from fed_0)] at this; exact this
  refine wp_L (L' := [some (vR 2), some (vR b), none, none, none, none, none]) rfl ?_
  refine wp_aload_n dX1_takeValue_0 rfl rfl (by first | exact Or.inl (by decide) | exact Or.inl (by omega) | exact Or.inr (by decide) | exact Or.inr (by omega)) ?_
  refine wp_cV (n := 0) (mt' := mX1_peek) (as := []) (rest := []) (some (vI ((ob (MI 1) (MI 2 1) h)))) ((cu MI h nf nl ft fa), ML, (GR d e nw th 1)) dX1_takeValue_1 lX1_61 kX1_peek vX1_peek (by decide) (by decide +kernel) rfl (Nat.le_of_ble_eq_true rfl) (by decide) rfl rfl rfl (Nat.le_of_ble_eq_true rfl) (fun hM hS Q' hq => w_X1_peek hsz hq) (fun hM => ?_)
  refine wp_istore_n dX1_takeValue_4 rfl (by decide) (wp_L (L' := [some (vR 2), some (vR b), some (vI ((ob (MI 1) (MI 2 1) h))), none, none, none, none]) rfl ?_)
  refine wp_iload_n dX1_takeValue_5 rfl rfl ?_
  refine wp_bipush dX1_takeValue_6 (by decide +kernel) (by decide) ?_
  refine wp_icmp_eq (tgt := 27) dX1_takeValue_8 (by decide) (fun h8 => ?_) (fun h8 => ?_)
  · refine wp_aload_n dX1_takeValue_27 rfl rfl (by first | exact Or.inl (by decide) | exact Or.inl (by omega) | exact Or.inr (by decide) | exact Or.inr (by omega)) ?_
    refine wp_dup dX1_takeValue_28 (fun x e => by cases e) ?_
    refine wp_getI dX1_takeValue_29 fX1_19 rfl (by decide) ?_
    refine wp_topI (x' := h) rfl ?_
    refine wp_iconst dX1_takeValue_32 (by decide) ?_
    refine wp_iaddr dX1_takeValue_33 (by omega) ?_
    refine wp_putI dX1_takeValue_34 pX1_19 rfl (by decide) ?_
    refine wp_M (M' := ((cu MI (h + 1) nf nl ft fa), ML, (GR d e nw th 1))) (by rw [cu_2]) ?_
    refine wp_iconst dX1_takeValue_37 (by decide) ?_
    refine wp_pc (pc' := 38) rfl ?_
    refine wp_istore_n dX1_takeValue_38 rfl (by decide) (wp_L (L' := [some (vR 2), some (vR b), some (vI ((ob (MI 1) (MI 2 1) h))), some (vI 0), none, none, none]) rfl ?_)
    exact w_takeValue_l hbd (by omega) (MI 2 1 - h).toNat MI (h + 1) 0 r rfl rfl ⟨hs0, hsz⟩ (by omega) (by have := ob_lt (T := MI 1) (n := MI 2 1) (h := h) (c := ob (MI 1) (MI 2 1) h) (by omega) rfl; omega) hv hr (fun l y hx => hT l y (by unfold vlS; rw [if_pos (by omega)]; exact hx)) (fun f p a l hx => hF f p a l (by unfold vlS; rw [if_pos (by omega)]; exact hx))
  · refine wp_iload_n dX1_takeValue_11 rfl rfl ?_
    refine wp_bipush dX1_takeValue_12 (by decide +kernel) (by decide) ?_
    refine wp_icmp_eq (tgt := 27) dX1_takeValue_14 (by decide) (fun h14 => ?_) (fun h14 => ?_)
    · refine wp_aload_n dX1_takeValue_27 rfl rfl (by first | exact Or.inl (by decide) | exact Or.inl (by omega) | exact Or.inr (by decide) | exact Or.inr (by omega)) ?_
      refine wp_dup dX1_takeValue_28 (fun x e => by cases e) ?_
      refine wp_getI dX1_takeValue_29 fX1_19 rfl (by decide) ?_
      refine wp_topI (x' := h) rfl ?_
      refine wp_iconst dX1_takeValue_32 (by decide) ?_
      refine wp_iaddr dX1_takeValue_33 (by omega) ?_
      refine wp_putI dX1_takeValue_34 pX1_19 rfl (by decide) ?_
      refine wp_M (M' := ((cu MI (h + 1) nf nl ft fa), ML, (GR d e nw th 1))) (by rw [cu_2]) ?_
      refine wp_iconst dX1_takeValue_37 (by decide) ?_
      refine wp_pc (pc' := 38) rfl ?_
      refine wp_istore_n dX1_takeValue_38 rfl (by decide) (wp_L (L' := [some (vR 2), some (vR b), some (vI ((ob (MI 1) (MI 2 1) h))), some (vI 0), none, none, none]) rfl ?_)
      exact w_takeValue_l hbd (by omega) (MI 2 1 - h).toNat MI (h + 1) 0 r rfl rfl ⟨hs0, hsz⟩ (by omega) (by have := ob_lt (T := MI 1) (n := MI 2 1) (h := h) (c := ob (MI 1) (MI 2 1) h) (by omega) rfl; omega) hv hr (fun l y hx => hT l y (by unfold vlS; rw [if_pos (by omega)]; exact hx)) (fun f p a l hx => hF f p a l (by unfold vlS; rw [if_pos (by omega)]; exact hx))
    · refine wp_aload_n dX1_takeValue_17 rfl rfl (by first | exact Or.inl (by decide) | exact Or.inl (by omega) | exact Or.inr (by decide) | exact Or.inr (by omega)) ?_
      refine wp_iconst dX1_takeValue_18 (by decide) ?_
      refine wp_aload_n dX1_takeValue_19 rfl rfl (by first | exact Or.inl (by decide) | exact Or.inl (by omega) | exact Or.inr (by decide) | exact Or.inr (by omega)) ?_
      refine wp_getI dX1_takeValue_20 fX1_19 rfl (by decide) ?_
      refine wp_topI (x' := h) rfl ?_
      refine wp_cV (n := 2) (mt' := mX1_refuse) (as := [vI ((-1)), vI h]) (rest := []) (some (vI 0)) ((cu MI h nf nl (-1) h), ML, (GR d e nw th 1)) dX1_takeValue_23 lX1_57 kX1_refuse vX1_refuse (by decide) (by decide +kernel) rfl (Nat.le_of_ble_eq_true rfl) (by decide) rfl rfl rfl (Nat.le_of_ble_eq_true rfl) (fun hM hS Q' hq => w_X1_refuse hq) (fun hM => ?_)
      exact wp_zret dX1_takeValue_26 rfl (Or.inl rfl) (fun _ => hF0 _ _ _ (by unfold vlS; rw [if_neg (by omega)]))
end P34
