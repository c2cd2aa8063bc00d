/-- digits, k at most: number, how many, behind them -/
def dg (T : Nat → Int) (n : Int) : Nat → Int → Nat → Int → Int × Nat × Int
  | 0, v, c, p => (v, c, p)
  | k + 1, v, c, p => if isDg (ob T n p) then dg T n k (v * 10 + ob T n p - 48) (c + 1) (p + 1) else (v, c, p)
def numQ (T : Nat → Int) (n h : Int) : Int × Nat × Int := if ob T n (h + 1) = 35 then dg T n 6 0 0 (h + 1 + 1) else (0, 0, h + 1)
def numS (T : Nat → Int) (n h : Int) : PR (Int × Int) := if (numQ T n h).2.1 = 0 ∨ ob T n (numQ T n h).2.2 ≠ 59 ∨ ¬ isCh (numQ T n h).1 then .inl (-1, h) else .inr ((numQ T n h).1, (numQ T n h).2.2 + 1)
/-- a PIECE -/
def pcS (T : Nat → Int) (n h : Int) : PR (Int × Int) :=
  if ob T n h ≠ 38 then (if isCh (ob T n h) then .inr (ob T n h, h + 1) else .inl (-1, h))
  else if stb T n h [38, 108, 116, 59] = true then .inr (60, h + 4) else if stb T n h [38, 103, 116, 59] = true then .inr (62, h + 4) else if stb T n h [38, 97, 109, 112, 59] = true then .inr (38, h + 5)
  else if stb T n h [38, 113, 117, 111, 116, 59] = true then .inr (34, h + 6) else if stb T n h [38, 97, 112, 111, 115, 59] = true then .inr (39, h + 6) else numS T n h
section P22
variable {cs : Cs} {Q : Option AV → Mm → Prop} {MI ML : Nat → Nat → Int} {d e nw th : Nat} {h nf nl ft fa : Int}
theorem dX1_finishComment_0 : decode cX1_finishComment 0 = .ok (.aload_n 0, 1) := by decide +kernel
theorem dX1_finishComment_1 : decode cX1_finishComment 1 = .ok (.getfield 19, 3) := by decide +kernel
theorem dX1_finishComment_4 : decode cX1_finishComment 4 = .ok (.aload_n 0, 1) := by decide +kernel
theorem dX1_finishComment_5 : decode cX1_finishComment 5 = .ok (.getfield 15, 3) := by decide +kernel
theorem dX1_finishComment_8 : decode cX1_finishComment 8 = .ok (.if_icmp .ge 52, 3) := by decide +kernel
theorem dX1_finishComment_11 : decode cX1_finishComment 11 = .ok (.aload_n 0, 1) := by decide +kernel
theorem dX1_finishComment_12 : decode cX1_finishComment 12 = .ok (.ldc 86, 2) := by decide +kernel
theorem dX1_finishComment_14 : decode cX1_finishComment 14 = .ok (.invokevirtual 53, 3) := by decide +kernel
theorem dX1_finishComment_17 : decode cX1_finishComment 17 = .ok (.ifCond .eq 10, 3) := by decide +kernel
theorem dX1_finishComment_20 : decode cX1_finishComment 20 = .ok (.aload_n 0, 1) := by decide +kernel
theorem dX1_finishComment_21 : decode cX1_finishComment 21 = .ok (.ldc 88, 2) := by decide +kernel
theorem dX1_finishComment_23 : decode cX1_finishComment 23 = .ok (.invokevirtual 90, 3) := by decide +kernel
theorem dX1_finishComment_26 : decode cX1_finishComment 26 = .ok (.ireturn, 1) := by decide +kernel
theorem dX1_finishComment_27 : decode cX1_finishComment 27 = .ok (.aload_n 0, 1) := by decide +kernel
theorem dX1_finishComment_28 : decode cX1_finishComment 28 = .ok (.invokevirtual 61, 3) := by decide +kernel
theorem dX1_finishComment_31 : decode cX1_finishComment 31 = .ok (.invokestatic 93, 3) := by decide +kernel
theorem dX1_finishComment_34 : decode cX1_finishComment 34 = .ok (.ifCond .ne 13, 3) := by decide +kernel
theorem dX1_finishComment_37 : decode cX1_finishComment 37 = .ok (.aload_n 0, 1) := by decide +kernel
theorem dX1_finishComment_38 : decode cX1_finishComment 38 = .ok (.iconst (-1), 1) := by decide +kernel
theorem dX1_finishComment_39 : decode cX1_finishComment 39 = .ok (.aload_n 0, 1) := by decide +kernel
theorem dX1_finishComment_40 : decode cX1_finishComment 40 = .ok (.getfield 19, 3) := by decide +kernel
theorem dX1_finishComment_43 : decode cX1_finishComment 43 = .ok (.invokevirtual 57, 3) := by decide +kernel
theorem dX1_finishComment_46 : decode cX1_finishComment 46 = .ok (.ireturn, 1) := by decide +kernel
theorem dX1_finishComment_47 : decode cX1_finishComment 47 = .ok (.aload_n 0, 1) := by decide +kernel
theorem dX1_finishComment_48 : decode cX1_finishComment 48 = .ok (.dup, 1) := by decide +kernel
theorem dX1_finishComment_49 : decode cX1_finishComment 49 = .ok (.getfield 19, 3) := by decide +kernel
theorem dX1_finishComment_52 : decode cX1_finishComment 52 = .ok (.iconst 1, 1) := by decide +kernel
theorem dX1_finishComment_53 : decode cX1_finishComment 53 = .ok (.iadd, 1) := by decide +kernel
theorem dX1_finishComment_54 : decode cX1_finishComment 54 = .ok (.putfield 19, 3) := by decide +kernel
theorem dX1_finishComment_57 : decode cX1_finishComment 57 = .ok (.goto (-57), 3) := by decide +kernel
theorem dX1_finishComment_60 : decode cX1_finishComment 60 = .ok (.aload_n 0, 1) := by decide +kernel
theorem dX1_finishComment_61 : decode cX1_finishComment 61 = .ok (.iconst (-1), 1) := by decide +kernel
theorem dX1_finishComment_62 : decode cX1_finishComment 62 = .ok (.aload_n 0, 1) := by decide +kernel
theorem dX1_finishComment_63 : decode cX1_finishComment 63 = .ok (.getfield 19, 3) := by decide +kernel
theorem dX1_finishComment_66 : decode cX1_finishComment 66 = .ok (.invokevirtual 57, 3) := by decide +kernel
theorem dX1_finishComment_69 : decode cX1_finishComment 69 = .ok (.ireturn, 1) := by decide +kernel
theorem w_finishComment_l (hs0 : 0 ≤ MI 2 1) (hsz : MI 2 1 ≤ 6000) : ∀ (k : Nat) (h : Int), 0 ≤ h → (MI 2 1 - h).toNat ≤ k → (∀ x, cmS (MI 1) (MI 2 1) h = .inr x → Q (some (vI 1)) (Mc MI ML d e nw th x nf nl ft fa)) → (∀ f p a, cmS (MI 1) (MI 2 1) h = .inl (f, p) → Q (some (vI 0)) (Mc MI ML d e nw th a nf nl f p)) → wp cs mX1_finishComment KD Q 0 [some (vR 2)] [] (KD, Mc MI ML d e nw th h nf nl ft fa) := by
  intro k
  induction k with
  | zero =>
    intro h hh hk hT hF
    refine wp_aload_n dX1_finishComment_0 rfl rfl (by first | exact Or.inl (by decide) | exact Or.inl (by omega) | exact Or.inr (by decide) | exact Or.inr (by omega)) ?_
    refine wp_getI dX1_finishComment_1 fX1_19 rfl (by decide) ?_
    refine wp_topI (x' := h) rfl ?_
    refine wp_aload_n dX1_finishComment_4 rfl rfl (by first | exact Or.inl (by decide) | exact Or.inl (by omega) | exact Or.inr (by decide) | exact Or.inr (by omega)) ?_
    refine wp_getI dX1_finishComment_5 fX1_15 rfl (by decide) ?_
    refine wp_topI (x' := (MI 2 1)) rfl ?_
    refine wp_icmp_ge (tgt := 60) dX1_finishComment_8 (by decide) (fun h8 => ?_) (fun h8 => ?_)
    · refine wp_aload_n dX1_finishComment_60 rfl rfl (by first | exact Or.inl (by decide) | exact Or.inl (by omega) | exact Or.inr (by decide) | exact Or.inr (by omega)) ?_
      refine wp_iconst dX1_finishComment_61 (by decide) ?_
      refine wp_aload_n dX1_finishComment_62 rfl rfl (by first | exact Or.inl (by decide) | exact Or.inl (by omega) | exact Or.inr (by decide) | exact Or.inr (by omega)) ?_
      refine wp_getI dX1_finishComment_63 fX1_19 rfl (by decide) ?_
      refine wp_topI (x' := h) rfl ?_
      refine wp_cV (n := 2) (mt' := mX1_refuse) (as := [vI ((-1)), vI h]) (rest := []) (some (vI 0)) ((cu MI h nf nl (-1) h), ML, (GR d e nw th 1)) dX1_finishComment_66 lX1_57 kX1_refuse vX1_refuse (by decide) (by decide +kernel) rfl (Nat.le_of_ble_eq_true rfl) (by decide) rfl rfl rfl (Nat.le_of_ble_eq_true rfl) (fun hM hS Q' hq => w_X1_refuse hq) (fun hM => ?_)
      exact wp_zret dX1_finishComment_69 rfl (Or.inl rfl) (fun _ => hF _ _ _ (by rw [cmS_eq, if_neg (by omega)]))
    · refine wp_aload_n dX1_finishComment_11 rfl rfl (by first | exact Or.inl (by decide) | exact Or.inl (by omega) | exact Or.inr (by decide) | exact Or.inr (by omega)) ?_
      refine wp_ldcS (k := 1) dX1_finishComment_12 cX1_86 ?_
      refine wp_cVq (n := 1) (mt' := mX1_takeIf) (as := [vR 1000004]) (rest := []) (fun r M' => (stb (MI 1) (MI 2 1) h [45, 45] = true ∧ r = some (vI 1) ∧ M' = Mc MI ML d e nw th (h + 2) nf nl ft fa) ∨ (stb (MI 1) (MI 2 1) h [45, 45] = false ∧ r = some (vI 0) ∧ M' = Mc MI ML d e nw th h nf nl ft fa)) dX1_finishComment_14 lX1_53 kX1_takeIf vX1_takeIf (by decide) (by decide +kernel) rfl (Nat.le_of_ble_eq_true rfl) (by decide) rfl rfl rfl (Nat.le_of_ble_eq_true rfl) (fun hM hS => w_X1_takeIf (k := 1) (by decide) hs0 hsz (by first | assumption | omega) (fun hs => Or.inl ⟨hs, rfl, rfl⟩) (fun hs => Or.inr ⟨hs, rfl, rfl⟩)) (fun r M' hq hM => ?_)
      rcases hq with ⟨h14, rfl, rfl⟩ | ⟨h14, rfl, rfl⟩
      · refine wp_if_eq (tgt := 27) dX1_finishComment_17 (by decide) (fun q => absurd q (by decide)) (fun _ => ?_)
        refine wp_aload_n dX1_finishComment_20 rfl rfl (by first | exact Or.inl (by decide) | exact Or.inl (by omega) | exact Or.inr (by decide) | exact Or.inr (by omega)) ?_
        refine wp_ldcS (k := 2) dX1_finishComment_21 cX1_88 ?_
        refine wp_cVq (n := 1) (mt' := mX1_take) (as := [vR 1000005]) (rest := []) (fun r M' => (stb (MI 1) (MI 2 1) (h + 2) [62] = true ∧ r = some (vI 1) ∧ M' = Mc MI ML d e nw th ((h + 2) + 1) nf nl ft fa) ∨ (stb (MI 1) (MI 2 1) (h + 2) [62] = false ∧ r = some (vI 0) ∧ M' = Mc MI ML d e nw th (h + 2) nf nl (-1) (h + 2))) dX1_finishComment_23 lX1_90 kX1_take vX1_take (by decide) (by decide +kernel) rfl (Nat.le_of_ble_eq_true rfl) (by decide) rfl rfl rfl (Nat.le_of_ble_eq_true rfl) (fun hM hS => w_X1_take (k := 2) (by decide) hs0 hsz (by first | assumption | omega) (fun hs => Or.inl ⟨hs, rfl, rfl⟩) (fun hs => Or.inr ⟨hs, rfl, rfl⟩)) (fun r M' hq hM => ?_)
        rcases hq with ⟨h23, rfl, rfl⟩ | ⟨h23, rfl, rfl⟩
        · exact wp_zret dX1_finishComment_26 rfl (Or.inr rfl) (fun _ => hT _ (by rw [cmS_eq, if_pos (by omega), if_pos h14, if_pos h23]))
        · exact wp_zret dX1_finishComment_26 rfl (Or.inl rfl) (fun _ => hF _ _ _ (by rw [cmS_eq, if_pos (by omega), if_pos h14, if_neg (by rw [h23]; decide)]))
      · refine wp_if_eq (tgt := 27) dX1_finishComment_17 (by decide) (fun _ => ?_) (fun q => absurd q (by decide))
        refine wp_aload_n dX1_finishComment_27 rfl rfl (by first | exact Or.inl (by decide) | exact Or.inl (by omega) | exact Or.inr (by decide) | exact Or.inr (by omega)) ?_
        refine wp_cV (n := 0) (mt' := mX1_peek) (as := []) (rest := []) (some (vI ((ob (MI 1) (MI 2 1) h)))) ((cu MI h nf nl ft fa), ML, (GR d e nw th 1)) dX1_finishComment_28 lX1_61 kX1_peek vX1_peek (by decide) (by decide +kernel) rfl (Nat.le_of_ble_eq_true rfl) (by decide) rfl rfl rfl (Nat.le_of_ble_eq_true rfl) (fun hM hS Q' hq => w_X1_peek hsz hq) (fun hM => ?_)
        refine wp_cS (n := 1) (mt' := mX1_isChar) (as := [vI ((ob (MI 1) (MI 2 1) h))]) (rest := []) (some (vI ((bI (isCh (ob (MI 1) (MI 2 1) h)))))) ((cu MI h nf nl ft fa), ML, (GR d e nw th 1)) dX1_finishComment_31 lX1_93 kX1_isChar vX1_isChar (by decide) (by decide +kernel) rfl (Nat.le_of_ble_eq_true rfl) rfl (Nat.le_of_ble_eq_true rfl) (fun hM hS Q' hq => w_X1_isChar hq) (fun hM => ?_)
        by_cases h31 : isCh (ob (MI 1) (MI 2 1) h)
        · refine wp_topI (x' := 1) (if_pos h31) ?_
          refine wp_if_ne (tgt := 47) dX1_finishComment_34 (by decide) (fun _ => ?_) (fun q => absurd q (by decide))
          refine wp_aload_n dX1_finishComment_47 rfl rfl (by first | exact Or.inl (by decide) | exact Or.inl (by omega) | exact Or.inr (by decide) | exact Or.inr (by omega)) ?_
          refine wp_dup dX1_finishComment_48 (fun x e => by cases e) ?_
          refine wp_getI dX1_finishComment_49 fX1_19 rfl (by decide) ?_
          refine wp_topI (x' := h) rfl ?_
          refine wp_iconst dX1_finishComment_52 (by decide) ?_
          refine wp_iaddr dX1_finishComment_53 (by omega) ?_
          refine wp_putI dX1_finishComment_54 pX1_19 rfl (by decide) ?_
          refine wp_M (M' := ((cu MI (h + 1) nf nl ft fa), ML, (GR d e nw th 1))) (by rw [cu_2]) ?_
          refine wp_pc (pc' := 57) rfl ?_
          refine wp_goto (tgt := 0) dX1_finishComment_57 (by decide) ?_
          exfalso; omega
        · refine wp_topI (x' := 0) (if_neg h31) ?_
          refine wp_if_ne (tgt := 47) dX1_finishComment_34 (by decide) (fun q => absurd q (by decide)) (fun _ => ?_)
          refine wp_aload_n dX1_finishComment_37 rfl rfl (by first | exact Or.inl (by decide) | exact Or.inl (by omega) | exact Or.inr (by decide) | exact Or.inr (by omega)) ?_
          refine wp_iconst dX1_finishComment_38 (by decide) ?_
          refine wp_aload_n dX1_finishComment_39 rfl rfl (by first | exact Or.inl (by decide) | exact Or.inl (by omega) | exact Or.inr (by decide) | exact Or.inr (by omega)) ?_
          refine wp_getI dX1_finishComment_40 fX1_19 rfl (by decide) ?_
          refine wp_topI (x' := h) rfl ?_
          refine wp_cV (n := 2) (mt' := mX1_refuse) (as := [vI ((-1)), vI h]) (rest := []) (some (vI 0)) ((cu MI h nf nl (-1) h), ML, (GR d e nw th 1)) dX1_finishComment_43 lX1_57 kX1_refuse vX1_refuse (by decide) (by decide +kernel) rfl (Nat.le_of_ble_eq_true rfl) (by decide) rfl rfl rfl (Nat.le_of_ble_eq_true rfl) (fun hM hS Q' hq => w_X1_refuse hq) (fun hM => ?_)
          exact wp_zret dX1_finishComment_46 rfl (Or.inl rfl) (fun _ => hF _ _ _ (by rw [cmS_eq, if_pos (by omega), if_neg (by rw [h14]; decide), if_neg h31]))
  | succ k ih =>
    intro h hh hk hT hF
    refine wp_aload_n dX1_finishComment_0 rfl rfl (by first | exact Or.inl (by decide) | exact Or.inl (by omega) | exact Or.inr (by decide) | exact Or.inr (by omega)) ?_
    refine wp_getI dX1_finishComment_1 fX1_19 rfl (by decide) ?_
    refine wp_topI (x' := h) rfl ?_
    refine wp_aload_n dX1_finishComment_4 rfl rfl (by first | exact Or.inl (by decide) | exact Or.inl (by omega) | exact Or.inr (by decide) | exact Or.inr (by omega)) ?_
    refine wp_getI dX1_finishComment_5 fX1_15 rfl (by decide) ?_
    refine wp_topI (x' := (MI 2 1)) rfl ?_
    refine wp_icmp_ge (tgt := 60) dX1_finishComment_8 (by decide) (fun h8 => ?_) (fun h8 => ?_)
    · refine wp_aload_n dX1_finishComment_60 rfl rfl (by first | exact Or.inl (by decide) | exact Or.inl (by omega) | exact Or.inr (by decide) | exact Or.inr (by omega)) ?_
      refine wp_iconst dX1_finishComment_61 (by decide) ?_
      refine wp_aload_n dX1_finishComment_62 rfl rfl (by first | exact Or.inl (by decide) | exact Or.inl (by omega) | exact Or.inr (by decide) | exact Or.inr (by omega)) ?_
      refine wp_getI dX1_finishComment_63 fX1_19 rfl (by decide) ?_
      refine wp_topI (x' := h) rfl ?_
      refine wp_cV (n := 2) (mt' := mX1_refuse) (as := [vI ((-1)), vI h]) (rest := []) (some (vI 0)) ((cu MI h nf nl (-1) h), ML, (GR d e nw th 1)) dX1_finishComment_66 lX1_57 kX1_refuse vX1_refuse (by decide) (by decide +kernel) rfl (Nat.le_of_ble_eq_true rfl) (by decide) rfl rfl rfl (Nat.le_of_ble_eq_true rfl) (fun hM hS Q' hq => w_X1_refuse hq) (fun hM => ?_)
      exact wp_zret dX1_finishComment_69 rfl (Or.inl rfl) (fun _ => hF _ _ _ (by rw [cmS_eq, if_neg (by omega)]))
    · refine wp_aload_n dX1_finishComment_11 rfl rfl (by first | exact Or.inl (by decide) | exact Or.inl (by omega) | exact Or.inr (by decide) | exact Or.inr (by omega)) ?_
      refine wp_ldcS (k := 1) dX1_finishComment_12 cX1_86 ?_
      refine wp_cVq (n := 1) (mt' := mX1_takeIf) (as := [vR 1000004]) (rest := []) (fun r M' => (stb (MI 1) (MI 2 1) h [45, 45] = true ∧ r = some (vI 1) ∧ M' = Mc MI ML d e nw th (h + 2) nf nl ft fa) ∨ (stb (MI 1) (MI 2 1) h [45, 45] = false ∧ r = some (vI 0) ∧ M' = Mc MI ML d e nw th h nf nl ft fa)) dX1_finishComment_14 lX1_53 kX1_takeIf vX1_takeIf (by decide) (by decide +kernel) rfl (Nat.le_of_ble_eq_true rfl) (by decide) rfl rfl rfl (Nat.le_of_ble_eq_true rfl) (fun hM hS => w_X1_takeIf (k := 1) (by decide) hs0 hsz (by first | assumption | omega) (fun hs => Or.inl ⟨hs, rfl, rfl⟩) (fun hs => Or.inr ⟨hs, rfl, rfl⟩)) (fun r M' hq hM => ?_)
      rcases hq with ⟨h14, rfl, rfl⟩ | ⟨h14, rfl, rfl⟩
      · refine wp_if_eq (tgt := 27) dX1_finishComment_17 (by decide) (fun q => absurd q (by decide)) (fun _ => ?_)
        refine wp_aload_n dX1_finishComment_20 rfl rfl (by first | exact Or.inl (by decide) | exact Or.inl (by omega) | exact Or.inr (by decide) | exact Or.inr (by omega)) ?_
        refine wp_ldcS (k := 2) dX1_finishComment_21 cX1_88 ?_
        refine wp_cVq (n := 1) (mt' := mX1_take) (as := [vR 1000005]) (rest := []) (fun r M' => (stb (MI 1) (MI 2 1) (h + 2) [62] = true ∧ r = some (vI 1) ∧ M' = Mc MI ML d e nw th ((h + 2) + 1) nf nl ft fa) ∨ (stb (MI 1) (MI 2 1) (h + 2) [62] = false ∧ r = some (vI 0) ∧ M' = Mc MI ML d e nw th (h + 2) nf nl (-1) (h + 2))) dX1_finishComment_23 lX1_90 kX1_take vX1_take (by decide) (by decide +kernel) rfl (Nat.le_of_ble_eq_true rfl) (by decide) rfl rfl rfl (Nat.le_of_ble_eq_true rfl) (fun hM hS => w_X1_take (k := 2) (by decide) hs0 hsz (by first | assumption | omega) (fun hs => Or.inl ⟨hs, rfl, rfl⟩) (fun hs => Or.inr ⟨hs, rfl, rfl⟩)) (fun r M' hq hM => ?_)
        rcases hq with ⟨h23, rfl, rfl⟩ | ⟨h23, rfl, rfl⟩
        · exact wp_zret dX1_finishComment_26 rfl (Or.inr rfl) (fun _ => hT _ (by rw [cmS_eq, if_pos (by omega), if_pos h14, if_pos h23]))
        · exact wp_zret dX1_finishComment_26 rfl (Or.inl rfl) (fun _ => hF _ _ _ (by rw [cmS_eq, if_pos (by omega), if_pos h14, if_neg (by rw [h23]; decide)]))
      · refine wp_if_eq (tgt := 27) dX1_finishComment_17 (by decide) (fun _ => ?_) (fun q => absurd q (by decide))
        refine wp_aload_n dX1_finishComment_27 rfl rfl (by first | exact Or.inl (by decide) | exact Or.inl (by omega) | exact Or.inr (by decide) | exact Or.inr (by omega)) ?_
        refine wp_cV (n := 0) (mt' := mX1_peek) (as := []) (rest := []) (some (vI ((ob (MI 1) (MI 2 1) h)))) ((cu MI h nf nl ft fa), ML, (GR d e nw th 1)) dX1_finishComment_28 lX1_61 kX1_peek vX1_peek (by decide) (by decide +kernel) rfl (Nat.le_of_ble_eq_true rfl) (by decide) rfl rfl rfl (Nat.le_of_ble_eq_true rfl) (fun hM hS Q' hq => w_X1_peek hsz hq) (fun hM => ?_)
        refine wp_cS (n := 1) (mt' := mX1_isChar) (as := [vI ((ob (MI 1) (MI 2 1) h))]) (rest := []) (some (vI ((bI (isCh (ob (MI 1) (MI 2 1) h)))))) ((cu MI h nf nl ft fa), ML, (GR d e nw th 1)) dX1_finishComment_31 lX1_93 kX1_isChar vX1_isChar (by decide) (by decide +kernel) rfl (Nat.le_of_ble_eq_true rfl) rfl (Nat.le_of_ble_eq_true rfl) (fun hM hS Q' hq => w_X1_isChar hq) (fun hM => ?_)
        by_cases h31 : isCh (ob (MI 1) (MI 2 1) h)
        · refine wp_topI (x' := 1) (if_pos h31) ?_
          refine wp_if_ne (tgt := 47) dX1_finishComment_34 (by decide) (fun _ => ?_) (fun q => absurd q (by decide))
          refine wp_aload_n dX1_finishComment_47 rfl rfl (by first | exact Or.inl (by decide) | exact Or.inl (by omega) | exact Or.inr (by decide) | exact Or.inr (by omega)) ?_
          refine wp_dup dX1_finishComment_48 (fun x e => by cases e) ?_
          refine wp_getI dX1_finishComment_49 fX1_19 rfl (by decide) ?_
          refine wp_topI (x' := h) rfl ?_
          refine wp_iconst dX1_finishComment_52 (by decide) ?_
          refine wp_iaddr dX1_finishComment_53 (by omega) ?_
          refine wp_putI dX1_finishComment_54 pX1_19 rfl (by decide) ?_
          refine wp_M (M' := ((cu MI (h + 1) nf nl ft fa), ML, (GR d e nw th 1))) (by rw [cu_2]) ?_
          refine wp_pc (pc' := 57) rfl ?_
          refine wp_goto (tgt := 0) dX1_finishComment_57 (by decide) ?_
          exact ih (h + 1) (by omega) (by omega) (fun x hx => hT x (by rw [cmS_eq, if_pos (by omega), if_neg (by rw [h14]; decide), if_pos h31]; exact hx)) (fun f p a hx => hF f p a (by rw [cmS_eq, if_pos (by omega), if_neg (by rw [h14]; decide), if_pos h31]; exact hx))
        · refine wp_topI (x' := 0) (if_neg h31) ?_
          refine wp_if_ne (tgt := 47) dX1_finishComment_34 (by decide) (fun q => absurd q (by decide)) (fun _ => ?_)
          refine wp_aload_n dX1_finishComment_37 rfl rfl (by first | exact Or.inl (by decide) | exact Or.inl (by omega) | exact Or.inr (by decide) | exact Or.inr (by omega)) ?_
          refine wp_iconst dX1_finishComment_38 (by decide) ?_
          refine wp_aload_n dX1_finishComment_39 rfl rfl (by first | exact Or.inl (by decide) | exact Or.inl (by omega) | exact Or.inr (by decide) | exact Or.inr (by omega)) ?_
          refine wp_getI dX1_finishComment_40 fX1_19 rfl (by decide) ?_
          refine wp_topI (x' := h) rfl ?_
          refine wp_cV (n := 2) (mt' := mX1_refuse) (as := [vI ((-1)), vI h]) (rest := []) (some (vI 0)) ((cu MI h nf nl (-1) h), ML, (GR d e nw th 1)) dX1_finishComment_43 lX1_57 kX1_refuse vX1_refuse (by decide) (by decide +kernel) rfl (Nat.le_of_ble_eq_true rfl) (by decide) rfl rfl rfl (Nat.le_of_ble_eq_true rfl) (fun hM hS Q' hq => w_X1_refuse hq) (fun hM => ?_)
          exact wp_zret dX1_finishComment_46 rfl (Or.inl rfl) (fun _ => hF _ _ _ (by rw [cmS_eq, if_pos (by omega), if_neg (by rw [h14]; decide), if_neg h31]))
theorem w_X1_finishComment (hs0 : 0 ≤ MI 2 1) (hsz : MI 2 1 ≤ 6000) (hh : 0 ≤ h) (hT : ∀ x, cmS (MI 1) (MI 2 1) h = .inr x → Q (some (vI 1)) (Mc MI ML d e nw th x nf nl ft fa)) (hF : ∀ f p a, cmS (MI 1) (MI 2 1) h = .inl (f, p) → Q (some (vI 0)) (Mc MI ML d e nw th a nf nl f p)) : wp cs mX1_finishComment KD Q 0 (padL [vR 2] 1) [] (KD, Mc MI ML d e nw th h nf nl ft fa) :=
  wp_L (L' := [some (vR 2)]) rfl (w_finishComment_l hs0 hsz _ h hh (Nat.le_refl _) hT hF)
theorem dX1_skipComments_0 : decode cX1_skipComments 0 = .ok (.iconst 0, 1) := by decide +kernel
theorem dX1_skipComments_1 : decode cX1_skipComments 1 = .ok (.istore_n 1, 1) := by decide +kernel
theorem dX1_skipComments_2 : decode cX1_skipComments 2 = .ok (.iload_n 1, 1) := by decide +kernel
theorem dX1_skipComments_3 : decode cX1_skipComments 3 = .ok (.aload_n 0, 1) := by decide +kernel
theorem dX1_skipComments_4 : decode cX1_skipComments 4 = .ok (.getfield 15, 3) := by decide +kernel
theorem dX1_skipComments_7 : decode cX1_skipComments 7 = .ok (.if_icmp .gt 33, 3) := by decide +kernel
theorem dX1_skipComments_10 : decode cX1_skipComments 10 = .ok (.aload_n 0, 1) := by decide +kernel
theorem dX1_skipComments_11 : decode cX1_skipComments 11 = .ok (.invokevirtual 68, 3) := by decide +kernel
theorem dX1_skipComments_14 : decode cX1_skipComments 14 = .ok (.aload_n 0, 1) := by decide +kernel
theorem dX1_skipComments_15 : decode cX1_skipComments 15 = .ok (.ldc 81, 2) := by decide +kernel
theorem dX1_skipComments_17 : decode cX1_skipComments 17 = .ok (.invokevirtual 53, 3) := by decide +kernel
theorem dX1_skipComments_20 : decode cX1_skipComments 20 = .ok (.ifCond .ne 5, 3) := by decide +kernel
theorem dX1_skipComments_23 : decode cX1_skipComments 23 = .ok (.iconst 1, 1) := by decide +kernel
theorem dX1_skipComments_24 : decode cX1_skipComments 24 = .ok (.ireturn, 1) := by decide +kernel
theorem dX1_skipComments_25 : decode cX1_skipComments 25 = .ok (.aload_n 0, 1) := by decide +kernel
theorem dX1_skipComments_26 : decode cX1_skipComments 26 = .ok (.invokevirtual 83, 3) := by decide +kernel
theorem dX1_skipComments_29 : decode cX1_skipComments 29 = .ok (.ifCond .ne 5, 3) := by decide +kernel
theorem dX1_skipComments_32 : decode cX1_skipComments 32 = .ok (.iconst 0, 1) := by decide +kernel
theorem dX1_skipComments_33 : decode cX1_skipComments 33 = .ok (.ireturn, 1) := by decide +kernel
theorem dX1_skipComments_34 : decode cX1_skipComments 34 = .ok (.iinc 1 1, 3) := by decide +kernel
theorem dX1_skipComments_37 : decode cX1_skipComments 37 = .ok (.goto (-35), 3) := by decide +kernel
theorem dX1_skipComments_40 : decode cX1_skipComments 40 = .ok (.iconst 1, 1) := by decide +kernel
theorem dX1_skipComments_41 : decode cX1_skipComments 41 = .ok (.ireturn, 1) := by decide +kernel
theorem cmF_pos (T : Nat → Int) (n : Int) : ∀ (k : Nat) (h x : Int), cmF T n k h = .inr x → h ≤ x
  | 0, h, x, hx => by simp [cmF] at hx
  | k + 1, h, x, hx => by
    unfold cmF at hx
    split at hx
    · split at hx
      · split at hx
        · have := Sum.inr.inj hx; omega
        · cases hx
      · split at hx
        · have := cmF_pos T n k (h + 1) x hx; omega
        · cases hx
    · cases hx
theorem cmS_pos {T : Nat → Int} {n h x : Int} (hx : cmS T n h = .inr x) : h ≤ x := cmF_pos T n _ h x hx
theorem w_skipComments_l (hs0 : 0 ≤ MI 2 1) (hsz : MI 2 1 ≤ 6000) : ∀ (k : Nat) (t h : Int), 0 ≤ h → 0 ≤ t → t + k = MI 2 1 + 1 → (∀ x, mcF (MI 1) (MI 2 1) k h = .inr x → Q (some (vI 1)) (Mc MI ML d e nw th x nf nl ft fa)) → (∀ f p a, mcF (MI 1) (MI 2 1) k h = .inl (f, p) → Q (some (vI 0)) (Mc MI ML d e nw th a nf nl f p)) → wp cs mX1_skipComments KD Q 2 [some (vR 2), some (vI t)] [] (KD, Mc MI ML d e nw th h nf nl ft fa) := by
  intro k
  induction k with
  | zero =>
    intro t h hh ht hk hT hF
    have hsk := sk_le (MI 1) (MI 2 1) h
    obtain ⟨k, hk0⟩ : ∃ k : Nat, k = 0 := ⟨_, rfl⟩
    rw [← hk0] at hT hF
    refine wp_iload_n dX1_skipComments_2 rfl rfl ?_
    refine wp_aload_n dX1_skipComments_3 rfl rfl (by first | exact Or.inl (by decide) | exact Or.inl (by omega) | exact Or.inr (by decide) | exact Or.inr (by omega)) ?_
    refine wp_getI dX1_skipComments_4 fX1_15 rfl (by decide) ?_
    refine wp_topI (x' := (MI 2 1)) rfl ?_
    refine wp_icmp_gt (tgt := 40) dX1_skipComments_7 (by decide) (fun h7 => ?_) (fun h7 => ?_)
    · refine wp_iconst dX1_skipComments_40 (by decide) ?_
      exact wp_zret dX1_skipComments_41 rfl (Or.inr rfl) (fun _ => hT _ (by rw [show k = 0 by omega, mcF]))
    · refine wp_aload_n dX1_skipComments_10 rfl rfl (by first | exact Or.inl (by decide) | exact Or.inl (by omega) | exact Or.inr (by decide) | exact Or.inr (by omega)) ?_
      refine wp_cV (n := 0) (mt' := mX1_skipSpace) (as := []) (rest := []) none ((cu MI (sk (MI 1) (MI 2 1) h) nf nl ft fa), ML, (GR d e nw th 1)) dX1_skipComments_11 lX1_68 kX1_skipSpace vX1_skipSpace (by decide) (by decide +kernel) rfl (Nat.le_of_ble_eq_true rfl) (by decide) rfl rfl rfl (Nat.le_of_ble_eq_true rfl) (fun hM hS Q' hq => w_X1_skipSpace hsz (by first | assumption | omega) hq) (fun hM => ?_)
      refine wp_aload_n dX1_skipComments_14 rfl rfl (by first | exact Or.inl (by decide) | exact Or.inl (by omega) | exact Or.inr (by decide) | exact Or.inr (by omega)) ?_
      refine wp_ldcS (k := 0) dX1_skipComments_15 cX1_81 ?_
      refine wp_cVq (n := 1) (mt' := mX1_takeIf) (as := [vR 1000003]) (rest := []) (fun r M' => (stb (MI 1) (MI 2 1) (sk (MI 1) (MI 2 1) h) [60, 33, 45, 45] = true ∧ r = some (vI 1) ∧ M' = Mc MI ML d e nw th ((sk (MI 1) (MI 2 1) h) + 4) nf nl ft fa) ∨ (stb (MI 1) (MI 2 1) (sk (MI 1) (MI 2 1) h) [60, 33, 45, 45] = false ∧ r = some (vI 0) ∧ M' = Mc MI ML d e nw th (sk (MI 1) (MI 2 1) h) nf nl ft fa)) dX1_skipComments_17 lX1_53 kX1_takeIf vX1_takeIf (by decide) (by decide +kernel) rfl (Nat.le_of_ble_eq_true rfl) (by decide) rfl rfl rfl (Nat.le_of_ble_eq_true rfl) (fun hM hS => w_X1_takeIf (k := 0) (by decide) hs0 hsz (by first | assumption | omega) (fun hs => Or.inl ⟨hs, rfl, rfl⟩) (fun hs => Or.inr ⟨hs, rfl, rfl⟩)) (fun r M' hq hM => ?_)
      rcases hq with ⟨h17, rfl, rfl⟩ | ⟨h17, rfl, rfl⟩
      · refine wp_if_ne (tgt := 25) dX1_skipComments_20 (by decide) (fun _ => ?_) (fun q => absurd q (by decide))
        refine wp_aload_n dX1_skipComments_25 rfl rfl (by first | exact Or.inl (by decide) | exact Or.inl (by omega) | exact Or.inr (by decide) | exact Or.inr (by omega)) ?_
        refine wp_cVq (n := 0) (mt' := mX1_finishComment) (as := []) (rest := []) (fun r M' => (∃ x, cmS (MI 1) (MI 2 1) ((sk (MI 1) (MI 2 1) h) + 4) = .inr x ∧ r = some (vI 1) ∧ M' = Mc MI ML d e nw th x nf nl ft fa) ∨ (∃ f p a, cmS (MI 1) (MI 2 1) ((sk (MI 1) (MI 2 1) h) + 4) = .inl (f, p) ∧ r = some (vI 0) ∧ M' = Mc MI ML d e nw th a nf nl f p)) dX1_skipComments_26 lX1_83 kX1_finishComment vX1_finishComment (by decide) (by decide +kernel) rfl (Nat.le_of_ble_eq_true rfl) (by decide) rfl rfl rfl (Nat.le_of_ble_eq_true rfl) (fun hM hS => w_X1_finishComment hs0 hsz (by first | assumption | omega) (fun x hx => Or.inl ⟨x, hx, rfl, rfl⟩) (fun f p a hx => Or.inr ⟨f, p, a, hx, rfl, rfl⟩)) (fun r M' hq hM => ?_)
        rcases hq with ⟨x, hx, rfl, rfl⟩ | ⟨f, p, a, hx, rfl, rfl⟩
        · refine wp_if_ne (tgt := 34) dX1_skipComments_29 (by decide) (fun _ => ?_) (fun q => absurd q (by decide))
          refine wp_iincr dX1_skipComments_34 rfl (by decide) (by omega) (wp_L (L' := [some (vR 2), some (vI ((t + 1)))]) rfl ?_)
          refine wp_goto (tgt := 2) dX1_skipComments_37 (by decide) ?_
          exfalso; omega
        · refine wp_if_ne (tgt := 34) dX1_skipComments_29 (by decide) (fun q => absurd q (by decide)) (fun _ => ?_)
          refine wp_iconst dX1_skipComments_32 (by decide) ?_
          exfalso; omega
      · refine wp_if_ne (tgt := 25) dX1_skipComments_20 (by decide) (fun q => absurd q (by decide)) (fun _ => ?_)
        refine wp_iconst dX1_skipComments_23 (by decide) ?_
        exfalso; omega
  | succ k0 ih =>
    intro t h hh ht hk hT hF
    have hsk := sk_le (MI 1) (MI 2 1) h
    obtain ⟨k, hk1⟩ : ∃ k : Nat, k = k0 + 1 := ⟨_, rfl⟩
    rw [← hk1] at hT hF
    refine wp_iload_n dX1_skipComments_2 rfl rfl ?_
    refine wp_aload_n dX1_skipComments_3 rfl rfl (by first | exact Or.inl (by decide) | exact Or.inl (by omega) | exact Or.inr (by decide) | exact Or.inr (by omega)) ?_
    refine wp_getI dX1_skipComments_4 fX1_15 rfl (by decide) ?_
    refine wp_topI (x' := (MI 2 1)) rfl ?_
    refine wp_icmp_gt (tgt := 40) dX1_skipComments_7 (by decide) (fun h7 => ?_) (fun h7 => ?_)
    · refine wp_iconst dX1_skipComments_40 (by decide) ?_
      exfalso; omega
    · refine wp_aload_n dX1_skipComments_10 rfl rfl (by first | exact Or.inl (by decide) | exact Or.inl (by omega) | exact Or.inr (by decide) | exact Or.inr (by omega)) ?_
      refine wp_cV (n := 0) (mt' := mX1_skipSpace) (as := []) (rest := []) none ((cu MI (sk (MI 1) (MI 2 1) h) nf nl ft fa), ML, (GR d e nw th 1)) dX1_skipComments_11 lX1_68 kX1_skipSpace vX1_skipSpace (by decide) (by decide +kernel) rfl (Nat.le_of_ble_eq_true rfl) (by decide) rfl rfl rfl (Nat.le_of_ble_eq_true rfl) (fun hM hS Q' hq => w_X1_skipSpace hsz (by first | assumption | omega) hq) (fun hM => ?_)
      refine wp_aload_n dX1_skipComments_14 rfl rfl (by first | exact Or.inl (by decide) | exact Or.inl (by omega) | exact Or.inr (by decide) | exact Or.inr (by omega)) ?_
      refine wp_ldcS (k := 0) dX1_skipComments_15 cX1_81 ?_
      refine wp_cVq (n := 1) (mt' := mX1_takeIf) (as := [vR 1000003]) (rest := []) (fun r M' => (stb (MI 1) (MI 2 1) (sk (MI 1) (MI 2 1) h) [60, 33, 45, 45] = true ∧ r = some (vI 1) ∧ M' = Mc MI ML d e nw th ((sk (MI 1) (MI 2 1) h) + 4) nf nl ft fa) ∨ (stb (MI 1) (MI 2 1) (sk (MI 1) (MI 2 1) h) [60, 33, 45, 45] = false ∧ r = some (vI 0) ∧ M' = Mc MI ML d e nw th (sk (MI 1) (MI 2 1) h) nf nl ft fa)) dX1_skipComments_17 lX1_53 kX1_takeIf vX1_takeIf (by decide) (by decide +kernel) rfl (Nat.le_of_ble_eq_true rfl) (by decide) rfl rfl rfl (Nat.le_of_ble_eq_true rfl) (fun hM hS => w_X1_takeIf (k := 0) (by decide) hs0 hsz (by first | assumption | omega) (fun hs => Or.inl ⟨hs, rfl, rfl⟩) (fun hs => Or.inr ⟨hs, rfl, rfl⟩)) (fun r M' hq hM => ?_)
      rcases hq with ⟨h17, rfl, rfl⟩ | ⟨h17, rfl, rfl⟩
      · refine wp_if_ne (tgt := 25) dX1_skipComments_20 (by decide) (fun _ => ?_) (fun q => absurd q (by decide))
        refine wp_aload_n dX1_skipComments_25 rfl rfl (by first | exact Or.inl (by decide) | exact Or.inl (by omega) | exact Or.inr (by decide) | exact Or.inr (by omega)) ?_
        refine wp_cVq (n := 0) (mt' := mX1_finishComment) (as := []) (rest := []) (fun r M' => (∃ x, cmS (MI 1) (MI 2 1) ((sk (MI 1) (MI 2 1) h) + 4) = .inr x ∧ r = some (vI 1) ∧ M' = Mc MI ML d e nw th x nf nl ft fa) ∨ (∃ f p a, cmS (MI 1) (MI 2 1) ((sk (MI 1) (MI 2 1) h) + 4) = .inl (f, p) ∧ r = some (vI 0) ∧ M' = Mc MI ML d e nw th a nf nl f p)) dX1_skipComments_26 lX1_83 kX1_finishComment vX1_finishComment (by decide) (by decide +kernel) rfl (Nat.le_of_ble_eq_true rfl) (by decide) rfl rfl rfl (Nat.le_of_ble_eq_true rfl) (fun hM hS => w_X1_finishComment hs0 hsz (by first | assumption | omega) (fun x hx => Or.inl ⟨x, hx, rfl, rfl⟩) (fun f p a hx => Or.inr ⟨f, p, a, hx, rfl, rfl⟩)) (fun r M' hq hM => ?_)
        rcases hq with ⟨x, hx, rfl, rfl⟩ | ⟨f, p, a, hx, rfl, rfl⟩
        · refine wp_if_ne (tgt := 34) dX1_skipComments_29 (by decide) (fun _ => ?_) (fun q => absurd q (by decide))
          refine wp_iincr dX1_skipComments_34 rfl (by decide) (by omega) (wp_L (L' := [some (vR 2), some (vI ((t + 1)))]) rfl ?_)
          refine wp_goto (tgt := 2) dX1_skipComments_37 (by decide) ?_
          exact ih (t + 1) x (by have := cmS_pos hx; omega) (by omega) (by omega) (fun y hy => hT y (by rw [hk1, mcF, if_pos h17, hx]; exact hy)) (fun f p a hy => hF f p a (by rw [hk1, mcF, if_pos h17, hx]; exact hy))
        · refine wp_if_ne (tgt := 34) dX1_skipComments_29 (by decide) (fun q => absurd q (by decide)) (fun _ => ?_)
          refine wp_iconst dX1_skipComments_32 (by decide) ?_
          exact wp_zret dX1_skipComments_33 rfl (Or.inl rfl) (fun _ => hF _ _ _ (by rw [hk1, mcF, if_pos h17, hx]))
      · refine wp_if_ne (tgt := 25) dX1_skipComments_20 (by decide) (fun q => absurd q (by decide)) (fun _ => ?_)
        refine wp_iconst dX1_skipComments_23 (by decide) ?_
        exact wp_zret dX1_skipComments_24 rfl (Or.inr rfl) (fun _ => hT _ (by rw [hk1, mcF, if_neg (by rw [h17]; decide)]))
theorem w_X1_skipComments (hs0 : 0 ≤ MI 2 1) (hsz : MI 2 1 ≤ 6000) (hh : 0 ≤ h) (hT : ∀ x, mcS (MI 1) (MI 2 1) h = .inr x → Q (some (vI 1)) (Mc MI ML d e nw th x nf nl ft fa)) (hF : ∀ f p a, mcS (MI 1) (MI 2 1) h = .inl (f, p) → Q (some (vI 0)) (Mc MI ML d e nw th a nf nl f p)) : wp cs mX1_skipComments KD Q 0 (padL [vR 2] 2) [] (KD, Mc MI ML d e nw th h nf nl ft fa) := by
  refine wp_L (L' := [some (vR 2), none]) rfl ?_
  refine wp_iconst dX1_skipComments_0 (by decide) ?_
  refine wp_istore_n dX1_skipComments_1 rfl (by decide) (wp_L (L' := [some (vR 2), some (vI 0)]) rfl ?_)
  exact w_skipComments_l hs0 hsz _ 0 h hh (by omega) (by omega) hT hF
theorem dX1_takeNumbered_0 : decode cX1_takeNumbered 0 = .ok (.aload_n 0, 1) := by decide +kernel
theorem dX1_takeNumbered_1 : decode cX1_takeNumbered 1 = .ok (.getfield 19, 3) := by decide +kernel
theorem dX1_takeNumbered_4 : decode cX1_takeNumbered 4 = .ok (.istore_n 1, 1) := by decide +kernel
theorem dX1_takeNumbered_5 : decode cX1_takeNumbered 5 = .ok (.iconst 0, 1) := by decide +kernel
theorem dX1_takeNumbered_6 : decode cX1_takeNumbered 6 = .ok (.istore_n 2, 1) := by decide +kernel
theorem dX1_takeNumbered_7 : decode cX1_takeNumbered 7 = .ok (.iconst 0, 1) := by decide +kernel
theorem dX1_takeNumbered_8 : decode cX1_takeNumbered 8 = .ok (.istore_n 3, 1) := by decide +kernel
theorem dX1_takeNumbered_9 : decode cX1_takeNumbered 9 = .ok (.aload_n 0, 1) := by decide +kernel
theorem dX1_takeNumbered_10 : decode cX1_takeNumbered 10 = .ok (.dup, 1) := by decide +kernel
theorem dX1_takeNumbered_11 : decode cX1_takeNumbered 11 = .ok (.getfield 19, 3) := by decide +kernel
theorem dX1_takeNumbered_14 : decode cX1_takeNumbered 14 = .ok (.iconst 1, 1) := by decide +kernel
theorem dX1_takeNumbered_15 : decode cX1_takeNumbered 15 = .ok (.iadd, 1) := by decide +kernel
theorem dX1_takeNumbered_16 : decode cX1_takeNumbered 16 = .ok (.putfield 19, 3) := by decide +kernel
theorem dX1_takeNumbered_19 : decode cX1_takeNumbered 19 = .ok (.aload_n 0, 1) := by decide +kernel
theorem dX1_takeNumbered_20 : decode cX1_takeNumbered 20 = .ok (.invokevirtual 61, 3) := by decide +kernel
theorem dX1_takeNumbered_23 : decode cX1_takeNumbered 23 = .ok (.bipush 35, 2) := by decide +kernel
theorem dX1_takeNumbered_25 : decode cX1_takeNumbered 25 = .ok (.if_icmp .ne 58, 3) := by decide +kernel
theorem dX1_takeNumbered_28 : decode cX1_takeNumbered 28 = .ok (.aload_n 0, 1) := by decide +kernel
theorem dX1_takeNumbered_29 : decode cX1_takeNumbered 29 = .ok (.dup, 1) := by decide +kernel
theorem dX1_takeNumbered_30 : decode cX1_takeNumbered 30 = .ok (.getfield 19, 3) := by decide +kernel
theorem dX1_takeNumbered_33 : decode cX1_takeNumbered 33 = .ok (.iconst 1, 1) := by decide +kernel
theorem dX1_takeNumbered_34 : decode cX1_takeNumbered 34 = .ok (.iadd, 1) := by decide +kernel
theorem dX1_takeNumbered_35 : decode cX1_takeNumbered 35 = .ok (.putfield 19, 3) := by decide +kernel
theorem dX1_takeNumbered_38 : decode cX1_takeNumbered 38 = .ok (.iload_n 3, 1) := by decide +kernel
theorem dX1_takeNumbered_39 : decode cX1_takeNumbered 39 = .ok (.bipush 6, 2) := by decide +kernel
theorem dX1_takeNumbered_41 : decode cX1_takeNumbered 41 = .ok (.if_icmp .ge 42, 3) := by decide +kernel
theorem dX1_takeNumbered_44 : decode cX1_takeNumbered 44 = .ok (.aload_n 0, 1) := by decide +kernel
theorem dX1_takeNumbered_45 : decode cX1_takeNumbered 45 = .ok (.invokevirtual 61, 3) := by decide +kernel
theorem dX1_takeNumbered_48 : decode cX1_takeNumbered 48 = .ok (.invokestatic 109, 3) := by decide +kernel
theorem dX1_takeNumbered_51 : decode cX1_takeNumbered 51 = .ok (.ifCond .eq 32, 3) := by decide +kernel
theorem dX1_takeNumbered_54 : decode cX1_takeNumbered 54 = .ok (.iload_n 2, 1) := by decide +kernel
theorem dX1_takeNumbered_55 : decode cX1_takeNumbered 55 = .ok (.bipush 10, 2) := by decide +kernel
theorem dX1_takeNumbered_57 : decode cX1_takeNumbered 57 = .ok (.imul, 1) := by decide +kernel
theorem dX1_takeNumbered_58 : decode cX1_takeNumbered 58 = .ok (.aload_n 0, 1) := by decide +kernel
theorem dX1_takeNumbered_59 : decode cX1_takeNumbered 59 = .ok (.invokevirtual 61, 3) := by decide +kernel
theorem dX1_takeNumbered_62 : decode cX1_takeNumbered 62 = .ok (.iadd, 1) := by decide +kernel
theorem dX1_takeNumbered_63 : decode cX1_takeNumbered 63 = .ok (.bipush 48, 2) := by decide +kernel
theorem dX1_takeNumbered_65 : decode cX1_takeNumbered 65 = .ok (.isub, 1) := by decide +kernel
theorem dX1_takeNumbered_66 : decode cX1_takeNumbered 66 = .ok (.istore_n 2, 1) := by decide +kernel
theorem dX1_takeNumbered_67 : decode cX1_takeNumbered 67 = .ok (.aload_n 0, 1) := by decide +kernel
theorem dX1_takeNumbered_68 : decode cX1_takeNumbered 68 = .ok (.dup, 1) := by decide +kernel
theorem dX1_takeNumbered_69 : decode cX1_takeNumbered 69 = .ok (.getfield 19, 3) := by decide +kernel
theorem dX1_takeNumbered_72 : decode cX1_takeNumbered 72 = .ok (.iconst 1, 1) := by decide +kernel
theorem dX1_takeNumbered_73 : decode cX1_takeNumbered 73 = .ok (.iadd, 1) := by decide +kernel
theorem dX1_takeNumbered_74 : decode cX1_takeNumbered 74 = .ok (.putfield 19, 3) := by decide +kernel
theorem dX1_takeNumbered_77 : decode cX1_takeNumbered 77 = .ok (.iinc 3 1, 3) := by decide +kernel
theorem dX1_takeNumbered_80 : decode cX1_takeNumbered 80 = .ok (.goto (-42), 3) := by decide +kernel
theorem dX1_takeNumbered_83 : decode cX1_takeNumbered 83 = .ok (.iload_n 3, 1) := by decide +kernel
theorem dX1_takeNumbered_84 : decode cX1_takeNumbered 84 = .ok (.ifCond .eq 19, 3) := by decide +kernel
theorem dX1_takeNumbered_87 : decode cX1_takeNumbered 87 = .ok (.aload_n 0, 1) := by decide +kernel
theorem dX1_takeNumbered_88 : decode cX1_takeNumbered 88 = .ok (.invokevirtual 61, 3) := by decide +kernel
theorem dX1_takeNumbered_91 : decode cX1_takeNumbered 91 = .ok (.bipush 59, 2) := by decide +kernel
theorem dX1_takeNumbered_93 : decode cX1_takeNumbered 93 = .ok (.if_icmp .ne 10, 3) := by decide +kernel
theorem dX1_takeNumbered_96 : decode cX1_takeNumbered 96 = .ok (.iload_n 2, 1) := by decide +kernel
theorem dX1_takeNumbered_97 : decode cX1_takeNumbered 97 = .ok (.invokestatic 93, 3) := by decide +kernel
theorem dX1_takeNumbered_100 : decode cX1_takeNumbered 100 = .ok (.ifCond .ne 12, 3) := by decide +kernel
theorem dX1_takeNumbered_103 : decode cX1_takeNumbered 103 = .ok (.aload_n 0, 1) := by decide +kernel
theorem dX1_takeNumbered_104 : decode cX1_takeNumbered 104 = .ok (.iconst (-1), 1) := by decide +kernel
theorem dX1_takeNumbered_105 : decode cX1_takeNumbered 105 = .ok (.iload_n 1, 1) := by decide +kernel
theorem dX1_takeNumbered_106 : decode cX1_takeNumbered 106 = .ok (.invokevirtual 57, 3) := by decide +kernel
theorem dX1_takeNumbered_109 : decode cX1_takeNumbered 109 = .ok (.pop, 1) := by decide +kernel
theorem dX1_takeNumbered_110 : decode cX1_takeNumbered 110 = .ok (.iconst (-1), 1) := by decide +kernel
theorem dX1_takeNumbered_111 : decode cX1_takeNumbered 111 = .ok (.ireturn, 1) := by decide +kernel
theorem dX1_takeNumbered_112 : decode cX1_takeNumbered 112 = .ok (.aload_n 0, 1) := by decide +kernel
theorem dX1_takeNumbered_113 : decode cX1_takeNumbered 113 = .ok (.dup, 1) := by decide +kernel
theorem dX1_takeNumbered_114 : decode cX1_takeNumbered 114 = .ok (.getfield 19, 3) := by decide +kernel
theorem dX1_takeNumbered_117 : decode cX1_takeNumbered 117 = .ok (.iconst 1, 1) := by decide +kernel
theorem dX1_takeNumbered_118 : decode cX1_takeNumbered 118 = .ok (.iadd, 1) := by decide +kernel
theorem dX1_takeNumbered_119 : decode cX1_takeNumbered 119 = .ok (.putfield 19, 3) := by decide +kernel
theorem dX1_takeNumbered_122 : decode cX1_takeNumbered 122 = .ok (.iload_n 2, 1) := by decide +kernel
theorem dX1_takeNumbered_123 : decode cX1_takeNumbered 123 = .ok (.ireturn, 1) := by decide +kernel
theorem w_takeNumbered_x (hs0 : 0 ≤ MI 2 1) (hsz : MI 2 1 ≤ 6000) {v p : Int} {c : Nat} (hp : 0 ≤ p ∧ p ≤ 10000000) (hq : numQ (MI 1) (MI 2 1) h = (v, c, p)) (hT : ∀ b x, numS (MI 1) (MI 2 1) h = .inr (b, x) → Q (some (vI b)) (Mc MI ML d e nw th x nf nl ft fa)) (hF : ∀ f p a, numS (MI 1) (MI 2 1) h = .inl (f, p) → Q (some (vI (-1))) (Mc MI ML d e nw th a nf nl f p)) : wp cs mX1_takeNumbered KD Q 83 [some (vR 2), some (vI h), some (vI v), some (vI ((c : Int)))] [] (KD, Mc MI ML d e nw th p nf nl ft fa) := by
  refine wp_iload_n dX1_takeNumbered_83 rfl rfl ?_
  refine wp_if_eq (tgt := 103) dX1_takeNumbered_84 (by decide) (fun h84 => ?_) (fun h84 => ?_)
  · refine wp_aload_n dX1_takeNumbered_103 rfl rfl (by first | exact Or.inl (by decide) | exact Or.inl (by omega) | exact Or.inr (by decide) | exact Or.inr (by omega)) ?_
    refine wp_iconst dX1_takeNumbered_104 (by decide) ?_
    refine wp_iload_n dX1_takeNumbered_105 rfl rfl ?_
    refine wp_cV (n := 2) (mt' := mX1_refuse) (as := [vI ((-1)), vI h]) (rest := []) (some (vI 0)) ((cu MI p nf nl (-1) h), ML, (GR d e nw th 1)) dX1_takeNumbered_106 lX1_57 kX1_refuse vX1_refuse (by decide) (by decide +kernel) rfl (Nat.le_of_ble_eq_true rfl) (by decide) rfl rfl rfl (Nat.le_of_ble_eq_true rfl) (fun hM hS Q' hq => w_X1_refuse hq) (fun hM => ?_)
    refine wp_pop dX1_takeNumbered_109 (fun x e => by cases e) ?_
    refine wp_iconst dX1_takeNumbered_110 (by decide) ?_
    exact wp_iret dX1_takeNumbered_111 rfl (fun _ => hF _ _ _ (by unfold numS; rw [hq, if_pos (by dsimp only; first | exact Or.inl (by omega) | exact Or.inr (Or.inl (by assumption)) | exact Or.inr (Or.inr (by assumption)))]))
  · refine wp_aload_n dX1_takeNumbered_87 rfl rfl (by first | exact Or.inl (by decide) | exact Or.inl (by omega) | exact Or.inr (by decide) | exact Or.inr (by omega)) ?_
    refine wp_cV (n := 0) (mt' := mX1_peek) (as := []) (rest := []) (some (vI ((ob (MI 1) (MI 2 1) p)))) ((cu MI p nf nl ft fa), ML, (GR d e nw th 1)) dX1_takeNumbered_88 lX1_61 kX1_peek vX1_peek (by decide) (by decide +kernel) rfl (Nat.le_of_ble_eq_true rfl) (by decide) rfl rfl rfl (Nat.le_of_ble_eq_true rfl) (fun hM hS Q' hq => w_X1_peek hsz hq) (fun hM => ?_)
    refine wp_bipush dX1_takeNumbered_91 (by decide +kernel) (by decide) ?_
    refine wp_icmp_ne (tgt := 103) dX1_takeNumbered_93 (by decide) (fun h93 => ?_) (fun h93 => ?_)
    · refine wp_aload_n dX1_takeNumbered_103 rfl rfl (by first | exact Or.inl (by decide) | exact Or.inl (by omega) | exact Or.inr (by decide) | exact Or.inr (by omega)) ?_
      refine wp_iconst dX1_takeNumbered_104 (by decide) ?_
      refine wp_iload_n dX1_takeNumbered_105 rfl rfl ?_
      refine wp_cV (n := 2) (mt' := mX1_refuse) (as := [vI ((-1)), vI h]) (rest := []) (some (vI 0)) ((cu MI p nf nl (-1) h), ML, (GR d e nw th 1)) dX1_takeNumbered_106 lX1_57 kX1_refuse vX1_refuse (by decide) (by decide +kernel) rfl (Nat.le_of_ble_eq_true rfl) (by decide) rfl rfl rfl (Nat.le_of_ble_eq_true rfl) (fun hM hS Q' hq => w_X1_refuse hq) (fun hM => ?_)
      refine wp_pop dX1_takeNumbered_109 (fun x e => by cases e) ?_
      refine wp_iconst dX1_takeNumbered_110 (by decide) ?_
      exact wp_iret dX1_takeNumbered_111 rfl (fun _ => hF _ _ _ (by unfold numS; rw [hq, if_pos (by dsimp only; first | exact Or.inl (by omega) | exact Or.inr (Or.inl (by assumption)) | exact Or.inr (Or.inr (by assumption)))]))
    · refine wp_iload_n dX1_takeNumbered_96 rfl rfl ?_
      refine wp_cS (n := 1) (mt' := mX1_isChar) (as := [vI v]) (rest := []) (some (vI ((bI (isCh v))))) ((cu MI p nf nl ft fa), ML, (GR d e nw th 1)) dX1_takeNumbered_97 lX1_93 kX1_isChar vX1_isChar (by decide) (by decide +kernel) rfl (Nat.le_of_ble_eq_true rfl) rfl (Nat.le_of_ble_eq_true rfl) (fun hM hS Q' hq => w_X1_isChar hq) (fun hM => ?_)
      by_cases h97 : isCh v
      · refine wp_topI (x' := 1) (if_pos h97) ?_
        refine wp_if_ne (tgt := 112) dX1_takeNumbered_100 (by decide) (fun _ => ?_) (fun q => absurd q (by decide))
        refine wp_aload_n dX1_takeNumbered_112 rfl rfl (by first | exact Or.inl (by decide) | exact Or.inl (by omega) | exact Or.inr (by decide) | exact Or.inr (by omega)) ?_
        refine wp_dup dX1_takeNumbered_113 (fun x e => by cases e) ?_
        refine wp_getI dX1_takeNumbered_114 fX1_19 rfl (by decide) ?_
        refine wp_topI (x' := p) rfl ?_
        refine wp_iconst dX1_takeNumbered_117 (by decide) ?_
        refine wp_iaddr dX1_takeNumbered_118 (by omega) ?_
        refine wp_putI dX1_takeNumbered_119 pX1_19 rfl (by decide) ?_
        refine wp_M (M' := ((cu MI (p + 1) nf nl ft fa), ML, (GR d e nw th 1))) (by rw [cu_2]) ?_
        refine wp_pc (pc' := 122) rfl ?_
        refine wp_iload_n dX1_takeNumbered_122 rfl rfl ?_
        exact wp_iret dX1_takeNumbered_123 rfl (fun _ => hT _ _ (by unfold numS; rw [hq, if_neg (by dsimp only; intro q; rcases q with q | q | q; omega; omega; exact q (by assumption))]))
      · refine wp_topI (x' := 0) (if_neg h97) ?_
        refine wp_if_ne (tgt := 112) dX1_takeNumbered_100 (by decide) (fun q => absurd q (by decide)) (fun _ => ?_)
        refine wp_aload_n dX1_takeNumbered_103 rfl rfl (by first | exact Or.inl (by decide) | exact Or.inl (by omega) | exact Or.inr (by decide) | exact Or.inr (by omega)) ?_
        refine wp_iconst dX1_takeNumbered_104 (by decide) ?_
        refine wp_iload_n dX1_takeNumbered_105 rfl rfl ?_
        refine wp_cV (n := 2) (mt' := mX1_refuse) (as := [vI ((-1)), vI h]) (rest := []) (some (vI 0)) ((cu MI p nf nl (-1) h), ML, (GR d e nw th 1)) dX1_takeNumbered_106 lX1_57 kX1_refuse vX1_refuse (by decide) (by decide +kernel) rfl (Nat.le_of_ble_eq_true rfl) (by decide) rfl rfl rfl (Nat.le_of_ble_eq_true rfl) (fun hM hS Q' hq => w_X1_refuse hq) (fun hM => ?_)
        refine wp_pop dX1_takeNumbered_109 (fun x e => by cases e) ?_
        refine wp_iconst dX1_takeNumbered_110 (by decide) ?_
        refine wp_pc (pc' := 111) rfl ?_
        exact wp_iret dX1_takeNumbered_111 rfl (fun _ => hF _ _ _ (by unfold numS; rw [hq, if_pos (by dsimp only; first | exact Or.inl (by omega) | exact Or.inr (Or.inl (by assumption)) | exact Or.inr (Or.inr (by assumption)))]))
theorem w_takeNumbered_l (hs0 : 0 ≤ MI 2 1) (hsz : MI 2 1 ≤ 6000) (hT : ∀ b x, numS (MI 1) (MI 2 1) h = .inr (b, x) → Q (some (vI b)) (Mc MI ML d e nw th x nf nl ft fa)) (hF : ∀ f p a, numS (MI 1) (MI 2 1) h = .inl (f, p) → Q (some (vI (-1))) (Mc MI ML d e nw th a nf nl f p)) : ∀ (k c : Nat) (v p : Int), c + k = 6 → 0 ≤ v ∧ v < 10 ^ c → 0 ≤ p ∧ p ≤ 1000000 + c → numQ (MI 1) (MI 2 1) h = dg (MI 1) (MI 2 1) k v c p → wp cs mX1_takeNumbered KD Q 38 [some (vR 2), some (vI h), some (vI v), some (vI ((c : Int)))] [] (KD, Mc MI ML d e nw th p nf nl ft fa) := by
  intro k
  induction k with
  | zero =>
    intro c v p hc hv hp hq
    obtain ⟨k, hk0⟩ : ∃ k : Nat, k = 0 := ⟨_, rfl⟩
    rw [← hk0] at hq
    refine wp_iload_n dX1_takeNumbered_38 rfl rfl ?_
    refine wp_bipush dX1_takeNumbered_39 (by decide +kernel) (by decide) ?_
    refine wp_icmp_ge (tgt := 83) dX1_takeNumbered_41 (by decide) (fun h41 => ?_) (fun h41 => ?_)
    · exact w_takeNumbered_x hs0 hsz (by omega) (by rw [hq]; first | (rw [show k = 0 by omega]; rfl) | (rw [hk1, dg, if_neg h48])) hT hF
    · exfalso; omega
  | succ k0 ih =>
    intro c v p hc hv hp hq
    have h10 : (10 : Int) ^ c ≤ 100000 := by rcases (by omega : c = 0 ∨ c = 1 ∨ c = 2 ∨ c = 3 ∨ c = 4 ∨ c = 5) with rfl | rfl | rfl | rfl | rfl | rfl <;> decide
    have h11 : (10 : Int) ^ (c + 1) = 10 * 10 ^ c := by rw [Int.pow_succ]; omega
    obtain ⟨k, hk1⟩ : ∃ k : Nat, k = k0 + 1 := ⟨_, rfl⟩
    rw [← hk1] at hq
    refine wp_iload_n dX1_takeNumbered_38 rfl rfl ?_
    refine wp_bipush dX1_takeNumbered_39 (by decide +kernel) (by decide) ?_
    refine wp_icmp_ge (tgt := 83) dX1_takeNumbered_41 (by decide) (fun h41 => ?_) (fun h41 => ?_)
    · exact w_takeNumbered_x hs0 hsz (by omega) (by rw [hq]; first | (rw [show k = 0 by omega]; rfl) | (rw [hk1, dg, if_neg h48])) hT hF
    · refine wp_aload_n dX1_takeNumbered_44 rfl rfl (by first | exact Or.inl (by decide) | exact Or.inl (by omega) | exact Or.inr (by decide) | exact Or.inr (by omega)) ?_
      refine wp_cV (n := 0) (mt' := mX1_peek) (as := []) (rest := []) (some (vI ((ob (MI 1) (MI 2 1) p)))) ((cu MI p nf nl ft fa), ML, (GR d e nw th 1)) dX1_takeNumbered_45 lX1_61 kX1_peek vX1_peek (by decide) (by decide +kernel) rfl (Nat.le_of_ble_eq_true rfl) (by decide) rfl rfl rfl (Nat.le_of_ble_eq_true rfl) (fun hM hS Q' hq => w_X1_peek hsz hq) (fun hM => ?_)
      refine wp_cS (n := 1) (mt' := mX1_isDigit) (as := [vI ((ob (MI 1) (MI 2 1) p))]) (rest := []) (some (vI ((bI (isDg (ob (MI 1) (MI 2 1) p)))))) ((cu MI p nf nl ft fa), ML, (GR d e nw th 1)) dX1_takeNumbered_48 lX1_109 kX1_isDigit vX1_isDigit (by decide) (by decide +kernel) rfl (Nat.le_of_ble_eq_true rfl) rfl (Nat.le_of_ble_eq_true rfl) (fun hM hS Q' hq => w_X1_isDigit hq) (fun hM => ?_)
      by_cases h48 : isDg (ob (MI 1) (MI 2 1) p)
      · refine wp_topI (x' := 1) (if_pos h48) ?_
        refine wp_if_eq (tgt := 83) dX1_takeNumbered_51 (by decide) (fun q => absurd q (by decide)) (fun _ => ?_)
        refine wp_iload_n dX1_takeNumbered_54 rfl rfl ?_
        refine wp_bipush dX1_takeNumbered_55 (by decide +kernel) (by decide) ?_
        refine wp_imulr dX1_takeNumbered_57 (by omega) ?_
        refine wp_aload_n dX1_takeNumbered_58 rfl rfl (by first | exact Or.inl (by decide) | exact Or.inl (by omega) | exact Or.inr (by decide) | exact Or.inr (by omega)) ?_
        refine wp_cV (n := 0) (mt' := mX1_peek) (as := []) (rest := [vI ((v * 10))]) (some (vI ((ob (MI 1) (MI 2 1) p)))) ((cu MI p nf nl ft fa), ML, (GR d e nw th 1)) dX1_takeNumbered_59 lX1_61 kX1_peek vX1_peek (by decide) (by decide +kernel) rfl (Nat.le_of_ble_eq_true rfl) (by decide) rfl rfl rfl (Nat.le_of_ble_eq_true rfl) (fun hM hS Q' hq => w_X1_peek hsz hq) (fun hM => ?_)
        refine wp_iaddr dX1_takeNumbered_62 (by omega) ?_
        refine wp_pc (pc' := 63) rfl ?_
        refine wp_bipush dX1_takeNumbered_63 (by decide +kernel) (by decide) ?_
        refine wp_isubr dX1_takeNumbered_65 (by omega) ?_
        refine wp_istore_n dX1_takeNumbered_66 rfl (by decide) (wp_L (L' := [some (vR 2), some (vI h), some (vI ((((v * 10) + (ob (MI 1) (MI 2 1) p)) - 48))), some (vI ((c : Int)))]) rfl ?_)
        refine wp_aload_n dX1_takeNumbered_67 rfl rfl (by first | exact Or.inl (by decide) | exact Or.inl (by omega) | exact Or.inr (by decide) | exact Or.inr (by omega)) ?_
        refine wp_dup dX1_takeNumbered_68 (fun x e => by cases e) ?_
        refine wp_getI dX1_takeNumbered_69 fX1_19 rfl (by decide) ?_
        refine wp_topI (x' := p) rfl ?_
        refine wp_iconst dX1_takeNumbered_72 (by decide) ?_
        refine wp_iaddr dX1_takeNumbered_73 (by omega) ?_
        refine wp_pc (pc' := 74) rfl ?_
        refine wp_putI dX1_takeNumbered_74 pX1_19 rfl (by decide) ?_
        refine wp_M (M' := ((cu MI (p + 1) nf nl ft fa), ML, (GR d e nw th 1))) (by rw [cu_2]) ?_
        refine wp_iincr dX1_takeNumbered_77 rfl (by decide) (by omega) (wp_L (L' := [some (vR 2), some (vI h), some (vI ((((v * 10) + (ob (MI 1) (MI 2 1) p)) - 48))), some (vI (((c : Int) + 1)))]) rfl ?_)
        refine wp_goto (tgt := 38) dX1_takeNumbered_80 (by decide) ?_
        refine wp_L (L' := [some (vR 2), some (vI h), some (vI (v * 10 + ob (MI 1) (MI 2 1) p - 48)), some (vI ((c + 1 : Nat) : Int))]) rfl ?_; exact ih (c + 1) _ (p + 1) (by omega) (by omega) (by omega) (by rw [hq, hk1, dg, if_pos h48])
      · refine wp_topI (x' := 0) (if_neg h48) ?_
        refine wp_if_eq (tgt := 83) dX1_takeNumbered_51 (by decide) (fun _ => ?_) (fun q => absurd q (by decide))
        exact w_takeNumbered_x hs0 hsz (by omega) (by rw [hq]; first | (rw [show k = 0 by omega]; rfl) | (rw [hk1, dg, if_neg h48])) hT hF
theorem w_X1_takeNumbered (hs0 : 0 ≤ MI 2 1) (hsz : MI 2 1 ≤ 6000) (hh : 0 ≤ h) (hh2 : h ≤ 6000) (hT : ∀ b x, numS (MI 1) (MI 2 1) h = .inr (b, x) → Q (some (vI b)) (Mc MI ML d e nw th x nf nl ft fa)) (hF : ∀ f p a, numS (MI 1) (MI 2 1) h = .inl (f, p) → Q (some (vI (-1))) (Mc MI ML d e nw th a nf nl f p)) : wp cs mX1_takeNumbered KD Q 0 (padL [vR 2] 4) [] (KD, Mc MI ML d e nw th h nf nl ft fa) := by
  refine wp_L (L' := [some (vR 2), none, none, none]) rfl ?_
  refine wp_aload_n dX1_takeNumbered_0 rfl rfl (by first | exact Or.inl (by decide) | exact Or.inl (by omega) | exact Or.inr (by decide) | exact Or.inr (by omega)) ?_
  refine wp_getI dX1_takeNumbered_1 fX1_19 rfl (by decide) ?_
  refine wp_topI (x' := h) rfl ?_
  refine wp_istore_n dX1_takeNumbered_4 rfl (by decide) (wp_L (L' := [some (vR 2), some (vI h), none, none]) rfl ?_)
  refine wp_iconst dX1_takeNumbered_5 (by decide) ?_
  refine wp_istore_n dX1_takeNumbered_6 rfl (by decide) (wp_L (L' := [some (vR 2), some (vI h), some (vI 0), none]) rfl ?_)
  refine wp_iconst dX1_takeNumbered_7 (by decide) ?_
  refine wp_istore_n dX1_takeNumbered_8 rfl (by decide) (wp_L (L' := [some (vR 2), some (vI h), some (vI 0), some (vI 0)]) rfl ?_)
  refine wp_pc (pc' := 9) rfl ?_
  refine wp_aload_n dX1_takeNumbered_9 rfl rfl (by first | exact Or.inl (by decide) | exact Or.inl (by omega) | exact Or.inr (by decide) | exact Or.inr (by omega)) ?_
  refine wp_dup dX1_takeNumbered_10 (fun x e => by cases e) ?_
  refine wp_getI dX1_takeNumbered_11 fX1_19 rfl (by decide) ?_
  refine wp_topI (x' := h) rfl ?_
  refine wp_iconst dX1_takeNumbered_14 (by decide) ?_
  refine wp_iaddr dX1_takeNumbered_15 (by omega) ?_
  refine wp_putI dX1_takeNumbered_16 pX1_19 rfl (by decide) ?_
  refine wp_M (M' := ((cu MI (h + 1) nf nl ft fa), ML, (GR d e nw th 1))) (by rw [cu_2]) ?_
  refine wp_aload_n dX1_takeNumbered_19 rfl rfl (by first | exact Or.inl (by decide) | exact Or.inl (by omega) | exact Or.inr (by decide) | exact Or.inr (by omega)) ?_
  refine wp_cV (n := 0) (mt' := mX1_peek) (as := []) (rest := []) (some (vI ((ob (MI 1) (MI 2 1) (h + 1))))) ((cu MI (h + 1) nf nl ft fa), ML, (GR d e nw th 1)) dX1_takeNumbered_20 lX1_61 kX1_peek vX1_peek (by decide) (by decide +kernel) rfl (Nat.le_of_ble_eq_true rfl) (by decide) rfl rfl rfl (Nat.le_of_ble_eq_true rfl) (fun hM hS Q' hq => w_X1_peek hsz hq) (fun hM => ?_)
  refine wp_pc (pc' := 23) rfl ?_
  refine wp_bipush dX1_takeNumbered_23 (by decide +kernel) (by decide) ?_
  refine wp_icmp_ne (tgt := 83) dX1_takeNumbered_25 (by decide) (fun h25 => ?_) (fun h25 => ?_)
  · exact w_takeNumbered_x (c := 0) hs0 hsz (by omega) (by unfold numQ; rw [if_neg (by omega)]) hT hF
  · refine wp_aload_n dX1_takeNumbered_28 rfl rfl (by first | exact Or.inl (by decide) | exact Or.inl (by omega) | exact Or.inr (by decide) | exact Or.inr (by omega)) ?_
    refine wp_dup dX1_takeNumbered_29 (fun x e => by cases e) ?_
    refine wp_getI dX1_takeNumbered_30 fX1_19 rfl (by decide) ?_
    refine wp_topI (x' := (h + 1)) rfl ?_
    refine wp_iconst dX1_takeNumbered_33 (by decide) ?_
    refine wp_iaddr dX1_takeNumbered_34 (by omega) ?_
    refine wp_putI dX1_takeNumbered_35 pX1_19 rfl (by decide) ?_
    refine wp_M (M' := ((cu MI ((h + 1) + 1) nf nl ft fa), ML, (GR d e nw th 1))) (by rw [cu_2]) ?_
    exact w_takeNumbered_l hs0 hsz hT hF 6 0 0 (h + 1 + 1) (by omega) (by decide) (by omega) (by unfold numQ; rw [if_pos (by omega)])
theorem dX1_takePiece_0 : decode cX1_takePiece 0 = .ok (.aload_n 0, 1) := by decide +kernel
theorem dX1_takePiece_1 : decode cX1_takePiece 1 = .ok (.invokevirtual 61, 3) := by decide +kernel
theorem dX1_takePiece_4 : decode cX1_takePiece 4 = .ok (.istore_n 1, 1) := by decide +kernel
theorem dX1_takePiece_5 : decode cX1_takePiece 5 = .ok (.iload_n 1, 1) := by decide +kernel
theorem dX1_takePiece_6 : decode cX1_takePiece 6 = .ok (.bipush 38, 2) := by decide +kernel
theorem dX1_takePiece_8 : decode cX1_takePiece 8 = .ok (.if_icmp .eq 34, 3) := by decide +kernel
theorem dX1_takePiece_11 : decode cX1_takePiece 11 = .ok (.iload_n 1, 1) := by decide +kernel
theorem dX1_takePiece_12 : decode cX1_takePiece 12 = .ok (.invokestatic 93, 3) := by decide +kernel
theorem dX1_takePiece_15 : decode cX1_takePiece 15 = .ok (.ifCond .ne 15, 3) := by decide +kernel
theorem dX1_takePiece_18 : decode cX1_takePiece 18 = .ok (.aload_n 0, 1) := by decide +kernel
theorem dX1_takePiece_19 : decode cX1_takePiece 19 = .ok (.iconst (-1), 1) := by decide +kernel
theorem dX1_takePiece_20 : decode cX1_takePiece 20 = .ok (.aload_n 0, 1) := by decide +kernel
theorem dX1_takePiece_21 : decode cX1_takePiece 21 = .ok (.getfield 19, 3) := by decide +kernel
theorem dX1_takePiece_24 : decode cX1_takePiece 24 = .ok (.invokevirtual 57, 3) := by decide +kernel
theorem dX1_takePiece_27 : decode cX1_takePiece 27 = .ok (.pop, 1) := by decide +kernel
theorem dX1_takePiece_28 : decode cX1_takePiece 28 = .ok (.iconst (-1), 1) := by decide +kernel
theorem dX1_takePiece_29 : decode cX1_takePiece 29 = .ok (.ireturn, 1) := by decide +kernel
theorem dX1_takePiece_30 : decode cX1_takePiece 30 = .ok (.aload_n 0, 1) := by decide +kernel
theorem dX1_takePiece_31 : decode cX1_takePiece 31 = .ok (.dup, 1) := by decide +kernel
theorem dX1_takePiece_32 : decode cX1_takePiece 32 = .ok (.getfield 19, 3) := by decide +kernel
theorem dX1_takePiece_35 : decode cX1_takePiece 35 = .ok (.iconst 1, 1) := by decide +kernel
theorem dX1_takePiece_36 : decode cX1_takePiece 36 = .ok (.iadd, 1) := by decide +kernel
theorem dX1_takePiece_37 : decode cX1_takePiece 37 = .ok (.putfield 19, 3) := by decide +kernel
theorem dX1_takePiece_40 : decode cX1_takePiece 40 = .ok (.iload_n 1, 1) := by decide +kernel
theorem dX1_takePiece_41 : decode cX1_takePiece 41 = .ok (.ireturn, 1) := by decide +kernel
theorem dX1_takePiece_42 : decode cX1_takePiece 42 = .ok (.aload_n 0, 1) := by decide +kernel
theorem dX1_takePiece_43 : decode cX1_takePiece 43 = .ok (.ldc 96, 2) := by decide +kernel
theorem dX1_takePiece_45 : decode cX1_takePiece 45 = .ok (.invokevirtual 53, 3) := by decide +kernel
theorem dX1_takePiece_48 : decode cX1_takePiece 48 = .ok (.ifCond .eq 6, 3) := by decide +kernel
theorem dX1_takePiece_51 : decode cX1_takePiece 51 = .ok (.bipush 60, 2) := by decide +kernel
theorem dX1_takePiece_53 : decode cX1_takePiece 53 = .ok (.ireturn, 1) := by decide +kernel
theorem dX1_takePiece_54 : decode cX1_takePiece 54 = .ok (.aload_n 0, 1) := by decide +kernel
theorem dX1_takePiece_55 : decode cX1_takePiece 55 = .ok (.ldc 98, 2) := by decide +kernel
theorem dX1_takePiece_57 : decode cX1_takePiece 57 = .ok (.invokevirtual 53, 3) := by decide +kernel
theorem dX1_takePiece_60 : decode cX1_takePiece 60 = .ok (.ifCond .eq 6, 3) := by decide +kernel
theorem dX1_takePiece_63 : decode cX1_takePiece 63 = .ok (.bipush 62, 2) := by decide +kernel
theorem dX1_takePiece_65 : decode cX1_takePiece 65 = .ok (.ireturn, 1) := by decide +kernel
theorem dX1_takePiece_66 : decode cX1_takePiece 66 = .ok (.aload_n 0, 1) := by decide +kernel
theorem dX1_takePiece_67 : decode cX1_takePiece 67 = .ok (.ldc 100, 2) := by decide +kernel
theorem dX1_takePiece_69 : decode cX1_takePiece 69 = .ok (.invokevirtual 53, 3) := by decide +kernel
theorem dX1_takePiece_72 : decode cX1_takePiece 72 = .ok (.ifCond .eq 6, 3) := by decide +kernel
theorem dX1_takePiece_75 : decode cX1_takePiece 75 = .ok (.bipush 38, 2) := by decide +kernel
theorem dX1_takePiece_77 : decode cX1_takePiece 77 = .ok (.ireturn, 1) := by decide +kernel
theorem dX1_takePiece_78 : decode cX1_takePiece 78 = .ok (.aload_n 0, 1) := by decide +kernel
theorem dX1_takePiece_79 : decode cX1_takePiece 79 = .ok (.ldc 102, 2) := by decide +kernel
theorem dX1_takePiece_81 : decode cX1_takePiece 81 = .ok (.invokevirtual 53, 3) := by decide +kernel
theorem dX1_takePiece_84 : decode cX1_takePiece 84 = .ok (.ifCond .eq 6, 3) := by decide +kernel
theorem dX1_takePiece_87 : decode cX1_takePiece 87 = .ok (.bipush 34, 2) := by decide +kernel
theorem dX1_takePiece_89 : decode cX1_takePiece 89 = .ok (.ireturn, 1) := by decide +kernel
theorem dX1_takePiece_90 : decode cX1_takePiece 90 = .ok (.aload_n 0, 1) := by decide +kernel
theorem dX1_takePiece_91 : decode cX1_takePiece 91 = .ok (.ldc 104, 2) := by decide +kernel
theorem dX1_takePiece_93 : decode cX1_takePiece 93 = .ok (.invokevirtual 53, 3) := by decide +kernel
theorem dX1_takePiece_96 : decode cX1_takePiece 96 = .ok (.ifCond .eq 8, 3) := by decide +kernel
theorem dX1_takePiece_99 : decode cX1_takePiece 99 = .ok (.bipush 39, 2) := by decide +kernel
theorem dX1_takePiece_101 : decode cX1_takePiece 101 = .ok (.goto 7, 3) := by decide +kernel
theorem dX1_takePiece_104 : decode cX1_takePiece 104 = .ok (.aload_n 0, 1) := by decide +kernel
theorem dX1_takePiece_105 : decode cX1_takePiece 105 = .ok (.invokevirtual 106, 3) := by decide +kernel
theorem dX1_takePiece_108 : decode cX1_takePiece 108 = .ok (.ireturn, 1) := by decide +kernel
theorem w_X1_takePiece (hs0 : 0 ≤ MI 2 1) (hsz : MI 2 1 ≤ 6000) (hh : 0 ≤ h) (hh2 : h ≤ 6000) (hT : ∀ b x, pcS (MI 1) (MI 2 1) h = .inr (b, x) → Q (some (vI b)) (Mc MI ML d e nw th x nf nl ft fa)) (hF : ∀ f p a, pcS (MI 1) (MI 2 1) h = .inl (f, p) → Q (some (vI (-1))) (Mc MI ML d e nw th a nf nl f p)) : wp cs mX1_takePiece KD Q 0 (padL [vR 2] 2) [] (KD, Mc MI ML d e nw th h nf nl ft fa) := by
  refine wp_L (L' := [some (vR 2), none]) rfl ?_
  refine wp_aload_n dX1_takePiece_0 rfl rfl (by first | exact Or.inl (by decide) | exact Or.inl (by omega) | exact Or.inr (by decide) | exact Or.inr (by omega)) ?_
  refine wp_cV (n := 0) (mt' := mX1_peek) (as := []) (rest := []) (some (vI ((ob (MI 1) (MI 2 1) h)))) ((cu MI h nf nl ft fa), ML, (GR d e nw th 1)) dX1_takePiece_1 lX1_61 kX1_peek vX1_peek (by decide) (by decide +kernel) rfl (Nat.le_of_ble_eq_true rfl) (by decide) rfl rfl rfl (Nat.le_of_ble_eq_true rfl) (fun hM hS Q' hq => w_X1_peek hsz hq) (fun hM => ?_)
  refine wp_istore_n dX1_takePiece_4 rfl (by decide) (wp_L (L' := [some (vR 2), some (vI ((ob (MI 1) (MI 2 1) h)))]) rfl ?_)
  refine wp_iload_n dX1_takePiece_5 rfl rfl ?_
  refine wp_bipush dX1_takePiece_6 (by decide +kernel) (by decide) ?_
  refine wp_icmp_eq (tgt := 42) dX1_takePiece_8 (by decide) (fun h8 => ?_) (fun h8 => ?_)
  · refine wp_aload_n dX1_takePiece_42 rfl rfl (by first | exact Or.inl (by decide) | exact Or.inl (by omega) | exact Or.inr (by decide) | exact Or.inr (by omega)) ?_
    refine wp_ldcS (k := 22) dX1_takePiece_43 cX1_96 ?_
    refine wp_cVq (n := 1) (mt' := mX1_takeIf) (as := [vR 1000025]) (rest := []) (fun r M' => (stb (MI 1) (MI 2 1) h [38, 108, 116, 59] = true ∧ r = some (vI 1) ∧ M' = Mc MI ML d e nw th (h + 4) nf nl ft fa) ∨ (stb (MI 1) (MI 2 1) h [38, 108, 116, 59] = false ∧ r = some (vI 0) ∧ M' = Mc MI ML d e nw th h nf nl ft fa)) dX1_takePiece_45 lX1_53 kX1_takeIf vX1_takeIf (by decide) (by decide +kernel) rfl (Nat.le_of_ble_eq_true rfl) (by decide) rfl rfl rfl (Nat.le_of_ble_eq_true rfl) (fun hM hS => w_X1_takeIf (k := 22) (by decide) hs0 hsz (by first | assumption | omega) (fun hs => Or.inl ⟨hs, rfl, rfl⟩) (fun hs => Or.inr ⟨hs, rfl, rfl⟩)) (fun r M' hq hM => ?_)
    rcases hq with ⟨h45, rfl, rfl⟩ | ⟨h45, rfl, rfl⟩
    · refine wp_if_eq (tgt := 54) dX1_takePiece_48 (by decide) (fun q => absurd q (by decide)) (fun _ => ?_)
      refine wp_bipush dX1_takePiece_51 (by decide +kernel) (by decide) ?_
      exact wp_iret dX1_takePiece_53 rfl (fun _ => hT _ _ (by unfold pcS; rw [if_neg (by omega), if_pos h45]))
    · refine wp_if_eq (tgt := 54) dX1_takePiece_48 (by decide) (fun _ => ?_) (fun q => absurd q (by decide))
      refine wp_aload_n dX1_takePiece_54 rfl rfl (by first | exact Or.inl (by decide) | exact Or.inl (by omega) | exact Or.inr (by decide) | exact Or.inr (by omega)) ?_
      refine wp_ldcS (k := 23) dX1_takePiece_55 cX1_98 ?_
      refine wp_cVq (n := 1) (mt' := mX1_takeIf) (as := [vR 1000026]) (rest := []) (fun r M' => (stb (MI 1) (MI 2 1) h [38, 103, 116, 59] = true ∧ r = some (vI 1) ∧ M' = Mc MI ML d e nw th (h + 4) nf nl ft fa) ∨ (stb (MI 1) (MI 2 1) h [38, 103, 116, 59] = false ∧ r = some (vI 0) ∧ M' = Mc MI ML d e nw th h nf nl ft fa)) dX1_takePiece_57 lX1_53 kX1_takeIf vX1_takeIf (by decide) (by decide +kernel) rfl (Nat.le_of_ble_eq_true rfl) (by decide) rfl rfl rfl (Nat.le_of_ble_eq_true rfl) (fun hM hS => w_X1_takeIf (k := 23) (by decide) hs0 hsz (by first | assumption | omega) (fun hs => Or.inl ⟨hs, rfl, rfl⟩) (fun hs => Or.inr ⟨hs, rfl, rfl⟩)) (fun r M' hq hM => ?_)
      rcases hq with ⟨h57, rfl, rfl⟩ | ⟨h57, rfl, rfl⟩
      · refine wp_if_eq (tgt := 66) dX1_takePiece_60 (by decide) (fun q => absurd q (by decide)) (fun _ => ?_)
        refine wp_bipush dX1_takePiece_63 (by decide +kernel) (by decide) ?_
        exact wp_iret dX1_takePiece_65 rfl (fun _ => hT _ _ (by unfold pcS; rw [if_neg (by omega), if_neg (by rw [h45]; decide), if_pos h57]))
      · refine wp_if_eq (tgt := 66) dX1_takePiece_60 (by decide) (fun _ => ?_) (fun q => absurd q (by decide))
        refine wp_aload_n dX1_takePiece_66 rfl rfl (by first | exact Or.inl (by decide) | exact Or.inl (by omega) | exact Or.inr (by decide) | exact Or.inr (by omega)) ?_
        refine wp_ldcS (k := 24) dX1_takePiece_67 cX1_100 ?_
        refine wp_cVq (n := 1) (mt' := mX1_takeIf) (as := [vR 1000027]) (rest := []) (fun r M' => (stb (MI 1) (MI 2 1) h [38, 97, 109, 112, 59] = true ∧ r = some (vI 1) ∧ M' = Mc MI ML d e nw th (h + 5) nf nl ft fa) ∨ (stb (MI 1) (MI 2 1) h [38, 97, 109, 112, 59] = false ∧ r = some (vI 0) ∧ M' = Mc MI ML d e nw th h nf nl ft fa)) dX1_takePiece_69 lX1_53 kX1_takeIf vX1_takeIf (by decide) (by decide +kernel) rfl (Nat.le_of_ble_eq_true rfl) (by decide) rfl rfl rfl (Nat.le_of_ble_eq_true rfl) (fun hM hS => w_X1_takeIf (k := 24) (by decide) hs0 hsz (by first | assumption | omega) (fun hs => Or.inl ⟨hs, rfl, rfl⟩) (fun hs => Or.inr ⟨hs, rfl, rfl⟩)) (fun r M' hq hM => ?_)
        rcases hq with ⟨h69, rfl, rfl⟩ | ⟨h69, rfl, rfl⟩
        · refine wp_if_eq (tgt := 78) dX1_takePiece_72 (by decide) (fun q => absurd q (by decide)) (fun _ => ?_)
          refine wp_bipush dX1_takePiece_75 (by decide +kernel) (by decide) ?_
          exact wp_iret dX1_takePiece_77 rfl (fun _ => hT _ _ (by unfold pcS; rw [if_neg (by omega), if_neg (by rw [h45]; decide), if_neg (by rw [h57]; decide), if_pos h69]))
        · refine wp_if_eq (tgt := 78) dX1_takePiece_72 (by decide) (fun _ => ?_) (fun q => absurd q (by decide))
          refine wp_aload_n dX1_takePiece_78 rfl rfl (by first | exact Or.inl (by decide) | exact Or.inl (by omega) | exact Or.inr (by decide) | exact Or.inr (by omega)) ?_
          refine wp_ldcS (k := 25) dX1_takePiece_79 cX1_102 ?_
          refine wp_cVq (n := 1) (mt' := mX1_takeIf) (as := [vR 1000028]) (rest := []) (fun r M' => (stb (MI 1) (MI 2 1) h [38, 113, 117, 111, 116, 59] = true ∧ r = some (vI 1) ∧ M' = Mc MI ML d e nw th (h + 6) nf nl ft fa) ∨ (stb (MI 1) (MI 2 1) h [38, 113, 117, 111, 116, 59] = false ∧ r = some (vI 0) ∧ M' = Mc MI ML d e nw th h nf nl ft fa)) dX1_takePiece_81 lX1_53 kX1_takeIf vX1_takeIf (by decide) (by decide +kernel) rfl (Nat.le_of_ble_eq_true rfl) (by decide) rfl rfl rfl (Nat.le_of_ble_eq_true rfl) (fun hM hS => w_X1_takeIf (k := 25) (by decide) hs0 hsz (by first | assumption | omega) (fun hs => Or.inl ⟨hs, rfl, rfl⟩) (fun hs => Or.inr ⟨hs, rfl, rfl⟩)) (fun r M' hq hM => ?_)
          rcases hq with ⟨h81, rfl, rfl⟩ | ⟨h81, rfl, rfl⟩
          · refine wp_if_eq (tgt := 90) dX1_takePiece_84 (by decide) (fun q => absurd q (by decide)) (fun _ => ?_)
            refine wp_bipush dX1_takePiece_87 (by decide +kernel) (by decide) ?_
            exact wp_iret dX1_takePiece_89 rfl (fun _ => hT _ _ (by unfold pcS; rw [if_neg (by omega), if_neg (by rw [h45]; decide), if_neg (by rw [h57]; decide), if_neg (by rw [h69]; decide), if_pos h81]))
          · refine wp_if_eq (tgt := 90) dX1_takePiece_84 (by decide) (fun _ => ?_) (fun q => absurd q (by decide))
            refine wp_aload_n dX1_takePiece_90 rfl rfl (by first | exact Or.inl (by decide) | exact Or.inl (by omega) | exact Or.inr (by decide) | exact Or.inr (by omega)) ?_
            refine wp_ldcS (k := 26) dX1_takePiece_91 cX1_104 ?_
            refine wp_cVq (n := 1) (mt' := mX1_takeIf) (as := [vR 1000029]) (rest := []) (fun r M' => (stb (MI 1) (MI 2 1) h [38, 97, 112, 111, 115, 59] = true ∧ r = some (vI 1) ∧ M' = Mc MI ML d e nw th (h + 6) nf nl ft fa) ∨ (stb (MI 1) (MI 2 1) h [38, 97, 112, 111, 115, 59] = false ∧ r = some (vI 0) ∧ M' = Mc MI ML d e nw th h nf nl ft fa)) dX1_takePiece_93 lX1_53 kX1_takeIf vX1_takeIf (by decide) (by decide +kernel) rfl (Nat.le_of_ble_eq_true rfl) (by decide) rfl rfl rfl (Nat.le_of_ble_eq_true rfl) (fun hM hS => w_X1_takeIf (k := 26) (by decide) hs0 hsz (by first | assumption | omega) (fun hs => Or.inl ⟨hs, rfl, rfl⟩) (fun hs => Or.inr ⟨hs, rfl, rfl⟩)) (fun r M' hq hM => ?_)
            rcases hq with ⟨h93, rfl, rfl⟩ | ⟨h93, rfl, rfl⟩
            · refine wp_if_eq (tgt := 104) dX1_takePiece_96 (by decide) (fun q => absurd q (by decide)) (fun _ => ?_)
              refine wp_bipush dX1_takePiece_99 (by decide +kernel) (by decide) ?_
              refine wp_goto (tgt := 108) dX1_takePiece_101 (by decide) ?_
              exact wp_iret dX1_takePiece_108 rfl (fun _ => hT _ _ (by unfold pcS; rw [if_neg (by omega), if_neg (by rw [h45]; decide), if_neg (by rw [h57]; decide), if_neg (by rw [h69]; decide), if_neg (by rw [h81]; decide), if_pos h93]))
            · refine wp_if_eq (tgt := 104) dX1_takePiece_96 (by decide) (fun _ => ?_) (fun q => absurd q (by decide))
              refine wp_aload_n dX1_takePiece_104 rfl rfl (by first | exact Or.inl (by decide) | exact Or.inl (by omega) | exact Or.inr (by decide) | exact Or.inr (by omega)) ?_
              refine wp_cVq (n := 0) (mt' := mX1_takeNumbered) (as := []) (rest := []) (fun r M' => (∃ b x, numS (MI 1) (MI 2 1) h = .inr (b, x) ∧ r = some (vI b) ∧ M' = Mc MI ML d e nw th x nf nl ft fa) ∨ (∃ f p a, numS (MI 1) (MI 2 1) h = .inl (f, p) ∧ r = some (vI (-1)) ∧ M' = Mc MI ML d e nw th a nf nl f p)) dX1_takePiece_105 lX1_106 kX1_takeNumbered vX1_takeNumbered (by decide) (by decide +kernel) rfl (Nat.le_of_ble_eq_true rfl) (by decide) rfl rfl rfl (Nat.le_of_ble_eq_true rfl) (fun hM hS => w_X1_takeNumbered hs0 hsz hh hh2 (fun b x hx => Or.inl ⟨b, x, hx, rfl, rfl⟩) (fun f p a hx => Or.inr ⟨f, p, a, hx, rfl, rfl⟩)) (fun r M' hq hM => ?_)
              rcases hq with ⟨b, x, hx, rfl, rfl⟩ | ⟨f, p, a, hx, rfl, rfl⟩
              · exact wp_iret dX1_takePiece_108 rfl (fun _ => hT _ _ (by unfold pcS; rw [if_neg (by omega), if_neg (by rw [h45]; decide), if_neg (by rw [h57]; decide), if_neg (by rw [h69]; decide), if_neg (by rw [h81]; decide), if_neg (by rw [h93]; decide)]; exact hx))
              · exact wp_iret dX1_takePiece_108 rfl (fun _ => hF _ _ _ (by unfold pcS; rw [if_neg (by omega), if_neg (by rw [h45]; decide), if_neg (by rw [h57]; decide), if_neg (by rw [h69]; decide), if_neg (by rw [h81]; decide), if_neg (by rw [h93]; decide)]; exact hx))
  · refine wp_iload_n dX1_takePiece_11 rfl rfl ?_
    refine wp_cS (n := 1) (mt' := mX1_isChar) (as := [vI ((ob (MI 1) (MI 2 1) h))]) (rest := []) (some (vI ((bI (isCh (ob (MI 1) (MI 2 1) h)))))) ((cu MI h nf nl ft fa), ML, (GR d e nw th 1)) dX1_takePiece_12 lX1_93 kX1_isChar vX1_isChar (by decide) (by decide +kernel) rfl (Nat.le_of_ble_eq_true rfl) rfl (Nat.le_of_ble_eq_true rfl) (fun hM hS Q' hq => w_X1_isChar hq) (fun hM => ?_)
    by_cases h12 : isCh (ob (MI 1) (MI 2 1) h)
    · refine wp_topI (x' := 1) (if_pos h12) ?_
      refine wp_if_ne (tgt := 30) dX1_takePiece_15 (by decide) (fun _ => ?_) (fun q => absurd q (by decide))
      refine wp_aload_n dX1_takePiece_30 rfl rfl (by first | exact Or.inl (by decide) | exact Or.inl (by omega) | exact Or.inr (by decide) | exact Or.inr (by omega)) ?_
      refine wp_dup dX1_takePiece_31 (fun x e => by cases e) ?_
      refine wp_getI dX1_takePiece_32 fX1_19 rfl (by decide) ?_
      refine wp_topI (x' := h) rfl ?_
      refine wp_iconst dX1_takePiece_35 (by decide) ?_
      refine wp_iaddr dX1_takePiece_36 (by omega) ?_
      refine wp_putI dX1_takePiece_37 pX1_19 rfl (by decide) ?_
      refine wp_M (M' := ((cu MI (h + 1) nf nl ft fa), ML, (GR d e nw th 1))) (by rw [cu_2]) ?_
      refine wp_pc (pc' := 40) rfl ?_
      refine wp_iload_n dX1_takePiece_40 rfl rfl ?_
      exact wp_iret dX1_takePiece_41 rfl (fun _ => hT _ _ (by unfold pcS; rw [if_pos (by omega), if_pos h12]))
    · refine wp_topI (x' := 0) (if_neg h12) ?_
      refine wp_if_ne (tgt := 30) dX1_takePiece_15 (by decide) (fun q => absurd q (by decide)) (fun _ => ?_)
      refine wp_aload_n dX1_takePiece_18 rfl rfl (by first | exact Or.inl (by decide) | exact Or.inl (by omega) | exact Or.inr (by decide) | exact Or.inr (by omega)) ?_
      refine wp_iconst dX1_takePiece_19 (by decide) ?_
      refine wp_aload_n dX1_takePiece_20 rfl rfl (by first | exact Or.inl (by decide) | exact Or.inl (by omega) | exact Or.inr (by decide) | exact Or.inr (by omega)) ?_
      refine wp_getI dX1_takePiece_21 fX1_19 rfl (by decide) ?_
      refine wp_topI (x' := h) rfl ?_
      refine wp_cV (n := 2) (mt' := mX1_refuse) (as := [vI ((-1)), vI h]) (rest := []) (some (vI 0)) ((cu MI h nf nl (-1) h), ML, (GR d e nw th 1)) dX1_takePiece_24 lX1_57 kX1_refuse vX1_refuse (by decide) (by decide +kernel) rfl (Nat.le_of_ble_eq_true rfl) (by decide) rfl rfl rfl (Nat.le_of_ble_eq_true rfl) (fun hM hS Q' hq => w_X1_refuse hq) (fun hM => ?_)
      refine wp_pop dX1_takePiece_27 (fun x e => by cases e) ?_
      refine wp_pc (pc' := 28) rfl ?_
      refine wp_iconst dX1_takePiece_28 (by decide) ?_
      exact wp_iret dX1_takePiece_29 rfl (fun _ => hF _ _ _ (by unfold pcS; rw [if_pos (by omega), if_neg h12]))
end P22
