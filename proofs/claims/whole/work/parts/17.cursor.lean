/-- the cursor's changing fields: here, nameFrom, nameLength, fault, faultAt -/
def cu (MI : Nat → Nat → Int) (h nf nl ft fa : Int) : Nat → Nat → Int := fun a b => if a = 2 then (if b = 2 then h else if b = 3 then nf else if b = 4 then nl else if b = 5 then ft else if b = 6 then fa else MI a b) else MI a b
theorem cu_2 {MI : Nat → Nat → Int} {h nf nl ft fa x : Int} : up2 (cu MI h nf nl ft fa) 2 2 x = cu MI x nf nl ft fa := by
  funext a b; unfold up2 cu; by_cases ha : a = 2 <;> by_cases hb : b = 2 <;> simp [ha, hb]
theorem cu_3 {MI : Nat → Nat → Int} {h nf nl ft fa x : Int} : up2 (cu MI h nf nl ft fa) 2 3 x = cu MI h x nl ft fa := by
  funext a b; unfold up2 cu; by_cases ha : a = 2 <;> by_cases hb : b = 3 <;> simp [ha, hb]
theorem cu_4 {MI : Nat → Nat → Int} {h nf nl ft fa x : Int} : up2 (cu MI h nf nl ft fa) 2 4 x = cu MI h nf x ft fa := by
  funext a b; unfold up2 cu; by_cases ha : a = 2 <;> by_cases hb : b = 4 <;> simp [ha, hb]
theorem cu_5 {MI : Nat → Nat → Int} {h nf nl ft fa x : Int} : up2 (cu MI h nf nl ft fa) 2 5 x = cu MI h nf nl x fa := by
  funext a b; unfold up2 cu; by_cases ha : a = 2 <;> by_cases hb : b = 5 <;> simp [ha, hb]
theorem cu_6 {MI : Nat → Nat → Int} {h nf nl ft fa x : Int} : up2 (cu MI h nf nl ft fa) 2 6 x = cu MI h nf nl ft x := by
  funext a b; unfold up2 cu; by_cases ha : a = 2 <;> by_cases hb : b = 6 <;> simp [ha, hb]
theorem cu_off {MI : Nat → Nat → Int} {h nf nl ft fa : Int} {a : Nat} (ha : a ≠ 2) (b : Nat) : cu MI h nf nl ft fa a b = MI a b := by simp [cu, ha]
/-- a text's byte, -1 behind its end -/
def ob (T : Nat → Int) (n i : Int) : Int := if 0 ≤ i ∧ i < n then i_and (T i.toNat) 255 else -1
theorem ob_in {T : Nat → Int} {n i : Int} (h : 0 ≤ i ∧ i < n) : ob T n i = i_and (T i.toNat) 255 := if_pos h
theorem ob_out {T : Nat → Int} {n i : Int} (h : ¬ (0 ≤ i ∧ i < n)) : ob T n i = -1 := if_neg h
/-- behind S -/
def skF (T : Nat → Int) (n : Int) : Nat → Int → Int
  | 0, h => h
  | k + 1, h => if h < n ∧ isSp (ob T n h) then skF T n k (h + 1) else h
def sk (T : Nat → Int) (n h : Int) : Int := skF T n (n - h).toNat h
theorem sk_eq (T : Nat → Int) (n h : Int) : sk T n h = if h < n ∧ isSp (ob T n h) then sk T n (h + 1) else h := by
  unfold sk
  by_cases hn : h < n
  · obtain ⟨k, hk⟩ : ∃ k, (n - h).toNat = k + 1 := ⟨(n - h).toNat - 1, by omega⟩
    have h2 : (n - (h + 1)).toNat = k := by omega
    rw [hk, h2]
    rfl
  · have h0 : (n - h).toNat = 0 := by omega
    rw [h0, if_neg (fun q => hn q.1)]
    rfl
section P17
variable {cs : Cs} {Q : Option AV → Mm → Prop} {MI ML : Nat → Nat → Int} {d e nw th : Nat} {h nf nl ft fa : Int}
theorem dX1_peek_0 : decode cX1_peek 0 = .ok (.aload_n 0, 1) := by decide +kernel
theorem dX1_peek_1 : decode cX1_peek 1 = .ok (.getfield 19, 3) := by decide +kernel
theorem dX1_peek_4 : decode cX1_peek 4 = .ok (.ifCond .lt 30, 3) := by decide +kernel
theorem dX1_peek_7 : decode cX1_peek 7 = .ok (.aload_n 0, 1) := by decide +kernel
theorem dX1_peek_8 : decode cX1_peek 8 = .ok (.getfield 19, 3) := by decide +kernel
theorem dX1_peek_11 : decode cX1_peek 11 = .ok (.aload_n 0, 1) := by decide +kernel
theorem dX1_peek_12 : decode cX1_peek 12 = .ok (.getfield 15, 3) := by decide +kernel
theorem dX1_peek_15 : decode cX1_peek 15 = .ok (.if_icmp .ge 19, 3) := by decide +kernel
theorem dX1_peek_18 : decode cX1_peek 18 = .ok (.aload_n 0, 1) := by decide +kernel
theorem dX1_peek_19 : decode cX1_peek 19 = .ok (.getfield 9, 3) := by decide +kernel
theorem dX1_peek_22 : decode cX1_peek 22 = .ok (.aload_n 0, 1) := by decide +kernel
theorem dX1_peek_23 : decode cX1_peek 23 = .ok (.getfield 19, 3) := by decide +kernel
theorem dX1_peek_26 : decode cX1_peek 26 = .ok (.baload, 1) := by decide +kernel
theorem dX1_peek_27 : decode cX1_peek 27 = .ok (.sipush 255, 3) := by decide +kernel
theorem dX1_peek_30 : decode cX1_peek 30 = .ok (.iand, 1) := by decide +kernel
theorem dX1_peek_31 : decode cX1_peek 31 = .ok (.goto 4, 3) := by decide +kernel
theorem dX1_peek_34 : decode cX1_peek 34 = .ok (.iconst (-1), 1) := by decide +kernel
theorem dX1_peek_35 : decode cX1_peek 35 = .ok (.ireturn, 1) := by decide +kernel
theorem w_X1_peek (hsz : MI 2 1 ≤ 6000) (hQ : Q (some (vI (ob (MI 1) (MI 2 1) h))) (cu MI h nf nl ft fa, ML, GR d e nw th 1)) : wp cs mX1_peek KD Q 0 (padL [vR 2] 1) [] (KD, (cu MI h nf nl ft fa), ML, (GR d e nw th 1)) := by
  refine wp_L (L' := [some (vR 2)]) rfl ?_
  refine wp_aload_n dX1_peek_0 rfl rfl (by first | exact Or.inl (by decide) | exact Or.inl (by omega) | exact Or.inr (by decide)) ?_
  refine wp_getI dX1_peek_1 fX1_19 rfl (by decide) ?_
  refine wp_topI (x' := h) rfl ?_
  refine wp_if_lt (tgt := 34) dX1_peek_4 (by decide) (fun h4 => ?_) (fun h4 => ?_)
  · refine wp_iconst dX1_peek_34 (by decide) ?_
    exact wp_iret dX1_peek_35 rfl (fun _ => by rw [ob_out (by omega)] at hQ; exact hQ)
  · refine wp_aload_n dX1_peek_7 rfl rfl (by first | exact Or.inl (by decide) | exact Or.inl (by omega) | exact Or.inr (by decide)) ?_
    refine wp_getI dX1_peek_8 fX1_19 rfl (by decide) ?_
    refine wp_topI (x' := h) rfl ?_
    refine wp_aload_n dX1_peek_11 rfl rfl (by first | exact Or.inl (by decide) | exact Or.inl (by omega) | exact Or.inr (by decide)) ?_
    refine wp_getI dX1_peek_12 fX1_15 rfl (by decide) ?_
    refine wp_topI (x' := (MI 2 1)) rfl ?_
    refine wp_icmp_ge (tgt := 34) dX1_peek_15 (by decide) (fun h15 => ?_) (fun h15 => ?_)
    · refine wp_iconst dX1_peek_34 (by decide) ?_
      exact wp_iret dX1_peek_35 rfl (fun _ => by rw [ob_out (by omega)] at hQ; exact hQ)
    · refine wp_aload_n dX1_peek_18 rfl rfl (by first | exact Or.inl (by decide) | exact Or.inl (by omega) | exact Or.inr (by decide)) ?_
      refine wp_getR dX1_peek_19 fX1_9 rfl (by decide) ?_
      refine wp_topR (x' := 1) rfl ?_
      refine wp_aload_n dX1_peek_22 rfl rfl (by first | exact Or.inl (by decide) | exact Or.inl (by omega) | exact Or.inr (by decide)) ?_
      refine wp_getI dX1_peek_23 fX1_19 rfl (by decide) ?_
      refine wp_topI (x' := h) rfl ?_
      refine wp_bald dX1_peek_26 rfl (by decide) (by omega) ?_
      refine wp_sipush dX1_peek_27 (by decide +kernel) (by decide) ?_
      refine wp_iand dX1_peek_30 ?_
      refine wp_pc (pc' := 31) rfl ?_
      refine wp_goto (tgt := 35) dX1_peek_31 (by decide) ?_
      exact wp_iret dX1_peek_35 rfl (fun _ => by rw [ob_in (by omega)] at hQ; exact hQ)
theorem dX1_refuse_0 : decode cX1_refuse 0 = .ok (.aload_n 0, 1) := by decide +kernel
theorem dX1_refuse_1 : decode cX1_refuse 1 = .ok (.iload_n 1, 1) := by decide +kernel
theorem dX1_refuse_2 : decode cX1_refuse 2 = .ok (.putfield 28, 3) := by decide +kernel
theorem dX1_refuse_5 : decode cX1_refuse 5 = .ok (.aload_n 0, 1) := by decide +kernel
theorem dX1_refuse_6 : decode cX1_refuse 6 = .ok (.iload_n 2, 1) := by decide +kernel
theorem dX1_refuse_7 : decode cX1_refuse 7 = .ok (.putfield 31, 3) := by decide +kernel
theorem dX1_refuse_10 : decode cX1_refuse 10 = .ok (.iconst 0, 1) := by decide +kernel
theorem dX1_refuse_11 : decode cX1_refuse 11 = .ok (.ireturn, 1) := by decide +kernel
theorem w_X1_refuse {x : Int} {y : Int}  (hQ : Q (some (vI 0)) (cu MI h nf nl x y, ML, GR d e nw th 1)) : wp cs mX1_refuse KD Q 0 (padL [vR 2, vI x, vI y] 3) [] (KD, (cu MI h nf nl ft fa), ML, (GR d e nw th 1)) := by
  refine wp_L (L' := [some (vR 2), some (vI x), some (vI y)]) rfl ?_
  refine wp_aload_n dX1_refuse_0 rfl rfl (by first | exact Or.inl (by decide) | exact Or.inl (by omega) | exact Or.inr (by decide)) ?_
  refine wp_iload_n dX1_refuse_1 rfl rfl ?_
  refine wp_putI dX1_refuse_2 pX1_28 rfl (by decide) ?_
  refine wp_M (M' := ((cu MI h nf nl x fa), ML, (GR d e nw th 1))) (by rw [cu_5]) ?_
  refine wp_aload_n dX1_refuse_5 rfl rfl (by first | exact Or.inl (by decide) | exact Or.inl (by omega) | exact Or.inr (by decide)) ?_
  refine wp_iload_n dX1_refuse_6 rfl rfl ?_
  refine wp_putI dX1_refuse_7 pX1_31 rfl (by decide) ?_
  refine wp_M (M' := ((cu MI h nf nl x y), ML, (GR d e nw th 1))) (by rw [cu_6]) ?_
  refine wp_iconst dX1_refuse_10 (by decide) ?_
  refine wp_pc (pc' := 11) rfl ?_
  exact wp_zret dX1_refuse_11 rfl (Or.inl rfl) (fun _ => hQ)
theorem dX1_skipSpace_0 : decode cX1_skipSpace 0 = .ok (.aload_n 0, 1) := by decide +kernel
theorem dX1_skipSpace_1 : decode cX1_skipSpace 1 = .ok (.getfield 19, 3) := by decide +kernel
theorem dX1_skipSpace_4 : decode cX1_skipSpace 4 = .ok (.aload_n 0, 1) := by decide +kernel
theorem dX1_skipSpace_5 : decode cX1_skipSpace 5 = .ok (.getfield 15, 3) := by decide +kernel
theorem dX1_skipSpace_8 : decode cX1_skipSpace 8 = .ok (.if_icmp .ge 26, 3) := by decide +kernel
theorem dX1_skipSpace_11 : decode cX1_skipSpace 11 = .ok (.aload_n 0, 1) := by decide +kernel
theorem dX1_skipSpace_12 : decode cX1_skipSpace 12 = .ok (.invokevirtual 61, 3) := by decide +kernel
theorem dX1_skipSpace_15 : decode cX1_skipSpace 15 = .ok (.invokestatic 64, 3) := by decide +kernel
theorem dX1_skipSpace_18 : decode cX1_skipSpace 18 = .ok (.ifCond .eq 16, 3) := by decide +kernel
theorem dX1_skipSpace_21 : decode cX1_skipSpace 21 = .ok (.aload_n 0, 1) := by decide +kernel
theorem dX1_skipSpace_22 : decode cX1_skipSpace 22 = .ok (.dup, 1) := by decide +kernel
theorem dX1_skipSpace_23 : decode cX1_skipSpace 23 = .ok (.getfield 19, 3) := by decide +kernel
theorem dX1_skipSpace_26 : decode cX1_skipSpace 26 = .ok (.iconst 1, 1) := by decide +kernel
theorem dX1_skipSpace_27 : decode cX1_skipSpace 27 = .ok (.iadd, 1) := by decide +kernel
theorem dX1_skipSpace_28 : decode cX1_skipSpace 28 = .ok (.putfield 19, 3) := by decide +kernel
theorem dX1_skipSpace_31 : decode cX1_skipSpace 31 = .ok (.goto (-31), 3) := by decide +kernel
theorem dX1_skipSpace_34 : decode cX1_skipSpace 34 = .ok (.return_, 1) := by decide +kernel
theorem w_X1_skipSpace_l (hsz : MI 2 1 ≤ 6000) : ∀ (k : Nat) (h : Int), 0 ≤ h → (MI 2 1 - h).toNat ≤ k → Q none (cu MI (sk (MI 1) (MI 2 1) h) nf nl ft fa, ML, GR d e nw th 1) → wp cs mX1_skipSpace KD Q 0 [some (vR 2)] [] (KD, cu MI h nf nl ft fa, ML, GR d e nw th 1) := by
  intro k
  induction k with
  | zero =>
    intro h hh hk hQ
    refine wp_aload_n dX1_skipSpace_0 rfl rfl (by first | exact Or.inl (by decide) | exact Or.inl (by omega) | exact Or.inr (by decide)) ?_
    refine wp_getI dX1_skipSpace_1 fX1_19 rfl (by decide) ?_
    refine wp_topI (x' := h) rfl ?_
    refine wp_aload_n dX1_skipSpace_4 rfl rfl (by first | exact Or.inl (by decide) | exact Or.inl (by omega) | exact Or.inr (by decide)) ?_
    refine wp_getI dX1_skipSpace_5 fX1_15 rfl (by decide) ?_
    refine wp_topI (x' := (MI 2 1)) rfl ?_
    refine wp_icmp_ge (tgt := 34) dX1_skipSpace_8 (by decide) (fun h8 => ?_) (fun h8 => ?_)
    · exact wp_vret dX1_skipSpace_34 rfl (fun _ => by rw [sk_eq, if_neg (by first | omega | (intro q; simp [q.2] at *))] at hQ; exact hQ)
    · refine wp_aload_n dX1_skipSpace_11 rfl rfl (by first | exact Or.inl (by decide) | exact Or.inl (by omega) | exact Or.inr (by decide)) ?_
      refine wp_cV (n := 0) (mt' := mX1_peek) (as := []) (rest := []) (some (vI ((ob (MI 1) (MI 2 1) h)))) ((cu MI h nf nl ft fa), ML, (GR d e nw th 1)) dX1_skipSpace_12 lX1_61 kX1_peek vX1_peek (by decide) (by decide +kernel) rfl (Nat.le_of_ble_eq_true rfl) (by decide) rfl rfl rfl (Nat.le_of_ble_eq_true rfl) (fun hM hS Q' hq => w_X1_peek hsz hq) (fun hM => ?_)
      refine wp_cS (n := 1) (mt' := mX1_isSpace) (as := [vI ((ob (MI 1) (MI 2 1) h))]) (rest := []) (some (vI ((bI (isSp (ob (MI 1) (MI 2 1) h)))))) ((cu MI h nf nl ft fa), ML, (GR d e nw th 1)) dX1_skipSpace_15 lX1_64 kX1_isSpace vX1_isSpace (by decide) (by decide +kernel) rfl (Nat.le_of_ble_eq_true rfl) rfl (Nat.le_of_ble_eq_true rfl) (fun hM hS Q' hq => w_X1_isSpace hq) (fun hM => ?_)
      refine wp_if_eq (tgt := 34) dX1_skipSpace_18 (by decide) (fun h18 => ?_) (fun h18 => ?_)
      · exact wp_vret dX1_skipSpace_34 rfl (fun _ => by rw [sk_eq, if_neg (by first | omega | (intro q; simp [q.2] at *))] at hQ; exact hQ)
      · refine wp_aload_n dX1_skipSpace_21 rfl rfl (by first | exact Or.inl (by decide) | exact Or.inl (by omega) | exact Or.inr (by decide)) ?_
        refine wp_dup dX1_skipSpace_22 (fun x e => by cases e) ?_
        refine wp_getI dX1_skipSpace_23 fX1_19 rfl (by decide) ?_
        refine wp_topI (x' := h) rfl ?_
        refine wp_iconst dX1_skipSpace_26 (by decide) ?_
        refine wp_iaddr dX1_skipSpace_27 (by omega) ?_
        refine wp_putI dX1_skipSpace_28 pX1_19 rfl (by decide) ?_
        refine wp_M (M' := ((cu MI (h + 1) nf nl ft fa), ML, (GR d e nw th 1))) (by rw [cu_2]) ?_
        refine wp_goto (tgt := 0) dX1_skipSpace_31 (by decide) ?_
        exfalso; omega
  | succ k ih =>
    intro h hh hk hQ
    refine wp_aload_n dX1_skipSpace_0 rfl rfl (by first | exact Or.inl (by decide) | exact Or.inl (by omega) | exact Or.inr (by decide)) ?_
    refine wp_getI dX1_skipSpace_1 fX1_19 rfl (by decide) ?_
    refine wp_topI (x' := h) rfl ?_
    refine wp_aload_n dX1_skipSpace_4 rfl rfl (by first | exact Or.inl (by decide) | exact Or.inl (by omega) | exact Or.inr (by decide)) ?_
    refine wp_getI dX1_skipSpace_5 fX1_15 rfl (by decide) ?_
    refine wp_topI (x' := (MI 2 1)) rfl ?_
    refine wp_icmp_ge (tgt := 34) dX1_skipSpace_8 (by decide) (fun h8 => ?_) (fun h8 => ?_)
    · exact wp_vret dX1_skipSpace_34 rfl (fun _ => by rw [sk_eq, if_neg (by first | omega | (intro q; simp [q.2] at *))] at hQ; exact hQ)
    · refine wp_aload_n dX1_skipSpace_11 rfl rfl (by first | exact Or.inl (by decide) | exact Or.inl (by omega) | exact Or.inr (by decide)) ?_
      refine wp_cV (n := 0) (mt' := mX1_peek) (as := []) (rest := []) (some (vI ((ob (MI 1) (MI 2 1) h)))) ((cu MI h nf nl ft fa), ML, (GR d e nw th 1)) dX1_skipSpace_12 lX1_61 kX1_peek vX1_peek (by decide) (by decide +kernel) rfl (Nat.le_of_ble_eq_true rfl) (by decide) rfl rfl rfl (Nat.le_of_ble_eq_true rfl) (fun hM hS Q' hq => w_X1_peek hsz hq) (fun hM => ?_)
      refine wp_cS (n := 1) (mt' := mX1_isSpace) (as := [vI ((ob (MI 1) (MI 2 1) h))]) (rest := []) (some (vI ((bI (isSp (ob (MI 1) (MI 2 1) h)))))) ((cu MI h nf nl ft fa), ML, (GR d e nw th 1)) dX1_skipSpace_15 lX1_64 kX1_isSpace vX1_isSpace (by decide) (by decide +kernel) rfl (Nat.le_of_ble_eq_true rfl) rfl (Nat.le_of_ble_eq_true rfl) (fun hM hS Q' hq => w_X1_isSpace hq) (fun hM => ?_)
      refine wp_if_eq (tgt := 34) dX1_skipSpace_18 (by decide) (fun h18 => ?_) (fun h18 => ?_)
      · exact wp_vret dX1_skipSpace_34 rfl (fun _ => by rw [sk_eq, if_neg (by first | omega | (intro q; simp [q.2] at *))] at hQ; exact hQ)
      · refine wp_aload_n dX1_skipSpace_21 rfl rfl (by first | exact Or.inl (by decide) | exact Or.inl (by omega) | exact Or.inr (by decide)) ?_
        refine wp_dup dX1_skipSpace_22 (fun x e => by cases e) ?_
        refine wp_getI dX1_skipSpace_23 fX1_19 rfl (by decide) ?_
        refine wp_topI (x' := h) rfl ?_
        refine wp_iconst dX1_skipSpace_26 (by decide) ?_
        refine wp_iaddr dX1_skipSpace_27 (by omega) ?_
        refine wp_putI dX1_skipSpace_28 pX1_19 rfl (by decide) ?_
        refine wp_M (M' := ((cu MI (h + 1) nf nl ft fa), ML, (GR d e nw th 1))) (by rw [cu_2]) ?_
        refine wp_goto (tgt := 0) dX1_skipSpace_31 (by decide) ?_
        exact ih (h + 1) (by omega) (by omega) (by rw [sk_eq, if_pos (by refine ⟨by omega, ?_⟩; by_cases q : isSp (ob (MI 1) (MI 2 1) h) <;> simp_all)] at hQ; exact hQ)
theorem w_X1_skipSpace (hsz : MI 2 1 ≤ 6000) (hh : 0 ≤ h) (hQ : Q none (cu MI (sk (MI 1) (MI 2 1) h) nf nl ft fa, ML, GR d e nw th 1)) : wp cs mX1_skipSpace KD Q 0 (padL [vR 2] 1) [] (KD, cu MI h nf nl ft fa, ML, GR d e nw th 1) :=
  wp_L (L' := [some (vR 2)]) rfl (w_X1_skipSpace_l hsz _ h hh (Nat.le_refl _) hQ)
end P17
