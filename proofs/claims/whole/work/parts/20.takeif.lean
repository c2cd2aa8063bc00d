/-- these bytes stand at h -/
def stb (T : Nat → Int) (n : Int) : Int → List Int → Bool
  | _, [] => true
  | h, b :: l => decide (ob T n h = b) && stb T n (h + 1) l
def sB (k : Nat) : List Int := strB.getD k []
theorem stb_drop {T : Nat → Int} {n h : Int} {l : List Int} {i : Nat} (hi : i < l.length) : stb T n h (l.drop i) = (decide (ob T n h = l.getD i 0) && stb T n (h + 1) (l.drop (i + 1))) := by
  rw [List.drop_eq_getElem_cons hi]
  simp [stb, List.getD_eq_getElem?_getD, List.getElem?_eq_getElem hi]
/-- bytes that are none of the end stand only where there is room -/
theorem stb_room {T : Nat → Int} {n : Int} : ∀ (l : List Int) (h : Int), 0 ≤ h → (∀ b ∈ l, 0 ≤ b) → l ≠ [] → stb T n h l = true → h + l.length ≤ n
  | [], h, _, _, hl, _ => absurd rfl hl
  | b :: l, h, hh, hb, _, hs => by
    simp only [stb, Bool.and_eq_true, decide_eq_true_eq] at hs
    have h1 : h < n := by
      by_cases q : 0 ≤ h ∧ h < n
      · exact q.2
      · have := hb b List.mem_cons_self
        rw [ob_out q] at hs
        omega
    by_cases hl : l = []
    · subst hl; simp; omega
    · have := stb_room l (h + 1) (by omega) (fun b hb' => hb b (List.mem_cons_of_mem _ hb')) hl hs.2
      simp; omega
section P20
variable {cs : Cs} {Q : Option AV → Mm → Prop} {MI ML : Nat → Nat → Int} {d e nw th : Nat} {h nf nl ft fa : Int} {k : Nat}
abbrev Mc (MI ML : Nat → Nat → Int) (d e nw th : Nat) (h nf nl ft fa : Int) : Mm := (cu MI h nf nl ft fa, ML, GR d e nw th 1)
theorem dX1_takeIf_0 : decode cX1_takeIf 0 = .ok (.aload_n 1, 1) := by decide +kernel
theorem dX1_takeIf_1 : decode cX1_takeIf 1 = .ok (.invokevirtual 43, 3) := by decide +kernel
theorem dX1_takeIf_4 : decode cX1_takeIf 4 = .ok (.istore_n 2, 1) := by decide +kernel
theorem dX1_takeIf_5 : decode cX1_takeIf 5 = .ok (.aload_n 0, 1) := by decide +kernel
theorem dX1_takeIf_6 : decode cX1_takeIf 6 = .ok (.getfield 19, 3) := by decide +kernel
theorem dX1_takeIf_9 : decode cX1_takeIf 9 = .ok (.ifCond .lt 16, 3) := by decide +kernel
theorem dX1_takeIf_12 : decode cX1_takeIf 12 = .ok (.aload_n 0, 1) := by decide +kernel
theorem dX1_takeIf_13 : decode cX1_takeIf 13 = .ok (.getfield 15, 3) := by decide +kernel
theorem dX1_takeIf_16 : decode cX1_takeIf 16 = .ok (.aload_n 0, 1) := by decide +kernel
theorem dX1_takeIf_17 : decode cX1_takeIf 17 = .ok (.getfield 19, 3) := by decide +kernel
theorem dX1_takeIf_20 : decode cX1_takeIf 20 = .ok (.isub, 1) := by decide +kernel
theorem dX1_takeIf_21 : decode cX1_takeIf 21 = .ok (.iload_n 2, 1) := by decide +kernel
theorem dX1_takeIf_22 : decode cX1_takeIf 22 = .ok (.if_icmp .ge 5, 3) := by decide +kernel
theorem dX1_takeIf_25 : decode cX1_takeIf 25 = .ok (.iconst 0, 1) := by decide +kernel
theorem dX1_takeIf_26 : decode cX1_takeIf 26 = .ok (.ireturn, 1) := by decide +kernel
theorem dX1_takeIf_27 : decode cX1_takeIf 27 = .ok (.iconst 0, 1) := by decide +kernel
theorem dX1_takeIf_28 : decode cX1_takeIf 28 = .ok (.istore_n 3, 1) := by decide +kernel
theorem dX1_takeIf_29 : decode cX1_takeIf 29 = .ok (.iload_n 3, 1) := by decide +kernel
theorem dX1_takeIf_30 : decode cX1_takeIf 30 = .ok (.iload_n 2, 1) := by decide +kernel
theorem dX1_takeIf_31 : decode cX1_takeIf 31 = .ok (.if_icmp .ge 34, 3) := by decide +kernel
theorem dX1_takeIf_34 : decode cX1_takeIf 34 = .ok (.aload_n 0, 1) := by decide +kernel
theorem dX1_takeIf_35 : decode cX1_takeIf 35 = .ok (.getfield 9, 3) := by decide +kernel
theorem dX1_takeIf_38 : decode cX1_takeIf 38 = .ok (.aload_n 0, 1) := by decide +kernel
theorem dX1_takeIf_39 : decode cX1_takeIf 39 = .ok (.getfield 19, 3) := by decide +kernel
theorem dX1_takeIf_42 : decode cX1_takeIf 42 = .ok (.iload_n 3, 1) := by decide +kernel
theorem dX1_takeIf_43 : decode cX1_takeIf 43 = .ok (.iadd, 1) := by decide +kernel
theorem dX1_takeIf_44 : decode cX1_takeIf 44 = .ok (.baload, 1) := by decide +kernel
theorem dX1_takeIf_45 : decode cX1_takeIf 45 = .ok (.sipush 255, 3) := by decide +kernel
theorem dX1_takeIf_48 : decode cX1_takeIf 48 = .ok (.iand, 1) := by decide +kernel
theorem dX1_takeIf_49 : decode cX1_takeIf 49 = .ok (.aload_n 1, 1) := by decide +kernel
theorem dX1_takeIf_50 : decode cX1_takeIf 50 = .ok (.iload_n 3, 1) := by decide +kernel
theorem dX1_takeIf_51 : decode cX1_takeIf 51 = .ok (.invokevirtual 49, 3) := by decide +kernel
theorem dX1_takeIf_54 : decode cX1_takeIf 54 = .ok (.if_icmp .eq 5, 3) := by decide +kernel
theorem dX1_takeIf_57 : decode cX1_takeIf 57 = .ok (.iconst 0, 1) := by decide +kernel
theorem dX1_takeIf_58 : decode cX1_takeIf 58 = .ok (.ireturn, 1) := by decide +kernel
theorem dX1_takeIf_59 : decode cX1_takeIf 59 = .ok (.iinc 3 1, 3) := by decide +kernel
theorem dX1_takeIf_62 : decode cX1_takeIf 62 = .ok (.goto (-33), 3) := by decide +kernel
theorem dX1_takeIf_65 : decode cX1_takeIf 65 = .ok (.aload_n 0, 1) := by decide +kernel
theorem dX1_takeIf_66 : decode cX1_takeIf 66 = .ok (.dup, 1) := by decide +kernel
theorem dX1_takeIf_67 : decode cX1_takeIf 67 = .ok (.getfield 19, 3) := by decide +kernel
theorem dX1_takeIf_70 : decode cX1_takeIf 70 = .ok (.iload_n 2, 1) := by decide +kernel
theorem dX1_takeIf_71 : decode cX1_takeIf 71 = .ok (.iadd, 1) := by decide +kernel
theorem dX1_takeIf_72 : decode cX1_takeIf 72 = .ok (.putfield 19, 3) := by decide +kernel
theorem dX1_takeIf_75 : decode cX1_takeIf 75 = .ok (.iconst 1, 1) := by decide +kernel
theorem dX1_takeIf_76 : decode cX1_takeIf 76 = .ok (.ireturn, 1) := by decide +kernel
theorem w_takeIf_l (hk : k < strB.length) (hsz : MI 2 1 ≤ 6000) (hh : 0 ≤ h) (hsb : h + sl k ≤ MI 2 1) : ∀ (m i : Nat), (i : Int) + m = sl k → stb (MI 1) (MI 2 1) h (sB k) = stb (MI 1) (MI 2 1) (h + i) ((sB k).drop i) → (stb (MI 1) (MI 2 1) h (sB k) = true → Q (some (vI 1)) (Mc MI ML d e nw th (h + sl k) nf nl ft fa)) → (stb (MI 1) (MI 2 1) h (sB k) = false → Q (some (vI 0)) (Mc MI ML d e nw th h nf nl ft fa)) →
    wp cs mX1_takeIf KD Q 29 [some (vR 2), some (vR ((1000003 + k))), some (vI ((sl k))), some (vI ((i : Int)))] [] (KD, Mc MI ML d e nw th h nf nl ft fa) := by
  intro m
  have hsl := (sB_all k hk).1
  induction m with
  | zero =>
    intro i him hi hT hF
    refine wp_iload_n dX1_takeIf_29 rfl rfl ?_
    refine wp_iload_n dX1_takeIf_30 rfl rfl ?_
    refine wp_icmp_ge (tgt := 65) dX1_takeIf_31 (by decide) (fun h31 => ?_) (fun h31 => ?_)
    · refine wp_aload_n dX1_takeIf_65 rfl rfl (by first | exact Or.inl (by decide) | exact Or.inl (by omega) | exact Or.inr (by decide) | exact Or.inr (by omega)) ?_
      refine wp_dup dX1_takeIf_66 (fun x e => by cases e) ?_
      refine wp_getI dX1_takeIf_67 fX1_19 rfl (by decide) ?_
      refine wp_topI (x' := h) rfl ?_
      refine wp_iload_n dX1_takeIf_70 rfl rfl ?_
      refine wp_iaddr dX1_takeIf_71 (by omega) ?_
      refine wp_putI dX1_takeIf_72 pX1_19 rfl (by decide) ?_
      refine wp_M (M' := ((cu MI (h + (sl k)) nf nl ft fa), ML, (GR d e nw th 1))) (by rw [cu_2]) ?_
      refine wp_iconst dX1_takeIf_75 (by decide) ?_
      refine wp_pc (pc' := 76) rfl ?_
      exact wp_zret dX1_takeIf_76 rfl (Or.inr rfl) (fun _ => hT (by rw [hi, List.drop_eq_nil_of_le (by unfold sl at *; unfold sB at *; omega)]; rfl))
    · refine wp_aload_n dX1_takeIf_34 rfl rfl (by first | exact Or.inl (by decide) | exact Or.inl (by omega) | exact Or.inr (by decide) | exact Or.inr (by omega)) ?_
      refine wp_getR dX1_takeIf_35 fX1_9 rfl (by decide) ?_
      refine wp_topR (x' := 1) rfl ?_
      refine wp_aload_n dX1_takeIf_38 rfl rfl (by first | exact Or.inl (by decide) | exact Or.inl (by omega) | exact Or.inr (by decide) | exact Or.inr (by omega)) ?_
      refine wp_getI dX1_takeIf_39 fX1_19 rfl (by decide) ?_
      refine wp_topI (x' := h) rfl ?_
      refine wp_iload_n dX1_takeIf_42 rfl rfl ?_
      refine wp_iaddr dX1_takeIf_43 (by omega) ?_
      refine wp_bald dX1_takeIf_44 rfl (by decide) (by omega) ?_
      refine wp_pc (pc' := 45) rfl ?_
      refine wp_sipush dX1_takeIf_45 (by decide +kernel) (by decide) ?_
      refine wp_iand dX1_takeIf_48 ?_
      refine wp_aload_n dX1_takeIf_49 rfl rfl (by first | exact Or.inl (by decide) | exact Or.inl (by omega) | exact Or.inr (by decide) | exact Or.inr (by omega)) ?_
      refine wp_iload_n dX1_takeIf_50 rfl rfl ?_
      refine wp_cVs (n := 1) (mt' := mJ0_charAt_5068e) (as := [vI ((i : Int))]) (rest := [vI ((i_and ((cu MI h nf nl ft fa) 1 ((h + (i : Int))).toNat) 255))]) (some (vI ((sc k ((i : Int)).toNat)))) ((cu MI h nf nl ft fa), ML, (GR d e nw th 1)) dX1_takeIf_51 lX1_49 kJ0_charAt_5068e vJ0_charAt_5068e (by decide) (by decide +kernel) rfl (Nat.le_of_ble_eq_true rfl) hk rfl rfl (Nat.le_of_ble_eq_true rfl) (fun hM hS Q' hq => w_charAt hk (by omega) hq) (fun hM => ?_)
      refine wp_icmp_eq (tgt := 59) dX1_takeIf_54 (by decide) (fun h54 => ?_) (fun h54 => ?_)
      · refine wp_iincr dX1_takeIf_59 rfl (by decide) (by omega) (wp_L (L' := [some (vR 2), some (vR ((1000003 + k))), some (vI ((sl k))), some (vI (((i : Int) + 1)))]) rfl ?_)
        refine wp_goto (tgt := 29) dX1_takeIf_62 (by decide) ?_
        exfalso; omega
      · refine wp_iconst dX1_takeIf_57 (by decide) ?_
        exact wp_zret dX1_takeIf_58 rfl (Or.inl rfl) (fun _ => hF (by rw [hi, stb_drop (by unfold sl at *; unfold sB at *; omega), decide_eq_false (by rw [ob_in (by omega), show (h + (i : Int)).toNat = (h + i).toNat from rfl]; exact h54)]; rfl))
  | succ m ih =>
    intro i him hi hT hF
    have ih := fun (i' : Nat) a b => ih i' a b
    refine wp_iload_n dX1_takeIf_29 rfl rfl ?_
    refine wp_iload_n dX1_takeIf_30 rfl rfl ?_
    refine wp_icmp_ge (tgt := 65) dX1_takeIf_31 (by decide) (fun h31 => ?_) (fun h31 => ?_)
    · refine wp_aload_n dX1_takeIf_65 rfl rfl (by first | exact Or.inl (by decide) | exact Or.inl (by omega) | exact Or.inr (by decide) | exact Or.inr (by omega)) ?_
      refine wp_dup dX1_takeIf_66 (fun x e => by cases e) ?_
      refine wp_getI dX1_takeIf_67 fX1_19 rfl (by decide) ?_
      refine wp_topI (x' := h) rfl ?_
      refine wp_iload_n dX1_takeIf_70 rfl rfl ?_
      refine wp_iaddr dX1_takeIf_71 (by omega) ?_
      refine wp_putI dX1_takeIf_72 pX1_19 rfl (by decide) ?_
      refine wp_M (M' := ((cu MI (h + (sl k)) nf nl ft fa), ML, (GR d e nw th 1))) (by rw [cu_2]) ?_
      refine wp_iconst dX1_takeIf_75 (by decide) ?_
      refine wp_pc (pc' := 76) rfl ?_
      exact wp_zret dX1_takeIf_76 rfl (Or.inr rfl) (fun _ => hT (by rw [hi, List.drop_eq_nil_of_le (by unfold sl at *; unfold sB at *; omega)]; rfl))
    · refine wp_aload_n dX1_takeIf_34 rfl rfl (by first | exact Or.inl (by decide) | exact Or.inl (by omega) | exact Or.inr (by decide) | exact Or.inr (by omega)) ?_
      refine wp_getR dX1_takeIf_35 fX1_9 rfl (by decide) ?_
      refine wp_topR (x' := 1) rfl ?_
      refine wp_aload_n dX1_takeIf_38 rfl rfl (by first | exact Or.inl (by decide) | exact Or.inl (by omega) | exact Or.inr (by decide) | exact Or.inr (by omega)) ?_
      refine wp_getI dX1_takeIf_39 fX1_19 rfl (by decide) ?_
      refine wp_topI (x' := h) rfl ?_
      refine wp_iload_n dX1_takeIf_42 rfl rfl ?_
      refine wp_iaddr dX1_takeIf_43 (by omega) ?_
      refine wp_bald dX1_takeIf_44 rfl (by decide) (by omega) ?_
      refine wp_pc (pc' := 45) rfl ?_
      refine wp_sipush dX1_takeIf_45 (by decide +kernel) (by decide) ?_
      refine wp_iand dX1_takeIf_48 ?_
      refine wp_aload_n dX1_takeIf_49 rfl rfl (by first | exact Or.inl (by decide) | exact Or.inl (by omega) | exact Or.inr (by decide) | exact Or.inr (by omega)) ?_
      refine wp_iload_n dX1_takeIf_50 rfl rfl ?_
      refine wp_cVs (n := 1) (mt' := mJ0_charAt_5068e) (as := [vI ((i : Int))]) (rest := [vI ((i_and ((cu MI h nf nl ft fa) 1 ((h + (i : Int))).toNat) 255))]) (some (vI ((sc k ((i : Int)).toNat)))) ((cu MI h nf nl ft fa), ML, (GR d e nw th 1)) dX1_takeIf_51 lX1_49 kJ0_charAt_5068e vJ0_charAt_5068e (by decide) (by decide +kernel) rfl (Nat.le_of_ble_eq_true rfl) hk rfl rfl (Nat.le_of_ble_eq_true rfl) (fun hM hS Q' hq => w_charAt hk (by omega) hq) (fun hM => ?_)
      refine wp_icmp_eq (tgt := 59) dX1_takeIf_54 (by decide) (fun h54 => ?_) (fun h54 => ?_)
      · refine wp_iincr dX1_takeIf_59 rfl (by decide) (by omega) (wp_L (L' := [some (vR 2), some (vR ((1000003 + k))), some (vI ((sl k))), some (vI (((i : Int) + 1)))]) rfl ?_)
        refine wp_goto (tgt := 29) dX1_takeIf_62 (by decide) ?_
        refine wp_L (L' := [some (vR 2), some (vR (1000003 + k)), some (vI (sl k)), some (vI ((i + 1 : Nat) : Int))]) (by push_cast; rfl) ?_
        exact ih (i + 1) (by omega) (by rw [hi, stb_drop (by unfold sl at *; unfold sB at *; omega), decide_eq_true (by rw [ob_in (by omega)]; exact h54), Bool.true_and, show (h + ((i + 1 : Nat) : Int)) = h + (i : Int) + 1 by omega]) hT hF
      · refine wp_iconst dX1_takeIf_57 (by decide) ?_
        exact wp_zret dX1_takeIf_58 rfl (Or.inl rfl) (fun _ => hF (by rw [hi, stb_drop (by unfold sl at *; unfold sB at *; omega), decide_eq_false (by rw [ob_in (by omega), show (h + (i : Int)).toNat = (h + i).toNat from rfl]; exact h54)]; rfl))
theorem sB_nn {k : Nat} (hk : k < strB.length) : (∀ b ∈ sB k, 0 ≤ b) := fun b hb => ((sB_all k hk).2 b hb).1.1
theorem sB_ne : ∀ k, k < strB.length → sB k ≠ [] := by decide +kernel
theorem w_X1_takeIf (hk : k < strB.length) (hs0 : 0 ≤ MI 2 1) (hsz : MI 2 1 ≤ 6000) (hh : 0 ≤ h) (hT : stb (MI 1) (MI 2 1) h (sB k) = true → Q (some (vI 1)) (Mc MI ML d e nw th (h + sl k) nf nl ft fa)) (hF : stb (MI 1) (MI 2 1) h (sB k) = false → Q (some (vI 0)) (Mc MI ML d e nw th h nf nl ft fa)) :
    wp cs mX1_takeIf KD Q 0 (padL [vR 2, vR (1000003 + k)] 4) [] (KD, Mc MI ML d e nw th h nf nl ft fa) := by
  have hsl := (sB_all k hk).1
  have hsb := And.intro trivial (And.intro (sB_nn hk) (sB_ne k hk))
  refine wp_ok fun hM _ _ => ?_
  have hr1 : -2147483648 ≤ MI 2 1 := (hM.1 2 1).1
  have hr2 : -2147483648 ≤ h ∧ h < 2147483648 := hM.1 2 2
  refine wp_L (L' := [some (vR 2), some (vR ((1000003 + k))), none, none]) rfl ?_
  refine wp_aload_n dX1_takeIf_0 rfl rfl (by first | exact Or.inl (by decide) | exact Or.inl (by omega) | exact Or.inr (by decide) | exact Or.inr (by omega)) ?_
  refine wp_cVs (n := 0) (mt' := mJ0_length_8abf5) (as := []) (rest := []) (some (vI ((sl k)))) ((cu MI h nf nl ft fa), ML, (GR d e nw th 1)) dX1_takeIf_1 lX1_43 kJ0_length_8abf5 vJ0_length_8abf5 (by decide) (by decide +kernel) rfl (Nat.le_of_ble_eq_true rfl) hk rfl rfl (Nat.le_of_ble_eq_true rfl) (fun hM hS Q' hq => w_length hk hq) (fun hM => ?_)
  refine wp_istore_n dX1_takeIf_4 rfl (by decide) (wp_L (L' := [some (vR 2), some (vR ((1000003 + k))), some (vI ((sl k))), none]) rfl ?_)
  refine wp_aload_n dX1_takeIf_5 rfl rfl (by first | exact Or.inl (by decide) | exact Or.inl (by omega) | exact Or.inr (by decide) | exact Or.inr (by omega)) ?_
  refine wp_getI dX1_takeIf_6 fX1_19 rfl (by decide) ?_
  refine wp_topI (x' := h) rfl ?_
  refine wp_if_lt (tgt := 25) dX1_takeIf_9 (by decide) (fun h9 => ?_) (fun h9 => ?_)
  · refine wp_iconst dX1_takeIf_25 (by decide) ?_
    exact wp_zret dX1_takeIf_26 rfl (Or.inl rfl) (fun _ => hF (by cases hb : stb (MI 1) (MI 2 1) h (sB k); rfl; have := stb_room (sB k) h hh hsb.2.1 hsb.2.2 hb; unfold sl at *; unfold sB at *; omega))
  · refine wp_aload_n dX1_takeIf_12 rfl rfl (by first | exact Or.inl (by decide) | exact Or.inl (by omega) | exact Or.inr (by decide) | exact Or.inr (by omega)) ?_
    refine wp_getI dX1_takeIf_13 fX1_15 rfl (by decide) ?_
    refine wp_topI (x' := (MI 2 1)) rfl ?_
    refine wp_aload_n dX1_takeIf_16 rfl rfl (by first | exact Or.inl (by decide) | exact Or.inl (by omega) | exact Or.inr (by decide) | exact Or.inr (by omega)) ?_
    refine wp_getI dX1_takeIf_17 fX1_19 rfl (by decide) ?_
    refine wp_topI (x' := h) rfl ?_
    refine wp_isubr dX1_takeIf_20 (by omega) ?_
    refine wp_iload_n dX1_takeIf_21 rfl rfl ?_
    refine wp_icmp_ge (tgt := 27) dX1_takeIf_22 (by decide) (fun h22 => ?_) (fun h22 => ?_)
    · refine wp_iconst dX1_takeIf_27 (by decide) ?_
      refine wp_istore_n dX1_takeIf_28 rfl (by decide) (wp_L (L' := [some (vR 2), some (vR ((1000003 + k))), some (vI ((sl k))), some (vI 0)]) rfl ?_)
      exact w_takeIf_l (Q := Q) (nf := nf) (nl := nl) (ft := ft) (fa := fa) hk hsz hh (by omega) (sB k).length 0 (by unfold sl sB; simp) (by simp) hT hF
    · refine wp_iconst dX1_takeIf_25 (by decide) ?_
      exact wp_zret dX1_takeIf_26 rfl (Or.inl rfl) (fun _ => hF (by cases hb : stb (MI 1) (MI 2 1) h (sB k); rfl; have := stb_room (sB k) h hh hsb.2.1 hsb.2.2 hb; unfold sl at *; unfold sB at *; omega))
end P20
