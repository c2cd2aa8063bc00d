theorem dJ0_coder_7d493_0 : decode cJ0_coder_7d493 0 = .ok (.getstatic 38, 3) := by decide +kernel
theorem dJ0_coder_7d493_3 : decode cJ0_coder_7d493 3 = .ok (.ifCond .eq 10, 3) := by decide +kernel
theorem dJ0_coder_7d493_6 : decode cJ0_coder_7d493 6 = .ok (.aload_n 0, 1) := by decide +kernel
theorem dJ0_coder_7d493_7 : decode cJ0_coder_7d493 7 = .ok (.getfield 15, 3) := by decide +kernel
theorem dJ0_coder_7d493_10 : decode cJ0_coder_7d493 10 = .ok (.goto 4, 3) := by decide +kernel
theorem dJ0_coder_7d493_13 : decode cJ0_coder_7d493 13 = .ok (.iconst 1, 1) := by decide +kernel
theorem dJ0_coder_7d493_14 : decode cJ0_coder_7d493 14 = .ok (.ireturn, 1) := by decide +kernel
theorem dJ0_isLatin1_aae02_0 : decode cJ0_isLatin1_aae02 0 = .ok (.getstatic 38, 3) := by decide +kernel
theorem dJ0_isLatin1_aae02_3 : decode cJ0_isLatin1_aae02 3 = .ok (.ifCond .eq 14, 3) := by decide +kernel
theorem dJ0_isLatin1_aae02_6 : decode cJ0_isLatin1_aae02 6 = .ok (.aload_n 0, 1) := by decide +kernel
theorem dJ0_isLatin1_aae02_7 : decode cJ0_isLatin1_aae02 7 = .ok (.getfield 15, 3) := by decide +kernel
theorem dJ0_isLatin1_aae02_10 : decode cJ0_isLatin1_aae02 10 = .ok (.ifCond .ne 7, 3) := by decide +kernel
theorem dJ0_isLatin1_aae02_13 : decode cJ0_isLatin1_aae02 13 = .ok (.iconst 1, 1) := by decide +kernel
theorem dJ0_isLatin1_aae02_14 : decode cJ0_isLatin1_aae02 14 = .ok (.goto 4, 3) := by decide +kernel
theorem dJ0_isLatin1_aae02_17 : decode cJ0_isLatin1_aae02 17 = .ok (.iconst 0, 1) := by decide +kernel
theorem dJ0_isLatin1_aae02_18 : decode cJ0_isLatin1_aae02 18 = .ok (.ireturn, 1) := by decide +kernel
theorem dJ0_length_8abf5_0 : decode cJ0_length_8abf5 0 = .ok (.aload_n 0, 1) := by decide +kernel
theorem dJ0_length_8abf5_1 : decode cJ0_length_8abf5 1 = .ok (.getfield 9, 3) := by decide +kernel
theorem dJ0_length_8abf5_4 : decode cJ0_length_8abf5 4 = .ok (.arraylength, 1) := by decide +kernel
theorem dJ0_length_8abf5_5 : decode cJ0_length_8abf5 5 = .ok (.aload_n 0, 1) := by decide +kernel
theorem dJ0_length_8abf5_6 : decode cJ0_length_8abf5 6 = .ok (.invokevirtual 335, 3) := by decide +kernel
theorem dJ0_length_8abf5_9 : decode cJ0_length_8abf5 9 = .ok (.ishr, 1) := by decide +kernel
theorem dJ0_length_8abf5_10 : decode cJ0_length_8abf5 10 = .ok (.ireturn, 1) := by decide +kernel
theorem dJ3_checkIndex_8e157_0 : decode cJ3_checkIndex_8e157 0 = .ok (.iload_n 0, 1) := by decide +kernel
theorem dJ3_checkIndex_8e157_1 : decode cJ3_checkIndex_8e157 1 = .ok (.ifCond .lt 8, 3) := by decide +kernel
theorem dJ3_checkIndex_8e157_4 : decode cJ3_checkIndex_8e157 4 = .ok (.iload_n 0, 1) := by decide +kernel
theorem dJ3_checkIndex_8e157_5 : decode cJ3_checkIndex_8e157 5 = .ok (.iload_n 1, 1) := by decide +kernel
theorem dJ3_checkIndex_8e157_6 : decode cJ3_checkIndex_8e157 6 = .ok (.if_icmp .lt 10, 3) := by decide +kernel
theorem dJ3_checkIndex_8e157_9 : decode cJ3_checkIndex_8e157 9 = .ok (.aload_n 2, 1) := by decide +kernel
theorem dJ3_checkIndex_8e157_10 : decode cJ3_checkIndex_8e157 10 = .ok (.iload_n 0, 1) := by decide +kernel
theorem dJ3_checkIndex_8e157_11 : decode cJ3_checkIndex_8e157 11 = .ok (.iload_n 1, 1) := by decide +kernel
theorem dJ3_checkIndex_8e157_12 : decode cJ3_checkIndex_8e157 12 = .ok (.invokestatic 95, 3) := by decide +kernel
theorem dJ3_checkIndex_8e157_15 : decode cJ3_checkIndex_8e157 15 = .ok (.athrow, 1) := by decide +kernel
theorem dJ3_checkIndex_8e157_16 : decode cJ3_checkIndex_8e157 16 = .ok (.iload_n 0, 1) := by decide +kernel
theorem dJ3_checkIndex_8e157_17 : decode cJ3_checkIndex_8e157 17 = .ok (.ireturn, 1) := by decide +kernel
theorem dJ0_checkIndex_df160_0 : decode cJ0_checkIndex_df160 0 = .ok (.iload_n 0, 1) := by decide +kernel
theorem dJ0_checkIndex_df160_1 : decode cJ0_checkIndex_df160 1 = .ok (.iload_n 1, 1) := by decide +kernel
theorem dJ0_checkIndex_df160_2 : decode cJ0_checkIndex_df160 2 = .ok (.getstatic 1053, 3) := by decide +kernel
theorem dJ0_checkIndex_df160_5 : decode cJ0_checkIndex_df160 5 = .ok (.invokestatic 1059, 3) := by decide +kernel
theorem dJ0_checkIndex_df160_8 : decode cJ0_checkIndex_df160 8 = .ok (.pop, 1) := by decide +kernel
theorem dJ0_checkIndex_df160_9 : decode cJ0_checkIndex_df160 9 = .ok (.return_, 1) := by decide +kernel
theorem dJ1_charAt_3b067_0 : decode cJ1_charAt_3b067 0 = .ok (.iload_n 1, 1) := by decide +kernel
theorem dJ1_charAt_3b067_1 : decode cJ1_charAt_3b067 1 = .ok (.aload_n 0, 1) := by decide +kernel
theorem dJ1_charAt_3b067_2 : decode cJ1_charAt_3b067 2 = .ok (.arraylength, 1) := by decide +kernel
theorem dJ1_charAt_3b067_3 : decode cJ1_charAt_3b067 3 = .ok (.invokestatic 9, 3) := by decide +kernel
theorem dJ1_charAt_3b067_6 : decode cJ1_charAt_3b067 6 = .ok (.aload_n 0, 1) := by decide +kernel
theorem dJ1_charAt_3b067_7 : decode cJ1_charAt_3b067 7 = .ok (.iload_n 1, 1) := by decide +kernel
theorem dJ1_charAt_3b067_8 : decode cJ1_charAt_3b067 8 = .ok (.baload, 1) := by decide +kernel
theorem dJ1_charAt_3b067_9 : decode cJ1_charAt_3b067 9 = .ok (.sipush 255, 3) := by decide +kernel
theorem dJ1_charAt_3b067_12 : decode cJ1_charAt_3b067 12 = .ok (.iand, 1) := by decide +kernel
theorem dJ1_charAt_3b067_13 : decode cJ1_charAt_3b067 13 = .ok (.i2c, 1) := by decide +kernel
theorem dJ1_charAt_3b067_14 : decode cJ1_charAt_3b067 14 = .ok (.ireturn, 1) := by decide +kernel
theorem dJ0_charAt_5068e_0 : decode cJ0_charAt_5068e 0 = .ok (.aload_n 0, 1) := by decide +kernel
theorem dJ0_charAt_5068e_1 : decode cJ0_charAt_5068e 1 = .ok (.invokevirtual 492, 3) := by decide +kernel
theorem dJ0_charAt_5068e_4 : decode cJ0_charAt_5068e 4 = .ok (.ifCond .eq 12, 3) := by decide +kernel
theorem dJ0_charAt_5068e_7 : decode cJ0_charAt_5068e 7 = .ok (.aload_n 0, 1) := by decide +kernel
theorem dJ0_charAt_5068e_8 : decode cJ0_charAt_5068e 8 = .ok (.getfield 9, 3) := by decide +kernel
theorem dJ0_charAt_5068e_11 : decode cJ0_charAt_5068e 11 = .ok (.iload_n 1, 1) := by decide +kernel
theorem dJ0_charAt_5068e_12 : decode cJ0_charAt_5068e 12 = .ok (.invokestatic 495, 3) := by decide +kernel
theorem dJ0_charAt_5068e_15 : decode cJ0_charAt_5068e 15 = .ok (.ireturn, 1) := by decide +kernel
/-- a String constant's length and characters -/
def sl (k : Nat) : Int := ((strB.getD k []).length : Nat)
def sc (k : Nat) (j : Nat) : Int := (strB.getD k []).getD j 0
theorem sB_all : ∀ k, k < strB.length → ((strB.getD k []).length < 100 ∧ i_shr ((strB.getD k []).length : Nat) 0 = ((strB.getD k []).length : Nat)) ∧ ∀ b ∈ strB.getD k [], (0 ≤ b ∧ b < 128) ∧ i_2c (i_and b 255) = b := by decide +kernel
theorem sc_ok {k j : Nat} (hk : k < strB.length) (hj : j < (strB.getD k []).length) : (0 ≤ sc k j ∧ sc k j < 128) ∧ i_2c (i_and (sc k j) 255) = sc k j := by
  refine (sB_all k hk).2 _ ?_
  have key : ∀ l : List Int, j < l.length → l.getD j 0 ∈ l := fun l h => by rw [List.getD_eq_getElem?_getD, List.getElem?_eq_getElem h]; exact List.getElem_mem h
  exact key _ hj
theorem nar_char : ∀ n : Fin 128, narrow .char (.int (Int32.ofInt (n : Nat))) = .int (Int32.ofInt (n : Nat)) := by decide +kernel
section JS
variable {cs : Cs} {kf : Kd} {Q : Option AV → Mm → Prop} {M : Mm} {k : Nat}
theorem w_coder (hk : k < strB.length) (hQ : Q (some (vI 0)) M) : wp cs mJ0_coder_7d493 kf Q 0 (padL [vR (1000003 + k)] 1) [] (kf, M) := by
  refine wp_L (L' := [some (vR (1000003 + k))]) rfl ?_
  refine wp_gsC dJ0_coder_7d493_0 jJ0_38 ?_
  refine wp_if_eq (tgt := 13) dJ0_coder_7d493_3 (by decide) (fun h => by omega) (fun h => ?_)
  refine wp_aload_n dJ0_coder_7d493_6 rfl rfl (Or.inr (by omega)) ?_
  refine wp_strC dJ0_coder_7d493_7 jJ0_15 hk ?_
  refine wp_goto (tgt := 14) dJ0_coder_7d493_10 (by decide) ?_
  exact wp_iretg (ty := .byte) dJ0_coder_7d493_14 rfl rfl (fun _ => hQ)
theorem w_isLatin1 (hk : k < strB.length) (hQ : Q (some (vI 1)) M) : wp cs mJ0_isLatin1_aae02 kf Q 0 (padL [vR (1000003 + k)] 1) [] (kf, M) := by
  refine wp_L (L' := [some (vR (1000003 + k))]) rfl ?_
  refine wp_gsC dJ0_isLatin1_aae02_0 jJ0_38 ?_
  refine wp_if_eq (tgt := 17) dJ0_isLatin1_aae02_3 (by decide) (fun h => by omega) (fun h => ?_)
  refine wp_aload_n dJ0_isLatin1_aae02_6 rfl rfl (Or.inr (by omega)) ?_
  refine wp_strC dJ0_isLatin1_aae02_7 jJ0_15 hk ?_
  refine wp_if_ne (tgt := 17) dJ0_isLatin1_aae02_10 (by decide) (fun h => by omega) (fun h => ?_)
  refine wp_iconst dJ0_isLatin1_aae02_13 (by decide) ?_
  refine wp_goto (tgt := 18) dJ0_isLatin1_aae02_14 (by decide) ?_
  exact wp_zret dJ0_isLatin1_aae02_18 rfl (Or.inr rfl) (fun _ => hQ)
theorem w_length (hk : k < strB.length) (hQ : Q (some (vI (sl k))) M) : wp cs mJ0_length_8abf5 kf Q 0 (padL [vR (1000003 + k)] 1) [] (kf, M) := by
  have h1 := (sB_all k hk).1
  refine wp_L (L' := [some (vR (1000003 + k))]) rfl ?_
  refine wp_aload_n dJ0_length_8abf5_0 rfl rfl (Or.inr (by omega)) ?_
  refine wp_strV dJ0_length_8abf5_1 jJ0_9 hk ?_
  refine wp_vlen dJ0_length_8abf5_4 hk ?_ (by omega)
  refine wp_aload_n dJ0_length_8abf5_5 rfl rfl (Or.inr (by omega)) ?_
  refine wp_cVs (n := 0) (mt' := mJ0_coder_7d493) (as := []) (rest := [vI ((strB.getD k []).length : Nat)]) (some (vI 0)) M dJ0_length_8abf5_6 lJ0_335 kJ0_coder_7d493 vJ0_coder_7d493 (by decide) (by decide +kernel) rfl (Nat.le_of_ble_eq_true rfl) hk rfl rfl (Nat.le_of_ble_eq_true rfl) (fun _ _ Q' hq => w_coder hk hq) (fun _ => ?_)
  refine wp_ishr dJ0_length_8abf5_9 ?_
  refine wp_topI (x' := sl k) h1.2 ?_
  exact wp_iret dJ0_length_8abf5_10 rfl (fun _ => hQ)
theorem w_pcheck {x n : Int} (hx : 0 ≤ x ∧ x < n) (hQ : Q (some (vI x)) M) : wp cs mJ3_checkIndex_8e157 kf Q 0 (padL [vI x, vI n, vR 1000001] 3) [] (kf, M) := by
  refine wp_L (L' := [some (vI x), some (vI n), some (vR 1000001)]) rfl ?_
  refine wp_iload_n dJ3_checkIndex_8e157_0 rfl rfl ?_
  refine wp_if_lt (tgt := 9) dJ3_checkIndex_8e157_1 (by decide) (fun h => by omega) (fun h => ?_)
  refine wp_iload_n dJ3_checkIndex_8e157_4 rfl rfl ?_
  refine wp_iload_n dJ3_checkIndex_8e157_5 rfl rfl ?_
  refine wp_icmp_lt (tgt := 16) dJ3_checkIndex_8e157_6 (by decide) (fun h => ?_) (fun h => by omega)
  refine wp_iload_n dJ3_checkIndex_8e157_16 rfl rfl ?_
  exact wp_iret dJ3_checkIndex_8e157_17 rfl (fun _ => hQ)
theorem w_scheck {x n : Int} (hx : 0 ≤ x ∧ x < n) (hQ : Q none M) : wp cs mJ0_checkIndex_df160 kf Q 0 (padL [vI x, vI n] 2) [] (kf, M) := by
  refine wp_L (L' := [some (vI x), some (vI n)]) rfl ?_
  refine wp_iload_n dJ0_checkIndex_df160_0 rfl rfl ?_
  refine wp_iload_n dJ0_checkIndex_df160_1 rfl rfl ?_
  refine wp_gsF dJ0_checkIndex_df160_2 jJ0_1053 ?_
  refine wp_cS (n := 3) (mt' := mJ3_checkIndex_8e157) (as := [vI x, vI n, vR 1000001]) (rest := []) (some (vI x)) M dJ0_checkIndex_df160_5 lJ0_1059 kJ3_checkIndex_8e157 vJ3_checkIndex_8e157 (by decide) (by decide +kernel) rfl (Nat.le_of_ble_eq_true rfl) rfl (Nat.le_of_ble_eq_true rfl) (fun _ _ Q' hq => w_pcheck hx hq) (fun _ => ?_)
  refine wp_pop dJ0_checkIndex_df160_8 (fun x e => by cases e) ?_
  exact wp_vret dJ0_checkIndex_df160_9 rfl (fun _ => hQ)
theorem w_lcharAt {x : Int} (hk : k < strB.length) (hx : 0 ≤ x ∧ x < sl k) (hQ : Q (some (vI (sc k x.toNat))) M) : wp cs mJ1_charAt_3b067 kf Q 0 (padL [vR (1000100 + k), vI x] 2) [] (kf, M) := by
  have h1 := (sB_all k hk).1
  unfold sl at hx
  have h2 := sc_ok (j := x.toNat) hk (by omega)
  refine wp_L (L' := [some (vR (1000100 + k)), some (vI x)]) rfl ?_
  refine wp_iload_n dJ1_charAt_3b067_0 rfl rfl ?_
  refine wp_aload_n dJ1_charAt_3b067_1 rfl rfl (Or.inr (by omega)) ?_
  refine wp_vlen dJ1_charAt_3b067_2 hk ?_ (by omega)
  refine wp_cS (n := 2) (mt' := mJ0_checkIndex_df160) (as := [vI x, vI ((strB.getD k []).length : Nat)]) (rest := []) none M dJ1_charAt_3b067_3 lJ1_9 kJ0_checkIndex_df160 vJ0_checkIndex_df160 (by decide) (by decide +kernel) rfl (Nat.le_of_ble_eq_true rfl) rfl (Nat.le_of_ble_eq_true rfl) (fun _ _ Q' hq => w_scheck hx hq) (fun _ => ?_)
  refine wp_aload_n dJ1_charAt_3b067_6 rfl rfl (Or.inr (by omega)) ?_
  refine wp_iload_n dJ1_charAt_3b067_7 rfl rfl ?_
  refine wp_vld dJ1_charAt_3b067_8 hk hx (by have := h2.1; unfold sc at this; omega) ?_
  refine wp_sipush dJ1_charAt_3b067_9 (by decide +kernel) (by decide) ?_
  refine wp_iand dJ1_charAt_3b067_12 ?_
  refine wp_i2c dJ1_charAt_3b067_13 ?_
  refine wp_topI (x' := sc k x.toNat) h2.2 ?_
  refine wp_iretg (ty := .char) dJ1_charAt_3b067_14 rfl ?_ (fun _ => hQ)
  obtain ⟨n, hn⟩ : ∃ n : Fin 128, sc k x.toNat = (n : Int) := ⟨⟨(sc k x.toNat).toNat, by omega⟩, by simp; omega⟩
  rw [hn]
  exact nar_char n
theorem w_charAt {x : Int} (hk : k < strB.length) (hx : 0 ≤ x ∧ x < sl k) (hQ : Q (some (vI (sc k x.toNat))) M) : wp cs mJ0_charAt_5068e kf Q 0 (padL [vR (1000003 + k), vI x] 2) [] (kf, M) := by
  have h1 := (sB_all k hk).1
  have h2 := sc_ok (j := x.toNat) hk (by unfold sl at hx; omega)
  refine wp_L (L' := [some (vR (1000003 + k)), some (vI x)]) rfl ?_
  refine wp_aload_n dJ0_charAt_5068e_0 rfl rfl (Or.inr (by omega)) ?_
  refine wp_cVs (n := 0) (mt' := mJ0_isLatin1_aae02) (as := []) (rest := []) (some (vI 1)) M dJ0_charAt_5068e_1 lJ0_492 kJ0_isLatin1_aae02 vJ0_isLatin1_aae02 (by decide) (by decide +kernel) rfl (Nat.le_of_ble_eq_true rfl) hk rfl rfl (Nat.le_of_ble_eq_true rfl) (fun _ _ Q' hq => w_isLatin1 hk hq) (fun _ => ?_)
  refine wp_if_eq (tgt := 16) dJ0_charAt_5068e_4 (by decide) (fun h => by omega) (fun h => ?_)
  refine wp_aload_n dJ0_charAt_5068e_7 rfl rfl (Or.inr (by omega)) ?_
  refine wp_strV dJ0_charAt_5068e_8 jJ0_9 hk ?_
  refine wp_iload_n dJ0_charAt_5068e_11 rfl rfl ?_
  refine wp_cS (n := 2) (mt' := mJ1_charAt_3b067) (as := [vR (1000100 + k), vI x]) (rest := []) (some (vI (sc k x.toNat))) M dJ0_charAt_5068e_12 lJ0_495 kJ1_charAt_3b067 vJ1_charAt_3b067 (by decide) (by decide +kernel) rfl (Nat.le_of_ble_eq_true rfl) rfl (Nat.le_of_ble_eq_true rfl) (fun _ _ Q' hq => w_lcharAt hk hx hq) (fun _ => ?_)
  refine wp_iretg (ty := .char) dJ0_charAt_5068e_15 rfl ?_ (fun _ => hQ)
  obtain ⟨n, hn⟩ : ∃ n : Fin 128, sc k x.toNat = (n : Int) := ⟨⟨(sc k x.toNat).toNat, by omega⟩, by simp; omega⟩
  rw [hn]
  exact nar_char n
end JS
