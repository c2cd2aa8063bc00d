theorem gr_text {d e nw th x y : Nat} : up2 (GR d e nw th x) 2 0 y = GR d e nw th y := by
  funext i k
  by_cases h : i = 2 ∧ k = 0
  · obtain ⟨rfl, rfl⟩ := h; rfl
  · simp [up2, GR, h]
theorem gr_doc {d e nw th x y : Nat} : up2 (GR d e nw th x) 0 8 y = GR y e nw th x := by
  funext i k
  by_cases h : i = 0 ∧ k = 8
  · obtain ⟨rfl, rfl⟩ := h; rfl
  · simp [up2, GR, h]
theorem gr_spare {d e nw th x y : Nat} : up2 (GR d e nw th x) 0 9 y = GR d y nw th x := by
  funext i k
  by_cases h : i = 0 ∧ k = 9
  · obtain ⟨rfl, rfl⟩ := h; rfl
  · simp [up2, GR, h]
theorem gr_now {d e nw th x y : Nat} : up2 (GR d e nw th x) 23 2 y = GR d e y th x := by
  funext i k
  by_cases h : i = 23 ∧ k = 2
  · obtain ⟨rfl, rfl⟩ := h; rfl
  · simp [up2, GR, h]
theorem gr_then {d e nw th x y : Nat} : up2 (GR d e nw th x) 23 3 y = GR d e nw y x := by
  funext i k
  by_cases h : i = 23 ∧ k = 3
  · obtain ⟨rfl, rfl⟩ := h; rfl
  · simp [up2, GR, h]
theorem cu_1 {MI : Nat → Nat → Int} {h nf nl ft fa x : Int} : up2 (cu MI h nf nl ft fa) 2 1 x = cu (up2 MI 2 1 x) h nf nl ft fa := by
  funext a b; unfold up2 cu; by_cases ha : a = 2 <;> by_cases hb : b = 1 <;> simp [ha, hb]
theorem cu_id {MI : Nat → Nat → Int} : cu MI (MI 2 2) (MI 2 3) (MI 2 4) (MI 2 5) (MI 2 6) = MI := by
  funext a b; unfold cu; by_cases ha : a = 2
  · subst ha
    by_cases h2 : b = 2
    · simp [h2]
    · by_cases h3 : b = 3
      · simp [h3]
      · by_cases h4 : b = 4
        · simp [h4]
        · by_cases h5 : b = 5
          · simp [h5]
          · by_cases h6 : b = 6 <;> simp [h2, h3, h4, h5, h6]
  · simp [ha]
/-- a write elsewhere goes under the cursor's fields, under the reference's -/
theorem cu_up {MI : Nat → Nat → Int} {h nf nl ft fa v : Int} {r k : Nat} (hr : r ≠ 2) : up2 (cu MI h nf nl ft fa) r k v = cu (up2 MI r k v) h nf nl ft fa := by
  funext a b; unfold up2 cu; by_cases ha : a = 2
  · subst ha; simp [Ne.symm hr]
  · simp [ha]
theorem rs_up {MI : Nat → Nat → Int} {a w pl sz br v : Int} {r k : Nat} (hr : r ≠ 124) : up2 (rs MI a w pl sz br) r k v = rs (up2 MI r k v) a w pl sz br := by
  funext i j; unfold up2 rs; by_cases hi : i = 124
  · subst hi; simp [Ne.symm hr]
  · simp [hi]
theorem rs_id {MI : Nat → Nat → Int} : rs MI (MI 124 4) (MI 124 5) (MI 124 6) (MI 124 51) (MI 124 52) = MI := by
  funext i k; unfold rs; by_cases hi : i = 124
  · subst hi
    by_cases h2 : k = 4
    · simp [h2]
    · by_cases h3 : k = 5
      · simp [h3]
      · by_cases h4 : k = 6
        · simp [h4]
        · by_cases h5 : k = 51
          · simp [h5]
          · by_cases h6 : k = 52 <;> simp [h2, h3, h4, h5, h6]
  · simp [hi]
/-- a write of another field of the reference goes under -/
theorem rs_fld {MI : Nat → Nat → Int} {a w pl sz br v : Int} {k : Nat} (hk : k ≠ 4 ∧ k ≠ 5 ∧ k ≠ 6 ∧ k ≠ 51 ∧ k ≠ 52) : up2 (rs MI a w pl sz br) 124 k v = rs (up2 MI 124 k v) a w pl sz br := by
  funext i j; unfold up2 rs; by_cases hi : i = 124
  · subst hi
    by_cases hj : j = k
    · subst hj; simp [hk.1, hk.2.1, hk.2.2.1, hk.2.2.2.1, hk.2.2.2.2]
    · simp [hj]
  · simp [hi]
/-- the cells of the Doc whose base is b -/
theorem kdb_0 {b : Nat} (hbd : b = 38 ∨ b = 81) : KD[b + 0]? = some (7, 19) := by rcases hbd with rfl | rfl <;> rfl
theorem kdb_1 {b : Nat} (hbd : b = 38 ∨ b = 81) : KD[b + 1]? = some (9, 8) := by rcases hbd with rfl | rfl <;> rfl
theorem kdb_2 {b : Nat} (hbd : b = 38 ∨ b = 81) : KD[b + 2]? = some (1, 6000) := by rcases hbd with rfl | rfl <;> rfl
theorem kdb_3 {b : Nat} (hbd : b = 38 ∨ b = 81) : KD[b + 3]? = some (0, 2020) := by rcases hbd with rfl | rfl <;> rfl
theorem kdb_4 {b : Nat} (hbd : b = 38 ∨ b = 81) : KD[b + 4]? = some (0, 2020) := by rcases hbd with rfl | rfl <;> rfl
theorem kdb_5 {b : Nat} (hbd : b = 38 ∨ b = 81) : KD[b + 5]? = some (0, 2020) := by rcases hbd with rfl | rfl <;> rfl
theorem kdb_6 {b : Nat} (hbd : b = 38 ∨ b = 81) : KD[b + 6]? = some (0, 2020) := by rcases hbd with rfl | rfl <;> rfl
theorem kdb_7 {b : Nat} (hbd : b = 38 ∨ b = 81) : KD[b + 7]? = some (0, 2020) := by rcases hbd with rfl | rfl <;> rfl
theorem kdb_8 {b : Nat} (hbd : b = 38 ∨ b = 81) : KD[b + 8]? = some (0, 256) := by rcases hbd with rfl | rfl <;> rfl
theorem kdb_9 {b : Nat} (hbd : b = 38 ∨ b = 81) : KD[b + 9]? = some (13, 11) := by rcases hbd with rfl | rfl <;> rfl
theorem kdb_10 {b : Nat} (hbd : b = 38 ∨ b = 81) : KD[b + 10]? = some (0, 30) := by rcases hbd with rfl | rfl <;> rfl
theorem kdb_11 {b : Nat} (hbd : b = 38 ∨ b = 81) : KD[b + 11]? = some (0, 30) := by rcases hbd with rfl | rfl <;> rfl
theorem kdb_12 {b : Nat} (hbd : b = 38 ∨ b = 81) : KD[b + 12]? = some (0, 30) := by rcases hbd with rfl | rfl <;> rfl
theorem kdb_13 {b : Nat} (hbd : b = 38 ∨ b = 81) : KD[b + 13]? = some (0, 30) := by rcases hbd with rfl | rfl <;> rfl
theorem kdb_14 {b : Nat} (hbd : b = 38 ∨ b = 81) : KD[b + 14]? = some (0, 1200) := by rcases hbd with rfl | rfl <;> rfl
theorem kdb_15 {b : Nat} (hbd : b = 38 ∨ b = 81) : KD[b + 15]? = some (3, 1200) := by rcases hbd with rfl | rfl <;> rfl
theorem kdb_16 {b : Nat} (hbd : b = 38 ∨ b = 81) : KD[b + 16]? = some (3, 1200) := by rcases hbd with rfl | rfl <;> rfl
theorem kdb_17 {b : Nat} (hbd : b = 38 ∨ b = 81) : KD[b + 17]? = some (3, 30) := by rcases hbd with rfl | rfl <;> rfl
theorem kdb_18 {b : Nat} (hbd : b = 38 ∨ b = 81) : KD[b + 18]? = some (3, 30) := by rcases hbd with rfl | rfl <;> rfl
theorem kdb_19 {b : Nat} (hbd : b = 38 ∨ b = 81) : KD[b + 19]? = some (1, 30) := by rcases hbd with rfl | rfl <;> rfl
theorem kdb_20 {b : Nat} (hbd : b = 38 ∨ b = 81) : KD[b + 20]? = some (11, 13) := by rcases hbd with rfl | rfl <;> rfl
theorem kdb_21 {b : Nat} (hbd : b = 38 ∨ b = 81) : KD[b + 21]? = some (0, 750) := by rcases hbd with rfl | rfl <;> rfl
theorem kdb_22 {b : Nat} (hbd : b = 38 ∨ b = 81) : KD[b + 22]? = some (0, 750) := by rcases hbd with rfl | rfl <;> rfl
theorem kdb_23 {b : Nat} (hbd : b = 38 ∨ b = 81) : KD[b + 23]? = some (0, 750) := by rcases hbd with rfl | rfl <;> rfl
theorem kdb_24 {b : Nat} (hbd : b = 38 ∨ b = 81) : KD[b + 24]? = some (0, 750) := by rcases hbd with rfl | rfl <;> rfl
theorem kdb_25 {b : Nat} (hbd : b = 38 ∨ b = 81) : KD[b + 25]? = some (0, 750) := by rcases hbd with rfl | rfl <;> rfl
theorem kdb_26 {b : Nat} (hbd : b = 38 ∨ b = 81) : KD[b + 26]? = some (0, 750) := by rcases hbd with rfl | rfl <;> rfl
theorem kdb_27 {b : Nat} (hbd : b = 38 ∨ b = 81) : KD[b + 27]? = some (0, 750) := by rcases hbd with rfl | rfl <;> rfl
theorem kdb_28 {b : Nat} (hbd : b = 38 ∨ b = 81) : KD[b + 28]? = some (0, 750) := by rcases hbd with rfl | rfl <;> rfl
theorem kdb_29 {b : Nat} (hbd : b = 38 ∨ b = 81) : KD[b + 29]? = some (0, 750) := by rcases hbd with rfl | rfl <;> rfl
theorem kdb_30 {b : Nat} (hbd : b = 38 ∨ b = 81) : KD[b + 30]? = some (0, 3000) := by rcases hbd with rfl | rfl <;> rfl
theorem kdb_31 {b : Nat} (hbd : b = 38 ∨ b = 81) : KD[b + 31]? = some (0, 3000) := by rcases hbd with rfl | rfl <;> rfl
theorem kdb_32 {b : Nat} (hbd : b = 38 ∨ b = 81) : KD[b + 32]? = some (0, 600) := by rcases hbd with rfl | rfl <;> rfl
theorem kdb_33 {b : Nat} (hbd : b = 38 ∨ b = 81) : KD[b + 33]? = some (0, 600) := by rcases hbd with rfl | rfl <;> rfl
theorem kdb_34 {b : Nat} (hbd : b = 38 ∨ b = 81) : KD[b + 34]? = some (0, 600) := by rcases hbd with rfl | rfl <;> rfl
theorem kdb_35 {b : Nat} (hbd : b = 38 ∨ b = 81) : KD[b + 35]? = some (0, 600) := by rcases hbd with rfl | rfl <;> rfl
theorem kdb_36 {b : Nat} (hbd : b = 38 ∨ b = 81) : KD[b + 36]? = some (0, 600) := by rcases hbd with rfl | rfl <;> rfl
theorem kdb_37 {b : Nat} (hbd : b = 38 ∨ b = 81) : KD[b + 37]? = some (0, 600) := by rcases hbd with rfl | rfl <;> rfl
theorem kdb_38 {b : Nat} (hbd : b = 38 ∨ b = 81) : KD[b + 38]? = some (0, 600) := by rcases hbd with rfl | rfl <;> rfl
theorem kdb_39 {b : Nat} (hbd : b = 38 ∨ b = 81) : KD[b + 39]? = some (0, 600) := by rcases hbd with rfl | rfl <;> rfl
theorem kdb_40 {b : Nat} (hbd : b = 38 ∨ b = 81) : KD[b + 40]? = some (0, 600) := by rcases hbd with rfl | rfl <;> rfl
theorem kdb_41 {b : Nat} (hbd : b = 38 ∨ b = 81) : KD[b + 41]? = some (1, 2000) := by rcases hbd with rfl | rfl <;> rfl
theorem kdb_42 {b : Nat} (hbd : b = 38 ∨ b = 81) : KD[b + 42]? = some (1, 2000) := by rcases hbd with rfl | rfl <;> rfl
theorem grb_0_0 {b d e nw th x : Nat} (hbd : b = 38 ∨ b = 81) : GR d e nw th x (b + 0) 0 = b + 1 := by rcases hbd with rfl | rfl <;> rfl
theorem grb_0_1 {b d e nw th x : Nat} (hbd : b = 38 ∨ b = 81) : GR d e nw th x (b + 0) 1 = b + 9 := by rcases hbd with rfl | rfl <;> rfl
theorem grb_0_2 {b d e nw th x : Nat} (hbd : b = 38 ∨ b = 81) : GR d e nw th x (b + 0) 2 = b + 20 := by rcases hbd with rfl | rfl <;> rfl
theorem grb_0_3 {b d e nw th x : Nat} (hbd : b = 38 ∨ b = 81) : GR d e nw th x (b + 0) 3 = b + 32 := by rcases hbd with rfl | rfl <;> rfl
theorem grb_0_4 {b d e nw th x : Nat} (hbd : b = 38 ∨ b = 81) : GR d e nw th x (b + 0) 4 = b + 33 := by rcases hbd with rfl | rfl <;> rfl
theorem grb_0_5 {b d e nw th x : Nat} (hbd : b = 38 ∨ b = 81) : GR d e nw th x (b + 0) 5 = b + 34 := by rcases hbd with rfl | rfl <;> rfl
theorem grb_0_6 {b d e nw th x : Nat} (hbd : b = 38 ∨ b = 81) : GR d e nw th x (b + 0) 6 = b + 35 := by rcases hbd with rfl | rfl <;> rfl
theorem grb_0_7 {b d e nw th x : Nat} (hbd : b = 38 ∨ b = 81) : GR d e nw th x (b + 0) 7 = b + 36 := by rcases hbd with rfl | rfl <;> rfl
theorem grb_0_8 {b d e nw th x : Nat} (hbd : b = 38 ∨ b = 81) : GR d e nw th x (b + 0) 8 = b + 37 := by rcases hbd with rfl | rfl <;> rfl
theorem grb_0_9 {b d e nw th x : Nat} (hbd : b = 38 ∨ b = 81) : GR d e nw th x (b + 0) 9 = b + 38 := by rcases hbd with rfl | rfl <;> rfl
theorem grb_0_10 {b d e nw th x : Nat} (hbd : b = 38 ∨ b = 81) : GR d e nw th x (b + 0) 10 = b + 39 := by rcases hbd with rfl | rfl <;> rfl
theorem grb_0_11 {b d e nw th x : Nat} (hbd : b = 38 ∨ b = 81) : GR d e nw th x (b + 0) 11 = b + 40 := by rcases hbd with rfl | rfl <;> rfl
theorem grb_0_12 {b d e nw th x : Nat} (hbd : b = 38 ∨ b = 81) : GR d e nw th x (b + 0) 12 = b + 41 := by rcases hbd with rfl | rfl <;> rfl
theorem grb_0_13 {b d e nw th x : Nat} (hbd : b = 38 ∨ b = 81) : GR d e nw th x (b + 0) 13 = b + 42 := by rcases hbd with rfl | rfl <;> rfl
theorem grb_1_0 {b d e nw th x : Nat} (hbd : b = 38 ∨ b = 81) : GR d e nw th x (b + 1) 0 = b + 2 := by rcases hbd with rfl | rfl <;> rfl
theorem grb_1_1 {b d e nw th x : Nat} (hbd : b = 38 ∨ b = 81) : GR d e nw th x (b + 1) 1 = b + 3 := by rcases hbd with rfl | rfl <;> rfl
theorem grb_1_2 {b d e nw th x : Nat} (hbd : b = 38 ∨ b = 81) : GR d e nw th x (b + 1) 2 = b + 4 := by rcases hbd with rfl | rfl <;> rfl
theorem grb_1_3 {b d e nw th x : Nat} (hbd : b = 38 ∨ b = 81) : GR d e nw th x (b + 1) 3 = b + 5 := by rcases hbd with rfl | rfl <;> rfl
theorem grb_1_4 {b d e nw th x : Nat} (hbd : b = 38 ∨ b = 81) : GR d e nw th x (b + 1) 4 = b + 6 := by rcases hbd with rfl | rfl <;> rfl
theorem grb_1_5 {b d e nw th x : Nat} (hbd : b = 38 ∨ b = 81) : GR d e nw th x (b + 1) 5 = b + 7 := by rcases hbd with rfl | rfl <;> rfl
theorem grb_1_6 {b d e nw th x : Nat} (hbd : b = 38 ∨ b = 81) : GR d e nw th x (b + 1) 6 = b + 8 := by rcases hbd with rfl | rfl <;> rfl
theorem grb_9_0 {b d e nw th x : Nat} (hbd : b = 38 ∨ b = 81) : GR d e nw th x (b + 9) 0 = b + 10 := by rcases hbd with rfl | rfl <;> rfl
theorem grb_9_1 {b d e nw th x : Nat} (hbd : b = 38 ∨ b = 81) : GR d e nw th x (b + 9) 1 = b + 11 := by rcases hbd with rfl | rfl <;> rfl
theorem grb_9_2 {b d e nw th x : Nat} (hbd : b = 38 ∨ b = 81) : GR d e nw th x (b + 9) 2 = b + 12 := by rcases hbd with rfl | rfl <;> rfl
theorem grb_9_3 {b d e nw th x : Nat} (hbd : b = 38 ∨ b = 81) : GR d e nw th x (b + 9) 3 = b + 13 := by rcases hbd with rfl | rfl <;> rfl
theorem grb_9_4 {b d e nw th x : Nat} (hbd : b = 38 ∨ b = 81) : GR d e nw th x (b + 9) 4 = b + 14 := by rcases hbd with rfl | rfl <;> rfl
theorem grb_9_5 {b d e nw th x : Nat} (hbd : b = 38 ∨ b = 81) : GR d e nw th x (b + 9) 5 = b + 15 := by rcases hbd with rfl | rfl <;> rfl
theorem grb_9_6 {b d e nw th x : Nat} (hbd : b = 38 ∨ b = 81) : GR d e nw th x (b + 9) 6 = b + 16 := by rcases hbd with rfl | rfl <;> rfl
theorem grb_9_7 {b d e nw th x : Nat} (hbd : b = 38 ∨ b = 81) : GR d e nw th x (b + 9) 7 = b + 17 := by rcases hbd with rfl | rfl <;> rfl
theorem grb_9_8 {b d e nw th x : Nat} (hbd : b = 38 ∨ b = 81) : GR d e nw th x (b + 9) 8 = b + 18 := by rcases hbd with rfl | rfl <;> rfl
theorem grb_9_9 {b d e nw th x : Nat} (hbd : b = 38 ∨ b = 81) : GR d e nw th x (b + 9) 9 = b + 19 := by rcases hbd with rfl | rfl <;> rfl
theorem grb_20_0 {b d e nw th x : Nat} (hbd : b = 38 ∨ b = 81) : GR d e nw th x (b + 20) 0 = b + 21 := by rcases hbd with rfl | rfl <;> rfl
theorem grb_20_1 {b d e nw th x : Nat} (hbd : b = 38 ∨ b = 81) : GR d e nw th x (b + 20) 1 = b + 22 := by rcases hbd with rfl | rfl <;> rfl
theorem grb_20_2 {b d e nw th x : Nat} (hbd : b = 38 ∨ b = 81) : GR d e nw th x (b + 20) 2 = b + 23 := by rcases hbd with rfl | rfl <;> rfl
theorem grb_20_3 {b d e nw th x : Nat} (hbd : b = 38 ∨ b = 81) : GR d e nw th x (b + 20) 3 = b + 24 := by rcases hbd with rfl | rfl <;> rfl
theorem grb_20_4 {b d e nw th x : Nat} (hbd : b = 38 ∨ b = 81) : GR d e nw th x (b + 20) 4 = b + 25 := by rcases hbd with rfl | rfl <;> rfl
theorem grb_20_5 {b d e nw th x : Nat} (hbd : b = 38 ∨ b = 81) : GR d e nw th x (b + 20) 5 = b + 26 := by rcases hbd with rfl | rfl <;> rfl
theorem grb_20_6 {b d e nw th x : Nat} (hbd : b = 38 ∨ b = 81) : GR d e nw th x (b + 20) 6 = b + 27 := by rcases hbd with rfl | rfl <;> rfl
theorem grb_20_7 {b d e nw th x : Nat} (hbd : b = 38 ∨ b = 81) : GR d e nw th x (b + 20) 7 = b + 28 := by rcases hbd with rfl | rfl <;> rfl
theorem grb_20_8 {b d e nw th x : Nat} (hbd : b = 38 ∨ b = 81) : GR d e nw th x (b + 20) 8 = b + 29 := by rcases hbd with rfl | rfl <;> rfl
theorem grb_20_9 {b d e nw th x : Nat} (hbd : b = 38 ∨ b = 81) : GR d e nw th x (b + 20) 9 = b + 30 := by rcases hbd with rfl | rfl <;> rfl
theorem grb_20_10 {b d e nw th x : Nat} (hbd : b = 38 ∨ b = 81) : GR d e nw th x (b + 20) 10 = b + 31 := by rcases hbd with rfl | rfl <;> rfl
section P30
variable {cs : Cs} {Q : Option AV → Mm → Prop} {MI ML : Nat → Nat → Int} {d e nw th x : Nat}
theorem dX1_begin_0 : decode cX1_begin 0 = .ok (.aload_n 0, 1) := by decide +kernel
theorem dX1_begin_1 : decode cX1_begin 1 = .ok (.aload_n 1, 1) := by decide +kernel
theorem dX1_begin_2 : decode cX1_begin 2 = .ok (.putfield 9, 3) := by decide +kernel
theorem dX1_begin_5 : decode cX1_begin 5 = .ok (.aload_n 0, 1) := by decide +kernel
theorem dX1_begin_6 : decode cX1_begin 6 = .ok (.iconst 0, 1) := by decide +kernel
theorem dX1_begin_7 : decode cX1_begin 7 = .ok (.iload_n 2, 1) := by decide +kernel
theorem dX1_begin_8 : decode cX1_begin 8 = .ok (.aload_n 1, 1) := by decide +kernel
theorem dX1_begin_9 : decode cX1_begin 9 = .ok (.arraylength, 1) := by decide +kernel
theorem dX1_begin_10 : decode cX1_begin 10 = .ok (.invokestatic 34, 3) := by decide +kernel
theorem dX1_begin_13 : decode cX1_begin 13 = .ok (.invokestatic 40, 3) := by decide +kernel
theorem dX1_begin_16 : decode cX1_begin 16 = .ok (.putfield 15, 3) := by decide +kernel
theorem dX1_begin_19 : decode cX1_begin 19 = .ok (.aload_n 0, 1) := by decide +kernel
theorem dX1_begin_20 : decode cX1_begin 20 = .ok (.iconst 0, 1) := by decide +kernel
theorem dX1_begin_21 : decode cX1_begin 21 = .ok (.putfield 19, 3) := by decide +kernel
theorem dX1_begin_24 : decode cX1_begin 24 = .ok (.aload_n 0, 1) := by decide +kernel
theorem dX1_begin_25 : decode cX1_begin 25 = .ok (.iconst 0, 1) := by decide +kernel
theorem dX1_begin_26 : decode cX1_begin 26 = .ok (.putfield 22, 3) := by decide +kernel
theorem dX1_begin_29 : decode cX1_begin 29 = .ok (.aload_n 0, 1) := by decide +kernel
theorem dX1_begin_30 : decode cX1_begin 30 = .ok (.iconst 0, 1) := by decide +kernel
theorem dX1_begin_31 : decode cX1_begin 31 = .ok (.putfield 25, 3) := by decide +kernel
theorem dX1_begin_34 : decode cX1_begin 34 = .ok (.aload_n 0, 1) := by decide +kernel
theorem dX1_begin_35 : decode cX1_begin 35 = .ok (.iconst 0, 1) := by decide +kernel
theorem dX1_begin_36 : decode cX1_begin 36 = .ok (.putfield 28, 3) := by decide +kernel
theorem dX1_begin_39 : decode cX1_begin 39 = .ok (.aload_n 0, 1) := by decide +kernel
theorem dX1_begin_40 : decode cX1_begin 40 = .ok (.iconst (-1), 1) := by decide +kernel
theorem dX1_begin_41 : decode cX1_begin 41 = .ok (.putfield 31, 3) := by decide +kernel
theorem dX1_begin_44 : decode cX1_begin 44 = .ok (.return_, 1) := by decide +kernel
theorem w_X1_begin {n h nf nl ft fa : Int} (hn : 0 ≤ n ∧ n ≤ 6000) (hQ : Q none (cu (up2 MI 2 1 n) 0 0 0 0 (-1), ML, GR d e nw th 1)) : wp cs mX1_begin KD Q 0 (padL [vR 2, vR 1, vI n] 3) [] (KD, cu MI h nf nl ft fa, ML, GR d e nw th x) := by
  refine wp_L (L' := [some (vR 2), some (vR 1), some (vI n)]) rfl ?_
  refine wp_aload_n dX1_begin_0 rfl rfl (by first | exact Or.inl (by decide) | exact Or.inl (by omega) | exact Or.inr (by decide) | exact Or.inr (by omega)) ?_
  refine wp_aload_n dX1_begin_1 rfl rfl (by first | exact Or.inl (by decide) | exact Or.inl (by omega) | exact Or.inr (by decide) | exact Or.inr (by omega)) ?_
  refine wp_putR dX1_begin_2 pX1_9 (fun h => by first | rfl | cases h) rfl (by decide) (by first | exact Or.inl (by decide) | exact Or.inl (by omega)) (Or.inr ⟨_, rfl⟩) ?_
  refine wp_M (M' := ((cu MI h nf nl ft fa), ML, (GR d e nw th 1))) (by rw [gr_text]) ?_
  refine wp_aload_n dX1_begin_5 rfl rfl (by first | exact Or.inl (by decide) | exact Or.inl (by omega) | exact Or.inr (by decide) | exact Or.inr (by omega)) ?_
  refine wp_iconst dX1_begin_6 (by decide) ?_
  refine wp_iload_n dX1_begin_7 rfl rfl ?_
  refine wp_aload_n dX1_begin_8 rfl rfl (by first | exact Or.inl (by decide) | exact Or.inl (by omega) | exact Or.inr (by decide) | exact Or.inr (by omega)) ?_
  refine wp_pc (pc' := 9) rfl ?_
  refine wp_alen dX1_begin_9 rfl (by decide) (by decide) (by decide) ?_
  refine wp_topI (x' := 6000) rfl ?_
  refine wp_mmin dX1_begin_10 lX1_34 (Nat.le_of_ble_eq_true rfl) (by decide) (by decide) ⟨Nat.le_refl _, Nat.le_refl _⟩ ?_
  refine wp_mmax dX1_begin_13 lX1_40 (Nat.le_of_ble_eq_true rfl) (by decide) (by decide) ⟨Nat.le_refl _, Nat.le_refl _⟩ ?_
  refine wp_putI dX1_begin_16 pX1_15 rfl (by decide) ?_
  refine wp_M (M' := ((cu (up2 MI 2 1 (if 0 < (if 6000 < n then 6000 else n) then (if 6000 < n then 6000 else n) else 0)) h nf nl ft fa), ML, (GR d e nw th 1))) (by rw [cu_1]) ?_
  refine wp_aload_n dX1_begin_19 rfl rfl (by first | exact Or.inl (by decide) | exact Or.inl (by omega) | exact Or.inr (by decide) | exact Or.inr (by omega)) ?_
  refine wp_iconst dX1_begin_20 (by decide) ?_
  refine wp_putI dX1_begin_21 pX1_19 rfl (by decide) ?_
  refine wp_M (M' := ((cu (up2 MI 2 1 (if 0 < (if 6000 < n then 6000 else n) then (if 6000 < n then 6000 else n) else 0)) 0 nf nl ft fa), ML, (GR d e nw th 1))) (by rw [cu_2]) ?_
  refine wp_aload_n dX1_begin_24 rfl rfl (by first | exact Or.inl (by decide) | exact Or.inl (by omega) | exact Or.inr (by decide) | exact Or.inr (by omega)) ?_
  refine wp_pc (pc' := 25) rfl ?_
  refine wp_iconst dX1_begin_25 (by decide) ?_
  refine wp_putI dX1_begin_26 pX1_22 rfl (by decide) ?_
  refine wp_M (M' := ((cu (up2 MI 2 1 (if 0 < (if 6000 < n then 6000 else n) then (if 6000 < n then 6000 else n) else 0)) 0 0 nl ft fa), ML, (GR d e nw th 1))) (by rw [cu_3]) ?_
  refine wp_aload_n dX1_begin_29 rfl rfl (by first | exact Or.inl (by decide) | exact Or.inl (by omega) | exact Or.inr (by decide) | exact Or.inr (by omega)) ?_
  refine wp_iconst dX1_begin_30 (by decide) ?_
  refine wp_putI dX1_begin_31 pX1_25 rfl (by decide) ?_
  refine wp_M (M' := ((cu (up2 MI 2 1 (if 0 < (if 6000 < n then 6000 else n) then (if 6000 < n then 6000 else n) else 0)) 0 0 0 ft fa), ML, (GR d e nw th 1))) (by rw [cu_4]) ?_
  refine wp_aload_n dX1_begin_34 rfl rfl (by first | exact Or.inl (by decide) | exact Or.inl (by omega) | exact Or.inr (by decide) | exact Or.inr (by omega)) ?_
  refine wp_iconst dX1_begin_35 (by decide) ?_
  refine wp_putI dX1_begin_36 pX1_28 rfl (by decide) ?_
  refine wp_M (M' := ((cu (up2 MI 2 1 (if 0 < (if 6000 < n then 6000 else n) then (if 6000 < n then 6000 else n) else 0)) 0 0 0 0 fa), ML, (GR d e nw th 1))) (by rw [cu_5]) ?_
  refine wp_pc (pc' := 39) rfl ?_
  refine wp_aload_n dX1_begin_39 rfl rfl (by first | exact Or.inl (by decide) | exact Or.inl (by omega) | exact Or.inr (by decide) | exact Or.inr (by omega)) ?_
  refine wp_iconst dX1_begin_40 (by decide) ?_
  refine wp_putI dX1_begin_41 pX1_31 rfl (by decide) ?_
  refine wp_M (M' := ((cu (up2 MI 2 1 (if 0 < (if 6000 < n then 6000 else n) then (if 6000 < n then 6000 else n) else 0)) 0 0 0 0 (-1)), ML, (GR d e nw th 1))) (by rw [cu_6]) ?_
  exact wp_vret dX1_begin_44 rfl (fun _ => by rw [show (if (0 : Int) < (if (6000 : Int) < n then 6000 else n) then (if (6000 : Int) < n then 6000 else n) else 0) = n by split <;> split <;> omega]; exact hQ)
theorem dX12_begin_0 : decode cX12_begin 0 = .ok (.iconst 0, 1) := by decide +kernel
theorem dX12_begin_1 : decode cX12_begin 1 = .ok (.istore_n 2, 1) := by decide +kernel
theorem dX12_begin_2 : decode cX12_begin 2 = .ok (.iload_n 2, 1) := by decide +kernel
theorem dX12_begin_3 : decode cX12_begin 3 = .ok (.iload_n 1, 1) := by decide +kernel
theorem dX12_begin_4 : decode cX12_begin 4 = .ok (.if_icmp .ge 21, 3) := by decide +kernel
theorem dX12_begin_7 : decode cX12_begin 7 = .ok (.aload_n 0, 1) := by decide +kernel
theorem dX12_begin_8 : decode cX12_begin 8 = .ok (.getfield 13, 3) := by decide +kernel
theorem dX12_begin_11 : decode cX12_begin 11 = .ok (.iload_n 2, 1) := by decide +kernel
theorem dX12_begin_12 : decode cX12_begin 12 = .ok (.aload_n 0, 1) := by decide +kernel
theorem dX12_begin_13 : decode cX12_begin 13 = .ok (.getfield 7, 3) := by decide +kernel
theorem dX12_begin_16 : decode cX12_begin 16 = .ok (.iload_n 2, 1) := by decide +kernel
theorem dX12_begin_17 : decode cX12_begin 17 = .ok (.baload, 1) := by decide +kernel
theorem dX12_begin_18 : decode cX12_begin 18 = .ok (.bastore, 1) := by decide +kernel
theorem dX12_begin_19 : decode cX12_begin 19 = .ok (.iinc 2 1, 3) := by decide +kernel
theorem dX12_begin_22 : decode cX12_begin 22 = .ok (.goto (-20), 3) := by decide +kernel
theorem dX12_begin_25 : decode cX12_begin 25 = .ok (.aload_n 0, 1) := by decide +kernel
theorem dX12_begin_26 : decode cX12_begin 26 = .ok (.iload_n 1, 1) := by decide +kernel
theorem dX12_begin_27 : decode cX12_begin 27 = .ok (.putfield 249, 3) := by decide +kernel
theorem dX12_begin_30 : decode cX12_begin 30 = .ok (.aload_n 0, 1) := by decide +kernel
theorem dX12_begin_31 : decode cX12_begin 31 = .ok (.iconst 0, 1) := by decide +kernel
theorem dX12_begin_32 : decode cX12_begin 32 = .ok (.putfield 476, 3) := by decide +kernel
theorem dX12_begin_35 : decode cX12_begin 35 = .ok (.aload_n 0, 1) := by decide +kernel
theorem dX12_begin_36 : decode cX12_begin 36 = .ok (.iconst 0, 1) := by decide +kernel
theorem dX12_begin_37 : decode cX12_begin 37 = .ok (.putfield 276, 3) := by decide +kernel
theorem dX12_begin_40 : decode cX12_begin 40 = .ok (.aload_n 0, 1) := by decide +kernel
theorem dX12_begin_41 : decode cX12_begin 41 = .ok (.iconst 0, 1) := by decide +kernel
theorem dX12_begin_42 : decode cX12_begin 42 = .ok (.putfield 246, 3) := by decide +kernel
theorem dX12_begin_45 : decode cX12_begin 45 = .ok (.aload_n 0, 1) := by decide +kernel
theorem dX12_begin_46 : decode cX12_begin 46 = .ok (.iconst (-1), 1) := by decide +kernel
theorem dX12_begin_47 : decode cX12_begin 47 = .ok (.putfield 16, 3) := by decide +kernel
theorem dX12_begin_50 : decode cX12_begin 50 = .ok (.return_, 1) := by decide +kernel
/-- the first m bytes of one row in another -/
def cpm (MI : Nat → Nat → Int) (s t m : Nat) : Nat → Nat → Int := fun i k => if i = t ∧ k < m then MI s k else MI i k
theorem cpm_s {MI : Nat → Nat → Int} {s t m : Nat} (hst : s ≠ t) : up2 (cpm MI s t m) t m (cpm MI s t m s m) = cpm MI s t (m + 1) := by
  funext i k
  unfold up2 cpm
  by_cases h : i = t
  · subst h
    by_cases h2 : k = m
    · subst h2; simp [hst]
    · by_cases h3 : k < m
      · simp [h2, h3, show k < m + 1 by omega]
      · simp [h2, h3, show ¬ k < m + 1 by omega]
  · simp [h]
theorem cpm_0 {MI : Nat → Nat → Int} {s t : Nat} : cpm MI s t 0 = MI := by funext i k; simp [cpm]
theorem begin_fin {n : Nat} : up2 (up2 (up2 (up2 (up2 (cpm MI 125 126 n) 124 3 (n : Int)) 124 1 0) 124 4 0) 124 5 0) 124 6 (-1) = (rs (up2 (up2 (cpm MI 125 126 n) 124 3 (n : Int)) 124 1 0) 0 0 (-1) (MI 124 51) (MI 124 52)) := by
  funext i k
  unfold up2 rs cpm
  by_cases hi : i = 124
  · subst hi
    by_cases h2 : k = 4
    · simp [h2]
    · by_cases h3 : k = 5
      · simp [h3]
      · by_cases h4 : k = 6
        · simp [h4]
        · by_cases h5 : k = 51
          · simp [h5]
          · by_cases h6 : k = 52 <;> simp [h2, h3, h4, h5, h6]
  · simp [hi]
theorem w_rbegin_l {n : Nat} (hn : n ≤ 6000) (hby : ∀ k, -128 ≤ MI 125 k ∧ MI 125 k < 128) (hQ : Q none ((rs (up2 (up2 (cpm MI 125 126 n) 124 3 (n : Int)) 124 1 0) 0 0 (-1) (MI 124 51) (MI 124 52)), ML, GR d e nw th x)) : ∀ (j m : Nat), m + j = n → wp cs mX12_begin KD Q 2 [some (vR 124), some (vI ((n : Int))), some (vI ((m : Int)))] [] (KD, cpm MI 125 126 m, ML, GR d e nw th x) := by
  intro j
  induction j with
  | zero =>
    intro m hm
    refine wp_iload_n dX12_begin_2 rfl rfl ?_
    refine wp_iload_n dX12_begin_3 rfl rfl ?_
    refine wp_icmp_ge (tgt := 25) dX12_begin_4 (by decide) (fun h4 => ?_) (fun h4 => ?_)
    · refine wp_aload_n dX12_begin_25 rfl rfl (by first | exact Or.inl (by decide) | exact Or.inl (by omega) | exact Or.inr (by decide) | exact Or.inr (by omega)) ?_
      refine wp_iload_n dX12_begin_26 rfl rfl ?_
      refine wp_putI dX12_begin_27 pX12_249 rfl (by decide) ?_
      refine wp_aload_n dX12_begin_30 rfl rfl (by first | exact Or.inl (by decide) | exact Or.inl (by omega) | exact Or.inr (by decide) | exact Or.inr (by omega)) ?_
      refine wp_iconst dX12_begin_31 (by decide) ?_
      refine wp_putI dX12_begin_32 pX12_476 rfl (by decide) ?_
      refine wp_aload_n dX12_begin_35 rfl rfl (by first | exact Or.inl (by decide) | exact Or.inl (by omega) | exact Or.inr (by decide) | exact Or.inr (by omega)) ?_
      refine wp_pc (pc' := 36) rfl ?_
      refine wp_iconst dX12_begin_36 (by decide) ?_
      refine wp_putI dX12_begin_37 pX12_276 rfl (by decide) ?_
      refine wp_aload_n dX12_begin_40 rfl rfl (by first | exact Or.inl (by decide) | exact Or.inl (by omega) | exact Or.inr (by decide) | exact Or.inr (by omega)) ?_
      refine wp_iconst dX12_begin_41 (by decide) ?_
      refine wp_putI dX12_begin_42 pX12_246 rfl (by decide) ?_
      refine wp_aload_n dX12_begin_45 rfl rfl (by first | exact Or.inl (by decide) | exact Or.inl (by omega) | exact Or.inr (by decide) | exact Or.inr (by omega)) ?_
      refine wp_iconst dX12_begin_46 (by decide) ?_
      refine wp_putI dX12_begin_47 pX12_16 rfl (by decide) ?_
      refine wp_pc (pc' := 50) rfl ?_
      exact wp_vret dX12_begin_50 rfl (fun _ => by rw [show m = n by omega, begin_fin]; exact hQ)
    · exfalso; omega
  | succ j ih =>
    intro m hm
    refine wp_iload_n dX12_begin_2 rfl rfl ?_
    refine wp_iload_n dX12_begin_3 rfl rfl ?_
    refine wp_icmp_ge (tgt := 25) dX12_begin_4 (by decide) (fun h4 => ?_) (fun h4 => ?_)
    · exfalso; omega
    · refine wp_aload_n dX12_begin_7 rfl rfl (by first | exact Or.inl (by decide) | exact Or.inl (by omega) | exact Or.inr (by decide) | exact Or.inr (by omega)) ?_
      refine wp_getR dX12_begin_8 fX12_13 rfl (by decide) ?_
      refine wp_topR (x' := 126) rfl ?_
      refine wp_iload_n dX12_begin_11 rfl rfl ?_
      refine wp_aload_n dX12_begin_12 rfl rfl (by first | exact Or.inl (by decide) | exact Or.inl (by omega) | exact Or.inr (by decide) | exact Or.inr (by omega)) ?_
      refine wp_getR dX12_begin_13 fX12_7 rfl (by decide) ?_
      refine wp_topR (x' := 125) rfl ?_
      refine wp_iload_n dX12_begin_16 rfl rfl ?_
      refine wp_bald dX12_begin_17 rfl (by decide) (by omega) ?_
      refine wp_pc (pc' := 18) rfl ?_
      refine wp_bast dX12_begin_18 rfl (by decide) (by omega) (by show -128 ≤ cpm MI 125 126 m 125 m ∧ cpm MI 125 126 m 125 m < 128; unfold cpm; rw [if_neg (by omega)]; exact hby m) ?_
      refine wp_M (M' := (cpm MI 125 126 (m + 1), ML, GR d e nw th x)) (by rw [← cpm_s (by decide)]; rfl) ?_
      refine wp_iincr dX12_begin_19 rfl (by decide) (by omega) (wp_L (L' := [some (vR 124), some (vI (n : Int)), some (vI ((m + 1 : Nat) : Int))]) rfl ?_)
      refine wp_goto (tgt := 2) dX12_begin_22 (by decide) ?_
      exact ih (m + 1) (by omega)
theorem w_X12_begin {n : Nat} (hn : n ≤ 6000) (hby : ∀ k, -128 ≤ MI 125 k ∧ MI 125 k < 128) (hQ : Q none ((rs (up2 (up2 (cpm MI 125 126 n) 124 3 (n : Int)) 124 1 0) 0 0 (-1) (MI 124 51) (MI 124 52)), ML, GR d e nw th x)) : wp cs mX12_begin KD Q 0 (padL [vR 124, vI (n : Int)] 3) [] (KD, MI, ML, GR d e nw th x) := by
  refine wp_L (L' := [some (vR 124), some (vI (n : Int)), none]) rfl ?_
  refine wp_iconst dX12_begin_0 (by decide) ?_
  refine wp_istore_n dX12_begin_1 rfl (by decide) (wp_L (L' := [some (vR 124), some (vI (n : Int)), some (vI ((0 : Nat) : Int))]) rfl ?_)
  refine wp_M (M' := (cpm MI 125 126 0, ML, GR d e nw th x)) (by rw [cpm_0]) ?_
  exact w_rbegin_l hn hby hQ n 0 (by omega)
end P30
