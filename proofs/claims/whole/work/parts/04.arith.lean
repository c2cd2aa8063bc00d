section ARITH
variable {cs : Cs} {mt : Mth} {kf : Kd} {Q : Option AV → Mm → Prop} {pc : Nat} {L : Lc} {S : List AV} {σ : St}
def w32 (x : Int) : Int := (Int32.ofInt x).toInt
theorem w32_id {x : Int} (h : -2147483648 ≤ x ∧ x < 2147483648) : w32 x = x := tc6 h
theorem okI (x : Int32) : okV (vI x.toInt) := tc8 x
theorem okJ (x : Int64) : okV (vL x.toInt) := tc9 x
def i_and (x y : Int) : Int := (Int32.ofInt x &&& Int32.ofInt y).toInt
def i_or (x y : Int) : Int := (Int32.ofInt x ||| Int32.ofInt y).toInt
def i_xor (x y : Int) : Int := (Int32.ofInt x ^^^ Int32.ofInt y).toInt
def i_div (x y : Int) : Int := (Int32.ofInt x / Int32.ofInt y).toInt
def i_rem (x y : Int) : Int := (Int32.ofInt x - Int32.ofInt x / Int32.ofInt y * Int32.ofInt y).toInt
def i_shr (x y : Int) : Int := (Int32.ofInt x >>> (Int32.ofInt y &&& 31)).toInt
def i_ushr (x y : Int) : Int := ((Int32.ofInt x).toUInt32 >>> ((Int32.ofInt y).toUInt32 &&& Int32.toUInt32 31)).toInt32.toInt
def i_2b (x : Int) : Int := (Int32.ofInt x).toInt8.toInt32.toInt
def l_and (x y : Int) : Int := (Int64.ofInt x &&& Int64.ofInt y).toInt
def l_or (x y : Int) : Int := (Int64.ofInt x ||| Int64.ofInt y).toInt
def l_shl (x y : Int) : Int := (Int64.ofInt x <<< ((Int32.ofInt y).toInt64 &&& 63)).toInt
def l_shr (x y : Int) : Int := (Int64.ofInt x >>> ((Int32.ofInt y).toInt64 &&& 63)).toInt
def l_ushr (x y : Int) : Int := ((Int64.ofInt x).toUInt64 >>> ((Int32.ofInt y).toInt64.toUInt64 &&& Int64.toUInt64 63)).toInt64.toInt
def l_cmp (x y : Int) : Int := if y < x then 1 else if x = y then 0 else -1
theorem wp_iadd {x y : Int} (hd : decode mt.2.1 pc = .ok (.iadd, 1)) (k : wp cs mt kf Q (pc + 1) L (vI (w32 (x + y)) :: S) σ) : wp cs mt kf Q pc L (vI y :: vI x :: S) σ := by
  refine wp_pure (fun _ _ h => okS.cons (v := vI _) (tc8 _) h.tl.tl) (fun _ _ _ _ _ _ _ _ _ _ _ _ _ _ _ _ hC _ hS _ h => ?_) k
  refine lv_iadd (x := Int32.ofInt x) (y := Int32.ofInt y) hC.1 hC.2.1 hd ?_
  simp only [List.map_cons, cv, vI, w32, tc1] at h
  rw [tc3]
  exact h
theorem wp_isub {x y : Int} (hd : decode mt.2.1 pc = .ok (.isub, 1)) (k : wp cs mt kf Q (pc + 1) L (vI (w32 (x - y)) :: S) σ) : wp cs mt kf Q pc L (vI y :: vI x :: S) σ := by
  refine wp_pure (fun _ _ h => okS.cons (v := vI _) (tc8 _) h.tl.tl) (fun _ _ _ _ _ _ _ _ _ _ _ _ _ _ _ _ hC _ hS _ h => ?_) k
  refine lv_isub (x := Int32.ofInt x) (y := Int32.ofInt y) hC.1 hC.2.1 hd ?_
  simp only [List.map_cons, cv, vI, w32, tc1] at h
  rw [tc4]
  exact h
theorem wp_imul {x y : Int} (hd : decode mt.2.1 pc = .ok (.imul, 1)) (k : wp cs mt kf Q (pc + 1) L (vI (w32 (x * y)) :: S) σ) : wp cs mt kf Q pc L (vI y :: vI x :: S) σ := by
  refine wp_pure (fun _ _ h => okS.cons (v := vI _) (tc8 _) h.tl.tl) (fun _ _ _ _ _ _ _ _ _ _ _ _ _ _ _ _ hC _ hS _ h => ?_) k
  refine lv_imul (x := Int32.ofInt x) (y := Int32.ofInt y) hC.1 hC.2.1 hd ?_
  simp only [List.map_cons, cv, vI, w32, tc1] at h
  rw [tc5]
  exact h
theorem wp_iand {x y : Int} (hd : decode mt.2.1 pc = .ok (.iand, 1)) (k : wp cs mt kf Q (pc + 1) L (vI (i_and x y) :: S) σ) : wp cs mt kf Q pc L (vI y :: vI x :: S) σ := by
  refine wp_pure (fun _ _ h => okS.cons (v := vI _) (tc8 _) h.tl.tl) (fun _ _ _ _ _ _ _ _ _ _ _ _ _ _ _ _ hC _ hS _ h => ?_) k
  refine lv_iand (x := Int32.ofInt x) (y := Int32.ofInt y) hC.1 hC.2.1 hd ?_
  simp only [List.map_cons, cv, vI, i_and, tc1] at h
  exact h
theorem wp_ior {x y : Int} (hd : decode mt.2.1 pc = .ok (.ior, 1)) (k : wp cs mt kf Q (pc + 1) L (vI (i_or x y) :: S) σ) : wp cs mt kf Q pc L (vI y :: vI x :: S) σ := by
  refine wp_pure (fun _ _ h => okS.cons (v := vI _) (tc8 _) h.tl.tl) (fun _ _ _ _ _ _ _ _ _ _ _ _ _ _ _ _ hC _ hS _ h => ?_) k
  refine lv_ior (x := Int32.ofInt x) (y := Int32.ofInt y) hC.1 hC.2.1 hd ?_
  simp only [List.map_cons, cv, vI, i_or, tc1] at h
  exact h
theorem wp_ixor {x y : Int} (hd : decode mt.2.1 pc = .ok (.ixor, 1)) (k : wp cs mt kf Q (pc + 1) L (vI (i_xor x y) :: S) σ) : wp cs mt kf Q pc L (vI y :: vI x :: S) σ := by
  refine wp_pure (fun _ _ h => okS.cons (v := vI _) (tc8 _) h.tl.tl) (fun _ _ _ _ _ _ _ _ _ _ _ _ _ _ _ _ hC _ hS _ h => ?_) k
  refine lv_ixor (x := Int32.ofInt x) (y := Int32.ofInt y) hC.1 hC.2.1 hd ?_
  simp only [List.map_cons, cv, vI, i_xor, tc1] at h
  exact h
theorem wp_ishr {x y : Int} (hd : decode mt.2.1 pc = .ok (.ishr, 1)) (k : wp cs mt kf Q (pc + 1) L (vI (i_shr x y) :: S) σ) : wp cs mt kf Q pc L (vI y :: vI x :: S) σ := by
  refine wp_pure (fun _ _ h => okS.cons (v := vI _) (tc8 _) h.tl.tl) (fun _ _ _ _ _ _ _ _ _ _ _ _ _ _ _ _ hC _ hS _ h => ?_) k
  refine lv_ishr (x := Int32.ofInt x) (y := Int32.ofInt y) hC.1 hC.2.1 hd ?_
  simp only [List.map_cons, cv, vI, i_shr, tc1] at h
  exact h
theorem wp_iushr {x y : Int} (hd : decode mt.2.1 pc = .ok (.iushr, 1)) (k : wp cs mt kf Q (pc + 1) L (vI (i_ushr x y) :: S) σ) : wp cs mt kf Q pc L (vI y :: vI x :: S) σ := by
  refine wp_pure (fun _ _ h => okS.cons (v := vI _) (tc8 _) h.tl.tl) (fun _ _ _ _ _ _ _ _ _ _ _ _ _ _ _ _ hC _ hS _ h => ?_) k
  refine lv_iushr (x := Int32.ofInt x) (y := Int32.ofInt y) hC.1 hC.2.1 hd rfl ?_
  simp only [List.map_cons, cv, vI, i_ushr, tc1] at h
  exact h
theorem wp_idiv {x y : Int} (hd : decode mt.2.1 pc = .ok (.idiv, 1)) (hy : y ≠ 0) (k : wp cs mt kf Q (pc + 1) L (vI (i_div x y) :: S) σ) : wp cs mt kf Q pc L (vI y :: vI x :: S) σ := by
  refine wp_pure (fun _ _ h => okS.cons (v := vI _) (tc8 _) h.tl.tl) (fun _ _ _ _ _ _ _ _ _ _ _ _ _ _ _ _ hC _ hS _ h => ?_) k
  refine lv_idiv (x := Int32.ofInt x) (y := Int32.ofInt y) hC.1 hC.2.1 hd (fun q => hy ((tc12 (hS.hd : okV (vI y)) ⟨by omega, by omega⟩).mp (q.trans (show (0 : Int32) = Int32.ofInt 0 from rfl)))) ?_
  simp only [List.map_cons, cv, vI, i_div, tc1] at h
  exact h
theorem wp_irem {x y : Int} (hd : decode mt.2.1 pc = .ok (.irem, 1)) (hy : y ≠ 0) (k : wp cs mt kf Q (pc + 1) L (vI (i_rem x y) :: S) σ) : wp cs mt kf Q pc L (vI y :: vI x :: S) σ := by
  refine wp_pure (fun _ _ h => okS.cons (v := vI _) (tc8 _) h.tl.tl) (fun _ _ _ _ _ _ _ _ _ _ _ _ _ _ _ _ hC _ hS _ h => ?_) k
  refine lv_irem (x := Int32.ofInt x) (y := Int32.ofInt y) hC.1 hC.2.1 hd (fun q => hy ((tc12 (hS.hd : okV (vI y)) ⟨by omega, by omega⟩).mp (q.trans (show (0 : Int32) = Int32.ofInt 0 from rfl)))) ?_
  simp only [List.map_cons, cv, vI, i_rem, tc1] at h
  exact h
theorem wp_iaddr {x y : Int} (hd : decode mt.2.1 pc = .ok (.iadd, 1)) (hr : -2147483648 ≤ x + y ∧ x + y < 2147483648) (k : wp cs mt kf Q (pc + 1) L (vI (x + y) :: S) σ) : wp cs mt kf Q pc L (vI y :: vI x :: S) σ := wp_iadd hd (by rw [w32_id hr]; exact k)
theorem wp_isubr {x y : Int} (hd : decode mt.2.1 pc = .ok (.isub, 1)) (hr : -2147483648 ≤ x - y ∧ x - y < 2147483648) (k : wp cs mt kf Q (pc + 1) L (vI (x - y) :: S) σ) : wp cs mt kf Q pc L (vI y :: vI x :: S) σ := wp_isub hd (by rw [w32_id hr]; exact k)
theorem wp_imulr {x y : Int} (hd : decode mt.2.1 pc = .ok (.imul, 1)) (hr : -2147483648 ≤ x * y ∧ x * y < 2147483648) (k : wp cs mt kf Q (pc + 1) L (vI (x * y) :: S) σ) : wp cs mt kf Q pc L (vI y :: vI x :: S) σ := wp_imul hd (by rw [w32_id hr]; exact k)
theorem wp_i2b {x : Int} (hd : decode mt.2.1 pc = .ok (.i2b, 1)) (k : wp cs mt kf Q (pc + 1) L (vI (i_2b x) :: S) σ) : wp cs mt kf Q pc L (vI x :: S) σ := by
  refine wp_pure (fun _ _ h => okS.cons (v := vI _) (tc8 _) h.tl) (fun _ _ _ _ _ _ _ _ _ _ _ _ _ _ _ _ hC _ hS _ h => ?_) k
  refine lv_i2b (x := Int32.ofInt x) hC.1 hC.2.1 hd rfl ?_
  simp only [List.map_cons, cv, vI, i_2b, tc1] at h
  exact h
theorem wp_i2l {x : Int} (hd : decode mt.2.1 pc = .ok (.i2l, 1)) (k : wp cs mt kf Q (pc + 1) L (vL x :: S) σ) : wp cs mt kf Q pc L (vI x :: S) σ := by
  refine wp_pure (fun _ _ h => okS.cons (v := vL x) (by have h1 : okV (vI x) := h.hd; exact ⟨by have := h1.1; omega, by have := h1.2; omega⟩) h.tl) (fun _ _ _ _ _ _ _ _ _ _ _ _ _ _ _ _ hC _ hS _ h => ?_) k
  have h1 : okV (vI x) := hS.hd
  refine lv_i2l (x := Int32.ofInt x) (v := Int64.ofInt x) hC.1 hC.2.1 hd (by rw [← tc2 (Int32.ofInt x).toInt64, tc14, tc6 h1]) ?_
  exact h
theorem wp_lcmp {x y : Int} (hd : decode mt.2.1 pc = .ok (.lcmp, 1)) (k : wp cs mt kf Q (pc + 1) L (vI (l_cmp x y) :: S) σ) : wp cs mt kf Q pc L (vL y :: vL x :: S) σ := by
  refine wp_pure (fun _ _ h => okS.cons (v := vI _) (by unfold l_cmp okV; dsimp only; split; omega; split <;> omega) h.tl.tl) (fun _ _ _ _ _ _ _ _ _ _ _ _ _ _ _ _ hC _ hS _ h => ?_) k
  have h1 : okV (vL y) := hS.hd
  have h2 : okV (vL x) := hS.tl.hd
  refine W.lcmp (x := Int64.ofInt x) (y := Int64.ofInt y) hC.1 hC.2.1 hd ?_
  have e : lg_cmp (Int64.ofInt x) (Int64.ofInt y) = Int32.ofInt (l_cmp x y) := by
    have a1 : Int64.ofInt y < Int64.ofInt x ↔ y < x := by rw [Int64.lt_iff_toInt_lt, tc7 h1, tc7 h2]
    have a2 : Int64.ofInt x = Int64.ofInt y ↔ x = y := by rw [← Int64.toInt_inj, tc7 h1, tc7 h2]
    unfold lg_cmp l_cmp
    by_cases c1 : y < x
    · simp [a1, c1]
    · by_cases c2 : x = y
      · simp [a1, c1, a2, c2]
      · simp [a1, c1, a2, c2]
  rw [e]
  exact h
theorem wp_land {x y : Int} (hd : decode mt.2.1 pc = .ok (.land, 1)) (k : wp cs mt kf Q (pc + 1) L (vL (l_and x y) :: S) σ) : wp cs mt kf Q pc L (vL y :: vL x :: S) σ := by
  refine wp_pure (fun _ _ h => okS.cons (v := vL _) (tc9 _) h.tl.tl) (fun _ _ _ _ _ _ _ _ _ _ _ _ _ _ _ _ hC _ hS _ h => ?_) k
  refine lv_land (x := Int64.ofInt x) (y := Int64.ofInt y) hC.1 hC.2.1 hd ?_
  simp only [List.map_cons, cv, vL, l_and, tc2] at h
  exact h
theorem wp_lor {x y : Int} (hd : decode mt.2.1 pc = .ok (.lor, 1)) (k : wp cs mt kf Q (pc + 1) L (vL (l_or x y) :: S) σ) : wp cs mt kf Q pc L (vL y :: vL x :: S) σ := by
  refine wp_pure (fun _ _ h => okS.cons (v := vL _) (tc9 _) h.tl.tl) (fun _ _ _ _ _ _ _ _ _ _ _ _ _ _ _ _ hC _ hS _ h => ?_) k
  refine lv_lor (x := Int64.ofInt x) (y := Int64.ofInt y) hC.1 hC.2.1 hd ?_
  simp only [List.map_cons, cv, vL, l_or, tc2] at h
  exact h
theorem wp_lshl {x y : Int} (hd : decode mt.2.1 pc = .ok (.lshl, 1)) (k : wp cs mt kf Q (pc + 1) L (vL (l_shl x y) :: S) σ) : wp cs mt kf Q pc L (vI y :: vL x :: S) σ := by
  refine wp_pure (fun _ _ h => okS.cons (v := vL _) (tc9 _) h.tl.tl) (fun _ _ _ _ _ _ _ _ _ _ _ _ _ _ _ _ hC _ hS _ h => ?_) k
  refine lv_lshl (x := Int64.ofInt x) (y := Int32.ofInt y) hC.1 hC.2.1 hd rfl ?_
  simp only [List.map_cons, cv, vL, l_shl, tc2] at h
  exact h
theorem wp_lshr {x y : Int} (hd : decode mt.2.1 pc = .ok (.lshr, 1)) (k : wp cs mt kf Q (pc + 1) L (vL (l_shr x y) :: S) σ) : wp cs mt kf Q pc L (vI y :: vL x :: S) σ := by
  refine wp_pure (fun _ _ h => okS.cons (v := vL _) (tc9 _) h.tl.tl) (fun _ _ _ _ _ _ _ _ _ _ _ _ _ _ _ _ hC _ hS _ h => ?_) k
  refine lv_lshr (x := Int64.ofInt x) (y := Int32.ofInt y) hC.1 hC.2.1 hd rfl ?_
  simp only [List.map_cons, cv, vL, l_shr, tc2] at h
  exact h
theorem wp_lushr {x y : Int} (hd : decode mt.2.1 pc = .ok (.lushr, 1)) (k : wp cs mt kf Q (pc + 1) L (vL (l_ushr x y) :: S) σ) : wp cs mt kf Q pc L (vI y :: vL x :: S) σ := by
  refine wp_pure (fun _ _ h => okS.cons (v := vL _) (tc9 _) h.tl.tl) (fun _ _ _ _ _ _ _ _ _ _ _ _ _ _ _ _ hC _ hS _ h => ?_) k
  refine lv_lushr (x := Int64.ofInt x) (y := Int32.ofInt y) hC.1 hC.2.1 hd rfl ?_
  simp only [List.map_cons, cv, vL, l_ushr, tc2] at h
  exact h
theorem wp_icmp_eq {x y : Int} {off : Int} {tgt : Nat} (hd : decode mt.2.1 pc = .ok (.if_icmp .eq off, 3)) (ht : (pc : Int) + off = (tgt : Int)) (kt : x = y → wp cs mt kf Q tgt L S σ) (kn : x ≠ y → wp cs mt kf Q (pc + 3) L S σ) : wp cs mt kf Q pc L (vI y :: vI x :: S) σ := by
  intro p l e R s m args below meth c H locs ls k0 hC hR hM hL hS hP hV hl
  have hy : okV (vI y) := hS.hd
  have hx : okV (vI x) := hS.tl.hd
  exact lv_icmp_eq (x := Int32.ofInt x) (y := Int32.ofInt y) hC.1 hC.2.1 hd ht (fun h => kt ((tc12 hx hy).mp h) p l e R s m args below meth c H locs ls k0 hC hR hM hL hS.tl.tl hP hV hl) (fun h => kn (fun q => h ((tc12 hx hy).mpr q)) p l e R s m args below meth c H locs ls k0 hC hR hM hL hS.tl.tl hP hV hl)
theorem wp_if_eq {x : Int} {off : Int} {tgt : Nat} (hd : decode mt.2.1 pc = .ok (.ifCond .eq off, 3)) (ht : (pc : Int) + off = (tgt : Int)) (kt : x = 0 → wp cs mt kf Q tgt L S σ) (kn : x ≠ 0 → wp cs mt kf Q (pc + 3) L S σ) : wp cs mt kf Q pc L (vI x :: S) σ := by
  intro p l e R s m args below meth c H locs ls k0 hC hR hM hL hS hP hV hl
  have hy : -2147483648 ≤ (0 : Int) ∧ (0 : Int) < 2147483648 := by omega
  have hx : okV (vI x) := hS.hd
  exact lv_if_eq (x := Int32.ofInt x) hC.1 hC.2.1 hd ht (fun h => kt ((tc12 hx hy).mp h) p l e R s m args below meth c H locs ls k0 hC hR hM hL hS.tl hP hV hl) (fun h => kn (fun q => h ((tc12 hx hy).mpr q)) p l e R s m args below meth c H locs ls k0 hC hR hM hL hS.tl hP hV hl)
theorem wp_icmp_ne {x y : Int} {off : Int} {tgt : Nat} (hd : decode mt.2.1 pc = .ok (.if_icmp .ne off, 3)) (ht : (pc : Int) + off = (tgt : Int)) (kt : x ≠ y → wp cs mt kf Q tgt L S σ) (kn : x = y → wp cs mt kf Q (pc + 3) L S σ) : wp cs mt kf Q pc L (vI y :: vI x :: S) σ := by
  intro p l e R s m args below meth c H locs ls k0 hC hR hM hL hS hP hV hl
  have hy : okV (vI y) := hS.hd
  have hx : okV (vI x) := hS.tl.hd
  exact lv_icmp_ne (x := Int32.ofInt x) (y := Int32.ofInt y) hC.1 hC.2.1 hd ht (fun h => kt (fun q => h ((tc12 hx hy).mpr q)) p l e R s m args below meth c H locs ls k0 hC hR hM hL hS.tl.tl hP hV hl) (fun h => kn ((tc12 hx hy).mp h) p l e R s m args below meth c H locs ls k0 hC hR hM hL hS.tl.tl hP hV hl)
theorem wp_if_ne {x : Int} {off : Int} {tgt : Nat} (hd : decode mt.2.1 pc = .ok (.ifCond .ne off, 3)) (ht : (pc : Int) + off = (tgt : Int)) (kt : x ≠ 0 → wp cs mt kf Q tgt L S σ) (kn : x = 0 → wp cs mt kf Q (pc + 3) L S σ) : wp cs mt kf Q pc L (vI x :: S) σ := by
  intro p l e R s m args below meth c H locs ls k0 hC hR hM hL hS hP hV hl
  have hy : -2147483648 ≤ (0 : Int) ∧ (0 : Int) < 2147483648 := by omega
  have hx : okV (vI x) := hS.hd
  exact lv_if_ne (x := Int32.ofInt x) hC.1 hC.2.1 hd ht (fun h => kt (fun q => h ((tc12 hx hy).mpr q)) p l e R s m args below meth c H locs ls k0 hC hR hM hL hS.tl hP hV hl) (fun h => kn ((tc12 hx hy).mp h) p l e R s m args below meth c H locs ls k0 hC hR hM hL hS.tl hP hV hl)
theorem wp_icmp_lt {x y : Int} {off : Int} {tgt : Nat} (hd : decode mt.2.1 pc = .ok (.if_icmp .lt off, 3)) (ht : (pc : Int) + off = (tgt : Int)) (kt : x < y → wp cs mt kf Q tgt L S σ) (kn : y ≤ x → wp cs mt kf Q (pc + 3) L S σ) : wp cs mt kf Q pc L (vI y :: vI x :: S) σ := by
  intro p l e R s m args below meth c H locs ls k0 hC hR hM hL hS hP hV hl
  have hy : okV (vI y) := hS.hd
  have hx : okV (vI x) := hS.tl.hd
  exact lv_icmp_lt (x := Int32.ofInt x) (y := Int32.ofInt y) hC.1 hC.2.1 hd ht (fun h => kt ((tc10 hx hy).mp h) p l e R s m args below meth c H locs ls k0 hC hR hM hL hS.tl.tl hP hV hl) (fun h => kn (Int.not_lt.mp (fun q => h ((tc10 hx hy).mpr q))) p l e R s m args below meth c H locs ls k0 hC hR hM hL hS.tl.tl hP hV hl)
theorem wp_if_lt {x : Int} {off : Int} {tgt : Nat} (hd : decode mt.2.1 pc = .ok (.ifCond .lt off, 3)) (ht : (pc : Int) + off = (tgt : Int)) (kt : x < 0 → wp cs mt kf Q tgt L S σ) (kn : 0 ≤ x → wp cs mt kf Q (pc + 3) L S σ) : wp cs mt kf Q pc L (vI x :: S) σ := by
  intro p l e R s m args below meth c H locs ls k0 hC hR hM hL hS hP hV hl
  have hy : -2147483648 ≤ (0 : Int) ∧ (0 : Int) < 2147483648 := by omega
  have hx : okV (vI x) := hS.hd
  exact lv_if_lt (x := Int32.ofInt x) hC.1 hC.2.1 hd ht (fun h => kt ((tc10 hx hy).mp h) p l e R s m args below meth c H locs ls k0 hC hR hM hL hS.tl hP hV hl) (fun h => kn (Int.not_lt.mp (fun q => h ((tc10 hx hy).mpr q))) p l e R s m args below meth c H locs ls k0 hC hR hM hL hS.tl hP hV hl)
theorem wp_icmp_ge {x y : Int} {off : Int} {tgt : Nat} (hd : decode mt.2.1 pc = .ok (.if_icmp .ge off, 3)) (ht : (pc : Int) + off = (tgt : Int)) (kt : y ≤ x → wp cs mt kf Q tgt L S σ) (kn : x < y → wp cs mt kf Q (pc + 3) L S σ) : wp cs mt kf Q pc L (vI y :: vI x :: S) σ := by
  intro p l e R s m args below meth c H locs ls k0 hC hR hM hL hS hP hV hl
  have hy : okV (vI y) := hS.hd
  have hx : okV (vI x) := hS.tl.hd
  exact lv_icmp_ge (x := Int32.ofInt x) (y := Int32.ofInt y) hC.1 hC.2.1 hd ht (fun h => kt ((tc11 hy hx).mp h) p l e R s m args below meth c H locs ls k0 hC hR hM hL hS.tl.tl hP hV hl) (fun h => kn (Int.not_le.mp (fun q => h ((tc11 hy hx).mpr q))) p l e R s m args below meth c H locs ls k0 hC hR hM hL hS.tl.tl hP hV hl)
theorem wp_if_ge {x : Int} {off : Int} {tgt : Nat} (hd : decode mt.2.1 pc = .ok (.ifCond .ge off, 3)) (ht : (pc : Int) + off = (tgt : Int)) (kt : 0 ≤ x → wp cs mt kf Q tgt L S σ) (kn : x < 0 → wp cs mt kf Q (pc + 3) L S σ) : wp cs mt kf Q pc L (vI x :: S) σ := by
  intro p l e R s m args below meth c H locs ls k0 hC hR hM hL hS hP hV hl
  have hy : -2147483648 ≤ (0 : Int) ∧ (0 : Int) < 2147483648 := by omega
  have hx : okV (vI x) := hS.hd
  exact lv_if_ge (x := Int32.ofInt x) hC.1 hC.2.1 hd ht (fun h => kt ((tc11 hy hx).mp h) p l e R s m args below meth c H locs ls k0 hC hR hM hL hS.tl hP hV hl) (fun h => kn (Int.not_le.mp (fun q => h ((tc11 hy hx).mpr q))) p l e R s m args below meth c H locs ls k0 hC hR hM hL hS.tl hP hV hl)
theorem wp_icmp_gt {x y : Int} {off : Int} {tgt : Nat} (hd : decode mt.2.1 pc = .ok (.if_icmp .gt off, 3)) (ht : (pc : Int) + off = (tgt : Int)) (kt : y < x → wp cs mt kf Q tgt L S σ) (kn : x ≤ y → wp cs mt kf Q (pc + 3) L S σ) : wp cs mt kf Q pc L (vI y :: vI x :: S) σ := by
  intro p l e R s m args below meth c H locs ls k0 hC hR hM hL hS hP hV hl
  have hy : okV (vI y) := hS.hd
  have hx : okV (vI x) := hS.tl.hd
  exact lv_icmp_gt (x := Int32.ofInt x) (y := Int32.ofInt y) hC.1 hC.2.1 hd ht (fun h => kt ((tc10 hy hx).mp h) p l e R s m args below meth c H locs ls k0 hC hR hM hL hS.tl.tl hP hV hl) (fun h => kn (Int.not_lt.mp (fun q => h ((tc10 hy hx).mpr q))) p l e R s m args below meth c H locs ls k0 hC hR hM hL hS.tl.tl hP hV hl)
theorem wp_if_gt {x : Int} {off : Int} {tgt : Nat} (hd : decode mt.2.1 pc = .ok (.ifCond .gt off, 3)) (ht : (pc : Int) + off = (tgt : Int)) (kt : 0 < x → wp cs mt kf Q tgt L S σ) (kn : x ≤ 0 → wp cs mt kf Q (pc + 3) L S σ) : wp cs mt kf Q pc L (vI x :: S) σ := by
  intro p l e R s m args below meth c H locs ls k0 hC hR hM hL hS hP hV hl
  have hy : -2147483648 ≤ (0 : Int) ∧ (0 : Int) < 2147483648 := by omega
  have hx : okV (vI x) := hS.hd
  exact lv_if_gt (x := Int32.ofInt x) hC.1 hC.2.1 hd ht (fun h => kt ((tc10 hy hx).mp h) p l e R s m args below meth c H locs ls k0 hC hR hM hL hS.tl hP hV hl) (fun h => kn (Int.not_lt.mp (fun q => h ((tc10 hy hx).mpr q))) p l e R s m args below meth c H locs ls k0 hC hR hM hL hS.tl hP hV hl)
theorem wp_icmp_le {x y : Int} {off : Int} {tgt : Nat} (hd : decode mt.2.1 pc = .ok (.if_icmp .le off, 3)) (ht : (pc : Int) + off = (tgt : Int)) (kt : x ≤ y → wp cs mt kf Q tgt L S σ) (kn : y < x → wp cs mt kf Q (pc + 3) L S σ) : wp cs mt kf Q pc L (vI y :: vI x :: S) σ := by
  intro p l e R s m args below meth c H locs ls k0 hC hR hM hL hS hP hV hl
  have hy : okV (vI y) := hS.hd
  have hx : okV (vI x) := hS.tl.hd
  exact lv_icmp_le (x := Int32.ofInt x) (y := Int32.ofInt y) hC.1 hC.2.1 hd ht (fun h => kt ((tc11 hx hy).mp h) p l e R s m args below meth c H locs ls k0 hC hR hM hL hS.tl.tl hP hV hl) (fun h => kn (Int.not_le.mp (fun q => h ((tc11 hx hy).mpr q))) p l e R s m args below meth c H locs ls k0 hC hR hM hL hS.tl.tl hP hV hl)
theorem wp_if_le {x : Int} {off : Int} {tgt : Nat} (hd : decode mt.2.1 pc = .ok (.ifCond .le off, 3)) (ht : (pc : Int) + off = (tgt : Int)) (kt : x ≤ 0 → wp cs mt kf Q tgt L S σ) (kn : 0 < x → wp cs mt kf Q (pc + 3) L S σ) : wp cs mt kf Q pc L (vI x :: S) σ := by
  intro p l e R s m args below meth c H locs ls k0 hC hR hM hL hS hP hV hl
  have hy : -2147483648 ≤ (0 : Int) ∧ (0 : Int) < 2147483648 := by omega
  have hx : okV (vI x) := hS.hd
  exact lv_if_le (x := Int32.ofInt x) hC.1 hC.2.1 hd ht (fun h => kt ((tc11 hx hy).mp h) p l e R s m args below meth c H locs ls k0 hC hR hM hL hS.tl hP hV hl) (fun h => kn (Int.not_le.mp (fun q => h ((tc11 hx hy).mpr q))) p l e R s m args below meth c H locs ls k0 hC hR hM hL hS.tl hP hV hl)
theorem wp_goto {off : Int} {tgt : Nat} (hd : decode mt.2.1 pc = .ok (.goto off, 3)) (ht : (pc : Int) + off = (tgt : Int)) (k : wp cs mt kf Q tgt L S σ) : wp cs mt kf Q pc L S σ :=
  wp_pure (fun _ _ h => h) (fun _ _ _ _ _ _ _ _ _ _ _ _ _ _ _ _ hC _ _ _ h => lv_goto hC.1 hC.2.1 hd ht h) k
theorem wp_tableOut {dflt lo hi : Int} {offs : Array Int} {len : Nat} {x : Int} {tgt : Nat} (hd : decode mt.2.1 pc = .ok (.tableswitch dflt lo hi offs, len)) (h : x < lo ∨ hi < x) (ht : (pc : Int) + dflt = (tgt : Int)) (k : wp cs mt kf Q tgt L S σ) : wp cs mt kf Q pc L (vI x :: S) σ :=
  wp_pure (fun _ _ h => h.tl) (fun _ _ _ _ _ _ _ _ _ _ _ _ _ _ _ _ hC _ hS _ hh => lv_tableOut (x := Int32.ofInt x) hC.1 hC.2.1 hd (by rw [tc6 (hS.hd : okV (vI x))]; exact h) ht hh) k
theorem wp_tableIn {dflt lo hi : Int} {offs : Array Int} {len : Nat} {x : Int} {off : Int} {tgt : Nat} (hd : decode mt.2.1 pc = .ok (.tableswitch dflt lo hi offs, len)) (h : lo ≤ x ∧ x ≤ hi) (ho : offs[(x - lo).toNat]? = some off) (ht : (pc : Int) + off = (tgt : Int)) (k : wp cs mt kf Q tgt L S σ) : wp cs mt kf Q pc L (vI x :: S) σ :=
  wp_pure (fun _ _ h => h.tl) (fun _ _ _ _ _ _ _ _ _ _ _ _ _ _ _ _ hC _ hS _ hh => lv_tableIn (x := Int32.ofInt x) hC.1 hC.2.1 hd (by rw [tc6 (hS.hd : okV (vI x))]; omega) (by rw [tc6 (hS.hd : okV (vI x))]; omega) (by rw [tc6 (hS.hd : okV (vI x))]; exact ho) ht hh) k
theorem wp_lookup {dflt : Int} {ps : Array (Int × Int)} {len : Nat} {x : Int} {off : Int} {tgt : Nat} (hd : decode mt.2.1 pc = .ok (.lookupswitch dflt ps, len)) (hp : (ps.toList.zip (ps.toList.drop 1)).all (fun (a, next) => a.1 < next.1) = true) (ho : Op.lookupswitch.offset ps.toList dflt x = off) (ht : (pc : Int) + off = (tgt : Int)) (k : wp cs mt kf Q tgt L S σ) : wp cs mt kf Q pc L (vI x :: S) σ :=
  wp_pure (fun _ _ h => h.tl) (fun _ _ _ _ _ _ _ _ _ _ _ _ _ _ _ _ hC _ hS _ hh => lv_lookup (x := Int32.ofInt x) hC.1 hC.2.1 hd hp (by rw [tc6 (hS.hd : okV (vI x))]; exact ho) ht hh) k
theorem wp_istore_n {n : Fin 4} {i : Nat} {x : Int} (hd : decode mt.2.1 pc = .ok (.istore_n n, 1)) (hi : (n : Nat) = i) (hn : i < mt.2.2.1) (k : wp cs mt kf Q (pc + 1) (stL L i (vI x)) S σ) : wp cs mt kf Q pc L (vI x :: S) σ :=
  fun p l e R s m args below meth c H locs ls k0 hC hR hM hL hS hP hV hl => lv_istore_n (x := Int32.ofInt x) hC.1 hC.2.1 hd hi hl.has hn rfl (fun ls' hl' => k p l e R s m args below meth c H locs ls' k0 hC hR hM (hL.st hS.hd) hS.tl hP hV (Lok.st (v := vI x) hC.fmt hl'))
theorem wp_istore {i : Nat} {x : Int} (hd : decode mt.2.1 pc = .ok (.istore i, 2)) (hn : i < mt.2.2.1) (k : wp cs mt kf Q (pc + 2) (stL L i (vI x)) S σ) : wp cs mt kf Q pc L (vI x :: S) σ :=
  fun p l e R s m args below meth c H locs ls k0 hC hR hM hL hS hP hV hl => lv_istore (x := Int32.ofInt x) hC.1 hC.2.1 hd hl.has hn rfl (fun ls' hl' => k p l e R s m args below meth c H locs ls' k0 hC hR hM (hL.st hS.hd) hS.tl hP hV (Lok.st (v := vI x) hC.fmt hl'))
theorem wp_lstore_n {n : Fin 4} {i : Nat} {x : Int} (hd : decode mt.2.1 pc = .ok (.lstore_n n, 1)) (hi : (n : Nat) = i) (hn : i + 1 < mt.2.2.1) (k : wp cs mt kf Q (pc + 1) (stLL L i (vL x)) S σ) : wp cs mt kf Q pc L (vL x :: S) σ :=
  fun p l e R s m args below meth c H locs ls k0 hC hR hM hL hS hP hV hl => lv_lstore_n (x := Int64.ofInt x) hC.1 hC.2.1 hd hi hl.has hn rfl (fun ls' hl' => k p l e R s m args below meth c H locs ls' k0 hC hR hM (hL.stt hS.hd) hS.tl hP hV (Lok.stt (v := vL x) hC.fmt hl'))
theorem wp_lstore {i : Nat} {x : Int} (hd : decode mt.2.1 pc = .ok (.lstore i, 2)) (hn : i + 1 < mt.2.2.1) (k : wp cs mt kf Q (pc + 2) (stLL L i (vL x)) S σ) : wp cs mt kf Q pc L (vL x :: S) σ :=
  fun p l e R s m args below meth c H locs ls k0 hC hR hM hL hS hP hV hl => lv_lstore (x := Int64.ofInt x) hC.1 hC.2.1 hd hl.has hn rfl (fun ls' hl' => k p l e R s m args below meth c H locs ls' k0 hC hR hM (hL.stt hS.hd) hS.tl hP hV (Lok.stt (v := vL x) hC.fmt hl'))
theorem wp_astore_n {n : Fin 4} {i : Nat} {r : Nat} (hd : decode mt.2.1 pc = .ok (.astore_n n, 1)) (hi : (n : Nat) = i) (hr : nn r) (hn : i < mt.2.2.1) (k : wp cs mt kf Q (pc + 1) (stL L i (vR r)) S σ) : wp cs mt kf Q pc L (vR r :: S) σ := by
  intro p l e R s m args below meth c H locs ls k0 hC hR hM hL hS hP hV hl
  obtain ⟨a, ha⟩ := cr_nn (cs := cs) hr
  have e1 : cv cs (vR r) = .ref a := ha
  rw [List.map_cons, e1]
  exact lv_astore_n hC.1 hC.2.1 hd hi hl.has hn rfl (fun ls' hl' => k p l e R s m args below meth c H locs ls' k0 hC hR hM (hL.st hS.hd) hS.tl hP hV (Lok.st (v := vR r) hC.fmt (by rw [e1]; exact hl')))
theorem wp_astore {i : Nat} {r : Nat} (hd : decode mt.2.1 pc = .ok (.astore i, 2)) (hr : nn r) (hn : i < mt.2.2.1) (k : wp cs mt kf Q (pc + 2) (stL L i (vR r)) S σ) : wp cs mt kf Q pc L (vR r :: S) σ := by
  intro p l e R s m args below meth c H locs ls k0 hC hR hM hL hS hP hV hl
  obtain ⟨a, ha⟩ := cr_nn (cs := cs) hr
  have e1 : cv cs (vR r) = .ref a := ha
  rw [List.map_cons, e1]
  exact lv_astore hC.1 hC.2.1 hd hl.has hn rfl (fun ls' hl' => k p l e R s m args below meth c H locs ls' k0 hC hR hM (hL.st hS.hd) hS.tl hP hV (Lok.st (v := vR r) hC.fmt (by rw [e1]; exact hl')))
theorem wp_iinc {i : Nat} {n x : Int} (hd : decode mt.2.1 pc = .ok (.iinc i n, 3)) (hl0 : L[i]? = some (some (vI x))) (hn : i < mt.2.2.1) (k : wp cs mt kf Q (pc + 3) (stL L i (vI (w32 (x + n)))) S σ) : wp cs mt kf Q pc L S σ := by
  intro p l e R s m args below meth c H locs ls k0 hC hR hM hL hS hP hV hl
  have hm : (i, Value.int (Int32.ofInt x)) ∈ lvs cs L := lvs_mem.mpr ⟨vI x, hl0, rfl⟩
  obtain ⟨j, hj⟩ := List.getElem?_of_mem hm
  exact lv_iinc (x := Int32.ofInt x) (v := Int32.ofInt (w32 (x + n))) hC.1 hC.2.1 hd hl.has hj (by rw [tc3, w32, tc1]) hn rfl (fun ls' hl' => k p l e R s m args below meth c H locs ls' k0 hC hR hM (hL.st (v := vI _) (tc8 _)) hS hP hV (Lok.st (v := vI _) hC.fmt hl'))
theorem wp_iincr {i : Nat} {n x : Int} (hd : decode mt.2.1 pc = .ok (.iinc i n, 3)) (hl0 : L[i]? = some (some (vI x))) (hn : i < mt.2.2.1) (hr : -2147483648 ≤ x + n ∧ x + n < 2147483648) (k : wp cs mt kf Q (pc + 3) (stL L i (vI (x + n))) S σ) : wp cs mt kf Q pc L S σ := wp_iinc hd hl0 hn (by rw [w32_id hr]; exact k)
end ARITH
