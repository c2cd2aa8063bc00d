section MM
variable {cs : Cs} {mt : Mth} {kf : Kd} {Q : Option AV → Mm → Prop} {pc : Nat} {L : Lc} {S : List AV} {σ : St}
theorem wp_mmax {idx : Nat} {x y : Int} (hd : decode mt.2.1 pc = .ok (.invokestatic idx, 3)) (hl : Cond.methodLink mt.1.cls idx Lib.Math.max.name ∈ lw_tbl) (hcat : catS S ≤ 8) (hfr : 1 ≤ mt.2.2.2.2.1) (hlo : 21 ≤ mt.2.2.2.2.2) (hkf : σ.1.length ≤ kf.length ∧ slo σ.1 ≤ slo kf) (k : wp cs mt kf Q (pc + 3) L (vI (if x < y then y else x) :: S) σ) : wp cs mt kf Q pc L (vI y :: vI x :: S) σ := by
  intro p l e R s m args below meth c H locs ls k0 hC hR hM hL hS hP hV hl'
  have hg := hC.2.2.2.2.2.2.2.1
  have f1 := hC.2.2.2.2.2.2.2.2.2.1
  have f2 := hC.2.2.2.2.2.2.2.2.2.2.1
  have hy : okV (vI y) := hS.hd
  have hx : okV (vI x) := hS.tl.hd
  obtain ⟨r1, r2, r3, r4, r5⟩ := id hR
  refine va_mmax (x := Int32.ofInt x) (y := Int32.ofInt y) hC.1 hC.2.1 (hC.2.2.1.trans hl'.1.symm) hC.2.2.2.2.1 (hg _ (gw_mem hl rfl)) (hg _ (gw_mem mm_max1 rfl)) (hg _ (gw_mem mm_3 rfl)) (hg _ (gw_mem mm_max2 rfl)) (Nat.le_trans hfr f1) (by rw [catS_eq hC.fmt]; omega) (by omega) (by omega) hd ?_
  have := k p l e R s m args below meth c H locs ls k0 hC hR hM hL (okS.cons (v := vI _) (by show okV (vI _); by_cases h : x < y <;> simp only [h, if_true, if_false] <;> assumption) hS.tl.tl) hP hV hl'
  have e1 : (if Int32.ofInt x < Int32.ofInt y then Int32.ofInt y else Int32.ofInt x) = Int32.ofInt (if x < y then y else x) := by
    by_cases h : x < y
    · rw [if_pos h, if_pos ((tc10 hx hy).mpr h)]
    · rw [if_neg h, if_neg (fun q => h ((tc10 hx hy).mp q))]
  rw [e1]
  exact this
theorem wp_mmin {idx : Nat} {x y : Int} (hd : decode mt.2.1 pc = .ok (.invokestatic idx, 3)) (hl : Cond.methodLink mt.1.cls idx Lib.Math.min.name ∈ lw_tbl) (hcat : catS S ≤ 8) (hfr : 1 ≤ mt.2.2.2.2.1) (hlo : 21 ≤ mt.2.2.2.2.2) (hkf : σ.1.length ≤ kf.length ∧ slo σ.1 ≤ slo kf) (k : wp cs mt kf Q (pc + 3) L (vI (if y < x then y else x) :: S) σ) : wp cs mt kf Q pc L (vI y :: vI x :: S) σ := by
  intro p l e R s m args below meth c H locs ls k0 hC hR hM hL hS hP hV hl'
  have hg := hC.2.2.2.2.2.2.2.1
  have f1 := hC.2.2.2.2.2.2.2.2.2.1
  have f2 := hC.2.2.2.2.2.2.2.2.2.2.1
  have hy : okV (vI y) := hS.hd
  have hx : okV (vI x) := hS.tl.hd
  obtain ⟨r1, r2, r3, r4, r5⟩ := id hR
  refine va_mmin (x := Int32.ofInt x) (y := Int32.ofInt y) hC.1 hC.2.1 (hC.2.2.1.trans hl'.1.symm) hC.2.2.2.2.1 (hg _ (gw_mem hl rfl)) (hg _ (gw_mem mm_min1 rfl)) (hg _ (gw_mem mm_3 rfl)) (hg _ (gw_mem mm_min2 rfl)) (Nat.le_trans hfr f1) (by rw [catS_eq hC.fmt]; omega) (by omega) (by omega) hd ?_
  have := k p l e R s m args below meth c H locs ls k0 hC hR hM hL (okS.cons (v := vI _) (by show okV (vI _); by_cases h : y < x <;> simp only [h, if_true, if_false] <;> assumption) hS.tl.tl) hP hV hl'
  have e1 : (if Int32.ofInt y < Int32.ofInt x then Int32.ofInt y else Int32.ofInt x) = Int32.ofInt (if y < x then y else x) := by
    by_cases h : y < x
    · rw [if_pos h, if_pos ((tc10 hy hx).mpr h)]
    · rw [if_neg h, if_neg (fun q => h ((tc10 hy hx).mp q))]
  rw [e1]
  exact this
end MM
