def leL : Lc → Lc → Prop
  | [], _ => True
  | none :: t, _ :: u => leL t u
  | some v :: t, o :: u => o = some v ∧ leL t u
  | _ :: _, [] => False
theorem leL_get : ∀ (L' L : Lc), leL L' L → ∀ (i : Nat) (v : AV), L'[i]? = some (some v) → L[i]? = some (some v)
  | [], _, _, i, v, h => by simp at h
  | none :: t, [], hl, _, _, _ => by simp [leL] at hl
  | some w :: t, [], hl, _, _, _ => by simp [leL] at hl
  | none :: t, o :: u, hl, 0, v, h => by simp at h
  | none :: t, o :: u, hl, i + 1, v, h => by simpa using leL_get t u hl i v (by simpa using h)
  | some w :: t, o :: u, hl, 0, v, h => by
    simp only [List.getElem?_cons_zero, Option.some.injEq] at h ⊢
    rw [hl.1, h]
  | some w :: t, o :: u, hl, i + 1, v, h => by simpa using leL_get t u hl.2 i v (by simpa using h)
/-- fewer known locals -/
theorem wp_forget {cs : Cs} {mt : Mth} {kf : Kd} {Q : Option AV → Mm → Prop} {pc : Nat} {L L' : Lc} {S : List AV} {σ : St} (hl : leL L' L) (k : wp cs mt kf Q pc L' S σ) : wp cs mt kf Q pc L S σ :=
  fun p l e R s m args below meth c H locs ls k0 hC hR hM hL hS hP hV hk => k p l e R s m args below meth c H locs ls k0 hC hR hM (fun i v h => hL i v (leL_get _ _ hl i v h)) hS hP hV ⟨hk.1, hk.2.1, fun i v h => hk.2.2 i v (leL_get _ _ hl i v h)⟩
theorem i_2b_id {c : Int} (h : -128 ≤ c ∧ c < 128) : i_2b c = c := by
  unfold i_2b
  rw [nar_byte h, tc6 (by omega)]
