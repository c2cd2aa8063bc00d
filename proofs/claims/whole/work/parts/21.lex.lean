/-- a reading that fails (what, where), or goes on -/
abbrev PR (α : Type) : Type := (Int × Int) ⊕ α
def nmF (T : Nat → Int) (n : Int) : Nat → Int → Int
  | 0, h => h
  | k + 1, h => if h < n ∧ isNb (ob T n h) then nmF T n k (h + 1) else h
/-- behind the bytes of a NAME -/
def nme (T : Nat → Int) (n h : Int) : Int := nmF T n (n - h).toNat h
theorem nme_eq (T : Nat → Int) (n h : Int) : nme T n h = if h < n ∧ isNb (ob T n h) then nme T n (h + 1) else h := by
  unfold nme
  by_cases hn : h < n
  · obtain ⟨k, hk⟩ : ∃ k, (n - h).toNat = k + 1 := ⟨(n - h).toNat - 1, by omega⟩
    have h2 : (n - (h + 1)).toNat = k := by omega
    rw [hk, h2]
    rfl
  · have h0 : (n - h).toNat = 0 := by omega
    rw [h0, if_neg (fun q => hn q.1)]
    rfl
theorem nmF_le (T : Nat → Int) (n : Int) : ∀ (k : Nat) (h : Int), h ≤ nmF T n k h ∧ nmF T n k h ≤ h + k ∧ (h ≤ n → nmF T n k h ≤ n)
  | 0, h => by simp [nmF]
  | k + 1, h => by
    unfold nmF
    split
    · have := nmF_le T n k (h + 1)
      omega
    · omega
theorem nme_le (T : Nat → Int) (n h : Int) : h ≤ nme T n h ∧ (h ≤ n → nme T n h ≤ n) := ⟨(nmF_le T n _ h).1, (nmF_le T n _ h).2.2⟩
theorem skF_le (T : Nat → Int) (n : Int) : ∀ (k : Nat) (h : Int), h ≤ skF T n k h ∧ (h ≤ n → skF T n k h ≤ n)
  | 0, h => by simp [skF]
  | k + 1, h => by
    unfold skF
    split
    · have := skF_le T n k (h + 1)
      omega
    · omega
theorem sk_le (T : Nat → Int) (n h : Int) : h ≤ sk T n h ∧ (h ≤ n → sk T n h ≤ n) := skF_le T n _ h
/-- a TOKEN (a NAME whose first byte was seen) -/
def tokS (T : Nat → Int) (n h : Int) : PR Int := if nme T n h = h then .inl (-1, h) else if nme T n h - h ≤ 20 then .inr (nme T n h) else .inl (-3, h)
def nmS (T : Nat → Int) (n h : Int) : PR Int := if isNs (ob T n h) then tokS T n h else .inl (-1, h)
/-- a COMMENT behind its beginning -/
def cmF (T : Nat → Int) (n : Int) : Nat → Int → PR Int
  | 0, h => .inl (-1, h)
  | k + 1, h => if h < n then (if stb T n h [45, 45] = true then (if stb T n (h + 2) [62] = true then .inr (h + 2 + 1) else .inl (-1, h + 2)) else if isCh (ob T n h) then cmF T n k (h + 1) else .inl (-1, h)) else .inl (-1, h)
def cmS (T : Nat → Int) (n h : Int) : PR Int := cmF T n (n - h).toNat h
theorem cmS_eq (T : Nat → Int) (n h : Int) : cmS T n h = if h < n then (if stb T n h [45, 45] = true then (if stb T n (h + 2) [62] = true then .inr (h + 2 + 1) else .inl (-1, h + 2)) else if isCh (ob T n h) then cmS T n (h + 1) else .inl (-1, h)) else .inl (-1, h) := by
  unfold cmS
  by_cases hn : h < n
  · obtain ⟨k, hk⟩ : ∃ k, (n - h).toNat = k + 1 := ⟨(n - h).toNat - 1, by omega⟩
    have h2 : (n - (h + 1)).toNat = k := by omega
    rw [hk, h2]
    rfl
  · have h0 : (n - h).toNat = 0 := by omega
    rw [h0, if_neg hn]
    rfl
/-- (S) and COMMENTS, at most k of them -/
def mcF (T : Nat → Int) (n : Int) : Nat → Int → PR Int
  | 0, h => .inr h
  | k + 1, h => if stb T n (sk T n h) [60, 33, 45, 45] = true then (match cmS T n (sk T n h + 4) with
      | .inl f => .inl f
      | .inr h' => mcF T n k h') else .inr (sk T n h)
def mcS (T : Nat → Int) (n h : Int) : PR Int := mcF T n (n + 1).toNat h
section P21
variable {cs : Cs} {Q : Option AV → Mm → Prop} {MI ML : Nat → Nat → Int} {d e nw th : Nat} {h nf nl ft fa : Int}
theorem dX1_take_0 : decode cX1_take 0 = .ok (.aload_n 0, 1) := by decide +kernel
theorem dX1_take_1 : decode cX1_take 1 = .ok (.aload_n 1, 1) := by decide +kernel
theorem dX1_take_2 : decode cX1_take 2 = .ok (.invokevirtual 53, 3) := by decide +kernel
theorem dX1_take_5 : decode cX1_take 5 = .ok (.ifCond .ne 15, 3) := by decide +kernel
theorem dX1_take_8 : decode cX1_take 8 = .ok (.aload_n 0, 1) := by decide +kernel
theorem dX1_take_9 : decode cX1_take 9 = .ok (.iconst (-1), 1) := by decide +kernel
theorem dX1_take_10 : decode cX1_take 10 = .ok (.aload_n 0, 1) := by decide +kernel
theorem dX1_take_11 : decode cX1_take 11 = .ok (.getfield 19, 3) := by decide +kernel
theorem dX1_take_14 : decode cX1_take 14 = .ok (.invokevirtual 57, 3) := by decide +kernel
theorem dX1_take_17 : decode cX1_take 17 = .ok (.ifCond .eq 7, 3) := by decide +kernel
theorem dX1_take_20 : decode cX1_take 20 = .ok (.iconst 1, 1) := by decide +kernel
theorem dX1_take_21 : decode cX1_take 21 = .ok (.goto 4, 3) := by decide +kernel
theorem dX1_take_24 : decode cX1_take 24 = .ok (.iconst 0, 1) := by decide +kernel
theorem dX1_take_25 : decode cX1_take 25 = .ok (.ireturn, 1) := by decide +kernel
theorem w_X1_take {k : Nat} (hk : k < strB.length) (hs0 : 0 ≤ MI 2 1) (hsz : MI 2 1 ≤ 6000) (hh : 0 ≤ h) (hT : stb (MI 1) (MI 2 1) h (sB k) = true → Q (some (vI 1)) (Mc MI ML d e nw th (h + sl k) nf nl ft fa)) (hF : stb (MI 1) (MI 2 1) h (sB k) = false → Q (some (vI 0)) (Mc MI ML d e nw th h nf nl (-1) h)) : wp cs mX1_take KD Q 0 (padL [vR 2, vR ((1000003 + k))] 2) [] (KD, Mc MI ML d e nw th h nf nl ft fa) := by
  refine wp_L (L' := [some (vR 2), some (vR ((1000003 + k)))]) rfl ?_
  refine wp_aload_n dX1_take_0 rfl rfl (by first | exact Or.inl (by decide) | exact Or.inl (by omega) | exact Or.inr (by decide) | exact Or.inr (by omega)) ?_
  refine wp_aload_n dX1_take_1 rfl rfl (by first | exact Or.inl (by decide) | exact Or.inl (by omega) | exact Or.inr (by decide) | exact Or.inr (by omega)) ?_
  refine wp_cVq (n := 1) (mt' := mX1_takeIf) (as := [vR ((1000003 + k))]) (rest := []) (fun r M' => (stb (MI 1) (MI 2 1) h (sB k) = true ∧ r = some (vI 1) ∧ M' = Mc MI ML d e nw th (h + sl k) nf nl ft fa) ∨ (stb (MI 1) (MI 2 1) h (sB k) = false ∧ r = some (vI 0) ∧ M' = Mc MI ML d e nw th h nf nl ft fa)) dX1_take_2 lX1_53 kX1_takeIf vX1_takeIf (by decide) (by decide +kernel) rfl (Nat.le_of_ble_eq_true rfl) (by decide) rfl rfl rfl (Nat.le_of_ble_eq_true rfl) (fun hM hS => w_X1_takeIf hk hs0 hsz hh (fun hs => Or.inl ⟨hs, rfl, rfl⟩) (fun hs => Or.inr ⟨hs, rfl, rfl⟩)) (fun r M' hq hM => ?_)
  rcases hq with ⟨hs, rfl, rfl⟩ | ⟨hs, rfl, rfl⟩
  · refine wp_if_ne (tgt := 20) dX1_take_5 (by decide) (fun _ => ?_) (fun q => absurd q (by decide))
    refine wp_iconst dX1_take_20 (by decide) ?_
    refine wp_goto (tgt := 25) dX1_take_21 (by decide) ?_
    exact wp_zret dX1_take_25 rfl (Or.inr rfl) (fun _ => hT hs)
  · refine wp_if_ne (tgt := 20) dX1_take_5 (by decide) (fun q => absurd q (by decide)) (fun _ => ?_)
    refine wp_aload_n dX1_take_8 rfl rfl (by first | exact Or.inl (by decide) | exact Or.inl (by omega) | exact Or.inr (by decide) | exact Or.inr (by omega)) ?_
    refine wp_iconst dX1_take_9 (by decide) ?_
    refine wp_aload_n dX1_take_10 rfl rfl (by first | exact Or.inl (by decide) | exact Or.inl (by omega) | exact Or.inr (by decide) | exact Or.inr (by omega)) ?_
    refine wp_getI dX1_take_11 fX1_19 rfl (by decide) ?_
    refine wp_topI (x' := h) rfl ?_
    refine wp_cV (n := 2) (mt' := mX1_refuse) (as := [vI ((-1)), vI h]) (rest := []) (some (vI 0)) ((cu MI h nf nl (-1) h), ML, (GR d e nw th 1)) dX1_take_14 lX1_57 kX1_refuse vX1_refuse (by decide) (by decide +kernel) rfl (Nat.le_of_ble_eq_true rfl) (by decide) rfl rfl rfl (Nat.le_of_ble_eq_true rfl) (fun hM hS Q' hq => w_X1_refuse hq) (fun hM => ?_)
    refine wp_if_eq (tgt := 24) dX1_take_17 (by decide) (fun _ => ?_) (fun q => absurd q (by decide))
    refine wp_pc (pc' := 24) rfl ?_
    refine wp_iconst dX1_take_24 (by decide) ?_
    exact wp_zret dX1_take_25 rfl (Or.inl rfl) (fun _ => hF hs)
theorem dX1_needEnd_0 : decode cX1_needEnd 0 = .ok (.aload_n 0, 1) := by decide +kernel
theorem dX1_needEnd_1 : decode cX1_needEnd 1 = .ok (.getfield 19, 3) := by decide +kernel
theorem dX1_needEnd_4 : decode cX1_needEnd 4 = .ok (.aload_n 0, 1) := by decide +kernel
theorem dX1_needEnd_5 : decode cX1_needEnd 5 = .ok (.getfield 15, 3) := by decide +kernel
theorem dX1_needEnd_8 : decode cX1_needEnd 8 = .ok (.if_icmp .ge 15, 3) := by decide +kernel
theorem dX1_needEnd_11 : decode cX1_needEnd 11 = .ok (.aload_n 0, 1) := by decide +kernel
theorem dX1_needEnd_12 : decode cX1_needEnd 12 = .ok (.iconst (-1), 1) := by decide +kernel
theorem dX1_needEnd_13 : decode cX1_needEnd 13 = .ok (.aload_n 0, 1) := by decide +kernel
theorem dX1_needEnd_14 : decode cX1_needEnd 14 = .ok (.getfield 19, 3) := by decide +kernel
theorem dX1_needEnd_17 : decode cX1_needEnd 17 = .ok (.invokevirtual 57, 3) := by decide +kernel
theorem dX1_needEnd_20 : decode cX1_needEnd 20 = .ok (.ifCond .eq 7, 3) := by decide +kernel
theorem dX1_needEnd_23 : decode cX1_needEnd 23 = .ok (.iconst 1, 1) := by decide +kernel
theorem dX1_needEnd_24 : decode cX1_needEnd 24 = .ok (.goto 4, 3) := by decide +kernel
theorem dX1_needEnd_27 : decode cX1_needEnd 27 = .ok (.iconst 0, 1) := by decide +kernel
theorem dX1_needEnd_28 : decode cX1_needEnd 28 = .ok (.ireturn, 1) := by decide +kernel
theorem w_X1_needEnd (hs0 : 0 ≤ MI 2 1) (hsz : MI 2 1 ≤ 6000) (hh : 0 ≤ h) (hT : MI 2 1 ≤ h → Q (some (vI 1)) (Mc MI ML d e nw th h nf nl ft fa)) (hF : h < MI 2 1 → Q (some (vI 0)) (Mc MI ML d e nw th h nf nl (-1) h)) : wp cs mX1_needEnd KD Q 0 (padL [vR 2] 1) [] (KD, Mc MI ML d e nw th h nf nl ft fa) := by
  refine wp_L (L' := [some (vR 2)]) rfl ?_
  refine wp_aload_n dX1_needEnd_0 rfl rfl (by first | exact Or.inl (by decide) | exact Or.inl (by omega) | exact Or.inr (by decide) | exact Or.inr (by omega)) ?_
  refine wp_getI dX1_needEnd_1 fX1_19 rfl (by decide) ?_
  refine wp_topI (x' := h) rfl ?_
  refine wp_aload_n dX1_needEnd_4 rfl rfl (by first | exact Or.inl (by decide) | exact Or.inl (by omega) | exact Or.inr (by decide) | exact Or.inr (by omega)) ?_
  refine wp_getI dX1_needEnd_5 fX1_15 rfl (by decide) ?_
  refine wp_topI (x' := (MI 2 1)) rfl ?_
  refine wp_icmp_ge (tgt := 23) dX1_needEnd_8 (by decide) (fun h8 => ?_) (fun h8 => ?_)
  · refine wp_iconst dX1_needEnd_23 (by decide) ?_
    refine wp_goto (tgt := 28) dX1_needEnd_24 (by decide) ?_
    exact wp_zret dX1_needEnd_28 rfl (Or.inr rfl) (fun _ => hT (by first | assumption | omega))
  · refine wp_aload_n dX1_needEnd_11 rfl rfl (by first | exact Or.inl (by decide) | exact Or.inl (by omega) | exact Or.inr (by decide) | exact Or.inr (by omega)) ?_
    refine wp_iconst dX1_needEnd_12 (by decide) ?_
    refine wp_aload_n dX1_needEnd_13 rfl rfl (by first | exact Or.inl (by decide) | exact Or.inl (by omega) | exact Or.inr (by decide) | exact Or.inr (by omega)) ?_
    refine wp_getI dX1_needEnd_14 fX1_19 rfl (by decide) ?_
    refine wp_topI (x' := h) rfl ?_
    refine wp_cV (n := 2) (mt' := mX1_refuse) (as := [vI ((-1)), vI h]) (rest := []) (some (vI 0)) ((cu MI h nf nl (-1) h), ML, (GR d e nw th 1)) dX1_needEnd_17 lX1_57 kX1_refuse vX1_refuse (by decide) (by decide +kernel) rfl (Nat.le_of_ble_eq_true rfl) (by decide) rfl rfl rfl (Nat.le_of_ble_eq_true rfl) (fun hM hS Q' hq => w_X1_refuse hq) (fun hM => ?_)
    refine wp_if_eq (tgt := 27) dX1_needEnd_20 (by decide) (fun _ => ?_) (fun q => absurd q (by decide))
    refine wp_iconst dX1_needEnd_27 (by decide) ?_
    refine wp_pc (pc' := 28) rfl ?_
    exact wp_zret dX1_needEnd_28 rfl (Or.inl rfl) (fun _ => hF (by first | assumption | omega))
theorem dX1_needSpace_0 : decode cX1_needSpace 0 = .ok (.aload_n 0, 1) := by decide +kernel
theorem dX1_needSpace_1 : decode cX1_needSpace 1 = .ok (.invokevirtual 61, 3) := by decide +kernel
theorem dX1_needSpace_4 : decode cX1_needSpace 4 = .ok (.invokestatic 64, 3) := by decide +kernel
theorem dX1_needSpace_7 : decode cX1_needSpace 7 = .ok (.ifCond .ne 13, 3) := by decide +kernel
theorem dX1_needSpace_10 : decode cX1_needSpace 10 = .ok (.aload_n 0, 1) := by decide +kernel
theorem dX1_needSpace_11 : decode cX1_needSpace 11 = .ok (.iconst (-1), 1) := by decide +kernel
theorem dX1_needSpace_12 : decode cX1_needSpace 12 = .ok (.aload_n 0, 1) := by decide +kernel
theorem dX1_needSpace_13 : decode cX1_needSpace 13 = .ok (.getfield 19, 3) := by decide +kernel
theorem dX1_needSpace_16 : decode cX1_needSpace 16 = .ok (.invokevirtual 57, 3) := by decide +kernel
theorem dX1_needSpace_19 : decode cX1_needSpace 19 = .ok (.ireturn, 1) := by decide +kernel
theorem dX1_needSpace_20 : decode cX1_needSpace 20 = .ok (.aload_n 0, 1) := by decide +kernel
theorem dX1_needSpace_21 : decode cX1_needSpace 21 = .ok (.invokevirtual 68, 3) := by decide +kernel
theorem dX1_needSpace_24 : decode cX1_needSpace 24 = .ok (.iconst 1, 1) := by decide +kernel
theorem dX1_needSpace_25 : decode cX1_needSpace 25 = .ok (.ireturn, 1) := by decide +kernel
theorem w_X1_needSpace (hs0 : 0 ≤ MI 2 1) (hsz : MI 2 1 ≤ 6000) (hh : 0 ≤ h) (hT : isSp (ob (MI 1) (MI 2 1) h) → Q (some (vI 1)) (Mc MI ML d e nw th (sk (MI 1) (MI 2 1) h) nf nl ft fa)) (hF : ¬ isSp (ob (MI 1) (MI 2 1) h) → Q (some (vI 0)) (Mc MI ML d e nw th h nf nl (-1) h)) : wp cs mX1_needSpace KD Q 0 (padL [vR 2] 1) [] (KD, Mc MI ML d e nw th h nf nl ft fa) := by
  refine wp_L (L' := [some (vR 2)]) rfl ?_
  refine wp_aload_n dX1_needSpace_0 rfl rfl (by first | exact Or.inl (by decide) | exact Or.inl (by omega) | exact Or.inr (by decide) | exact Or.inr (by omega)) ?_
  refine wp_cV (n := 0) (mt' := mX1_peek) (as := []) (rest := []) (some (vI ((ob (MI 1) (MI 2 1) h)))) ((cu MI h nf nl ft fa), ML, (GR d e nw th 1)) dX1_needSpace_1 lX1_61 kX1_peek vX1_peek (by decide) (by decide +kernel) rfl (Nat.le_of_ble_eq_true rfl) (by decide) rfl rfl rfl (Nat.le_of_ble_eq_true rfl) (fun hM hS Q' hq => w_X1_peek hsz hq) (fun hM => ?_)
  refine wp_cS (n := 1) (mt' := mX1_isSpace) (as := [vI ((ob (MI 1) (MI 2 1) h))]) (rest := []) (some (vI ((bI (isSp (ob (MI 1) (MI 2 1) h)))))) ((cu MI h nf nl ft fa), ML, (GR d e nw th 1)) dX1_needSpace_4 lX1_64 kX1_isSpace vX1_isSpace (by decide) (by decide +kernel) rfl (Nat.le_of_ble_eq_true rfl) rfl (Nat.le_of_ble_eq_true rfl) (fun hM hS Q' hq => w_X1_isSpace hq) (fun hM => ?_)
  by_cases h4 : isSp (ob (MI 1) (MI 2 1) h)
  · refine wp_topI (x' := 1) (if_pos h4) ?_
    refine wp_if_ne (tgt := 20) dX1_needSpace_7 (by decide) (fun _ => ?_) (fun q => absurd q (by decide))
    refine wp_aload_n dX1_needSpace_20 rfl rfl (by first | exact Or.inl (by decide) | exact Or.inl (by omega) | exact Or.inr (by decide) | exact Or.inr (by omega)) ?_
    refine wp_cV (n := 0) (mt' := mX1_skipSpace) (as := []) (rest := []) none ((cu MI (sk (MI 1) (MI 2 1) h) nf nl ft fa), ML, (GR d e nw th 1)) dX1_needSpace_21 lX1_68 kX1_skipSpace vX1_skipSpace (by decide) (by decide +kernel) rfl (Nat.le_of_ble_eq_true rfl) (by decide) rfl rfl rfl (Nat.le_of_ble_eq_true rfl) (fun hM hS Q' hq => w_X1_skipSpace hsz (by first | assumption | omega) hq) (fun hM => ?_)
    refine wp_iconst dX1_needSpace_24 (by decide) ?_
    exact wp_zret dX1_needSpace_25 rfl (Or.inr rfl) (fun _ => hT (by first | assumption | omega))
  · refine wp_topI (x' := 0) (if_neg h4) ?_
    refine wp_if_ne (tgt := 20) dX1_needSpace_7 (by decide) (fun q => absurd q (by decide)) (fun _ => ?_)
    refine wp_aload_n dX1_needSpace_10 rfl rfl (by first | exact Or.inl (by decide) | exact Or.inl (by omega) | exact Or.inr (by decide) | exact Or.inr (by omega)) ?_
    refine wp_iconst dX1_needSpace_11 (by decide) ?_
    refine wp_aload_n dX1_needSpace_12 rfl rfl (by first | exact Or.inl (by decide) | exact Or.inl (by omega) | exact Or.inr (by decide) | exact Or.inr (by omega)) ?_
    refine wp_getI dX1_needSpace_13 fX1_19 rfl (by decide) ?_
    refine wp_topI (x' := h) rfl ?_
    refine wp_cV (n := 2) (mt' := mX1_refuse) (as := [vI ((-1)), vI h]) (rest := []) (some (vI 0)) ((cu MI h nf nl (-1) h), ML, (GR d e nw th 1)) dX1_needSpace_16 lX1_57 kX1_refuse vX1_refuse (by decide) (by decide +kernel) rfl (Nat.le_of_ble_eq_true rfl) (by decide) rfl rfl rfl (Nat.le_of_ble_eq_true rfl) (fun hM hS Q' hq => w_X1_refuse hq) (fun hM => ?_)
    exact wp_zret dX1_needSpace_19 rfl (Or.inl rfl) (fun _ => hF (by first | assumption | omega))
theorem dX1_reachesName_0 : decode cX1_reachesName 0 = .ok (.aload_n 0, 1) := by decide +kernel
theorem dX1_reachesName_1 : decode cX1_reachesName 1 = .ok (.getfield 19, 3) := by decide +kernel
theorem dX1_reachesName_4 : decode cX1_reachesName 4 = .ok (.istore_n 1, 1) := by decide +kernel
theorem dX1_reachesName_5 : decode cX1_reachesName 5 = .ok (.aload_n 0, 1) := by decide +kernel
theorem dX1_reachesName_6 : decode cX1_reachesName 6 = .ok (.invokevirtual 68, 3) := by decide +kernel
theorem dX1_reachesName_9 : decode cX1_reachesName 9 = .ok (.aload_n 0, 1) := by decide +kernel
theorem dX1_reachesName_10 : decode cX1_reachesName 10 = .ok (.getfield 19, 3) := by decide +kernel
theorem dX1_reachesName_13 : decode cX1_reachesName 13 = .ok (.iload_n 1, 1) := by decide +kernel
theorem dX1_reachesName_14 : decode cX1_reachesName 14 = .ok (.if_icmp .le 17, 3) := by decide +kernel
theorem dX1_reachesName_17 : decode cX1_reachesName 17 = .ok (.aload_n 0, 1) := by decide +kernel
theorem dX1_reachesName_18 : decode cX1_reachesName 18 = .ok (.invokevirtual 61, 3) := by decide +kernel
theorem dX1_reachesName_21 : decode cX1_reachesName 21 = .ok (.invokestatic 71, 3) := by decide +kernel
theorem dX1_reachesName_24 : decode cX1_reachesName 24 = .ok (.ifCond .eq 7, 3) := by decide +kernel
theorem dX1_reachesName_27 : decode cX1_reachesName 27 = .ok (.iconst 1, 1) := by decide +kernel
theorem dX1_reachesName_28 : decode cX1_reachesName 28 = .ok (.goto 4, 3) := by decide +kernel
theorem dX1_reachesName_31 : decode cX1_reachesName 31 = .ok (.iconst 0, 1) := by decide +kernel
theorem dX1_reachesName_32 : decode cX1_reachesName 32 = .ok (.ireturn, 1) := by decide +kernel
theorem w_X1_reachesName (hs0 : 0 ≤ MI 2 1) (hsz : MI 2 1 ≤ 6000) (hh : 0 ≤ h) (hT : h < sk (MI 1) (MI 2 1) h ∧ isNs (ob (MI 1) (MI 2 1) (sk (MI 1) (MI 2 1) h)) → Q (some (vI 1)) (Mc MI ML d e nw th (sk (MI 1) (MI 2 1) h) nf nl ft fa)) (hF : ¬ (h < sk (MI 1) (MI 2 1) h ∧ isNs (ob (MI 1) (MI 2 1) (sk (MI 1) (MI 2 1) h))) → Q (some (vI 0)) (Mc MI ML d e nw th (sk (MI 1) (MI 2 1) h) nf nl ft fa)) : wp cs mX1_reachesName KD Q 0 (padL [vR 2] 2) [] (KD, Mc MI ML d e nw th h nf nl ft fa) := by
  refine wp_L (L' := [some (vR 2), none]) rfl ?_
  refine wp_aload_n dX1_reachesName_0 rfl rfl (by first | exact Or.inl (by decide) | exact Or.inl (by omega) | exact Or.inr (by decide) | exact Or.inr (by omega)) ?_
  refine wp_getI dX1_reachesName_1 fX1_19 rfl (by decide) ?_
  refine wp_topI (x' := h) rfl ?_
  refine wp_istore_n dX1_reachesName_4 rfl (by decide) (wp_L (L' := [some (vR 2), some (vI h)]) rfl ?_)
  refine wp_aload_n dX1_reachesName_5 rfl rfl (by first | exact Or.inl (by decide) | exact Or.inl (by omega) | exact Or.inr (by decide) | exact Or.inr (by omega)) ?_
  refine wp_cV (n := 0) (mt' := mX1_skipSpace) (as := []) (rest := []) none ((cu MI (sk (MI 1) (MI 2 1) h) nf nl ft fa), ML, (GR d e nw th 1)) dX1_reachesName_6 lX1_68 kX1_skipSpace vX1_skipSpace (by decide) (by decide +kernel) rfl (Nat.le_of_ble_eq_true rfl) (by decide) rfl rfl rfl (Nat.le_of_ble_eq_true rfl) (fun hM hS Q' hq => w_X1_skipSpace hsz (by first | assumption | omega) hq) (fun hM => ?_)
  refine wp_aload_n dX1_reachesName_9 rfl rfl (by first | exact Or.inl (by decide) | exact Or.inl (by omega) | exact Or.inr (by decide) | exact Or.inr (by omega)) ?_
  refine wp_getI dX1_reachesName_10 fX1_19 rfl (by decide) ?_
  refine wp_topI (x' := (sk (MI 1) (MI 2 1) h)) rfl ?_
  refine wp_pc (pc' := 13) rfl ?_
  refine wp_iload_n dX1_reachesName_13 rfl rfl ?_
  refine wp_icmp_le (tgt := 31) dX1_reachesName_14 (by decide) (fun h14 => ?_) (fun h14 => ?_)
  · refine wp_iconst dX1_reachesName_31 (by decide) ?_
    exact wp_zret dX1_reachesName_32 rfl (Or.inl rfl) (fun _ => hF (fun q => by first | omega | (exact absurd q.2 (by assumption))))
  · refine wp_aload_n dX1_reachesName_17 rfl rfl (by first | exact Or.inl (by decide) | exact Or.inl (by omega) | exact Or.inr (by decide) | exact Or.inr (by omega)) ?_
    refine wp_cV (n := 0) (mt' := mX1_peek) (as := []) (rest := []) (some (vI ((ob (MI 1) (MI 2 1) (sk (MI 1) (MI 2 1) h))))) ((cu MI (sk (MI 1) (MI 2 1) h) nf nl ft fa), ML, (GR d e nw th 1)) dX1_reachesName_18 lX1_61 kX1_peek vX1_peek (by decide) (by decide +kernel) rfl (Nat.le_of_ble_eq_true rfl) (by decide) rfl rfl rfl (Nat.le_of_ble_eq_true rfl) (fun hM hS Q' hq => w_X1_peek hsz hq) (fun hM => ?_)
    refine wp_cS (n := 1) (mt' := mX1_startsName) (as := [vI ((ob (MI 1) (MI 2 1) (sk (MI 1) (MI 2 1) h)))]) (rest := []) (some (vI ((bI (isNs (ob (MI 1) (MI 2 1) (sk (MI 1) (MI 2 1) h))))))) ((cu MI (sk (MI 1) (MI 2 1) h) nf nl ft fa), ML, (GR d e nw th 1)) dX1_reachesName_21 lX1_71 kX1_startsName vX1_startsName (by decide) (by decide +kernel) rfl (Nat.le_of_ble_eq_true rfl) rfl (Nat.le_of_ble_eq_true rfl) (fun hM hS Q' hq => w_X1_startsName hq) (fun hM => ?_)
    by_cases h21 : isNs (ob (MI 1) (MI 2 1) (sk (MI 1) (MI 2 1) h))
    · refine wp_topI (x' := 1) (if_pos h21) ?_
      refine wp_if_eq (tgt := 31) dX1_reachesName_24 (by decide) (fun q => absurd q (by decide)) (fun _ => ?_)
      refine wp_iconst dX1_reachesName_27 (by decide) ?_
      refine wp_goto (tgt := 32) dX1_reachesName_28 (by decide) ?_
      exact wp_zret dX1_reachesName_32 rfl (Or.inr rfl) (fun _ => hT ⟨by omega, by assumption⟩)
    · refine wp_topI (x' := 0) (if_neg h21) ?_
      refine wp_if_eq (tgt := 31) dX1_reachesName_24 (by decide) (fun _ => ?_) (fun q => absurd q (by decide))
      refine wp_iconst dX1_reachesName_31 (by decide) ?_
      exact wp_zret dX1_reachesName_32 rfl (Or.inl rfl) (fun _ => hF (fun q => by first | omega | (exact absurd q.2 (by assumption))))
theorem dX1_needToken_0 : decode cX1_needToken 0 = .ok (.aload_n 0, 1) := by decide +kernel
theorem dX1_needToken_1 : decode cX1_needToken 1 = .ok (.aload_n 0, 1) := by decide +kernel
theorem dX1_needToken_2 : decode cX1_needToken 2 = .ok (.getfield 19, 3) := by decide +kernel
theorem dX1_needToken_5 : decode cX1_needToken 5 = .ok (.putfield 22, 3) := by decide +kernel
theorem dX1_needToken_8 : decode cX1_needToken 8 = .ok (.aload_n 0, 1) := by decide +kernel
theorem dX1_needToken_9 : decode cX1_needToken 9 = .ok (.getfield 19, 3) := by decide +kernel
theorem dX1_needToken_12 : decode cX1_needToken 12 = .ok (.aload_n 0, 1) := by decide +kernel
theorem dX1_needToken_13 : decode cX1_needToken 13 = .ok (.getfield 15, 3) := by decide +kernel
theorem dX1_needToken_16 : decode cX1_needToken 16 = .ok (.if_icmp .ge 26, 3) := by decide +kernel
theorem dX1_needToken_19 : decode cX1_needToken 19 = .ok (.aload_n 0, 1) := by decide +kernel
theorem dX1_needToken_20 : decode cX1_needToken 20 = .ok (.invokevirtual 61, 3) := by decide +kernel
theorem dX1_needToken_23 : decode cX1_needToken 23 = .ok (.invokestatic 78, 3) := by decide +kernel
theorem dX1_needToken_26 : decode cX1_needToken 26 = .ok (.ifCond .eq 16, 3) := by decide +kernel
theorem dX1_needToken_29 : decode cX1_needToken 29 = .ok (.aload_n 0, 1) := by decide +kernel
theorem dX1_needToken_30 : decode cX1_needToken 30 = .ok (.dup, 1) := by decide +kernel
theorem dX1_needToken_31 : decode cX1_needToken 31 = .ok (.getfield 19, 3) := by decide +kernel
theorem dX1_needToken_34 : decode cX1_needToken 34 = .ok (.iconst 1, 1) := by decide +kernel
theorem dX1_needToken_35 : decode cX1_needToken 35 = .ok (.iadd, 1) := by decide +kernel
theorem dX1_needToken_36 : decode cX1_needToken 36 = .ok (.putfield 19, 3) := by decide +kernel
theorem dX1_needToken_39 : decode cX1_needToken 39 = .ok (.goto (-31), 3) := by decide +kernel
theorem dX1_needToken_42 : decode cX1_needToken 42 = .ok (.aload_n 0, 1) := by decide +kernel
theorem dX1_needToken_43 : decode cX1_needToken 43 = .ok (.aload_n 0, 1) := by decide +kernel
theorem dX1_needToken_44 : decode cX1_needToken 44 = .ok (.getfield 19, 3) := by decide +kernel
theorem dX1_needToken_47 : decode cX1_needToken 47 = .ok (.aload_n 0, 1) := by decide +kernel
theorem dX1_needToken_48 : decode cX1_needToken 48 = .ok (.getfield 22, 3) := by decide +kernel
theorem dX1_needToken_51 : decode cX1_needToken 51 = .ok (.isub, 1) := by decide +kernel
theorem dX1_needToken_52 : decode cX1_needToken 52 = .ok (.putfield 25, 3) := by decide +kernel
theorem dX1_needToken_55 : decode cX1_needToken 55 = .ok (.aload_n 0, 1) := by decide +kernel
theorem dX1_needToken_56 : decode cX1_needToken 56 = .ok (.getfield 25, 3) := by decide +kernel
theorem dX1_needToken_59 : decode cX1_needToken 59 = .ok (.ifCond .ne 13, 3) := by decide +kernel
theorem dX1_needToken_62 : decode cX1_needToken 62 = .ok (.aload_n 0, 1) := by decide +kernel
theorem dX1_needToken_63 : decode cX1_needToken 63 = .ok (.iconst (-1), 1) := by decide +kernel
theorem dX1_needToken_64 : decode cX1_needToken 64 = .ok (.aload_n 0, 1) := by decide +kernel
theorem dX1_needToken_65 : decode cX1_needToken 65 = .ok (.getfield 19, 3) := by decide +kernel
theorem dX1_needToken_68 : decode cX1_needToken 68 = .ok (.invokevirtual 57, 3) := by decide +kernel
theorem dX1_needToken_71 : decode cX1_needToken 71 = .ok (.ireturn, 1) := by decide +kernel
theorem dX1_needToken_72 : decode cX1_needToken 72 = .ok (.aload_n 0, 1) := by decide +kernel
theorem dX1_needToken_73 : decode cX1_needToken 73 = .ok (.getfield 25, 3) := by decide +kernel
theorem dX1_needToken_76 : decode cX1_needToken 76 = .ok (.bipush 20, 2) := by decide +kernel
theorem dX1_needToken_78 : decode cX1_needToken 78 = .ok (.if_icmp .le 16, 3) := by decide +kernel
theorem dX1_needToken_81 : decode cX1_needToken 81 = .ok (.aload_n 0, 1) := by decide +kernel
theorem dX1_needToken_82 : decode cX1_needToken 82 = .ok (.bipush (-3), 2) := by decide +kernel
theorem dX1_needToken_84 : decode cX1_needToken 84 = .ok (.aload_n 0, 1) := by decide +kernel
theorem dX1_needToken_85 : decode cX1_needToken 85 = .ok (.getfield 22, 3) := by decide +kernel
theorem dX1_needToken_88 : decode cX1_needToken 88 = .ok (.invokevirtual 57, 3) := by decide +kernel
theorem dX1_needToken_91 : decode cX1_needToken 91 = .ok (.ifCond .eq 7, 3) := by decide +kernel
theorem dX1_needToken_94 : decode cX1_needToken 94 = .ok (.iconst 1, 1) := by decide +kernel
theorem dX1_needToken_95 : decode cX1_needToken 95 = .ok (.goto 4, 3) := by decide +kernel
theorem dX1_needToken_98 : decode cX1_needToken 98 = .ok (.iconst 0, 1) := by decide +kernel
theorem dX1_needToken_99 : decode cX1_needToken 99 = .ok (.ireturn, 1) := by decide +kernel
theorem w_needToken_x (hs0 : 0 ≤ MI 2 1) (hsz : MI 2 1 ≤ 6000) (hh : 0 ≤ h) {g : Int} (hg : h ≤ g ∧ g ≤ h + 6001) (hn : nme (MI 1) (MI 2 1) h = g) (hT : ∀ x, tokS (MI 1) (MI 2 1) h = .inr x → Q (some (vI 1)) (Mc MI ML d e nw th x h (x - h) ft fa)) (hF : ∀ f p a b c, tokS (MI 1) (MI 2 1) h = .inl (f, p) → Q (some (vI 0)) (Mc MI ML d e nw th a b c f p)) : wp cs mX1_needToken KD Q 42 [some (vR 2)] [] (KD, Mc MI ML d e nw th g h nl ft fa) := by
  refine wp_ok fun hM0 _ _ => ?_
  have hr2 : -2147483648 ≤ g ∧ g < 2147483648 := hM0.1 2 2
  have hr3 : -2147483648 ≤ h ∧ h < 2147483648 := hM0.1 2 3
  refine wp_aload_n dX1_needToken_42 rfl rfl (by first | exact Or.inl (by decide) | exact Or.inl (by omega) | exact Or.inr (by decide) | exact Or.inr (by omega)) ?_
  refine wp_aload_n dX1_needToken_43 rfl rfl (by first | exact Or.inl (by decide) | exact Or.inl (by omega) | exact Or.inr (by decide) | exact Or.inr (by omega)) ?_
  refine wp_getI dX1_needToken_44 fX1_19 rfl (by decide) ?_
  refine wp_topI (x' := g) rfl ?_
  refine wp_aload_n dX1_needToken_47 rfl rfl (by first | exact Or.inl (by decide) | exact Or.inl (by omega) | exact Or.inr (by decide) | exact Or.inr (by omega)) ?_
  refine wp_getI dX1_needToken_48 fX1_22 rfl (by decide) ?_
  refine wp_topI (x' := h) rfl ?_
  refine wp_isubr dX1_needToken_51 (by omega) ?_
  refine wp_putI dX1_needToken_52 pX1_25 rfl (by decide) ?_
  refine wp_M (M' := ((cu MI g h (g - h) ft fa), ML, (GR d e nw th 1))) (by rw [cu_4]) ?_
  refine wp_pc (pc' := 55) rfl ?_
  refine wp_aload_n dX1_needToken_55 rfl rfl (by first | exact Or.inl (by decide) | exact Or.inl (by omega) | exact Or.inr (by decide) | exact Or.inr (by omega)) ?_
  refine wp_getI dX1_needToken_56 fX1_25 rfl (by decide) ?_
  refine wp_topI (x' := (g - h)) rfl ?_
  refine wp_if_ne (tgt := 72) dX1_needToken_59 (by decide) (fun h59 => ?_) (fun h59 => ?_)
  · refine wp_aload_n dX1_needToken_72 rfl rfl (by first | exact Or.inl (by decide) | exact Or.inl (by omega) | exact Or.inr (by decide) | exact Or.inr (by omega)) ?_
    refine wp_getI dX1_needToken_73 fX1_25 rfl (by decide) ?_
    refine wp_topI (x' := (g - h)) rfl ?_
    refine wp_bipush dX1_needToken_76 (by decide +kernel) (by decide) ?_
    refine wp_icmp_le (tgt := 94) dX1_needToken_78 (by decide) (fun h78 => ?_) (fun h78 => ?_)
    · refine wp_iconst dX1_needToken_94 (by decide) ?_
      refine wp_goto (tgt := 99) dX1_needToken_95 (by decide) ?_
      exact wp_zret dX1_needToken_99 rfl (Or.inr rfl) (fun _ => hT g (by unfold tokS; rw [hn, if_neg (by omega), if_pos (by omega)]))
    · refine wp_aload_n dX1_needToken_81 rfl rfl (by first | exact Or.inl (by decide) | exact Or.inl (by omega) | exact Or.inr (by decide) | exact Or.inr (by omega)) ?_
      refine wp_bipush dX1_needToken_82 (by decide +kernel) (by decide) ?_
      refine wp_aload_n dX1_needToken_84 rfl rfl (by first | exact Or.inl (by decide) | exact Or.inl (by omega) | exact Or.inr (by decide) | exact Or.inr (by omega)) ?_
      refine wp_getI dX1_needToken_85 fX1_22 rfl (by decide) ?_
      refine wp_topI (x' := h) rfl ?_
      refine wp_cV (n := 2) (mt' := mX1_refuse) (as := [vI ((-3)), vI h]) (rest := []) (some (vI 0)) ((cu MI g h (g - h) (-3) h), ML, (GR d e nw th 1)) dX1_needToken_88 lX1_57 kX1_refuse vX1_refuse (by decide) (by decide +kernel) rfl (Nat.le_of_ble_eq_true rfl) (by decide) rfl rfl rfl (Nat.le_of_ble_eq_true rfl) (fun hM hS Q' hq => w_X1_refuse hq) (fun hM => ?_)
      refine wp_if_eq (tgt := 98) dX1_needToken_91 (by decide) (fun _ => ?_) (fun q => absurd q (by decide))
      refine wp_iconst dX1_needToken_98 (by decide) ?_
      refine wp_pc (pc' := 99) rfl ?_
      exact wp_zret dX1_needToken_99 rfl (Or.inl rfl) (fun _ => hF (-3) h _ _ _ (by unfold tokS; rw [hn, if_neg (by omega), if_neg (by omega)]))
  · refine wp_aload_n dX1_needToken_62 rfl rfl (by first | exact Or.inl (by decide) | exact Or.inl (by omega) | exact Or.inr (by decide) | exact Or.inr (by omega)) ?_
    refine wp_iconst dX1_needToken_63 (by decide) ?_
    refine wp_aload_n dX1_needToken_64 rfl rfl (by first | exact Or.inl (by decide) | exact Or.inl (by omega) | exact Or.inr (by decide) | exact Or.inr (by omega)) ?_
    refine wp_getI dX1_needToken_65 fX1_19 rfl (by decide) ?_
    refine wp_topI (x' := g) rfl ?_
    refine wp_cV (n := 2) (mt' := mX1_refuse) (as := [vI ((-1)), vI g]) (rest := []) (some (vI 0)) ((cu MI g h (g - h) (-1) g), ML, (GR d e nw th 1)) dX1_needToken_68 lX1_57 kX1_refuse vX1_refuse (by decide) (by decide +kernel) rfl (Nat.le_of_ble_eq_true rfl) (by decide) rfl rfl rfl (Nat.le_of_ble_eq_true rfl) (fun hM hS Q' hq => w_X1_refuse hq) (fun hM => ?_)
    exact wp_zret dX1_needToken_71 rfl (Or.inl rfl) (fun _ => hF (-1) _ _ _ _ (by have e0 : g = h := (by omega); unfold tokS; rw [hn, if_pos e0, e0]))
theorem w_needToken_l (hs0 : 0 ≤ MI 2 1) (hsz : MI 2 1 ≤ 6000) (hh : 0 ≤ h) (hT : ∀ x, tokS (MI 1) (MI 2 1) h = .inr x → Q (some (vI 1)) (Mc MI ML d e nw th x h (x - h) ft fa)) (hF : ∀ f p a b c, tokS (MI 1) (MI 2 1) h = .inl (f, p) → Q (some (vI 0)) (Mc MI ML d e nw th a b c f p)) : ∀ (k : Nat) (g : Int), h ≤ g ∧ g ≤ h + 6001 ∧ (g = h ∨ g ≤ MI 2 1) → (MI 2 1 - g).toNat ≤ k → nme (MI 1) (MI 2 1) h = nme (MI 1) (MI 2 1) g → wp cs mX1_needToken KD Q 8 [some (vR 2)] [] (KD, Mc MI ML d e nw th g h nl ft fa) := by
  intro k
  induction k with
  | zero =>
    intro g hg hk hi
    refine wp_aload_n dX1_needToken_8 rfl rfl (by first | exact Or.inl (by decide) | exact Or.inl (by omega) | exact Or.inr (by decide) | exact Or.inr (by omega)) ?_
    refine wp_getI dX1_needToken_9 fX1_19 rfl (by decide) ?_
    refine wp_topI (x' := g) rfl ?_
    refine wp_aload_n dX1_needToken_12 rfl rfl (by first | exact Or.inl (by decide) | exact Or.inl (by omega) | exact Or.inr (by decide) | exact Or.inr (by omega)) ?_
    refine wp_getI dX1_needToken_13 fX1_15 rfl (by decide) ?_
    refine wp_topI (x' := (MI 2 1)) rfl ?_
    refine wp_icmp_ge (tgt := 42) dX1_needToken_16 (by decide) (fun h16 => ?_) (fun h16 => ?_)
    · exact w_needToken_x hs0 hsz hh (by omega) (by rw [hi, nme_eq, if_neg (by first | omega | (intro q; exact absurd q.2 (by assumption)))]) hT hF
    · refine wp_aload_n dX1_needToken_19 rfl rfl (by first | exact Or.inl (by decide) | exact Or.inl (by omega) | exact Or.inr (by decide) | exact Or.inr (by omega)) ?_
      refine wp_cV (n := 0) (mt' := mX1_peek) (as := []) (rest := []) (some (vI ((ob (MI 1) (MI 2 1) g)))) ((cu MI g h nl ft fa), ML, (GR d e nw th 1)) dX1_needToken_20 lX1_61 kX1_peek vX1_peek (by decide) (by decide +kernel) rfl (Nat.le_of_ble_eq_true rfl) (by decide) rfl rfl rfl (Nat.le_of_ble_eq_true rfl) (fun hM hS Q' hq => w_X1_peek hsz hq) (fun hM => ?_)
      refine wp_cS (n := 1) (mt' := mX1_isNameByte) (as := [vI ((ob (MI 1) (MI 2 1) g))]) (rest := []) (some (vI ((bI (isNb (ob (MI 1) (MI 2 1) g)))))) ((cu MI g h nl ft fa), ML, (GR d e nw th 1)) dX1_needToken_23 lX1_78 kX1_isNameByte vX1_isNameByte (by decide) (by decide +kernel) rfl (Nat.le_of_ble_eq_true rfl) rfl (Nat.le_of_ble_eq_true rfl) (fun hM hS Q' hq => w_X1_isNameByte hq) (fun hM => ?_)
      by_cases h23 : isNb (ob (MI 1) (MI 2 1) g)
      · refine wp_topI (x' := 1) (if_pos h23) ?_
        refine wp_if_eq (tgt := 42) dX1_needToken_26 (by decide) (fun q => absurd q (by decide)) (fun _ => ?_)
        refine wp_aload_n dX1_needToken_29 rfl rfl (by first | exact Or.inl (by decide) | exact Or.inl (by omega) | exact Or.inr (by decide) | exact Or.inr (by omega)) ?_
        refine wp_dup dX1_needToken_30 (fun x e => by cases e) ?_
        refine wp_getI dX1_needToken_31 fX1_19 rfl (by decide) ?_
        refine wp_topI (x' := g) rfl ?_
        refine wp_iconst dX1_needToken_34 (by decide) ?_
        refine wp_iaddr dX1_needToken_35 (by omega) ?_
        refine wp_putI dX1_needToken_36 pX1_19 rfl (by decide) ?_
        refine wp_M (M' := ((cu MI (g + 1) h nl ft fa), ML, (GR d e nw th 1))) (by rw [cu_2]) ?_
        refine wp_pc (pc' := 39) rfl ?_
        refine wp_goto (tgt := 8) dX1_needToken_39 (by decide) ?_
        exfalso; omega
      · refine wp_topI (x' := 0) (if_neg h23) ?_
        refine wp_if_eq (tgt := 42) dX1_needToken_26 (by decide) (fun _ => ?_) (fun q => absurd q (by decide))
        exact w_needToken_x hs0 hsz hh (by omega) (by rw [hi, nme_eq, if_neg (by first | omega | (intro q; exact absurd q.2 (by assumption)))]) hT hF
  | succ k ih =>
    intro g hg hk hi
    refine wp_aload_n dX1_needToken_8 rfl rfl (by first | exact Or.inl (by decide) | exact Or.inl (by omega) | exact Or.inr (by decide) | exact Or.inr (by omega)) ?_
    refine wp_getI dX1_needToken_9 fX1_19 rfl (by decide) ?_
    refine wp_topI (x' := g) rfl ?_
    refine wp_aload_n dX1_needToken_12 rfl rfl (by first | exact Or.inl (by decide) | exact Or.inl (by omega) | exact Or.inr (by decide) | exact Or.inr (by omega)) ?_
    refine wp_getI dX1_needToken_13 fX1_15 rfl (by decide) ?_
    refine wp_topI (x' := (MI 2 1)) rfl ?_
    refine wp_icmp_ge (tgt := 42) dX1_needToken_16 (by decide) (fun h16 => ?_) (fun h16 => ?_)
    · exact w_needToken_x hs0 hsz hh (by omega) (by rw [hi, nme_eq, if_neg (by first | omega | (intro q; exact absurd q.2 (by assumption)))]) hT hF
    · refine wp_aload_n dX1_needToken_19 rfl rfl (by first | exact Or.inl (by decide) | exact Or.inl (by omega) | exact Or.inr (by decide) | exact Or.inr (by omega)) ?_
      refine wp_cV (n := 0) (mt' := mX1_peek) (as := []) (rest := []) (some (vI ((ob (MI 1) (MI 2 1) g)))) ((cu MI g h nl ft fa), ML, (GR d e nw th 1)) dX1_needToken_20 lX1_61 kX1_peek vX1_peek (by decide) (by decide +kernel) rfl (Nat.le_of_ble_eq_true rfl) (by decide) rfl rfl rfl (Nat.le_of_ble_eq_true rfl) (fun hM hS Q' hq => w_X1_peek hsz hq) (fun hM => ?_)
      refine wp_cS (n := 1) (mt' := mX1_isNameByte) (as := [vI ((ob (MI 1) (MI 2 1) g))]) (rest := []) (some (vI ((bI (isNb (ob (MI 1) (MI 2 1) g)))))) ((cu MI g h nl ft fa), ML, (GR d e nw th 1)) dX1_needToken_23 lX1_78 kX1_isNameByte vX1_isNameByte (by decide) (by decide +kernel) rfl (Nat.le_of_ble_eq_true rfl) rfl (Nat.le_of_ble_eq_true rfl) (fun hM hS Q' hq => w_X1_isNameByte hq) (fun hM => ?_)
      by_cases h23 : isNb (ob (MI 1) (MI 2 1) g)
      · refine wp_topI (x' := 1) (if_pos h23) ?_
        refine wp_if_eq (tgt := 42) dX1_needToken_26 (by decide) (fun q => absurd q (by decide)) (fun _ => ?_)
        refine wp_aload_n dX1_needToken_29 rfl rfl (by first | exact Or.inl (by decide) | exact Or.inl (by omega) | exact Or.inr (by decide) | exact Or.inr (by omega)) ?_
        refine wp_dup dX1_needToken_30 (fun x e => by cases e) ?_
        refine wp_getI dX1_needToken_31 fX1_19 rfl (by decide) ?_
        refine wp_topI (x' := g) rfl ?_
        refine wp_iconst dX1_needToken_34 (by decide) ?_
        refine wp_iaddr dX1_needToken_35 (by omega) ?_
        refine wp_putI dX1_needToken_36 pX1_19 rfl (by decide) ?_
        refine wp_M (M' := ((cu MI (g + 1) h nl ft fa), ML, (GR d e nw th 1))) (by rw [cu_2]) ?_
        refine wp_pc (pc' := 39) rfl ?_
        refine wp_goto (tgt := 8) dX1_needToken_39 (by decide) ?_
        exact ih (g + 1) (by omega) (by omega) (by rw [hi, nme_eq, if_pos ⟨by omega, by assumption⟩])
      · refine wp_topI (x' := 0) (if_neg h23) ?_
        refine wp_if_eq (tgt := 42) dX1_needToken_26 (by decide) (fun _ => ?_) (fun q => absurd q (by decide))
        exact w_needToken_x hs0 hsz hh (by omega) (by rw [hi, nme_eq, if_neg (by first | omega | (intro q; exact absurd q.2 (by assumption)))]) hT hF
theorem w_X1_needToken (hs0 : 0 ≤ MI 2 1) (hsz : MI 2 1 ≤ 6000) (hh : 0 ≤ h) (hT : ∀ x, tokS (MI 1) (MI 2 1) h = .inr x → Q (some (vI 1)) (Mc MI ML d e nw th x h (x - h) ft fa)) (hF : ∀ f p a b c, tokS (MI 1) (MI 2 1) h = .inl (f, p) → Q (some (vI 0)) (Mc MI ML d e nw th a b c f p)) : wp cs mX1_needToken KD Q 0 (padL [vR 2] 1) [] (KD, Mc MI ML d e nw th h nf nl ft fa) := by
  refine wp_L (L' := [some (vR 2)]) rfl ?_
  refine wp_aload_n dX1_needToken_0 rfl rfl (by first | exact Or.inl (by decide) | exact Or.inl (by omega) | exact Or.inr (by decide) | exact Or.inr (by omega)) ?_
  refine wp_aload_n dX1_needToken_1 rfl rfl (by first | exact Or.inl (by decide) | exact Or.inl (by omega) | exact Or.inr (by decide) | exact Or.inr (by omega)) ?_
  refine wp_getI dX1_needToken_2 fX1_19 rfl (by decide) ?_
  refine wp_topI (x' := h) rfl ?_
  refine wp_putI dX1_needToken_5 pX1_22 rfl (by decide) ?_
  refine wp_M (M' := ((cu MI h h nl ft fa), ML, (GR d e nw th 1))) (by rw [cu_3]) ?_
  exact w_needToken_l hs0 hsz hh hT hF _ h ⟨by omega, by omega, Or.inl rfl⟩ (Nat.le_refl _) rfl
theorem dX1_needName_0 : decode cX1_needName 0 = .ok (.aload_n 0, 1) := by decide +kernel
theorem dX1_needName_1 : decode cX1_needName 1 = .ok (.invokevirtual 61, 3) := by decide +kernel
theorem dX1_needName_4 : decode cX1_needName 4 = .ok (.invokestatic 71, 3) := by decide +kernel
theorem dX1_needName_7 : decode cX1_needName 7 = .ok (.ifCond .eq 10, 3) := by decide +kernel
theorem dX1_needName_10 : decode cX1_needName 10 = .ok (.aload_n 0, 1) := by decide +kernel
theorem dX1_needName_11 : decode cX1_needName 11 = .ok (.invokevirtual 74, 3) := by decide +kernel
theorem dX1_needName_14 : decode cX1_needName 14 = .ok (.goto 12, 3) := by decide +kernel
theorem dX1_needName_17 : decode cX1_needName 17 = .ok (.aload_n 0, 1) := by decide +kernel
theorem dX1_needName_18 : decode cX1_needName 18 = .ok (.iconst (-1), 1) := by decide +kernel
theorem dX1_needName_19 : decode cX1_needName 19 = .ok (.aload_n 0, 1) := by decide +kernel
theorem dX1_needName_20 : decode cX1_needName 20 = .ok (.getfield 19, 3) := by decide +kernel
theorem dX1_needName_23 : decode cX1_needName 23 = .ok (.invokevirtual 57, 3) := by decide +kernel
theorem dX1_needName_26 : decode cX1_needName 26 = .ok (.ireturn, 1) := by decide +kernel
theorem w_X1_needName (hs0 : 0 ≤ MI 2 1) (hsz : MI 2 1 ≤ 6000) (hh : 0 ≤ h) (hT : ∀ x, nmS (MI 1) (MI 2 1) h = .inr x → Q (some (vI 1)) (Mc MI ML d e nw th x h (x - h) ft fa)) (hF : ∀ f p a b c, nmS (MI 1) (MI 2 1) h = .inl (f, p) → Q (some (vI 0)) (Mc MI ML d e nw th a b c f p)) : wp cs mX1_needName KD Q 0 (padL [vR 2] 1) [] (KD, Mc MI ML d e nw th h nf nl ft fa) := by
  refine wp_L (L' := [some (vR 2)]) rfl ?_
  refine wp_aload_n dX1_needName_0 rfl rfl (by first | exact Or.inl (by decide) | exact Or.inl (by omega) | exact Or.inr (by decide) | exact Or.inr (by omega)) ?_
  refine wp_cV (n := 0) (mt' := mX1_peek) (as := []) (rest := []) (some (vI ((ob (MI 1) (MI 2 1) h)))) ((cu MI h nf nl ft fa), ML, (GR d e nw th 1)) dX1_needName_1 lX1_61 kX1_peek vX1_peek (by decide) (by decide +kernel) rfl (Nat.le_of_ble_eq_true rfl) (by decide) rfl rfl rfl (Nat.le_of_ble_eq_true rfl) (fun hM hS Q' hq => w_X1_peek hsz hq) (fun hM => ?_)
  refine wp_cS (n := 1) (mt' := mX1_startsName) (as := [vI ((ob (MI 1) (MI 2 1) h))]) (rest := []) (some (vI ((bI (isNs (ob (MI 1) (MI 2 1) h)))))) ((cu MI h nf nl ft fa), ML, (GR d e nw th 1)) dX1_needName_4 lX1_71 kX1_startsName vX1_startsName (by decide) (by decide +kernel) rfl (Nat.le_of_ble_eq_true rfl) rfl (Nat.le_of_ble_eq_true rfl) (fun hM hS Q' hq => w_X1_startsName hq) (fun hM => ?_)
  by_cases h4 : isNs (ob (MI 1) (MI 2 1) h)
  · refine wp_topI (x' := 1) (if_pos h4) ?_
    refine wp_if_eq (tgt := 17) dX1_needName_7 (by decide) (fun q => absurd q (by decide)) (fun _ => ?_)
    refine wp_aload_n dX1_needName_10 rfl rfl (by first | exact Or.inl (by decide) | exact Or.inl (by omega) | exact Or.inr (by decide) | exact Or.inr (by omega)) ?_
    refine wp_cVq (n := 0) (mt' := mX1_needToken) (as := []) (rest := []) (fun r M' => (∃ x, tokS (MI 1) (MI 2 1) h = .inr x ∧ r = some (vI 1) ∧ M' = Mc MI ML d e nw th x h (x - h) ft fa) ∨ (∃ f p a b c, tokS (MI 1) (MI 2 1) h = .inl (f, p) ∧ r = some (vI 0) ∧ M' = Mc MI ML d e nw th a b c f p)) dX1_needName_11 lX1_74 kX1_needToken vX1_needToken (by decide) (by decide +kernel) rfl (Nat.le_of_ble_eq_true rfl) (by decide) rfl rfl rfl (Nat.le_of_ble_eq_true rfl) (fun hM hS => w_X1_needToken hs0 hsz hh (fun x hx => Or.inl ⟨x, hx, rfl, rfl⟩) (fun f p a b c hx => Or.inr ⟨f, p, a, b, c, hx, rfl, rfl⟩)) (fun r M' hq hM => ?_)
    rcases hq with ⟨x, hx, rfl, rfl⟩ | ⟨f, p, a, b, c, hx, rfl, rfl⟩
    · refine wp_goto (tgt := 26) dX1_needName_14 (by decide) ?_
      exact wp_zret dX1_needName_26 rfl (Or.inr rfl) (fun _ => hT x (by unfold nmS; rw [if_pos h4]; exact hx))
    · refine wp_goto (tgt := 26) dX1_needName_14 (by decide) ?_
      exact wp_zret dX1_needName_26 rfl (Or.inl rfl) (fun _ => hF f p a b c (by unfold nmS; rw [if_pos h4]; exact hx))
  · refine wp_topI (x' := 0) (if_neg h4) ?_
    refine wp_if_eq (tgt := 17) dX1_needName_7 (by decide) (fun _ => ?_) (fun q => absurd q (by decide))
    refine wp_aload_n dX1_needName_17 rfl rfl (by first | exact Or.inl (by decide) | exact Or.inl (by omega) | exact Or.inr (by decide) | exact Or.inr (by omega)) ?_
    refine wp_iconst dX1_needName_18 (by decide) ?_
    refine wp_aload_n dX1_needName_19 rfl rfl (by first | exact Or.inl (by decide) | exact Or.inl (by omega) | exact Or.inr (by decide) | exact Or.inr (by omega)) ?_
    refine wp_getI dX1_needName_20 fX1_19 rfl (by decide) ?_
    refine wp_topI (x' := h) rfl ?_
    refine wp_cV (n := 2) (mt' := mX1_refuse) (as := [vI ((-1)), vI h]) (rest := []) (some (vI 0)) ((cu MI h nf nl (-1) h), ML, (GR d e nw th 1)) dX1_needName_23 lX1_57 kX1_refuse vX1_refuse (by decide) (by decide +kernel) rfl (Nat.le_of_ble_eq_true rfl) (by decide) rfl rfl rfl (Nat.le_of_ble_eq_true rfl) (fun hM hS Q' hq => w_X1_refuse hq) (fun hM => ?_)
    exact wp_zret dX1_needName_26 rfl (Or.inl rfl) (fun _ => hF _ _ _ _ _ (by unfold nmS; rw [if_neg h4]))
end P21
