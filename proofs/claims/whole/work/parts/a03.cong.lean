/-! A reading looks at no byte behind the text's end. -/
section Pa03
variable {T U : Nat → Int} {n : Int}
theorem cg_ob (K : ∀ k : Nat, (k : Int) < n → T k = U k) : ob T n = ob U n := by
  funext i; unfold ob
  split
  · rw [K _ (by omega)]
  · rfl
theorem cg_skF (H : ob T n = ob U n) : ∀ (k : Nat) (h : Int), skF T n k h = skF U n k h
  | 0, h => rfl
  | k + 1, h => by rw [skF, skF, H, cg_skF H k]
theorem cg_sk (H : ob T n = ob U n) : sk T n = sk U n := by funext h; unfold sk; exact cg_skF H _ _
theorem cg_nmF (H : ob T n = ob U n) : ∀ (k : Nat) (h : Int), nmF T n k h = nmF U n k h
  | 0, h => rfl
  | k + 1, h => by rw [nmF, nmF, H, cg_nmF H k]
theorem cg_nme (H : ob T n = ob U n) : nme T n = nme U n := by funext h; unfold nme; exact cg_nmF H _ _
theorem cg_tokS (H : ob T n = ob U n) : tokS T n = tokS U n := by funext h; unfold tokS; rw [cg_nme H]
theorem cg_nmS (H : ob T n = ob U n) : nmS T n = nmS U n := by funext h; unfold nmS; rw [cg_tokS H, H]
theorem cg_stb (H : ob T n = ob U n) : ∀ (l : List Int) (h : Int), stb T n h l = stb U n h l
  | [], h => rfl
  | b :: l, h => by rw [stb, stb, H, cg_stb H l]
theorem cg_stb' (H : ob T n = ob U n) : stb T n = stb U n := by funext h l; exact cg_stb H l h
theorem cg_cmF (H : ob T n = ob U n) : ∀ (k : Nat) (h : Int), cmF T n k h = cmF U n k h
  | 0, h => rfl
  | k + 1, h => by rw [cmF, cmF, cg_stb' H, H, cg_cmF H k]
theorem cg_cmS (H : ob T n = ob U n) : cmS T n = cmS U n := by funext h; unfold cmS; exact cg_cmF H _ _
theorem cg_mcF (H : ob T n = ob U n) : ∀ (k : Nat) (h : Int), mcF T n k h = mcF U n k h
  | 0, h => rfl
  | k + 1, h => by
    rw [mcF, mcF, cg_stb' H, cg_sk H, cg_cmS H]
    split
    · cases cmS U n (sk U n h + 4) with
      | inl f => rfl
      | inr y => exact cg_mcF H k y
    · rfl
theorem cg_mcS (H : ob T n = ob U n) : mcS T n = mcS U n := by funext h; unfold mcS; exact cg_mcF H _ _
theorem cg_dg (H : ob T n = ob U n) : ∀ (k : Nat) (v : Int) (c : Nat) (h : Int), dg T n k v c h = dg U n k v c h
  | 0, v, c, h => rfl
  | k + 1, v, c, h => by rw [dg, dg, H]; simp only [cg_dg H k]
theorem cg_numQ (H : ob T n = ob U n) : numQ T n = numQ U n := by funext h; unfold numQ; rw [H, cg_dg H]
theorem cg_numS (H : ob T n = ob U n) : numS T n = numS U n := by funext h; unfold numS; rw [H, cg_numQ H]
theorem cg_pcS (H : ob T n = ob U n) : pcS T n = pcS U n := by funext h; unfold pcS; rw [H, cg_numS H, cg_stb' H]
theorem cg_vlF (H : ob T n = ob U n) (q : Int) : ∀ (k r : Nat) (h : Int), vlF T n q k r h = vlF U n q k r h
  | 0, r, h => rfl
  | k + 1, r, h => by
    rw [vlF, vlF, H, cg_pcS H]
    cases pcS U n h with
    | inl f => rfl
    | inr z => simp only [cg_vlF H q k]
theorem cg_vlS (H : ob T n = ob U n) : vlS T n = vlS U n := by funext r h; unfold vlS; rw [H, cg_vlF H]
theorem cg_msS (H : ob T n = ob U n) : msS T n = msS U n := by funext h; unfold msS; rw [H, cg_sk H]
theorem cg_mbS (H : ob T n = ob U n) : mbS T n = mbS U n := by funext h c; unfold mbS; rw [H]
theorem cg_nb (K : ∀ k : Nat, (k : Int) < n → T k = U k) {f g : Int} (h0 : 0 ≤ f) (hg : g ≤ n) : nb T f g = nb U f g := by
  unfold nb
  apply List.map_congr_left
  intro i hi
  rw [List.mem_range] at hi
  exact K _ (by omega)
theorem cg_tok (K : ∀ k : Nat, (k : Int) < n → T k = U k) {h g : Int} (hy : tokS U n h = .inr g) : nb T h g = nb U h g := by
  have h1 := tokS_ok hy
  have h2 : h < n ∧ isNb (ob U n h) := Decidable.byContradiction fun w => by
    have := h1.2.2.1
    rw [nme_eq, if_neg w] at this
    omega
  have h0 : 0 ≤ h := Decidable.byContradiction fun w => by
    have := h2.2
    rw [ob_out (by omega)] at this
    unfold isNb at this; omega
  exact cg_nb K h0 (h1.2.2.2 (by omega))
theorem cg_nm (K : ∀ k : Nat, (k : Int) < n → T k = U k) {h g : Int} (hy : nmS U n h = .inr g) : nb T h g = nb U h g := by
  unfold nmS at hy
  split at hy
  · exact cg_tok K hy
  · cases hy
theorem cg_tkF (K : ∀ k : Nat, (k : Int) < n → T k = U k) : ∀ (k : Nat) (h : Int) (l : List By), tkF T n k h l = tkF U n k h l
  | 0, h, l => rfl
  | k + 1, h, l => by
    have H := cg_ob K
    rw [tkF, tkF, cg_sk H, cg_tokS H, H, cg_mbS H]
    cases e : tokS U n (sk U n h) with
    | inl w => rw [pb_l, pb_l]
    | inr g => rw [pb_r, pb_r, cg_tok K e, cg_tkF K k]
theorem cg_tyS (K : ∀ k : Nat, (k : Int) < n → T k = U k) : tyS T n = tyS U n := by
  have H := cg_ob K
  funext h; unfold tyS
  rw [cg_msS H, cg_mbS H, cg_stb' H]
  simp only [cg_tkF K]
theorem cg_dfS (H : ob T n = ob U n) : dfS T n = dfS U n := by
  funext r h; unfold dfS
  rw [cg_msS H, cg_stb' H, cg_vlS H]
theorem cg_ruS (K : ∀ k : Nat, (k : Int) < n → T k = U k) (pl : Nat) (rs : List Rl) (o : By) (h : Int) : ruS T n pl rs o h = ruS U n pl rs o h := by
  have H := cg_ob K
  unfold ruS
  rw [cg_nmS H, cg_tyS K, cg_dfS H]
  cases e : nmS U n h with
  | inl w => rw [pb_l, pb_l]
  | inr g => rw [pb_r, pb_r, cg_nm K e]
theorem cg_rusF (K : ∀ k : Nat, (k : Int) < n → T k = U k) (o : By) : ∀ (k pl : Nat) (rs : List Rl) (h : Int), rusF T n o k pl rs h = rusF U n o k pl rs h
  | 0, pl, rs, h => rfl
  | k + 1, pl, rs, h => by
    have H := cg_ob K
    rw [rusF, rusF, cg_sk H, H, cg_mbS H, cg_ruS K]
    simp only [cg_rusF K o k]
theorem cg_alS (K : ∀ k : Nat, (k : Int) < n → T k = U k) (pl : Nat) (rs : List Rl) (h : Int) : alS T n pl rs h = alS U n pl rs h := by
  have H := cg_ob K
  unfold alS
  rw [cg_msS H, cg_nmS H]
  cases msS U n h with
  | inl w => rw [pb_l, pb_l]
  | inr g =>
    rw [pb_r, pb_r]
    cases e : nmS U n g with
    | inl w => rw [pb_l, pb_l]
    | inr y => rw [pb_r, pb_r, cg_nm K e, cg_rusF K]
theorem cg_mkS (H : ob T n = ob U n) : mkS T n = mkS U n := by funext h p q; unfold mkS; rw [H]
theorem cg_plS (K : ∀ k : Nat, (k : Int) < n → T k = U k) (p : Pl) (h : Int) : plS T n p h = plS U n p h := by
  have H := cg_ob K
  unfold plS
  rw [cg_nmS H]
  cases e : nmS U n h with
  | inl w => rw [pb_l, pb_l]
  | inr g => rw [pb_r, pb_r, cg_nm K e]
theorem cg_grF (K : ∀ k : Nat, (k : Int) < n → T k = U k) : ∀ (k : Nat) (w : Bool) (p : Pl) (gs : List Gp) (h : Int), grF T n k w p gs h = grF U n k w p gs h
  | 0, w, p, gs, h => by simp only [grF]
  | k + 1, w, p, [], h => by cases w <;> simp only [grF]
  | k + 1, true, p, g :: gs, h => by
    have H := cg_ob K
    simp only [grF, cg_sk H, H, cg_plS K, cg_mkS H, cg_grF K k]
  | k + 1, false, p, g :: gs, h => by
    have H := cg_ob K
    cases gs with
    | nil => simp only [grF, cg_sk H, H, cg_mkS H, cg_grF K k]
    | cons g' t => simp only [grF, cg_sk H, H, cg_mkS H, cg_grF K k]
theorem cg_mxF (K : ∀ k : Nat, (k : Int) < n → T k = U k) : ∀ (k : Nat) (p : Pl) (h : Int), mxF T n k p h = mxF U n k p h
  | 0, p, h => rfl
  | k + 1, p, h => by
    have H := cg_ob K
    simp only [mxF, cg_sk H, H, cg_plS K, cg_mbS H, cg_mxF K k]
theorem cg_spS (K : ∀ k : Nat, (k : Int) < n → T k = U k) : spS T n = spS U n := by
  have H := cg_ob K
  funext h
  simp only [spS, cg_stb' H, cg_mbS H, cg_sk H, cg_mxF K, cg_grF K]
theorem cg_deS (K : ∀ k : Nat, (k : Int) < n → T k = U k) (ds : List Dc) (nr : Nat) (h : Int) : deS T n ds nr h = deS U n ds nr h := by
  have H := cg_ob K
  unfold deS
  rw [cg_msS H, cg_nmS H, cg_spS K, cg_sk H, cg_mbS H]
  split
  · rfl
  · cases msS U n (h + 9) with
    | inl w => rw [pb_l, pb_l]
    | inr g =>
      rw [pb_r, pb_r]
      cases e : nmS U n g with
      | inl w => rw [pb_l, pb_l]
      | inr y => rw [pb_r, pb_r, cg_nm K e]
theorem cg_dcF (K : ∀ k : Nat, (k : Int) < n → T k = U k) : ∀ (k pl : Nat) (ds : List Dc) (rs : List Rl) (h : Int), dcF T n k pl ds rs h = dcF U n k pl ds rs h
  | 0, pl, ds, rs, h => rfl
  | k + 1, pl, ds, rs, h => by
    have H := cg_ob K
    simp only [dcF, H, cg_stb' H, cg_deS K, cg_mcS H, cg_alS K, cg_dcF K k]
theorem cg_dtS (K : ∀ k : Nat, (k : Int) < n → T k = U k) (h : Int) : dtS T n h = dtS U n h := by
  have H := cg_ob K
  unfold dtS
  rw [cg_stb' H, cg_msS H, cg_nmS H, cg_mbS H, cg_sk H, cg_mcS H]
  split
  · cases msS U n (h + 9) with
    | inl w => rw [pb_l, pb_l]
    | inr g =>
      rw [pb_r, pb_r]
      cases e : nmS U n g with
      | inl w => rw [pb_l, pb_l]
      | inr y =>
        rw [pb_r, pb_r, cg_nm K e]
        simp only [cg_dcF K]
  · rfl
theorem cg_atS (K : ∀ k : Nat, (k : Int) < n → T k = U k) (ec : Int) (pl : Nat) (ns : List Nd) (h : Int) : atS T n ec pl ns h = atS U n ec pl ns h := by
  have H := cg_ob K
  unfold atS
  rw [cg_nmS H, cg_mbS H, cg_sk H, cg_vlS H]
  cases e : nmS U n h with
  | inl w => rw [pb_l, pb_l]
  | inr g => rw [pb_r, pb_r, cg_nm K e]
theorem cg_atsF (K : ∀ k : Nat, (k : Int) < n → T k = U k) (ec : Int) : ∀ (k pl : Nat) (ns : List Nd) (h : Int), atsF T n ec k pl ns h = atsF U n ec k pl ns h
  | 0, pl, ns, h => rfl
  | k + 1, pl, ns, h => by
    have H := cg_ob K
    rw [atsF_eq, atsF_eq, cg_sk H, H, cg_atS K]
    simp only [cg_atsF K ec k]
theorem cg_tgS (K : ∀ k : Nat, (k : Int) < n → T k = U k) (rs : List Rl) (pl : Nat) (t : Tr) (h : Int) : tgS T n rs pl t h = tgS U n rs pl t h := by
  have H := cg_ob K
  rw [tgS_E, tgS_E, cg_nmS H]
  cases e : nmS U n h with
  | inl w => rw [pb_l, pb_l]
  | inr g =>
    rw [pb_r, pb_r, cg_nm K e]
    simp only [cg_atsF K, tgE, cg_stb' H, cg_mbS H]
theorem cg_txF (H : ob T n = ob U n) : ∀ (k r : Nat) (h : Int), txF T n k r h = txF U n k r h
  | 0, r, h => rfl
  | k + 1, r, h => by simp only [txF, H, cg_pcS H, cg_txF H k]
theorem cg_teS (H : ob T n = ob U n) (pl : Nat) (t : Tr) (h : Int) : teS T n pl t h = teS U n pl t h := by simp only [teS, cg_pcS H, cg_txF H]
theorem cg_enS (K : ∀ k : Nat, (k : Int) < n → T k = U k) (t : Tr) (h : Int) : enS T n t h = enS U n t h := by
  have H := cg_ob K
  unfold enS
  rw [cg_nmS H, cg_mbS H, cg_sk H]
  cases e : nmS U n (h + 2) with
  | inl w => rw [pb_l, pb_l]
  | inr g => rw [pb_r, pb_r, cg_nm K e]
theorem cg_ctF (K : ∀ k : Nat, (k : Int) < n → T k = U k) (rs : List Rl) : ∀ (k pl : Nat) (t : Tr) (h : Int), ctF T n rs k pl t h = ctF U n rs k pl t h
  | 0, pl, t, h => rfl
  | k + 1, pl, t, h => by
    have H := cg_ob K
    simp only [ctF, H, cg_stb' H, cg_enS K, cg_cmS H, cg_tgS K, cg_teS H, cg_ctF K rs k]
theorem rdS_cong (K : ∀ k : Nat, (k : Int) < n → T k = U k) : rdS T n = rdS U n := by
  have H := cg_ob K
  unfold rdS
  rw [cg_mcS H, cg_mbS H]
  simp only [cg_dtS K, cg_tgS K, cg_ctF K]
end Pa03
