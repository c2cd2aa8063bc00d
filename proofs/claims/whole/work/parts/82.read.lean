section P82
variable {cs : Cs} {Q : Option AV → Mm → Prop} {MI ML OI OL : Nat → Nat → Int} {b d e nw th x : Nat} {T : Nat → Int} {n h : Int} {N : List By} {pl : Nat} {od : Option By} {ds : List Dc} {rs : List Rl}
theorem WfN_ne {ns : List Nd} (hW : WfN ns) : ∀ (k : Nat) (y : Nd), ns[k]? = some y → y.1 = 1 → y.2.2.1 ≠ [] := fun k y hy h1 => by
  by_cases hk : 0 < k
  · rcases (hW.2 k y hy hk).1.1 with h | h | h
    · exact h.2.1
    · omega
    · omega
  · have : k = 0 := by omega
    subst this
    rw [hW.1] at hy; cases hy; simp at h1
theorem c_tree_l (hbd : b = 38 ∨ b = 81) (hby : ∀ k, -128 ≤ T k ∧ T k < 128) (hG : RuG rs) (hV : RuV rs) : ∀ (k pl : Nat) (t : Tr) (h l2 : Int) (N : List By) (MI : Nat → Nat → Int), CurC b T n OI OL h MI ML → DocC b T n N pl (od, ds, rs) t.1 (t.2.1 ++ [0]) t.2.2 MI ML → TrV t → TrC t MI → NmK N h → 0 ≤ l2 ∧ l2 + 1 ≤ h → (n - h).toNat < k →
    (∀ pl' t' y, ctF T n rs k pl t h = .inr (pl', t', y) → ∀ N' MI', CurC b T n OI OL y MI' ML → DocC b T n N' pl' (od, ds, rs) t'.1 [] t'.2.2 MI' ML → TrV t' → NmK N' y → Q (some (vI 1)) (MI', ML, GR d e nw th 1)) →
    (∀ f z, ctF T n rs k pl t h = .inl (f, z) → ∀ MI', FaiC b OI OL f z MI' ML → Q (some (vI 0)) (MI', ML, GR d e nw th 1)) →
    wp cs mX10_readTree KD Q 40 [some (vR 10), some (vR b), some (vI l2), none] [] (KD, MI, ML, GR d e nw th 1) := by
  intro k
  induction k with
  | zero => intro pl t h l2 N MI _ _ _ _ _ _ hk; omega
  | succ k ih =>
    intro pl t h l2 N MI hc hD hI hC hN hl hk hT hF
    have h0 := hc.2.2.2.2.1
    have hn := hc.2.1
    have hn6 := hc.2.2.1
    have hp := hD.2.2.2.2.2.2.1
    rw [ctF] at hT hF
    refine v_X10_readTree_40 hbd ⟨fun _ => ⟨fun hd => ?_, fun hd => ?_⟩, fun z => by omega⟩
    · rw [hC.2] at hd
      have hne : t.2.1 ≠ [] := fun z => by rw [z] at hd; simp at hd
      rw [if_neg hne] at hT hF
      refine lx_takeIf (k := 30) (by decide) hc (fun hs MI1 c1 m1 => rI_mk ⟨fun z => by omega, fun _ => ?_⟩) (fun hs => rI_mk ⟨fun _ => ?_, fun z => absurd rfl z⟩)
      · have s2 : sl 30 = 2 := by decide
        rw [s2] at c1
        rw [if_pos (show stb T n h [60, 47] = true from hs)] at hT hF
        obtain ⟨ec, os, ht⟩ : ∃ ec os, t.2.1 = ec :: os := by
          cases hq : t.2.1 with
          | nil => exact absurd hq hne
          | cons a l => exact ⟨a, l, rfl⟩
        refine c_readEndTag hbd ht h0.1 c1 (DocC_mv hbd hD m1) hI.1 ⟨by rw [m1 10 (by decide)]; exact hC.1, by rw [m1 10 (by decide)]; exact hC.2⟩ hN (WfN_ne hI.2) (fun t' y hy MI2 c2 d2 i2 tc2 k2 => rI_mk ⟨fun z => by omega, fun _ => ⟨by omega, ?_⟩⟩) (fun f z hy MI2 f2 => rI_mk ⟨fun _ => hF f z (by rw [hy]; rfl) _ f2, fun z => absurd rfl z⟩)
        have hy1 := enS_wf hy hne hI
        rw [hy, pb_r] at hT hF
        exact ih pl t' y (l2 + 1) N MI2 c2 d2 hy1.1 tc2 k2 (by omega) (by omega) hT hF
      rw [if_neg (fun z : stb T n h [60, 47] = true => by rw [show sB 30 = [60, 47] from rfl] at hs; rw [hs] at z; cases z)] at hT hF
      refine lx_takeIf (k := 0) (by decide) hc (fun hs2 MI1 c1 m1 => rI_mk ⟨fun z => by omega, fun _ => ?_⟩) (fun hs2 => rI_mk ⟨fun _ => ?_, fun z => absurd rfl z⟩)
      · have s4 : sl 0 = 4 := by decide
        rw [s4] at c1
        rw [if_pos (show stb T n h [60, 33, 45, 45] = true from hs2)] at hT hF
        refine lx_finishComment c1 (fun y hy MI2 c2 m2 => rI_mk ⟨fun z => by omega, fun _ => ⟨by omega, ?_⟩⟩) (fun f z hy MI2 f2 => rI_mk ⟨fun _ => hF f z (by rw [hy]; rfl) _ f2, fun z => absurd rfl z⟩)
        have hy1 := cmS_le (by omega) hy
        have m12 := mvd_tr m1 m2
        rw [hy, pb_r] at hT hF
        exact ih pl t y (l2 + 1) N MI2 c2 (DocC_mv hbd hD m12) hI ⟨by rw [m12 10 (by decide)]; exact hC.1, by rw [m12 10 (by decide)]; exact hC.2⟩ (NmK_mono hN (by omega)) (by omega) (by omega) hT hF
      rw [if_neg (fun z : stb T n h [60, 33, 45, 45] = true => by rw [show sB 0 = [60, 33, 45, 45] from rfl] at hs2; rw [hs2] at z; cases z)] at hT hF
      refine lx_takeIf (k := 27) (by decide) hc (fun hs3 MI1 c1 m1 => rI_mk ⟨fun z => by omega, fun _ => ?_⟩) (fun hs3 => rI_mk ⟨fun _ => ?_, fun z => absurd rfl z⟩)
      · have s1 : sl 27 = 1 := by decide
        rw [s1] at c1
        have hob : ob T n h = 60 := stbT rfl hs3
        rw [if_pos hob] at hT hF
        refine c_readTag hbd hby hG c1 (DocC_mv hbd hD m1) hI.1 ⟨by rw [m1 10 (by decide)]; exact hC.1, by rw [m1 10 (by decide)]; exact hC.2⟩ (NmK_mono hN (by omega)) (by omega) (fun pl' t' y hy N2 MI2 c2 d2 i2 tc2 k2 => rI_mk ⟨fun z => by omega, fun _ => ⟨by omega, ?_⟩⟩) (fun f z hy MI2 f2 => rI_mk ⟨fun _ => hF f z (by rw [hy]; rfl) _ f2, fun z => absurd rfl z⟩)
        have hy1 := tgS_wf hby hV (by omega) (by omega) hy hI
        rw [hy, pb_r] at hT hF
        exact ih pl' t' y (l2 + 1) N2 MI2 c2 d2 hy1.1 tc2 k2 (by omega) (by omega) hT hF
      · have hob : ob T n h ≠ 60 := stbF rfl hs3
        rw [if_neg hob] at hT hF
        refine c_readText hbd hob hc hD hI.1 hC (fun pl' t' y hy MI2 c2 d2 tc2 => rI_mk ⟨fun z => by omega, fun _ => ⟨by omega, ?_⟩⟩) (fun f z hy MI2 f2 => rI_mk ⟨fun _ => hF f z (by rw [hy]; rfl) _ f2, fun z => absurd rfl z⟩)
        have hy1 := teS_wf h0.1 hob (by omega) hy hI
        rw [hy, pb_r] at hT hF
        have h2 := c2.2.2.2.2.1
        exact ih pl' t' y (l2 + 1) N MI2 c2 d2 hy1.1 tc2 (NmK_mono hN (by omega)) (by omega) (by omega) hT hF
    · rw [hC.2] at hd
      have hnil : t.2.1 = [] := List.length_eq_zero_iff.mp (by omega)
      rw [if_pos hnil] at hT
      have hD' := hD
      rw [hnil] at hD'
      have hW := hI.1.1
      rw [hnil] at hW
      refine c_closeRoot hbd hc hD' hW ⟨_, hI.2.1, rfl⟩ (fun MI1 c1 d1 => rV_mk (hT pl t h rfl N MI1 c1 d1 hI hN))
theorem TrV_root : TrV ([(0, -1, [], [], 0, 0)], [], 0) := by
  have e1 : eS [((0, -1, [], [], 0, 0) : Nd)] 0 = 1 := by decide
  refine ⟨⟨⟨by simp, fun o ho => ?_, fun k y hy hk2 hop hes o ho => ?_⟩, ⟨fun j y hy => ?_, fun f hf => ?_, fun i j y z hy hz g1 => ?_⟩, trivial, by simp, by simp⟩, rfl, fun k y hy hk => ?_⟩
  · simp at ho; subst ho; exact ⟨by decide, by decide, e1⟩
  · have := (List.getElem?_eq_some_iff.mp hy).1
    simp at this
    subst this; simp at hop
  · have := (List.getElem?_eq_some_iff.mp hy).1
    simp at this
    subst this; simp at hy; subst hy; decide
  · simp at hf
    subst hf
    have c0 : cntA [((0, -1, [], [], 0, 0) : Nd)] ((0 : Nat) : Int) = 0 := by decide
    rw [c0]
    refine ⟨by decide, fun j y hy => ?_⟩
    have := (List.getElem?_eq_some_iff.mp hy).1
    simp at this
    subst this; simp at hy; subst hy
    exact ⟨fun z => by simp at z, fun z => by omega⟩
  · have := (List.getElem?_eq_some_iff.mp hy).1
    simp at this
    subst this; simp at hy; subst hy; simp at g1
  · have := (List.getElem?_eq_some_iff.mp hy).1
    simp at this; omega
/-- the rest of a reading: the outermost ELEMENT and all that is in it -/
def trS (T : Nat → Int) (n : Int) (rs : List Rl) (pl : Nat) (h : Int) : PR (Nat × Tr × Int) := pb (mbS T n h 60) fun g => pb (tgS T n rs pl ([(0, -1, [], [], 0, 0)], [], 0) g) fun z => ctF T n rs (n + 1).toNat z.1 z.2.1 z.2.2
theorem c_readTree (hbd : b = 38 ∨ b = 81) (hby : ∀ k, -128 ≤ T k ∧ T k < 128) (hG : RuG rs) (hV : RuV rs) (hc : CurC b T n OI OL h MI ML) (hD : DocC b T n N pl (od, ds, rs) [] [] 0 MI ML) (hN : NmK N h)
    (hT : ∀ pl' t' y, trS T n rs pl h = .inr (pl', t', y) → ∀ N' MI', CurC b T n OI OL y MI' ML → DocC b T n N' pl' (od, ds, rs) t'.1 [] t'.2.2 MI' ML → TrV t' → NmK N' y → Q (some (vI 1)) (MI', ML, GR d e nw th 1))
    (hF : ∀ f z, trS T n rs pl h = .inl (f, z) → ∀ MI', FaiC b OI OL f z MI' ML → Q (some (vI 0)) (MI', ML, GR d e nw th 1)) :
    wp cs mX10_readTree KD Q 0 (padL [vR 10, vR b] 4) [] (KD, MI, ML, GR d e nw th 1) := by
  have h0 := hc.2.2.2.2.1
  have hn6 := hc.2.2.1
  unfold trS at hT hF
  refine v_X10_readTree_0 hbd (c_X3_add hbd (by decide) hD (Or.inl ⟨rfl, rfl⟩) (Or.inl rfl) (fun k y hy => by simp at hy) (fun k y hy => by simp at hy) (fun MI1 d1 f1 f1b _ => rI_mk ?_))
  intro m8 e8 m13 e13
  have fr : ∀ j, j ≠ 10 → m13 j = MI1 j := fun j hj => by rw [e13, e8]; funext k; rw [up2_ne hj, up2_ne hj]
  have c1 : CurC b T n OI OL h MI1 ML := CurC_fr hc hbd (fun j z1 z2 => f1 j (by omega) (by omega)) (fun _ _ => rfl)
  have c2 : CurC b T n OI OL h m13 ML := CurC_fr c1 hbd (fun j z1 z2 => fr j (by omega)) (fun _ _ => rfl)
  have d2 : DocC b T n N pl (od, ds, rs) [(0, -1, [], [], 0, 0)] [0] 0 m13 ML := DocC_fr (DocC_op (fun o ho => by cases ho) d1) (fun j z1 z2 => fr j (by omega)) (fun _ _ _ => rfl)
  have t101 : m13 10 1 = 0 := by rw [e13, up2_nk (by decide), e8, up2_eq]; rfl
  have t102 : m13 10 2 = 0 := by rw [e13, up2_eq]
  refine lx_take1 (k := 27) (c := 60) (by decide) rfl c2 (fun g hg MI3 c3 m3 => rI_mk ⟨fun z => by omega, fun _ => ?_⟩) (fun f z hg MI3 f3 => rI_mk ⟨fun _ => hF f z (by rw [hg]; rfl) _ f3, fun z => absurd rfl z⟩)
  have hg1 := mbS_eq hg
  rw [hg, pb_r] at hT hF
  have hp := hD.2.2.2.2.2.2.1
  refine c_readTag (t := ([(0, -1, [], [], 0, 0)], [], 0)) hbd hby hG c3 (DocC_mv hbd d2 m3) TrV_root.1 ⟨by rw [m3 10 (by decide)]; exact t101, by rw [m3 10 (by decide)]; exact t102⟩ (NmK_mono hN (by omega)) (by omega) (fun pl' t' y hy N4 MI4 c4 d4 i4 tc4 k4 => rI_mk ⟨fun z => by omega, fun _ => ?_⟩) (fun f z hy MI4 f4 => rI_mk ⟨fun _ => hF f z (by rw [hy]; rfl) _ f4, fun z => absurd rfl z⟩)
  have hy1 := tgS_wf hby hV (by omega) (by omega) hy TrV_root
  rw [hy, pb_r] at hT hF
  exact c_tree_l hbd hby hG hV (n + 1).toNat pl' t' y 0 N4 MI4 c4 d4 hy1.1 tc4 k4 (by omega) (by omega) hT hF
/-- a Doc begins -/
theorem c_X3_begin (hbd : b = 38 ∨ b = 81) (hn : 0 ≤ n ∧ n ≤ 6000) (hby : ∀ k, -128 ≤ MI 1 k ∧ MI 1 k < 128)
    (hQ : ∀ MI', DocC b (MI 1) n [] 0 (none, [], []) [] [] 0 MI' ML → (∀ j, ¬ (b ≤ j ∧ j ≤ b + 42) → MI' j = MI j) → Q none (MI', ML, GR d e nw th x)) :
    wp cs mX3_begin KD Q 0 (padL [vR b, vR 1, vI n] 3) [] (KD, MI, ML, GR d e nw th x) := by
  have e0 : (if 0 < (if 6000 < (if 6000 < n then 6000 else n) then 6000 else (if 6000 < n then 6000 else n)) then (if 6000 < (if 6000 < n then 6000 else n) then 6000 else (if 6000 < n then 6000 else n)) else 0) = n := by
    rw [if_neg (show ¬ 6000 < n by omega), if_neg (show ¬ 6000 < n by omega)]
    split <;> omega
  refine v_X3_begin_0 hbd (v_X5_begin_0 hbd ?_)
  rw [e0]
  refine ⟨⟨by omega, by omega, by omega, by omega, by omega, hby⟩, ?_⟩
  intro m25 e25
  refine w_fillI (kdb_8 hbd) (by omega) (by decide) (rV_mk ?_)
  intro m38 e38
  refine rV_mk ?_
  intro m14 e14
  refine v_X7_begin_0 hbd ?_
  intro m2 e2 m7 e7
  refine rV_mk ?_
  intro m26 e26 m31 e31 m36 e36 m41 e41 m46 e46
  have fr : ∀ j, ¬ (b ≤ j ∧ j ≤ b + 42) → m46 j = MI j := fun j hj => by
    funext k
    simp only [e46, e41, e36, e31, e26, e7, e2, e14, e38, e25, up2, fl, cpy]
    repeat rw [if_neg (by omega)]
  refine hQ m46 ⟨⟨?_, by simp, fun k hk => ?_, fun k y hy => by simp at hy, fun q hq => ?_, List.nodup_nil⟩, fun k y hy => by simp at hy, ⟨?_, by simp, fun j q hq => by simp at hq⟩, ⟨?_, by simp, ?_, by simp [tkA], fun r q hq => by simp at hq⟩, ⟨?_, by simp, ?_, fun k y hy => by simp at hy⟩, ?_, ⟨?_, ?_, by decide⟩, ?_⟩ fr
  · simp [e46, e41, e36, e31, e26, e7, e2, e14, e38, up2]
  · simp only [e46, e41, e36, e31, e26, e7, e2, e14, e38, e25, up2, fl, cpy]
    repeat rw [if_neg (by omega)]
    rw [if_pos ⟨trivial, by omega, by omega⟩]; simp
  · simp only [e46, e41, e36, e31, e26, e7, e2, e14, e38, up2, fl]
    repeat rw [if_neg (by omega)]
    rw [if_pos ⟨trivial, hq⟩]; rfl
  · simp [e46, e41, e36, e31, e26, e7, e2, e14, up2]
  · simp [e46, e41, e36, e31, e26, e7, e2, up2]
  · simp [e46, e41, e36, e31, e26, e7, e2, up2, tkA]
  · simp [e46, e41, e36, up2]
  · simp [e46, e41, e36, e31, up2, tle]
  · show m46 b 17 = -1
    simp [e46, e41, up2]
  · simp [e46, e41, e36, e31, e26, up2]
  · simp [e46, e41, e36, e31, e26, up2]
  · simp [e46, up2]
/-- what a reading tells of a DOCUMENT -/
def DmV (D : Dm) : Prop := WfN D.2.1 ∧ AtW D.2.1 ∧ RuG D.1.2.2 ∧ RuV D.1.2.2
theorem rdS_tr (T : Nat → Int) (n : Int) : rdS T n = pb (mcS T n 0) fun a => pb (dtS T n a) fun q => pb (trS T n q.2.1.2.2 q.1 q.2.2) fun w => pb (mcS T n w.2.2) fun y => if y < n then .inl (-1, y) else .inr (q.2.1, w.2.1.1, w.2.1.2.2) := by
  unfold rdS trS
  congr 1; funext a; congr 1; funext q
  cases mbS T n q.2.2 60 with
  | inl f => rfl
  | inr g =>
    rw [pb_r, pb_r]
    cases tgS T n q.2.1.2.2 q.1 ([(0, -1, [], [], 0, 0)], [], 0) g with
    | inl f => rfl
    | inr z => rfl
/-- read, up to the judging -/
theorem c_read (hbd : b = 38 ∨ b = 81) (hdd : d = 38 ∨ d = 81) (hby : ∀ k, -128 ≤ MI 1 k ∧ MI 1 k < 128) (ht : 0 ≤ MI 0 10 ∧ MI 0 10 ≤ 6000)
    (hZ : n < 0 ∨ MI 0 10 < n → Q (some (vI 0)) (MI, ML, GR d b nw th x))
    (hF : 0 ≤ n ∧ n ≤ MI 0 10 → ∀ f p, rdS (MI 1) n = .inl (f, p) → ∀ MI' ML', (∀ i, i ≠ 0 → ¬ regC b i → MI' i = MI i ∧ ML' i = ML i) → (∀ k, k ≠ 10 → k ≠ 11 → MI' 0 k = MI 0 k) → ML' 0 = ML 0 → MI' 0 10 = 0 → MI' 0 11 = p → Q (some (vI f)) (MI', ML', GR d b nw th 1))
    (hT : 0 ≤ n ∧ n ≤ MI 0 10 → ∀ D, rdS (MI 1) n = .inr D → ∀ N pl MI' ML', DocC b (MI 1) n N pl D.1 D.2.1 [] D.2.2 MI' ML' → DmV D → (∀ i, i ≠ 0 → ¬ regC b i → MI' i = MI i ∧ ML' i = ML i) → (∀ k, k ≠ 10 → k ≠ 11 → MI' 0 k = MI 0 k) → ML' 0 = ML 0 → MI' 0 10 = 0 → MI' 0 11 = -1 →
      wp cs mX4_judge KD (rV (GR b d nw th 1) fun m156 n156 => wp cs mX8_forget KD (rV (GR b d nw th 1) fun m163 n163 => wp cs mX0_forget KD (rV (GR b d nw th 1) fun m170 n170 => Q (some (vI (m170 b 16))) (m170, n170, (GR b d nw th 1))) 0 (padL [vR 28] 1) [] (KD, m163, n163, (GR b d nw th 1))) 0 (padL [vR 23] 1) [] (KD, m156, n156, (GR b d nw th 1))) 0 (padL [vR 11, vR b] 3) [] (KD, MI', ML', GR b d nw th 1)) :
    wp cs mX11_read KD Q 0 (padL [vR 0, vI n] 4) [] (KD, MI, ML, GR d b nw th x) := by
  refine v_X11_read_0 hbd hdd ⟨fun h1 => hZ (Or.inl h1), fun h1 => ⟨fun h2 => hZ (Or.inr h2), fun h2 => ?_⟩⟩
  intro m16 e16
  have er : ∀ j, j ≠ 0 → m16 j = MI j := fun j hj => by rw [e16]; funext k; exact up2_ne hj k
  have hF := hF ⟨h1, h2⟩
  have hT := hT ⟨h1, h2⟩
  rw [rdS_tr] at hF hT
  refine wp_M (M' := (cu m16 (m16 2 2) (m16 2 3) (m16 2 4) (m16 2 5) (m16 2 6), ML, GR d b nw th x)) (by rw [cu_id]) ?_
  refine w_X1_begin ⟨h1, by omega⟩ (rV_mk ?_)
  -- OI: the memory at the start
  obtain ⟨OI, hOI⟩ : ∃ O, O = cu (up2 m16 2 1 n) 0 0 0 0 (-1) := ⟨_, rfl⟩
  rw [← hOI]
  have o1 : ∀ j, j ≠ 0 → j ≠ 2 → OI j = MI j := fun j z1 z2 => by rw [hOI, cu_row z2]; funext k; rw [up2_ne z2, er j z1]
  have o0 : OI 0 = m16 0 := by rw [hOI, cu_row (by decide)]; funext k; rw [up2_ne (by decide)]
  have o21 : OI 2 1 = n := by rw [hOI, cu_r2.2.1, up2_eq]
  have e1 : OI 1 = MI 1 := o1 1 (by decide) (by decide)
  refine c_X3_begin hbd ⟨h1, by omega⟩ (by rw [e1]; exact hby) (fun MI1 d1 f1 => rV_mk ?_)
  rw [e1] at d1
  have c1 : CurC b (MI 1) n OI ML 0 MI1 ML := by
    refine ⟨by rw [f1 1 (by omega)]; exact e1, by rw [f1 2 (by omega)]; exact o21, ⟨h1, by omega, ?_⟩, ?_, ⟨by omega, h1⟩, fun i hi => ⟨f1 i (fun z => hi (Or.inr (Or.inr z))), rfl⟩⟩
    · rw [f1 2 (by omega), hOI]; exact cu_r2.2.2.2.2.2
    · rw [f1 2 (by omega), hOI]; exact cu_r2.1
  -- how it ends
  have fro : ∀ {M L : Nat → Nat → Int}, frC b OI ML M L → ∀ m, m = up2 M 0 11 (M 2 6) → (∀ i, i ≠ 0 → ¬ regC b i → m i = MI i ∧ L i = ML i) ∧ (∀ k, k ≠ 10 → k ≠ 11 → m 0 k = MI 0 k) ∧ L 0 = ML 0 ∧ m 0 10 = 0 ∧ m 0 11 = M 2 6 := by
    intro M L hf m em
    have h00 := hf 0 (by unfold regC; omega)
    refine ⟨fun i hi hr => ?_, fun k k1 k2 => ?_, h00.2, ?_, by rw [em, up2_eq]⟩
    · have := hf i hr
      refine ⟨?_, this.2⟩
      rw [em]; funext k; rw [up2_ne hi, this.1, o1 i hi (fun z => hr (Or.inl z))]
    · rw [em, up2_nk k2, h00.1, o0, e16, up2_nk k1]
    · rw [em, up2_nk (by decide), h00.1, o0, e16, up2_eq]
  have bad : ∀ (f p : Int) (M L : Nat → Nat → Int), FaiC b OI ML f p M L → (∀ MI' ML', (∀ i, i ≠ 0 → ¬ regC b i → MI' i = MI i ∧ ML' i = ML i) → (∀ k, k ≠ 10 → k ≠ 11 → MI' 0 k = MI 0 k) → ML' 0 = ML 0 → MI' 0 10 = 0 → MI' 0 11 = p → Q (some (vI f)) (MI', ML', GR d b nw th 1)) → wp cs mX11_read KD Q 106 [some (vR 0), some (vI n), none, none] [vI 0] (KD, M, L, GR d b nw th 1) := by
    intro f p M L hf hq
    refine v_X11_read_106 hbd hdd ?_
    intro m em
    refine ⟨fun _ => ?_, fun z => absurd rfl z⟩
    obtain ⟨g1, g2, g3, g4, g5⟩ := fro hf.2.2 m em
    have e5 : m 2 5 = f := by rw [em, up2_ne (by decide)]; exact hf.1
    rw [e5]
    exact hq m L g1 g2 g3 g4 (by rw [g5]; exact hf.2.1)
  have nk0 : NmK [] 0 := ⟨by simp [nmW], fun y hy => by cases hy⟩
  refine lx_skipComments c1 (fun a ha MI2 c2 m2 => rI_mk ⟨fun z => by omega, fun _ => ?_⟩) (fun f z ha MI2 f2 => rI_mk ⟨fun _ => bad f z _ _ f2 (hF f z (by rw [ha]; rfl)), fun z => absurd rfl z⟩)
  have ha1 := mcS_le (Int.le_refl _) h1 ha
  rw [ha, pb_r] at hF hT
  refine c_readDoctype hbd hby c2 (DocC_mv hbd d1 m2) (NmK_mono nk0 (by omega)) (fun pl D y hy N3 MI3 ML3 c3 d3 k3 r3 => rI_mk ⟨fun z => by omega, fun _ => ?_⟩) (fun f z hy MI3 ML3 f3 => rI_mk ⟨fun _ => bad f z _ _ f3 (hF f z (by rw [hy]; rfl)), fun z => absurd rfl z⟩)
  have gv := dtS_ok hby ha1.1 hy
  rw [hy, pb_r] at hF hT
  obtain ⟨od, ds, rs⟩ := D
  refine c_readTree hbd hby gv.1 gv.2 c3 d3 k3 (fun pl' t' w hw N4 MI4 c4 d4 i4 k4 => rI_mk ⟨fun z => by omega, fun _ => ?_⟩) (fun f z hw MI4 f4 => rI_mk ⟨fun _ => bad f z _ _ f4 (hF f z (by rw [hw]; rfl)), fun z => absurd rfl z⟩)
  rw [hw, pb_r] at hF hT
  refine lx_skipComments c4 (fun v hv MI5 c5 m5 => rI_mk ⟨fun z => by omega, fun _ => ?_⟩) (fun f z hv MI5 f5 => rI_mk ⟨fun _ => bad f z _ _ f5 (hF f z (by rw [hv]; rfl)), fun z => absurd rfl z⟩)
  rw [hv, pb_r] at hF hT
  refine lx_needEnd c5 (fun hge => rI_mk ⟨fun z => by omega, fun _ => ?_⟩) (fun hlt MI6 f6 => rI_mk ⟨fun _ => bad (-1) v _ _ f6 (hF (-1) v (by rw [if_pos hlt])), fun z => absurd rfl z⟩)
  rw [if_neg (by omega)] at hT
  refine v_X11_read_106 hbd hdd ?_
  intro m em
  refine ⟨fun z => by omega, fun _ => ?_⟩
  obtain ⟨g1, g2, g3, g4, g5⟩ := fro c5.2.2.2.2.2 m em
  refine hT _ rfl N4 pl' m ML3 ?_ ⟨i4.2, i4.1.2.1, gv.1, gv.2⟩ g1 g2 g3 g4 (by rw [g5]; exact c5.2.2.1.2.2)
  exact DocC_fr (DocC_mv hbd d4 m5) (fun j z1 z2 => by rw [em]; funext k; exact up2_ne (by omega) k) (fun _ _ _ => rfl)
end P82
