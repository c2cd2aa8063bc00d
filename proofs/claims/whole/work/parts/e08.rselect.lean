/-! The reference's select. -/
section Pe08a
variable {T U : Nat → Int} {n : Int}
theorem cg_dgP (H : ob T n = ob U n) : ∀ (k : Nat) (v h : Int), dgP T n k v h = dgP U n k v h
  | 0, v, h => rfl
  | k + 1, v, h => by rw [dgP, dgP, H, cg_dgP H k]
theorem cg_quF (H : ob T n = ob U n) (q : Int) : ∀ (k : Nat) (h : Int), quF T n q k h = quF U n q k h
  | 0, h => rfl
  | k + 1, h => by rw [quF, quF, H, cg_quF H q k]
theorem cg_quS (K : ∀ k : Nat, (k : Int) < n → T k = U k) {h : Int} (h0 : 0 ≤ h) : quS T n h = quS U n h := by
  have H := cg_ob K
  unfold quS
  rw [H, cg_quF H]
  split
  · next hq =>
    cases hz : quF U n (ob U n h) (n - h).toNat (h + 1) with
    | inl e => rfl
    | inr y =>
      have := quF_ok U n _ (by omega) _ _ _ hz
      rw [pb_r, pb_r, cg_nb K (by omega) (by omega)]
  · rfl
theorem quS_ge {h y : Int} {v : By} (hq : quS T n h = .inr (v, y)) : h ≤ y ∧ y ≤ n := by
  unfold quS at hq
  split at hq
  · next ho =>
    obtain ⟨z, h1, h2⟩ := pb_inr hq
    cases h2
    have := quF_ok T n _ (by omega) _ _ _ h1
    omega
  · cases hq
theorem cg_nmb (K : ∀ k : Nat, (k : Int) < n → T k = U k) {h g : Int} (h0 : 0 ≤ h ∧ h ≤ n) (hy : nmS U n h = .inr g) : nb T h g = nb U h g := by
  have := nmS_ok hy
  exact cg_nb K h0.1 (this.2.2.2 h0.2)
theorem cg_brS (K : ∀ k : Nat, (k : Int) < n → T k = U k) {h : Int} (h0 : 0 ≤ h ∧ h ≤ n) : brS T n h = brS U n h := by
  have H := cg_ob K
  unfold brS
  rw [H, cg_dgP H, cg_stb H, cg_stb H, cg_nmS H, cg_quS K (by omega)]
  split
  · rfl
  · split
    · rfl
    · split
      · rfl
      · cases hz : nmS U n (if ob U n h = 64 then h + 1 else h) with
        | inl e => rfl
        | inr y =>
          have hb : (0 ≤ (if ob U n h = 64 then h + 1 else h) ∧ (if ob U n h = 64 then h + 1 else h) ≤ n) := by
            by_cases w : ob U n h = 64
            · rw [if_pos w]; have := ob_lt (c := 64) (by decide) w; omega
            · rw [if_neg w]; exact h0
          have hok := nmS_ok hz
          rw [pb_r, pb_r, cg_nmb K hb hz, cg_quS K (by omega)]
theorem brS_ge {h y : Int} {q : BrM} (h0 : 0 ≤ h ∧ h ≤ n) (hq : brS T n h = .inr (q, y)) : h ≤ y ∧ y ≤ n := by
  unfold brS at hq
  split at hq
  · cases hq
    exact dgP_ok T n 4 0 h h0.2
  · split at hq
    · next hst => cases hq; have := stb_room _ _ h0.1 (by decide) (by decide) hst; simp only [List.length_cons, List.length_nil] at this; omega
    · split at hq
      · obtain ⟨⟨v, w⟩, h1, h2⟩ := pb_inr hq
        cases h2
        have := quS_ge h1
        omega
      · obtain ⟨z, h1, h2⟩ := pb_inr hq
        have hok := nmS_ok h1
        have hb : h ≤ (if ob T n h = 64 then h + 1 else h) ∧ (if ob T n h = 64 then h + 1 else h) ≤ n := by
          by_cases w : ob T n h = 64
          · rw [if_pos w]; have := ob_lt (c := 64) (by decide) w; omega
          · rw [if_neg w]; omega
        have hzn := hok.2.2.2 hb.2
        by_cases w : ob T n z = 61
        · rw [if_pos w] at h2
          obtain ⟨⟨v, w'⟩, h3, h4⟩ := pb_inr h2
          cases h4
          have := quS_ge h3
          omega
        · rw [if_neg w] at h2
          cases h2; omega
theorem mbS_ge {h y c : Int} (hc : c ≠ -1) (hy : mbS T n h c = .inr y) : y = h + 1 ∧ y ≤ n := by
  unfold mbS at hy
  split at hy
  · next ho => cases hy; have := ob_lt hc ho; omega
  · cases hy
theorem cg_brsF (K : ∀ k : Nat, (k : Int) < n → T k = U k) : ∀ (k : Nat) (l : List BrM) (h : Int), 0 ≤ h ∧ h ≤ n → brsF T n k l h = brsF U n k l h
  | 0, l, h, _ => rfl
  | k + 1, l, h, h0 => by
    have H := cg_ob K
    rw [brsF, brsF, H, cg_mbS H]
    split
    · next ho =>
      have hlt := ob_lt (c := 91) (by decide) ho
      split
      · rfl
      · rw [cg_brS K (by omega)]
        cases hz : brS U n (h + 1) with
        | inl e => rw [pb_l, pb_l]
        | inr q =>
          have hq := brS_ge (q := q.1) (y := q.2) (by omega) hz
          rw [pb_r, pb_r]
          cases hw : mbS U n q.2 93 with
          | inl e => rw [pb_l, pb_l]
          | inr y =>
            have := mbS_ge (by decide) hw
            rw [pb_r, pb_r]
            exact cg_brsF K k _ y (by omega)
    · rfl
theorem brsF_ge : ∀ (k : Nat) (l : List BrM) (h : Int) (l' : List BrM) (y : Int), 0 ≤ h ∧ h ≤ n → brsF T n k l h = .inr (l', y) → h ≤ y ∧ y ≤ n
  | 0, l, h, l', y, h0, hr => by simp only [brsF] at hr; cases hr; omega
  | k + 1, l, h, l', y, h0, hr => by
    unfold brsF at hr
    split at hr
    · next ho =>
      have hlt := ob_lt (c := 91) (by decide) ho
      split at hr
      · cases hr
      · obtain ⟨⟨q, w⟩, h1, h2⟩ := pb_inr hr
        obtain ⟨z, h3, h4⟩ := pb_inr h2
        have a1 := brS_ge (by omega) h1
        have a2 := mbS_ge (by decide) h3
        have a2' : z = w + 1 := a2.1
        have := brsF_ge k _ z l' y (by omega) h4
        omega
    · cases hr; omega
theorem hdS_ge {h : Int} {q : Int × Option By × Int} (h0 : 0 ≤ h ∧ h ≤ n) (hq : hdS T n h = .inr q) : h ≤ q.2.2 ∧ q.2.2 ≤ n := by
  have i1 : ∀ {t g : Int} {o : Option By}, h ≤ g → g ≤ n → q = (t, o, g) → h ≤ q.2.2 ∧ q.2.2 ≤ n := fun a1 a2 a3 => by rw [a3]; exact ⟨a1, a2⟩
  unfold hdS at hq
  split at hq
  · next hst => cases hq; have := stb_room _ _ h0.1 (by decide) (by decide) hst; simp only [List.length_cons, List.length_nil] at this; exact i1 (by omega) (by omega) rfl
  · by_cases w : ob T n h = 64
    · rw [if_pos w, if_pos w] at hq
      have hlt := ob_lt (c := 64) (by decide) w
      split at hq
      · next ho => cases hq; have := ob_lt (c := 42) (by decide) ho; exact i1 (by omega) (by omega) rfl
      · obtain ⟨z, h1, h2⟩ := pb_inr hq
        cases h2
        have hok := nmS_ok h1
        have := hok.2.2.2 (by omega)
        exact i1 (by omega) (by omega) rfl
    · rw [if_neg w, if_neg w] at hq
      split at hq
      · next ho => cases hq; have := ob_lt (c := 42) (by decide) ho; exact i1 (by omega) (by omega) rfl
      · obtain ⟨z, h1, h2⟩ := pb_inr hq
        cases h2
        have hok := nmS_ok h1
        have := hok.2.2.2 h0.2
        exact i1 (by omega) (by omega) rfl
theorem cg_hdS (K : ∀ k : Nat, (k : Int) < n → T k = U k) {h : Int} (h0 : 0 ≤ h ∧ h ≤ n) : hdS T n h = hdS U n h := by
  have H := cg_ob K
  have go : ∀ (t g : Int), 0 ≤ g ∧ g ≤ n → (pb (nmS U n g) fun y => (.inr (t, some (nb T g y), y) : PR (Int × Option By × Int))) = pb (nmS U n g) fun y => .inr (t, some (nb U g y), y) := by
    intro t g hg
    cases hz : nmS U n g with
    | inl e => rw [pb_l, pb_l]
    | inr y => rw [pb_r, pb_r, cg_nmb K hg hz]
  unfold hdS
  rw [cg_stb H, H, cg_nmS H]
  by_cases hst : stb U n h [116, 101, 120, 116, 40, 41] = true
  · rw [if_pos hst, if_pos hst]
  · rw [if_neg hst, if_neg hst]
    by_cases w : ob U n h = 64
    · rw [if_pos w, if_pos w]
      have hlt := ob_lt (c := 64) (by decide) w
      rw [go 3 (h + 1) (by omega)]
    · rw [if_neg w, if_neg w, go 4 h h0]
theorem cg_psS (K : ∀ k : Nat, (k : Int) < n → T k = U k) {dp : Bool} {c : Nat} {h : Int} (h0 : 0 ≤ h ∧ h ≤ n) : psS T n dp c h = psS U n dp c h := by
  have H := cg_ob K
  unfold psS
  rw [H, cg_stb H, cg_hdS K h0]
  split
  · split
    · rfl
    · split
      · rfl
      · split
        · rfl
        · cases hz : hdS U n h with
          | inl e => rw [pb_l, pb_l]
          | inr q =>
            have := hdS_ge h0 hz
            rw [pb_r, pb_r, cg_brsF K 5 [] q.2.2 (by omega)]
  · rfl
theorem psS_ge {dp : Bool} {c : Nat} {h y : Int} {s : StM} (h0 : 0 ≤ h ∧ h ≤ n) (hq : psS T n dp c h = .inr (s, y)) : h ≤ y ∧ y ≤ n := by
  unfold psS at hq
  split at hq
  · split at hq
    · cases hq
    · split at hq
      · next hst => cases hq; have := stb_room _ _ h0.1 (by decide) (by decide) hst; simp only [List.length_cons, List.length_nil] at this; omega
      · split at hq
        · next ho => cases hq; have := ob_lt (c := 46) (by decide) ho; omega
        · obtain ⟨q, h1, h2⟩ := pb_inr hq
          obtain ⟨z, h3, h4⟩ := pb_inr h2
          cases h4
          have a1 := hdS_ge h0 h1
          have a2 := brsF_ge 5 [] q.2.2 z.1 z.2 (by omega) h3
          omega
  · cases hq
theorem cg_paF (K : ∀ k : Nat, (k : Int) < n → T k = U k) : ∀ (k : Nat) (l : List StM) (dp : Bool) (h : Int), 0 ≤ h ∧ h ≤ n → paF T n k l dp h = paF U n k l dp h
  | 0, l, dp, h, _ => rfl
  | k + 1, l, dp, h, h0 => by
    have H := cg_ob K
    rw [paF, paF, cg_psS K h0]
    cases hz : psS U n dp l.length h with
    | inl e => rw [pb_l, pb_l]
    | inr q =>
      have hq := psS_ge (s := q.1) (y := q.2) h0 hz
      rw [pb_r, pb_r, H, cg_stb H, cg_mbS H]
      split
      · rfl
      · split
        · next hst =>
          have := stb_room _ _ (by omega) (by decide) (by decide) hst
          simp only [List.length_cons, List.length_nil] at this
          exact cg_paF K k _ _ _ (by omega)
        · cases hw : mbS U n q.2 47 with
          | inl e => rw [pb_l, pb_l]
          | inr y =>
            have := mbS_ge (by decide) hw
            rw [pb_r, pb_r]
            exact cg_paF K k _ _ _ (by omega)
theorem paS_cong (hn : 0 ≤ n) (K : ∀ k : Nat, (k : Int) < n → T k = U k) : paS T n = paS U n := by
  have H := cg_ob K
  unfold paS
  rw [cg_stb H, H]
  split
  · next hst =>
    have := stb_room _ _ (by omega) (by decide) (by decide) hst
    simp only [List.length_cons, List.length_nil] at this
    rw [cg_paF K _ _ _ _ (by omega)]
  · split
    · next ho =>
      have := ob_lt (c := 47) (by decide) ho
      split
      · rfl
      · rw [cg_paF K _ _ _ _ (by omega)]
    · rw [cg_paF K _ _ _ _ (by omega)]
end Pe08a
def ToldR (l : List Nat) (MI : Nat → Nat → Int) : Prop := MI 124 68 = (l.length : Nat) ∧ l.length ≤ 600 ∧ ∀ (i a : Nat), l[i]? = some a → MI 176 i = (a : Int)
def chRF (i k : Nat) : Prop := chPR i k ∨ i = 126 ∨ (i = 124 ∧ (k = 1 ∨ k = 3))
def chRT (i k : Nat) : Prop := chRF i k ∨ (i = 124 ∧ k = 68) ∨ (176 ≤ i ∧ i ≤ 179)
section Pe08
variable {cs : Cs} {Q : Option AV → Mm → Prop} {MI ML OI : Nat → Nat → Int} {bk d e nw th x pl : Nat} {T TD : Nat → Int} {n nD : Int} {D : Dm} {S : Nat → Bool}
def chTo (i k : Nat) : Prop := (i = 124 ∧ k = 68) ∨ (176 ≤ i ∧ i ≤ 179)
theorem HldR_to {MI' : Nat → Nat → Int} (h : HldR bk TD nD pl D MI ML) (f : frP chTo MI MI') : HldR bk TD nD pl D MI' ML :=
  HldR_P h (fun i h1 h2 => frP_row f (fun k z => by unfold chTo at z; omega)) (f 124 7 (by unfold chTo; omega)) (f 124 8 (by unfold chTo; omega))
theorem c_rsel142 {l1 l2 : Int} (hQ : ∀ MI', ToldR ((List.range D.2.1.length).filter S) MI' → frP chTo OI MI' → Q (some (vI (((List.range D.2.1.length).filter S).length : Nat))) (MI', ML, GR d e nw th x)) :
    ∀ (m k : Nat) (pre : List Nat) (MI : Nat → Nat → Int), k + m = D.2.1.length → pre.length ≤ k → pre ++ (List.range' k (D.2.1.length - k)).filter S = (List.range D.2.1.length).filter S → ToldR pre MI → HldR bk TD nD pl D MI ML → SetB D.2.1.length 177 S MI → frP chTo OI MI →
    wp cs mX12_select KD Q 142 [some (vR 124), some (vI l1), some (vI l2), some (vI (k : Nat))] [] (KD, MI, ML, GR d e nw th x) := by
  intro m
  induction m with
  | zero =>
    intro k pre MI hk hp heq hC hH hS hfr
    have p7 := hH.1.2.2.2.2.2.2
    refine v_X12_select_142 ?_
    rw [hH.2.1]
    simp only [Int.toNat_natCast]
    rw [hH.1.2.1.1]
    refine ⟨by omega, fun z => by omega, fun _ => ?_⟩
    rw [rg_nil (fun i a1 a2 => by omega), List.append_nil] at heq
    rw [hC.1, heq]
    exact hQ MI (by rw [← heq]; exact hC) hfr
  | succ m ih =>
    intro k pre MI hk hp heq hC hH hS hfr
    have p7 := hH.1.2.2.2.2.2.2
    have h600 := hH.1.2.1.2.1
    have ek : ((k : Nat) : Int) + 1 = ((k + 1 : Nat) : Int) := by omega
    rw [rg_cons (by omega)] at heq
    refine v_X12_select_142 ?_
    rw [hH.2.1]
    simp only [Int.toNat_natCast]
    rw [hH.1.2.1.1, hS k (by omega), ek]
    refine ⟨by omega, fun _ => ⟨by omega, fun h0 => ⟨by omega, ?_⟩, fun h0 => ?_⟩, fun z => by omega⟩
    · have hSk : S k = false := by
        cases hz : S k with
        | false => rfl
        | true => rw [hz, if_pos rfl] at h0; omega
      rw [List.filter_cons_of_neg (by rw [hSk]; decide)] at heq
      exact ih (k + 1) pre MI (by omega) (by omega) heq hC hH hS hfr
    · have hSk : S k = true := by
        cases hz : S k with
        | true => rfl
        | false => rw [hz, if_neg (by decide)] at h0; exact absurd rfl h0
      rw [List.filter_cons_of_pos hSk] at heq
      rw [hC.1]
      simp only [Int.toNat_natCast]
      refine ⟨by omega, ?_⟩
      rintro _ rfl
      rw [up2_ne (by decide), hC.1]
      refine ⟨by omega, ?_⟩
      rintro _ rfl
      have f1 : frP chTo MI (up2 (up2 MI 176 pre.length (k : Nat)) 124 68 ((pre.length : Nat) + 1)) := frP_tr (frP_up (by unfold chTo; omega)) (frP_up (by unfold chTo; omega))
      refine ⟨by omega, ih (k + 1) (pre ++ [k]) _ (by omega) (by simp; omega) (by rw [List.append_assoc]; exact heq) ⟨by rw [up2_eq]; simp, by simp; omega, fun i c hc => ?_⟩ (HldR_to hH f1) (fun i hi => ?_) (frP_tr hfr f1)⟩
      · rw [up2_ne (by decide)]
        by_cases hi : i < pre.length
        · rw [List.getElem?_append_left hi] at hc
          rw [up2_nk (by omega)]; exact hC.2.2 i c hc
        · have ht2 := (List.getElem?_eq_some_iff.mp hc).1
          simp only [List.length_append, List.length_singleton] at ht2
          have ht3 : i = pre.length := by omega
          subst ht3
          rw [List.getElem?_append_right (Nat.le_refl _)] at hc
          simp at hc
          subst hc
          exact up2_eq
      · rw [up2_ne (by decide), up2_ne (by decide)]; exact hS i hi
theorem c_rsel116 {l : List StM} {fr : Bool} {k : Nat} {l1 l2 : Int} (hW : WfN D.2.1) (hn : n ≤ 6000) (hby : ∀ k : Nat, (k : Int) < n → -128 ≤ T k ∧ T k < 128) (hV : ∀ s ∈ l, StV s)
    (hQ : ∀ MI', ToldR (selS D.2.1 fr l k) MI' → frP chTo OI MI' → Q (some (vI ((selS D.2.1 fr l k).length : Nat))) (MI', ML, GR d e nw th x)) :
    ∀ (r : List StM) (j : Nat) (S : Nat → Bool) (MI : Nat → Nat → Int), l.drop j = r → j ≤ l.length → selS D.2.1 fr l k = (List.range D.2.1.length).filter (r.foldl (fun S s => goS D.2.1 s S) S) → MI 126 = T → SpsR T n l MI → HldR bk TD nD pl D MI ML → SetB D.2.1.length 177 S MI → frP chTo OI MI →
    wp cs mX12_select KD Q 116 [some (vR 124), some (vI l1), some (vI l2), some (vI (j : Nat))] [] (KD, MI, ML, GR d e nw th x) := by
  intro r
  induction r with
  | nil =>
    intro j S MI hdr hjl heq hT hP hH hS hfr
    have hge : l.length ≤ j := List.drop_eq_nil_iff.mp hdr
    refine v_X12_select_116 ?_
    rw [hP.1]
    refine ⟨fun z => by omega, fun _ => ?_⟩
    rintro _ rfl
    have f1 : frP chTo MI (up2 MI 124 68 0) := frP_up (by unfold chTo; omega)
    rw [List.foldl_nil] at heq
    refine c_rsel142 (S := S) (OI := OI) (fun M c f => by have := hQ M (by rw [heq]; exact c) f; rw [heq] at this; exact this) D.2.1.length 0 [] _ (by omega) (by simp) (by rw [rg_0]; rfl) ⟨up2_eq, by simp, fun i a ha => by simp at ha⟩ (HldR_to hH f1) (fun i hi => ?_) (frP_tr hfr f1)
    rw [up2_ne (by decide)]; exact hS i hi
  | cons s r ih =>
    intro j S MI hdr hjl heq hT hP hH hS hfr
    have hlt : j < l.length := by
      refine Decidable.byContradiction fun w => ?_
      rw [List.drop_eq_nil_of_le (by omega)] at hdr; cases hdr
    have hs : l[j]? = some s := by
      have hz := List.getElem?_drop (xs := l) (i := j) (j := 0)
      rw [hdr] at hz
      simpa using hz.symm
    have hdr' : l.drop (j + 1) = r := by rw [← List.drop_drop, hdr]; rfl
    have h12 := hP.2.1
    rw [List.foldl_cons] at heq
    refine v_X12_select_116 ?_
    rw [hP.1, show ((j : Nat) : Int) + 1 = ((j + 1 : Nat) : Int) by omega]
    refine ⟨fun _ => c_goStep (S := S) hH hW hn hT hby (by omega) (hP.2.2 j s hs) (hV s (List.mem_of_getElem? hs)) hS (fun M b f => rV_mk ⟨by omega, ?_⟩), fun z => by omega⟩
    have f1 : frP chTo MI M := frP_mono f (fun i k z => by unfold chG at z; unfold chTo; omega)
    exact ih (j + 1) (goS D.2.1 s S) M hdr' (by omega) heq (by rw [frP_row f1 (fun k z => by unfold chTo at z; omega)]; exact hT) ⟨by rw [f1 124 84 (by unfold chTo; omega)]; exact hP.1, hP.2.1, fun j s hs => StpR_fr (hP.2.2 j s hs) (fun i h1 h2 => f1 i j (by unfold chTo; omega)) (fun i k h1 h2 h3 h4 => f1 i k (by unfold chTo; omega))⟩ (HldR_to hH f1) b (frP_tr hfr f1)
theorem c_rsel68 {fr : Bool} {k : Nat} {l2 : Int} (hk : k < D.2.1.length)
    (hQ : ∀ MI', SetB D.2.1.length 177 (fun i => decide (i = if fr = true then 0 else k)) MI' → frP chTo OI MI' → wp cs mX12_select KD Q 116 [some (vR 124), some (vI (k : Nat)), some (vI l2), some (vI 0)] [] (KD, MI', ML, GR d e nw th x)) :
    ∀ (m i : Nat) (MI : Nat → Nat → Int), i + m = D.2.1.length → HldR bk TD nD pl D MI ML → MI 124 85 = (if fr = true then 1 else 0) → (∀ j, j < i → MI 177 j = (if decide (j = if fr = true then 0 else k) = true then 1 else 0)) → frP chTo OI MI →
    wp cs mX12_select KD Q 68 [some (vR 124), some (vI (k : Nat)), some (vI l2), some (vI (i : Nat))] [] (KD, MI, ML, GR d e nw th x) := by
  intro m
  induction m with
  | zero =>
    intro i MI hi hH h85 h177 hfr
    have p7 := hH.1.2.2.2.2.2.2
    refine v_X12_select_68 ?_
    rw [hH.2.1]
    simp only [Int.toNat_natCast]
    rw [hH.1.2.1.1]
    exact ⟨by omega, fun z => by omega, fun _ => hQ MI (fun j hj => h177 j (by omega)) hfr⟩
  | succ m ih =>
    intro i MI hi hH h85 h177 hfr
    have p7 := hH.1.2.2.2.2.2.2
    have h600 := hH.1.2.1.2.1
    have go : ∀ v : Int, v = (if decide (i = if fr = true then 0 else k) = true then 1 else 0) → wp cs mX12_select KD Q 68 [some (vR 124), some (vI (k : Nat)), some (vI l2), some (vI ((i + 1 : Nat) : Int))] [] (KD, up2 MI 177 i v, ML, GR d e nw th x) := by
      intro v hv
      have f1 : frP chTo MI (up2 MI 177 i v) := frP_up (by unfold chTo; omega)
      refine ih (i + 1) _ (by omega) (HldR_to hH f1) (by rw [up2_ne (by decide)]; exact h85) (fun j hj => ?_) (frP_tr hfr f1)
      by_cases h : j = i
      · subst h; rw [up2_eq]; exact hv
      · rw [up2_nk h]; exact h177 j (by omega)
    refine v_X12_select_68 ?_
    rw [hH.2.1]
    simp only [Int.toNat_natCast]
    rw [hH.1.2.1.1, h85, show ((i : Nat) : Int) + 1 = ((i + 1 : Nat) : Int) by omega]
    cases fr with
    | false =>
      refine ⟨by omega, fun _ => ⟨fun _ => ⟨fun he => ⟨by omega, ?_⟩, fun he => ⟨by omega, ?_⟩⟩, fun z => absurd rfl z⟩, fun z => by omega⟩
      · rintro _ rfl
        exact ⟨by omega, go 1 (by rw [if_neg (show ¬ (false = true) by decide), decide_eq_true (show i = k by omega), if_pos rfl])⟩
      · rintro _ rfl
        exact ⟨by omega, go 0 (by rw [if_neg (show ¬ (false = true) by decide), decide_eq_false (show ¬ i = k by omega), if_neg (by decide)])⟩
    | true =>
      refine ⟨by omega, fun _ => ⟨fun z => absurd z (by decide), fun _ => ⟨fun he => ⟨by omega, ?_⟩, fun he => ⟨by omega, ?_⟩⟩⟩, fun z => by omega⟩
      · rintro _ rfl
        exact ⟨by omega, go 1 (by rw [if_pos (show true = true from rfl), decide_eq_true (show i = 0 by omega), if_pos rfl])⟩
      · rintro _ rfl
        exact ⟨by omega, go 0 (by rw [if_pos (show true = true from rfl), decide_eq_false (show ¬ i = 0 by omega), if_neg (by decide)])⟩
theorem c_rselect {k : Int} (hH : RefH D MI ML) (hW : D.2.1 ≠ [] → WfN D.2.1) (ht : 0 ≤ MI 124 1 ∧ MI 124 1 ≤ 6000) (hby : ∀ k, -128 ≤ MI 125 k ∧ MI 125 k < 128) (hb6 : ∀ k, -128 ≤ MI 126 k ∧ MI 126 k < 128)
    (hZ : ¬ (0 ≤ k ∧ k < (D.2.1.length : Nat)) ∨ n < 0 ∨ MI 124 1 < n → Q (some (vI (-9))) (MI, ML, GR d e nw th x))
    (hF : 0 ≤ k ∧ k < (D.2.1.length : Nat) → 0 ≤ n ∧ n ≤ MI 124 1 → ∀ f p, paS (MI 125) n = .inl (f, p) → ∀ MI', frP chRF MI MI' → MI' 124 1 = 0 → MI' 124 6 = p → (∀ k, -128 ≤ MI' 126 k ∧ MI' 126 k < 128) → Q (some (vI f)) (MI', ML, GR d e nw th x))
    (hT : 0 ≤ k ∧ k < (D.2.1.length : Nat) → 0 ≤ n ∧ n ≤ MI 124 1 → ∀ fr l, paS (MI 125) n = .inr (fr, l) → ∀ MI', frP chRT MI MI' → MI' 124 1 = 0 → MI' 124 6 = -1 → (∀ k, -128 ≤ MI' 126 k ∧ MI' 126 k < 128) → ToldR (selS D.2.1 fr l k.toNat) MI' → Q (some (vI ((selS D.2.1 fr l k.toNat).length : Nat))) (MI', ML, GR d e nw th x)) :
    wp cs mX12_select KD Q 0 (padL [vR 124, vI k, vI n] 4) [] (KD, MI, ML, GR d e nw th x) := by
  rcases hH with ⟨hd0, h9⟩ | ⟨h9, bk, TD, nD, pl, hH⟩
  · refine v_X12_select_0 ⟨fun _ => hZ (Or.inl (fun w => by rw [hd0] at w; have h2 : k < 0 := w.2; omega)), fun z => absurd h9 z⟩
  · have p7 := hH.1.2.2.2.2.2.2
    have h600 := hH.1.2.1.2.1
    refine v_X12_select_0 ⟨fun z => by omega, fun _ => ?_⟩
    rw [hH.2.1]
    simp only [Int.toNat_natCast]
    rw [hH.1.2.1.1]
    refine ⟨by omega, by omega, w_X12_in (rI_mk ?_)⟩
    by_cases hk : 0 ≤ k ∧ k < (D.2.1.length : Nat)
    · rw [show bI (0 ≤ k ∧ k ≤ ((D.2.1.length : Nat) : Int) - 1) = 1 from if_pos (by omega)]
      refine ⟨fun z => by omega, fun _ => w_X12_in (rI_mk ?_)⟩
      by_cases hn : 0 ≤ n ∧ n ≤ MI 124 1
      · rw [show bI (0 ≤ n ∧ n ≤ MI 124 1) = 1 from if_pos hn]
        refine ⟨fun z => by omega, fun _ => ?_⟩
        have hF' := hF hk hn
        have hT' := hT hk hn
        obtain ⟨kN, hkN⟩ : ∃ j : Nat, k = (j : Int) := ⟨k.toNat, by omega⟩
        obtain ⟨nN, hnN⟩ : ∃ j : Nat, n = (j : Int) := ⟨n.toNat, by omega⟩
        rw [hkN] at hT' hk ⊢
        rw [Int.toNat_natCast] at hT'
        have hkl : kN < D.2.1.length := by omega
        have hWf := hW (fun z => by rw [z] at hkl; exact absurd hkl (by simp))
        rw [hnN]
        refine w_X12_begin (by omega) hby (rV_mk ?_)
        rw [← hnN]
        obtain ⟨M0, hM0⟩ : ∃ O, O = rs (up2 (up2 (cpm MI 125 126 nN) 124 3 n) 124 1 0) 0 0 (-1) (MI 124 51) (MI 124 52) := ⟨_, rfl⟩
        rw [← hM0]
        have r0 : ∀ j, j ≠ 124 → j ≠ 126 → M0 j = MI j := fun j z1 z2 => by
          rw [hM0, rs_row z1]; funext k; rw [up2_ne z1, up2_ne z1]; unfold cpm; rw [if_neg (fun w => z2 w.1)]
        have r124 : ∀ j, ¬ (j = 1 ∨ j = 3 ∨ j = 4 ∨ j = 5 ∨ j = 6) → M0 124 j = MI 124 j := fun j hj => by
          rw [hM0]
          by_cases j51 : j = 51
          · subst j51; exact rs_r.2.2.2.1
          · by_cases j52 : j = 52
            · subst j52; exact rs_r.2.2.2.2
            · rw [mvr_rs.2 j (by omega) (by omega) (by omega) j51 j52, up2_nk (by omega), up2_nk (by omega)]
              unfold cpm; rw [if_neg (fun w => by omega)]
        have t1 : M0 124 1 = 0 := by rw [hM0, mvr_rs.2 1 (by decide) (by decide) (by decide) (by decide) (by decide), up2_eq]
        have f0 : frP chRF MI M0 := fun i j hp => by
          by_cases i6 : i = 126
          · exact absurd (Or.inr (Or.inl i6)) hp
          · by_cases i4 : i = 124
            · subst i4
              exact r124 j (fun w => hp (by unfold chRF chPR ch5; omega))
            · rw [r0 i i4 i6]
        have tx : ∀ j : Nat, (j : Int) < n → M0 126 j = MI 125 j := fun j hj => by
          rw [hM0, rs_row (by decide), up2_ne (by decide), up2_ne (by decide)]
          unfold cpm; rw [if_pos ⟨rfl, by omega⟩]
        have t6 : ∀ k, -128 ≤ M0 126 k ∧ M0 126 k < 128 := fun j => by
          rw [hM0, rs_row (by decide), up2_ne (by decide), up2_ne (by decide)]
          unfold cpm
          split
          · exact hby j
          · exact hb6 j
        have s0 : StP (M0 126) n (.inr 0) M0 := by
          refine ⟨rfl, ?_, by omega, ?_, ?_, ?_, by omega, by omega⟩
          · rw [hM0, mvr_rs.2 3 (by decide) (by decide) (by decide) (by decide) (by decide), up2_nk (by decide), up2_eq]
          · rw [hM0]; exact rs_r.1
          · rw [hM0]; exact rs_r.2.1
          · rw [hM0]; exact rs_r.2.2.1
        have hpc := paS_cong (T := M0 126) (U := MI 125) (n := n) hn.1 tx
        have H0 : HldR bk TD nD pl D M0 ML := HldR_P hH (fun i h1 h2 => r0 i (by omega) (by omega)) (r124 7 (by decide)) (r124 8 (by decide))
        refine c_rpath s0 (fun fr l y M1 hp s1 f1 S1 e85 => rV_mk ?_) (fun f p M1 hp s1 f1 => rV_mk ?_)
        · rw [hpc] at hp
          have f01 : frP chRF MI M1 := frP_tr f0 (frP_mono f1 (fun i k z => Or.inl z))
          have H1 : HldR bk TD nD pl D M1 ML := HldR_P H0 (fun i h1 h2 => frP_row f1 (fun k z => by unfold chPR ch5 at z; omega)) (f1 124 7 (by unfold chPR ch5; omega)) (f1 124 8 (by unfold chPR ch5; omega))
          refine py_isGood s1 (fun a' z => rI_mk ⟨fun z => by omega, fun _ => ?_⟩) (fun f' p' z => by cases z)
          have hby' : ∀ k : Nat, (k : Int) < n → -128 ≤ M0 126 k ∧ M0 126 k < 128 := fun j hj => by rw [tx j hj]; exact hby j
          refine c_rsel68 (OI := M1) (fr := fr) hkl (fun M2 b2 f2 => ?_) D.2.1.length 0 M1 (by omega) H1 e85 (fun j hj => by omega) (frP_rfl _ _)
          refine c_rsel116 (OI := M1) (T := M0 126) (n := n) (fr := fr) (l := l) (k := kN) hWf (by omega) hby' (paS_V hp) (fun M3 t3 f3 => ?_) l 0 _ M2 rfl (by omega) rfl ?_ ?_ (HldR_to H1 f2) b2 f2
          · refine hT' fr l hp M3 (frP_tr (frP_mono f01 (fun i k z => Or.inl z)) (frP_mono f3 (fun i k z => Or.inr z))) ?_ ?_ (fun j => by rw [f3 126 j (by unfold chTo; omega), s1.1]; exact t6 j) t3
            · rw [f3 124 1 (by unfold chTo; omega), f1 124 1 (by unfold chPR ch5; omega)]; exact t1
            · rw [f3 124 6 (by unfold chTo; omega)]; exact s1.2.2.2.2.2.1
          · rw [frP_row f2 (fun k z => by unfold chTo at z; omega)]; exact s1.1
          · exact ⟨by rw [f2 124 84 (by unfold chTo; omega)]; exact S1.1, S1.2.1, fun j s hs => StpR_fr (S1.2.2 j s hs) (fun i h1 h2 => f2 i j (by unfold chTo; omega)) (fun i k h1 h2 h3 h4 => f2 i k (by unfold chTo; omega))⟩
        · rw [hpc] at hp
          have f01 : frP chRF MI M1 := frP_tr f0 (frP_mono f1 (fun i k z => Or.inl z))
          refine py_isGood s1 (fun a' z => by cases z) (fun f' p' z => rI_mk ⟨fun _ => ?_, fun z => absurd rfl z⟩)
          rw [s1.2.2.2.1]
          exact hF' f p hp M1 f01 (by rw [f1 124 1 (by unfold chPR ch5; omega)]; exact t1) s1.2.2.2.2.2.1 (fun j => by rw [s1.1]; exact t6 j)
      · rw [show bI (0 ≤ n ∧ n ≤ MI 124 1) = 0 from if_neg hn]
        exact ⟨fun _ => hZ (Or.inr (by omega)), fun z => absurd rfl z⟩
    · rw [show bI (0 ≤ k ∧ k ≤ ((D.2.1.length : Nat) : Int) - 1) = 0 from if_neg (by omega)]
      exact ⟨fun _ => hZ (Or.inl hk), fun z => absurd rfl z⟩
end Pe08
