/-! walks of the reference -/
theorem pu_el_len1 {a : Nat → Int32} {w h nb q l c : Nat} (hk : pu_kind a q l ≠ 0) : ∀ i, (pu_el a w h nb q l c i).length ≤ 1
  | 0 => Nat.zero_le _
  | i + 1 => by
    have ih := pu_el_len1 (a := a) (w := w) (h := h) (nb := nb) (q := q) (l := l) (c := c) hk i
    rw [pu_el_S]
    cases pu_pt a w h nb (pu_bear a q l) c i with
    | none => exact ih
    | some d =>
      dsimp only []
      by_cases hc : pu_ce a w h nb q l d i = true ∧ i ≤ pu_most a q l ∧ (pu_kind a q l = 0 ∨ pu_el a w h nb q l c i = [])
      · rw [if_pos hc]
        rcases hc.2.2 with z | z
        · exact absurd z hk
        · rw [z]; exact Nat.le_refl 1
      · rw [if_neg hc]; exact ih
theorem pu_L_len {a : Nat → Int32} {w h nb q l c : Nat} (hwl : pu_wfl a w h q l) : (pu_L a w h nb q l c).length ≤ 36 := by
  unfold pu_L
  by_cases hk : pu_kind a q l = 0
  · have := pu_el_len (a := a) (w := w) (h := h) (nb := nb) (q := q) (l := l) (c := c) (pu_most a q l + 1)
    have e : pu_most a q l = pu_many a q l + pu_give a q l := by unfold pu_most; rw [if_pos hk]
    obtain ⟨⟨-, m2⟩, ⟨-, m4⟩⟩ := hwl.2.2.1 hk
    have m2 : pu_many a q l < 31 := m2
    have m4 : pu_give a q l < 6 := m4
    omega
  · have := pu_el_len1 (a := a) (w := w) (h := h) (nb := nb) (c := c) hk (pu_most a q l + 1)
    omega
theorem pu_l498 : tw_ln 498 = 9 := by decide +kernel
theorem pu_l455 : tw_ln 455 = 36 := by decide +kernel
theorem pu_l456 : tw_ln 456 = 36 := by decide +kernel
theorem pu_lR {l : Nat} (h : l < 9) : tw_ln (498 + 1 + 1 * l) = 400 := eq_of_beq (tw_rng (n := 9) (p := fun l => tw_ln (498 + 1 + 1 * l) == 400) (by decide +kernel) l h)
theorem pu_rend {σ : tw_Sg} {a : Nat → Int32} {w h nb nc q l c n : Nat} {S : Nat → Prop} (H : pu_WF a w h nb nc) (h44 : σ 444 = a) (hq : q < nc) (hl : l < pu_nl a q) (hc : c < w * h) (hS : pu_es σ (498 + 1 + 1 * (l + 1)) (w * h) S) (hn : 1000 < n) : pu_wp (tw_P_X12_endOf n (Int32.ofNat q) (Int32.ofNat l) (Int32.ofNat c) σ) (fun r => pu_fr pu_F9 σ r.2 ∧ (match pu_fst a w h nb q l S c with | none => r.1 = -1 | some x => ∃ j, j < 36 ∧ r.1 = Int32.ofNat j ∧ r.2 455 j = Int32.ofNat x.1 ∧ r.2 456 j = Int32.ofNat x.2)) := by
  subst h44
  have hm400 := pu_wfm_le H.1
  have h4 := H.2.2.1.2.1
  have hnl : pu_nl (σ 444) q < 9 := (H.2.2.1.2.2 q hq).2.2.1.2
  have hwl := (H.2.2.1.2.2 q hq).2.2.2.2 l hl
  unfold tw_P_X12_endOf
  refine pu_bde pu_legAt (pu_bd (pu_layEnds H.1 H.2.1 H.2.2.1 hq hl hc (by omega)) (fun r hr => ?_))
  obtain ⟨r1, r2, r3⟩ := hr
  have hlen := pu_L_len (nb := nb) (c := c) hwl
  have hfind := pu_fe_find (a := σ 444) (w := w) (h := h) (nb := nb) (q := q) (l := l) (c := c) (S := S) (pu_most (σ 444) q l + 1)
  have hfind : (pu_L (σ 444) w h nb q l c).find? (fun x => pu_B (S x.1)) = pu_fst (σ 444) w h nb q l S c := hfind
  have hmem := pu_el_mem (a := σ 444) (w := w) (h := h) (nb := nb) (q := q) (l := l) (c := c) (pu_most (σ 444) q l + 1)
  have hmem : ∀ x, x ∈ pu_L (σ 444) w h nb q l c → x.1 < w * h := fun x hx => pu_pt_lt H.1 hc _ _ (hmem x hx).2.2.1
  generalize pu_L (σ 444) w h nb q l c = L at r1 r2 hlen hfind hmem
  rw [r1, pu_l498, pu_l455]
  refine pu_lt (pu_lt ?_)
  refine pu_lp (J := fun s => ∃ j, j ≤ L.length ∧ s = Int32.ofNat j ∧ ∀ i (hi : i < L.length), i < j → pu_B (S L[i].1) = false) (m := fun s => 40 - s.toNatClampNeg) ?_ n _ (by show 40 - _ < n; omega) ⟨0, by omega, rfl, fun i _ hi => absurd hi (Nat.not_lt_zero _)⟩
  rintro k6 jj ⟨j, hj, e1, h0⟩ hk6
  subst e1
  refine pu_if (fun c1 => ?_) (fun c1 => ?_)
  · have c1 := (pu_le (by omega) (by omega)).mp c1
    have e : pu_fst (σ 444) w h nb q l S c = none := by
      rw [← hfind]
      refine List.find?_eq_none.mpr (fun x hx => ?_)
      obtain ⟨i, hi, ei⟩ := List.getElem_of_mem hx
      have := h0 i hi (by omega)
      rw [ei] at this
      rw [this]
      decide
    refine pu_some ⟨r3, ?_⟩
    rw [e]
  have c1 : j < L.length := by rw [pu_le (by omega) (by omega)] at c1; omega
  have hgj : L[j]? = some L[j] := List.getElem?_eq_getElem c1
  obtain ⟨g1, g2⟩ := r2 j _ hgj
  have hx := hmem L[j] (List.getElem_mem c1)
  have el : Int32.ofNat l + (1 : Int32) = Int32.ofNat (l + 1) := pu_add l 1
  rw [el, pu_n (show l + 1 < 2147483648 by omega), pu_n (show j < 2147483648 by omega), pu_lR (show l + 1 < 9 by omega), g1, pu_n (show L[j].1 < 2147483648 by omega)]
  refine pu_ck (pu_ok (by omega) (by omega)) (pu_ck (pu_ok (by omega) (by omega)) (pu_ck (pu_ok (by omega) (by omega)) ?_))
  have ev : r.2 (498 + 1 + 1 * (l + 1)) L[j].1 = pu_bi (S L[j].1) := by
    rw [r3 _ (by unfold pu_F9; omega)]
    exact hS _ hx
  refine pu_if (fun c2 => ?_) (fun c2 => ?_)
  · rw [ev, pu_bi_0] at c2
    refine pu_lt ?_
    have em : Int32.ofNat j + (1 : Int32) = Int32.ofNat (j + 1) := pu_add j 1
    rw [em]
    refine hk6 _ ⟨j + 1, by omega, rfl, fun i hi hij => ?_⟩ ?_
    · by_cases e : i = j
      · subst e; exact pu_B_f c2
      · exact h0 i hi (by omega)
    · show 40 - (Int32.ofNat (j + 1)).toNatClampNeg < 40 - (Int32.ofNat j).toNatClampNeg
      rw [pu_n (by omega), pu_n (by omega)]
      omega
  · rw [ev, pu_bi_0] at c2
    have c2 := Classical.not_not.mp c2
    have e : pu_fst (σ 444) w h nb q l S c = some L[j] := by
      rw [← hfind]
      refine List.find?_eq_some_iff_getElem.mpr ⟨pu_B_t c2, j, c1, rfl, fun i hi => ?_⟩
      rw [h0 i (by omega) hi]
      rfl
    refine pu_some ⟨r3, ?_⟩
    rw [e]
    exact ⟨j, by omega, rfl, g1, g2⟩
def pu_F16 (k : Nat) : Prop := k = 455 ∨ k = 456 ∨ (499 ≤ k ∧ k < 508)
theorem pu_nar_bi {P : Prop} : vp_nar .boolean (pu_bi P) = pu_bi P := by
  by_cases p : P
  · rw [pu_bi_t p]; exact pu_nar1
  · rw [pu_bi_f p]; exact pu_nar0
theorem pu_rleads {σ : tw_Sg} {a : Nat → Int32} {w h nb nc q g n : Nat} (H : pu_WF a w h nb nc) (h44 : σ 444 = a) (hq : q < nc) (hg : g < w * h) (hn : 1000 < n) : pu_wp (tw_P_X12_layLeads n (Int32.ofNat q) (Int32.ofNat g) σ) (fun σ' => (∀ l, l ≤ pu_nl a q → pu_es σ' (498 + 1 + 1 * l) (w * h) (pu_Rl a w h nb q g l)) ∧ pu_fr pu_F16 σ σ') := by
  have hm400 := pu_wfm_le H.1
  have h4 := H.2.2.1.2.1
  have hnl : pu_nl a q < 9 := (H.2.2.1.2.2 q hq).2.2.1.2
  unfold tw_P_X12_layLeads
  have hlegs := pu_legs (σ := σ) (w := w) (h := h) (nc := nc) (q := q) (by rw [h44]; exact H.2.2.1) hq
  rw [h44] at hlegs
  refine pu_bde hlegs ?_
  rw [pu_l498]
  refine pu_lt (pu_lt ?_)
  refine pu_lp (J := fun s => ∃ l, l ≤ pu_nl a q + 1 ∧ s.1 = Int32.ofInt ((l : Int) - 1) ∧ (∀ l', l ≤ l' → l' ≤ pu_nl a q → pu_es s.2 (498 + 1 + 1 * l') (w * h) (pu_Rl a w h nb q g l')) ∧ pu_fr pu_F16 σ s.2) (m := fun s => (s.1.toInt + 1).toNat) ?_ n _ ?_ ⟨pu_nl a q + 1, Nat.le_refl _, ?_, fun l' z1 z2 => by omega, pu_fr_refl⟩
  rotate_left
  · show ((Int32.ofNat (pu_nl a q)).toInt + 1).toNat < n
    rw [pu_toInt (by omega)]
    omega
  · show Int32.ofNat (pu_nl a q) = _
    rw [← pu_ofInt (by omega)]
    congr 1
    omega
  rintro k5 ⟨ll, σ1⟩ ⟨l, hl, e1, hS, hF⟩ hk5
  dsimp only [] at e1 hS hF
  subst e1
  dsimp only []
  refine pu_if (fun c1 => ?_) (fun c1 => ?_)
  · rw [Int32.lt_iff_toInt_lt, pu_toInt0, pu_int (by omega) (by omega)] at c1
    exact pu_some ⟨fun l' hl' => hS l' (by omega) hl', hF⟩
  rw [Int32.lt_iff_toInt_lt, pu_toInt0, pu_int (by omega) (by omega)] at c1
  obtain ⟨m, rfl⟩ : ∃ m, l = m + 1 := ⟨l - 1, by omega⟩
  have em : Int32.ofInt (((m + 1 : Nat) : Int) - 1) = Int32.ofNat m := by
    rw [← pu_ofInt (show m < 2147483648 by omega)]
    congr 1
    omega
  rw [em] at hk5 ⊢
  refine pu_lt ?_
  refine pu_lp (J := fun s => ∃ k, k ≤ w * h ∧ s.2.1 = Int32.ofNat k ∧ s.1 = Int32.ofNat m ∧ (∀ l', m + 1 ≤ l' → l' ≤ pu_nl a q → pu_es s.2.2 (498 + 1 + 1 * l') (w * h) (pu_Rl a w h nb q g l')) ∧ (∀ d, d < k → s.2.2 (498 + 1 + 1 * m) d = pu_bi (pu_Rl a w h nb q g m d)) ∧ pu_fr pu_F16 σ s.2.2) (m := fun s => w * h - s.2.1.toNatClampNeg) ?_ n _ (by show w * h - _ < n; omega) ⟨0, by omega, rfl, rfl, hS, fun d hd => absurd hd (Nat.not_lt_zero _), hF⟩
  clear hS hF
  rintro k8 ⟨mm, kk, σ2⟩ ⟨k, hk, e1, e2, hS, hD, hF⟩ hk8
  dsimp only [] at e1 e2 hS hD hF
  subst e1; subst e2
  dsimp only []
  have e44 : σ2 444 = a := by rw [hF 444 (by unfold pu_F16; omega)]; exact h44
  refine pu_bde (pu_rcells (σ := σ2) (w := w) (h := h) (by rw [e44]; exact H.1)) ?_
  refine pu_if (fun c2 => ?_) (fun c2 => ?_)
  · have c2 := (pu_le (by omega) (by omega)).mp c2
    have : k = w * h := by omega
    subst this
    refine pu_lt ?_
    have ed : Int32.ofNat m + (-1 : Int32) = Int32.ofInt ((m : Int) - 1) := by
      have := pu_addI (x := m) (z := -1)
      rw [show ((m : Int) - 1) = (m : Int) + -1 from rfl, ← this]
      rfl
    rw [ed]
    refine hk5 _ ⟨m, by omega, rfl, fun l' y1 y2 => ?_, hF⟩ ?_
    · by_cases e : l' = m
      · subst e; exact hD
      · exact hS l' (by omega) y2
    · show ((Int32.ofInt ((m : Int) - 1)).toInt + 1).toNat < ((Int32.ofNat m).toInt + 1).toNat
      rw [pu_int (by omega) (by omega), pu_toInt (by omega)]
      omega
  have c2 : k < w * h := by rw [pu_le (by omega) (by omega)] at c2; omega
  rw [pu_n (show m < 2147483648 by omega), pu_n (show k < 2147483648 by omega), pu_lR (show m < 9 by omega)]
  refine pu_ck (pu_ok (by omega) (by omega)) ?_
  refine pu_jn (R := fun v => v.1 = pu_bi (pu_Rl a w h nb q g m k) ∧ pu_fr pu_F9 σ2 v.2) (fun v hv => ?_) (fun f hf => ?_)
  · obtain ⟨z1, z2⟩ := hv
    refine pu_ck (pu_ok (by omega) (by omega)) ?_
    rw [z1, pu_nar_bi]
    refine pu_lt (pu_lt ?_)
    have ek : Int32.ofNat k + (1 : Int32) = Int32.ofNat (k + 1) := pu_add k 1
    rw [ek]
    refine hk8 _ ⟨k + 1, by omega, rfl, rfl, fun l' y1 y2 d hd => ?_, fun d hd => ?_, pu_fr_trans hF (pu_fr_trans (pu_fr_mono z2 (fun k hk => by unfold pu_F9 at hk; unfold pu_F16; omega)) (pu_fr_up (by unfold pu_F16; omega)))⟩ ?_
    · show tw_up v.2 _ _ _ _ d = _
      rw [tw_up_n (by omega), z2 _ (by unfold pu_F9; omega)]
      exact hS l' y1 y2 d hd
    · show tw_up v.2 _ _ _ _ d = _
      rw [tw_up_s]
      unfold upd
      by_cases e : d = k
      · subst e; exact if_pos rfl
      · rw [if_neg e, z2 _ (by unfold pu_F9; omega)]
        exact hD d (by omega)
    · show w * h - (Int32.ofNat (k + 1)).toNatClampNeg < w * h - (Int32.ofNat k).toNatClampNeg
      rw [pu_n (by omega), pu_n (by omega)]
      omega
  refine pu_if (fun c3 => ?_) (fun c3 => ?_)
  · have hm : m < pu_nl a q := by
      have : m ≠ pu_nl a q := fun z => c3 (by rw [z])
      omega
    have hR := pu_Rl_fst (a := a) (w := w) (h := h) (nb := nb) (q := q) (g := g) (d := k) hm
    refine pu_bd (pu_rend H e44 hq hm c2 (hS (m + 1) (Nat.le_refl _) (by omega)) hn) (fun r hr => ?_)
    obtain ⟨r1, r2⟩ := hr
    cases ex : pu_fst a w h nb q m (pu_Rl a w h nb q g (m + 1)) k with
    | none =>
      rw [ex] at r2 hR
      refine pu_ift r2 (hf _ ⟨(pu_bi_f (fun z => ?_)).symm, r1⟩)
      obtain ⟨x, hx⟩ := hR.mp z
      cases hx
    | some x =>
      rw [ex] at r2 hR
      obtain ⟨j, j1, j2, -⟩ := r2
      exact pu_iff (by rw [j2]; exact pu_nm1 (by omega)) (hf _ ⟨(pu_bi_t (hR.mpr ⟨x, rfl⟩)).symm, r1⟩)
  · have c3 := (pu_eq (by omega) (by omega)).mp (Classical.not_not.mp c3)
    subst c3
    refine pu_if (fun c4 => ?_) (fun c4 => ?_)
    · refine hf _ ⟨(pu_bi_f (fun z => c4 (by rw [pu_Rl_end.mp z]))).symm, pu_fr_refl⟩
    · have c4 := (pu_eq (by omega) (by omega)).mp (Classical.not_not.mp c4)
      exact hf _ ⟨(pu_bi_t (pu_Rl_end.mpr c4)).symm, pu_fr_refl⟩
theorem pu_F16_T (k : Nat) (h : pu_F16 k) : k = 455 ∨ k = 456 ∨ (498 ≤ k ∧ k < 1036) := by unfold pu_F16 at h; omega
theorem pu_F9_T (k : Nat) (h : pu_F9 k) : k = 455 ∨ k = 456 ∨ (498 ≤ k ∧ k < 1036) := by unfold pu_F9 at h; omega
theorem pu_Q0_say {σ s : tw_Sg} {a : Nat → Int32} {w h nb nc : Nat} {o : Int32 ⊕ Int32} {v : Int32} (ho : o = .inl v) (hQ : pu_Q0 σ a w h nb nc s) : pu_QR σ a w h nb nc o (v, s) := pu_rsay ho hQ.1 hQ.2.1 hQ.2.2.1 hQ.2.2.2
/-- a start's lead, looked up -/
theorem pu_rlead0 {s : tw_Sg} {a : Nat → Int32} {w h nb nc q g k : Nat} (H : pu_WF a w h nb nc) (h44 : s 444 = a) (hS : pu_es s (498 + 1 + 1 * 0) (w * h) (pu_Rl a w h nb q g 0)) (hq : q < nc) (hk : k < pu_ns a q) : tw_P_X12_startOf (Int32.ofNat q) (Int32.ofNat k) s = some (Int32.ofNat (pu_sc a q k)) ∧ pu_sc a q k < w * h ∧ s (498 + 1 + 1 * 0) (pu_sc a q k) = pu_b1 (pu_ld a w h nb q g k) := by
  subst h44
  obtain ⟨s1, s2⟩ := pu_startOf H.1 H.2.2.1 hq hk
  exact ⟨s1, s2, hS _ s2⟩
theorem pu_rstarts {σ : tw_Sg} {a : Nat → Int32} {w h nb nc n : Nat} {q x y : Int32} (H : pu_WF a w h nb nc) (hL : pu_RL σ a w h nb nc) (hn : 1000 < n) : pu_wp (tw_P_X12_starts n q x y σ) (pu_QR σ a w h nb nc (pu_oStarts a w h nb nc q x y)) := by
  have hm400 := pu_wfm_le H.1
  have h4 := H.2.2.1.2.1
  unfold tw_P_X12_starts
  refine pu_ropenG hL (fun σ1 h0 hL1 hi1 hf1 => ?_)
  have hm1 : pu_wfm (σ1 444) w h := by rw [hL1.1]; exact H.1
  have e3 : σ1 444 3 = Int32.ofNat nc := by rw [hL1.1]; exact H.2.2.1.1
  cases eq : pu_clueOf nc q with
  | none =>
    refine pu_bde (pu_noClue_n e3 h4 h0 eq) ?_
    have ho : pu_oStarts a w h nb nc q x y = .inr 1 := by unfold pu_oStarts; rw [eq]
    exact pu_jn0 (pu_ift pu_10 (pu_some (pu_rfault ho hL1 hi1 hf1)))
  | some k =>
    refine pu_bde (pu_noClue_s e3 h4 h0 eq) (pu_jn0 (pu_iff (fun z => z rfl) ?_))
    obtain ⟨rfl, hk⟩ := pu_clueOf_some eq
    cases e : pu_cellOf w h x y with
    | none =>
      refine pu_bde (pu_noCell_n hm1 h0 e) ?_
      have ho : pu_oStarts a w h nb nc (Int32.ofNat k) x y = .inr 1 := by unfold pu_oStarts; rw [eq]; dsimp only []; rw [e]
      exact pu_iff pu_10 (pu_some (pu_rfault ho hL1 hi1 hf1))
    | some g =>
      have hg := pu_cellOf_lt e
      refine pu_bde (pu_noCell_s hm1 h0 e) (pu_ift rfl (pu_bde (pu_cellAt hm1 e) ?_))
      have ho : pu_oStarts a w h nb nc (Int32.ofNat k) x y = .inl (Int32.ofNat (pu_sum (pu_ld a w h nb k g) (pu_ns a k))) := by unfold pu_oStarts; rw [eq]; dsimp only []; rw [e]
      refine pu_bd (pu_rleads H hL1.1 hk hg hn) (fun σ2 h2 => ?_)
      obtain ⟨hS, hF⟩ := h2
      have hQ : pu_Q0 σ a w h nb nc σ2 := pu_Q0_fr H ⟨h0, hL1, hi1, hf1⟩ hF pu_F16_T
      obtain ⟨-, ⟨ens, hns⟩, -⟩ := H.2.2.1.2.2 k hk
      have hns : pu_ns a k < 9 := hns
      have ens : a (pu_cl k + 1) = Int32.ofNat (pu_ns a k) := ens
      rw [pu_l498, show Int32.toNatClampNeg (0 : Int32) = 0 from rfl, pu_lR (show 0 < 9 by decide)]
      refine pu_lt (pu_lt ?_)
      refine pu_lp (J := fun s => ∃ j, j ≤ pu_ns a k ∧ s.2 = Int32.ofNat j ∧ s.1 = Int32.ofNat (pu_sum (pu_ld a w h nb k g) j)) (m := fun s => 10 - s.2.toNatClampNeg) ?_ n _ (by show 10 - _ < n; omega) ⟨0, by omega, rfl, rfl⟩
      rintro k11 ⟨cc, jj⟩ ⟨j, hj, e1, e2⟩ hk11
      dsimp only [] at e1 e2
      subst e1; subst e2
      dsimp only []
      refine pu_bde pu_clueAt ?_
      have e1 : Int32.ofNat (pu_cl k) + (1 : Int32) = Int32.ofNat (pu_cl k + 1) := pu_add _ 1
      have hcl : pu_cl k + 1 < 1028 := by unfold pu_cl; omega
      rw [e1, pu_l444, pu_n (show pu_cl k + 1 < 2147483648 by omega), hQ.2.1.1, ens]
      refine pu_ck (pu_ok (by omega) hcl) ?_
      refine pu_if (fun c1 => ?_) (fun c1 => ?_)
      · have c1 := (pu_le (by omega) (by omega)).mp c1
        have : j = pu_ns a k := by omega
        rw [this]
        exact pu_some (pu_Q0_say ho hQ)
      have c1 : j < pu_ns a k := by rw [pu_le (by omega) (by omega)] at c1; omega
      obtain ⟨s1, s2, s3⟩ := pu_rlead0 H hQ.2.1.1 (hS 0 (Nat.zero_le _)) hk c1
      refine pu_ck (by decide) (pu_bde s1 ?_)
      rw [pu_n (show pu_sc a k j < 2147483648 by omega), s3]
      refine pu_ck (pu_ok (by omega) (by omega)) ?_
      refine pu_jn (R := fun v => v = pu_b1 (pu_ld a w h nb k g j)) (fun v hv => ?_) (fun f hf => ?_)
      · subst hv
        refine pu_lt (pu_lt ?_)
        have em : Int32.ofNat j + (1 : Int32) = Int32.ofNat (j + 1) := pu_add j 1
        rw [em]
        refine hk11 _ ⟨j + 1, by omega, rfl, pu_sumI⟩ ?_
        show 10 - (Int32.ofNat (j + 1)).toNatClampNeg < 10 - (Int32.ofNat j).toNatClampNeg
        rw [pu_n (by omega), pu_n (by omega)]
        omega
      · refine pu_if (fun c2 => ?_) (fun c2 => ?_)
        · rw [pu_b1_0] at c2
          exact hf _ (by rw [c2]; rfl)
        · rw [pu_b1_0] at c2
          exact hf _ (by rw [pu_bF c2]; rfl)
