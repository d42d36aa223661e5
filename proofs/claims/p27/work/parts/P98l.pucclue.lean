/-! the class: clues -/
section CCLUE
variable {σ σ0 : tw_Sg} {B : Nat → Nat} {L p n w h q : Nat} {E : Option (Int32 × Nat)} {A A' : Nat → Int32} {Q : tw_Sg → Prop}
/-- a row inside its clue q -/
def pu_AQ (A : Nat → Int32) (w h q : Nat) : Prop := (pu_wfm A w h ∧ pu_wfb A w h (pu_v A 2) ∧ pu_wfc A w h q ∧ pu_wfd A w h ∧ (A 4 = -1 ∨ pu_is A 4 (w * h)) ∧ (∀ j, 1028 ≤ j → A j = 0) ∧ (∀ q', q < q' → q' < 4 → ∀ j, j < 43 → A (pu_cl q' + j) = 0) ∧ ∃ c, c < w * h ∧ pu_land A c = true) ∧ q < 4 ∧ pu_wfq A w h q ∧ A (pu_cl q) = 0 ∧ ∀ i j, i < j → j < pu_ns A q → pu_v A (pu_cl q + 3 + i) ≠ pu_v A (pu_cl q + 3 + j)
def pu_dQ (A : Nat → Int32) (w h q : Nat) (b : tw_Sg) : Prop := pu_CD b A w h (pu_v A 2) q ∧ pu_CDp b A w q ∧ ∀ q', q < q' → q' < 4 → b 17 q' = 0 ∧ b 21 q' = 0
theorem pu_v0 {a : Nat → Int32} {i : Nat} (h : a i = 0) : pu_v a i = 0 := by unfold pu_v; rw [h]; rfl
theorem pu_AW_AQ (W : pu_AW A w h) (h4 : pu_v A 3 < 4) : pu_AQ A w h (pu_v A 3) := by
  obtain ⟨m1, b1, c1, d1, d6, hz, hcz, hL⟩ := W
  have z : ∀ j, j < 43 → A (pu_cl (pu_v A 3) + j) = 0 := fun j hj => hcz _ (Nat.le_refl _) h4 j hj
  have n1 : pu_ns A (pu_v A 3) = 0 := pu_v0 (z 1 (by decide))
  have n2 : pu_nl A (pu_v A 3) = 0 := pu_v0 (z 2 (by decide))
  refine ⟨⟨m1, b1, c1, d1, d6, hz, fun q' z1 z2 => hcz q' (by omega) z2, hL⟩, h4, ⟨Or.inl (z 0 (by decide)), pu_is_of (x := 0) (z 1 (by decide)) (by decide) (by decide), pu_is_of (x := 0) (z 2 (by decide)) (by decide) (by decide), fun k hk => by omega, fun l hl => by omega⟩, z 0 (by decide), fun i j _ hj => by omega⟩
theorem pu_dC_dQ {b : tw_Sg} (W : pu_AW A w h) (h4 : pu_v A 3 < 4) (D : pu_dC A w h b) : pu_dQ A w h (pu_v A 3) b := by
  have z : ∀ j, j < 43 → A (pu_cl (pu_v A 3) + j) = 0 := fun j hj => W.2.2.2.2.2.2.1 _ (Nat.le_refl _) h4 j hj
  have n1 : pu_ns A (pu_v A 3) = 0 := pu_v0 (z 1 (by decide))
  have n2 : pu_nl A (pu_v A 3) = 0 := pu_v0 (z 2 (by decide))
  obtain ⟨z1, z2⟩ := D.2 _ (Nat.le_refl _) h4
  exact ⟨D.1, ⟨by rw [z1, z 1 (by decide)], by rw [z2, z 2 (by decide)], fun k hk => by omega, fun l hl => by omega⟩, fun q' y1 y2 => D.2 q' (by omega) y2⟩
theorem pu_AQ_b (H : pu_AQ A w h q) : 0 < w ∧ w ≤ 20 ∧ 0 < h ∧ h ≤ 20 := ⟨H.1.1.2.2.1, H.1.1.2.2.2.1, H.1.1.2.2.2.2.1, H.1.1.2.2.2.2.2⟩
theorem pu_AQ_mk (H : pu_AQ A w h q) {m c : Nat} (hm : m < 8) (e : pu_mk A m = some c) : c < w * h := by
  unfold pu_mk at e
  by_cases z : A (808 + m) = -1
  · rw [if_pos z] at e; cases e
  · rw [if_neg z] at e
    have e := Option.some.inj e
    subst e
    exact ((H.1.2.2.2.1.2.2.1 m hm).resolve_left z).2
/-- what a clue's places may change -/
def pu_oq (A A' : Nat → Int32) (q : Nat) : Prop := ∀ j, ¬ (pu_cl q < j ∧ j < pu_cl q + 43) → A' j = A j
theorem pu_oq_q (o : pu_oq A A' q) {c : Nat} (hc : c ≠ q) : pu_eqq A A' c := fun j hj => o _ (by unfold pu_cl; omega)
theorem pu_oq_m (o : pu_oq A A' q) : pu_eqm A A' := fun m hm _ => o _ (by unfold pu_cl; omega)
theorem pu_AQ_part (H : pu_AQ A w h q) (o : pu_oq A A' q) (W : pu_wfq A' w h q) (hd : ∀ i j, i < j → j < pu_ns A' q → pu_v A' (pu_cl q + 3 + i) ≠ pu_v A' (pu_cl q + 3 + j)) : pu_AQ A' w h q := by
  obtain ⟨⟨⟨m1, m2, m3⟩, ⟨b1, b2, b3⟩, ⟨c1, c2, c3⟩, ⟨d1, d2, d3, d4, d5⟩, d6, hz, hcz, hL⟩, h4, -, h0, -⟩ := H
  have lo : ∀ j, j ≤ pu_cl q → A' j = A j := fun j hj => o j (by omega)
  have hcl : 856 ≤ pu_cl q := by unfold pu_cl; omega
  have hcl2 : pu_cl q + 43 ≤ 1028 := by unfold pu_cl; omega
  have e2 : pu_v A' 2 = pu_v A 2 := pu_v_cong (lo 2 (by omega))
  refine ⟨⟨⟨(lo 0 (by omega)).trans m1, (lo 1 (by omega)).trans m2, m3⟩, ⟨?_, ?_, fun k hk => ?_⟩, ⟨?_, c2, fun c hc => ?_⟩, ⟨fun c hc => ?_, fun c hc => ?_, fun m hm8 => ?_, pu_is_cong (lo 6 (by omega)) d4, pu_is_cong (lo 7 (by omega)) d5⟩, ?_, fun j hj => ?_, fun q' z1 z2 j hj => ?_, ?_⟩, h4, W, (lo _ (Nat.le_refl _)).trans h0, hd⟩
  · rw [e2, lo 2 (by omega)]; exact b1
  · rw [e2]; exact b2
  · rw [e2] at hk
    obtain ⟨l, t, r, u, g1, g2, g3, g4, g5⟩ := b3 k hk
    refine ⟨l, t, r, u, (lo _ (by omega)).trans g1, (lo _ (by omega)).trans g2, (lo _ (by omega)).trans g3, (lo _ (by omega)).trans g4, ?_⟩
    rw [lo (816 + 5 * k + 4) (by omega)]
    exact g5
  · rw [lo 3 (by omega)]; exact c1
  · exact pu_wfq_cong m3.2.1 m3.2.2.2 (pu_oq_q o (by omega)) (pu_oq_m o) (c3 c hc)
  · rw [lo _ (by omega)]; exact d1 c hc
  · rw [lo _ (by omega)]; exact d2 c hc
  · rw [lo _ (by omega)]
    exact (d3 m hm8).imp id (pu_is_cong (lo _ (by omega)))
  · rw [lo 4 (by omega)]
    exact d6.imp id (pu_is_cong (lo 4 (by omega)))
  · rw [o j (by omega)]; exact hz j hj
  · rw [pu_oq_q o (by omega) j hj]
    exact hcz q' z1 z2 j hj
  · obtain ⟨d, e1, e2⟩ := hL
    have := pu_wh m3.2.1 m3.2.2.2
    refine ⟨d, e1, ?_⟩
    unfold pu_land
    rw [lo _ (by omega)]
    exact e2
theorem pu_dQ_part {b b' : tw_Sg} (H : pu_AQ A w h q) (o : pu_oq A A' q) (D : pu_dQ A w h q b) (hb : ∀ j i, ¬ ((j = 17 ∨ j = 21) ∧ i = q) → ¬ ((j = 19 ∨ j = 23 ∨ j = 25 ∨ j = 27 ∨ j = 29 ∨ j = 31) ∧ 8 * q ≤ i ∧ i < 8 * q + 8) → b' j i = b j i) (C : pu_CDp b' A' w q) : pu_dQ A' w h q b' := by
  obtain ⟨⟨m1, ⟨-, b2, -⟩, ⟨-, c2, c3⟩, -⟩, h4, -⟩ := H
  have hwh := pu_wh m1.2.2.2.1 m1.2.2.2.2.2
  have lo : ∀ j, j ≤ pu_cl q → A' j = A j := fun j hj => o j (by omega)
  have hcl : 856 ≤ pu_cl q := by unfold pu_cl; omega
  have e2 : pu_v A' 2 = pu_v A 2 := pu_v_cong (lo 2 (by omega))
  have hbk : ∀ c, c ≠ q → pu_bq b b' c := fun c hc => ⟨hb _ _ (by omega) (by omega), hb _ _ (by omega) (by omega), fun k hk => ⟨hb _ _ (by omega) (by omega), hb _ _ (by omega) (by omega), hb _ _ (by omega) (by omega), hb _ _ (by omega) (by omega), hb _ _ (by omega) (by omega), hb _ _ (by omega) (by omega)⟩⟩
  obtain ⟨⟨⟨t1, t2, t3, t4, t5, t6, t7, t8⟩, hl, hd, hmk, hbd, hc⟩, -, hz⟩ := D
  unfold pu_dQ
  rw [e2]
  refine ⟨⟨⟨?_, ?_, ?_, ?_, ?_, ?_, ?_, fun z => ?_⟩, ?_, ?_, fun m hm8 => ?_, fun k hk => ?_, fun c hc' => ⟨?_, ?_⟩⟩, C, fun q' z1 z2 => ?_⟩
  · rw [hb 0 0 (by omega) (by omega), lo 0 (by omega)]; exact t1
  · rw [hb 0 1 (by omega) (by omega), lo 1 (by omega)]; exact t2
  · rw [hb 0 5 (by omega) (by omega), lo 2 (by omega)]; exact t3
  · rw [hb 0 11 (by omega) (by omega), lo 5 (by omega)]; exact t4
  · rw [hb 0 12 (by omega) (by omega), lo 6 (by omega)]; exact t5
  · rw [hb 13 0 (by omega) (by omega), lo 3 (by omega)]; exact t6
  · rw [hb 0 10 (by omega) (by omega), t7]
    unfold pu_tm
    rw [lo 4 (by omega), pu_v_cong (lo 4 (by omega))]
  · rw [lo 6 (by omega)] at z
    rw [hb 0 13 (by omega) (by omega), t8 z, pu_v_cong (lo 7 (by omega))]
  · refine pu_set_ext (pu_set_cong hl (funext fun i => hb 2 i (by omega) (by omega))) (fun c hc => ?_)
    unfold pu_land
    rw [lo (8 + c) (by omega)]
  · refine pu_set_ext (pu_set_cong hd (funext fun i => hb 4 i (by omega) (by omega))) (fun c hc => ?_)
    unfold pu_dug
    rw [lo (408 + c) (by omega)]
  · rw [hb 6 m (by omega) (by omega), hmk m hm8]
    unfold pu_mk
    rw [lo (808 + m) (by omega), pu_v_cong (lo (808 + m) (by omega))]
  · obtain ⟨k1, k2, k3⟩ := hbd k hk
    refine ⟨?_, ?_, ?_⟩
    · rw [hb 8 k (by omega) (by omega), k1, pu_v_cong (lo (816 + 5 * k) (by omega)), pu_v_cong (lo (816 + 5 * k + 1) (by omega))]
    · rw [hb 10 k (by omega) (by omega), k2, pu_v_cong (lo (816 + 5 * k + 2) (by omega)), pu_v_cong (lo (816 + 5 * k + 3) (by omega))]
    · rw [hb 12 k (by omega) (by omega), k3, lo (816 + 5 * k + 4) (by omega)]
  · rw [hb 15 c (by omega) (by omega), show A' (pu_cl c) = A (pu_cl c) from pu_oq_q o (by omega) 0 (by decide)]
    exact (hc c hc').1
  · exact pu_CDp_cong m1.2.2.2.1 m1.2.2.2.2.2 (pu_oq_q o (by omega)) (pu_oq_m o) (c3 c hc') (hbk c (by omega)) (hc c hc').2
  · rw [(hbk q' (by omega)).1, (hbk q' (by omega)).2.1]
    exact hz q' z1 z2
/-- n + 1 numbers below n: two are the same -/
theorem pu_pig : ∀ (n : Nat) (f : Nat → Nat), (∀ i, i ≤ n → f i < n) → ∃ i j, i < j ∧ j ≤ n ∧ f i = f j
  | 0, f, hf => absurd (hf 0 (Nat.le_refl _)) (Nat.not_lt_zero _)
  | n + 1, f, hf => by
    by_cases hx : ∃ i, i ≤ n ∧ f i = f (n + 1)
    · obtain ⟨i, h1, h2⟩ := hx
      exact ⟨i, n + 1, by omega, Nat.le_refl _, h2⟩
    · obtain ⟨i, j, h1, h2, h3⟩ := pu_pig n (fun i => if f i = n then f (n + 1) else f i) (fun i hi => by
        have a1 := hf i (by omega)
        have a2 := hf (n + 1) (Nat.le_refl _)
        have a3 : f i ≠ f (n + 1) := fun e => hx ⟨i, hi, e⟩
        by_cases e : f i = n
        · rw [if_pos e]; omega
        · rw [if_neg e]; omega)
      have a1 : f i ≠ f (n + 1) := fun e => hx ⟨i, by omega, e⟩
      have a2 : f j ≠ f (n + 1) := fun e => hx ⟨j, h2, e⟩
      refine ⟨i, j, h1, by omega, ?_⟩
      by_cases e1 : f i = n
      · by_cases e2 : f j = n
        · rw [e1, e2]
        · rw [if_pos e1, if_neg e2] at h3
          exact absurd h3.symm a2
      · by_cases e2 : f j = n
        · rw [if_neg e1, if_pos e2] at h3
          exact absurd h3 a1
        · rw [if_neg e1, if_neg e2] at h3
          exact h3
/-! a known mark, a start -/
noncomputable def pu_eK (B : Nat → Nat) (L : Nat) (A : Nat → Int32) (E : Option (Int32 × Nat)) (p : Nat) : Option (Int32 × Nat) := pu_fs (pu_fs E (pu_isM B L p) (-2) p) (A (808 + (B p - 97)) ≠ -1) (-5) p
theorem pu_scK (H : pu_SC B L w h σ0 Q E p σ) (w2 : w ≤ 20) (h2 : h ≤ 20) (hQ : ∀ b, Q b → ∀ m, m < 8 → b 6 m = pu_eS w (pu_mk A m)) (hlt : E = none → ∀ m c, m < 8 → pu_mk A m = some c → c < w * h) (hn : 2000 < n) : pu_wp (tw_P_X6_takeKnownMark n σ) (fun r => (pu_eK B L A E p = none → r.1 = Int32.ofNat (B p - 97) ∧ B p - 97 < 8) ∧ pu_SC B L w h σ0 Q (pu_eK B L A E p) (pu_nx B L p) r.2 ∧ pu_fA σ r.2) := by
  have hB := pu_SC_B H
  unfold tw_P_X6_takeKnownMark
  refine pu_bd (pu_scM H) (fun r2 hr => pu_lt ?_)
  obtain ⟨e1, H2, fa⟩ := hr
  have hget : ∃ v, tw_P_X7_get 408 r2.1 r2.2 = some v ∧ (pu_fs E (pu_isM B L p) (-2) p = none → (v = 0 ↔ A (808 + (B p - 97)) = -1)) := by
    by_cases z : pu_fs E (pu_isM B L p) (-2) p = none
    · have hm := pu_isM_lt hB (pu_fs0.mp z).2
      rw [e1 z]
      refine ⟨_, pu_get (th := 408) pu_l409 (by decide) hm.1, fun _ => ?_⟩
      rw [show r2.2 (408 + 1) (B p - 97) = pu_eS w (pu_mk A (B p - 97)) from hQ _ (H2.2.2.1 z) _ hm.1, pu_eSz (fun c hc => hlt (pu_fs0.mp z).1 _ _ hm.1 hc) w2 h2]
      exact pu_mk0
    · obtain ⟨v, hv⟩ := pu_get_any (σ := r2.2) (th := 408) (x := r2.1) (by rw [pu_l409]; decide)
      exact ⟨v, hv, fun y => absurd y z⟩
  obtain ⟨v, hv, hv0⟩ := hget
  refine pu_bde hv (pu_jn (R := fun t => pu_SC B L w h σ0 Q (pu_eK B L A E p) p t ∧ pu_fA σ t) (fun t ht => ?_) (fun f hf => ?_))
  · refine pu_bd (pu_scA ht.1 hn) (fun r hr => pu_some ⟨fun z => ?_, hr.1, pu_fA_trans ht.2 hr.2⟩)
    have z1 := (pu_fs0.mp z).1
    exact ⟨e1 z1, (pu_isM_lt hB (pu_fs0.mp z1).2).1⟩
  refine pu_if (fun c => hf _ ⟨?_, fa⟩) (fun c => ?_)
  · have e : pu_eK B L A E p = pu_fs E (pu_isM B L p) (-2) p := by
      unfold pu_eK
      generalize pu_fs E (pu_isM B L p) (-2) p = E1 at hv0
      cases E1 with
      | some e => rfl
      | none => exact pu_fs_y (fun z => c ((hv0 rfl).mpr z))
    rw [e]; exact H2
  · have c := Classical.not_not.mp c
    refine pu_bd (pu_scF (o := p) H2 (by decide) (fun z => (pu_SC_p H2 z).1)) (fun t ht => hf _ ⟨?_, pu_fA_trans fa ht.2⟩)
    have e : pu_eK B L A E p = pu_or (pu_fs E (pu_isM B L p) (-2) p) (-5) p := by
      unfold pu_eK
      generalize pu_fs E (pu_isM B L p) (-2) p = E1 at hv0
      cases E1 with
      | some e => rfl
      | none => exact pu_fs_n (fun z => z ((hv0 rfl).mp c))
    rw [e]; exact ht.1
theorem pu_eK0 (hB : ∀ i, i < L → B i < 256) (W : pu_AQ A w h q) (h0 : pu_eK B L A E p = none) : E = none ∧ B p - 97 < 8 ∧ pu_is A (808 + (B p - 97)) (w * h) := by
  obtain ⟨a1, a2⟩ := pu_fs0.mp h0
  obtain ⟨a3, a4⟩ := pu_fs0.mp a1
  have hm := (pu_isM_lt hB a4).1
  exact ⟨a3, hm, (W.1.2.2.2.1.2.2.1 _ hm).resolve_left a2⟩
noncomputable def pu_eZ (B : Nat → Nat) (L : Nat) (A : Nat → Int32) (q : Nat) (E : Option (Int32 × Nat)) (p : Nat) : Option (Int32 × Nat) := pu_fs (pu_eK B L A E p) (∀ k, k < pu_ns A q → pu_v A (pu_cl q + 3 + k) ≠ B p - 97) (-4) p
def pu_qZ (B : Nat → Nat) (A : Nat → Int32) (q p : Nat) : Nat → Int32 := upd (upd A (pu_cl q + 3 + pu_ns A q) (Int32.ofNat (B p - 97))) (pu_cl q + 1) (Int32.ofNat (pu_ns A q + 1))
theorem pu_Z_AQ (hB : ∀ i, i < L → B i < 256) (W : pu_AQ A w h q) (h0 : pu_eZ B L A q E p = none) : pu_ns A q < 8 ∧ pu_AQ (pu_qZ B A q p) w h q ∧ pu_ns (pu_qZ B A q p) q = pu_ns A q + 1 ∧ pu_oq A (pu_qZ B A q p) q ∧ (∀ k, k < pu_ns A q → pu_qZ B A q p (pu_cl q + 3 + k) = A (pu_cl q + 3 + k)) ∧ pu_qZ B A q p (pu_cl q + 3 + pu_ns A q) = Int32.ofNat (B p - 97) ∧ (∀ j, 11 ≤ j ∨ j = 2 ∨ j = 0 → pu_qZ B A q p (pu_cl q + j) = A (pu_cl q + j)) ∧ pu_qZ B A q p (pu_cl q + 1) = Int32.ofNat (pu_ns A q + 1) := by
  obtain ⟨a1, fr⟩ := pu_fs0.mp h0
  obtain ⟨-, hm, hk⟩ := pu_eK0 hB W a1
  obtain ⟨w1, w2, h1, h2⟩ := pu_AQ_b W
  obtain ⟨f1, f2, f3, f4, f5⟩ := id W.2.2.1
  have hdis := W.2.2.2.2
  have n9 : pu_ns A q < 9 := f2.2
  have hst : ∀ k, k < pu_ns A q → pu_v A (pu_cl q + 3 + k) < 8 := fun k hk => (f4 k hk).1.2
  have n8 : pu_ns A q < 8 := by
    rcases Nat.lt_or_ge (pu_ns A q) 8 with z | z
    · exact z
    · exfalso
      obtain ⟨i, j, g1, g2, g3⟩ := pu_pig 8 (fun i => if i < 8 then pu_v A (pu_cl q + 3 + i) else B p - 97) (fun i hi => by
        by_cases e : i < 8
        · rw [if_pos e]; exact hst i (by omega)
        · rw [if_neg e]; exact hm)
      rw [if_pos (show i < 8 by omega)] at g3
      by_cases e : j < 8
      · rw [if_pos e] at g3
        exact hdis i j g1 (by omega) g3
      · rw [if_neg e] at g3
        exact fr i (by omega) g3
  have o : ∀ j, j ≠ pu_cl q + 3 + pu_ns A q → j ≠ pu_cl q + 1 → pu_qZ B A q p j = A j := fun j z1 z2 => by
    unfold pu_qZ
    rw [pu_upd_n z2, pu_upd_n z1]
  have i1 : pu_qZ B A q p (pu_cl q + 1) = Int32.ofNat (pu_ns A q + 1) := pu_upd_s
  have i2 : pu_qZ B A q p (pu_cl q + 3 + pu_ns A q) = Int32.ofNat (B p - 97) := by
    unfold pu_qZ
    rw [pu_upd_n (by omega), pu_upd_s]
  generalize pu_qZ B A q p = A' at o i1 i2 ⊢
  have eo : pu_oq A A' q := fun j hj => o j (by omega) (by omega)
  have en : pu_ns A' q = pu_ns A q + 1 := pu_v_of i1 (by omega)
  have es : ∀ k, k < pu_ns A q → A' (pu_cl q + 3 + k) = A (pu_cl q + 3 + k) := fun k hk => o _ (by omega) (by omega)
  have eh : ∀ j, 11 ≤ j ∨ j = 2 ∨ j = 0 → A' (pu_cl q + j) = A (pu_cl q + j) := fun j hj => o _ (by omega) (by omega)
  have em := pu_oq_m eo
  have hcl : 856 ≤ pu_cl q := by unfold pu_cl; omega
  have lo : ∀ j, j ≤ pu_cl q → A' j = A j := fun j hj => eo j (by omega)
  have v2 : pu_v A' (pu_cl q + 3 + pu_ns A q) = B p - 97 := pu_v_of i2 (by omega)
  have el : pu_nl A' q = pu_nl A q := pu_v_cong (eh 2 (by omega))
  refine ⟨n8, pu_AQ_part W eo ⟨?_, pu_is_of i1 (by omega) (by decide), pu_is_cong (eh 2 (by omega)) f3, fun k hk' => ?_, fun l hl => ?_⟩ (fun i j hij hj => ?_), en, eo, es, i2, eh, i1⟩
  · rw [show A' (pu_cl q) = A (pu_cl q) from eh 0 (by omega)]; exact f1
  · rw [en] at hk'
    by_cases e : k = pu_ns A q
    · subst e
      refine ⟨pu_is_of i2 hm (by decide), ?_⟩
      rw [v2]
      exact pu_is_cong (lo _ (by omega)) hk
    · obtain ⟨s1, s2⟩ := f4 k (by omega)
      refine ⟨pu_is_cong (es k (by omega)) s1, ?_⟩
      rw [pu_v_cong (es k (by omega))]
      exact pu_is_cong (lo _ (by have := s1.2; omega)) s2
  · rw [el] at hl
    have l8 : pu_nl A q < 9 := f3.2
    obtain ⟨g1, g2, g3, g4⟩ := f5 l hl
    have eg : ∀ j, A' (pu_lg q l + j) = A (pu_lg q l + j) := fun j => by
      rw [show pu_lg q l + j = pu_cl q + (11 + 4 * l + j) from by unfold pu_lg pu_cl; omega]
      exact eh _ (by omega)
    have k0 : pu_kind A' q l = pu_kind A q l := pu_v_cong (eg 0)
    have k1 : pu_many A' q l = pu_many A q l := pu_v_cong (eg 1)
    refine ⟨pu_is_cong (eg 0) g1, pu_is_cong (eg 3) g2, fun z => ?_, fun z => ?_⟩
    · rw [k0] at z
      exact ⟨pu_is_cong (eg 1) (g3 z).1, pu_is_cong (eg 2) (g3 z).2⟩
    · rw [k0] at z
      rw [k1]
      exact ⟨pu_is_cong (eg 1) (g4 z).1, pu_is_cong (lo _ (by have := (g4 z).1.2; have : pu_many A q l < 8 := this; omega)) (g4 z).2⟩
  · rw [en] at hj
    by_cases e : j = pu_ns A q
    · subst e
      rw [v2, pu_v_cong (es i hij)]
      exact fr i hij
    · rw [pu_v_cong (es i (by omega)), pu_v_cong (es j (by omega))]
      exact hdis i j hij (by omega)
/-- the count of starts is small -/
def pu_sb (K : Nat) (σ : tw_Sg) : Prop := ∃ c, c ≤ K ∧ tw_P_X7_get 419 (σ 416 0) σ = some (Int32.ofNat c)
theorem pu_l420 : tw_ln (419 + 1) = 4 := by decide +kernel
theorem pu_l422 : tw_ln (421 + 1) = 32 := by decide +kernel
theorem pu_get_cell {s t : tw_Sg} {th : Nat} {x : Int32} (h : t (th + 1) = s (th + 1)) : tw_P_X7_get th x t = tw_P_X7_get th x s := by
  unfold tw_P_X7_get
  rw [h]
theorem pu_sb_fr {K : Nat} {σ' : tw_Sg} (H : pu_sb K σ) (e1 : σ' 416 = σ 416) (e2 : σ' 420 = σ 420) : pu_sb K σ' := by
  obtain ⟨c, hc, e⟩ := H
  refine ⟨c, hc, ?_⟩
  rw [e1, pu_get_cell (s := σ) (show σ' (419 + 1) = σ (419 + 1) from e2)]
  exact e
theorem pu_hasAny {K : Nat} {v : Int32} (H : pu_sb K σ) (hK : K ≤ 100) (hn : 2000 < n) : pu_wp (tw_P_X1_hasStart n 416 (σ 416 0) v σ) (fun _ => True) := by
  obtain ⟨c, hc, e⟩ := H
  unfold tw_P_X1_hasStart
  refine pu_lt ?_
  refine pu_lp (J := fun t => ∃ i, i ≤ c ∧ t = Int32.ofNat i) (m := fun t => 200 - t.toNatClampNeg) ?_ n _ (by show 200 - _ < n; omega) ⟨0, by omega, rfl⟩
  rintro k3 ii ⟨i, hi, e1⟩ hk3
  subst e1
  refine pu_bde (show tw_P_X7_get (416 + 3) (σ 416 0) σ = _ from e) (pu_if (fun c => pu_ck rfl (pu_some trivial)) (fun c2 => ?_))
  rw [pu_le (by omega) (by omega)] at c2
  unfold tw_P_X1_startMark
  obtain ⟨x, hx⟩ := pu_get_any (σ := σ) (th := 416 + 5) (x := σ 416 0 * (8 : Int32) + Int32.ofNat i) (by rw [show tw_ln (416 + 5 + 1) = 32 from pu_l422]; decide)
  rw [hx]
  refine pu_bde (a := x) rfl (pu_if (fun _ => ?_) (fun _ => pu_ck rfl (pu_some trivial)))
  refine pu_lt ?_
  have em : Int32.ofNat i + (1 : Int32) = Int32.ofNat (i + 1) := pu_add i 1
  rw [em]
  refine hk3 _ ⟨i + 1, by omega, rfl⟩ ?_
  rw [pu_n (by omega), pu_n (by omega)]
  omega
theorem pu_addAny {K : Nat} {v : Int32} (H : pu_sb K σ) : pu_wp (tw_P_X1_addStart 416 (σ 416 0) v σ) (fun t => pu_sb (K + 1) t ∧ ∀ k, k ≠ 420 → k ≠ 422 → t k = σ k) := by
  obtain ⟨c, hc, e⟩ := H
  unfold tw_P_X1_addStart
  refine pu_bde (show tw_P_X7_get (416 + 3) (σ 416 0) σ = _ from e) (pu_lt ?_)
  obtain ⟨t1, a1, c1⟩ := pu_put_any (σ := σ) (th := 416 + 5) (x := σ 416 0 * (8 : Int32) + Int32.ofNat c) (v := v) (by rw [show tw_ln (416 + 5 + 1) = 32 from pu_l422]; decide)
  refine pu_bde a1 ?_
  have em : Int32.ofNat c + (1 : Int32) = Int32.ofNat (c + 1) := pu_add c 1
  rw [em]
  have e416 : t1 416 = σ 416 := c1 416 (by decide)
  have e420 : t1 420 = σ 420 := c1 420 (by decide)
  by_cases hx : σ 416 0 < 0 ∨ Int32.ofNat 4 ≤ σ 416 0
  · have hp : tw_P_X7_put (416 + 3) (σ 416 0) (Int32.ofNat (c + 1)) t1 = some t1 := by
      unfold tw_P_X7_put
      rw [show tw_ln (416 + 3 + 1) = 4 from pu_l420]
      dsimp only [tw_jn]
      rcases hx with z | z
      · rw [if_pos z]
      · by_cases y : σ 416 0 < 0
        · rw [if_pos y]
        · rw [if_neg y, if_pos z]
    exact pu_bde hp (pu_some ⟨pu_sb_fr ⟨c, by omega, e⟩ e416 e420, fun k _ k2 => c1 k k2⟩)
  · have h0 : 0 ≤ (σ 416 0).toInt ∧ (σ 416 0).toInt < 4 := by
      have a1 : ¬ σ 416 0 < 0 := fun z => hx (Or.inl z)
      have a2 : ¬ Int32.ofNat 4 ≤ σ 416 0 := fun z => hx (Or.inr z)
      rw [Int32.lt_iff_toInt_lt, pu_toInt0] at a1
      rw [Int32.le_iff_toInt_le, pu_toInt (by decide)] at a2
      omega
    have hi : σ 416 0 = Int32.ofNat (σ 416 0).toInt.toNat := by
      rw [← Int32.toInt_inj, pu_toInt (by omega)]
      omega
    have h4 : (σ 416 0).toInt.toNat < 4 := by omega
    generalize (σ 416 0).toInt.toNat = i at hi h4
    refine pu_bde (show tw_P_X7_put (416 + 3) (σ 416 0) (Int32.ofNat (c + 1)) t1 = some (tw_up t1 420 i (Int32.ofNat (c + 1))) by rw [hi]; exact pu_put (th := 419) pu_l420 (by decide) h4) (pu_some ⟨⟨c + 1, by omega, ?_⟩, fun k k1 k2 => (tw_up_n k1).trans (c1 k k2)⟩)
    rw [tw_up_n (show 416 ≠ 420 by decide), e416, hi, pu_get (th := 419) pu_l420 (by decide) h4, show (419 + 1) = 420 from rfl, tw_up_s, pu_upd_s]
end CCLUE
