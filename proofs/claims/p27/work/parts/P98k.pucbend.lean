/-! the class: a bend -/
section CBEND
variable {σ σ0 : tw_Sg} {B : Nat → Nat} {L p n w h : Nat} {E : Option (Int32 × Nat)} {A : Nat → Int32} {Q : tw_Sg → Prop}
theorem pu_scIs {k : Nat} (H : pu_SC B L w h σ0 Q E p σ) (hk : k < 21) (hn : 2000 < n) : ∃ b : Bool, tw_P_X6_isWord n k σ = some (pu_b1 b) ∧ (E = none → b = pu_isW B L p k) := by
  obtain ⟨s, h1, h2⟩ := H.1
  exact ⟨_, pu_cisW h1 hk hn, fun z => by rw [h2 z]⟩
def pu_aB (A : Nat → Int32) (x0 y0 x1 y1 : Nat) (t : Int32) : Nat → Int32 := upd (upd (upd (upd (upd (upd A (816 + 5 * pu_v A 2) (Int32.ofNat x0)) (816 + 5 * pu_v A 2 + 1) (Int32.ofNat y0)) (816 + 5 * pu_v A 2 + 2) (Int32.ofNat x1)) (816 + 5 * pu_v A 2 + 3) (Int32.ofNat y1)) (816 + 5 * pu_v A 2 + 4) t) 2 (Int32.ofNat (pu_v A 2 + 1))
theorem pu_aB_out {x0 y0 x1 y1 j : Nat} {t : Int32} (h2 : j ≠ 2) (hj : j < 816 + 5 * pu_v A 2 ∨ 816 + 5 * pu_v A 2 + 5 ≤ j) : pu_aB A x0 y0 x1 y1 t j = A j := by
  unfold pu_aB
  rw [pu_upd_n h2, pu_upd_n (by omega), pu_upd_n (by omega), pu_upd_n (by omega), pu_upd_n (by omega), pu_upd_n (by omega)]
theorem pu_aB_in {x0 y0 x1 y1 : Nat} {t : Int32} : pu_aB A x0 y0 x1 y1 t 2 = Int32.ofNat (pu_v A 2 + 1) ∧ pu_aB A x0 y0 x1 y1 t (816 + 5 * pu_v A 2) = Int32.ofNat x0 ∧ pu_aB A x0 y0 x1 y1 t (816 + 5 * pu_v A 2 + 1) = Int32.ofNat y0 ∧ pu_aB A x0 y0 x1 y1 t (816 + 5 * pu_v A 2 + 2) = Int32.ofNat x1 ∧ pu_aB A x0 y0 x1 y1 t (816 + 5 * pu_v A 2 + 3) = Int32.ofNat y1 ∧ pu_aB A x0 y0 x1 y1 t (816 + 5 * pu_v A 2 + 4) = t := by
  unfold pu_aB
  refine ⟨pu_upd_s, ?_, ?_, ?_, ?_, ?_⟩
  · rw [pu_upd_n (by omega), pu_upd_n (by omega), pu_upd_n (by omega), pu_upd_n (by omega), pu_upd_n (by omega), pu_upd_s]
  · rw [pu_upd_n (by omega), pu_upd_n (by omega), pu_upd_n (by omega), pu_upd_n (by omega), pu_upd_s]
  · rw [pu_upd_n (by omega), pu_upd_n (by omega), pu_upd_n (by omega), pu_upd_s]
  · rw [pu_upd_n (by omega), pu_upd_n (by omega), pu_upd_s]
  · rw [pu_upd_n (by omega), pu_upd_s]
theorem pu_bend_AW {x0 y0 x1 y1 : Nat} {t : Int32} (W : pu_AW A w h) (hnb : pu_v A 2 < 8) (hq : pu_sq w h x0 y0 x1 y1) (ht : -3 ≤ t.toInt ∧ t.toInt ≤ 3) : pu_AW (pu_aB A x0 y0 x1 y1 t) w h ∧ pu_v (pu_aB A x0 y0 x1 y1 t) 2 = pu_v A 2 + 1 := by
  obtain ⟨i2, i3, i4, i5, i6, i7⟩ := pu_aB_in (A := A) (x0 := x0) (y0 := y0) (x1 := x1) (y1 := y1) (t := t)
  have o : ∀ j, j ≠ 2 → j < 816 + 5 * pu_v A 2 ∨ 816 + 5 * pu_v A 2 + 5 ≤ j → pu_aB A x0 y0 x1 y1 t j = A j := fun j a b => pu_aB_out a b
  generalize pu_aB A x0 y0 x1 y1 t = A' at i2 i3 i4 i5 i6 i7 o ⊢
  have e2 : pu_v A' 2 = pu_v A 2 + 1 := pu_v_of i2 (by omega)
  obtain ⟨⟨m1, m2, m3⟩, ⟨b1, b2, b3⟩, ⟨c1, c2, c3⟩, ⟨d1, d2, d3, d4, d5⟩, d6, hz, hcz, hL⟩ := W
  have e3 : pu_v A' 3 = pu_v A 3 := pu_v_cong (o 3 (by decide) (by omega))
  have hqq : ∀ q, q < 4 → pu_eqq A A' q := fun q hq j hj => o _ (by unfold pu_cl; omega) (by unfold pu_cl; omega)
  have hm : pu_eqm A A' := fun m hm _ => o _ (by omega) (by omega)
  obtain ⟨q1, q2, q3, q4⟩ := hq
  refine ⟨⟨⟨(o 0 (by decide) (by omega)).trans m1, (o 1 (by decide) (by omega)).trans m2, m3⟩, ⟨?_, ?_, fun k hk => ?_⟩, ⟨?_, ?_, fun c hc => ?_⟩, ⟨fun c hc => ?_, fun c hc => ?_, fun m hm8 => ?_, pu_is_cong (o 6 (by decide) (by omega)) d4, pu_is_cong (o 7 (by decide) (by omega)) d5⟩, ?_, fun j hj => ?_, fun q z1 z2 j hj => ?_, ?_⟩, e2⟩
  · rw [e2]; exact i2
  · rw [e2]; omega
  · rw [e2] at hk
    by_cases e : k = pu_v A 2
    · subst e
      refine ⟨x0, y0, x1, y1, i3, i4, i5, i6, q1, q2, q3, q4, ?_⟩
      rw [i7]; exact ht
    · obtain ⟨l, t, r, u, g1, g2, g3, g4, g5⟩ := b3 k (by omega)
      refine ⟨l, t, r, u, (o _ (by omega) (by omega)).trans g1, (o _ (by omega) (by omega)).trans g2, (o _ (by omega) (by omega)).trans g3, (o _ (by omega) (by omega)).trans g4, ?_⟩
      rw [o (816 + 5 * k + 4) (by omega) (by omega)]
      exact g5
  · rw [e3, o 3 (by decide) (by omega)]; exact c1
  · rw [e3]; exact c2
  · rw [e3] at hc
    exact pu_wfq_cong m3.2.1 m3.2.2.2 (hqq c (by omega)) hm (c3 c hc)
  · rw [o _ (by omega) (by omega)]; exact d1 c hc
  · rw [o _ (by omega) (by omega)]; exact d2 c hc
  · rw [o _ (by omega) (by omega)]
    exact (d3 m hm8).imp id (pu_is_cong (o _ (by omega) (by omega)))
  · rw [o 4 (by omega) (by omega)]
    exact d6.imp id (pu_is_cong (o 4 (by omega) (by omega)))
  · rw [o j (by omega) (by omega)]; exact hz j hj
  · rw [e3] at z1
    rw [hqq q z2 j hj]
    exact hcz q z1 z2 j hj
  · obtain ⟨d, d1, d2⟩ := hL
    have := pu_wh m3.2.1 m3.2.2.2
    refine ⟨d, d1, ?_⟩
    unfold pu_land
    rw [o _ (by omega) (by omega)]
    exact d2
theorem pu_bend_dC {x0 y0 x1 y1 : Nat} {t : Int32} {b b' : tw_Sg} (W : pu_AW A w h) (hnb : pu_v A 2 < 8) (hq : pu_sq w h x0 y0 x1 y1) (ht : -3 ≤ t.toInt ∧ t.toInt ≤ 3) (D : pu_dC A w h b) (hb : ∀ j i, ¬ (j = 0 ∧ i = 5) → ¬ ((j = 8 ∨ j = 10 ∨ j = 12) ∧ i = pu_v A 2) → b' j i = b j i) (h5 : b' 0 5 = Int32.ofNat (pu_v A 2 + 1)) (h8 : b' 8 (pu_v A 2) = Int32.ofNat (pu_spot x0 y0)) (h10 : b' 10 (pu_v A 2) = Int32.ofNat (pu_spot x1 y1)) (h12 : b' 12 (pu_v A 2) = t) : pu_dC (pu_aB A x0 y0 x1 y1 t) w h b' := by
  obtain ⟨-, e2⟩ := pu_bend_AW W hnb hq ht
  obtain ⟨i2, i3, i4, i5, i6, i7⟩ := pu_aB_in (A := A) (x0 := x0) (y0 := y0) (x1 := x1) (y1 := y1) (t := t)
  have o : ∀ j, j ≠ 2 → j < 816 + 5 * pu_v A 2 ∨ 816 + 5 * pu_v A 2 + 5 ≤ j → pu_aB A x0 y0 x1 y1 t j = A j := fun j a b => pu_aB_out a b
  generalize pu_aB A x0 y0 x1 y1 t = A' at e2 i2 i3 i4 i5 i6 i7 o ⊢
  have e3 : pu_v A' 3 = pu_v A 3 := pu_v_cong (o 3 (by decide) (by omega))
  obtain ⟨m1, ⟨-, b2, -⟩, ⟨-, c2, c3⟩, -⟩ := W
  have hwh := pu_wh m1.2.2.2.1 m1.2.2.2.2.2
  have w2 := m1.2.2.2.1
  have h2 := m1.2.2.2.2.2
  have hqq : ∀ q, q < 4 → pu_eqq A A' q := fun q hq j hj => o _ (by unfold pu_cl; omega) (by unfold pu_cl; omega)
  have hm : pu_eqm A A' := fun m hm _ => o _ (by omega) (by omega)
  have hbk : ∀ q, pu_bq b b' q := fun q => ⟨hb _ _ (by omega) (by omega), hb _ _ (by omega) (by omega), fun k hk => ⟨hb _ _ (by omega) (by omega), hb _ _ (by omega) (by omega), hb _ _ (by omega) (by omega), hb _ _ (by omega) (by omega), hb _ _ (by omega) (by omega), hb _ _ (by omega) (by omega)⟩⟩
  obtain ⟨q1, q2, q3, q4⟩ := hq
  obtain ⟨⟨⟨t1, t2, t3, t4, t5, t6, t7, t8⟩, hl, hd, hmk, hbd, hc⟩, hz⟩ := D
  unfold pu_dC
  rw [e2, e3]
  refine ⟨⟨⟨?_, ?_, ?_, ?_, ?_, ?_, ?_, fun z => ?_⟩, ?_, ?_, fun m hm8 => ?_, fun k hk => ?_, fun c hc' => ⟨?_, ?_⟩⟩, fun q z1 z2 => ?_⟩
  · rw [hb 0 0 (by omega) (by omega), o 0 (by decide) (by omega)]; exact t1
  · rw [hb 0 1 (by omega) (by omega), o 1 (by decide) (by omega)]; exact t2
  · rw [h5, i2]
  · rw [hb 0 11 (by omega) (by omega), o 5 (by decide) (by omega)]; exact t4
  · rw [hb 0 12 (by omega) (by omega), o 6 (by decide) (by omega)]; exact t5
  · rw [hb 13 0 (by omega) (by omega), o 3 (by decide) (by omega)]; exact t6
  · rw [hb 0 10 (by omega) (by omega), t7]
    unfold pu_tm
    rw [o 4 (by decide) (by omega), pu_v_cong (o 4 (by decide) (by omega))]
  · rw [o 6 (by decide) (by omega)] at z
    rw [hb 0 13 (by omega) (by omega), t8 z, pu_v_cong (o 7 (by decide) (by omega))]
  · refine pu_set_ext (pu_set_cong hl (funext fun i => hb 2 i (by omega) (by omega))) (fun c hc => ?_)
    unfold pu_land
    rw [o (8 + c) (by omega) (by omega)]
  · refine pu_set_ext (pu_set_cong hd (funext fun i => hb 4 i (by omega) (by omega))) (fun c hc => ?_)
    unfold pu_dug
    rw [o (408 + c) (by omega) (by omega)]
  · rw [hb 6 m (by omega) (by omega), hmk m hm8]
    unfold pu_mk
    rw [o (808 + m) (by omega) (by omega), pu_v_cong (o (808 + m) (by omega) (by omega))]
  · by_cases e : k = pu_v A 2
    · subst e
      refine ⟨?_, ?_, ?_⟩
      · rw [h8, pu_v_of i3 (by omega), pu_v_of i4 (by omega)]
      · rw [h10, pu_v_of i5 (by omega), pu_v_of i6 (by omega)]
      · rw [h12, i7]
    · obtain ⟨k1, k2, k3⟩ := hbd k (by omega)
      refine ⟨?_, ?_, ?_⟩
      · rw [hb 8 k (by omega) (by omega), k1, pu_v_cong (o (816 + 5 * k) (by omega) (by omega)), pu_v_cong (o (816 + 5 * k + 1) (by omega) (by omega))]
      · rw [hb 10 k (by omega) (by omega), k2, pu_v_cong (o (816 + 5 * k + 2) (by omega) (by omega)), pu_v_cong (o (816 + 5 * k + 3) (by omega) (by omega))]
      · rw [hb 12 k (by omega) (by omega), k3, o (816 + 5 * k + 4) (by omega) (by omega)]
  · rw [hb 15 c (by omega) (by omega), show A' (pu_cl c) = A (pu_cl c) from hqq c (by omega) 0 (by decide)]
    exact (hc c hc').1
  · exact pu_CDp_cong m1.2.2.2.1 m1.2.2.2.2.2 (hqq c (by omega)) hm (c3 c hc') (hbk c) (hc c hc').2
  · rw [(hbk q).1, (hbk q).2.1]
    exact hz q z1 z2
noncomputable def pu_eB2 (B : Nat → Nat) (L w h : Nat) (A : Nat → Int32) (p : Nat) : Option (Int32 × Nat) := pu_fs (pu_eA B L w h (pu_fs none (pu_v A 2 ≠ 8) (-6) p) (pu_nx B L p)) (pu_isW B L (pu_nk B L 5 p) 6 = true ∨ pu_isW B L (pu_nk B L 5 p) 7 = true) (-2) (pu_nk B L 5 p)
noncomputable def pu_eB (B : Nat → Nat) (L w h : Nat) (A : Nat → Int32) (p : Nat) : Option (Int32 × Nat) := pu_fs (pu_eN B L (pu_eB2 B L w h A p) (1 : Nat) (3 : Nat) (pu_nk B L 6 p)) (pu_semi B L (pu_nk B L 7 p) = true) (-2) (pu_nk B L 7 p)
def pu_tB (B : Nat → Nat) (L p : Nat) : Int32 := if pu_isW B L (pu_nk B L 5 p) 6 = true then -Int32.ofNat (pu_num B L (pu_nk B L 6 p)) else Int32.ofNat (pu_num B L (pu_nk B L 6 p))
def pu_qB (B : Nat → Nat) (L : Nat) (A : Nat → Int32) (p : Nat) : Nat → Int32 := pu_aB A (pu_num B L (pu_nk B L 1 p)) (pu_num B L (pu_nk B L 2 p)) (pu_num B L (pu_nk B L 3 p)) (pu_num B L (pu_nk B L 4 p)) (pu_tB B L p)
theorem pu_eB0 (w1 : 0 < w) (h1 : 0 < h) (h0 : pu_eB B L w h A p = none) : pu_v A 2 ≠ 8 ∧ pu_sq w h (pu_num B L (pu_nk B L 1 p)) (pu_num B L (pu_nk B L 2 p)) (pu_num B L (pu_nk B L 3 p)) (pu_num B L (pu_nk B L 4 p)) ∧ (1 ≤ pu_num B L (pu_nk B L 6 p) ∧ pu_num B L (pu_nk B L 6 p) ≤ 3) ∧ (-3 ≤ (pu_tB B L p).toInt ∧ (pu_tB B L p).toInt ≤ 3) := by
  obtain ⟨a1, -⟩ := pu_fs0.mp h0
  obtain ⟨a2, -, b1, b2⟩ := pu_fs0.mp a1
  obtain ⟨a3, -⟩ := pu_fs0.mp a2
  obtain ⟨c1, c2, c3, c4, c5⟩ := pu_eA0 a3
  obtain ⟨-, d1⟩ := pu_fs0.mp c1
  have r : 1 ≤ pu_num B L (pu_nk B L 6 p) ∧ pu_num B L (pu_nk B L 6 p) ≤ 3 := ⟨by omega, by omega⟩
  refine ⟨d1, ⟨c2, by have : pu_num B L (pu_nk B L 3 p) ≤ w - 1 := c3; omega, c4, by have : pu_num B L (pu_nk B L 4 p) ≤ h - 1 := c5; omega⟩, r, ?_⟩
  unfold pu_tB
  generalize pu_num B L (pu_nk B L 6 p) = v at r
  have : v = 1 ∨ v = 2 ∨ v = 3 := by omega
  rcases this with rfl | rfl | rfl <;> split <;> decide
theorem pu_l411 : tw_ln (403 + 7 + 1) = 8 := by decide +kernel
theorem pu_l413 : tw_ln (403 + 9 + 1) = 8 := by decide +kernel
theorem pu_l415 : tw_ln (403 + 11 + 1) = 8 := by decide +kernel
theorem pu_scBend (H : pu_SC B L w h σ0 (pu_dC A w h) none p σ) (W : pu_AW A w h) (hn : 2000 < n) : pu_wp (tw_P_X6_readBend n σ) (pu_SC B L w h σ0 (pu_dC (pu_qB B L A p) w h) (pu_eB B L w h A p) (pu_nk B L 8 p)) := by
  obtain ⟨w1, w2, h1, h2⟩ := pu_AW_b W
  have hb8 : pu_v A 2 ≤ 8 := W.2.1.2.1
  have h5 : σ 403 5 = Int32.ofNat (pu_v A 2) := (show σ 403 5 = A 2 from (H.2.2.1 rfl).1.1.2.2.1).trans W.2.1.1
  unfold tw_P_X6_readBend
  refine pu_jn (R := fun t => pu_SC B L w h σ0 (pu_dC A w h) (pu_fs none (pu_v A 2 ≠ 8) (-6) p) p t) (fun t ht => ?_) (fun f hf => ?_)
  rotate_left
  · refine pu_if (fun c => hf _ ?_) (fun c => ?_) <;> rw [h5, show (8 : Int32) = Int32.ofNat 8 from rfl, pu_ltn (by omega) (by decide)] at c
    · rw [pu_fs_y (by omega)]; exact H
    · refine pu_bd (pu_scF (o := p) H (by decide) (fun z => (pu_SC_p H z).1)) (fun t ht => hf _ ?_)
      rw [pu_fs_nE (by omega)]
      exact ht.1
  refine pu_bd (pu_scA ht hn) (fun r3 hr => ?_)
  obtain ⟨H3, -⟩ := hr
  refine pu_bd (pu_scArea H3 w1 w2 h1 h2 hn) (fun r4 hr => ?_)
  obtain ⟨⟨x0, y0, x1, y1, hq, e9, e10, hv⟩, H4⟩ := hr
  obtain ⟨b, hb, hbz⟩ := pu_scIs (k := 6) H4 (by decide) hn
  refine pu_bde hb (pu_lt ?_)
  refine pu_jn (R := fun t => pu_SC B L w h σ0 (pu_dC A w h) (pu_eB2 B L w h A p) (pu_nk B L 6 p) t ∧ t 400 9 = Int32.ofNat (pu_spot x0 y0) ∧ t 400 10 = Int32.ofNat (pu_spot x1 y1)) (fun t2 ht2 => ?_) (fun f hf => ?_)
  rotate_left
  · refine pu_if (fun c => ?_) (fun c => ?_) <;> rw [pu_b1_0] at c
    · refine pu_bd (pu_scW (q := 7) H4 (by decide) hn) (fun t ht => hf _ ⟨?_, (ht.2.2 9 (by decide)).trans e9, (ht.2.2 10 (by decide)).trans e10⟩)
      have e : pu_eB2 B L w h A p = pu_fs (pu_eA B L w h (pu_fs none (pu_v A 2 ≠ 8) (-6) p) (pu_nx B L p)) (pu_isW B L (pu_nk B L 5 p) 7 = true) (-2) (pu_nk B L 5 p) := by
        unfold pu_eB2
        generalize pu_eA B L w h (pu_fs none (pu_v A 2 ≠ 8) (-6) p) (pu_nx B L p) = E1 at hbz
        cases E1 with
        | some e => rfl
        | none =>
          have hb6 : pu_isW B L (pu_nk B L 5 p) 6 = b := (hbz rfl).symm
          by_cases z : pu_isW B L (pu_nk B L 5 p) 7 = true
          · rw [pu_fs_y (Or.inr z), pu_fs_y z]
          · rw [pu_fs_n z, pu_fs_n (fun y => ?_)]
            rcases y with y | y
            · rw [hb6, c] at y; cases y
            · exact z y
      rw [e]
      exact ht.1
    · refine pu_bd (pu_scA H4 hn) (fun t ht => hf _ ⟨?_, (ht.2.2 9 (by decide)).trans e9, (ht.2.2 10 (by decide)).trans e10⟩)
      have e : pu_eB2 B L w h A p = pu_eA B L w h (pu_fs none (pu_v A 2 ≠ 8) (-6) p) (pu_nx B L p) := by
        unfold pu_eB2
        generalize pu_eA B L w h (pu_fs none (pu_v A 2 ≠ 8) (-6) p) (pu_nx B L p) = E1 at hbz
        cases E1 with
        | some e => rfl
        | none =>
          have hb6 : pu_isW B L (pu_nk B L 5 p) 6 = b := (hbz rfl).symm
          exact pu_fs_y (Or.inl (by rw [hb6]; exact pu_bF c))
      rw [e]
      exact ht.1
  obtain ⟨H5, t9, t10⟩ := ht2
  refine pu_bd (pu_scN (a := 1) (b := 3) (lo' := 1) H5 rfl rfl (by decide) (by decide) (fun _ => rfl) hn) (fun r9 hr => pu_lt ?_)
  obtain ⟨⟨v, ev, v1, v3, iv⟩, H6, fa6⟩ := hr
  refine pu_bd (pu_scS H6 hn) (fun r11 hr => ?_)
  obtain ⟨H7, fa7⟩ := hr
  have s9 : r11 400 9 = Int32.ofNat (pu_spot x0 y0) := (fa7.2 9 (by decide)).trans ((fa6.2 9 (by decide)).trans t9)
  have s10 : r11 400 10 = Int32.ofNat (pu_spot x1 y1) := (fa7.2 10 (by decide)).trans ((fa6.2 10 (by decide)).trans t10)
  refine pu_jn (R := fun a => pu_eB B L w h A p = none → a = pu_tB B L p) (fun a ha => ?_) (fun f hf => ?_)
  rotate_left
  · have hE1 : pu_eB B L w h A p = none → b = pu_isW B L (pu_nk B L 5 p) 6 ∧ v = pu_num B L (pu_nk B L 6 p) := fun z => by
      have z1 := (pu_fs0.mp z).1
      have z2 := (pu_fs0.mp z1).1
      exact ⟨hbz (pu_fs0.mp z2).1, iv z1⟩
    refine pu_if (fun c => hf _ (fun z => ?_)) (fun c => hf _ (fun z => ?_)) <;> rw [pu_b1_0] at c
    · obtain ⟨z1, z2⟩ := hE1 z
      unfold pu_tB
      rw [ev, ← z1, c, z2]
      rfl
    · obtain ⟨z1, z2⟩ := hE1 z
      unfold pu_tB
      rw [ev, ← z1, pu_bF c, z2]
      rfl
  have ha : pu_eB B L w h A p = none → a = pu_tB B L p := ha
  unfold tw_P_X2_addBend
  by_cases z : pu_eB B L w h A p = none
  · obtain ⟨g1, g2, g3, g4⟩ := pu_eB0 w1 h1 z
    obtain ⟨v1', v2', v3', v4'⟩ := hv (pu_fs0.mp (pu_fs0.mp (pu_fs0.mp z).1).1).1
    have D := H7.2.2.1 z
    have hnb : pu_v A 2 < 8 := by omega
    have h5 : r11 403 5 = Int32.ofNat (pu_v A 2) := (show r11 403 5 = A 2 from D.1.1.2.2.1).trans W.2.1.1
    rw [ha z, s9, s10, h5]
    refine pu_bd (R := pu_SC B L w h σ0 (pu_dC (pu_qB B L A p) w h) (pu_eB B L w h A p) (pu_nk B L 8 p)) ?_ (fun t ht => pu_some ht)
    refine pu_bde (pu_put (th := 403 + 7) pu_l411 (by decide) hnb) ?_
    rw [tw_up_n (show 403 ≠ 403 + 7 + 1 by decide), h5]
    refine pu_bde (pu_put (th := 403 + 9) pu_l413 (by decide) hnb) ?_
    rw [tw_up_n (show 403 ≠ 403 + 9 + 1 by decide), tw_up_n (show 403 ≠ 403 + 7 + 1 by decide), h5]
    refine pu_bde (pu_put (th := 403 + 11) pu_l415 (by decide) hnb) ?_
    rw [tw_up_n (show 403 ≠ 403 + 11 + 1 by decide), tw_up_n (show 403 ≠ 403 + 9 + 1 by decide), tw_up_n (show 403 ≠ 403 + 7 + 1 by decide), h5]
    refine pu_ltG (P := fun t => (∀ k, k ≠ 403 → k ≠ 411 → k ≠ 413 → k ≠ 415 → t k = r11 k) ∧ t 403 = upd (r11 403) 5 (Int32.ofNat (pu_v A 2 + 1)) ∧ t 411 = upd (r11 411) (pu_v A 2) (Int32.ofNat (pu_spot x0 y0)) ∧ t 413 = upd (r11 413) (pu_v A 2) (Int32.ofNat (pu_spot x1 y1)) ∧ t 415 = upd (r11 415) (pu_v A 2) (pu_tB B L p)) ⟨fun k k1 k2 k3 k4 => ?_, ?_, ?_, ?_, ?_⟩ (fun t ht => pu_some ?_)
    · rw [tw_up_n k1, tw_up_n (show k ≠ 403 + 11 + 1 from k4), tw_up_n (show k ≠ 403 + 9 + 1 from k3), tw_up_n (show k ≠ 403 + 7 + 1 from k2)]
    · rw [tw_up_s, tw_up_n (show 403 ≠ 403 + 11 + 1 by decide), tw_up_n (show 403 ≠ 403 + 9 + 1 by decide), tw_up_n (show 403 ≠ 403 + 7 + 1 by decide)]
      congr 1
      exact pu_add _ 1
    · rw [tw_up_n (show 411 ≠ 403 by decide), tw_up_n (show 411 ≠ 403 + 11 + 1 by decide), tw_up_n (show 411 ≠ 403 + 9 + 1 by decide)]
      exact tw_up_s
    · rw [tw_up_n (show 413 ≠ 403 by decide), tw_up_n (show 413 ≠ 403 + 11 + 1 by decide), show 413 = 403 + 9 + 1 from rfl, tw_up_s, tw_up_n (show 403 + 9 + 1 ≠ 403 + 7 + 1 by decide)]
    · rw [tw_up_n (show 415 ≠ 403 by decide), show 415 = 403 + 11 + 1 from rfl, tw_up_s, tw_up_n (show 403 + 11 + 1 ≠ 403 + 9 + 1 by decide), tw_up_n (show 403 + 11 + 1 ≠ 403 + 7 + 1 by decide)]
    obtain ⟨u0, u1, u2, u3, u4⟩ := ht
    refine pu_SC_set H7 ⟨by rw [u1, pu_upd_n (by decide)], by rw [u1, pu_upd_n (by decide)]⟩ (u0 400 (by decide) (by decide) (by decide) (by decide)) (fun k hk => u0 k (by omega) (by omega) (by omega) (by omega)) (fun _ => ?_)
    unfold pu_qB
    rw [← show x0 = pu_num B L (pu_nk B L 1 p) from v1', ← show y0 = pu_num B L (pu_nk B L 2 p) from v2', ← show x1 = pu_num B L (pu_nk B L 3 p) from v3', ← show y1 = pu_num B L (pu_nk B L 4 p) from v4']
    refine pu_bend_dC W hnb hq g4 D (fun j i a1 a2 => ?_) ?_ ?_ ?_ ?_
    · show t (403 + j) i = r11 (403 + j) i
      by_cases c0 : j = 0
      · subst c0
        rw [show 403 + 0 = 403 from rfl, u1, pu_upd_n (by omega)]
      by_cases c8 : j = 8
      · subst c8
        rw [show 403 + 8 = 411 from rfl, u2, pu_upd_n (by omega)]
      by_cases c10 : j = 10
      · subst c10
        rw [show 403 + 10 = 413 from rfl, u3, pu_upd_n (by omega)]
      by_cases c12 : j = 12
      · subst c12
        rw [show 403 + 12 = 415 from rfl, u4, pu_upd_n (by omega)]
      rw [u0 (403 + j) (by omega) (by omega) (by omega) (by omega)]
    · show t 403 5 = _
      rw [u1, pu_upd_s]
    · show t 411 _ = _
      rw [u2, pu_upd_s]
    · show t 413 _ = _
      rw [u3, pu_upd_s]
    · show t 415 _ = _
      rw [u4, pu_upd_s]
  · refine pu_bd (R := pu_SC B L w h σ0 (pu_dC (pu_qB B L A p) w h) (pu_eB B L w h A p) (pu_nk B L 8 p)) ?_ (fun t ht => pu_some ht)
    obtain ⟨t1, a1, c1⟩ := pu_put_any (σ := r11) (th := 403 + 7) (x := r11 403 5) (v := r11 400 9) (by rw [pu_l411]; decide)
    refine pu_bde a1 ?_
    obtain ⟨t2, a2, c2⟩ := pu_put_any (σ := t1) (th := 403 + 9) (x := t1 403 5) (v := r11 400 10) (by rw [pu_l413]; decide)
    refine pu_bde a2 ?_
    obtain ⟨t3, a3, c3⟩ := pu_put_any (σ := t2) (th := 403 + 11) (x := t2 403 5) (v := a) (by rw [pu_l415]; decide)
    refine pu_bde a3 ?_
    have g : ∀ k, k ≠ 411 → k ≠ 413 → k ≠ 415 → t3 k = r11 k := fun k k1 k2 k3 => (c3 k (by omega)).trans ((c2 k (by omega)).trans (c1 k (by omega)))
    refine pu_lt (pu_some (pu_SC_set H7 ⟨?_, ?_⟩ ?_ (fun k hk => ?_) (fun y => absurd y z)))
    · rw [tw_up_s, pu_upd_n (by decide), g 403 (by decide) (by decide) (by decide)]
    · rw [tw_up_s, pu_upd_n (by decide), g 403 (by decide) (by decide) (by decide)]
    · rw [tw_up_n (by decide), g 400 (by decide) (by decide) (by decide)]
    · rw [tw_up_n (by omega), g k (by omega) (by omega) (by omega)]
end CBEND
