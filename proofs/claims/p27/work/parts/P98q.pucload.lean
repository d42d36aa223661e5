/-! the class: read and load -/
section CLD
variable {σ σ0 : tw_Sg} {B : Nat → Nat} {L p n w h q : Nat} {E : Option (Int32 × Nat)} {A A' : Nat → Int32} {Q Q' : tw_Sg → Prop}
noncomputable def pu_eMap (B : Nat → Nat) (L p : Nat) : Option (Int32 × Nat) := pu_fs (pu_eN B L (pu_eN B L (pu_fs none (pu_isW B L p 5 = true) (-2) p) (1 : Nat) (20 : Nat) (pu_nk B L 1 p)) (1 : Nat) (20 : Nat) (pu_nk B L 2 p)) (pu_semi B L (pu_nk B L 3 p) = true) (-2) (pu_nk B L 3 p)
def pu_A0 (w h : Nat) : Nat → Int32 := upd (pu_a0 w h) 4 (-1)
noncomputable def pu_Xm (B : Nat → Nat) (L : Nat) : pu_Xs := (pu_eMap B L (pu_sk B L 0), pu_nk B L 4 (pu_sk B L 0), pu_A0 (pu_num B L (pu_nk B L 1 (pu_sk B L 0))) (pu_num B L (pu_nk B L 2 (pu_sk B L 0))))
def pu_wN (B : Nat → Nat) (L : Nat) : Nat := pu_num B L (pu_nk B L 1 (pu_sk B L 0))
def pu_hN (B : Nat → Nat) (L : Nat) : Nat := pu_num B L (pu_nk B L 2 (pu_sk B L 0))
noncomputable def pu_Xf (B : Nat → Nat) (L : Nat) : pu_Xs := pu_run B L (pu_wN B L) (pu_hN B L) (L + 1) (pu_Xm B L)
theorem pu_A0_v : pu_A0 w h 0 = Int32.ofNat w ∧ pu_A0 w h 1 = Int32.ofNat h ∧ pu_A0 w h 4 = -1 ∧ (∀ m, m < 8 → pu_A0 w h (808 + m) = -1) ∧ ∀ j, 2 ≤ j → j ≠ 4 → (j < 808 ∨ 816 ≤ j) → pu_A0 w h j = 0 := by
  unfold pu_A0
  refine ⟨(pu_upd_n (by decide)).trans pu_a0_0, (pu_upd_n (by decide)).trans pu_a0_1, pu_upd_s, fun m hm => (pu_upd_n (by omega)).trans (pu_a0_m hm), fun j h1 h2 h3 => (pu_upd_n h2).trans (pu_a0_z h1 h3)⟩
theorem pu_A0_AW (w1 : 0 < w) (w2 : w ≤ 20) (h1 : 0 < h) (h2 : h ≤ 20) : pu_AW (pu_A0 w h) w h ∧ pu_v (pu_A0 w h) 2 = 0 ∧ pu_v (pu_A0 w h) 3 = 0 := by
  obtain ⟨a0, a1, a4, am, az⟩ := pu_A0_v (w := w) (h := h)
  have e2 : pu_v (pu_A0 w h) 2 = 0 := pu_v0 (az 2 (by omega) (by omega) (by omega))
  have e3 : pu_v (pu_A0 w h) 3 = 0 := pu_v0 (az 3 (by omega) (by omega) (by omega))
  have hwh := pu_wh w2 h2
  have hpos : 0 < w * h := Nat.mul_pos w1 h1
  refine ⟨⟨⟨a0, a1, w1, w2, h1, h2⟩, ⟨?_, ?_, fun k hk => ?_⟩, ⟨?_, ?_, fun c hc => ?_⟩, ⟨fun c hc => Or.inl (az _ (by omega) (by omega) (by omega)), fun c hc => Or.inl (az _ (by omega) (by omega) (by omega)), fun m hm => Or.inl (am m hm), pu_is_of (x := 0) (az 6 (by omega) (by omega) (by omega)) (by decide) (by decide), pu_is_of (x := 0) (az 7 (by omega) (by omega) (by omega)) hpos (by omega)⟩, Or.inl a4, fun j hj => az j (by omega) (by omega) (by omega), fun q z1 z2 j hj => az _ (by unfold pu_cl; omega) (by unfold pu_cl; omega) (by unfold pu_cl; omega), 0, hpos, ?_⟩, e2, e3⟩
  · rw [e2]; exact az 2 (by omega) (by omega) (by omega)
  · omega
  · omega
  · rw [e3]; exact az 3 (by omega) (by omega) (by omega)
  · omega
  · omega
  · unfold pu_land
    exact decide_eq_true (az 8 (by omega) (by omega) (by omega))
theorem pu_A0_dC {s t : tw_Sg} (w1 : 0 < w) (w2 : w ≤ 20) (h1 : 0 < h) (h2 : h ≤ 20) (hb : pu_beg s 403 w h t) : pu_dC (pu_A0 w h) w h (pu_bk t 403) := by
  obtain ⟨a0, a1, a4, am, az⟩ := pu_A0_v (w := w) (h := h)
  obtain ⟨-, e2, e3⟩ := pu_A0_AW w1 w2 h1 h2
  obtain ⟨⟨b0, b1, b5, b10, b11, b12, b13⟩, c13, sl, sd, bm, bq, -⟩ := hb
  have hwh := pu_wh w2 h2
  unfold pu_dC
  rw [e2, e3]
  refine ⟨⟨⟨b0.trans a0.symm, b1.trans a1.symm, b5.trans (az 2 (by omega) (by omega) (by omega)).symm, b11.trans (az 5 (by omega) (by omega) (by omega)).symm, b12.trans (az 6 (by omega) (by omega) (by omega)).symm, c13.trans (az 3 (by omega) (by omega) (by omega)).symm, ?_, fun z => ?_⟩, pu_set_ext sl (fun c hc => ?_), pu_set_ext sd (fun c hc => ?_), fun m hm => ?_, fun k hk => by omega, fun c hc => by omega⟩, fun q z1 z2 => bq q z2⟩
  · rw [pu_tm0.mpr a4]; exact b10
  · rw [az 6 (by omega) (by omega) (by omega)] at z
    exact absurd z (by decide)
  · exact (decide_eq_true (az (8 + c) (by omega) (by omega) (by omega))).symm
  · unfold pu_dug
    rw [az (408 + c) (by omega) (by omega) (by omega)]
    rfl
  · rw [pu_mk0.mpr (am m hm)]; exact bm m hm
theorem pu_eMap0 (h0 : pu_eMap B L p = none) : 1 ≤ pu_num B L (pu_nk B L 1 p) ∧ pu_num B L (pu_nk B L 1 p) ≤ 20 ∧ 1 ≤ pu_num B L (pu_nk B L 2 p) ∧ pu_num B L (pu_nk B L 2 p) ≤ 20 := by
  obtain ⟨a1, -⟩ := pu_fs0.mp h0
  obtain ⟨a2, -, b1, b2⟩ := pu_fs0.mp a1
  obtain ⟨-, -, c1, c2⟩ := pu_fs0.mp a2
  exact ⟨by omega, by omega, by omega, by omega⟩
theorem pu_cread (hL : L ≤ 600) (hT : ∀ i, i < L → σ 402 i = Int32.ofNat (B i) ∧ B i < 256) (hn : 2000 < n) : pu_wp (tw_P_X6_read n (Int32.ofNat L) σ) (fun r => r.1 = pu_eI (pu_Xf B L).1 ∧ r.2 400 8 = pu_eJ (pu_Xf B L).1 ∧ ((pu_Xf B L).1 = none → pu_CD (pu_bk r.2 403) (pu_aE (pu_Xf B L).2.2 (pu_wN B L) (pu_hN B L)) (pu_wN B L) (pu_hN B L) (pu_v (pu_Xf B L).2.2 2) (pu_v (pu_Xf B L).2.2 3)) ∧ r.2 400 1 = 0 ∧ ∀ k, k ≠ 400 → ¬ (403 ≤ k ∧ k < 435) → r.2 k = σ k) := by
  unfold tw_P_X6_read
  refine pu_lt (pu_lt (pu_lt (pu_lt ?_)))
  refine pu_ltG (P := fun s => (∀ k, k ≠ 400 → s k = σ k) ∧ s 400 3 = Int32.ofNat L ∧ s 400 1 = 0 ∧ s 400 5 = 0 ∧ s 400 7 = 0 ∧ s 400 8 = -1) ⟨fun k hk => ?_, ?_, ?_, ?_, ?_, ?_⟩ (fun s hs => ?_)
  · rw [tw_up_n hk, tw_up_n hk, tw_up_n hk, tw_up_n hk, tw_up_n hk]
  · rw [pu_u400 (by decide), pu_u400 (by decide), pu_u400 (by decide), pu_u400 (by decide), pu_u400s]
  · rw [pu_u400 (by decide), pu_u400 (by decide), pu_u400 (by decide), pu_u400s]
  · rw [pu_u400 (by decide), pu_u400 (by decide), pu_u400s]
  · rw [pu_u400 (by decide), pu_u400s]
  · rw [pu_u400s]
  obtain ⟨s0, s3, s1, s5, s7, s8⟩ := hs
  have hcT : pu_cT B L s := ⟨s3, hL, fun i hi => by rw [s0 402 (by decide)]; exact hT i hi⟩
  refine pu_bd (pu_adv0 (e := 0) (E := none) hcT s5 (Nat.zero_le _) ⟨s7, s8⟩ hn) (fun r6 hr => ?_)
  obtain ⟨l6, f6⟩ := hr
  have N0 : r6 403 0 = Int32.ofNat (pu_N (r6 403 0)) := pu_N_ofNat rfl
  have N1 : r6 403 1 = Int32.ofNat (pu_N (r6 403 1)) := pu_N_ofNat rfl
  have H6 : pu_SC B L (pu_N (r6 403 0)) (pu_N (r6 403 1)) s (fun _ => True) none (pu_sk B L 0) r6 := ⟨⟨_, l6, fun _ => rfl⟩, ⟨N0, N1⟩, fun _ => trivial, pu_fK_A f6⟩
  have hXf : pu_run B L (pu_wN B L) (pu_hN B L) (L + 1) (pu_Xm B L) = pu_Xf B L := rfl
  have hX4 : pu_Xm B L = (pu_eMap B L (pu_sk B L 0), pu_nk B L 4 (pu_sk B L 0), pu_A0 (pu_wN B L) (pu_hN B L)) := rfl
  have hwN : pu_wN B L = pu_num B L (pu_nk B L 1 (pu_sk B L 0)) := rfl
  have hhN : pu_hN B L = pu_num B L (pu_nk B L 2 (pu_sk B L 0)) := rfl
  generalize pu_N (r6 403 0) = w0 at H6
  generalize pu_N (r6 403 1) = h0 at H6
  generalize pu_Xf B L = Xf at hXf ⊢
  generalize pu_Xm B L = X4 at hXf hX4
  generalize pu_wN B L = wN at hXf hX4 hwN ⊢
  generalize pu_hN B L = hN at hXf hX4 hhN ⊢
  generalize pu_sk B L 0 = p0 at H6 hX4 hwN hhN
  refine pu_bd (R := fun t => ∃ w h, 0 < w ∧ w ≤ 20 ∧ 0 < h ∧ h ≤ 20 ∧ pu_SC B L w h s (pu_dC (pu_A0 w h) w h) (pu_eMap B L p0) (pu_nk B L 4 p0) t ∧ (pu_eMap B L p0 = none → w = wN ∧ h = hN)) ?_ (fun r7 hr => pu_lt ?_)
  · unfold tw_P_X6_readMap
    refine pu_bd (pu_scW (q := 5) H6 (by decide) hn) (fun r1 hr => ?_)
    obtain ⟨H7, -⟩ := hr
    refine pu_bd (pu_scN (a := 1) (b := 20) (lo' := 1) H7 rfl rfl (by decide) (by decide) (fun _ => rfl) hn) (fun r2 hr => pu_lt ?_)
    obtain ⟨⟨v, ev, v1, v2, iv⟩, H8, -⟩ := hr
    refine pu_bd (pu_scN (a := 1) (b := 20) (lo' := 1) H8 rfl rfl (by decide) (by decide) (fun _ => rfl) hn) (fun r4 hr => pu_lt ?_)
    obtain ⟨⟨u, eu, u1, u2, iu⟩, H9, -⟩ := hr
    refine pu_bd (pu_scS H9 hn) (fun r5 hr => ?_)
    obtain ⟨H10, -⟩ := hr
    rw [ev, eu]
    refine pu_bd (pu_cbegin (Or.inr rfl) (by omega) v2 (by omega) u2 hn) (fun t ht => pu_some ⟨v, u, by omega, v2, by omega, u2, ?_, fun z => ?_⟩)
    · have hd := pu_A0_dC (by omega) v2 (by omega) u2 ht
      obtain ⟨⟨d0, d1, -⟩, -, -, -, -, -, hfr⟩ := ht
      obtain ⟨⟨s', ⟨⟨x1, x2, x3⟩, y1, y2, y3⟩, x4⟩, -, -, g⟩ := H10
      have e400 : t 400 = r5 400 := hfr 400 (by omega)
      refine ⟨⟨s', ⟨⟨by rw [e400]; exact x1, x2, fun i hi => by rw [hfr 402 (by omega)]; exact x3 i hi⟩, by rw [e400]; exact y1, y2, ?_⟩, x4⟩, ⟨d0, d1⟩, fun _ => hd, pu_fK_trans g ⟨fun k _ b => hfr k (by omega), by rw [e400]⟩⟩
      unfold pu_eC at y3 ⊢
      rw [e400]
      exact y3
    · have z1 := (pu_fs0.mp z).1
      exact ⟨(iv (pu_fs0.mp z1).1).trans hwN.symm, (iu z1).trans hhN.symm⟩
  obtain ⟨w, h, w1, w2, h1, h2, H7, hw⟩ := hr
  have hrun : pu_run B L w h (L + 1) (pu_eMap B L p0, pu_nk B L 4 p0, pu_A0 w h) = Xf ∧ (Xf.1 = none → w = wN ∧ h = hN) ∨ ∃ e, pu_eMap B L p0 = some e ∧ Xf.1 = some e := by
    cases e : pu_eMap B L p0 with
    | none =>
      obtain ⟨rfl, rfl⟩ := hw e
      refine Or.inl ⟨?_, fun _ => ⟨rfl, rfl⟩⟩
      rw [← hXf, hX4, e]
    | some x =>
      refine Or.inr ⟨x, rfl, ?_⟩
      rw [← hXf, hX4, e, pu_run_e (fun z => by cases z.1)]
  rcases hrun with ⟨hrun, hd⟩ | ⟨e, he, hXe⟩
  · refine pu_cons (pu_scLoop (X0 := (pu_eMap B L p0, pu_nk B L 4 p0, pu_A0 w h)) H7 (fun _ => (pu_A0_AW w1 w2 h1 h2).1) hrun hL hn) (fun r hr => ?_)
    obtain ⟨g1, g2, g3, g4⟩ := hr
    refine ⟨g1, g2, fun z => ?_, g4.2.trans s1, fun k k1 k2 => (g4.1 k k1 k2).trans (s0 k k1)⟩
    obtain ⟨y1, y2⟩ := hd z
    rw [← y1, ← y2]
    exact g3 z
  · refine pu_cons (pu_scLoop (X0 := (pu_eMap B L p0, pu_nk B L 4 p0, pu_A0 w h)) H7 (fun _ => (pu_A0_AW w1 w2 h1 h2).1) (pu_run_e (fun z => by have := z.1; rw [he] at this; cases this)) hL hn) (fun r hr => ?_)
    obtain ⟨g1, g2, g3, g4⟩ := hr
    have he' : pu_eMap B L p0 = Xf.1 := he.trans hXe.symm
    refine ⟨by rw [← he']; exact g1, by rw [← he']; exact g2, fun z => ?_, g4.2.trans s1, fun k k1 k2 => (g4.1 k k1 k2).trans (s0 k k1)⟩
    rw [hXe] at z
    cases z
end CLD
