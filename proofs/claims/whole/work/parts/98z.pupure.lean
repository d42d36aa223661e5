/-! the start: what the constructors leave -/
theorem pu_WF_a0 {w h : Nat} (w1 : 0 < w) (w2 : w ≤ 20) (h1 : 0 < h) (h2 : h ≤ 20) : pu_WF (pu_a0 w h) w h 0 0 := by
  have hp := Nat.mul_pos w1 h1
  have h400 := pu_m400 w2 h2
  refine ⟨⟨pu_a0_0, pu_a0_1, w1, w2, h1, h2⟩, ⟨pu_a0_z (by decide) (by decide), by decide, fun k hk => absurd hk (Nat.not_lt_zero _)⟩, ⟨pu_a0_z (by decide) (by decide), by decide, fun k hk => absurd hk (Nat.not_lt_zero _)⟩, ⟨fun c hc => Or.inl (pu_a0_z (by omega) (by omega)), fun c hc => Or.inl (pu_a0_z (by omega) (by omega)), fun m hm => Or.inl (pu_a0_m hm), pu_is_of (x := 0) (pu_a0_z (by decide) (by decide)) (by decide) (by decide), pu_is_of (x := 0) (pu_a0_z (by decide) (by decide)) hp (by omega)⟩, pu_is_of (x := 0) (pu_a0_z (by decide) (by decide)) hp (by omega)⟩
theorem pu_pure (hld : pu_loadOK 5000) : tw_pure := by
  obtain ⟨σ1, e1, B⟩ := pu_cbegin (σ := tw_s0) (th := 1) (w := 1) (h := 1) (n := 5000) (Or.inl rfl) (by decide) (by decide) (by decide) (by decide) (by decide)
  obtain ⟨⟨b0, b1, b5, b10, b11, b12, b13⟩, b14, bS, bD, bM, bQ, bF⟩ := B
  obtain ⟨x, hx⟩ : ∃ x, x = tw_up (tw_up σ1 1 10 33) 0 6 (-1) := ⟨_, rfl⟩
  have x0 : x 0 6 = -1 := by rw [hx, tw_up_s]; exact pu_upd_s
  have x1 : ∀ i, i ≠ 10 → x 1 i = σ1 1 i := fun i hi => by rw [hx, tw_up_n (by decide), tw_up_s, pu_upd_n hi]
  have x10 : x 1 10 = 33 := by rw [hx, tw_up_n (by decide), tw_up_s]; exact pu_upd_s
  have xk : ∀ k, k ≠ 0 → k ≠ 1 → x k = σ1 k := fun k z0 z1 => by rw [hx, tw_up_n z0, tw_up_n z1]
  obtain ⟨σc, e2, f1, f2⟩ := pu_rlayMap (σ := tw_sb x) (r0 := 444) (w := 1) (h := 1) (n := 5000) (Or.inl rfl) (fun j _ => by rw [tw_sb_gt (by decide)]) (by decide)
  have fk : ∀ k, k < 442 → σc k = x k := fun k hk => by rw [f2 k (by omega), tw_sb_lt hk]
  have f42 : σc 442 = fun i => if i = 7 then -1 else 0 := by rw [f2 442 (by decide), tw_sb_s]
  have fg : ∀ k, 442 < k → k ≠ 444 → σc k = fun _ => 0 := fun k z1 z2 => by rw [f2 k z2, tw_sb_gt z1]
  have H := pu_WF_a0 (w := 1) (h := 1) (by decide) (by decide) (by decide) (by decide)
  have g : ∀ k, k ≠ 0 → k ≠ 1 → k < 442 → σc k = σ1 k := fun k z0 z1 z2 => (fk k z2).trans (xk k z0 z1)
  have g1 : ∀ i, i ≠ 10 → σc 1 i = σ1 1 i := fun i hi => by rw [fk 1 (by decide)]; exact x1 i hi
  have z33 : ∀ q, 33 ≤ q → q < 442 → σ1 q = fun _ => 0 := fun q h1 h2 => by rw [bF q (by omega)]; rfl
  have hCD : pu_CD (pu_bk σc 1) (pu_a0 1 1) 1 1 0 0 := by
    refine ⟨⟨?_, ?_, ?_, ?_, ?_, ?_, ?_, fun z => ?_⟩, ?_, ?_, fun m hm => ?_, fun k hk => absurd hk (Nat.not_lt_zero _), fun c hc => absurd hc (Nat.not_lt_zero _)⟩
    · show σc 1 0 = _
      rw [g1 0 (by decide), b0, pu_a0_0]
    · show σc 1 1 = _
      rw [g1 1 (by decide), b1, pu_a0_1]
    · show σc 1 5 = _
      rw [g1 5 (by decide), b5, pu_a0_z (by decide) (by decide)]
    · show σc 1 11 = _
      rw [g1 11 (by decide), b11, pu_a0_z (by decide) (by decide)]
    · show σc 1 12 = _
      rw [g1 12 (by decide), b12, pu_a0_z (by decide) (by decide)]
    · show σc 14 0 = _
      rw [g 14 (by decide) (by decide) (by decide), pu_a0_z (by decide) (by decide)]
      exact b14
    · show σc 1 10 = _
      rw [fk 1 (by decide), x10, pu_tm_of (c := 0) (by decide) (pu_a0_z (by decide) (by decide))]
      rfl
    · rw [pu_a0_z (by decide) (by decide)] at z
      exact absurd z (by decide)
    · refine pu_set_ext (pu_set_cong (σ := σ1) (A := 3) bS (g 3 (by decide) (by decide) (by decide))) (fun c hc => ?_)
      unfold pu_land
      rw [pu_a0_z (by omega) (by omega)]
      rfl
    · refine pu_set_ext (pu_set_cong (σ := σ1) (A := 5) bD (g 5 (by decide) (by decide) (by decide))) (fun c hc => ?_)
      unfold pu_dug
      rw [pu_a0_z (by omega) (by omega)]
      rfl
    · show σc 7 m = _
      rw [g 7 (by decide) (by decide) (by decide)]
      have : pu_mk (pu_a0 1 1) m = none := if_pos (pu_a0_m hm)
      rw [this]
      exact bM m hm
  have I : pu_Inv σc := by
    refine ⟨1, 1, 0, 0, 0, 0, pu_a0 1 1, fun _ _ => 0, fun _ => 0, -1, ⟨H, ⟨hCD, fun q hq => absurd hq (Nat.not_lt_zero _), fun c hc => ?_⟩, ⟨0, by decide, ?_, ?_, by decide, fun i hi => absurd hi (Nat.not_lt_zero _)⟩, fun i hi => absurd hi (Nat.not_lt_zero _), ⟨?_, by decide, fun i hi => absurd hi (Nat.not_lt_zero _)⟩, ?_⟩, ⟨⟨f1, Or.inl ?_⟩, ⟨?_, by decide, fun i hi => absurd hi (Nat.not_lt_zero _), fun r hr j hj => ?_⟩, ⟨?_, fun i hi => absurd hi (Nat.not_lt_zero _)⟩, ?_⟩⟩
    · rw [g 35 (by decide) (by decide) (by decide), z33 35 (by decide) (by decide)]
      rfl
    · rw [g 142 (by decide) (by decide) (by decide), z33 142 (by decide) (by decide)]; rfl
    · rw [g 142 (by decide) (by decide) (by decide), z33 142 (by decide) (by decide)]; rfl
    · rw [g 400 (by decide) (by decide) (by decide), z33 400 (by decide) (by decide)]; rfl
    · rw [fk 0 (by decide)]; exact x0
    · rw [f42]; rfl
    · rw [f42]; rfl
    · by_cases e : r = 444
      · rw [e, f1, pu_a0_z (by omega) (by omega)]
      · rw [fg r (by unfold pu_dr at hr; omega) e]
    · rw [f42]; rfl
    · rw [f42]; rfl
  refine ⟨5000, σ1, σc, e1, z33, ?_, fg 1036 (by decide) (by decide), fun Ln xs hLn => ?_⟩
  · rw [← hx]
    exact e2
  · exact pu_lawL (by decide) hld hLn 514 0 σc (Nat.zero_le _) (by omega) I
