/-! THE PURE DEBT, paid -/
section DQPU
variable {n Ln m k c s : Nat} {σ : tw_Sg} {hist : Nat → Nat → Int32} {buf : Nat → Nat} {xs : Nat → Int32}
/-- what a turn costs at the most -/
def dq_EC (x : Nat) : Nat := x + 442 + 1 + 1 + 1 + 6 + 1457 + 1 + 1 + 1 + 1 + 300 + 1457 + 1 + 1575 * 14 + (1457 * 8 + 7)
def dq_ES (x : Nat) : Nat := x + 11510 + 8 + 1 + 13 + 19 + 117018 + 6 + 6 + 6 + 6 + 2600 + 117018 + 9 + 125700 * 14 + (117018 * 8 + 42)
theorem dq_mono15 (x y a1 a2 a3 a4 a5 a6 a7 a8 a9 a10 a11 a12 a13 a14 a15 : Nat) (h : x ≤ y) : x + a1 + a2 + a3 + a4 + a5 + a6 + a7 + a8 + a9 + a10 + a11 + a12 + a13 + a14 + a15 ≤ y + a1 + a2 + a3 + a4 + a5 + a6 + a7 + a8 + a9 + a10 + a11 + a12 + a13 + a14 + a15 := by omega
theorem dq_EC_m {x y : Nat} (h : x ≤ y) : dq_EC x ≤ dq_EC y := by
  unfold dq_EC
  exact dq_mono15 x y 442 1 1 1 6 1457 1 1 1 1 300 1457 1 (1575 * 14) (1457 * 8 + 7) h
theorem dq_ES_m {x y : Nat} (h : x ≤ y) : dq_ES x ≤ dq_ES y := by
  unfold dq_ES
  exact dq_mono15 x y 11510 8 1 13 19 117018 6 6 6 6 2600 117018 9 (125700 * 14) (117018 * 8 + 42) h
theorem dq_EC2 : dq_EC (dq_EC 0) ≤ dw_rc := Nat.le_of_ble_eq_true rfl
theorem dq_ES2 : dq_ES (dq_ES 0) ≤ dw_rs := Nat.le_of_ble_eq_true rfl
theorem dq_EC_l {x : Nat} : x + 442 ≤ dq_EC x := dq_la (dq_la (dq_la (dq_la (dq_la (dq_la (dq_la (dq_la (dq_la (dq_la (dq_la (dq_la (dq_la (dq_la (Nat.le_refl (dq_EC x)))))))))))))))
theorem dq_ES_l {x : Nat} : x + 11510 ≤ dq_ES x := dq_la (dq_la (dq_la (dq_la (dq_la (dq_la (dq_la (dq_la (dq_la (dq_la (dq_la (dq_la (dq_la (dq_la (Nat.le_refl (dq_ES x)))))))))))))))
theorem dq_hstep (J : pu_IC σ 1 1 0 0 (pu_a0 1 1) 0 hist 0 buf (-1)) (hn : 700000 < n) (hL : Ln ≤ 260) (hk : k < 2) (hc : dq_EC c ≤ dw_rc) (hs : dq_ES s ≤ dw_rs) (hnext : ∀ c' s', c' ≤ dq_EC c → s' ≤ dq_ES s → dw_head n Ln xs σ m 1 (Int32.ofNat k + (1 : Int32)) c' s') : dw_head n Ln xs σ (m + 1) 1 (Int32.ofNat k) c s := by
  have c1 := Nat.le_trans dq_EC_l hc
  have s1 := Nat.le_trans dq_ES_l hs
  unfold dw_head
  refine dq_if (fun _ => ⟨rfl, dq_la c1, dq_la s1⟩) (fun z => ⟨⟨c1, s1⟩, ?_⟩)
  have hkL : k < Ln := by
    rcases Nat.lt_or_ge k Ln with h | h
    · exact h
    · exact absurd (Or.inl ((pu_le (by omega) (by omega)).mpr h)) z
  exact dq_lawB_ok (Y := dw_Y0 σ) J (Nat.le_refl _) (pu_ok (by omega) hkL) hn hc hs (fun Y' c' s' h1 h2 => hnext c' s' h1 h2)
theorem dq_heads (J : pu_IC σ 1 1 0 0 (pu_a0 1 1) 0 hist 0 buf (-1)) (hn : 700000 < n) (hL : Ln ≤ 260) : dw_head n Ln xs σ 3 1 0 0 0 := by
  have e1 : dq_EC 0 ≤ dw_rc := Nat.le_trans (dq_EC_m (Nat.zero_le _)) dq_EC2
  have e2 : dq_ES 0 ≤ dw_rs := Nat.le_trans (dq_ES_m (Nat.zero_le _)) dq_ES2
  refine dq_hstep (k := 0) J hn hL (by decide) e1 e2 (fun c s hc hs => ?_)
  refine dq_hstep (k := 1) J hn hL (by decide) (Nat.le_trans (dq_EC_m hc) dq_EC2) (Nat.le_trans (dq_ES_m hs) dq_ES2) (fun c2 s2 hc2 hs2 => ?_)
  have h1 : c2 ≤ dw_rc := Nat.le_trans hc2 (Nat.le_trans (dq_EC_m hc) dq_EC2)
  have h2 : s2 ≤ dw_rs := Nat.le_trans hs2 (Nat.le_trans (dq_ES_m hs) dq_ES2)
  show dw_head n Ln xs σ (0 + 1) 1 (Int32.ofNat 1 + (1 : Int32)) c2 s2
  unfold dw_head
  exact dq_ift (Or.inr (Or.inl (by decide))) ⟨rfl, h1, h2⟩
theorem dq_pure : dw_pure := by
  obtain ⟨σ1, e1, B⟩ := pu_cbegin (σ := tw_s0) (th := 1) (w := 1) (h := 1) (n := 1000000) (Or.inl rfl) (by decide) (by decide) (by decide) (by decide) (by decide)
  obtain ⟨⟨b0, b1, b5, b10, b11, b12, b13⟩, b14, bS, bD, bM, bQ, bF⟩ := B
  have z33 : ∀ q, 33 ≤ q → q < 442 → σ1 q = fun _ => 0 := fun q h1 h2 => by rw [bF q (by omega)]; rfl
  refine ⟨1000000, σ1, e1, z33, fun Ln xs hLn => ?_⟩
  obtain ⟨x, hx⟩ : ∃ x, x = tw_up (tw_up σ1 1 10 33) 0 6 (-1) := ⟨_, rfl⟩
  rw [← hx]
  have x0 : x 0 6 = -1 := by rw [hx, tw_up_s]; exact pu_upd_s
  have g1 : ∀ i, i ≠ 10 → x 1 i = σ1 1 i := fun i hi => by rw [hx, tw_up_n (by decide), tw_up_s, pu_upd_n hi]
  have x10 : x 1 10 = 33 := by rw [hx, tw_up_n (by decide), tw_up_s]; exact pu_upd_s
  have g : ∀ k, k ≠ 0 → k ≠ 1 → x k = σ1 k := fun k z0 z1 => by rw [hx, tw_up_n z0, tw_up_n z1]
  have H := pu_WF_a0 (w := 1) (h := 1) (by decide) (by decide) (by decide) (by decide)
  have hCD : pu_CD (pu_bk x 1) (pu_a0 1 1) 1 1 0 0 := by
    refine ⟨⟨?_, ?_, ?_, ?_, ?_, ?_, ?_, fun z => ?_⟩, ?_, ?_, fun m hm => ?_, fun k hk => absurd hk (Nat.not_lt_zero _), fun c hc => absurd hc (Nat.not_lt_zero _)⟩
    · show x 1 0 = _
      rw [g1 0 (by decide), b0, pu_a0_0]
    · show x 1 1 = _
      rw [g1 1 (by decide), b1, pu_a0_1]
    · show x 1 5 = _
      rw [g1 5 (by decide), b5, pu_a0_z (by decide) (by decide)]
    · show x 1 11 = _
      rw [g1 11 (by decide), b11, pu_a0_z (by decide) (by decide)]
    · show x 1 12 = _
      rw [g1 12 (by decide), b12, pu_a0_z (by decide) (by decide)]
    · show x 14 0 = _
      rw [g 14 (by decide) (by decide), pu_a0_z (by decide) (by decide)]
      exact b14
    · show x 1 10 = _
      rw [x10, pu_tm_of (c := 0) (by decide) (pu_a0_z (by decide) (by decide))]
      rfl
    · rw [pu_a0_z (by decide) (by decide)] at z
      exact absurd z (by decide)
    · refine pu_set_ext (pu_set_cong (σ := σ1) (A := 3) bS (g 3 (by decide) (by decide))) (fun c hc => ?_)
      unfold pu_land
      rw [pu_a0_z (by omega) (by omega)]
      rfl
    · refine pu_set_ext (pu_set_cong (σ := σ1) (A := 5) bD (g 5 (by decide) (by decide))) (fun c hc => ?_)
      unfold pu_dug
      rw [pu_a0_z (by omega) (by omega)]
      rfl
    · show x 7 m = _
      rw [g 7 (by decide) (by decide)]
      have : pu_mk (pu_a0 1 1) m = none := if_pos (pu_a0_m hm)
      rw [this]
      exact bM m hm
  have I : pu_IC x 1 1 0 0 (pu_a0 1 1) 0 (fun _ _ => 0) 0 (fun _ => 0) (-1) := by
    refine ⟨H, ⟨hCD, fun q hq => absurd hq (Nat.not_lt_zero _), fun c hc => ?_⟩, ⟨0, by decide, ?_, ?_, by decide, fun i hi => absurd hi (Nat.not_lt_zero _)⟩, fun i hi => absurd hi (Nat.not_lt_zero _), ⟨?_, by decide, fun i hi => absurd hi (Nat.not_lt_zero _)⟩, x0⟩
    · rw [g 35 (by decide) (by decide), z33 35 (by decide) (by decide)]
      rfl
    · rw [g 142 (by decide) (by decide), z33 142 (by decide) (by decide)]; rfl
    · rw [g 142 (by decide) (by decide), z33 142 (by decide) (by decide)]; rfl
    · rw [g 400 (by decide) (by decide), z33 400 (by decide) (by decide)]; rfl
  exact dq_heads I (by decide) hLn
end DQPU
