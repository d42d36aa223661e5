/-! nearest of the reference -/
theorem pu_rnear {σ : tw_Sg} {a : Nat → Int32} {w h nb nc n : Nat} (H : pu_WF a w h nb nc) (hL : pu_RL σ a w h nb nc) (hn : 1000 < n) : pu_wp (tw_P_X12_nearest n σ) (pu_QR σ a w h nb nc (.inl (pu_eR (pu_near (pu_left a w h nb nc) (pu_D a w h) (w * h))))) := by
  have hm400 := pu_wfm_le H.1
  unfold tw_P_X12_nearest
  refine pu_ropenG hL (fun σ1 h0 hL1 hi1 hf1 => ?_)
  refine pu_ck (by rw [pu_l444]; decide) (pu_bd (pu_rfarT H hL1 (by omega)) (fun σ2 h2 => ?_))
  obtain ⟨g1, g2, g3, g4⟩ := h2
  refine pu_lt (pu_lt ?_)
  rw [pu_l508]
  refine pu_lp (J := fun s => ∃ c, c ≤ w * h ∧ s.2.1 = Int32.ofNat c ∧ s.1 = pu_eR (pu_near (pu_left a w h nb nc) (pu_D a w h) c) ∧ pu_RL s.2.2 a w h nb nc ∧ pu_RS σ2 s.2.2) (m := fun s => w * h - s.2.1.toNatClampNeg) ?_ n _ (by show w * h - _ < n; omega) ⟨0, by omega, rfl, rfl, g2, pu_RS_refl⟩
  rintro k6 ⟨bb, cc, σ3⟩ ⟨c, hc, e1, e2, hL3, hS3⟩ hk6
  dsimp only [] at e1 e2 hL3 hS3
  subst e1; subst e2
  dsimp only []
  refine pu_bde (pu_rcells (σ := σ3) (w := w) (h := h) (by rw [hL3.1]; exact H.1)) ?_
  refine pu_if (fun hc1 => ?_) (fun hc1 => ?_)
  · have hc1 := (pu_le (by omega) (by omega)).mp hc1
    have : c = w * h := by omega
    subst this
    obtain ⟨q1, q2, q3⟩ := pu_RS_FQ hS3
    exact pu_some (pu_rsay rfl (by rw [q2, g3]; exact h0) hL3 (fun i z1 z2 => by rw [q1 i z1 z2, g3]; exact hi1 i z1 z2) (pu_fr_trans hf1 (pu_fr_trans (pu_F3_FQ g4) q3)))
  · have hc1 : c < w * h := by rw [pu_le (by omega) (by omega)] at hc1; omega
    refine pu_bd (pu_rleft H hL3 hc1 hn) (fun r hr => ?_)
    obtain ⟨r1, r2, r3⟩ := hr
    have hS4 := pu_RS_trans hS3 r3
    have e508 : ∀ d, d < w * h → r.2 508 d = Int32.ofInt (pu_D a w h d) := fun d hd => by rw [hS4.2 508 (by unfold pu_F11 pu_F10 pu_F9; omega)]; exact g1 d hd
    obtain ⟨D1, D2⟩ := pu_D_rng H hc1
    refine pu_jn (R := fun v => v = pu_eR (pu_near (pu_left a w h nb nc) (pu_D a w h) (c + 1))) (fun v hv => ?_) (fun f hf => ?_)
    · refine pu_lt ?_
      have em : Int32.ofNat c + (1 : Int32) = Int32.ofNat (c + 1) := pu_add c 1
      rw [em]
      refine hk6 _ ⟨c + 1, by omega, rfl, hv, r2, hS4⟩ ?_
      show w * h - (Int32.ofNat (c + 1)).toNatClampNeg < w * h - (Int32.ofNat c).toNatClampNeg
      rw [pu_n (by omega), pu_n (by omega)]
      omega
    · refine pu_if (fun c2 => ?_) (fun c2 => ?_)
      · rw [r1, pu_b1_0] at c2
        refine hf _ ?_
        rw [pu_near_S, if_neg (fun z => by rw [c2] at z; exact absurd z.1 (by decide))]
      · rw [r1, pu_b1_0] at c2
        have hl := pu_bF c2
        refine pu_ck (pu_ok (by omega) (by omega)) ?_
        rw [pu_n (show c < 2147483648 by omega), e508 c hc1]
        have htake : pu_nearer (pu_D a w h) c (pu_near (pu_left a w h nb nc) (pu_D a w h) c) = true → 0 ≤ pu_D a w h c → Int32.ofNat c = pu_eR (pu_near (pu_left a w h nb nc) (pu_D a w h) (c + 1)) := fun hz h0 => by
          rw [pu_near_S, if_pos ⟨hl, h0, hz⟩]; rfl
        refine pu_if (fun c3 => ?_) (fun c3 => ?_)
        · rw [pu_neg3 D1 D2] at c3
          refine hf _ ?_
          rw [pu_near_S, if_neg (fun z => by have := z.2.1; omega)]
        · rw [pu_neg3 D1 D2] at c3
          have hz0 := pu_eRn (o := pu_near (pu_left a w h nb nc) (pu_D a w h) c) (fun q z => by have := pu_near_lt q z; omega)
          refine pu_jn0 (pu_if (fun c4 => ?_) (fun c4 => ?_))
          · rw [hz0] at c4
            exact pu_lt (hf _ (htake (by rw [c4]; rfl) (by omega)))
          · rw [hz0] at c4
            cases eb : pu_near (pu_left a w h nb nc) (pu_D a w h) c with
            | none => exact absurd eb c4
            | some b =>
              have hb : b < c := pu_near_lt b eb
              obtain ⟨B1, B2⟩ := pu_D_rng H (show b < w * h by omega)
              have eo : pu_eR (some b) = Int32.ofNat b := rfl
              rw [eo]
              refine pu_ck (pu_ok (by omega) (by omega)) (pu_ck (pu_ok (by omega) (by omega)) ?_)
              rw [pu_n (show b < 2147483648 by omega), e508 b (by omega)]
              refine pu_if (fun c5 => ?_) (fun c5 => ?_)
              · rw [pu_leI B1 B2 D1 D2] at c5
                refine hf _ ?_
                rw [pu_near_S, if_neg, eb]
                · rfl
                rintro ⟨-, -, z⟩
                rw [eb] at z
                have z : decide (pu_D a w h c < pu_D a w h b) = true := z
                have := of_decide_eq_true z
                omega
              · rw [pu_leI B1 B2 D1 D2] at c5
                refine pu_lt (hf _ (htake ?_ (by omega)))
                rw [eb]
                show decide (pu_D a w h c < pu_D a w h b) = true
                exact decide_eq_true (by omega)
