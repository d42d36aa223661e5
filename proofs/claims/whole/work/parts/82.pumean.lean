/-! meanDistance -/
theorem pu_nnv {s k : Int32} (hk : k ≠ 0) : tw_nn (FP.ddiv (FP.i2d s) (FP.i2d k)) = true := by
  have h1 := Jvm.FP.Core.i2d_mag s
  have h2 := Jvm.FP.Core.i2d_big (v := k) (Jvm.FP.Core.int32_ne hk)
  have h3 := Jvm.FP.Core.ddiv_mag (K := 1056) (L := 1023) h1 h2.1 h2.2 (by decide) (by decide)
  unfold tw_nn
  refine decide_eq_true ?_
  rw [UInt64.le_iff_toNat_le, UInt64.toNat_and]
  show (Jvm.FP.Core.ddiv (Jvm.FP.Core.i2d s) (Jvm.FP.Core.i2d k)).toNat &&& (2 ^ 63 - 1) ≤ 9218868437227405312
  rw [Nat.and_two_pow_sub_one_eq_mod]
  omega
/-- how many of the cells below m are left and can be come to, and their distances' sum -/
def pu_ms (p : Nat → Bool) (D : Nat → Int) : Nat → Nat × Int32
  | 0 => (0, 0)
  | m + 1 => if p m = true ∧ 0 ≤ D m then ((pu_ms p D m).1 + 1, (pu_ms p D m).2 + Int32.ofInt (D m)) else pu_ms p D m
theorem pu_ms_S {p : Nat → Bool} {D : Nat → Int} {m : Nat} : pu_ms p D (m + 1) = if p m = true ∧ 0 ≤ D m then ((pu_ms p D m).1 + 1, (pu_ms p D m).2 + Int32.ofInt (D m)) else pu_ms p D m := rfl
theorem pu_ms_le {p : Nat → Bool} {D : Nat → Int} : ∀ m, (pu_ms p D m).1 ≤ m
  | 0 => Nat.le_refl _
  | m + 1 => by
    have := pu_ms_le (p := p) (D := D) m
    rw [pu_ms_S]
    split
    · show (pu_ms p D m).1 + 1 ≤ m + 1
      omega
    · omega
noncomputable def pu_oMean (a : Nat → Int32) (w h nb nc : Nat) : UInt64 := if (pu_ms (pu_left a w h nb nc) (pu_D a w h) (w * h)).1 = 0 then FP.dconst0 else FP.ddiv (FP.i2d (pu_ms (pu_left a w h nb nc) (pu_D a w h) (w * h)).2) (FP.i2d (Int32.ofNat (pu_ms (pu_left a w h nb nc) (pu_D a w h) (w * h)).1))
theorem pu_cmean {σ : tw_Sg} {a : Nat → Int32} {w h nb nc n : Nat} (H : pu_WF a w h nb nc) (C : pu_CC σ a w h nb nc) (hn : 1000 < n) : pu_wp (tw_P_X11_meanDistance n σ) (fun r => r.1 = pu_oMean a w h nb nc ∧ pu_fr pu_SQ σ r.2) := by
  obtain ⟨-, -, w1, w2, h1, h2⟩ := id H.1
  have hm400 := pu_wfm_le H.1
  unfold tw_P_X11_meanDistance
  refine pu_bd (R := fun r => r.1 = pu_oMean a w h nb nc ∧ pu_fr pu_SQ σ r.2) ?_ (fun r hr => pu_some hr)
  unfold tw_P_X8_meanOfLeft
  refine pu_bd (pu_cleft H.1 H.2.1.2.1 H.2.2.1 C.1 C.2.1 (by omega)) (fun r1 hr1 => ?_)
  obtain ⟨x1, x2, x3⟩ := hr1
  refine pu_ck (by rw [x1]; rfl) ?_
  have C1 : pu_CC r1.2 a w h nb nc := pu_CC_fr H C (fun k hk => x3 k (by omega))
  refine pu_bd (pu_cfar H C1 (by omega)) (fun r3 hr3 => ?_)
  obtain ⟨y1, y2, y3⟩ := hr3
  refine pu_ck (by rw [y1]; rfl) (pu_lt (pu_lt (pu_lt ?_)))
  have hS : pu_set r3.2 (140 + 1) w (w * h) (pu_left a w h nb nc) := pu_set_cong x2 (y3 141 (by unfold pu_F2; omega))
  have hF : pu_fr pu_SQ σ r3.2 := pu_fr_trans (pu_fr_mono x3 (fun k hk => by unfold pu_SQ; omega)) (pu_F2_SQ y3)
  refine pu_lp (J := fun s => ∃ i k, i ≤ 704 ∧ s.2.2 = Int32.ofNat i ∧ pu_at w (w * h) i k ∧ s.2.1 = Int32.ofNat (pu_ms (pu_left a w h nb nc) (pu_D a w h) k).1 ∧ s.1 = (pu_ms (pu_left a w h nb nc) (pu_D a w h) k).2) (m := fun s => 704 - s.2.2.toNatClampNeg) ?_ n _ (by show 704 - _ < n; omega) ⟨0, 0, by omega, rfl, pu_at0, rfl, rfl⟩
  rintro k9 ⟨ss, cc, ii⟩ ⟨i, k, hi, e1, hA, e2, e3⟩ hk9
  dsimp only [] at e1 e2 e3
  subst e1; subst e2; subst e3
  dsimp only []
  have hle := pu_ms_le (p := pu_left a w h nb nc) (D := pu_D a w h) k
  have hk400 : k ≤ w * h := hA.1
  refine pu_if (fun c1 => ?_) (fun c1 => ?_)
  · have c1 := (pu_le (a := 704) (by omega) (by omega)).mp c1
    have : i = 704 := by omega
    subst this
    have := pu_at_end w2 h2 hA
    subst this
    refine pu_jn (R := fun v => v = pu_oMean a w h nb nc) (fun v hv => pu_some ⟨hv, hF⟩) (fun f hf => ?_)
    refine pu_if (fun c2 => ?_) (fun c2 => ?_)
    · have c2 := (pu_le (b := 0) (by omega) (by omega)).mp c2
      refine hf _ ?_
      unfold pu_oMean
      rw [if_pos (by omega)]
    · have c2 : ¬ (pu_ms (pu_left a w h nb nc) (pu_D a w h) (w * h)).1 = 0 := fun z => c2 ((pu_le (b := 0) (by omega) (by omega)).mpr (by omega))
      refine pu_ck (pu_nnv (pu_ne0 (by omega) (by omega))) (hf _ ?_)
      unfold pu_oMean
      rw [if_neg c2]
  · have c1 : i < 704 := Nat.lt_of_not_le (fun z => c1 ((pu_le (a := 704) (b := i) (by omega) (by omega)).mpr z))
    have em : Int32.ofNat i + (1 : Int32) = Int32.ofNat (i + 1) := pu_add i 1
    refine pu_bde (pu_has pu_kd140 c1) ?_
    refine pu_jn (R := fun v => ∃ k', pu_at w (w * h) (i + 1) k' ∧ v.2 = Int32.ofNat (pu_ms (pu_left a w h nb nc) (pu_D a w h) k').1 ∧ v.1 = (pu_ms (pu_left a w h nb nc) (pu_D a w h) k').2) (fun v hv => ?_) (fun f hf => ?_)
    · obtain ⟨k', z1, z2, z3⟩ := hv
      refine pu_lt ?_
      rw [em]
      refine hk9 _ ⟨i + 1, k', by omega, rfl, z1, z2, z3⟩ ?_
      show 704 - (Int32.ofNat (i + 1)).toNatClampNeg < 704 - (Int32.ofNat i).toNatClampNeg
      rw [pu_n (by omega), pu_n (by omega)]
      omega
    · rcases pu_at_step w2 hA with ⟨hk, es, hA'⟩ | ⟨hno, hA'⟩
      · have hbt : pu_bt r3.2 (140 + 1) i = pu_left a w h nb nc k := by rw [es]; exact hS.1 k hk
        obtain ⟨D1, D2⟩ := pu_D_rng H hk
        have hsk : ¬ (pu_left a w h nb nc k = true ∧ 0 ≤ pu_D a w h k) → pu_ms (pu_left a w h nb nc) (pu_D a w h) (k + 1) = pu_ms (pu_left a w h nb nc) (pu_D a w h) k := fun z => by rw [pu_ms_S]; exact if_neg z
        rw [hbt]
        refine pu_if (fun c2 => ?_) (fun c2 => ?_)
        · have c2 : pu_b1 (pu_left a w h nb nc k) = 0 := c2
          rw [pu_b1_0] at c2
          have e := hsk (fun z => by rw [c2] at z; exact absurd z.1 (by decide))
          exact hf _ ⟨k + 1, hA', by rw [e], by rw [e]⟩
        · have c2 : ¬ pu_b1 (pu_left a w h nb nc k) = 0 := c2
          rw [pu_b1_0] at c2
          rw [es]
          refine pu_bde (y2 k hk) ?_
          refine pu_if (fun c3 => ?_) (fun c3 => ?_)
          · rw [pu_neg2 D1 D2] at c3
            have e := hsk (fun z => by omega)
            exact hf _ ⟨k + 1, hA', by rw [e], by rw [e]⟩
          · rw [pu_neg2 D1 D2] at c3
            have e : pu_ms (pu_left a w h nb nc) (pu_D a w h) (k + 1) = ((pu_ms (pu_left a w h nb nc) (pu_D a w h) k).1 + 1, (pu_ms (pu_left a w h nb nc) (pu_D a w h) k).2 + Int32.ofInt (pu_D a w h k)) := by rw [pu_ms_S]; exact if_pos ⟨pu_bF c2, by omega⟩
            refine pu_bde (y2 k hk) (pu_lt (pu_lt (hf _ ⟨k + 1, hA', ?_, ?_⟩)))
            · rw [e]; exact pu_add _ 1
            · rw [e]
      · have hbt : pu_bt r3.2 (140 + 1) i = false := hS.2 i c1 hno
        rw [hbt]
        exact pu_ift (by decide) (hf _ ⟨k, hA', rfl, rfl⟩)
/-- what a question of the reference leaves, whatever it answers -/
def pu_Q0 (σ : tw_Sg) (a : Nat → Int32) (w h nb nc : Nat) (s : tw_Sg) : Prop := s 442 0 = 0 ∧ pu_RL s a w h nb nc ∧ (∀ i, i ≠ 0 → i ≠ 22 → s 442 i = σ 442 i) ∧ pu_fr pu_FQ σ s
theorem pu_Q0_fr {σ s s' : tw_Sg} {a : Nat → Int32} {w h nb nc : Nat} {T : Nat → Prop} (H : pu_WF a w h nb nc) (hQ : pu_Q0 σ a w h nb nc s) (hf : pu_fr T s s') (hT : ∀ k, T k → k = 455 ∨ k = 456 ∨ (498 ≤ k ∧ k < 1036)) : pu_Q0 σ a w h nb nc s' := by
  obtain ⟨t0, ⟨tL1, tL2⟩, ti, tF⟩ := hQ
  have e42 : s' 442 = s 442 := hf 442 (fun z => by have := hT 442 z; omega)
  have e44 : s' 444 = s 444 := hf 444 (fun z => by have := hT 444 z; omega)
  refine ⟨by rw [e42]; exact t0, ⟨e44.trans tL1, ?_⟩, fun i z1 z2 => by rw [e42]; exact ti i z1 z2, pu_fr_trans tF (pu_fr_mono hf (fun k hk => by have := hT k hk; unfold pu_FQ; omega))⟩
  rw [e42]
  rcases tL2 with z | ⟨z1, z2⟩
  · exact Or.inl z
  · have hnc := H.2.2.1.2.1
    refine Or.inr ⟨z1, fun q hq l hl => pu_es_cong (z2 q hq l hl) (hf _ (fun z => ?_))⟩
    have h9 : pu_nl a q < 9 := (H.2.2.1.2.2 q hq).2.2.1.2
    have := hT _ z
    unfold pu_En at this; omega
theorem pu_Q0_RS {σ s s' : tw_Sg} {a : Nat → Int32} {w h nb nc : Nat} (hQ : pu_Q0 σ a w h nb nc s) (hL : pu_RL s' a w h nb nc) (hS : pu_RS s s') : pu_Q0 σ a w h nb nc s' := by
  obtain ⟨q1, q2, q3⟩ := pu_RS_FQ hS
  exact ⟨q2.trans hQ.1, hL, fun i z1 z2 => (q1 i z1 z2).trans (hQ.2.2.1 i z1 z2), pu_fr_trans hQ.2.2.2 q3⟩
theorem pu_rmean {σ : tw_Sg} {a : Nat → Int32} {w h nb nc n : Nat} (H : pu_WF a w h nb nc) (hL : pu_RL σ a w h nb nc) (hn : 1000 < n) : pu_wp (tw_P_X12_meanDistance n σ) (fun r => r.1 = pu_oMean a w h nb nc ∧ pu_Q0 σ a w h nb nc r.2) := by
  have hm400 := pu_wfm_le H.1
  unfold tw_P_X12_meanDistance
  refine pu_ropenG hL (fun σ1 h0 hL1 hi1 hf1 => ?_)
  refine pu_ck (by rw [pu_l444]; decide) (pu_bd (pu_rfarT H hL1 (by omega)) (fun σ2 h2 => ?_))
  obtain ⟨g1, g2, g3, g4⟩ := h2
  refine pu_lt (pu_lt (pu_lt ?_))
  rw [pu_l508]
  refine pu_lp (J := fun s => ∃ c, c ≤ w * h ∧ s.2.2.1 = Int32.ofNat c ∧ s.1 = Int32.ofNat (pu_ms (pu_left a w h nb nc) (pu_D a w h) c).1 ∧ s.2.1 = (pu_ms (pu_left a w h nb nc) (pu_D a w h) c).2 ∧ pu_RL s.2.2.2 a w h nb nc ∧ pu_RS σ2 s.2.2.2) (m := fun s => w * h - s.2.2.1.toNatClampNeg) ?_ n _ (by show w * h - _ < n; omega) ⟨0, by omega, rfl, rfl, rfl, g2, pu_RS_refl⟩
  rintro k7 ⟨nn, ss, cc, σ3⟩ ⟨c, hc, e1, e2, e3, hL3, hS3⟩ hk7
  dsimp only [] at e1 e2 e3 hL3 hS3
  subst e1; subst e2; subst e3
  dsimp only []
  have hle := pu_ms_le (p := pu_left a w h nb nc) (D := pu_D a w h) c
  refine pu_bde (pu_rcells (σ := σ3) (w := w) (h := h) (by rw [hL3.1]; exact H.1)) ?_
  refine pu_if (fun hc1 => ?_) (fun hc1 => ?_)
  · have hc1 := (pu_le (by omega) (by omega)).mp hc1
    have : c = w * h := by omega
    subst this
    obtain ⟨q1, q2, q3⟩ := pu_RS_FQ hS3
    have hQ : pu_Q0 σ a w h nb nc σ3 := ⟨by rw [q2, g3]; exact h0, hL3, fun i z1 z2 => by rw [q1 i z1 z2, g3]; exact hi1 i z1 z2, pu_fr_trans hf1 (pu_fr_trans (pu_F3_FQ g4) q3)⟩
    refine pu_jn (R := fun v => v = pu_oMean a w h nb nc) (fun v hv => pu_some ⟨hv, hQ⟩) (fun f hf => ?_)
    refine pu_if (fun c2 => ?_) (fun c2 => ?_)
    · have c3 : ¬ (pu_ms (pu_left a w h nb nc) (pu_D a w h) (w * h)).1 = 0 := fun z => c2 (by rw [z]; rfl)
      refine pu_ck (pu_nnv c2) (hf _ ?_)
      unfold pu_oMean
      rw [if_neg c3]
    · have c2 := Classical.not_not.mp c2
      refine hf _ ?_
      unfold pu_oMean
      rw [if_pos ((pu_eq (b := 0) (by omega) (by omega)).mp c2)]
  have hc1 : c < w * h := by rw [pu_le (by omega) (by omega)] at hc1; omega
  refine pu_bd (pu_rleft H hL3 hc1 hn) (fun r hr => ?_)
  obtain ⟨r1, r2, r3⟩ := hr
  have hS4 := pu_RS_trans hS3 r3
  have e508 : ∀ d, d < w * h → r.2 508 d = Int32.ofInt (pu_D a w h d) := fun d hd => by rw [hS4.2 508 (by unfold pu_F11 pu_F10 pu_F9; omega)]; exact g1 d hd
  obtain ⟨D1, D2⟩ := pu_D_rng H hc1
  refine pu_jn (R := fun v => v.1 = Int32.ofNat (pu_ms (pu_left a w h nb nc) (pu_D a w h) (c + 1)).1 ∧ v.2 = (pu_ms (pu_left a w h nb nc) (pu_D a w h) (c + 1)).2) (fun v hv => ?_) (fun f hf => ?_)
  · refine pu_lt ?_
    have em : Int32.ofNat c + (1 : Int32) = Int32.ofNat (c + 1) := pu_add c 1
    rw [em]
    refine hk7 _ ⟨c + 1, by omega, rfl, hv.1, hv.2, r2, hS4⟩ ?_
    show w * h - (Int32.ofNat (c + 1)).toNatClampNeg < w * h - (Int32.ofNat c).toNatClampNeg
    rw [pu_n (by omega), pu_n (by omega)]
    omega
  have hsk : ¬ (pu_left a w h nb nc c = true ∧ 0 ≤ pu_D a w h c) → pu_ms (pu_left a w h nb nc) (pu_D a w h) (c + 1) = pu_ms (pu_left a w h nb nc) (pu_D a w h) c := fun z => by rw [pu_ms_S]; exact if_neg z
  refine pu_if (fun c2 => ?_) (fun c2 => ?_)
  · rw [r1, pu_b1_0] at c2
    have e := hsk (fun z => by rw [c2] at z; exact absurd z.1 (by decide))
    exact hf _ ⟨by rw [e], by rw [e]⟩
  · rw [r1, pu_b1_0] at c2
    have hl := pu_bF c2
    refine pu_ck (pu_ok (by omega) (by omega)) ?_
    rw [pu_n (show c < 2147483648 by omega), e508 c hc1]
    refine pu_if (fun c3 => ?_) (fun c3 => ?_)
    · rw [pu_neg3 D1 D2] at c3
      have e : pu_ms (pu_left a w h nb nc) (pu_D a w h) (c + 1) = ((pu_ms (pu_left a w h nb nc) (pu_D a w h) c).1 + 1, (pu_ms (pu_left a w h nb nc) (pu_D a w h) c).2 + Int32.ofInt (pu_D a w h c)) := by rw [pu_ms_S]; exact if_pos ⟨hl, by omega⟩
      refine pu_lt (pu_ck (pu_ok (by omega) (by omega)) (pu_lt (hf _ ⟨?_, ?_⟩)))
      · rw [e]; exact pu_add _ 1
      · rw [e]
    · rw [pu_neg3 D1 D2] at c3
      have e := hsk (fun z => by omega)
      exact hf _ ⟨by rw [e], by rw [e]⟩
