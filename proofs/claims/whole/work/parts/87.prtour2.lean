/-! tour of the reference, whole -/
theorem pu_rtour {σ : tw_Sg} {a : Nat → Int32} {w h nb nc n : Nat} (H : pu_WF a w h nb nc) (hL : pu_RL σ a w h nb nc) (hn : 1000 < n) : pu_wp (tw_P_X12_tour n σ) (pu_QR σ a w h nb nc (.inl (pu_oTour a w h nb nc))) := by
  have hm400 := pu_wfm_le H.1
  have hKle := pu_sum_le (p := pu_left a w h nb nc) (w * h)
  unfold tw_P_X12_tour
  refine pu_ropenG hL (fun σ1 h0 hL1 hi1 hf1 => pu_lt ?_)
  refine pu_bd (pu_rcount (x := 1) H hL1 (by decide) hn) (fun r3 hr3 => ?_)
  obtain ⟨x1, x2, x3⟩ := hr3
  have x1 : r3.1 = Int32.ofNat (pu_sum (pu_left a w h nb nc) (w * h)) := x1
  obtain ⟨p1, p2, p3⟩ := pu_RS_FQ x3
  refine pu_if (fun c1 => ?_) (fun c1 => ?_)
  rotate_left
  · rw [x1] at c1
    have c1 : 9 < pu_sum (pu_left a w h nb nc) (w * h) := Nat.lt_of_not_le (fun z => c1 ((pu_le (b := 9) (by omega) (by decide)).mpr z))
    refine pu_some (pu_rsay (congrArg Sum.inl ?_) (p2.trans h0) x2 (fun i z1 z2 => (p1 i z1 z2).trans (hi1 i z1 z2)) (pu_fr_trans hf1 p3))
    unfold pu_oTour pu_oTourK
    rw [if_neg (by omega), if_pos c1]
  rw [x1] at c1
  have hK9 : pu_sum (pu_left a w h nb nc) (w * h) ≤ 9 := (pu_le (b := 9) (by omega) (by decide)).mp c1
  refine pu_ck (by rw [pu_l444]; decide) (pu_bd (pu_rfarT H x2 (by omega)) (fun σ2 h2 => ?_))
  obtain ⟨g1, g2, g3, g4⟩ := h2
  have g1 : ∀ c, c < w * h → σ2 508 c = Int32.ofInt (pu_dd a w h (pu_v a 4) c) := g1
  -- what has been kept so far
  have hQ2 : pu_Q0 σ a w h nb nc σ2 := ⟨by rw [g3]; exact p2.trans h0, g2, fun i z1 z2 => by rw [g3]; exact (p1 i z1 z2).trans (hi1 i z1 z2), pu_fr_trans hf1 (pu_fr_trans p3 (pu_F3_FQ g4))⟩
  clear x1 x2 x3 p1 p2 p3 g2 g3 g4 h0 hL1 hi1 hf1
  rw [pu_l508, pu_l511, pu_l512, pu_l513]
  refine pu_lt ?_
  refine pu_lp (J := fun s => ∃ c, c ≤ w * h ∧ s.2.1 = Int32.ofNat c ∧ s.1 = Int32.ofNat (pu_sum (pu_left a w h nb nc) c) ∧ (∀ d, d < c → pu_left a w h nb nc d = true → 0 ≤ pu_dd a w h (pu_v a 4) d ∧ s.2.2 511 (pu_sum (pu_left a w h nb nc) d) = Int32.ofNat d ∧ s.2.2 512 (pu_sum (pu_left a w h nb nc) d) = Int32.ofInt (pu_dd a w h (pu_v a 4) d)) ∧ (∀ d, d < w * h → s.2.2 508 d = Int32.ofInt (pu_dd a w h (pu_v a 4) d)) ∧ pu_Q0 σ a w h nb nc s.2.2) (m := fun s => w * h - s.2.1.toNatClampNeg) ?_ n _ (by show w * h - _ < n; omega) ⟨0, by omega, rfl, rfl, fun d hd => absurd hd (Nat.not_lt_zero _), g1, hQ2⟩
  clear g1 hQ2
  rintro k7 ⟨nn, cc, σ3⟩ ⟨c, hc, e1, e2, hG, hD, hQ⟩ hk7
  dsimp only [] at e1 e2 hG hD hQ
  subst e1; subst e2
  dsimp only []
  obtain ⟨q0, qL, qi, qF⟩ := id hQ
  have hsc := pu_sum_mono (p := pu_left a w h nb nc) (w * h) hc
  refine pu_bde (pu_rcells (σ := σ3) (w := w) (h := h) (by rw [qL.1]; exact H.1)) ?_
  refine pu_if (fun hc1 => ?_) (fun hc1 => ?_)
  rotate_left
  · have hc1 : c < w * h := by rw [pu_le (by omega) (by omega)] at hc1; omega
    refine pu_bd (pu_rleft H qL hc1 hn) (fun r hr => ?_)
    obtain ⟨r1, r2, r3⟩ := hr
    obtain ⟨s1, s2, s3⟩ := pu_RS_FQ r3
    have hQ4 : pu_Q0 σ a w h nb nc r.2 := ⟨s2.trans q0, r2, fun i z1 z2 => (s1 i z1 z2).trans (qi i z1 z2), pu_fr_trans qF s3⟩
    have e508 : r.2 508 = σ3 508 := r3.2 508 (by unfold pu_F11 pu_F10 pu_F9; omega)
    have e511 : r.2 511 = σ3 511 := r3.2 511 (by unfold pu_F11 pu_F10 pu_F9; omega)
    have e512 : r.2 512 = σ3 512 := r3.2 512 (by unfold pu_F11 pu_F10 pu_F9; omega)
    obtain ⟨D1, D2⟩ := pu_dd_rng H (pu_team H).2.1 hc1
    refine pu_jn (R := fun v => v.1 = Int32.ofNat (pu_sum (pu_left a w h nb nc) (c + 1)) ∧ (∀ d, d < c + 1 → pu_left a w h nb nc d = true → 0 ≤ pu_dd a w h (pu_v a 4) d ∧ v.2 511 (pu_sum (pu_left a w h nb nc) d) = Int32.ofNat d ∧ v.2 512 (pu_sum (pu_left a w h nb nc) d) = Int32.ofInt (pu_dd a w h (pu_v a 4) d)) ∧ (∀ d, d < w * h → v.2 508 d = Int32.ofInt (pu_dd a w h (pu_v a 4) d)) ∧ pu_Q0 σ a w h nb nc v.2) (fun v hv => ?_) (fun f hf => ?_)
    · obtain ⟨z1, z2, z3, z4⟩ := hv
      refine pu_lt ?_
      have em : Int32.ofNat c + (1 : Int32) = Int32.ofNat (c + 1) := pu_add c 1
      rw [em]
      refine hk7 _ ⟨c + 1, by omega, rfl, z1, z2, z3, z4⟩ ?_
      show w * h - (Int32.ofNat (c + 1)).toNatClampNeg < w * h - (Int32.ofNat c).toNatClampNeg
      rw [pu_n (by omega), pu_n (by omega)]
      omega
    refine pu_if (fun c2 => ?_) (fun c2 => ?_)
    rotate_left
    · have c2 := Classical.not_not.mp c2
      rw [r1, pu_b1_0] at c2
      refine hf _ ⟨?_, fun d hd hl => ?_, fun d hd => ?_, hQ4⟩
      · rw [pu_sum_S, c2]; rfl
      · by_cases e : d = c
        · rw [e, c2] at hl; cases hl
        · show _ ∧ r.2 511 _ = _ ∧ r.2 512 _ = _
          rw [e511, e512]
          exact hG d (by omega) hl
      · show r.2 508 d = _
        rw [e508]; exact hD d hd
    · rw [r1, pu_b1_0] at c2
      have hl := pu_bF c2
      have hlt := pu_sum_lt hc1 hl
      refine pu_ck (pu_ok (by omega) (by omega)) ?_
      rw [pu_n (show c < 2147483648 by omega)]
      refine pu_if (fun c3 => ?_) (fun c3 => ?_)
      · rw [e508, hD c hc1, pu_neg3 D1 D2] at c3
        refine pu_ck (pu_ok (by omega) (by omega)) ?_
        rw [pu_n (show pu_sum (pu_left a w h nb nc) c < 2147483648 by omega)]
        have hQu : ∀ (t : tw_Sg) (A i : Nat) (x : Int32), (A = 511 ∨ A = 512) → pu_Q0 σ a w h nb nc t → pu_Q0 σ a w h nb nc (tw_up t A i x) := fun t A i x hA ht => by
          obtain ⟨t0, ⟨tL1, tL2⟩, ti, tF⟩ := ht
          have h2 : tw_up t A i x 442 = t 442 := tw_up_n (by omega)
          refine ⟨by rw [h2]; exact t0, ⟨(tw_up_n (by omega)).trans tL1, ?_⟩, fun i z1 z2 => by rw [h2]; exact ti i z1 z2, pu_fr_trans tF (pu_fr_up (by unfold pu_FQ; omega))⟩
          rw [h2]
          rcases tL2 with z | ⟨z1, z2⟩
          · exact Or.inl z
          · have hnc := H.2.2.1.2.1
            refine Or.inr ⟨z1, fun q hq l hl => pu_es_cong (z2 q hq l hl) (tw_up_n ?_)⟩
            have h9 : pu_nl a q < 9 := (H.2.2.1.2.2 q hq).2.2.1.2
            unfold pu_En; omega
        refine pu_ltG (P := fun t => pu_Q0 σ a w h nb nc t ∧ t 508 = σ3 508 ∧ t 512 = σ3 512 ∧ (∀ d, d < c + 1 → pu_left a w h nb nc d = true → t 511 (pu_sum (pu_left a w h nb nc) d) = Int32.ofNat d)) ⟨hQu _ _ _ _ (Or.inl rfl) hQ4, (tw_up_n (by decide)).trans e508, (tw_up_n (by decide)).trans e512, fun d hd hld => ?_⟩ (fun σ4 h4 => ?_)
        · rw [tw_up_s]
          unfold upd
          by_cases e : d = c
          · subst e; exact if_pos rfl
          · have := pu_sum_lt (show d < c by omega) hld
            rw [if_neg (by omega), e511]
            exact (hG d (by omega) hld).2.1
        obtain ⟨y1, y2, y3, y4⟩ := h4
        refine pu_ck (pu_ok (by omega) (by omega)) (pu_ck (pu_ok (by omega) (by omega)) (pu_lt (pu_lt (hf _ ⟨?_, fun d hd hld => ⟨?_, ?_, ?_⟩, fun d hd => ?_, hQu _ _ _ _ (Or.inr rfl) y1⟩))))
        · rw [pu_sum_S, hl]; exact pu_add _ 1
        · by_cases e : d = c
          · subst e; omega
          · exact (hG d (by omega) hld).1
        · dsimp only []
          rw [tw_up_n (by decide)]
          exact y4 d hd hld
        · show tw_up σ4 512 _ (σ4 508 c) 512 _ = _
          rw [tw_up_s]
          unfold upd
          by_cases e : d = c
          · subst e
            rw [if_pos rfl, y2]
            exact hD d hc1
          · have := pu_sum_lt (show d < c by omega) hld
            rw [if_neg (by omega), y3]
            exact (hG d (by omega) hld).2.2
        · dsimp only []
          rw [tw_up_n (by decide), y2]
          exact hD d hd
      · have c3 := Classical.not_not.mp c3
        rw [e508, hD c hc1, pu_neg3 D1 D2] at c3
        obtain ⟨y0, yL, yi, yF⟩ := hQ4
        refine pu_some (pu_rsay (congrArg Sum.inl ?_) y0 yL yi yF)
        unfold pu_oTour pu_oTourK
        rw [if_neg (by omega), if_neg (by omega), if_neg]
        intro z
        have z := pu_B_iff.mp z (pu_sum (pu_left a w h nb nc) c) hlt
        rw [pu_g_of hl (w * h) hc1] at z
        omega
  have hc1 := (pu_le (by omega) (by omega)).mp hc1
  have : c = w * h := by omega
  subst this
  have hgin := fun j => pu_g_in (p := pu_left a w h nb nc) (i := j) (w * h)
  have hG' : ∀ j, j < pu_sum (pu_left a w h nb nc) (w * h) → 0 ≤ pu_dd a w h (pu_v a 4) (pu_g (pu_left a w h nb nc) (w * h) j) ∧ σ3 511 j = Int32.ofNat (pu_g (pu_left a w h nb nc) (w * h) j) ∧ σ3 512 j = Int32.ofInt (pu_dd a w h (pu_v a 4) (pu_g (pu_left a w h nb nc) (w * h) j)) := fun j hj => by
    obtain ⟨b1, b2, b3⟩ := hgin j hj
    have := hG _ b1 b2
    rw [b3] at this
    exact this
  clear hk7 hG hD q0 qL qi qF hsc hc1 hc
  unfold pu_oTour
  generalize pu_sum (pu_left a w h nb nc) (w * h) = K at *
  generalize pu_g (pu_left a w h nb nc) (w * h) = G at *
  have hGl : ∀ j, j < K → G j < w * h := fun j hj => (hgin j hj).1
  refine pu_lt ?_
  refine pu_lp (J := fun s => ∃ i, i ≤ K ∧ s.2.1 = Int32.ofNat i ∧ s.1 = Int32.ofNat K ∧ (∀ j, j < K → s.2.2 511 j = Int32.ofNat (G j) ∧ s.2.2 512 j = Int32.ofInt (pu_dd a w h (pu_v a 4) (G j))) ∧ (∀ k j, k < i → j < K → s.2.2 (513 + 1 + 1 * k) j = Int32.ofInt (pu_dd a w h (G k) (G j))) ∧ pu_Q0 σ a w h nb nc s.2.2) (m := fun s => K - s.2.1.toNatClampNeg) ?_ n _ (by show K - _ < n; omega) ⟨0, by omega, rfl, rfl, fun j hj => (hG' j hj).2, fun k j hk => absurd hk (Nat.not_lt_zero _), hQ⟩
  have hopen : ∀ j, j < K → 0 ≤ pu_dd a w h (pu_v a 4) (G j) := fun j hj => (hG' j hj).1
  clear hG' hQ
  rintro k11 ⟨nn, ii, σ4⟩ ⟨i, hi, e1, e2, hG, hB, hQ⟩ hk11
  dsimp only [] at e1 e2 hG hB hQ
  subst e1; subst e2
  dsimp only []
  obtain ⟨q0, qL, qi, qF⟩ := id hQ
  refine pu_if (fun c1 => ?_) (fun c1 => ?_)
  · have c1 := (pu_le (by omega) (by omega)).mp c1
    have : i = K := by omega
    subst this
    refine pu_jn (R := fun v => pu_QR σ a w h nb nc (.inl (pu_oTourK a w h i G)) v) (fun v hv => pu_some hv) (fun f hf => ?_)
    refine pu_if (fun c2 => ?_) (fun c2 => ?_)
    · have c2 : i ≠ 0 := fun z => c2 (by rw [z]; rfl)
      refine pu_bd (pu_rshort (σ := σ4) hK9 (by omega) (pu_hpG H hGl) (fun j hj => (hG j hj).2) hB hn) (fun r hr => hf _ ?_)
      obtain ⟨r1, r2⟩ := hr
      have e42 : r.2 442 = σ4 442 := r2 442 (by unfold pu_F14; omega)
      refine pu_rsay (congrArg Sum.inl ?_) (by rw [e42]; exact q0) ⟨(r2 444 (by unfold pu_F14; omega)).trans qL.1, ?_⟩ (fun i z1 z2 => by rw [e42]; exact qi i z1 z2) (pu_fr_trans qF (pu_fr_mono r2 (fun k hk => by unfold pu_F14 at hk; unfold pu_FQ; omega)))
      · unfold pu_oTourK
        rw [if_neg c2, if_neg (by omega), if_pos (pu_B_t hopen)]
        exact r1.symm
      · rw [e42]
        rcases qL.2 with z | ⟨z1, z2⟩
        · exact Or.inl z
        · have hnc := H.2.2.1.2.1
          refine Or.inr ⟨z1, fun q hq l hl => pu_es_cong (z2 q hq l hl) (r2 _ ?_)⟩
          have h9 : pu_nl a q < 9 := (H.2.2.1.2.2 q hq).2.2.1.2
          unfold pu_F14 pu_En; omega
    · have c2 := (pu_eq (b := 0) (by omega) (by decide)).mp (Classical.not_not.mp c2)
      refine hf _ (pu_rsay (congrArg Sum.inl ?_) q0 qL qi qF)
      unfold pu_oTourK
      rw [if_pos c2]
  have c1 : i < K := by rw [pu_le (by omega) (by omega)] at c1; omega
  refine pu_ck (pu_ok (by omega) (by omega)) ?_
  rw [pu_n (show i < 2147483648 by omega), (hG i c1).1]
  refine pu_bd (pu_rfar (σ := σ4) (w := w) (h := h) (by rw [qL.1]; exact H.1) (hGl i c1) (by omega)) (fun σ5 h5 => ?_)
  obtain ⟨⟨f1, -⟩, f2⟩ := h5
  rw [qL.1] at f1
  have f1 : ∀ c, c < w * h → σ5 508 c = Int32.ofInt (pu_dd a w h (G i) c) := f1
  have e42 : σ5 442 = σ4 442 := f2 442 (by unfold pu_F3; omega)
  have hQ5 : pu_Q0 σ a w h nb nc σ5 := by
    refine ⟨by rw [e42]; exact q0, ⟨(f2 444 (by unfold pu_F3; omega)).trans qL.1, ?_⟩, fun i z1 z2 => by rw [e42]; exact qi i z1 z2, pu_fr_trans qF (pu_F3_FQ f2)⟩
    rw [e42]
    rcases qL.2 with z | ⟨z1, z2⟩
    · exact Or.inl z
    · have hnc := H.2.2.1.2.1
      refine Or.inr ⟨z1, fun q hq l hl => pu_es_cong (z2 q hq l hl) (f2 _ ?_)⟩
      have h9 : pu_nl a q < 9 := (H.2.2.1.2.2 q hq).2.2.1.2
      unfold pu_F3 pu_En; omega
  refine pu_lt ?_
  refine pu_lp (J := fun s => ∃ j, j ≤ K ∧ s.2.2.1 = Int32.ofNat j ∧ s.1 = Int32.ofNat K ∧ s.2.1 = Int32.ofNat i ∧ (∀ d, d < w * h → s.2.2.2 508 d = Int32.ofInt (pu_dd a w h (G i) d)) ∧ (∀ j, j < K → s.2.2.2 511 j = Int32.ofNat (G j) ∧ s.2.2.2 512 j = Int32.ofInt (pu_dd a w h (pu_v a 4) (G j))) ∧ (∀ k j, k < i → j < K → s.2.2.2 (513 + 1 + 1 * k) j = Int32.ofInt (pu_dd a w h (G k) (G j))) ∧ (∀ x, x < j → s.2.2.2 (513 + 1 + 1 * i) x = Int32.ofInt (pu_dd a w h (G i) (G x))) ∧ pu_Q0 σ a w h nb nc s.2.2.2) (m := fun s => K - s.2.2.1.toNatClampNeg) ?_ n _ (by show K - _ < n; omega) ⟨0, by omega, rfl, rfl, rfl, f1, fun j hj => ?_, fun k j hk hj => ?_, fun x hx => absurd hx (Nat.not_lt_zero _), hQ5⟩
  rotate_left
  · show σ5 511 j = _ ∧ σ5 512 j = _
    rw [f2 511 (by unfold pu_F3; omega), f2 512 (by unfold pu_F3; omega)]
    exact hG j hj
  · show σ5 _ j = _
    rw [f2 _ (by unfold pu_F3; omega)]
    exact hB k j hk hj
  clear hG hB hQ q0 qL qi qF f1 f2 e42 hQ5
  rintro k18 ⟨nn, i2, jj, σ6⟩ ⟨j, hj, e1, e2, e3, hD, hG, hB, hX, hQ⟩ hk18
  dsimp only [] at e1 e2 e3 hD hG hB hX hQ
  subst e1; subst e2; subst e3
  dsimp only []
  refine pu_if (fun c2 => ?_) (fun c2 => ?_)
  · have c2 := (pu_le (by omega) (by omega)).mp c2
    have : j = K := by omega
    subst this
    refine pu_lt ?_
    have em : Int32.ofNat i + (1 : Int32) = Int32.ofNat (i + 1) := pu_add i 1
    rw [em]
    refine hk11 _ ⟨i + 1, by omega, rfl, rfl, hG, fun k x hk hx => ?_, hQ⟩ ?_
    · by_cases e : k = i
      · subst e; exact hX x hx
      · exact hB k x (by omega) hx
    · show j - (Int32.ofNat (i + 1)).toNatClampNeg < j - (Int32.ofNat i).toNatClampNeg
      rw [pu_n (by omega), pu_n (by omega)]
      omega
  have c2 : j < K := by rw [pu_le (by omega) (by omega)] at c2; omega
  have hgj := hGl j c2
  rw [pu_n (show i < 2147483648 by omega), pu_n (show j < 2147483648 by omega), (hG j c2).1, pu_lB (show i < 9 by omega), pu_n (show G j < 2147483648 by omega)]
  refine pu_ck (pu_ok (by omega) (by omega)) (pu_ck (pu_ok (by omega) (by omega)) (pu_ck (pu_ok (by omega) (by omega)) (pu_ck (pu_ok (by omega) (by omega)) ?_)))
  refine pu_lt (pu_lt ?_)
  have em : Int32.ofNat j + (1 : Int32) = Int32.ofNat (j + 1) := pu_add j 1
  rw [em]
  refine hk18 _ ⟨j + 1, by omega, rfl, rfl, rfl, fun d hd => ?_, fun x hx => ?_, fun k x hk hx => ?_, fun x hx => ?_, ?_⟩ ?_
  · dsimp only []
    rw [tw_up_n (by omega)]
    exact hD d hd
  · dsimp only []
    rw [tw_up_n (by omega), tw_up_n (by omega)]
    exact hG x hx
  · show tw_up σ6 _ _ _ _ x = _
    rw [tw_up_n (by omega)]
    exact hB k x hk hx
  · show tw_up σ6 _ _ _ _ x = _
    rw [tw_up_s]
    unfold upd
    by_cases e : x = j
    · subst e
      rw [if_pos rfl]
      exact hD _ hgj
    · rw [if_neg e]
      exact hX x (by omega)
  · obtain ⟨t0, ⟨tL1, tL2⟩, ti, tF⟩ := hQ
    have e42 : ∀ x y, tw_up σ6 (513 + 1 + 1 * i) x y 442 = σ6 442 := fun x y => tw_up_n (by omega)
    refine ⟨by show tw_up σ6 _ _ _ 442 0 = 0; rw [e42]; exact t0, ⟨(tw_up_n (by omega)).trans tL1, ?_⟩, fun i z1 z2 => by show tw_up σ6 _ _ _ 442 _ = _; rw [e42]; exact ti i z1 z2, pu_fr_trans tF (pu_fr_up (by unfold pu_FQ; omega))⟩
    dsimp only []
    rw [e42]
    rcases tL2 with z | ⟨z1, z2⟩
    · exact Or.inl z
    · have hnc := H.2.2.1.2.1
      refine Or.inr ⟨z1, fun q hq l hl => pu_es_cong (z2 q hq l hl) (tw_up_n ?_)⟩
      have h9 : pu_nl a q < 9 := (H.2.2.1.2.2 q hq).2.2.1.2
      unfold pu_En; omega
  · show K - (Int32.ofNat (j + 1)).toNatClampNeg < K - (Int32.ofNat j).toNatClampNeg
    rw [pu_n (by omega), pu_n (by omega)]
    omega
