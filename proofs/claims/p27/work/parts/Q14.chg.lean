/-! changes of the law's island -/
section DQH2
variable {a a' : Nat → Int32} {w h nb nc n : Nat} {Y Y0 Y' Y'' : dw_S} {th : Nat} {ι : Nat → Nat}
theorem dq_lens (H : pu_WF a w h nb nc) : nb ≤ 8 ∧ nc ≤ 4 ∧ w * h ≤ 400 ∧ (∀ q, q < nc → pu_ns a q ≤ 8 ∧ pu_nl a q ≤ 8) := by
  refine ⟨H.2.1.2.1, H.2.2.1.2.1, pu_wfm_le H.1, fun q hq => ?_⟩
  obtain ⟨-, h1, h2, -⟩ := H.2.2.1.2.2 q hq
  exact ⟨by have := h1.2; unfold pu_ns; omega, by have := h2.2; unfold pu_nl; omega⟩
theorem dq_I_chg {Si Sr : Nat → Nat → Prop} (H : pu_WF a w h nb nc) (F : dq_fr Si Sr Y Y') (I : dq_I Y th ι a w h nb nc) (hA : pu_ag pu_Y a a') (hSi : ∀ k j, Si k j → k = th ∨ k = ι 1 ∨ k = ι 5 ∨ (∃ i, i < nb ∧ k = ι (10 + i) ∧ j = 4) ∨ ∃ q, q < nc ∧ k = ι (20 + q)) (hSr : ∀ k j, Sr k j → k = th ∧ j = 11) (hf : dq_If Y' th a' w h) (hd : ∀ c, c < w * h → dw_i Y' (ι 1) c = a' (408 + c)) (hb : ∀ k, k < nb → dw_i Y' (ι (10 + k)) 4 = a' (816 + 5 * k + 4)) (hu : ∀ q, q < nc → dw_i Y' (ι (20 + q)) 2 = a' (pu_cl q)) : dq_I Y' th ι a' w h nb nc := by
  obtain ⟨l1, l2, l3, l4⟩ := dq_lens H
  obtain ⟨Is, -, ⟨r0, r1, r2, r3, r4, r5⟩, ⟨⟨m1, m2⟩, ⟨m3, m4⟩, m5, m6⟩, ⟨b1, b2⟩, ⟨c1, c2⟩, n1, n2, n3, n4, n5, n6, n7⟩ := I
  have F4 := F.2.2.2.1
  have F5 := F.2.2.2.2
  -- what is not written
  have ni : ∀ k kd, dw_is Y k kd → kd ≠ 13 → k ≠ ι 1 → k ≠ ι 5 → (∀ i, i < nb → k ≠ ι (10 + i)) → kd ≠ 12 → ∀ j, dw_i Y' k j = dw_i Y k j := by
    intro k kd hk h13 e1 e5 eb h12 j
    refine F4 k j hk.1 (fun z => ?_)
    rcases hSi k j z with z | z | z | ⟨i, hi, z, -⟩ | ⟨q, hq, z⟩
    · exact dq_is_ne hk Is h13 z
    · exact e1 z
    · exact e5 z
    · exact eb i hi z
    · exact dq_is_ne hk (c2 q hq).1.2.1 h12 z
  have nr : ∀ k j kd, dw_is Y k kd → kd ≠ 13 → dw_r Y' k j = dw_r Y k j := fun k j kd hk h13 => F5 k j hk.1 (fun z => dq_is_ne hk Is h13 (hSr k j z).1)
  have er : ∀ j, j ≠ 11 → dw_r Y' th j = dw_r Y th j := fun j hj => F5 th j Is.1 (fun z => hj (hSr th j z).2)
  refine ⟨dq_is_fr F Is, hf, ⟨?_, ?_, ?_, ?_, ?_, ?_⟩, ⟨⟨dq_A1_fr F m1, fun c hc => ?_⟩, ⟨dq_A1_fr F m3, hd⟩, dq_A1_fr F m5, fun k hk => ?_⟩, ⟨dq_A1_fr F b1, fun k hk => ?_⟩, ⟨dq_A1_fr F c1, fun q hq => ?_⟩, dq_A1_fr F n1, n2, n3, n4, n5, n6, n7⟩
  · rw [er _ (by decide)]; exact r0
  · rw [er _ (by decide)]; exact r1
  · rw [er _ (by decide)]; exact r2
  · rw [er _ (by decide)]; exact r3
  · rw [er _ (by decide)]; exact r4
  · rw [er _ (by decide)]; exact r5
  · rw [ni _ 21 m1.1 (by decide) n5 (dq_is_ne m1.1 n1.1 (by decide)) (fun i hi => dq_is_ne m1.1 (b2 i hi).2.1.1 (by decide)) (by decide), m2 c hc]
    exact (hA _ (pu_nY (by omega))).symm
  · rw [ni _ 20 m5.1 (by decide) (dq_is_ne m5.1 m3.1 (by decide)) (fun e => n2 e.symm) (fun i hi => (n6 i hi).1) (by decide), m6 k hk]
    exact (hA _ (pu_nY (by omega))).symm
  · obtain ⟨d1, d2, d3⟩ := b2 k hk
    refine ⟨?_, dq_A1_fr F d2, fun j hj => ?_⟩
    · rw [nr _ _ 26 b1.1 (by decide)]; exact d1
    · by_cases e : j = 4
      · subst e; exact hb k hk
      · have e2 : dw_i Y' (ι (10 + k)) j = dw_i Y (ι (10 + k)) j := by
          refine F4 _ j d2.1.1 (fun z => ?_)
          rcases hSi _ j z with z | z | z | ⟨i, hi, z, z4⟩ | ⟨q, hq, z⟩
          · exact dq_is_ne d2.1 Is (by decide) z
          · exact dq_is_ne d2.1 m3.1 (by decide) z
          · exact n3 k hk z.symm
          · exact e z4
          · exact dq_is_ne d2.1 (c2 q hq).1.2.1 (by decide) z
        rw [e2, d3 j hj]
        exact (hA _ (pu_nYb (by omega) (by omega))).symm
  · obtain ⟨⟨d1, d2, d3, d4, d5⟩, ⟨d6, d7⟩, d8, d9⟩ := c2 q hq
    obtain ⟨l5, l6⟩ := l4 q hq
    have ens := pu_ag_ns hA (q := q) (by omega)
    have enl := pu_ag_nl hA (q := q) (by omega)
    refine ⟨⟨?_, dq_is_fr F d2, hu q hq, ?_, ?_⟩, ⟨by rw [ens]; exact dq_A1_fr F d6, fun k hk => ?_⟩, by rw [enl]; exact dq_A1_fr F d8, fun l hl => ?_⟩
    · rw [nr _ _ 24 c1.1 (by decide)]; exact d1
    · rw [nr _ _ 12 d2 (by decide)]; exact d4
    · rw [nr _ _ 12 d2 (by decide)]; exact d5
    · rw [ens] at hk
      rw [ni _ 20 d6.1 (by decide) (dq_is_ne d6.1 m3.1 (by decide)) (fun e => n4 q hq e.symm) (fun i hi => (n6 i hi).2.1 q hq) (by decide), d7 k hk]
      rw [Nat.add_assoc]
      exact (hA _ (pu_nYc (by omega) (by omega) (by omega))).symm
    · rw [enl] at hl
      obtain ⟨e1, e2, e3⟩ := d9 l hl
      refine ⟨?_, dq_is_fr F e2, fun j hj => ?_⟩
      · rw [nr _ _ 23 d8.1 (by decide)]; exact e1
      · rw [ni _ 14 e2 (by decide) (dq_is_ne e2 m3.1 (by decide)) (dq_is_ne e2 n1.1 (by decide)) (fun i hi => dq_is_ne e2 (b2 i hi).2.1.1 (by decide)) (by decide), e3 j hj]
        exact (hA _ (pu_nYl (by omega) (by omega) hj)).symm
/-- the ids an island's own changes may write -/
def dq_my (th : Nat) (ι : Nat → Nat) (nb nc k : Nat) : Prop := k = th ∨ k = ι 1 ∨ k = ι 5 ∨ (∃ i, i < nb ∧ k = ι (10 + i)) ∨ ∃ q, q < nc ∧ k = ι (20 + q)
def dq_stpI (th : Nat) (ι : Nat → Nat) (nb nc : Nat) (Y Y' : dw_S) : Prop := dq_fr (fun k _ => dq_my th ι nb nc k) (fun k _ => k = th) Y Y'
theorem dq_use_stp (F : dq_use th ι Y Y') : dq_stpI th ι nb nc Y Y' := dq_fr_mono F (fun k j _ z => Or.inr (Or.inr (Or.inl z))) (fun k j _ z => z.1)
/-- dig -/
theorem dq_digs (H : pu_WF a w h nb nc) (I : dq_I Y th ι a w h nb nc) {Q : Int32 × dw_S → Prop} (hQ : ∀ Y', dq_I Y' th ι (pu_aDig a) w h nb nc → dq_stpI th ι nb nc Y Y' → Q (pu_oDig a, Y')) : dw_P_X13_digs th Y Q := by
  obtain ⟨l1, l2, l3, l4⟩ := dq_lens H
  obtain ⟨t1, t2, -⟩ := pu_team H
  have ht : pu_t a = pu_v a 4 := rfl
  obtain ⟨Is, ⟨f0, f1, f7, f8, f9, f10⟩, ⟨r2, r3, -⟩, ⟨⟨m1, m2⟩, ⟨m3, m4⟩, -⟩, ⟨b1, b2⟩, ⟨c1, c2⟩, n1, n2⟩ := id I
  rw [t1, ← ht] at f7
  rw [← ht] at t2
  have h1 := m4 _ t2
  have hdv := pu_dugV H t2
  have hth1 : th ≠ ι 1 := dq_is_ne Is m3.1 (by decide)
  dsimp only [dw_P_X13_digs, pw_lt]
  rw [f7, pu_n (by omega)]
  refine dq_ck Is (dq_nn r3 (dq_ck Is (dq_ck (dq_A1_ok m3 t2 (by omega)) ?_)))
  rw [h1, hdv]
  refine dq_if (fun z => ?_) (fun z => ?_)
  · have hnd : pu_dug a (pu_t a) = false := pu_b1_0.mp z
    refine dq_ck Is (dq_nn r3 (dq_ck Is (dq_ck (dq_A1_ok m3 t2 (by omega)) ?_)))
    rw [pu_nar1]
    have hfr1 : dq_stpI th ι nb nc Y (dw_pi Y (ι 1) (pu_t a) 1) := dq_fr_pi dq_fr_refl (fun _ => Or.inr (Or.inl rfl))
    have hn : ∀ k j, k ≠ ι 1 → dw_i (dw_pi Y (ι 1) (pu_t a) 1) k j = dw_i Y k j := fun k j hk => dq_i_pi_n (fun e => absurd e hk)
    have hA := pu_ag_Y (pu_dig_ag H)
    refine dq_ck Is (dq_jn (fun _ => pu_found a = false) (fun _ hf => ?_) (fun j hj => ?_))
    · have ha : pu_aDig a = upd a (408 + pu_t a) 1 := by unfold pu_aDig; rw [hf]; rfl
      have ho : pu_oDig a = 1 := by unfold pu_oDig; rw [hnd, hf]; rfl
      have hag : ∀ j, j ≠ 408 + pu_t a → pu_aDig a j = a j := fun j hj => by rw [ha]; exact pu_upd_n hj
      have hQ1 : ∀ Y', dq_I Y' th ι (pu_aDig a) w h nb nc → dq_stpI th ι nb nc Y Y' → Q (1, Y') := fun Y' i s => by have := hQ Y' i s; rw [ho] at this; exact this
      refine hQ1 _ (dq_I_chg H (dq_fr_pi (Si := fun k _ => k = ι 1) (Sr := fun _ _ => False) dq_fr_refl (fun _ => rfl)) I hA (fun k j z => Or.inr (Or.inl z)) (fun k j z => z.elim) ⟨?_, ?_, ?_, ?_, ?_, fun z6 => ?_⟩ (fun c hc => ?_) (fun k hk => ?_) (fun q hq => ?_)) hfr1
      · rw [hn _ _ hth1]; exact f0
      · rw [hn _ _ hth1]; exact f1
      · rw [hn _ _ hth1, f7, hag 4 (by omega), ht]; exact t1.symm
      · rw [hn _ _ hth1, hag 5 (by omega)]; exact f8
      · rw [hn _ _ hth1, hag 6 (by omega)]; exact f9
      · rw [hn _ _ hth1, hag 7 (by omega)]
        rw [hag 6 (by omega)] at z6
        exact f10 z6
      · rw [dq_i_pi]
        by_cases e : c = pu_t a
        · rw [if_pos ⟨rfl, e⟩, e, pu_dig_t H]
        · rw [if_neg (fun z => e z.2), hag _ (by omega)]; exact m4 c hc
      · rw [hn _ _ (dq_is_ne (b2 k hk).2.1.1 m3.1 (by decide)), hag _ (by omega)]
        exact (b2 k hk).2.2 4 (by omega)
      · have : pu_cl q ≠ 408 + pu_t a := by unfold pu_cl; omega
        rw [hn _ _ (dq_is_ne (c2 q hq).1.2.1 m3.1 (by decide)), hag _ this]
        exact (c2 q hq).1.2.2.1
    · have g9 : dw_i (dw_pi Y (ι 1) (pu_t a) 1) th 9 = a 6 := (hn _ _ hth1).trans f9
      have g7 : dw_i (dw_pi Y (ι 1) (pu_t a) 1) th 7 = Int32.ofNat (pu_t a) := (hn _ _ hth1).trans f7
      rw [g9, g7]
      refine dq_if (fun z6 => hj () ?_) (fun z6 => ?_)
      · unfold pu_found
        rw [decide_eq_false z6, Bool.and_false, Bool.false_and]
      have e6 : a 6 = 1 := Classical.not_not.mp z6
      obtain ⟨c71, c72⟩ := pu_chestLt H
      have g10 : dw_i (dw_pi Y (ι 1) (pu_t a) 1) th 10 = Int32.ofNat (pu_v a 7) := ((hn _ _ hth1).trans (f10 e6)).trans c71
      rw [g10]
      refine dq_ck Is (dq_ck Is (dq_if (fun z7 => ?_) (fun z7 => hj () ?_)))
      · have e7 : pu_v a 7 = pu_t a := (pu_eq (by omega) (by omega)).mp z7
        have hf : pu_found a = true := by
          unfold pu_found
          rw [hnd, decide_eq_true e6, decide_eq_true e7]
          rfl
        have ha : pu_aDig a = upd (upd a (408 + pu_t a) 1) 6 2 := by unfold pu_aDig; rw [if_pos hf]
        have ho : pu_oDig a = 2 := by unfold pu_oDig; rw [hnd, hf]; rfl
        have hag : ∀ j, j ≠ 408 + pu_t a → j ≠ 6 → pu_aDig a j = a j := fun j hj h6 => by rw [ha, pu_upd_n h6]; exact pu_upd_n hj
        have h62 : pu_aDig a 6 = 2 := by rw [ha]; exact pu_upd_s
        have hn2 : ∀ k j, k ≠ ι 1 → (k = th → j ≠ 9) → dw_i (dw_pi (dw_pi Y (ι 1) (pu_t a) 1) th 9 2) k j = dw_i Y k j := fun k j hk h9 => (dq_i_pi_n h9).trans (hn k j hk)
        have hQ2 : ∀ Y', dq_I Y' th ι (pu_aDig a) w h nb nc → dq_stpI th ι nb nc Y Y' → Q (2, Y') := fun Y' i s => by have := hQ Y' i s; rw [ho] at this; exact this
        refine dq_ck Is (hQ2 _ (dq_I_chg H (dq_fr_pi (Si := fun k _ => k = ι 1 ∨ k = th) (Sr := fun _ _ => False) (dq_fr_pi dq_fr_refl (fun _ => Or.inl rfl)) (fun _ => Or.inr rfl)) I hA (fun k j z => z.elim (fun y => Or.inr (Or.inl y)) Or.inl) (fun k j z => z.elim) ⟨?_, ?_, ?_, ?_, ?_, fun y6 => ?_⟩ (fun c hc => ?_) (fun k hk => ?_) (fun q hq => ?_)) (dq_fr_pi hfr1 (fun _ => Or.inl rfl)))
        · rw [hn2 _ _ hth1 (fun _ => by decide)]; exact f0
        · rw [hn2 _ _ hth1 (fun _ => by decide)]; exact f1
        · rw [hn2 _ _ hth1 (fun _ => by decide), f7, hag 4 (by omega) (by omega), ht]; exact t1.symm
        · rw [hn2 _ _ hth1 (fun _ => by decide), hag 5 (by omega) (by omega)]; exact f8
        · rw [dq_i_pi_s, h62]
        · rw [h62] at y6; exact absurd y6 (by decide)
        · rw [dq_i_pi_n (fun e => absurd e.symm hth1), dq_i_pi]
          by_cases e : c = pu_t a
          · rw [if_pos ⟨rfl, e⟩, e, pu_dig_t H]
          · rw [if_neg (fun z => e z.2), hag _ (by omega) (by omega)]; exact m4 c hc
        · rw [hn2 _ _ (dq_is_ne (b2 k hk).2.1.1 m3.1 (by decide)) (fun e => absurd e (dq_is_ne (b2 k hk).2.1.1 Is (by decide))), hag _ (by omega) (by omega)]
          exact (b2 k hk).2.2 4 (by omega)
        · have e1 : pu_cl q ≠ 408 + pu_t a := by unfold pu_cl; omega
          have e2 : pu_cl q ≠ 6 := by unfold pu_cl; omega
          rw [hn2 _ _ (dq_is_ne (c2 q hq).1.2.1 m3.1 (by decide)) (fun e => absurd e (dq_is_ne (c2 q hq).1.2.1 Is (by decide))), hag _ e1 e2]
          exact (c2 q hq).1.2.2.1
      · unfold pu_found
        rw [decide_eq_false (fun e : pu_v a 7 = pu_t a => z7 (by rw [e])), Bool.and_false]
  · have hd1 : pu_dug a (pu_t a) = true := pu_bF (fun e => z (pu_b1_0.mpr e))
    have ho : pu_oDig a = 0 := by unfold pu_oDig; rw [hd1]; rfl
    have hf : pu_found a = false := by unfold pu_found; rw [hd1]; rfl
    have ha : pu_aDig a = a := by
      unfold pu_aDig
      rw [hf]
      funext j
      show upd a (408 + pu_t a) 1 j = a j
      by_cases e : j = 408 + pu_t a
      · rw [e, pu_upd_s]; exact (of_decide_eq_true hd1).symm
      · exact pu_upd_n e
    have hQ0 : ∀ Y', dq_I Y' th ι (pu_aDig a) w h nb nc → dq_stpI th ι nb nc Y Y' → Q (0, Y') := fun Y' i s => by have := hQ Y' i s; rw [ho] at this; exact this
    exact hQ0 _ (by rw [ha]; exact I) dq_fr_refl
end DQH2
