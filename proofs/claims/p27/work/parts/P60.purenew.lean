/-! the class's renew: turning areas and the sets of all legs -/
theorem pu_startSpot {σ : tw_Sg} {a : Nat → Int32} {w h nb nc q k : Nat} (H : pu_cl1 σ a w h nb nc) (hq : q < nc) (hk : k < pu_ns a q) : tw_P_X10_startSpot (Int32.ofNat q) (Int32.ofNat k) σ = some (Int32.ofNat (pu_sp w (pu_sc a q k))) ∧ pu_sc a q k < w * h := by
  obtain ⟨hm, hc, hCD, ht⟩ := H
  have hle := pu_wfm_le hm
  obtain ⟨-, hnc, hcq⟩ := hc
  obtain ⟨-, ⟨-, hns⟩, -, hst, -⟩ := hcq q hq
  have hns : pu_ns a q < 9 := hns
  obtain ⟨⟨s1, s2⟩, s3, s4⟩ := hst k hk
  obtain ⟨-, -, -, hmk, -, hcd⟩ := hCD
  obtain ⟨-, -, -, c4, -⟩ := hcd q hq
  have c4 : σ 20 (8 * q + k) = _ := c4 k hk
  refine ⟨?_, s4⟩
  dsimp only [tw_P_X10_startSpot, tw_P_X1_startMark]
  have ei : Int32.ofNat q * (8 : Int32) + Int32.ofNat k = Int32.ofNat (8 * q + k) := by
    show Int32.ofNat q * Int32.ofNat 8 + Int32.ofNat k = _
    rw [pu_mul, pu_add, Nat.mul_comm]
  rw [ei, pu_get (N := 32) (by decide +kernel) (by decide) (by omega)]
  dsimp only [tw_bd]
  rw [show 14 + 5 + 1 = 20 from rfl, c4, s1, pu_get (N := 8) (by decide +kernel) (by decide) s2]
  have hm2 := hmk _ s2
  have hm2 : σ 7 (pu_v a (pu_cl q + 3 + k)) = _ := hm2
  show some (σ 7 _) = _
  rw [hm2]
  unfold pu_mk
  rw [if_neg (by rw [s3]; exact pu_nm1 (by omega))]
  rfl
def pu_Lq (q k : Nat) : Prop := 41 + 18 * q ≤ k ∧ k < 58 + 18 * q
theorem pu_La_Lq {q l : Nat} (hl : l < 9) : pu_Lq q (pu_La q l) := by unfold pu_Lq pu_La; omega
theorem pu_La_inj {q l l' : Nat} (h : l ≠ l') : pu_La q l ≠ pu_La q l' := by unfold pu_La; omega
theorem pu_follow {σ : tw_Sg} {a : Nat → Int32} {w h nb nc q n : Nat} (H : pu_cl1 σ a w h nb nc) (W : nb ≤ 8) (hn : 1000 < n) (hq : q < nc) (h0 : ∀ l, l ≤ pu_nl a q → pu_set σ (pu_La q l) w (w * h) (fun _ => false)) :
    pu_wp (tw_P_X10_follow n (Int32.ofNat q) σ) (fun σ' => (∀ l, l ≤ pu_nl a q → pu_set σ' (pu_La q l) w (w * h) (fun d => pu_B (pu_Fw a w h nb q l d))) ∧ pu_fr (pu_Lq q) σ σ') := by
  obtain ⟨hm, hcc, hCD, ht⟩ := id H
  have hle := pu_wfm_le hm
  have hw := hm.2.2.2.1
  have hh := hm.2.2.2.2.2
  obtain ⟨-, hnc, hcq⟩ := id hcc
  obtain ⟨-, ⟨ens, hns⟩, ⟨enl, hnl⟩, hst, hlq⟩ := hcq q hq
  have hnl : pu_nl a q < 9 := hnl
  have hns : pu_ns a q < 9 := hns
  have ens : a (pu_cl q + 1) = Int32.ofNat (pu_ns a q) := ens
  have enl : a (pu_cl q + 2) = Int32.ofNat (pu_nl a q) := enl
  obtain ⟨-, -, -, -, -, hcd⟩ := id hCD
  obtain ⟨-, c2, c3, -, -⟩ := hcd q hq
  have c2 : σ 18 q = _ := c2
  have c3 : σ 22 q = _ := c3
  have hlow : ∀ {σ1 : tw_Sg}, pu_fr (pu_Lq q) σ σ1 → ∀ k, k < 36 → σ1 k = σ k := fun hF k hk => hF k (by unfold pu_Lq; omega)
  unfold tw_P_X10_follow
  refine pu_lt ?_
  refine pu_lp (J := fun s => ∃ k, k ≤ pu_ns a q ∧ s.1 = Int32.ofNat k ∧ pu_set s.2 (pu_La q 0) w (w * h) (fun d => pu_B (∃ k', k' < k ∧ pu_sc a q k' = d)) ∧ (∀ l, 0 < l → l ≤ pu_nl a q → pu_set s.2 (pu_La q l) w (w * h) (fun _ => false)) ∧ pu_fr (pu_Lq q) σ s.2) (m := fun s => 10 - s.1.toNatClampNeg) ?_ n _ (by show 10 - _ < n; omega) ⟨0, by omega, rfl, pu_set_ext (h0 0 (by omega)) (fun d _ => (pu_B_f (fun ⟨k', hk', _⟩ => absurd hk' (Nat.not_lt_zero _))).symm), fun l _ hl => h0 l hl, pu_fr_refl⟩
  rintro k3 ⟨kk, σ1⟩ ⟨k, hk, e1, hS, hE, hF⟩ hk3
  dsimp only [] at e1 hS hE hF
  subst e1
  dsimp only []
  have H1 := pu_cl1_fr H (hlow hF) W
  refine pu_bde (pu_get (N := 4) (by decide +kernel) (by decide) (by omega)) ?_
  rw [show 17 + 1 = 18 from rfl, hlow hF 18 (by decide), c2, ens]
  refine pu_if (fun hc => ?_) (fun hc => ?_)
  · have hc := (pu_le (by omega) (by omega)).mp hc
    have : k = pu_ns a q := by omega
    subst this
    refine pu_lt ?_
    refine pu_lp (J := fun s => ∃ l, l ≤ pu_nl a q ∧ s.1 = Int32.ofNat l ∧ (∀ l', l' ≤ l → pu_set s.2 (pu_La q l') w (w * h) (fun d => pu_B (pu_Fw a w h nb q l' d))) ∧ (∀ l', l < l' → l' ≤ pu_nl a q → pu_set s.2 (pu_La q l') w (w * h) (fun _ => false)) ∧ pu_fr (pu_Lq q) σ s.2) (m := fun s => 10 - s.1.toNatClampNeg) ?_ n _ (by show 10 - _ < n; omega) ⟨0, by omega, rfl, fun l' hl' => ?_, fun l' h1 h2 => hE l' h1 h2, hF⟩
    · rintro k7 ⟨ll, σ2⟩ ⟨l, hl, e1, hS2, hE2, hF2⟩ hk7
      dsimp only [] at e1 hS2 hE2 hF2
      subst e1
      dsimp only []
      refine pu_bde (pu_get (N := 4) (by decide +kernel) (by decide) (by omega)) ?_
      rw [show 21 + 1 = 22 from rfl, hlow hF2 22 (by decide), c3, enl]
      refine pu_if (fun hc2 => ?_) (fun hc2 => ?_)
      · have hc2 := (pu_le (by omega) (by omega)).mp hc2
        exact pu_some ⟨fun l' hl' => hS2 l' (by omega), hF2⟩
      · have hc2 : l < pu_nl a q := by rw [pu_le (by omega) (by omega)] at hc2; omega
        refine pu_lt ?_
        refine pu_lp (J := fun s => ∃ sp, sp ≤ 704 ∧ s.2.1 = Int32.ofNat sp ∧ s.1 = Int32.ofNat l ∧ (∀ l', l' ≤ l → pu_set s.2.2 (pu_La q l') w (w * h) (fun d => pu_B (pu_Fw a w h nb q l' d))) ∧ pu_set s.2.2 (pu_La q (l + 1)) w (w * h) (fun d => pu_B (∃ c, c < w * h ∧ pu_sp w c < sp ∧ pu_Fw a w h nb q l c ∧ pu_E a w h nb q l c d)) ∧ (∀ l', l + 1 < l' → l' ≤ pu_nl a q → pu_set s.2.2 (pu_La q l') w (w * h) (fun _ => false)) ∧ pu_fr (pu_Lq q) σ s.2.2) (m := fun s => 704 - s.2.1.toNatClampNeg) ?_ n _ (by show 704 - _ < n; omega) ⟨0, by omega, rfl, rfl, hS2, pu_set_ext (hE2 (l + 1) (by omega) (by omega)) (fun d _ => (pu_B_f (fun ⟨c, _, y, _⟩ => absurd y (Nat.not_lt_zero _))).symm), fun l' y1 y2 => hE2 l' (by omega) y2, hF2⟩
        rintro k11 ⟨l3, ss, σ3⟩ ⟨sp, hsp, e1, e2, hS3, hN3, hE3, hF3⟩ hk11
        dsimp only [] at e1 e2 hS3 hN3 hE3 hF3
        subst e1; subst e2
        dsimp only []
        refine pu_if (fun hc3 => ?_) (fun hc3 => ?_)
        · have hc3 := (pu_le (a := 704) (by decide) (by omega)).mp hc3
          refine pu_lt ?_
          have em : Int32.ofNat l + (1 : Int32) = Int32.ofNat (l + 1) := pu_add l 1
          rw [em]
          refine hk7 _ ⟨l + 1, by omega, rfl, fun l' hl' => ?_, fun l' y1 y2 => hE3 l' y1 y2, hF3⟩ ?_
          · rcases Nat.lt_or_ge l' (l + 1) with y | y
            · exact hS3 l' (by omega)
            · have : l' = l + 1 := by omega
              subst this
              refine pu_set_ext hN3 (fun d _ => pu_B_cong ⟨fun ⟨c, z1, _, z3, z4⟩ => ⟨c, z1, z3, z4⟩, fun ⟨c, z1, z3, z4⟩ => ⟨c, z1, ?_, z3, z4⟩⟩)
              have := pu_sp_rng hw hh z1
              omega
          · show 10 - (Int32.ofNat (l + 1)).toNatClampNeg < 10 - (Int32.ofNat l).toNatClampNeg
            rw [pu_n (by omega), pu_n (by omega)]
            omega
        · have hc3 : sp < 704 := by
            rcases Nat.lt_or_ge sp 704 with y | y
            · exact y
            · exact absurd ((pu_le (a := 704) (by decide) (by omega)).mpr y) hc3
          obtain ⟨y1, y2⟩ := pu_layer (σ := σ3) (q := q) (l := l) (by omega) (by omega)
          refine pu_bde y1 (pu_ck (decide_eq_true y2) ?_)
          refine pu_bde (pu_has y2 hc3) ?_
          have eA : 40 + 2 * (9 * q + l) + 1 = pu_La q l := by unfold pu_La; omega
          rw [eA]
          dsimp only [tw_jn]
          have em : Int32.ofNat sp + (1 : Int32) = Int32.ofNat (sp + 1) := pu_add sp 1
          have hgo : ∀ σ4 : tw_Sg, (∀ l', l' ≤ l → pu_set σ4 (pu_La q l') w (w * h) (fun d => pu_B (pu_Fw a w h nb q l' d))) → pu_set σ4 (pu_La q (l + 1)) w (w * h) (fun d => pu_B (∃ c, c < w * h ∧ pu_sp w c < sp + 1 ∧ pu_Fw a w h nb q l c ∧ pu_E a w h nb q l c d)) → (∀ l', l + 1 < l' → l' ≤ pu_nl a q → pu_set σ4 (pu_La q l') w (w * h) (fun _ => false)) → pu_fr (pu_Lq q) σ σ4 → pu_wp (tw_lt (Int32.ofNat sp + 1) fun v18 => k11 (Int32.ofNat l, v18, σ4)) (fun σ' => (∀ l, l ≤ pu_nl a q → pu_set σ' (pu_La q l) w (w * h) (fun d => pu_B (pu_Fw a w h nb q l d))) ∧ pu_fr (pu_Lq q) σ σ') := by
            intro σ4 z1 z2 z3 z4
            refine pu_lt ?_
            rw [em]
            refine hk11 _ ⟨sp + 1, by omega, rfl, rfl, z1, z2, z3, z4⟩ ?_
            show 704 - (Int32.ofNat (sp + 1)).toNatClampNeg < 704 - (Int32.ofNat sp).toNatClampNeg
            rw [pu_n (by omega), pu_n (by omega)]
            omega
          by_cases hcell : ∃ c, c < w * h ∧ sp = pu_sp w c
          · obtain ⟨c, hcm, rfl⟩ := hcell
            have hb1 : pu_bt σ3 (pu_La q l) (pu_sp w c) = pu_B (pu_Fw a w h nb q l c) := (hS3 l (Nat.le_refl _)).1 c hcm
            rw [hb1]
            by_cases hFw : pu_Fw a w h nb q l c
            · rw [pu_B_t hFw]
              refine pu_iff (by decide) ?_
              have H3 := pu_cl1_fr H (hlow hF3) W
              refine pu_bd (pu_followLeg H3 W (by omega) hq hc2 hcm hN3) (fun σ4 h4 => ?_)
              obtain ⟨q1, q2⟩ := h4
              have hoth : ∀ l', l' ≠ l + 1 → σ4 (pu_La q l') = σ3 (pu_La q l') := fun l' hne => q2 _ (pu_La_inj hne)
              refine hgo σ4 (fun l' z => pu_set_cong (hS3 l' z) (hoth l' (by omega))) (pu_set_ext q1 (fun d _ => pu_B_cong ⟨fun z => ?_, fun z => ?_⟩)) (fun l' z1 z2 => pu_set_cong (hE3 l' z1 z2) (hoth l' (by omega))) (pu_fr_trans hF3 (pu_fr_mono q2 (fun k hk => by rw [hk]; exact pu_La_Lq (by omega))))
              · rcases z with ⟨c', z1, z2, z3⟩ | z
                · exact ⟨c', z1, by omega, z3⟩
                · exact ⟨c, hcm, by omega, hFw, z⟩
              · obtain ⟨c', z1, z2, z3, z4⟩ := z
                by_cases hcc' : c' = c
                · subst hcc'
                  exact Or.inr z4
                · have : pu_sp w c' ≠ pu_sp w c := fun e => hcc' (pu_sp_inj hw z1 hcm e)
                  exact Or.inl ⟨c', z1, by omega, z3, z4⟩
            · rw [pu_B_f hFw]
              refine pu_ift (by decide) ?_
              refine hgo σ3 hS3 (pu_set_ext hN3 (fun d _ => pu_B_cong ⟨fun ⟨c', z1, z2, z3⟩ => ⟨c', z1, by omega, z3⟩, fun ⟨c', z1, z2, z3, z4⟩ => ⟨c', z1, ?_, z3, z4⟩⟩)) hE3 hF3
              have : pu_sp w c' ≠ pu_sp w c := fun e => hFw (by rw [← pu_sp_inj hw z1 hcm e]; exact z3)
              omega
          · rw [(hS3 l (Nat.le_refl _)).2 sp hc3 (fun c hc e => hcell ⟨c, hc, e⟩)]
            refine pu_ift (by decide) ?_
            refine hgo σ3 hS3 (pu_set_ext hN3 (fun d _ => pu_B_cong ⟨fun ⟨c', z1, z2, z3⟩ => ⟨c', z1, by omega, z3⟩, fun ⟨c', z1, z2, z3, z4⟩ => ⟨c', z1, ?_, z3, z4⟩⟩)) hE3 hF3
            have : pu_sp w c' ≠ sp := fun e => hcell ⟨c', z1, e.symm⟩
            omega
    · have : l' = 0 := by omega
      subst this
      exact hS
  · have hc : k < pu_ns a q := by rw [pu_le (by omega) (by omega)] at hc; omega
    obtain ⟨y1, y2⟩ := pu_layer (σ := σ1) (q := q) (l := 0) (by omega) (by omega)
    refine pu_bde y1 (pu_ck (decide_eq_true y2) ?_)
    obtain ⟨s1, s2⟩ := pu_startSpot H1 hq hc
    refine pu_bde s1 ?_
    have hsp := pu_sp_rng hw hh s2
    refine pu_bde (pu_add_eq y2 (by omega)) ?_
    have eA : 40 + 2 * (9 * q + 0) + 1 = pu_La q 0 := by unfold pu_La; omega
    rw [eA]
    refine pu_lt ?_
    have em : Int32.ofNat k + (1 : Int32) = Int32.ofNat (k + 1) := pu_add k 1
    rw [em]
    refine hk3 _ ⟨k + 1, by omega, rfl, pu_set_ext (pu_set_add hw hh hS s2) (fun d _ => ?_), fun l z1 z2 => pu_set_cong (hE l z1 z2) (pu_addb_n (pu_La_inj (by omega))), fun x hx => ?_⟩ ?_
    · rw [pu_B_or (Q := d = pu_sc a q k) (by simp)]
      refine pu_B_cong ⟨fun z => ?_, fun z => ?_⟩
      · rcases z with ⟨k', z1, z2⟩ | z
        · exact ⟨k', by omega, z2⟩
        · exact ⟨k, by omega, z.symm⟩
      · obtain ⟨k', z1, z2⟩ := z
        by_cases e : k' = k
        · subst e; exact Or.inr z2.symm
        · exact Or.inl ⟨k', by omega, z2⟩
    · show pu_addb σ1 (pu_La q 0) _ x = _
      rw [pu_addb_n (fun e => hx (by rw [e]; exact pu_La_Lq (by decide)))]
      exact hF x hx
    · show 10 - (Int32.ofNat (k + 1)).toNatClampNeg < 10 - (Int32.ofNat k).toNatClampNeg
      rw [pu_n (by omega), pu_n (by omega)]
      omega
/-! the turning areas -/
theorem pu_twist {σ : tw_Sg} {a : Nat → Int32} {w h nb nc k n : Nat} (hm : pu_wfm a w h) (hb : pu_wfb a w h nb) (hCD : pu_CD (pu_bk σ 1) a w h nb nc) (hk : k < nb) (hn : 1000 < n) (hT : ∀ c, c < w * h → σ 35 (pu_sp w c) = Int32.ofInt (pu_tw a w c k)) :
    pu_wp (tw_P_X10_twist n (Int32.ofNat k) σ) (fun σ' => (∀ c, c < w * h → σ' 35 (pu_sp w c) = Int32.ofInt (pu_tw a w c (k + 1))) ∧ pu_fr (fun x => x = 35) σ σ') := by
  have hle := pu_wfm_le hm
  have hw := hm.2.2.2.1
  have hh := hm.2.2.2.2.2
  obtain ⟨l, t, r, o, e0, e1, e2, e3, q1, q2, q3, q4, q5, q6⟩ := hb.2.2 k hk
  have hb8 := hb.2.1
  obtain ⟨-, -, -, -, hbd, -⟩ := hCD
  obtain ⟨b1, b2, b3⟩ := hbd k hk
  rw [pu_v_of e0 (by omega), pu_v_of e1 (by omega)] at b1
  rw [pu_v_of e2 (by omega), pu_v_of e3 (by omega)] at b2
  have b1 : σ 9 k = _ := b1
  have b2 : σ 11 k = _ := b2
  have b3 : σ 13 k = _ := b3
  have hsf : pu_spot l t < 704 ∧ pu_spot l t % 32 = l + 1 ∧ pu_spot l t / 32 = t + 1 := by unfold pu_spot; omega
  have hsl : pu_spot r o < 704 ∧ pu_spot r o % 32 = r + 1 ∧ pu_spot r o / 32 = o + 1 := by unfold pu_spot; omega
  have hin : ∀ c, c < w * h → (pu_in (pu_spot l t) (pu_spot r o) (pu_sp w c) = pu_inb a w k c) ∧ (pu_inb a w k c = true → pu_spot l t ≤ pu_sp w c ∧ pu_sp w c ≤ pu_spot r o) := by
    intro c hc
    obtain ⟨c1, c2, c3, c4⟩ := pu_cell hc
    obtain ⟨d1, d2⟩ := pu_sp_row (c := c) c1 hw
    have d3 : pu_sp w c = (c / w + 1) * 32 + c % w + 1 := rfl
    unfold pu_in pu_inb
    rw [e0, e1, e2, e3, pu_toInt (by omega), pu_toInt (by omega), pu_toInt (by omega), pu_toInt (by omega)]
    generalize c / w = cq at *
    generalize c % w = cr at *
    constructor
    · rw [← Bool.decide_and]
      apply decide_eq_decide.mpr
      omega
    · intro hx
      rw [← Bool.decide_and] at hx
      have hx := of_decide_eq_true hx
      unfold pu_spot
      omega
  unfold tw_P_X10_twist
  refine pu_bde (pu_get (N := 8) (by decide +kernel) (by decide) (by omega)) (pu_lt ?_)
  refine pu_bde (pu_get (N := 8) (by decide +kernel) (by decide) (by omega)) (pu_lt (pu_lt ?_))
  rw [show 8 + 1 = 9 from rfl, show 10 + 1 = 11 from rfl, b1, b2]
  generalize pu_spot l t = f at *
  generalize pu_spot r o = la at *
  refine pu_lp (J := fun s => ∃ sp, f ≤ sp ∧ sp ≤ 704 ∧ s.1 = Int32.ofNat sp ∧ (∀ c, c < w * h → s.2 35 (pu_sp w c) = Int32.ofInt (pu_tw a w c k + if pu_sp w c < sp ∧ pu_inb a w k c = true then (a (816 + 5 * k + 4)).toInt else 0)) ∧ pu_fr (fun x => x = 35) σ s.2) (m := fun s => 704 - s.1.toNatClampNeg) ?_ n _ (by show 704 - _ < n; omega) ⟨f, Nat.le_refl _, by omega, rfl, fun c hc => ?_, pu_fr_refl⟩
  · rintro kk ⟨ss, σ1⟩ ⟨sp, hs1, hs2, z1, hv, hF⟩ hkk
    dsimp only [] at z1 hv hF
    subst z1
    dsimp only [tw_jn]
    have hend : (∀ c, c < w * h → pu_inb a w k c = true → pu_sp w c < sp) → pu_wp (some σ1) (fun σ' => (∀ c, c < w * h → σ' 35 (pu_sp w c) = Int32.ofInt (pu_tw a w c (k + 1))) ∧ pu_fr (fun x => x = 35) σ σ') := by
      intro hall
      refine pu_some ⟨fun c hc => ?_, hF⟩
      rw [hv c hc]
      show _ = Int32.ofInt (pu_tw a w c k + if pu_inb a w k c then (a (816 + 5 * k + 4)).toInt else 0)
      congr 2
      by_cases hx : pu_inb a w k c = true
      · rw [if_pos hx, if_pos ⟨hall c hc hx, hx⟩]
      · rw [if_neg hx, if_neg (fun z => hx z.2)]
    refine pu_if (fun hc => ?_) (fun hc => ?_)
    · have hc := (pu_ltn (by omega) (by omega)).mp hc
      exact hend (fun c hc1 hx => by have := ((hin c hc1).2 hx).2; omega)
    · have hc : sp ≤ la := by rw [pu_ltn (by omega) (by omega)] at hc; omega
      refine pu_if (fun h7 => ?_) (fun h7 => ?_)
      · have h7 := (pu_le (a := 704) (by decide) (by omega)).mp h7
        exact hend (fun c hc1 hx => by have := pu_sp_rng hw hh hc1; omega)
      · have h7 : sp < 704 := by omega
        refine pu_bde (pu_isBetween (by omega) (by omega) (by omega)) ?_
        have em : Int32.ofNat sp + (1 : Int32) = Int32.ofNat (sp + 1) := pu_add sp 1
        have hgo : ∀ σ2 : tw_Sg, (∀ c, c < w * h → σ2 35 (pu_sp w c) = Int32.ofInt (pu_tw a w c k + if pu_sp w c < sp + 1 ∧ pu_inb a w k c = true then (a (816 + 5 * k + 4)).toInt else 0)) → pu_fr (fun x => x = 35) σ σ2 → pu_wp (tw_lt (Int32.ofNat sp + 1) fun v13 => kk (v13, σ2)) (fun σ' => (∀ c, c < w * h → σ' 35 (pu_sp w c) = Int32.ofInt (pu_tw a w c (k + 1))) ∧ pu_fr (fun x => x = 35) σ σ') := by
          intro σ2 y1 y2
          refine pu_lt ?_
          rw [em]
          refine hkk _ ⟨sp + 1, by omega, by omega, rfl, y1, y2⟩ ?_
          show 704 - (Int32.ofNat (sp + 1)).toNatClampNeg < 704 - (Int32.ofNat sp).toNatClampNeg
          rw [pu_n (by omega), pu_n (by omega)]
          omega
        have hother : ∀ c, c < w * h → pu_sp w c ≠ sp → (pu_sp w c < sp + 1 ∧ pu_inb a w k c = true ↔ pu_sp w c < sp ∧ pu_inb a w k c = true) := by
          intro c hc1 hne
          constructor
          · rintro ⟨y1, y2⟩; exact ⟨by omega, y2⟩
          · rintro ⟨y1, y2⟩; exact ⟨by omega, y2⟩
        cases hpi : pu_in f la sp with
        | false =>
          refine pu_ift (by decide) ?_
          refine hgo σ1 (fun c hc1 => ?_) hF
          rw [hv c hc1]
          congr 2
          by_cases hx : pu_sp w c = sp
          · have : pu_inb a w k c = false := by rw [← (hin c hc1).1, hx]; exact hpi
            rw [if_neg (by rw [this]; simp), if_neg (by rw [this]; simp)]
          · simp only [hother c hc1 hx]
        | true =>
          refine pu_iff (by decide) ?_
          refine pu_bde (pu_get (N := 704) (by decide +kernel) (by decide) h7) ?_
          refine pu_bde (pu_get (N := 8) (by decide +kernel) (by decide) (by omega)) ?_
          refine pu_bde (pu_put (N := 704) (by decide +kernel) (by decide) h7) ?_
          refine hgo _ (fun c hc1 => ?_) (pu_fr_trans hF (pu_fr_up rfl))
          rw [show 34 + 1 = 35 from rfl, show 12 + 1 = 13 from rfl, tw_up_s]
          unfold upd
          by_cases hx : pu_sp w c = sp
          · have hxi : pu_inb a w k c = true := by rw [← (hin c hc1).1, hx]; exact hpi
            rw [if_pos hx, ← hx, hv c hc1, if_neg (by omega), if_pos ⟨by omega, hxi⟩, hF 13 (by decide), b3, pu_addx, Int.add_zero]
          · rw [if_neg hx, hv c hc1]
            simp only [hother c hc1 hx]
  · show σ 35 (pu_sp w c) = _
    rw [hT c hc, if_neg (fun z => by have := ((hin c hc).2 z.2).1; omega), Int.add_zero]
theorem pu_lclear {σ : tw_Sg} {w h n : Nat} (hw : w ≤ 20) (hh : h ≤ 20) (hn : 100 < n) : pu_wp (tw_P_X5_clear n 36 σ) (fun σ' => (∀ i, i < 36 → pu_set σ' (41 + 2 * i) w (w * h) (fun _ => false)) ∧ pu_fr pu_F7 σ σ') := by
  unfold tw_P_X5_clear
  rw [show tw_ln (36 + 3) = 36 from by decide +kernel]
  refine pu_lt ?_
  refine pu_lp (J := fun s => ∃ i, i ≤ 36 ∧ s.1 = Int32.ofNat i ∧ (∀ i', i' < i → pu_set s.2 (41 + 2 * i') w (w * h) (fun _ => false)) ∧ pu_fr pu_F7 σ s.2) (m := fun s => 40 - s.1.toNatClampNeg) ?_ n _ (by show 40 - _ < n; omega) ⟨0, by omega, rfl, fun i' hi' => absurd hi' (Nat.not_lt_zero _), pu_fr_refl⟩
  rintro k ⟨ii, σ1⟩ ⟨i, hi, e1, hS, hF⟩ hk
  dsimp only [] at e1 hS hF
  subst e1
  dsimp only []
  refine pu_if (fun hc => ?_) (fun hc => ?_)
  · have hc := (pu_le (by decide) (by omega)).mp hc
    exact pu_some ⟨fun i' hi' => hS i' (by omega), hF⟩
  · have hc : i < 36 := by rw [pu_le (by decide) (by omega)] at hc; omega
    have hkd : tw_kd (40 + 2 * i) = 0 := eq_of_beq (tw_rng (n := 36) (p := fun i => tw_kd (40 + 2 * i) == 0) (by decide +kernel) i hc)
    refine pu_bde (a := 40 + 2 * i) ?_ ?_
    · unfold tw_P_X5_at
      dsimp only [tw_jn, tw_mt]
      rw [show tw_ln (36 + 3) = 36 from by decide +kernel, if_neg (pu_nn (by omega)), if_neg (by rw [pu_le (by omega) (by omega)]; omega), pu_ok (by omega) (by omega), pu_n (by omega)]
      rfl
    refine pu_ck (decide_eq_true hkd) ?_
    refine pu_bde (pu_clear hkd (by omega)) ?_
    refine pu_lt ?_
    have em : Int32.ofNat i + (1 : Int32) = Int32.ofNat (i + 1) := pu_add i 1
    rw [em, show 40 + 2 * i + 1 = 41 + 2 * i from by omega]
    refine hk _ ⟨i + 1, by omega, rfl, fun i' hi' => ?_, pu_fr_trans hF (pu_fr_upA ⟨by omega, by omega⟩)⟩ ?_
    · by_cases e : i' = i
      · subst e
        have hl : tw_ln (41 + 2 * i') = 22 := by
          have := pu_l22 hkd
          rwa [show 40 + 2 * i' + 1 = 41 + 2 * i' from by omega] at this
        exact pu_set_clear hl (fun c hc => by have := pu_sp_rng hw hh hc; omega)
      · exact pu_set_cong (hS i' (by omega)) (pu_fill_n (by omega))
    · show 40 - (Int32.ofNat (i + 1)).toNatClampNeg < 40 - (Int32.ofNat i).toNatClampNeg
      rw [pu_n (by omega), pu_n (by omega)]
      omega
def pu_F8 (k : Nat) : Prop := k = 35 ∨ pu_F7 k
/-- the sets of all legs as they should be -/
def pu_lay (σ : tw_Sg) (a : Nat → Int32) (w h nb nc : Nat) : Prop := ∀ q, q < nc → ∀ l, l ≤ pu_nl a q → pu_set σ (pu_La q l) w (w * h) (fun d => pu_B (pu_Fw a w h nb q l d))
theorem pu_CD_fr {σ σ' : tw_Sg} {a : Nat → Int32} {w h nb nc : Nat} (hm : pu_wfm a w h) (W : nb ≤ 8) (hc : pu_wfc a w h nc) (hCD : pu_CD (pu_bk σ 1) a w h nb nc) (hf : ∀ k, k < 33 → σ' k = σ k) : pu_CD (pu_bk σ' 1) a w h nb nc := by
  refine pu_CD_live hm.2.2.2.1 hm.2.2.2.2.2 W hc.2.1 (fun c q => Nat.le_of_lt_succ (hc.2.2 c q).2.1.2) (fun c q => Nat.le_of_lt_succ (hc.2.2 c q).2.2.1.2) hCD (fun j i hl => ?_)
  have := pu_lv_lt hl
  show σ' (1 + j) i = σ (1 + j) i
  rw [hf (1 + j) (by omega)]
theorem pu_renew {σ : tw_Sg} {a : Nat → Int32} {w h nb nc n : Nat} (hm : pu_wfm a w h) (hb : pu_wfb a w h nb) (hc : pu_wfc a w h nc) (hCD : pu_CD (pu_bk σ 1) a w h nb nc) (hn : 1000 < n) :
    pu_wp (tw_P_X10_renew n σ) (fun σ' => pu_twOK σ' a w h nb ∧ pu_lay σ' a w h nb nc ∧ pu_fr pu_F8 σ σ') := by
  have hw := hm.2.2.2.1
  have hh := hm.2.2.2.2.2
  have hnb := hb.2.1
  have hnc := hc.2.1
  unfold tw_P_X10_renew
  have hl35 : tw_ln (34 + 1) = 704 := by decide +kernel
  refine pu_bde (pu_rfill (by omega) (by omega)) (pu_lt ?_)
  have hlow : ∀ {σ1 : tw_Sg}, pu_fr pu_F8 σ σ1 → ∀ k, k < 33 → σ1 k = σ k := fun hF k hk => hF k (by unfold pu_F8 pu_F7; omega)
  refine pu_lp (J := fun s => ∃ k, k ≤ nb ∧ s.1 = Int32.ofNat k ∧ (∀ c, c < w * h → s.2 35 (pu_sp w c) = Int32.ofInt (pu_tw a w c k)) ∧ pu_fr pu_F8 σ s.2) (m := fun s => 10 - s.1.toNatClampNeg) ?_ n _ (by show 10 - _ < n; omega) ⟨0, by omega, rfl, fun c hcm => ?_, pu_fr_upA (Or.inl rfl)⟩
  · rintro k3 ⟨kk, σ1⟩ ⟨k, hk, e1, hT, hF⟩ hk3
    dsimp only [] at e1 hT hF
    subst e1
    dsimp only []
    have e5 : σ1 1 5 = Int32.ofNat nb := by
      rw [hlow hF 1 (by decide)]
      exact (show σ 1 5 = a 2 from hCD.1.2.2.1).trans hb.1
    refine pu_if (fun hc1 => ?_) (fun hc1 => ?_)
    · rw [e5] at hc1
      have hc1 := (pu_le (by omega) (by omega)).mp hc1
      have : k = nb := by omega
      subst this
      refine pu_bd (pu_lclear hw hh (by omega)) (fun σ2 h2 => ?_)
      obtain ⟨z1, z2⟩ := h2
      refine pu_lt ?_
      have hF2 : pu_fr pu_F8 σ σ2 := pu_fr_trans hF (pu_fr_mono z2 (fun x hx => Or.inr hx))
      refine pu_lp (J := fun s => ∃ q, q ≤ nc ∧ s.1 = Int32.ofNat q ∧ pu_twOK s.2 a w h k ∧ (∀ q', q' < q → ∀ l, l ≤ pu_nl a q' → pu_set s.2 (pu_La q' l) w (w * h) (fun d => pu_B (pu_Fw a w h k q' l d))) ∧ (∀ q', q ≤ q' → q' < 4 → ∀ l, l < 9 → pu_set s.2 (pu_La q' l) w (w * h) (fun _ => false)) ∧ pu_fr pu_F8 σ s.2) (m := fun s => 10 - s.1.toNatClampNeg) ?_ n _ (by show 10 - _ < n; omega) ⟨0, by omega, rfl, fun c hcm => ?_, fun q' hq' => absurd hq' (Nat.not_lt_zero _), fun q' _ hq' l hl => z1 (9 * q' + l) (by omega), hF2⟩
      · rintro k8 ⟨qq, σ3⟩ ⟨q, hq, e1, hT3, hS3, hE3, hF3⟩ hk8
        dsimp only [] at e1 hT3 hS3 hE3 hF3
        subst e1
        dsimp only []
        have e6 : σ3 14 0 = Int32.ofNat nc := by
          rw [hlow hF3 14 (by decide)]
          exact (show σ 14 0 = a 3 from hCD.1.2.2.2.2.2.1).trans hc.1
        refine pu_if (fun hc2 => ?_) (fun hc2 => ?_)
        · rw [e6] at hc2
          have hc2 := (pu_le (by omega) (by omega)).mp hc2
          exact pu_some ⟨hT3, fun q' hq' => hS3 q' (by omega), hF3⟩
        · have hc2 : q < nc := by rw [e6, pu_le (by omega) (by omega)] at hc2; omega
          have H3 : pu_cl1 σ3 a w h k nc := ⟨hm, hc, pu_CD_fr hm hnb hc hCD (hlow hF3), hT3⟩
          have hnl : pu_nl a q < 9 := (hc.2.2 q hc2).2.2.1.2
          refine pu_bd (pu_follow H3 hnb (by omega) hc2 (fun l hl => hE3 q (Nat.le_refl _) (by omega) l (by omega))) (fun σ4 h4 => ?_)
          obtain ⟨y1, y2⟩ := h4
          refine pu_lt ?_
          have em : Int32.ofNat q + (1 : Int32) = Int32.ofNat (q + 1) := pu_add q 1
          rw [em]
          have hoth : ∀ q' l, q' ≠ q → l < 9 → σ4 (pu_La q' l) = σ3 (pu_La q' l) := fun q' l hne hl => y2 _ (by unfold pu_Lq pu_La; omega)
          refine hk8 _ ⟨q + 1, by omega, rfl, fun c hcm => ?_, fun q' hq' l hl => ?_, fun q' z3 z4 l hl => pu_set_cong (hE3 q' (by omega) z4 l hl) (hoth q' l (by omega) hl), pu_fr_trans hF3 (pu_fr_mono y2 (fun x hx => Or.inr (by unfold pu_Lq at hx; unfold pu_F7; omega)))⟩ ?_
          · show σ4 35 _ = _
            rw [y2 35 (by unfold pu_Lq; omega)]
            exact hT3 c hcm
          · by_cases e : q' = q
            · subst e; exact y1 l hl
            · have hnl' : pu_nl a q' < 9 := (hc.2.2 q' (by omega)).2.2.1.2
              exact pu_set_cong (hS3 q' (by omega) l hl) (hoth q' l e (by omega))
          · show 10 - (Int32.ofNat (q + 1)).toNatClampNeg < 10 - (Int32.ofNat q).toNatClampNeg
            rw [pu_n (by omega), pu_n (by omega)]
            omega
      · show σ2 35 _ = _
        rw [z2 35 (by unfold pu_F7; omega)]
        exact hT c hcm
    · have hc1 : k < nb := by rw [e5, pu_le (by omega) (by omega)] at hc1; omega
      refine pu_bd (pu_twist hm hb (pu_CD_fr hm hnb hc hCD (hlow hF)) hc1 (by omega) hT) (fun σ2 h2 => ?_)
      obtain ⟨y1, y2⟩ := h2
      refine pu_lt ?_
      have em : Int32.ofNat k + (1 : Int32) = Int32.ofNat (k + 1) := pu_add k 1
      rw [em]
      refine hk3 _ ⟨k + 1, by omega, rfl, y1, pu_fr_trans hF (pu_fr_mono y2 (fun x hx => Or.inl hx))⟩ ?_
      show 10 - (Int32.ofNat (k + 1)).toNatClampNeg < 10 - (Int32.ofNat k).toNatClampNeg
      rw [pu_n (by omega), pu_n (by omega)]
      omega
  · show pu_fill σ 35 0 35 (pu_sp w c) = Int32.ofInt 0
    have := pu_sp_rng hw hh hcm
    rw [pu_fill_s (by rw [show tw_ln 35 = 704 from hl35]; omega)]
    rfl
