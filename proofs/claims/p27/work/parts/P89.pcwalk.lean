/-! walks of the class -/
theorem pu_cfind {σ : tw_Sg} {a : Nat → Int32} {w h nb nc q g n : Nat} (H : pu_WF a w h nb nc) (C : pu_CC σ a w h nb nc) (hq : q < nc) (hg : g < w * h) (hn : 1000 < n) : pu_wp (tw_P_X10_findWays n (Int32.ofNat q) (Int32.ofNat (pu_sp w g)) σ) (fun σ' => (∀ l, l ≤ pu_nl a q → pu_set σ' (pu_Wa l) w (w * h) (fun d => pu_B (pu_Cl a w h nb q g l d))) ∧ pu_fr pu_F15 σ σ') := by
  obtain ⟨-, -, w1, w2, h1, h2⟩ := id H.1
  have H0 : pu_cl1 σ a w h nb nc := ⟨H.1, H.2.2.1, C.1, C.2.2⟩
  have W : nb ≤ 8 := H.2.1.2.1
  have h4 := H.2.2.1.2.1
  obtain ⟨-, -, ⟨enl, hnl⟩, -⟩ := H.2.2.1.2.2 q hq
  have hnl : pu_nl a q < 9 := hnl
  have enl : a (pu_cl q + 2) = Int32.ofNat (pu_nl a q) := enl
  have e22 : σ (21 + 1) q = Int32.ofNat (pu_nl a q) := ((C.1.2.2.2.2.2 q hq).2.2.1).trans enl
  have hlow : ∀ {σ1 : tw_Sg}, pu_fr pu_F15 σ σ1 → ∀ k, k < 36 → σ1 k = σ k := fun hF k hk => hF k (by unfold pu_F15; omega)
  unfold tw_P_X10_findWays
  refine pu_bde (pu_get (th := 21) (i := q) (N := 4) (by decide +kernel) (by decide) (by omega)) ?_
  rw [e22]
  refine pu_lt (pu_bd (pu_wclear (w := w) (h := h) w2 h2 (by omega)) (fun σ1 h1' => ?_))
  obtain ⟨z1, z2⟩ := h1'
  obtain ⟨y1, y2⟩ := pu_way (σ := σ1) (l := pu_nl a q) (by omega)
  refine pu_bde y1 (pu_ck (decide_eq_true y2) ?_)
  have hgs := pu_sp_rng w2 h2 hg
  refine pu_bde (pu_add_eq y2 (by omega)) (pu_lt ?_)
  have eA : 116 + 2 * pu_nl a q + 1 = pu_Wa (pu_nl a q) := by unfold pu_Wa; omega
  rw [eA]
  have hWne : ∀ {l l' : Nat}, l ≠ l' → pu_Wa l ≠ pu_Wa l' := fun hh => by unfold pu_Wa; omega
  have hWF : ∀ {l : Nat}, l < 9 → pu_F15 (pu_Wa l) := fun hh => by unfold pu_F15 pu_Wa; omega
  refine pu_lp (J := fun s => ∃ l, l ≤ pu_nl a q ∧ s.1 = Int32.ofInt ((l : Int) - 1) ∧ (∀ l', l ≤ l' → l' ≤ pu_nl a q → pu_set s.2 (pu_Wa l') w (w * h) (fun d => pu_B (pu_Cl a w h nb q g l' d))) ∧ (∀ l', l' < l → pu_set s.2 (pu_Wa l') w (w * h) (fun _ => false)) ∧ pu_fr pu_F15 σ s.2) (m := fun s => (s.1.toInt + 1).toNat) ?_ n _ ?_ ⟨pu_nl a q, Nat.le_refl _, ?_, fun l' hl1 hl2 => ?_, fun l' hl' => pu_set_cong (z1 l' (by omega)) (pu_addb_n (hWne (by omega))), fun x hx => ?_⟩
  rotate_left
  · show ((Int32.ofNat (pu_nl a q) - (1 : Int32)).toInt + 1).toNat < n
    rw [pu_pred (by omega)]
    omega
  · show Int32.ofNat (pu_nl a q) - (1 : Int32) = _
    apply Int32.toInt_inj.1
    rw [pu_pred (by omega), pu_int (by omega) (by omega)]
  · have : l' = pu_nl a q := by omega
    subst this
    refine pu_set_ext (pu_set_add w2 h2 (z1 _ (by omega)) hg) (fun d _ => ?_)
    rw [Bool.or_false]
    by_cases e : d = g
    · rw [decide_eq_true e, pu_B_t (P := pu_Cl a w h nb q g (pu_nl a q) d) (Or.inl ⟨rfl, e⟩)]
    · rw [decide_eq_false e, pu_B_f]
      rintro (⟨-, z⟩ | ⟨z, -⟩)
      · exact e z
      · omega
  · show pu_addb σ1 _ _ x = _
    rw [pu_addb_n (fun e => hx (by rw [e]; exact hWF (by omega)))]
    exact z2 x hx
  clear z1 z2 y1
  rintro k9 ⟨ll, σ2⟩ ⟨l, hl, e1, hS, hE, hF⟩ hk9
  dsimp only [] at e1 hS hE hF
  subst e1
  dsimp only []
  refine pu_if (fun c1 => ?_) (fun c1 => ?_)
  · rw [Int32.lt_iff_toInt_lt, pu_toInt0, pu_int (by omega) (by omega)] at c1
    have : l = 0 := by omega
    subst this
    exact pu_some ⟨fun l' hl' => hS l' (Nat.zero_le _) hl', hF⟩
  rw [Int32.lt_iff_toInt_lt, pu_toInt0, pu_int (by omega) (by omega)] at c1
  obtain ⟨m, rfl⟩ : ∃ m, l = m + 1 := ⟨l - 1, by omega⟩
  have em : Int32.ofInt (((m + 1 : Nat) : Int) - 1) = Int32.ofNat m := by
    rw [← pu_ofInt (show m < 2147483648 by omega)]
    congr 1
    omega
  rw [em] at hk9 ⊢
  refine pu_lt ?_
  refine pu_lp (J := fun s => ∃ sp, sp ≤ 704 ∧ s.2.1 = Int32.ofNat sp ∧ s.1 = Int32.ofNat m ∧ (∀ l', m + 1 ≤ l' → l' ≤ pu_nl a q → pu_set s.2.2 (pu_Wa l') w (w * h) (fun d => pu_B (pu_Cl a w h nb q g l' d))) ∧ pu_set s.2.2 (pu_Wa m) w (w * h) (fun d => pu_B (pu_sp w d < sp ∧ pu_Cl a w h nb q g m d)) ∧ (∀ l', l' < m → pu_set s.2.2 (pu_Wa l') w (w * h) (fun _ => false)) ∧ pu_fr pu_F15 σ s.2.2) (m := fun s => 704 - s.2.1.toNatClampNeg) ?_ n _ (by show 704 - _ < n; omega) ⟨0, by omega, rfl, rfl, hS, pu_set_ext (hE m (by omega)) (fun d _ => (pu_B_f (fun z => absurd z.1 (Nat.not_lt_zero _))).symm), fun l' hl' => hE l' (by omega), hF⟩
  clear hS hE hF
  rintro k12 ⟨mm, ss, σ3⟩ ⟨sp, hsp, e1, e2, hS, hN, hE, hF⟩ hk12
  dsimp only [] at e1 e2 hS hN hE hF
  subst e1; subst e2
  dsimp only []
  refine pu_if (fun c2 => ?_) (fun c2 => ?_)
  · have c2 := (pu_le (a := 704) (by decide) (by omega)).mp c2
    refine pu_lt ?_
    have ed : Int32.ofNat m + (-1 : Int32) = Int32.ofInt ((m : Int) - 1) := by
      have := pu_addI (x := m) (z := -1)
      rw [show ((m : Int) - 1) = (m : Int) + -1 from rfl, ← this]
      rfl
    rw [ed]
    refine hk9 _ ⟨m, by omega, rfl, fun l' y1 y2 => ?_, hE, hF⟩ ?_
    · by_cases e : l' = m
      · subst e
        refine pu_set_ext hN (fun d hd => pu_B_cong ⟨fun z => z.2, fun z => ⟨?_, z⟩⟩)
        have := pu_sp_rng w2 h2 hd
        omega
      · exact hS l' (by omega) y2
    · show ((Int32.ofInt ((m : Int) - 1)).toInt + 1).toNat < ((Int32.ofNat m).toInt + 1).toNat
      rw [pu_int (by omega) (by omega), pu_toInt (by omega)]
      omega
  have c2 : sp < 704 := Nat.lt_of_not_le (fun z => c2 ((pu_le (a := 704) (by decide) (by omega)).mpr z))
  obtain ⟨y1, y2⟩ := pu_layer (σ := σ3) (q := q) (l := m) (by omega) (by omega)
  refine pu_bde y1 (pu_ck (decide_eq_true y2) ?_)
  refine pu_bde (pu_has y2 c2) ?_
  have eA : 40 + 2 * (9 * q + m) + 1 = pu_La q m := by unfold pu_La; omega
  rw [eA]
  have hFw : pu_set σ3 (pu_La q m) w (w * h) (fun d => pu_B (pu_Fw a w h nb q m d)) := pu_set_cong (C.2.1 q hq m (by omega)) (hF _ (by unfold pu_F15 pu_La; omega))
  have ep : Int32.ofNat sp + (1 : Int32) = Int32.ofNat (sp + 1) := pu_add sp 1
  refine pu_jn (R := fun v => (∀ l', m + 1 ≤ l' → l' ≤ pu_nl a q → pu_set v (pu_Wa l') w (w * h) (fun d => pu_B (pu_Cl a w h nb q g l' d))) ∧ pu_set v (pu_Wa m) w (w * h) (fun d => pu_B (pu_sp w d < sp + 1 ∧ pu_Cl a w h nb q g m d)) ∧ (∀ l', l' < m → pu_set v (pu_Wa l') w (w * h) (fun _ => false)) ∧ pu_fr pu_F15 σ v) (fun v hv => ?_) (fun f hf => ?_)
  · obtain ⟨z1, z2, z3, z4⟩ := hv
    refine pu_lt ?_
    rw [ep]
    refine hk12 _ ⟨sp + 1, by omega, rfl, rfl, z1, z2, z3, z4⟩ ?_
    show 704 - (Int32.ofNat (sp + 1)).toNatClampNeg < 704 - (Int32.ofNat sp).toNatClampNeg
    rw [pu_n (by omega), pu_n (by omega)]
    omega
  have hskip : (∀ c, c < w * h → sp = pu_sp w c → ¬ pu_Cl a w h nb q g m c) → pu_wp (f σ3) (fun σ' => (∀ l, l ≤ pu_nl a q → pu_set σ' (pu_Wa l) w (w * h) (fun d => pu_B (pu_Cl a w h nb q g l d))) ∧ pu_fr pu_F15 σ σ') := fun hno => by
    refine hf _ ⟨hS, pu_set_ext hN (fun d hd => pu_B_cong ⟨fun z => ⟨by omega, z.2⟩, fun z => ⟨?_, z.2⟩⟩), hE, hF⟩
    have : sp ≠ pu_sp w d := fun e => hno d hd e z.2
    omega
  by_cases hcell : ∃ c, c < w * h ∧ sp = pu_sp w c
  rotate_left
  · rw [hFw.2 sp c2 (fun c hc e => hcell ⟨c, hc, e⟩)]
    exact pu_ift (by decide) (hskip (fun c hc e => absurd ⟨c, hc, e⟩ hcell))
  obtain ⟨c, hcm, rfl⟩ := hcell
  have hbt : pu_bt σ3 (pu_La q m) (pu_sp w c) = pu_B (pu_Fw a w h nb q m c) := hFw.1 c hcm
  rw [hbt]
  have huniq : ∀ d, d < w * h → pu_sp w c = pu_sp w d → d = c := fun d hd e => pu_sp_inj w2 hd hcm e.symm
  have hml : m < pu_nl a q := by omega
  by_cases hFc : pu_Fw a w h nb q m c
  rotate_left
  · rw [pu_B_f hFc]
    refine pu_ift (by decide) (hskip (fun d hd e z => ?_))
    rw [huniq d hd e] at z
    rcases z with ⟨z, -⟩ | ⟨-, z, -⟩
    · omega
    · exact hFc z
  rw [pu_B_t hFc]
  refine pu_iff (by decide) ?_
  have H3 := pu_cl1_fr H0 (hlow hF) W
  refine pu_bd (pu_cfewest (S := pu_Cl a w h nb q g (m + 1)) H3 (by omega) hq hml hcm (hS (m + 1) (Nat.le_refl _) (by omega))) (fun v hv => ?_)
  rw [pu_fst_cong (fun d hd => pu_Cl_of hml hcm hFc hd)] at hv
  have hR := pu_Rl_fst (a := a) (w := w) (h := h) (nb := nb) (q := q) (g := g) (d := c) hml
  cases ex : pu_fst a w h nb q m (pu_Rl a w h nb q g (m + 1)) c with
  | none =>
    rw [ex] at hv hR
    have hv : v = -1 := hv
    subst hv
    refine pu_ift (by decide) (hskip (fun d hd e z => ?_))
    rw [huniq d hd e] at z
    rcases z with ⟨z, -⟩ | ⟨-, -, z⟩
    · omega
    · obtain ⟨x, hx⟩ := hR.mp z
      cases hx
  | some x =>
    rw [ex] at hv hR
    have hv : v = Int32.ofNat x.2 := hv
    subst hv
    have hRc := hR.mpr ⟨x, rfl⟩
    have hCl : pu_Cl a w h nb q g m c := Or.inr ⟨hml, hFc, hRc⟩
    have hx2 := (pu_fe_in _ x ex).2.1
    obtain ⟨-, hmost⟩ := pu_few_lt ((H.2.2.1.2.2 q hq).2.2.2.2 m hml)
    refine pu_iff (pu_nn (by omega)) ?_
    obtain ⟨u1, u2⟩ := pu_way (σ := σ3) (l := m) (by omega)
    refine pu_bde u1 (pu_ck (decide_eq_true u2) ?_)
    have hcs := pu_sp_rng w2 h2 hcm
    refine pu_bde (pu_add_eq u2 (by omega)) ?_
    rw [show 116 + 2 * m + 1 = pu_Wa m from by unfold pu_Wa; omega]
    refine hf _ ⟨fun l' z1 z2 => pu_set_cong (hS l' z1 z2) (pu_addb_n (hWne (by omega))), pu_set_ext (pu_set_add w2 h2 hN hcm) (fun d hd => ?_), fun l' z => pu_set_cong (hE l' z) (pu_addb_n (hWne (by omega))), fun y hy => ?_⟩
    · by_cases e : d = c
      · subst e
        rw [decide_eq_true rfl, pu_B_t (P := pu_sp w d < pu_sp w d + 1 ∧ pu_Cl a w h nb q g m d) ⟨Nat.lt_succ_self _, hCl⟩]
        rfl
      · have hne : pu_sp w d ≠ pu_sp w c := fun z => e (pu_sp_inj w2 hd hcm z)
        rw [decide_eq_false e, Bool.false_or]
        exact pu_B_cong ⟨fun z => ⟨by omega, z.2⟩, fun z => ⟨by omega, z.2⟩⟩
    · show pu_addb σ3 _ _ y = _
      rw [pu_addb_n (fun e => hy (by rw [e]; exact hWF (by omega)))]
      exact hF y hy
theorem pu_Cl0 {a : Nat → Int32} {w h nb q g k : Nat} (hk : k < pu_ns a q) : pu_Cl a w h nb q g 0 (pu_sc a q k) ↔ pu_Rl a w h nb q g 0 (pu_sc a q k) := by
  unfold pu_Cl
  by_cases e : 0 = pu_nl a q
  · constructor
    · rintro (⟨-, z⟩ | ⟨z, -⟩)
      · rw [e, pu_Rl_end]; exact z
      · omega
    · intro z
      rw [e, pu_Rl_end] at z
      exact Or.inl ⟨e, z⟩
  · constructor
    · rintro (⟨z, -⟩ | ⟨-, -, z⟩)
      · exact absurd z e
      · exact z
    · intro z
      exact Or.inr ⟨by omega, ⟨k, hk, rfl⟩, z⟩
/-- which starts lead to the goal -/
noncomputable def pu_ld (a : Nat → Int32) (w h nb q g : Nat) : Nat → Bool := fun k => pu_B (pu_Rl a w h nb q g 0 (pu_sc a q k))
/-- the ways' own set of starts -/
theorem pu_way0 {σ : tw_Sg} {a : Nat → Int32} {w h nb nc q g k : Nat} (H : pu_WF a w h nb nc) (hH : pu_cl1 σ a w h nb nc) (hS : ∀ l, l ≤ pu_nl a q → pu_set σ (pu_Wa l) w (w * h) (fun d => pu_B (pu_Cl a w h nb q g l d))) (hq : q < nc) (hk : k < pu_ns a q) : tw_P_X0_has 116 (Int32.ofNat (pu_sp w (pu_sc a q k))) σ = some (pu_b1 (pu_ld a w h nb q g k)) := by
  obtain ⟨-, -, w1, w2, h1, h2⟩ := id H.1
  obtain ⟨-, s2⟩ := pu_startSpot hH hq hk
  rw [pu_hasS (p := fun d => pu_B (pu_Cl a w h nb q g 0 d)) (by decide +kernel) w2 h2 s2 (hS 0 (Nat.zero_le _)), pu_B_cong (pu_Cl0 hk)]
  rfl
theorem pu_cstarts0 {σ : tw_Sg} {a : Nat → Int32} {w h nb nc q g n : Nat} (H : pu_WF a w h nb nc) (C : pu_CC σ a w h nb nc) (hq : q < nc) (hg : g < w * h) (hn : 1000 < n) : pu_wp (tw_P_X10_countStarts n (Int32.ofNat q) (Int32.ofNat (pu_sp w g)) σ) (fun r => r.1 = Int32.ofNat (pu_sum (pu_ld a w h nb q g) (pu_ns a q)) ∧ pu_fr pu_F15 σ r.2) := by
  have H0 : pu_cl1 σ a w h nb nc := ⟨H.1, H.2.2.1, C.1, C.2.2⟩
  have W : nb ≤ 8 := H.2.1.2.1
  have h4 := H.2.2.1.2.1
  obtain ⟨-, ⟨ens, hns⟩, -⟩ := H.2.2.1.2.2 q hq
  have hns : pu_ns a q < 9 := hns
  have ens : a (pu_cl q + 1) = Int32.ofNat (pu_ns a q) := ens
  unfold tw_P_X10_countStarts
  refine pu_bd (pu_cfind H C hq hg hn) (fun σ1 h1 => ?_)
  obtain ⟨hS, hF⟩ := h1
  have H1 := pu_cl1_fr H0 (fun k hk => hF k (by unfold pu_F15; omega)) W
  have e18 : σ1 (17 + 1) q = Int32.ofNat (pu_ns a q) := by
    rw [hF (17 + 1) (by unfold pu_F15; omega)]
    exact ((C.1.2.2.2.2.2 q hq).2.1).trans ens
  refine pu_lt (pu_lt ?_)
  refine pu_lp (J := fun s => ∃ k, k ≤ pu_ns a q ∧ s.2 = Int32.ofNat k ∧ s.1 = Int32.ofNat (pu_sum (pu_ld a w h nb q g) k)) (m := fun s => 10 - s.2.toNatClampNeg) ?_ n _ (by show 10 - _ < n; omega) ⟨0, by omega, rfl, rfl⟩
  rintro k5 ⟨cc, kk⟩ ⟨k, hk, e1, e2⟩ hk5
  dsimp only [] at e1 e2
  subst e1; subst e2
  dsimp only []
  refine pu_bde (pu_get (th := 17) (i := q) (N := 4) (by decide +kernel) (by decide) (by omega)) ?_
  rw [e18]
  refine pu_if (fun c1 => ?_) (fun c1 => ?_)
  · have c1 := (pu_le (by omega) (by omega)).mp c1
    have : k = pu_ns a q := by omega
    rw [this]
    exact pu_some ⟨rfl, hF⟩
  have c1 : k < pu_ns a q := by rw [pu_le (by omega) (by omega)] at c1; omega
  obtain ⟨y1, y2⟩ := pu_way (σ := σ1) (l := 0) (by omega)
  refine pu_bde (a := 116) y1 (pu_ck (by decide +kernel) ?_)
  obtain ⟨s1, s2⟩ := pu_startSpot H1 hq c1
  refine pu_bde s1 (pu_bde (pu_way0 H H1 hS hq c1) ?_)
  refine pu_jn (R := fun v => v = pu_b1 (pu_ld a w h nb q g k)) (fun v hv => ?_) (fun f hf => ?_)
  · subst hv
    refine pu_lt (pu_lt ?_)
    have em : Int32.ofNat k + (1 : Int32) = Int32.ofNat (k + 1) := pu_add k 1
    rw [em]
    refine hk5 _ ⟨k + 1, by omega, rfl, pu_sumI⟩ ?_
    show 10 - (Int32.ofNat (k + 1)).toNatClampNeg < 10 - (Int32.ofNat k).toNatClampNeg
    rw [pu_n (by omega), pu_n (by omega)]
    omega
  · refine pu_if (fun c2 => ?_) (fun c2 => ?_)
    · rw [pu_b1_0] at c2
      exact hf _ (by rw [c2]; rfl)
    · rw [pu_b1_0] at c2
      exact hf _ (by rw [pu_bF c2]; rfl)
/-! starts, closed -/
noncomputable def pu_oStarts (a : Nat → Int32) (w h nb nc : Nat) (q x y : Int32) : Int32 ⊕ Int32 := match pu_clueOf nc q with
  | none => .inr 1
  | some k => match pu_cellOf w h x y with
    | none => .inr 1
    | some g => .inl (Int32.ofNat (pu_sum (pu_ld a w h nb k g) (pu_ns a k)))
theorem pu_F15_SQ {σ σ' : tw_Sg} (h : pu_fr pu_F15 σ σ') : pu_fr pu_SQ σ σ' := pu_fr_mono h (fun k hk => by unfold pu_F15 at hk; unfold pu_SQ; omega)
theorem pu_cstarts {σ : tw_Sg} {a : Nat → Int32} {w h nb nc n : Nat} {q x y : Int32} (H : pu_WF a w h nb nc) (C : pu_CC σ a w h nb nc) (hn : 1000 < n) : pu_wp (tw_P_L_starts n q x y σ) (pu_QC σ (pu_oStarts a w h nb nc q x y)) := by
  obtain ⟨dw, dh, dn⟩ := pu_CCdim H C
  obtain ⟨-, -, w1, w2, h1, h2⟩ := id H.1
  have hcs := pu_checkedSpot (x := x) (y := y) dw dh w2 h2
  have hcq := pu_checkClue (x := q) dn H.2.2.1.2.1
  unfold tw_P_L_starts
  cases eq : pu_clueOf nc q with
  | none =>
    rw [eq] at hcq
    have ho : pu_oStarts a w h nb nc q x y = .inr 1 := by unfold pu_oStarts; rw [eq]
    refine pu_bcr (s := "java/lang/IndexOutOfBoundsException") (by unfold tw_P_X11_starts; rw [hcq]; rfl) ?_
    exact pu_ift rfl (pu_some (pu_fault ho))
  | some k =>
    rw [eq] at hcq
    obtain ⟨rfl, hk⟩ := pu_clueOf_some eq
    cases e : pu_cellOf w h x y with
    | none =>
      rw [e] at hcs
      have ho : pu_oStarts a w h nb nc (Int32.ofNat k) x y = .inr 1 := by unfold pu_oStarts; rw [eq]; dsimp only []; rw [e]
      refine pu_bcr (s := "java/lang/IndexOutOfBoundsException") (by unfold tw_P_X11_starts; rw [hcq, hcs]; rfl) ?_
      exact pu_ift rfl (pu_some (pu_fault ho))
    | some g =>
      rw [e] at hcs
      have hg := pu_cellOf_lt e
      have ho : pu_oStarts a w h nb nc (Int32.ofNat k) x y = .inl (Int32.ofNat (pu_sum (pu_ld a w h nb k g) (pu_ns a k))) := by unfold pu_oStarts; rw [eq]; dsimp only []; rw [e]
      refine pu_bcw (R := fun r => ∃ v s, r = .inl (v, s) ∧ pu_oStarts a w h nb nc (Int32.ofNat k) x y = .inl v ∧ pu_fr pu_SQ σ s) ?_ (fun v hv => ?_) (fun s hs => ?_)
      · unfold tw_P_X11_starts
        refine pu_bxl hcq (pu_bxl hcs (pu_bd (pu_cstarts0 H C hk hg hn) (fun r hr => ?_)))
        exact pu_some ⟨_, _, rfl, by rw [ho, hr.1], pu_F15_SQ hr.2⟩
      · obtain ⟨u, s, z, ho, hf⟩ := hv
        cases z
        exact pu_tell ho hf
      · obtain ⟨u, s, z, -⟩ := hs
        cases z
