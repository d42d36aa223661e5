/-! parts: the reference lays them -/
theorem pu_nbr_sub {g g' : Nat → Bool} {w h c b : Nat} (hs : ∀ d, g' d = true → g d = true) : pu_nbr g' w h c b = (match pu_nbr g w h c b with | some c' => if g' c' then some c' else none | none => none) := by
  unfold pu_nbr
  cases pu_gnb w h c b with
  | none => rfl
  | some c' =>
    dsimp only []
    cases e : g c' with
    | true => rfl
    | false =>
      cases e2 : g' c' with
      | true => rw [hs c' e2] at e; cases e
      | false => rfl
theorem pu_ofInt {a : Nat} (h : a < 2147483648) : Int32.ofInt (a : Int) = Int32.ofNat a := by
  apply Int32.toInt_inj.1
  rw [pu_toInt h, pu_int (by omega) (by omega)]
theorem pu_left_land {a : Nat → Int32} {w h nb nc d : Nat} (hl : pu_left a w h nb nc d = true) : pu_land a d = true := by
  unfold pu_left pu_cand at hl
  cases e : pu_land a d with
  | true => rfl
  | false => rw [e] at hl; cases hl
def pu_FL (k : Nat) : Prop := pu_F11 k ∨ k = 509 ∨ k = 510
def pu_RP (σ : tw_Sg) (a : Nat → Int32) (w h nb nc : Nat) (s : tw_Sg) : Prop := pu_RL s a w h nb nc ∧ (∀ i, i ≠ 22 → s 442 i = σ 442 i) ∧ pu_fr pu_FL σ s
theorem pu_RP_up {σ s : tw_Sg} {a : Nat → Int32} {w h nb nc A i : Nat} {x : Int32} (H : pu_WF a w h nb nc) (hA : A = 509 ∨ A = 510) (hP : pu_RP σ a w h nb nc s) : pu_RP σ a w h nb nc (tw_up s A i x) := by
  obtain ⟨⟨p1, p2⟩, p3, p4⟩ := hP
  have h4 : tw_up s A i x 444 = s 444 := tw_up_n (by omega)
  have h2 : tw_up s A i x 442 = s 442 := tw_up_n (by omega)
  refine ⟨⟨h4.trans p1, ?_⟩, fun j hj => by rw [h2]; exact p3 j hj, pu_fr_trans p4 (pu_fr_up (Or.inr hA))⟩
  rw [h2]
  rcases p2 with z | ⟨z1, z2⟩
  · exact Or.inl z
  · have hnc := H.2.2.1.2.1
    refine Or.inr ⟨z1, fun q hq l hl => pu_es_cong (z2 q hq l hl) (tw_up_n ?_)⟩
    have h9 : pu_nl a q < 9 := (H.2.2.1.2.2 q hq).2.2.1.2
    unfold pu_En; omega
theorem pu_RP_left {σ s : tw_Sg} {a : Nat → Int32} {w h nb nc d n : Nat} (H : pu_WF a w h nb nc) (hP : pu_RP σ a w h nb nc s) (hd : d < w * h) (hn : 1000 < n) : pu_wp (tw_P_X12_isLeft n (Int32.ofNat d) s) (fun r => r.1 = pu_b1 (pu_left a w h nb nc d) ∧ pu_RP σ a w h nb nc r.2 ∧ r.2 509 = s 509 ∧ r.2 510 = s 510) := by
  refine pu_cons (pu_rleft H hP.1 hd hn) (fun r hr => ?_)
  obtain ⟨r1, r2, r3⟩ := hr
  refine ⟨r1, ⟨r2, fun i hi => (r3.1 i hi).trans (hP.2.1 i hi), pu_fr_trans hP.2.2 (pu_fr_mono r3.2 (fun k hk => Or.inl hk))⟩, r3.2 509 (by unfold pu_F11 pu_F10 pu_F9; omega), r3.2 510 (by unfold pu_F11 pu_F10 pu_F9; omega)⟩
/-- labels in 510, the queue in 509 -/
def pu_RK (s : tw_Sg) (m : Nat) (L : Nat → Int) (st : pu_St) : Prop := (∀ c, c < m → s 510 c = Int32.ofInt (L c)) ∧ ∀ i, i < st.2.2 → s 509 i = Int32.ofNat (st.2.1 i)
theorem pu_rlayParts {σ : tw_Sg} {a : Nat → Int32} {w h nb nc n : Nat} (H : pu_WF a w h nb nc) (hL : pu_RL σ a w h nb nc) (hn : 1000 < n) : pu_wp (tw_P_X12_layParts n σ) (fun r => r.1 = Int32.ofNat (pu_parts (pu_left a w h nb nc) w h (w * h)).2 ∧ (∀ c, c < w * h → r.2 510 c = Int32.ofInt (pu_labs (pu_left a w h nb nc) w h (w * h) c)) ∧ pu_RP σ a w h nb nc r.2) := by
  obtain ⟨-, -, w1, w2, h1, h2⟩ := id H.1
  have hle := pu_wfm_le H.1
  have hRP0 : pu_RP σ a w h nb nc σ := ⟨hL, fun _ _ => rfl, pu_fr_refl⟩
  unfold tw_P_X12_layParts
  rw [pu_l510, pu_l509]
  refine pu_lt (pu_lt ?_)
  refine pu_lp (J := fun s => ∃ i, i ≤ w * h ∧ s.1 = Int32.ofNat i ∧ (∀ c, c < i → s.2 510 c = -1) ∧ pu_RP σ a w h nb nc s.2) (m := fun s => w * h - s.1.toNatClampNeg) ?_ n _ (by show w * h - _ < n; omega) ⟨0, by omega, rfl, fun c hc => absurd hc (Nat.not_lt_zero _), hRP0⟩
  rintro k4 ⟨ii, σ1⟩ ⟨i, hi, e1, hc1, hP⟩ hk4
  dsimp only [] at e1 hc1 hP
  subst e1
  dsimp only []
  refine pu_bde (pu_rcells (σ := σ1) (w := w) (h := h) (by rw [hP.1.1]; exact H.1)) ?_
  refine pu_if (fun hc => ?_) (fun hc => ?_)
  rotate_left
  · have hc : i < w * h := by rw [pu_le (by omega) (by omega)] at hc; omega
    refine pu_ck (pu_ok (by omega) (by omega)) (pu_lt (pu_lt ?_))
    have em : Int32.ofNat i + (1 : Int32) = Int32.ofNat (i + 1) := pu_add i 1
    rw [pu_n (show i < 2147483648 by omega), em]
    refine hk4 _ ⟨i + 1, by omega, rfl, fun c hc2 => ?_, pu_RP_up H (Or.inr rfl) hP⟩ ?_
    · show tw_up σ1 510 i _ 510 c = _
      rw [tw_up_s]
      unfold upd
      by_cases e : c = i
      · rw [if_pos e]
      · rw [if_neg e]; exact hc1 c (by omega)
    · show w * h - (Int32.ofNat (i + 1)).toNatClampNeg < w * h - (Int32.ofNat i).toNatClampNeg
      rw [pu_n (by omega), pu_n (by omega)]
      omega
  have hc := (pu_le (by omega) (by omega)).mp hc
  have : i = w * h := by omega
  subst this
  refine pu_lt ?_
  refine pu_lp (J := fun s => ∃ c, c ≤ w * h ∧ s.2.1 = Int32.ofNat c ∧ s.1 = Int32.ofNat (pu_parts (pu_left a w h nb nc) w h c).2 ∧ (∀ x, x < w * h → s.2.2 510 x = Int32.ofInt (pu_labs (pu_left a w h nb nc) w h c x)) ∧ pu_RP σ a w h nb nc s.2.2) (m := fun s => w * h - s.2.1.toNatClampNeg) ?_ n _ (by show w * h - _ < n; omega) ⟨0, by omega, rfl, rfl, fun x hx => hc1 x hx, hP⟩
  clear hk4 hc1 hP
  rintro k8 ⟨kk, cc, σ2⟩ ⟨c, hc, e1, e2, hD, hP⟩ hk8
  dsimp only [] at e1 e2 hD hP
  subst e1; subst e2
  dsimp only []
  refine pu_bde (pu_rcells (σ := σ2) (w := w) (h := h) (by rw [hP.1.1]; exact H.1)) ?_
  refine pu_if (fun hc1 => ?_) (fun hc1 => ?_)
  · have hc1 := (pu_le (by omega) (by omega)).mp hc1
    have : c = w * h := by omega
    subst this
    exact pu_some (r := (_, σ2)) ⟨rfl, hD, hP⟩
  have hc1 : c < w * h := by rw [pu_le (by omega) (by omega)] at hc1; omega
  refine pu_bd (pu_RP_left H hP hc1 hn) (fun r hr => ?_)
  obtain ⟨r1, r2, r9, r10⟩ := hr
  generalize hg : pu_left a w h nb nc = g at hD r1 hk8 ⊢
  obtain ⟨R1, R2⟩ := pu_parts_rng (g := g) w2 h2 c (by omega)
  have hneg := pu_labs_neg (g := g) w2 h2 c (by omega)
  have hlr := pu_labs_rng (g := g) w2 h2 c (by omega)
  refine pu_jn (R := fun v => v.2.1 = Int32.ofNat c ∧ v.1 = Int32.ofNat (pu_parts g w h (c + 1)).2 ∧ (∀ x, x < w * h → v.2.2 510 x = Int32.ofInt (pu_labs g w h (c + 1) x)) ∧ pu_RP σ a w h nb nc v.2.2) (fun v hv => ?_) (fun f hf => ?_)
  · obtain ⟨z1, z2, z3, z4⟩ := hv
    refine pu_lt ?_
    have em : v.2.1 + (1 : Int32) = Int32.ofNat (c + 1) := by rw [z1]; exact pu_add c 1
    rw [em]
    refine hk8 _ ⟨c + 1, by omega, rfl, z2, z3, z4⟩ ?_
    show w * h - (Int32.ofNat (c + 1)).toNatClampNeg < w * h - (Int32.ofNat c).toNatClampNeg
    rw [pu_n (by omega), pu_n (by omega)]
    omega
  have hskip : ¬ (g c = true ∧ (pu_parts g w h c).1 c < 0) → pu_wp (f (Int32.ofNat (pu_parts g w h c).2, Int32.ofNat c, r.2)) (fun r => r.1 = Int32.ofNat (pu_parts g w h (w * h)).2 ∧ (∀ c, c < w * h → r.2 510 c = Int32.ofInt (pu_labs g w h (w * h) c)) ∧ pu_RP σ a w h nb nc r.2) := fun z => by
    have e1 : pu_parts g w h (c + 1) = pu_parts g w h c := by rw [pu_parts_S]; exact if_neg z
    have e2 : pu_labs g w h (c + 1) = pu_labs g w h c := by rw [pu_labs_S]; exact if_neg z
    exact hf _ ⟨rfl, by rw [e1], fun x hx => by rw [e2]; show r.2 510 x = _; rw [r10]; exact hD x hx, r2⟩
  refine pu_if (fun hc2 => ?_) (fun hc2 => ?_)
  · rw [r1, pu_b1_0] at hc2
    exact hskip (fun z => by rw [hc2] at z; exact absurd z.1 (by decide))
  rw [r1, pu_b1_0] at hc2
  have hgc := pu_bF hc2
  refine pu_ck (pu_ok (by omega) (by omega)) ?_
  rw [pu_n (show c < 2147483648 by omega)]
  have ev : r.2 510 c = Int32.ofInt (pu_labs g w h c c) := by rw [r10]; exact hD c hc1
  have hlc := hlr c
  have hnc := hneg c
  refine pu_if (fun hc3 => ?_) (fun hc3 => ?_)
  rotate_left
  · rw [ev, pu_neg3 (by omega) (by omega)] at hc3
    exact hskip (fun z => hc3 (hnc.mpr z.2))
  rw [ev, pu_neg3 (by omega) (by omega)] at hc3
  have hdc := hnc.mp hc3
  have eP : pu_parts g w h (c + 1) = ((pu_bf g w h (pu_st0 (pu_parts g w h c).1 c) 400).1, (pu_parts g w h c).2 + 1) := by rw [pu_parts_S]; exact if_pos ⟨hgc, hdc⟩
  have eL : pu_labs g w h (c + 1) = pu_lab (pu_labs g w h c) (pu_parts g w h (c + 1)).1 (pu_parts g w h c).2 := by rw [pu_labs_S]; exact if_pos ⟨hgc, hdc⟩
  obtain ⟨BB, hBB⟩ : ∃ B, B = pu_bf g w h (pu_st0 (pu_parts g w h c).1 c) 400 := ⟨_, rfl⟩
  rw [← hBB] at eP
  rw [eP] at eL
  have hfin : ∀ s : tw_Sg, (∀ x, x < w * h → s 510 x = Int32.ofInt (pu_lab (pu_labs g w h c) BB.1 (pu_parts g w h c).2 x)) → pu_RP σ a w h nb nc s → pu_wp (f (Int32.ofNat (pu_parts g w h c).2 + (1 : Int32), Int32.ofNat c, s)) (fun r => r.1 = Int32.ofNat (pu_parts g w h (w * h)).2 ∧ (∀ c, c < w * h → r.2 510 c = Int32.ofInt (pu_labs g w h (w * h) c)) ∧ pu_RP σ a w h nb nc r.2) := fun s hs1 hs2 => by
    refine hf _ ⟨rfl, ?_, ?_, hs2⟩
    · rw [eP]; exact pu_add _ 1
    · rw [eL]; exact hs1
  have e510 : ∀ x, x < w * h → r.2 510 x = Int32.ofInt (pu_labs g w h c x) := fun x hx => by rw [r10]; exact hD x hx
  have hlrc : ∀ x, -1 ≤ pu_labs g w h c x ∧ pu_labs g w h c x ≤ 400 := fun x => by have := hlr x; omega
  clear hf hskip hk8 hD eP eL ev r9 r10 hlr hlc hnc hc3 hP
  generalize pu_parts g w h c = S at *
  generalize pu_labs g w h c = L at *
  generalize (fun r : Int32 × tw_Sg => r.1 = Int32.ofNat (pu_parts g w h (w * h)).2 ∧ (∀ c, c < w * h → r.2 510 c = Int32.ofInt (pu_labs g w h (w * h) c)) ∧ pu_RP σ a w h nb nc r.2) = Q at *
  have H0 := pu_st0_BI (m := w * h) (s := c) (d0 := S.1) hc1 hdc R1
  refine pu_ck (pu_ok (by omega) (by omega)) (pu_ltG (P := fun s => (∀ x, x < w * h → s 510 x = Int32.ofInt (pu_lab L (pu_st0 S.1 c).1 S.2 x)) ∧ pu_RP σ a w h nb nc s) ⟨fun x hx => ?_, pu_RP_up H (Or.inr rfl) r2⟩ (fun σ3 h3 => ?_))
  · show tw_up r.2 510 c (Int32.ofNat S.2) 510 x = Int32.ofInt (pu_lab L (va_up S.1 c 0) S.2 x)
    rw [pu_lab_up (hneg c) (fun _ z => z) (Int.le_refl 0) hdc, tw_up_s]
    unfold upd
    by_cases e : x = c
    · subst e
      rw [if_pos rfl, va_up_self]
      exact (pu_ofInt (by omega)).symm
    · rw [if_neg e, va_up_ne _ _ e, pu_lab_self (hneg x), e510 x hx]
  obtain ⟨g510, gP⟩ := h3
  refine pu_ck (by decide) (pu_ltG (P := fun s => pu_RK s (w * h) (pu_lab L (pu_st0 S.1 c).1 S.2) (pu_st0 S.1 c) ∧ pu_RP σ a w h nb nc s) ⟨⟨fun x hx => ?_, fun i hi => ?_⟩, pu_RP_up H (Or.inl rfl) gP⟩ (fun σ4 h4 => ?_))
  · show tw_up σ3 509 _ _ 510 x = _
    rw [tw_up_n (by decide)]
    exact g510 x hx
  · have hi : i < 1 := hi
    have : i = 0 := by omega
    subst this
    show tw_up σ3 509 0 (Int32.ofNat c) 509 0 = Int32.ofNat c
    rw [tw_up_s]
    exact if_pos rfl
  obtain ⟨kR, kP⟩ := h4
  have hu0 : pu_up1 S.1 (pu_st0 S.1 c).1 := pu_up1_up (Int.le_refl 0)
  refine pu_lt (pu_lt ?_)
  refine pu_lp (J := fun s => ∃ i, i ≤ 400 ∧ s.2.2.2.1 = Int32.ofNat i ∧ s.2.2.1 = Int32.ofNat (pu_bf g w h (pu_st0 S.1 c) i).2.2 ∧ s.2.1 = Int32.ofNat c ∧ s.1 = Int32.ofNat S.2 ∧ pu_RK s.2.2.2.2 (w * h) (pu_lab L (pu_bf g w h (pu_st0 S.1 c) i).1 S.2) (pu_bf g w h (pu_st0 S.1 c) i) ∧ pu_RP σ a w h nb nc s.2.2.2.2) (m := fun s => 401 - s.2.2.2.1.toNatClampNeg) ?_ n _ (by show 401 - _ < n; omega) ⟨0, by omega, rfl, rfl, rfl, rfl, kR, kP⟩
  clear kR kP g510 gP
  rintro k19 ⟨kk, cc, sz, ii, σ5⟩ ⟨i, hi, e1, e2, e3, e4, hR, hP⟩ hk19
  dsimp only [] at e1 e2 e3 e4 hR hP
  subst e1; subst e2; subst e3; subst e4
  dsimp only []
  have B := pu_bf_BI (g := g) w2 h2 H0 i
  have hleB := pu_BI_le B
  have huB := pu_up1_trans hu0 (pu_bf_up (g := g) w2 h2 H0 i)
  refine pu_if (fun hq => ?_) (fun hq => ?_)
  · have hq := (pu_le (by omega) (by omega)).mp hq
    refine pu_lt (hfin _ ?_ hP)
    rw [hBB, pu_bf_last hi (by omega)]
    exact hR.1
  have hq : i < (pu_bf g w h (pu_st0 S.1 c) i).2.2 := by rw [pu_le (by omega) (by omega)] at hq; omega
  obtain ⟨b1, b2, b3⟩ := B.2.1 i hq
  have hstep : pu_bf g w h (pu_st0 S.1 c) (i + 1) = pu_visN g w h (pu_bf g w h (pu_st0 S.1 c) i) ((pu_bf g w h (pu_st0 S.1 c) i).2.1 i) 8 := if_pos hq
  clear hfin hBB
  generalize pu_bf g w h (pu_st0 S.1 c) i = st at *
  refine pu_lt ?_
  refine pu_lp (J := fun s => ∃ b, b ≤ 8 ∧ s.2.2.2.2.1 = Int32.ofNat b ∧ s.2.2.2.1 = Int32.ofNat i ∧ s.2.2.1 = Int32.ofNat (pu_visN g w h st (st.2.1 i) b).2.2 ∧ s.2.1 = Int32.ofNat c ∧ s.1 = Int32.ofNat S.2 ∧ pu_RK s.2.2.2.2.2 (w * h) (pu_lab L (pu_visN g w h st (st.2.1 i) b).1 S.2) (pu_visN g w h st (st.2.1 i) b) ∧ s.2.2.2.2.2 509 i = Int32.ofNat (st.2.1 i) ∧ pu_RP σ a w h nb nc s.2.2.2.2.2) (m := fun s => 8 - s.2.2.2.2.1.toNatClampNeg) ?_ n _ (by show 8 - _ < n; omega) ⟨0, by omega, rfl, rfl, rfl, rfl, rfl, hR, hR.2 i hq, hP⟩
  clear hR hP
  rintro k23 ⟨kk, cc, sz, ii, bb, σ6⟩ ⟨b, hb, e1, e2, e3, e4, e5, hR, hq6, hP⟩ hk23
  dsimp only [] at e1 e2 e3 e4 e5 hR hq6 hP
  subst e1; subst e2; subst e3; subst e4; subst e5
  dsimp only []
  refine pu_if (fun h8 => ?_) (fun h8 => ?_)
  · have h8 : 8 ≤ b := (pu_le (a := 8) (b := b) (by decide) (by omega)).mp h8
    have : b = 8 := by omega
    subst this
    have em : Int32.ofNat i + (1 : Int32) = Int32.ofNat (i + 1) := pu_add i 1
    refine pu_lt ?_
    rw [em]
    refine hk19 _ ⟨i + 1, by omega, rfl, by rw [hstep], rfl, rfl, by rw [hstep]; exact hR, hP⟩ ?_
    show 401 - (Int32.ofNat (i + 1)).toNatClampNeg < 401 - (Int32.ofNat i).toNatClampNeg
    rw [pu_n (by omega), pu_n (by omega)]
    omega
  have h8 : b < 8 := Nat.lt_of_not_le (fun z => h8 ((pu_le (a := 8) (b := b) (by decide) (by omega)).mpr z))
  obtain ⟨B1, B2, B3, B4⟩ := pu_visN_BI (g := g) w2 h2 B hq b1 b2 b3 b hb
  obtain ⟨B5, -⟩ := pu_visN_BI (g := g) w2 h2 B hq b1 b2 b3 (b + 1) (by omega)
  have hle5 := pu_BI_le B5
  have hle1 := pu_BI_le B1
  have huV : pu_up1 S.1 (pu_visN g w h st (st.2.1 i) b).1 := pu_up1_trans huB (pu_visN_up b2 b)
  have e44 : σ6 444 = a := hP.1.1
  refine pu_ck (pu_ok (by omega) (by omega)) ?_
  rw [pu_n (show i < 2147483648 by omega), hq6]
  refine pu_bde (pu_rneigh (σ := σ6) (w := w) (h := h) (by rw [e44]; exact H.1) b1 h8) ?_
  rw [e44]
  have hst : pu_visN g w h st (st.2.1 i) (b + 1) = pu_vis g w h (pu_visN g w h st (st.2.1 i) b) (st.2.1 i) b := rfl
  have em : Int32.ofNat b + (1 : Int32) = Int32.ofNat (b + 1) := pu_add b 1
  refine pu_lt ?_
  refine pu_jn (R := fun v => v.1 = Int32.ofNat (pu_visN g w h st (st.2.1 i) (b + 1)).2.2 ∧ pu_RK v.2 (w * h) (pu_lab L (pu_visN g w h st (st.2.1 i) (b + 1)).1 S.2) (pu_visN g w h st (st.2.1 i) (b + 1)) ∧ v.2 509 i = Int32.ofNat (st.2.1 i) ∧ pu_RP σ a w h nb nc v.2) (fun v hv => ?_) (fun f2 hf2 => ?_)
  · obtain ⟨z1, z2, z3, z4⟩ := hv
    refine pu_lt ?_
    rw [em]
    refine hk23 _ ⟨b + 1, by omega, rfl, rfl, z1, rfl, rfl, z2, z3, z4⟩ ?_
    show 8 - (Int32.ofNat (b + 1)).toNatClampNeg < 8 - (Int32.ofNat b).toNatClampNeg
    rw [pu_n (by omega), pu_n (by omega)]
    omega
  clear hk23 hk19
  have hnb : pu_nbr g w h (st.2.1 i) b = (match pu_nbr (pu_land a) w h (st.2.1 i) b with | some c' => if g c' then some c' else none | none => none) := pu_nbr_sub (fun d hd => pu_left_land (by rw [hg]; exact hd))
  have hsame : ∀ s : tw_Sg, pu_vis g w h (pu_visN g w h st (st.2.1 i) b) (st.2.1 i) b = pu_visN g w h st (st.2.1 i) b → s 509 = σ6 509 → s 510 = σ6 510 → pu_RP σ a w h nb nc s → pu_wp (f2 (Int32.ofNat (pu_visN g w h st (st.2.1 i) b).2.2, s)) Q := fun s hv h9 h10 hs => by
    rw [hv] at hst
    refine hf2 _ ⟨by rw [hst], ?_, by show s 509 i = _; rw [h9]; exact hq6, hs⟩
    rw [hst]
    exact ⟨fun x hx => by show s 510 x = _; rw [h10]; exact hR.1 x hx, fun j hj => by show s 509 j = _; rw [h9]; exact hR.2 j hj⟩
  cases en : pu_nbr (pu_land a) w h (st.2.1 i) b with
  | none =>
    rw [en] at hnb
    refine pu_ift rfl (hsame σ6 ?_ rfl rfl hP)
    unfold pu_vis
    rw [hnb]
  | some c' =>
    rw [en] at hnb
    have hnb : pu_nbr g w h (st.2.1 i) b = (if g c' then some c' else none) := hnb
    have hc' := pu_nbr_lt w2 h2 b1 h8 en
    have eo : pu_eR (some c') = Int32.ofNat c' := rfl
    rw [eo]
    refine pu_iff (pu_nm1 (by omega)) ?_
    refine pu_ck (pu_ok (by omega) (by omega)) ?_
    rw [pu_n (show c' < 2147483648 by omega)]
    have ev : σ6 510 c' = Int32.ofInt (pu_lab L (pu_visN g w h st (st.2.1 i) b).1 S.2 c') := hR.1 c' hc'
    have hng := pu_lab_neg (k := (S.2 : Int)) (hneg c') huV (by omega)
    have hrg : -1 ≤ pu_lab L (pu_visN g w h st (st.2.1 i) b).1 S.2 c' ∧ pu_lab L (pu_visN g w h st (st.2.1 i) b).1 S.2 c' ≤ 400 := by
      have := hlrc c'
      unfold pu_lab
      split <;> omega
    refine pu_if (fun hz => ?_) (fun hz => ?_)
    · rw [ev, pu_neg3 hrg.1 hrg.2, hng] at hz
      refine hsame σ6 ?_ rfl rfl hP
      unfold pu_vis
      rw [hnb]
      cases g c' with
      | false => rfl
      | true => exact if_neg hz
    · rw [ev, pu_neg3 hrg.1 hrg.2, hng] at hz
      have hz := Classical.not_not.mp hz
      refine pu_bd (pu_RP_left H hP hc' hn) (fun r6 hr6 => ?_)
      rw [hg] at hr6
      obtain ⟨q1, q2, q9, q10⟩ := hr6
      refine pu_if (fun hy => ?_) (fun hy => ?_)
      · rw [q1, pu_b1_0] at hy
        have hgc' := pu_bF hy
        have hv : pu_visN g w h st (st.2.1 i) (b + 1) = (va_up (pu_visN g w h st (st.2.1 i) b).1 c' ((pu_visN g w h st (st.2.1 i) b).1 (st.2.1 i) + 1), va_up (pu_visN g w h st (st.2.1 i) b).2.1 (pu_visN g w h st (st.2.1 i) b).2.2 c', (pu_visN g w h st (st.2.1 i) b).2.2 + 1) := by
          rw [hst]
          unfold pu_vis
          rw [hnb, hgc']
          exact if_pos hz
        rw [hv] at hle5
        have hle5 : (pu_visN g w h st (st.2.1 i) b).2.2 + 1 + _ ≤ w * h := hle5
        rw [hv] at hf2
        dsimp only [] at hf2
        generalize pu_visN g w h st (st.2.1 i) b = V at *
        refine pu_ck (pu_ok (by omega) (by omega)) (pu_ltG (P := fun s => (∀ x, x < w * h → s 510 x = Int32.ofInt (pu_lab L (va_up V.1 c' (V.1 (st.2.1 i) + 1)) S.2 x)) ∧ s 509 = σ6 509 ∧ pu_RP σ a w h nb nc s) ⟨fun x hx => ?_, (tw_up_n (by decide)).trans q9, pu_RP_up H (Or.inr rfl) q2⟩ (fun σ7 h7 => ?_))
        · show tw_up r6.2 510 c' (Int32.ofNat S.2) 510 x = _
          rw [pu_lab_up (hneg c') huV (by omega) hz, tw_up_s]
          unfold upd
          by_cases e : x = c'
          · subst e
            rw [if_pos rfl, va_up_self]
            exact (pu_ofInt (by omega)).symm
          · rw [if_neg e, va_up_ne _ _ e, q10]
            exact hR.1 x hx
        obtain ⟨y1, y2, y3⟩ := h7
        refine pu_ck (pu_ok (by omega) (by omega)) (pu_lt (pu_lt ?_))
        rw [pu_n (show V.2.2 < 2147483648 by omega)]
        refine hf2 _ ⟨pu_add _ 1, ⟨fun x hx => ?_, fun j hj => ?_⟩, ?_, pu_RP_up H (Or.inl rfl) y3⟩
        · show tw_up σ7 509 V.2.2 (Int32.ofNat c') 510 x = _
          rw [tw_up_n (by decide)]
          exact y1 x hx
        · show tw_up σ7 509 V.2.2 (Int32.ofNat c') 509 j = Int32.ofNat (va_up V.2.1 V.2.2 c' j)
          rw [tw_up_s]
          unfold upd
          by_cases e : j = V.2.2
          · rw [if_pos e, e, va_up_self]
          · rw [if_neg e, va_up_ne _ _ e, y2]
            have hj : j < V.2.2 + 1 := hj
            exact hR.2 j (by omega)
        · show tw_up σ7 509 V.2.2 (Int32.ofNat c') 509 i = _
          rw [tw_up_s]
          unfold upd
          rw [if_neg (by omega), y2]
          exact hq6
      · rw [q1, pu_b1_0] at hy
        have hy := Classical.not_not.mp hy
        refine hsame r6.2 ?_ q9 q10 q2
        unfold pu_vis
        rw [hnb, hy]
        rfl
