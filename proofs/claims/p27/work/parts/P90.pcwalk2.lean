/-! walk of the class -/
/-- the cell ahead of the leg l of the first walk -/
noncomputable def pu_wk (a : Nat → Int32) (w h nb q g s0 : Nat) : Nat → Nat
  | 0 => s0
  | l + 1 => match pu_fst a w h nb q l (pu_Rl a w h nb q g (l + 1)) (pu_wk a w h nb q g s0 l) with | some x => x.1 | none => 0
theorem pu_wk_S {a : Nat → Int32} {w h nb q g s0 l : Nat} : pu_wk a w h nb q g s0 (l + 1) = (match pu_fst a w h nb q l (pu_Rl a w h nb q g (l + 1)) (pu_wk a w h nb q g s0 l) with | some x => x.1 | none => 0) := rfl
/-- where the first walk is, all along -/
theorem pu_wk_ok {a : Nat → Int32} {w h nb nc q g s0 : Nat} (H : pu_WF a w h nb nc) (hs : s0 < w * h) (hF : pu_Fw a w h nb q 0 s0) (hR : pu_Rl a w h nb q g 0 s0) : ∀ l, l ≤ pu_nl a q → pu_wk a w h nb q g s0 l < w * h ∧ pu_Fw a w h nb q l (pu_wk a w h nb q g s0 l) ∧ pu_Rl a w h nb q g l (pu_wk a w h nb q g s0 l)
  | 0, _ => ⟨hs, hF, hR⟩
  | l + 1, hl => by
    obtain ⟨i1, i2, i3⟩ := pu_wk_ok H hs hF hR l (by omega)
    obtain ⟨x, hx⟩ := (pu_Rl_fst (by omega)).mp i3
    obtain ⟨hE, hS⟩ := pu_fst_E hx
    rw [pu_wk_S, hx]
    exact ⟨pu_E_lt H.1 i1 hE, ⟨_, i1, i2, hE⟩, hS⟩
/-- a cell to which the legs lead, and from which they lead on, has a start -/
theorem pu_ld_ex {a : Nat → Int32} {w h nb q g : Nat} : ∀ l d, l ≤ pu_nl a q → pu_Fw a w h nb q l d → pu_Rl a w h nb q g l d → ∃ k, k < pu_ns a q ∧ pu_ld a w h nb q g k = true
  | 0, d, _, ⟨k, hk, e⟩, hR => ⟨k, hk, pu_B_t (by rw [e]; exact hR)⟩
  | l + 1, d, hl, ⟨c, hc, hF, hE⟩, hR => pu_ld_ex l c (by omega) hF ((pu_Rl_S (by omega)).mpr ⟨d, hE, hR⟩)
theorem pu_first_ex {p : Nat → Bool} : ∀ n k, k < n → p k = true → ∃ j, pu_first p n = some j
  | 0, k, h, _ => absurd h (Nat.not_lt_zero _)
  | n + 1, k, h, hp => by
    rw [pu_first_S]
    cases e : pu_first p n with
    | some j => exact ⟨j, rfl⟩
    | none =>
      dsimp only []
      by_cases hn : p n = true
      · rw [if_pos hn]; exact ⟨n, rfl⟩
      · have hk : k < n := by
          rcases Nat.lt_or_ge k n with z | z
          · exact z
          · have : k = n := by omega
            rw [this] at hp
            exact absurd hp hn
        obtain ⟨j, hj⟩ := pu_first_ex n k hk hp
        rw [e] at hj
        cases hj
theorem pu_first_is {p : Nat → Bool} {n q : Nat} (h : pu_first p n = some q) : p q = true := by
  induction n with
  | zero => cases h
  | succ n ih =>
    rw [pu_first_S] at h
    cases e : pu_first p n with
    | some j => rw [e] at h ih; cases h; exact ih rfl
    | none =>
      rw [e] at h
      dsimp only [] at h
      by_cases hn : p n = true
      · rw [if_pos hn] at h; cases h; exact hn
      · rw [if_neg hn] at h; cases h
theorem pu_cfirst {σ : tw_Sg} {a : Nat → Int32} {w h nb nc q g n : Nat} (H : pu_WF a w h nb nc) (H1 : pu_cl1 σ a w h nb nc) (hS : ∀ l, l ≤ pu_nl a q → pu_set σ (pu_Wa l) w (w * h) (fun d => pu_B (pu_Cl a w h nb q g l d))) (hq : q < nc) {j : Nat} (hj : pu_first (pu_ld a w h nb q g) (pu_ns a q) = some j) (hn : 1000 < n) : pu_wp (tw_P_X10_firstStart n (Int32.ofNat q) σ) (fun r => r = Int32.ofNat (pu_sp w (pu_sc a q j))) := by
  have h4 := H.2.2.1.2.1
  obtain ⟨-, ⟨ens, hns⟩, -⟩ := H.2.2.1.2.2 q hq
  have hns : pu_ns a q < 9 := hns
  have ens : a (pu_cl q + 1) = Int32.ofNat (pu_ns a q) := ens
  have e18 : σ (17 + 1) q = Int32.ofNat (pu_ns a q) := ((H1.2.2.1.2.2.2.2.2 q hq).2.1).trans ens
  unfold tw_P_X10_firstStart
  refine pu_lt ?_
  refine pu_lp (J := fun s => ∃ k, k ≤ pu_ns a q ∧ s = Int32.ofNat k ∧ pu_first (pu_ld a w h nb q g) k = none) (m := fun s => 10 - s.toNatClampNeg) ?_ n _ (by show 10 - _ < n; omega) ⟨0, by omega, rfl, rfl⟩
  rintro k3 kk ⟨k, hk, e1, h0⟩ hk3
  subst e1
  refine pu_bde (pu_get (th := 17) (i := q) (N := 4) (by decide +kernel) (by decide) (by omega)) ?_
  rw [e18]
  refine pu_if (fun c1 => ?_) (fun c1 => ?_)
  · have c1 := (pu_le (by omega) (by omega)).mp c1
    have : k = pu_ns a q := by omega
    rw [this, hj] at h0
    cases h0
  have c1 : k < pu_ns a q := by rw [pu_le (by omega) (by omega)] at c1; omega
  obtain ⟨y1, y2⟩ := pu_way (σ := σ) (l := 0) (by omega)
  refine pu_bde (a := 116) y1 (pu_ck (by decide +kernel) ?_)
  obtain ⟨s1, s2⟩ := pu_startSpot H1 hq c1
  refine pu_bde s1 (pu_bde (pu_way0 H H1 hS hq c1) ?_)
  refine pu_if (fun c2 => ?_) (fun c2 => ?_)
  · rw [pu_b1_0] at c2
    refine pu_lt ?_
    have em : Int32.ofNat k + (1 : Int32) = Int32.ofNat (k + 1) := pu_add k 1
    rw [em]
    refine hk3 _ ⟨k + 1, by omega, rfl, pu_first_go h0 c2⟩ ?_
    show 10 - (Int32.ofNat (k + 1)).toNatClampNeg < 10 - (Int32.ofNat k).toNatClampNeg
    rw [pu_n (by omega), pu_n (by omega)]
    omega
  · rw [pu_b1_0] at c2
    have := pu_first_at h0 (pu_bF c2) c1
    rw [hj] at this
    have := Option.some.inj this
    subst this
    exact pu_bde s1 (pu_some rfl)
theorem pu_cbehind {σ : tw_Sg} {a : Nat → Int32} {w h nb nc q l c e i0 n : Nat} (H : pu_WF a w h nb nc) (H1 : pu_cl1 σ a w h nb nc) (hq : q < nc) (hl : l < pu_nl a q) (hc : c < w * h) (hp : pu_pt a w h nb (pu_bear a q l) c i0 = some e) (hi : i0 ≤ 60) (hn : 1000 < n) : pu_wp (tw_P_X10_spotBehind n (Int32.ofNat q) (Int32.ofNat l) (Int32.ofNat (pu_sp w c)) (Int32.ofNat i0) σ) (fun r => r = Int32.ofNat (pu_sp w e)) := by
  obtain ⟨hm, hcc, hCD, ht⟩ := id H1
  obtain ⟨-, hnc, hcq⟩ := id hcc
  obtain ⟨-, -, ⟨-, hnl⟩, -, hlq⟩ := hcq q hq
  have hnl : pu_nl a q < 9 := hnl
  have hwl := hlq l hl
  obtain ⟨-, -, -, -, -, hcd⟩ := id hCD
  obtain ⟨-, -, -, -, hcl⟩ := hcd q hq
  obtain ⟨-, l2, -, -, -⟩ := hcl l hl
  have l2 : σ (25 + 1) (8 * q + l) = _ := l2
  have hix : 8 * q + l < 32 := by omega
  have hb : pu_v a (pu_lg q l + 3) < 8 := hwl.2.1.2
  have ei : Int32.ofNat q * (8 : Int32) + Int32.ofNat l = Int32.ofNat (8 * q + l) := by
    show Int32.ofNat q * Int32.ofNat 8 + Int32.ofNat l = _
    rw [pu_mul, pu_add, Nat.mul_comm]
  unfold tw_P_X10_spotBehind
  rw [ei]
  refine pu_bde (pu_get (N := 32) (by decide +kernel) (by decide) hix) ?_
  rw [l2, hwl.2.1.1]
  refine pu_lt (pu_lt (pu_lt ?_))
  refine pu_lp (J := fun s => ∃ i, i ≤ i0 ∧ s.2 = Int32.ofNat i ∧ s.1 = pu_eS w (pu_pt a w h nb (pu_bear a q l) c i)) (m := fun s => 100 - s.2.toNatClampNeg) ?_ n _ (by show 100 - _ < n; omega) ⟨0, by omega, rfl, rfl⟩
  rintro k ⟨sp, ii⟩ ⟨i, hi2, e1, e2⟩ hk1
  dsimp only [] at e1 e2
  subst e1; subst e2
  dsimp only []
  refine pu_if (fun c1 => ?_) (fun c1 => ?_)
  · have c1 := (pu_le (by omega) (by omega)).mp c1
    have : i = i0 := by omega
    subst this
    rw [hp]
    exact pu_some rfl
  have c1 : i < i0 := by rw [pu_le (by omega) (by omega)] at c1; omega
  have hptl := fun d => pu_pt_lt (nb := nb) (b := pu_bear a q l) hm hc i d
  cases hpt : pu_pt a w h nb (pu_bear a q l) c i with
  | none =>
    have := pu_pt_none hpt (i0 - i)
    rw [show i + (i0 - i) = i0 from by omega, hp] at this
    cases this
  | some d =>
    have hd := hptl d hpt
    refine pu_bde (pu_cstep hm hCD.2.1 ht hd hb) ?_
    refine pu_lt (pu_lt ?_)
    have em : Int32.ofNat i + (1 : Int32) = Int32.ofNat (i + 1) := pu_add i 1
    rw [em]
    refine hk1 _ ⟨i + 1, by omega, rfl, ?_⟩ ?_
    · show pu_eS w (pu_step a w h nb d (pu_bear a q l)) = pu_eS w (match pu_pt a w h nb (pu_bear a q l) c i with | some d => pu_step a w h nb d (pu_bear a q l) | none => none)
      rw [hpt]
    · show 100 - (Int32.ofNat (i + 1)).toNatClampNeg < 100 - (Int32.ofNat i).toNatClampNeg
      rw [pu_n (by omega), pu_n (by omega)]
      omega
/-- the paces of the leg l of the first walk -/
noncomputable def pu_wAns (a : Nat → Int32) (w h nb q g l : Nat) : Int32 := match pu_first (pu_ld a w h nb q g) (pu_ns a q) with
  | none => 0
  | some j => match pu_fst a w h nb q l (pu_Rl a w h nb q g (l + 1)) (pu_wk a w h nb q g (pu_sc a q j) l) with | some x => Int32.ofNat x.2 | none => -1
theorem pu_cwalk0 {σ : tw_Sg} {a : Nat → Int32} {w h nb nc q g l n : Nat} (H : pu_WF a w h nb nc) (C : pu_CC σ a w h nb nc) (hq : q < nc) (hg : g < w * h) (hl : l < pu_nl a q) (hreg : pu_Fw a w h nb q (pu_nl a q) g) (hn : 1000 < n) : pu_wp (tw_P_X10_firstWalkPaces n (Int32.ofNat q) (Int32.ofNat (pu_sp w g)) (Int32.ofNat l) σ) (fun r => r.1 = pu_wAns a w h nb q g l ∧ pu_fr pu_F15 σ r.2) := by
  have H0 : pu_cl1 σ a w h nb nc := ⟨H.1, H.2.2.1, C.1, C.2.2⟩
  have W : nb ≤ 8 := H.2.1.2.1
  have hnl : pu_nl a q < 9 := (H.2.2.1.2.2 q hq).2.2.1.2
  obtain ⟨k, hk1, hk2⟩ := pu_ld_ex (a := a) (w := w) (h := h) (nb := nb) (q := q) (g := g) (pu_nl a q) g (Nat.le_refl _) hreg (pu_Rl_end.mpr rfl)
  obtain ⟨j, hj⟩ := pu_first_ex _ k hk1 hk2
  have hjl := pu_first_lt hj
  have hjp := pu_B_iff.mp (pu_first_is hj)
  unfold tw_P_X10_firstWalkPaces
  refine pu_bd (pu_cfind H C hq hg hn) (fun σ1 h1 => ?_)
  obtain ⟨hS, hF⟩ := h1
  have H1 := pu_cl1_fr H0 (fun k hk => hF k (by unfold pu_F15; omega)) W
  obtain ⟨-, s2⟩ := pu_startSpot H1 hq hjl
  have hok := pu_wk_ok (g := g) H s2 ⟨j, hjl, rfl⟩ hjp
  refine pu_bd (pu_cfirst H H1 hS hq hj hn) (fun v hv => ?_)
  subst hv
  have hfew : ∀ m, m < pu_nl a q → ∃ x : Nat × Nat, pu_fst a w h nb q m (pu_Rl a w h nb q g (m + 1)) (pu_wk a w h nb q g (pu_sc a q j) m) = some x ∧ pu_wp (tw_P_X10_fewestPaces n (Int32.ofNat q) (Int32.ofNat m) (Int32.ofNat (pu_sp w (pu_wk a w h nb q g (pu_sc a q j) m))) σ1) (fun r => r = Int32.ofNat x.2) := fun m hm => by
    obtain ⟨i1, i2, i3⟩ := hok m (by omega)
    obtain ⟨x, hx⟩ := (pu_Rl_fst hm).mp i3
    refine ⟨x, hx, pu_cons (pu_cfewest (S := pu_Cl a w h nb q g (m + 1)) H1 (by omega) hq hm i1 (hS (m + 1) (by omega))) (fun v hv => ?_)⟩
    rw [pu_fst_cong (fun d hd => pu_Cl_of hm i1 i2 hd), hx] at hv
    exact hv
  refine pu_lt (pu_lt ?_)
  refine pu_lp (J := fun s => ∃ m, m ≤ l ∧ s.2 = Int32.ofNat m ∧ s.1 = Int32.ofNat (pu_sp w (pu_wk a w h nb q g (pu_sc a q j) m))) (m := fun s => 10 - s.2.toNatClampNeg) ?_ n _ (by show 10 - _ < n; omega) ⟨0, by omega, rfl, rfl⟩
  rintro k6 ⟨ss, mm⟩ ⟨m, hm, e1, e2⟩ hk6
  dsimp only [] at e1 e2
  subst e1; subst e2
  dsimp only []
  obtain ⟨x, hx, hxw⟩ := hfew m (by omega)
  refine pu_if (fun c1 => ?_) (fun c1 => ?_)
  · have c1 := (pu_le (by omega) (by omega)).mp c1
    have : m = l := by omega
    subst this
    refine pu_bd hxw (fun v hv => pu_some ⟨?_, hF⟩)
    unfold pu_wAns
    rw [hj]
    dsimp only []
    rw [hx]
    exact hv
  have c1 : m < l := by rw [pu_le (by omega) (by omega)] at c1; omega
  refine pu_bd hxw (fun v hv => ?_)
  subst hv
  obtain ⟨-, x2, x3, -, -⟩ := pu_fe_in _ x hx
  obtain ⟨-, hmost⟩ := pu_few_lt ((H.2.2.1.2.2 q hq).2.2.2.2 m (by omega))
  refine pu_bd (pu_cbehind H H1 hq (by omega) (hok m (by omega)).1 x3 (by omega) hn) (fun v hv => ?_)
  subst hv
  refine pu_lt (pu_lt ?_)
  have em : Int32.ofNat m + (1 : Int32) = Int32.ofNat (m + 1) := pu_add m 1
  rw [em]
  refine hk6 _ ⟨m + 1, by omega, rfl, ?_⟩ ?_
  · rw [pu_wk_S, hx]
  · show 10 - (Int32.ofNat (m + 1)).toNatClampNeg < 10 - (Int32.ofNat m).toNatClampNeg
    rw [pu_n (by omega), pu_n (by omega)]
    omega
/-! walk, closed -/
noncomputable def pu_oWalk (a : Nat → Int32) (w h nb nc : Nat) (q x y l : Int32) : Int32 ⊕ Int32 := match pu_clueOf nc q with
  | none => .inr 1
  | some k => match pu_cellOf w h x y with
    | none => .inr 1
    | some g => match pu_clueOf (pu_nl a k) l with
      | none => .inr 1
      | some j => if pu_B (pu_Fw a w h nb k (pu_nl a k) g) = true then .inl (pu_wAns a w h nb k g j) else .inr 2
theorem pu_cwalk {σ : tw_Sg} {a : Nat → Int32} {w h nb nc n : Nat} {q x y l : Int32} (H : pu_WF a w h nb nc) (C : pu_CC σ a w h nb nc) (hn : 1000 < n) : pu_wp (tw_P_L_walk n q x y l σ) (pu_QC σ (pu_oWalk a w h nb nc q x y l)) := by
  obtain ⟨dw, dh, dn⟩ := pu_CCdim H C
  obtain ⟨-, -, w1, w2, h1, h2⟩ := id H.1
  have hcs := pu_checkedSpot (x := x) (y := y) dw dh w2 h2
  have hcq := pu_checkClue (x := q) dn H.2.2.1.2.1
  unfold tw_P_L_walk
  cases eq : pu_clueOf nc q with
  | none =>
    rw [eq] at hcq
    have ho : pu_oWalk a w h nb nc q x y l = .inr 1 := by unfold pu_oWalk; rw [eq]
    refine pu_bcr (s := "java/lang/IndexOutOfBoundsException") (by unfold tw_P_X11_walk; rw [hcq]; rfl) ?_
    exact pu_ift rfl (pu_some (pu_fault ho))
  | some k =>
    rw [eq] at hcq
    obtain ⟨rfl, hk⟩ := pu_clueOf_some eq
    have h4 := H.2.2.1.2.1
    cases e : pu_cellOf w h x y with
    | none =>
      rw [e] at hcs
      have ho : pu_oWalk a w h nb nc (Int32.ofNat k) x y l = .inr 1 := by unfold pu_oWalk; rw [eq]; dsimp only []; rw [e]
      refine pu_bcr (s := "java/lang/IndexOutOfBoundsException") (by unfold tw_P_X11_walk; rw [hcq, hcs]; rfl) ?_
      exact pu_ift rfl (pu_some (pu_fault ho))
    | some g =>
      rw [e] at hcs
      have hg := pu_cellOf_lt e
      obtain ⟨-, -, ⟨enl, hnl⟩, -⟩ := H.2.2.1.2.2 k hk
      have hnl : pu_nl a k < 9 := hnl
      have enl : a (pu_cl k + 2) = Int32.ofNat (pu_nl a k) := enl
      have e22 : σ (21 + 1) k = Int32.ofNat (pu_nl a k) := ((C.1.2.2.2.2.2 k hk).2.2.1).trans enl
      have hout : pu_clueOf (pu_nl a k) l = none → pu_oWalk a w h nb nc (Int32.ofNat k) x y l = .inr 1 := fun z => by
        unfold pu_oWalk; rw [eq]; dsimp only []; rw [e]; dsimp only []; rw [z]
      refine pu_bcw (R := fun r => (r = .inr "java/lang/IndexOutOfBoundsException" ∧ pu_oWalk a w h nb nc (Int32.ofNat k) x y l = .inr 1) ∨ (r = .inr "java/util/NoSuchElementException" ∧ pu_oWalk a w h nb nc (Int32.ofNat k) x y l = .inr 2) ∨ ∃ v s, r = .inl (v, s) ∧ pu_oWalk a w h nb nc (Int32.ofNat k) x y l = .inl v ∧ pu_fr pu_SQ σ s) ?_ (fun v hv => ?_) (fun s hs => ?_)
      · unfold tw_P_X11_walk
        refine pu_bxl hcq (pu_bxl hcs (pu_lt (pu_jn0 (pu_if (fun c1 => ?_) (fun c1 => ?_)))))
        · rw [Int32.lt_iff_toInt_lt, pu_toInt0] at c1
          exact pu_some (Or.inl ⟨rfl, hout (if_neg (by omega))⟩)
        · rw [Int32.lt_iff_toInt_lt, pu_toInt0] at c1
          refine pu_bde (pu_get (th := 21) (i := k) (N := 4) (by decide +kernel) (by decide) (by omega)) ?_
          rw [e22]
          obtain ⟨b1, b2, b3⟩ := pu_back (x := l) (by omega)
          refine pu_if (fun c2 => ?_) (fun c2 => ?_)
          rotate_left
          · rw [Int32.lt_iff_toInt_lt, pu_toInt (show pu_nl a k < 2147483648 by omega)] at c2
            exact pu_some (Or.inl ⟨rfl, hout (if_neg (by omega))⟩)
          rw [Int32.lt_iff_toInt_lt, pu_toInt (show pu_nl a k < 2147483648 by omega)] at c2
          have el : pu_clueOf (pu_nl a k) l = some l.toNatClampNeg := if_pos ⟨by omega, c2⟩
          have ho : pu_oWalk a w h nb nc (Int32.ofNat k) x y l = if pu_B (pu_Fw a w h nb k (pu_nl a k) g) = true then .inl (pu_wAns a w h nb k g l.toNatClampNeg) else .inr 2 := by
            unfold pu_oWalk; rw [eq]; dsimp only []; rw [e]; dsimp only []; rw [el]
          generalize l.toNatClampNeg = j at b1 b2 b3 ho
          subst b1
          obtain ⟨u1, u2⟩ := pu_region (σ := σ) H.2.2.1 C.1 hk
          refine pu_bde u1 (pu_ck (decide_eq_true u2) ?_)
          refine pu_bde (pu_hasS u2 w2 h2 hg (pu_regS H C hk (Nat.le_refl _)).2) ?_
          refine pu_if (fun c3 => ?_) (fun c3 => ?_)
          · rw [pu_b1_0] at c3
            have c3 := pu_bF c3
            refine pu_bd (pu_cwalk0 H C hk hg (by omega) (pu_B_iff.mp c3) hn) (fun r hr => ?_)
            exact pu_some (Or.inr (Or.inr ⟨_, _, rfl, by rw [ho, if_pos c3, hr.1], pu_F15_SQ hr.2⟩))
          · rw [pu_b1_0] at c3
            have c3 := Classical.not_not.mp c3
            exact pu_some (Or.inr (Or.inl ⟨rfl, by rw [ho, if_neg (by rw [c3]; decide)]⟩))
      · rcases hv with ⟨z, -⟩ | ⟨z, -⟩ | ⟨u, s, z, ho, hf⟩
        · cases z
        · cases z
        · cases z
          exact pu_tell ho hf
      · rcases hs with ⟨z, ho⟩ | ⟨z, ho⟩ | ⟨u, s, z, -⟩
        · cases z
          exact pu_ift rfl (pu_some (pu_fault ho))
        · cases z
          exact pu_iff (by decide) (pu_ift rfl (pu_some (pu_fault ho)))
        · cases z
