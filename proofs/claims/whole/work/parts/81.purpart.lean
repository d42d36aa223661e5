/-! part of the reference -/
theorem pu_cnt_sum {p : Nat → Bool} : ∀ m, pu_cnt p m = pu_sum p m
  | 0 => rfl
  | m + 1 => by
    have ih := pu_cnt_sum (p := p) m
    show pu_cnt p m + (if p m = true then 1 else 0) = pu_sum p m + (if p m then 1 else 0)
    rw [ih]
theorem pu_sum_0 {p : Nat → Bool} {m : Nat} (h : ∀ i, i < m → p i = false) : pu_sum p m = 0 := by
  induction m with
  | zero => rfl
  | succ m ih =>
    rw [pu_sum_S, ih (fun i hi => h i (by omega)), h m (by omega)]
    rfl
/-- what has been looked at has been seen -/
theorem pu_parts_seen {g : Nat → Bool} {w h : Nat} (hw : w ≤ 20) (hh : h ≤ 20) : ∀ m, m ≤ w * h → ∀ c, c < m → g c = true → 0 ≤ (pu_parts g w h m).1 c
  | 0, _, c, hc, _ => absurd hc (Nat.not_lt_zero _)
  | m + 1, hm, c, hc, hg => by
    obtain ⟨R1, R2⟩ := pu_parts_rng (g := g) hw hh m (by omega)
    rw [pu_parts_S]
    unfold pu_pstep
    by_cases e : g m = true ∧ (pu_parts g w h m).1 m < 0
    · rw [if_pos e]
      have H0 := pu_st0_BI (m := w * h) (s := m) (d0 := (pu_parts g w h m).1) (by omega) e.2 R1
      have hu := pu_bf_up (g := g) hw hh H0 400
      have h0 : ∀ x, 0 ≤ (pu_st0 (pu_parts g w h m).1 m).1 x → 0 ≤ (pu_bf g w h (pu_st0 (pu_parts g w h m).1 m) 400).1 x := fun x hx => hu x hx
      dsimp only []
      generalize pu_bf g w h (pu_st0 (pu_parts g w h m).1 m) 400 = B at h0 ⊢
      by_cases ec : c = m
      · subst ec
        refine h0 c ?_
        show 0 ≤ va_up _ c 0 c
        rw [va_up_self]
        exact Int.le_refl 0
      · refine h0 c ?_
        show 0 ≤ va_up _ m 0 c
        rw [va_up_ne _ _ ec]
        exact pu_parts_seen hw hh m (by omega) c (by omega) hg
    · rw [if_neg e]
      by_cases ec : c = m
      · subst ec
        exact Int.not_lt.mp (fun z => e ⟨hg, z⟩)
      · exact pu_parts_seen hw hh m (by omega) c (by omega) hg
theorem pu_part_cnt {g : Nat → Bool} {w h c : Nat} (hw : w ≤ 20) (hh : h ≤ 20) (hc : c < w * h) : pu_sum (fun k => decide (0 ≤ pu_labs g w h (w * h) c ∧ pu_labs g w h (w * h) k = pu_labs g w h (w * h) c)) (w * h) = pu_psz g w h c := by
  obtain ⟨l1, l2, l3, l4⟩ := pu_labs_rch (g := g) hw hh (w * h) (Nat.le_refl _)
  have hneg := pu_labs_neg (g := g) hw hh (w * h) (Nat.le_refl _) c
  unfold pu_psz
  by_cases hg : g c = true
  · rw [if_pos hg]
    have hs := pu_parts_seen (g := g) hw hh (w * h) (Nat.le_refl _) c hc hg
    have hL : 0 ≤ pu_labs g w h (w * h) c := by omega
    have H0 := pu_st0_BI (m := w * h) (s := c) (d0 := fun _ => -1) hc (by decide) (fun _ _ => by decide)
    have B := (pu_bf_BI (g := g) hw hh H0 400).1
    obtain ⟨BB, hB⟩ : ∃ B, B = pu_bf g w h (pu_st0 (fun _ => -1) c) 400 := ⟨_, rfl⟩
    obtain ⟨s1, -⟩ := pu_bf_seen (g := g) (d0 := fun _ => -1) hw hh hc (by decide) (fun _ _ => by decide) (fun x y b hx => absurd hx (show ¬ (0 : Int) ≤ -1 by decide)) hB
    rw [← hB] at B ⊢
    have z : pu_cnt (fun c => decide ((0 : Int) ≤ (fun _ => -1 : Nat → Int) c)) (w * h) = 0 := by
      rw [pu_cnt_sum]
      exact pu_sum_0 (fun i _ => rfl)
    rw [z, Nat.add_zero, pu_cnt_sum] at B
    rw [← B]
    refine pu_sum_cong (fun i hi => ?_)
    have q := l4 c i hL
    have s := s1 i
    by_cases hr : pu_rch g w h c i
    · exact (decide_eq_true ⟨hL, q.mpr hr⟩).trans (decide_eq_true (s.mpr (Or.inr hr))).symm
    · refine (decide_eq_false (fun z => hr (q.mp z.2))).trans (decide_eq_false (fun z => ?_)).symm
      rcases s.mp z with y | y
      · exact absurd y (show ¬ (0 : Int) ≤ -1 by decide)
      · exact hr y
  · rw [if_neg hg]
    exact pu_sum_0 (fun i _ => decide_eq_false (fun z => hg (l2 c z.1).1))
theorem pu_eqI {x y : Int} (hx1 : -1 ≤ x) (hx2 : x ≤ 401) (hy1 : -1 ≤ y) (hy2 : y ≤ 401) : Int32.ofInt x = Int32.ofInt y ↔ x = y := by
  rw [← Int32.toInt_inj, pu_int (by omega) (by omega), pu_int (by omega) (by omega)]
theorem pu_rpart {σ : tw_Sg} {a : Nat → Int32} {w h nb nc n : Nat} {x y : Int32} (H : pu_WF a w h nb nc) (hL : pu_RL σ a w h nb nc) (hn : 1000 < n) : pu_wp (tw_P_X12_part n x y σ) (pu_QR σ a w h nb nc (pu_oPart a w h nb nc x y)) := by
  have hm400 := pu_wfm_le H.1
  obtain ⟨-, -, w1, w2, h1, h2⟩ := id H.1
  unfold tw_P_X12_part
  refine pu_ropenG hL (fun σ1 h0 hL1 hi1 hf1 => ?_)
  have hm1 : pu_wfm (σ1 444) w h := by rw [hL1.1]; exact H.1
  cases e : pu_cellOf w h x y with
  | none =>
    refine pu_bde (pu_noCell_n hm1 h0 e) ?_
    have ho : pu_oPart a w h nb nc x y = .inr 1 := by unfold pu_oPart; rw [e]
    exact pu_iff pu_10 (pu_some (pu_rfault ho hL1 hi1 hf1))
  | some c =>
    have hc := pu_cellOf_lt e
    refine pu_bde (pu_noCell_s hm1 h0 e) (pu_ift rfl ?_)
    have ho : pu_oPart a w h nb nc x y = .inl (Int32.ofNat (pu_psz (pu_left a w h nb nc) w h c)) := by unfold pu_oPart; rw [e]
    refine pu_bd (pu_rlayParts H hL1 hn) (fun r hr => ?_)
    obtain ⟨-, r2, r3⟩ := hr
    obtain ⟨q1, q2, q3⟩ := pu_RP_FQ r3
    have hm2 : pu_wfm (r.2 444) w h := by rw [r3.1.1]; exact H.1
    refine pu_bde (pu_cellAt hm2 e) ?_
    rw [pu_l510]
    refine pu_ck (pu_ok (by omega) (by omega)) ?_
    rw [pu_n (show c < 2147483648 by omega), r2 c hc]
    have hcnt := pu_part_cnt (g := pu_left a w h nb nc) w2 h2 hc
    have hlr := pu_labs_rng (g := pu_left a w h nb nc) w2 h2 (w * h) (Nat.le_refl _)
    generalize pu_labs (pu_left a w h nb nc) w h (w * h) = L at r2 hcnt hlr ⊢
    obtain ⟨lc1, lc2⟩ := hlr c
    refine pu_lt (pu_lt (pu_lt ?_))
    refine pu_lp (J := fun s => ∃ i, i ≤ w * h ∧ s.2 = Int32.ofNat i ∧ s.1 = Int32.ofNat (pu_sum (fun k => decide (0 ≤ L c ∧ L k = L c)) i)) (m := fun s => w * h - s.2.toNatClampNeg) ?_ n _ (by show w * h - _ < n; omega) ⟨0, by omega, rfl, rfl⟩
    rintro k9 ⟨ss, ii⟩ ⟨i, hi, e1, e2⟩ hk9
    dsimp only [] at e1 e2
    subst e1; subst e2
    dsimp only []
    refine pu_bde (pu_rcells hm2) ?_
    refine pu_if (fun hc1 => ?_) (fun hc1 => ?_)
    · have hc1 := (pu_le (by omega) (by omega)).mp hc1
      have : i = w * h := by omega
      subst this
      rw [hcnt]
      exact pu_some (pu_rsay ho (q1.trans h0) r3.1 (fun i z1 z2 => (q2 i z1 z2).trans (hi1 i z1 z2)) (pu_fr_trans hf1 q3))
    have hc1 : i < w * h := by rw [pu_le (by omega) (by omega)] at hc1; omega
    refine pu_jn (R := fun v => v = pu_b1 (decide (0 ≤ L c ∧ L i = L c))) (fun v hv => ?_) (fun f hf => ?_)
    · subst hv
      refine pu_lt (pu_lt ?_)
      have em : Int32.ofNat i + (1 : Int32) = Int32.ofNat (i + 1) := pu_add i 1
      rw [em]
      refine hk9 _ ⟨i + 1, by omega, rfl, pu_sumI (p := fun k => decide (0 ≤ L c ∧ L k = L c))⟩ ?_
      show w * h - (Int32.ofNat (i + 1)).toNatClampNeg < w * h - (Int32.ofNat i).toNatClampNeg
      rw [pu_n (by omega), pu_n (by omega)]
      omega
    · have h0' : ¬ (0 ≤ L c ∧ L i = L c) → (0 : Int32) = pu_b1 (decide (0 ≤ L c ∧ L i = L c)) := fun z => by rw [decide_eq_false z]; rfl
      obtain ⟨li1, li2⟩ := hlr i
      refine pu_jn0 (pu_if (fun c2 => ?_) (fun c2 => ?_))
      · rw [pu_neg3 (by omega) (by omega)] at c2
        exact hf _ (h0' (fun z => by omega))
      rw [pu_neg3 (by omega) (by omega)] at c2
      refine pu_ck (pu_ok (by omega) (by omega)) ?_
      rw [pu_n (show i < 2147483648 by omega), r2 i hc1]
      refine pu_if (fun c3 => ?_) (fun c3 => ?_)
      · rw [pu_eqI (by omega) (by omega) (by omega) (by omega)] at c3
        exact hf _ (h0' (fun z => c3 z.2))
      · rw [pu_eqI (by omega) (by omega) (by omega) (by omega)] at c3
        refine hf _ ?_
        rw [decide_eq_true ⟨by omega, Classical.not_not.mp c3⟩]
        rfl
