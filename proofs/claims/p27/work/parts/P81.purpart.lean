/-! part of the reference -/
theorem pu_cnt_sum {p : Nat → Bool} : ∀ m, pu_cnt p m = pu_sum p m
  | 0 => rfl
  | m + 1 => by
    have ih := pu_cnt_sum (p := p) m
    show pu_cnt p m + (if p m = true then 1 else 0) = pu_sum p m + (if p m then 1 else 0)
    rw [ih]
theorem pu_sum_0 {p : Nat → Bool} {m : Nat} (h : ∀ i, i < m → p i = false) : pu_sum p m = 0 := by
  induction m with
  | zero => rfl
  | succ m ih =>
    rw [pu_sum_S, ih (fun i hi => h i (by omega)), h m (by omega)]
    rfl
/-- what has been looked at has been seen -/
theorem pu_parts_seen {g : Nat → Bool} {w h : Nat} (hw : w ≤ 20) (hh : h ≤ 20) : ∀ m, m ≤ w * h → ∀ c, c < m → g c = true → 0 ≤ (pu_parts g w h m).1 c
  | 0, _, c, hc, _ => absurd hc (Nat.not_lt_zero _)
  | m + 1, hm, c, hc, hg => by
    obtain ⟨R1, R2⟩ := pu_parts_rng (g := g) hw hh m (by omega)
    rw [pu_parts_S]
    unfold pu_pstep
    by_cases e : g m = true ∧ (pu_parts g w h m).1 m < 0
    · rw [if_pos e]
      have H0 := pu_st0_BI (m := w * h) (s := m) (d0 := (pu_parts g w h m).1) (by omega) e.2 R1
      have hu := pu_bf_up (g := g) hw hh H0 400
      have h0 : ∀ x, 0 ≤ (pu_st0 (pu_parts g w h m).1 m).1 x → 0 ≤ (pu_bf g w h (pu_st0 (pu_parts g w h m).1 m) 400).1 x := fun x hx => hu x hx
      dsimp only []
      generalize pu_bf g w h (pu_st0 (pu_parts g w h m).1 m) 400 = B at h0 ⊢
      by_cases ec : c = m
      · subst ec
        refine h0 c ?_
        show 0 ≤ va_up _ c 0 c
        rw [va_up_self]
        exact Int.le_refl 0
      · refine h0 c ?_
        show 0 ≤ va_up _ m 0 c
        rw [va_up_ne _ _ ec]
        exact pu_parts_seen hw hh m (by omega) c (by omega) hg
    · rw [if_neg e]
      by_cases ec : c = m
      · subst ec
        exact Int.not_lt.mp (fun z => e ⟨hg, z⟩)
      · exact pu_parts_seen hw hh m (by omega) c (by omega) hg
theorem pu_part_cnt {g : Nat → Bool} {w h c : Nat} (hw : w ≤ 20) (hh : h ≤ 20) (hc : c < w * h) : pu_sum (fun k => decide (0 ≤ pu_labs g w h (w * h) c ∧ pu_labs g w h (w * h) k = pu_labs g w h (w * h) c)) (w * h) = pu_psz g w h c := by
  obtain ⟨l1, l2, l3, l4⟩ := pu_labs_rch (g := g) hw hh (w * h) (Nat.le_refl _)
  have hneg := pu_labs_neg (g := g) hw hh (w * h) (Nat.le_refl _) c
  unfold pu_psz
  by_cases hg : g c = true
  · rw [if_pos hg]
    have hs := pu_parts_seen (g := g) hw hh (w * h) (Nat.le_refl _) c hc hg
    have hL : 0 ≤ pu_labs g w h (w * h) c := by omega
    have H0 := pu_st0_BI (m := w * h) (s := c) (d0 := fun _ => -1) hc (by decide) (fun _ _ => by decide)
    have B := (pu_bf_BI (g := g) hw hh H0 400).1
    obtain ⟨BB, hB⟩ : ∃ B, B = pu_bf g w h (pu_st0 (fun _ => -1) c) 400 := ⟨_, rfl⟩
    obtain ⟨s1, -⟩ := pu_bf_seen (g := g) (d0 := fun _ => -1) hw hh hc (by decide) (fun _ _ => by decide) (fun x y b hx => absurd hx (show ¬ (0 : Int) ≤ -1 by decide)) hB
    rw [← hB] at B ⊢
    have z : pu_cnt (fun c => decide ((0 : Int) ≤ (fun _ => -1 : Nat → Int) c)) (w * h) = 0 := by
      rw [pu_cnt_sum]
      exact pu_sum_0 (fun i _ => rfl)
    rw [z, Nat.add_zero, pu_cnt_sum] at B
    rw [← B]
    refine pu_sum_cong (fun i hi => ?_)
    have q := l4 c i hL
    have s := s1 i
    by_cases hr : pu_rch g w h c i
    · exact (decide_eq_true ⟨hL, q.mpr hr⟩).trans (decide_eq_true (s.mpr (Or.inr hr))).symm
    · refine (decide_eq_false (fun z => hr (q.mp z.2))).trans (decide_eq_false (fun z => ?_)).symm
      rcases s.mp z with y | y
      · exact absurd y (show ¬ (0 : Int) ≤ -1 by decide)
      · exact hr y
  · rw [if_neg hg]
    exact pu_sum_0 (fun i _ => decide_eq_false (fun z => hg (l2 c z.1).1))
theorem pu_eqI {x y : Int} (hx1 : -1 ≤ x) (hx2 : x ≤ 401) (hy1 : -1 ≤ y) (hy2 : y ≤ 401) : Int32.ofInt x = Int32.ofInt y ↔ x = y := by
  rw [← Int32.toInt_inj, pu_int (by omega) (by omega), pu_int (by omega) (by omega)]
