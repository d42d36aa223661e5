/-! a search's end is closed -/
theorem pu_vis_q {g : Nat → Bool} {w h c b : Nat} {st : pu_St} : st.2.2 ≤ (pu_vis g w h st c b).2.2 ∧ ∀ j, j < st.2.2 → (pu_vis g w h st c b).2.1 j = st.2.1 j := by
  unfold pu_vis
  cases pu_nbr g w h c b with
  | none => exact ⟨Nat.le_refl _, fun _ _ => rfl⟩
  | some c' =>
    dsimp only []
    by_cases hn : st.1 c' < 0
    · rw [if_pos hn]
      exact ⟨Nat.le_succ _, fun j hj => va_up_ne _ _ (by omega)⟩
    · rw [if_neg hn]
      exact ⟨Nat.le_refl _, fun _ _ => rfl⟩
theorem pu_visN_q {g : Nat → Bool} {w h c : Nat} {st : pu_St} : ∀ b, st.2.2 ≤ (pu_visN g w h st c b).2.2 ∧ ∀ j, j < st.2.2 → (pu_visN g w h st c b).2.1 j = st.2.1 j
  | 0 => ⟨Nat.le_refl _, fun _ _ => rfl⟩
  | b + 1 => by
    obtain ⟨h1, h2⟩ := pu_visN_q (g := g) (w := w) (h := h) (c := c) (st := st) b
    obtain ⟨h3, h4⟩ := pu_vis_q (g := g) (w := w) (h := h) (c := c) (b := b) (st := pu_visN g w h st c b)
    exact ⟨Nat.le_trans h1 h3, fun j hj => (h4 j (by omega)).trans (h2 j hj)⟩
theorem pu_bf_S {g : Nat → Bool} {w h i : Nat} {st : pu_St} : pu_bf g w h st (i + 1) = if i < (pu_bf g w h st i).2.2 then pu_visN g w h (pu_bf g w h st i) ((pu_bf g w h st i).2.1 i) 8 else pu_bf g w h st i := rfl
theorem pu_bf_q {g : Nat → Bool} {w h i : Nat} {st : pu_St} : (pu_bf g w h st i).2.2 ≤ (pu_bf g w h st (i + 1)).2.2 ∧ ∀ j, j < (pu_bf g w h st i).2.2 → (pu_bf g w h st (i + 1)).2.1 j = (pu_bf g w h st i).2.1 j := by
  rw [pu_bf_S]
  split
  · exact pu_visN_q 8
  · exact ⟨Nat.le_refl _, fun _ _ => rfl⟩
/-- the neighbours of the cells that were looked at have been seen -/
theorem pu_bf_all {g : Nat → Bool} {w h c0 : Nat} {st : pu_St} (hw : w ≤ 20) (hh : h ≤ 20) (H : pu_BI (w * h) c0 st) : ∀ i j, j < i → j < (pu_bf g w h st i).2.2 → ∀ b, b < 8 → ∀ c', pu_nbr g w h ((pu_bf g w h st i).2.1 j) b = some c' → 0 ≤ (pu_bf g w h st i).1 c'
  | 0, _, hj => absurd hj (Nat.not_lt_zero _)
  | i + 1, j, hj => fun hl b hb c' hn => by
    have B := pu_bf_BI (g := g) hw hh H i
    obtain ⟨q1, q2⟩ := pu_bf_q (g := g) (w := w) (h := h) (i := i) (st := st)
    by_cases hi : i < (pu_bf g w h st i).2.2
    · obtain ⟨a1, a2, a3⟩ := B.2.1 i hi
      have e : pu_bf g w h st (i + 1) = pu_visN g w h (pu_bf g w h st i) ((pu_bf g w h st i).2.1 i) 8 := by rw [pu_bf_S]; exact if_pos hi
      rw [q2 j (by omega)] at hn
      rw [e]
      by_cases ej : j = i
      · subst ej
        exact pu_visN_all a2 8 b hb c' hn
      · exact pu_visN_up a2 8 c' (pu_bf_all hw hh H i j (by omega) (by omega) b hb c' hn)
    · have e : pu_bf g w h st (i + 1) = pu_bf g w h st i := by rw [pu_bf_S]; exact if_neg hi
      rw [e] at hl hn ⊢
      exact pu_bf_all hw hh H i j (by omega) hl b hb c' hn
theorem pu_bf_rch {g : Nat → Bool} {w h c0 s : Nat} {st : pu_St} {d0 : Nat → Int} (hw : w ≤ 20) (hh : h ≤ 20) (H : pu_BI (w * h) c0 st) (hq : ∀ j, j < st.2.2 → pu_rch g w h s (st.2.1 j)) (hv : ∀ x, 0 ≤ st.1 x → 0 ≤ d0 x ∨ pu_rch g w h s x) (hnew : ∀ j, j < st.2.2 → ¬ 0 ≤ d0 (st.2.1 j)) : ∀ i, ∀ x, 0 ≤ (pu_bf g w h st i).1 x → (∀ j, j < (pu_bf g w h st i).2.2 → pu_rch g w h s ((pu_bf g w h st i).2.1 j)) → 0 ≤ d0 x ∨ pu_rch g w h s x
  | 0, x, hx, _ => hv x hx
  | i + 1, x, hx, hQ => by
    obtain ⟨q1, q2⟩ := pu_bf_q (g := g) (w := w) (h := h) (i := i) (st := st)
    have hQ' : ∀ j, j < (pu_bf g w h st i).2.2 → pu_rch g w h s ((pu_bf g w h st i).2.1 j) := fun j hj => by
      have := hQ j (by omega)
      rw [q2 j hj] at this
      exact this
    by_cases hi : i < (pu_bf g w h st i).2.2
    · have e : pu_bf g w h st (i + 1) = pu_visN g w h (pu_bf g w h st i) ((pu_bf g w h st i).2.1 i) 8 := by rw [pu_bf_S]; exact if_pos hi
      rw [e] at hx
      exact pu_visN_rch (hQ' i hi) (fun y hy => pu_bf_rch hw hh H hq hv hnew i y hy hQ') 8 (Nat.le_refl _) x hx
    · have e : pu_bf g w h st (i + 1) = pu_bf g w h st i := by rw [pu_bf_S]; exact if_neg hi
      rw [e] at hx
      exact pu_bf_rch hw hh H hq hv hnew i x hx hQ'
