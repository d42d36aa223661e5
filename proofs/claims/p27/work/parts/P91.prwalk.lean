/-! walks of the reference -/
theorem pu_el_len1 {a : Nat → Int32} {w h nb q l c : Nat} (hk : pu_kind a q l ≠ 0) : ∀ i, (pu_el a w h nb q l c i).length ≤ 1
  | 0 => Nat.zero_le _
  | i + 1 => by
    have ih := pu_el_len1 (a := a) (w := w) (h := h) (nb := nb) (q := q) (l := l) (c := c) hk i
    rw [pu_el_S]
    cases pu_pt a w h nb (pu_bear a q l) c i with
    | none => exact ih
    | some d =>
      dsimp only []
      by_cases hc : pu_ce a w h nb q l d i = true ∧ i ≤ pu_most a q l ∧ (pu_kind a q l = 0 ∨ pu_el a w h nb q l c i = [])
      · rw [if_pos hc]
        rcases hc.2.2 with z | z
        · exact absurd z hk
        · rw [z]; exact Nat.le_refl 1
      · rw [if_neg hc]; exact ih
theorem pu_L_len {a : Nat → Int32} {w h nb q l c : Nat} (hwl : pu_wfl a w h q l) : (pu_L a w h nb q l c).length ≤ 36 := by
  unfold pu_L
  by_cases hk : pu_kind a q l = 0
  · have := pu_el_len (a := a) (w := w) (h := h) (nb := nb) (q := q) (l := l) (c := c) (pu_most a q l + 1)
    have e : pu_most a q l = pu_many a q l + pu_give a q l := by unfold pu_most; rw [if_pos hk]
    obtain ⟨⟨-, m2⟩, ⟨-, m4⟩⟩ := hwl.2.2.1 hk
    have m2 : pu_many a q l < 31 := m2
    have m4 : pu_give a q l < 6 := m4
    omega
  · have := pu_el_len1 (a := a) (w := w) (h := h) (nb := nb) (c := c) hk (pu_most a q l + 1)
    omega
def pu_F16 (k : Nat) : Prop := k = 455 ∨ k = 456 ∨ (499 ≤ k ∧ k < 508)
theorem pu_nar_bi {P : Prop} : vp_nar .boolean (pu_bi P) = pu_bi P := by
  by_cases p : P
  · rw [pu_bi_t p]; exact pu_nar1
  · rw [pu_bi_f p]; exact pu_nar0
theorem pu_F16_T (k : Nat) (h : pu_F16 k) : k = 455 ∨ k = 456 ∨ (498 ≤ k ∧ k < 1036) := by unfold pu_F16 at h; omega
theorem pu_F9_T (k : Nat) (h : pu_F9 k) : k = 455 ∨ k = 456 ∨ (498 ≤ k ∧ k < 1036) := by unfold pu_F9 at h; omega
