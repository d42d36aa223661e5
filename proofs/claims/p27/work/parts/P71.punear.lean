/-! running through the spots as through the cells -/
def pu_at (w m s k : Nat) : Prop := k ≤ m ∧ (∀ c, c < k → pu_sp w c < s) ∧ ∀ c, k ≤ c → c < m → s ≤ pu_sp w c
theorem pu_at0 {w m : Nat} : pu_at w m 0 0 := ⟨Nat.zero_le _, fun c z => absurd z (Nat.not_lt_zero _), fun _ _ _ => Nat.zero_le _⟩
theorem pu_at_end {w h k : Nat} (hw : w ≤ 20) (hh : h ≤ 20) (H : pu_at w (w * h) 704 k) : k = w * h := by
  obtain ⟨h1, -, h3⟩ := H
  by_cases e : k = w * h
  · exact e
  · have := h3 k (Nat.le_refl _) (by omega)
    have := pu_sp_rng hw hh (show k < w * h by omega)
    omega
theorem pu_at_step {w h s k : Nat} (hw : w ≤ 20) (H : pu_at w (w * h) s k) : (k < w * h ∧ s = pu_sp w k ∧ pu_at w (w * h) (s + 1) (k + 1)) ∨ ((∀ c, c < w * h → s ≠ pu_sp w c) ∧ pu_at w (w * h) (s + 1) k) := by
  obtain ⟨h1, h2, h3⟩ := H
  by_cases hk : k < w * h
  · by_cases e : s = pu_sp w k
    · refine Or.inl ⟨hk, e, by omega, fun c hc => ?_, fun c hc hm => ?_⟩
      · by_cases e2 : c = k
        · subst e2; omega
        · have := h2 c (by omega); omega
      · have := pu_sp_mono (w := w) (h := h) hw (show k < c by omega) hm
        omega
    · have h3k := h3 k (Nat.le_refl _) hk
      have hall : ∀ c, k ≤ c → c < w * h → s < pu_sp w c := fun c hc hm => by
        by_cases e2 : c = k
        · subst e2; omega
        · have := pu_sp_mono (w := w) (h := h) hw (show k < c by omega) hm
          omega
      refine Or.inr ⟨fun c hc => ?_, h1, fun c hc => by have := h2 c hc; omega, fun c hc hm => hall c hc hm⟩
      by_cases e2 : c < k
      · have := h2 c e2; omega
      · have := hall c (by omega) hc; omega
  · refine Or.inr ⟨fun c hc => ?_, h1, fun c hc => by have := h2 c hc; omega, fun c hc hm => by omega⟩
    have := h2 c (by omega)
    omega
/-! nearest -/
def pu_nearer (D : Nat → Int) (m : Nat) : Option Nat → Bool | none => true | some b => decide (D m < D b)
def pu_near (p : Nat → Bool) (D : Nat → Int) : Nat → Option Nat
  | 0 => none
  | m + 1 => if p m = true ∧ 0 ≤ D m ∧ pu_nearer D m (pu_near p D m) = true then some m else pu_near p D m
theorem pu_near_S {p : Nat → Bool} {D : Nat → Int} {m : Nat} : pu_near p D (m + 1) = if p m = true ∧ 0 ≤ D m ∧ pu_nearer D m (pu_near p D m) = true then some m else pu_near p D m := rfl
theorem pu_near_lt {p : Nat → Bool} {D : Nat → Int} {m : Nat} : ∀ d, pu_near p D m = some d → d < m := by
  induction m with
  | zero => intro d hd; cases hd
  | succ m ih =>
    intro d hd
    rw [pu_near_S] at hd
    split at hd
    · cases hd; omega
    · have := ih d hd; omega
theorem pu_leI {x y : Int} (hx1 : -1 ≤ x) (hx2 : x ≤ 400) (hy1 : -1 ≤ y) (hy2 : y ≤ 400) : Int32.ofInt x ≤ Int32.ofInt y ↔ x ≤ y := by
  rw [Int32.le_iff_toInt_le, pu_int (by omega) (by omega), pu_int (by omega) (by omega)]
