/-! THE LAW'S TURN, case by case -/
theorem pu_ends01 {a : Nat → Int32} {w h nb nc : Nat} {q x y v : Int32} (e : pu_oEnds a w h nb nc q x y = .inl v) : v = 0 ∨ v = 1 := by
  unfold pu_oEnds at e
  cases e0 : pu_clueOf nc q with
  | none => rw [e0] at e; cases e
  | some u =>
    rw [e0] at e
    dsimp only [] at e
    cases e1 : pu_cellOf w h x y with
    | none => rw [e1] at e; cases e
    | some c =>
      rw [e1] at e
      dsimp only [] at e
      rw [← Sum.inl.inj e]
      by_cases p : pu_Fw a w h nb u (pu_nl a u) c
      · exact Or.inr (pu_bi_t p)
      · exact Or.inl (pu_bi_f p)
