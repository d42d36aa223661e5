/-! the start: what the constructors leave -/
theorem pu_WF_a0 {w h : Nat} (w1 : 0 < w) (w2 : w ≤ 20) (h1 : 0 < h) (h2 : h ≤ 20) : pu_WF (pu_a0 w h) w h 0 0 := by
  have hp := Nat.mul_pos w1 h1
  have h400 := pu_m400 w2 h2
  refine ⟨⟨pu_a0_0, pu_a0_1, w1, w2, h1, h2⟩, ⟨pu_a0_z (by decide) (by decide), by decide, fun k hk => absurd hk (Nat.not_lt_zero _)⟩, ⟨pu_a0_z (by decide) (by decide), by decide, fun k hk => absurd hk (Nat.not_lt_zero _)⟩, ⟨fun c hc => Or.inl (pu_a0_z (by omega) (by omega)), fun c hc => Or.inl (pu_a0_z (by omega) (by omega)), fun m hm => Or.inl (pu_a0_m hm), pu_is_of (x := 0) (pu_a0_z (by decide) (by decide)) (by decide) (by decide), pu_is_of (x := 0) (pu_a0_z (by decide) (by decide)) hp (by omega)⟩, pu_is_of (x := 0) (pu_a0_z (by decide) (by decide)) hp (by omega)⟩
