/-! one label, one part -/
theorem pu_clo_rch {g : Nat → Bool} {w h x y : Nat} {d : Nat → Int} (hc : pu_clo g w h d) (hx : 0 ≤ d x) (hr : pu_rch g w h x y) : 0 ≤ d y := hr (fun z => 0 ≤ d z) hx (fun c c' b h1 h2 h3 => hc c c' b h1 h2 h3)
theorem pu_labs_rch {g : Nat → Bool} {w h : Nat} (hw : w ≤ 20) (hh : h ≤ 20) : ∀ m, m ≤ w * h → pu_clo g w h (pu_parts g w h m).1 ∧ (∀ x, 0 ≤ pu_labs g w h m x → g x = true ∧ x < w * h) ∧ (∀ x, pu_labs g w h m x < (pu_parts g w h m).2) ∧ ∀ x y, 0 ≤ pu_labs g w h m x → (pu_labs g w h m y = pu_labs g w h m x ↔ pu_rch g w h x y)
  | 0, _ => by
    rw [pu_labs_0, pu_parts_0]
    refine ⟨fun c c' b hc => ?_, fun x hx => ?_, fun x => (by decide : (-1 : Int) < ((0 : Nat) : Int)), fun x y hx => ?_⟩
    · exact absurd hc (show ¬ (0 : Int) ≤ -1 by decide)
    · exact absurd hx (show ¬ (0 : Int) ≤ -1 by decide)
    · exact absurd hx (show ¬ (0 : Int) ≤ -1 by decide)
  | m + 1, hm => by
    obtain ⟨i1, i2, i3, i4⟩ := pu_labs_rch (g := g) hw hh m (by omega)
    obtain ⟨R1, R2⟩ := pu_parts_rng (g := g) hw hh m (by omega)
    have hneg := pu_labs_neg (g := g) hw hh m (by omega)
    rw [pu_labs_S]
    by_cases hc : g m = true ∧ (pu_parts g w h m).1 m < 0
    · rw [if_pos hc]
      obtain ⟨B, hB⟩ : ∃ B, B = pu_bf g w h (pu_st0 (pu_parts g w h m).1 m) 400 := ⟨_, rfl⟩
      have e : pu_parts g w h (m + 1) = (B.1, (pu_parts g w h m).2 + 1) := by rw [hB, pu_parts_S]; exact if_pos hc
      obtain ⟨s1, s2⟩ := pu_bf_seen (g := g) hw hh (by omega) hc.2 R1 i1 hB
      rw [e]
      dsimp only []
      generalize pu_parts g w h m = S at *
      generalize pu_labs g w h m = L at *
      clear hB e
      have hold : ∀ x, ¬ (L x < 0 ∧ 0 ≤ B.1 x) → pu_lab L B.1 S.2 x = L x := fun x z => if_neg z
      have hnew : ∀ x, (L x < 0 ∧ 0 ≤ B.1 x) → pu_lab L B.1 S.2 x = S.2 := fun x z => if_pos z
      have hnr : ∀ x, (L x < 0 ∧ 0 ≤ B.1 x) → pu_rch g w h m x := fun x z => by
        rcases (s1 x).mp z.2 with y | y
        · have := (hneg x).mp z.1; omega
        · exact y
      refine ⟨s2, fun x hx => ?_, fun x => ?_, fun x y hx => ?_⟩
      · by_cases z : L x < 0 ∧ 0 ≤ B.1 x
        · obtain ⟨q1, q2, -⟩ := pu_rch_sym hw hh (by omega) hc.1 (hnr x z)
          exact ⟨q1, q2⟩
        · rw [hold x z] at hx
          exact i2 x hx
      · have := i3 x
        by_cases z : L x < 0 ∧ 0 ≤ B.1 x
        · rw [hnew x z]; omega
        · rw [hold x z]; omega
      · by_cases zx : L x < 0 ∧ 0 ≤ B.1 x
        · rw [hnew x zx]
          obtain ⟨gx, lx, rx⟩ := pu_rch_sym hw hh (show m < w * h by omega) hc.1 (hnr x zx)
          by_cases zy : L y < 0 ∧ 0 ≤ B.1 y
          · rw [hnew y zy]
            exact ⟨fun _ => pu_rch_trans rx (hnr y zy), fun _ => rfl⟩
          · rw [hold y zy]
            refine ⟨fun q => ?_, fun q => ?_⟩
            · have := i3 y; omega
            · exfalso
              have hy : 0 ≤ B.1 y := (s1 y).mpr (Or.inr (pu_rch_trans (hnr x zx) q))
              have hLy : ¬ L y < 0 := fun z => zy ⟨z, hy⟩
              have hdy : 0 ≤ S.1 y := by have := hneg y; omega
              have hdx := pu_clo_rch i1 hdy (pu_rch_sym hw hh lx gx q).2.2
              have := (hneg x).mp zx.1
              omega
        · rw [hold x zx] at hx ⊢
          by_cases zy : L y < 0 ∧ 0 ≤ B.1 y
          · rw [hnew y zy]
            refine ⟨fun q => ?_, fun q => ?_⟩
            · have := i3 x; omega
            · exfalso
              have hdx : 0 ≤ S.1 x := by have := hneg x; omega
              have hdy := pu_clo_rch i1 hdx q
              have := (hneg y).mp zy.1
              omega
          · rw [hold y zy]
            exact i4 x y hx
    · rw [if_neg hc]
      have e : pu_parts g w h (m + 1) = pu_parts g w h m := by rw [pu_parts_S]; exact if_neg hc
      rw [e]
      exact ⟨i1, i2, i3, i4⟩
