/-! the reference: a clue, a statement, load -/
section RLD
variable {σ σ0 : tw_Sg} {B : Nat → Nat} {L p n w h q : Nat} {E : Option (Int32 × Nat)} {A A' : Nat → Int32}
theorem pu_nb1_m1 (hB : ∀ i, i < L → B i < 256) : pu_nb1 B L p = (-1 : Int32) ↔ ¬ p < L := by
  unfold pu_nb1
  by_cases c : p < L
  · have := hB p c
    rw [if_pos c]
    exact ⟨fun z => absurd z (pu_nm1 (by omega)), fun z => absurd c z⟩
  · rw [if_neg c]
    exact ⟨fun _ => c, fun _ => rfl⟩
theorem pu_max1 {k : Nat} (h1 : 1 ≤ k) (h2 : k ≤ 20) : (if (1 : Int32) ≤ Int32.ofNat k then Int32.ofNat k else 1) = Int32.ofNat k := if_pos ((pu_le (a := 1) (by decide) (by omega)).mpr h1)
theorem pu_toIs {a : Nat} (h : a < 100) : (Int32.ofNat a).toInt = ((a : Nat) : Int) := pu_toInt (by omega)
end RLD
