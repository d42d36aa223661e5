/-! the reference: a clue, a statement -/
section RCL
variable {σ σ0 : tw_Sg} {B : Nat → Nat} {L p n w h q : Nat} {E : Option (Int32 × Nat)} {A A' : Nat → Int32}
/-- how much is left to read -/
def pu_mz (B : Nat → Nat) (L : Nat) (t : tw_Sg) : Nat := if t 442 5 = 0 then 1 + (L - pu_sk B L (t 442 4).toNatClampNeg) else 0
theorem pu_mz0 (H : pu_SR B L σ0 A none p σ) : pu_mz B L σ = 1 + (L - p) ∧ p ≤ L ∧ L ≤ 600 := by
  obtain ⟨⟨a1, a2, a3⟩, -⟩ := H
  obtain ⟨b1, p', b2, b3, b4⟩ := a3 rfl
  have hL := a1.2.1
  refine ⟨?_, b1, hL⟩
  unfold pu_mz
  rw [if_pos a2.1, b3, pu_n (by omega), b4]
theorem pu_mz1 {e : Int32 × Nat} (H : pu_SR B L σ0 A (some e) p σ) : pu_mz B L σ = 0 := if_neg (fun z => H.1.2.1.2.1 (H.1.2.1.1.symm.trans z))
theorem pu_SR_L (H : pu_SR B L σ0 A E p σ) : L ≤ 600 := H.1.1.2.1
theorem pu_mz_lt {t : tw_Sg} {E' : Option (Int32 × Nat)} {p' : Nat} (H : pu_SR B L σ0 A none p σ) (H' : pu_SR B L σ0 A' E' p' t) (hp : E' = none → p < p') : pu_mz B L t < pu_mz B L σ := by
  obtain ⟨h1, h2, -⟩ := pu_mz0 H
  cases E' with
  | none =>
    obtain ⟨h3, h4, -⟩ := pu_mz0 H'
    have := hp rfl
    omega
  | some e =>
    rw [pu_mz1 H']
    omega
end RCL
