/-! regions and candidates: the reference -/
/-- the reference's row is a, and what it has laid is right -/
def pu_RL (σ : tw_Sg) (a : Nat → Int32) (w h nb nc : Nat) : Prop := σ 444 = a ∧ (σ 442 22 = 0 ∨ (σ 442 22 = 1 ∧ pu_ends σ a w h nb nc))
/-- what laying may change -/
def pu_RS (σ σ' : tw_Sg) : Prop := (∀ i, i ≠ 22 → σ' 442 i = σ 442 i) ∧ pu_fr pu_F11 σ σ'
theorem pu_RS_refl {σ : tw_Sg} : pu_RS σ σ := ⟨fun _ _ => rfl, pu_fr_refl⟩
theorem pu_RS_trans {σ σ' σ'' : tw_Sg} (h : pu_RS σ σ') (h' : pu_RS σ' σ'') : pu_RS σ σ'' := ⟨fun i hi => (h'.1 i hi).trans (h.1 i hi), pu_fr_trans h.2 h'.2⟩
theorem pu_eRn {o : Option Nat} (h : ∀ q, o = some q → q < 1000) : pu_eR o = (-1 : Int32) ↔ o = none := by
  cases o with
  | none => exact ⟨fun _ => rfl, fun _ => rfl⟩
  | some q =>
    have := h q rfl
    refine ⟨fun z => ?_, fun z => absurd z (by simp)⟩
    have z : Int32.ofNat q = (-1 : Int32) := z
    exact absurd z (pu_nm1 (by omega))
def pu_b1 (b : Bool) : Int32 := if b then 1 else 0
theorem pu_b1_0 {b : Bool} : pu_b1 b = 0 ↔ b = false := by cases b <;> decide
theorem pu_b1_01 {b : Bool} : tw_01 (pu_b1 b) = true := by cases b <;> rfl
/-- how many below m -/
def pu_sum (p : Nat → Bool) : Nat → Nat
  | 0 => 0
  | m + 1 => pu_sum p m + (if p m then 1 else 0)
theorem pu_sum_S {p : Nat → Bool} {m : Nat} : pu_sum p (m + 1) = pu_sum p m + (if p m then 1 else 0) := rfl
theorem pu_sum_le {p : Nat → Bool} : ∀ m, pu_sum p m ≤ m
  | 0 => Nat.le_refl _
  | m + 1 => by
    rw [pu_sum_S]
    have := pu_sum_le (p := p) m
    split <;> omega
noncomputable def pu_cset (a : Nat → Int32) (w h nb nc x : Nat) : Nat → Bool := if x = 0 then pu_cand a w h nb nc else if x = 1 then pu_left a w h nb nc else pu_dug a
