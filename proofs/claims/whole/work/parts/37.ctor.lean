/-! the constructors' contracts -/
def tw_AK (U : State) : Prop := ((Cond.arrayClass .int).before #[] U = true ∧ (Cond.arrayClass .boolean).before #[] U = true ∧ (Cond.arrayClass .long).before #[] U = true) ∧ va_AO "TreasureWalk$Cells" U ∧ va_AO "TreasureWalk$Data" U
theorem tw_AK.warm {s U : State} (h : tw_AK s) (hW : s.WarmedH U.vm) : tw_AK U := by
  obtain ⟨⟨h1, h2, h3⟩, h4, h5⟩ := h
  exact ⟨⟨word_at hW (Or.inr ⟨_, rfl⟩) h1, word_at hW (Or.inr ⟨_, rfl⟩) h2, word_at hW (Or.inr ⟨_, rfl⟩) h3⟩, h4.moved hW.alike, h5.moved hW.alike⟩
def tw_CQ (B : Nat) (D : va_G) (F' : Nat → va_E) (mm' : Nat) : Array Value → State → Outcome → State → Prop := fun _ st oc t => (oc = .returned none ∧ va_P D vwCl (tw_wl B F' mm') t.heap) ∧ va_F (fun q => B ≤ q) st t
def tw_CPre (B : Nat) (D : va_G) (C : Nat → ClassId) (S : Nat → Nat) (argv : List Value) (F : Nat → va_E) (mm : Nat) : Array Value → State → Prop := va_Pc argv (fun U => (va_P D vwCl (tw_wl B F mm) U.heap ∧ U.heap.size = B + mm) ∧ tw_EV B D C S U ∧ tw_AK U)
theorem tw_CPre_blind {B mm : Nat} {D : va_G} {C : Nat → ClassId} {S : Nat → Nat} {argv : List Value} {F : Nat → va_E} : FrameBlind (tw_CPre B D C S argv F mm) := fun _ _ _ _ h => ⟨h.1, h.2.1, h.2.2.1.blind, h.2.2.2⟩
