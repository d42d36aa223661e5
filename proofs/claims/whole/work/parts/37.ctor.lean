/-! the constructors' contracts -/
def tw_AK (U : State) : Prop := ((Cond.arrayClass .int).before #[] U = true ∧ (Cond.arrayClass .boolean).before #[] U = true ∧ (Cond.arrayClass .long).before #[] U = true) ∧ va_AO "TreasureWalk$Cells" U ∧ va_AO "TreasureWalk$Data" U
theorem tw_AK.warm {s U : State} (h : tw_AK s) (hW : s.WarmedH U.vm) : tw_AK U := by
  obtain ⟨⟨h1, h2, h3⟩, h4, h5⟩ := h
  exact ⟨⟨word_at hW (Or.inr ⟨_, rfl⟩) h1, word_at hW (Or.inr ⟨_, rfl⟩) h2, word_at hW (Or.inr ⟨_, rfl⟩) h3⟩, h4.moved hW.alike, h5.moved hW.alike⟩
def tw_CQ (B : Nat) (D : va_G) (F' : Nat → va_E) (mm' : Nat) : Array Value → State → Outcome → State → Prop := fun _ st oc t => (oc = .returned none ∧ va_P D vwCl (tw_wl B F' mm') t.heap) ∧ va_F (fun q => B ≤ q) st t
def tw_CPre (B : Nat) (D : va_G) (C : Nat → ClassId) (S : Nat → Nat) (argv : List Value) (F : Nat → va_E) (mm : Nat) : Array Value → State → Prop := va_Pc argv (fun U => (va_P D vwCl (tw_wl B F mm) U.heap ∧ U.heap.size = B + mm) ∧ tw_EV B D C S U ∧ tw_AK U)
theorem tw_CPre_blind {B mm : Nat} {D : va_G} {C : Nat → ClassId} {S : Nat → Nat} {argv : List Value} {F : Nat → va_E} : FrameBlind (tw_CPre B D C S argv F mm) := fun _ _ _ _ h => ⟨h.1, h.2.1, h.2.2.1.blind, h.2.2.2⟩
abbrev tw_MetC (l : Launch) (B : Nat) (D : va_G) (C : Nat → ClassId) (S : Nat → Nat) (y : MethodName) (cy : ByteArray) (mL : Nat) (rm : Room) (argv : List Value) (F : Nat → va_E) (mm : Nat) (F' : Nat → va_E) (mm' : Nat) : Prop :=
  Met l y [.code y cy mL none] rm (tw_CPre B D C S argv F mm) (tw_CQ B D F' mm') rm.cells rm.slots (fun q => B ≤ q)
theorem tw_metOfC {l : Launch} {B : Nat} {D : va_G} {C : Nat → ClassId} {S : Nat → Nat} {y : MethodName} {cy : ByteArray} {mL : Nat} {rm : Room} {argv : List Value} {F F' : Nat → va_E} {mm mm' : Nat} (hy : plainName y.cls = true) (hlen : (lg_sl argv).length ≤ mL)
    (body : ∀ z : tw_Z, tw_zl z = l → tw_zB z = B → tw_zD z = D → tw_zC z = C → tw_zS z = S → tw_zR z = rm → tw_zcells z = 0 → tw_zslots z = 0 → (tw_zs z).heap.size = B + mm → tw_AK (tw_zs z) → (tw_zmeth z).name = y.name → tw_X z cy y.cls mL → (tw_zmeth z).sig.returnType = none → (∀ (H : Heap) (locs : List Loc) (pc : Nat) (ls : Array Slot), decode cy pc = .ok (.return_, 1) → va_P D vwCl (tw_wl B F' mm') H → tw_SS z H locs → tw_W (tw_cz z rm.cells rm.slots) H locs (F0 (tw_zm z) pc ls [])) → tw_Rc z F mm 0 (lv_args 0 argv) []) : tw_MetC l B D C S y cy mL rm argv F mm F' mm' := by
  refine Met.ofW (cc := cy) (maxL := mL) (ret := none) hy rfl ?_
  intro p e s m args below meth c s₁ Bd hml hv
  obtain ⟨rfl, ⟨hP, hz⟩, hEV, hAK⟩ := hv
  rw [lg_entry_eq]
  have hl := lv_entry argv (n := mL) hlen
  have hR : (headSpec [Cond.code y cy mL none] rm).room = rm := rfl
  rw [hR]
  refine body (p, l, e, rm, s, m, argv.toArray, below, meth, c, B, D, C, S, mL, 0, 0, MQ below (tw_CQ B D F' mm') argv.toArray s rm.cells rm.slots (fun q => B ≤ q)) rfl rfl rfl rfl rfl rfl rfl rfl hz hAK ?_ ⟨Bd.exec, Bd.bytes, hml, findClass_of_methodNamed Bd.named, Bd.notSynchronized, hEV, rfl⟩ Bd.returns ?_ s.heap [] _ hP hz va_S.rf hl
  · exact (name_of_methodNamed Bd.named Bd.method).1
  · intro H locs pc ls hd hP1 hS1
    exact W.vret Bd.exec Bd.bytes Bd.returns (fun t ht hW => ⟨⟨rfl, by rw [ht]; exact hP1⟩, hS1.F ht⟩) hS1.2.2 hd Bd.notSynchronized
