/-! the constructors' contracts -/
def tw_AK (U : State) : Prop := ((Cond.arrayClass .int).before #[] U = true ∧ (Cond.arrayClass .boolean).before #[] U = true) ∧ va_AO "TreasureWalk$Cells" U ∧ va_AO "TreasureWalk$Data" U ∧ True
theorem tw_AK.warm {s U : State} (h : tw_AK s) (hW : s.WarmedH U.vm) : tw_AK U := by
  obtain ⟨⟨h1, h2⟩, h4, h5, h6⟩ := h
  exact ⟨⟨word_at hW (Or.inr ⟨_, rfl⟩) h1, word_at hW (Or.inr ⟨_, rfl⟩) h2⟩, h4.moved hW.alike, h5.moved hW.alike, h6⟩
def tw_CQ (B : Nat) (D : tw_G) (F' : Nat → va_E) (mm' : Nat) : Array Value → State → Outcome → State → Prop := fun _ st oc t => (oc = .returned none ∧ va_P D.1 vwCl (tw_wl B F' mm') t.heap) ∧ va_F (fun q => B ≤ q) st t
def tw_CPre (B : Nat) (D : tw_G) (C : Nat → ClassId) (S : Nat → Nat) (argv : List Value) (F : Nat → va_E) (mm : Nat) : Array Value → State → Prop := va_Pc argv (fun U => (va_P D.1 vwCl (tw_wl B F mm) U.heap ∧ U.heap.size = B + mm) ∧ tw_EV B D C S U ∧ tw_AK U)
theorem tw_CPre_blind {B mm : Nat} {D : tw_G} {C : Nat → ClassId} {S : Nat → Nat} {argv : List Value} {F : Nat → va_E} : FrameBlind (tw_CPre B D C S argv F mm) := fun _ _ _ _ h => ⟨h.1, h.2.1, h.2.2.1.blind, h.2.2.2⟩
abbrev tw_MetC (l : Launch) (B : Nat) (D : tw_G) (C : Nat → ClassId) (S : Nat → Nat) (y : MethodName) (cy : ByteArray) (mL : Nat) (rm : Room) (argv : List Value) (F : Nat → va_E) (mm : Nat) (F' : Nat → va_E) (mm' : Nat) : Prop :=
  Met l y [.code y cy mL none] rm (tw_CPre B D C S argv F mm) (tw_CQ B D F' mm') rm.cells rm.slots (fun q => B ≤ q)
theorem tw_metOfC {l : Launch} {B : Nat} {D : tw_G} {C : Nat → ClassId} {S : Nat → Nat} {y : MethodName} {cy : ByteArray} {mL : Nat} {rm : Room} {argv : List Value} {F F' : Nat → va_E} {mm mm' : Nat} (hy : plainName y.cls = true) (hlen : (lg_sl argv).length ≤ mL)
    (body : ∀ z : tw_Z, tw_zl z = l → tw_zB z = B → tw_zD z = D → tw_zC z = C → tw_zS z = S → tw_zR z = rm → tw_zcells z = 0 → tw_zslots z = 0 → (tw_zs z).heap.size = B + mm → tw_AK (tw_zs z) → (tw_zmeth z).name = y.name → tw_X z cy y.cls mL → (tw_zmeth z).sig.returnType = none → (∀ (H : Heap) (locs : List Loc) (pc : Nat) (ls : Array Slot), decode cy pc = .ok (.return_, 1) → va_P D.1 vwCl (tw_wl B F' mm') H → tw_SS z H locs → tw_W (tw_cz z rm.cells rm.slots) H locs (F0 (tw_zm z) pc ls [])) → tw_Rc z F mm 0 (lv_args 0 argv) []) : tw_MetC l B D C S y cy mL rm argv F mm F' mm' := by
  refine Met.ofW (cc := cy) (maxL := mL) (ret := none) hy rfl ?_
  intro p e s m args below meth c s₁ Bd hml hv
  obtain ⟨rfl, ⟨hP, hz⟩, hEV, hAK⟩ := hv
  rw [lg_entry_eq]
  have hl := lv_entry argv (n := mL) hlen
  have hR : (headSpec [Cond.code y cy mL none] rm).room = rm := rfl
  rw [hR]
  refine body (p, l, e, rm, s, m, argv.toArray, below, meth, c, B, D, C, S, mL, 0, 0, MQ below (tw_CQ B D F' mm') argv.toArray s rm.cells rm.slots (fun q => B ≤ q)) rfl rfl rfl rfl rfl rfl rfl rfl hz hAK ?_ ⟨Bd.exec, Bd.bytes, hml, findClass_of_methodNamed Bd.named, Bd.notSynchronized, hEV, rfl⟩ Bd.returns ?_ s.heap [] _ hP hz va_S.rf hl
  · exact (name_of_methodNamed Bd.named Bd.method).1
  · intro H locs pc ls hd hP1 hS1
    exact W.vret Bd.exec Bd.bytes Bd.returns (fun t ht hW => ⟨⟨rfl, by rw [ht]; exact hP1⟩, hS1.F ht⟩) hS1.2.2 hd Bd.notSynchronized
section TWI
variable {z : tw_Z} {cc : ByteArray} {own : String} {nL pc mm mm' : Nat} {F F' : Nat → va_E} {L : List (Nat × Value)} {st st0 : List Value}
theorem c_init {ix mL n b : Nat} {y : MethodName} {cy : ByteArray} {rm : Room} {As : List Value} (X : tw_X z cc own nL) (hAK : tw_AK (tw_zs z)) (hsz : (tw_zs z).heap.size + tw_zcells z = tw_zB z + mm) (d : decode cc pc = .ok (.invokespecial ix, 3)) (hM : tw_MetC (tw_zl z) (tw_zB z) (tw_zD z) (tw_zC z) (tw_zS z) y cy mL rm (.ref b :: As) F mm F' mm') (hy : tw_My y cy mL none n) (hv : Cond.instanceMethod y ∈ lw_tbl) (hnm : y.name = "<init>") (i : Nat) (hi : lw_tbl[i]? = some (.methodLink own ix y)) (hn : As.length = n) (hR : tw_Rm (tw_zR z) rm mL rm.cells rm.slots) (hcs : tw_zcells z + rm.cells ≤ (tw_zR z).cells ∧ tw_zslots z + rm.slots ≤ (tw_zR z).slots) (hst : (st.map fun v => v.category).sum ≤ 8) (hs0 : st0 = As.reverse ++ .ref b :: st) (hm : 0 < mm') (hmm : mm' = mm + rm.cells)
    (kk : tw_Rc (tw_cz z (tw_zcells z + rm.cells) (tw_zslots z + rm.slots)) F' mm' (pc + 3) L st) : tw_Rc z F mm pc L st0 := by
  subst hs0
  intro H locs ls hP hz hS hl T hT XT
  have hp : PreS (tw_zs z) H (tw_CPre (tw_zB z) (tw_zD z) (tw_zC z) (tw_zS z) (.ref b :: As) F mm) (.ref b :: As) := ⟨tw_CPre_blind, fun U hU hW => ⟨rfl, ⟨by rw [hU]; exact hP, by rw [hU]; exact hz⟩, X.2.2.2.2.2.1.call hS hU hW, hAK.warm hW⟩⟩
  obtain ⟨v, st₀, t, T', Lc, h0, X', hL, e1, e2, ⟨⟨hv1, hp1⟩, hz1, hk⟩, st1⟩ := va_runI (As := As) (rest := st) (tw_fix X) hM ⟨tw_CB X hy i hi hR, hnm, tw_wd X hv rfl⟩ hp (g := F0 (tw_zm z) pc ls (As.reverse ++ .ref b :: st)) rfl hn (hl.1.trans X.2.2.2.2.2.2) rfl (lv_room hst) d hcs T hT XT
  cases hv1
  rw [h0] at hz1 hk
  have hS' : tw_SS (tw_cz z (tw_zcells z + rm.cells) (tw_zslots z + rm.slots)) T'.heap (locs ++ Lc) := ⟨Nat.le_trans hS.1 (by rw [e1]; exact hz1), fun q h1 h2 => by rw [e1, hk q (Nat.lt_of_lt_of_le h1 hS.1) h2]; exact hS.2.1 q h1 h2, fun q hq => by
      rcases List.mem_append.mp hq with h | h
      · exact hS.2.2 q h
      · exact hL q h⟩
  have hP' : va_P (tw_zD z).1 vwCl (tw_wl (tw_zB z) F' mm') T'.heap := by rw [e1]; exact hp1
  obtain ⟨t2, a1, b1⟩ := tw_size (z := tw_cz z (tw_zcells z + rm.cells) (tw_zslots z + rm.slots)) (locs := locs ++ Lc) hm (show (tw_zs z).heap.size + (tw_zcells z + rm.cells) = tw_zB z + mm' by omega) hP' (fun h => kk T'.heap (locs ++ Lc) ls hP' h hS' hl) T' rfl X'
  exact ⟨t2, st1 t2 a1, b1⟩
end TWI
