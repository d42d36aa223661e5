/-! the rows of multianewarray -/
section TWMN
variable {z : tw_Z} {cc : ByteArray} {own : String} {nL pc mm : Nat} {F F' : Nat → va_E} {L : List (Nat × Value)} {st : List Value}
theorem c_mna2 {ix sz sl : Nat} {nm : String} {cA : ClassId} {f : State → State} {cf : Nat → Nat → Cell} {n k : Int32} (X : tw_X z cc own nL) (d : decode cc pc = .ok (.multianewarray ix 2, 4)) (i : Nat) (hi : lw_tbl[i]? = some (.classLink own ix nm)) (hfc : (tw_zs z).vm.findClass nm = some cA) (hsz : 0 < sz) (G : tw_Gr f sz sl cf) (hM : ∀ V : Vm, (tw_zs z).vm.Alike V → (tw_zl z).admits (tw_ze z) → tw_Mz V (tw_ze z) f cA [n, k] sz sl) (hc : tw_zcells z + sz ≤ (tw_zR z).cells) (hs : tw_zslots z + sl ≤ (tw_zR z).slots) (hnew : ∀ j, j < sz → ∃ a, F' (mm + j) = .inl a ∧ vp_cell a.1 a.2 = cf (tw_zB z + mm) j) (hold : ∀ q, q < mm → F' q = F q)
    (kk : tw_Rc (tw_cz z (tw_zcells z + sz) (tw_zslots z + sl)) F' (mm + sz) (pc + 4) L (.ref (tw_zB z + mm) :: st)) : tw_Rc z F mm pc L (.int k :: .int n :: st) := by
  intro H locs ls hP hz hS hl T hT XS
  subst hT
  have hdg : decode (tw_zc z).code pc = .ok (.multianewarray ix 2, 4) := by rw [X.2.1]; exact d
  have hpl : (tw_ze z).platform.magicAccessors = ({} : Platform).magicAccessors := by rw [XS.admits.platform]
  obtain ⟨c0, hfc0, hcl⟩ := Cond.classLink_spec X.ow (X.ws i hi rfl) (tw_ze z).platform hpl
  cases hfc.symm.trans hfc0
  obtain ⟨hg₁, hwarm₁, hready₁⟩ := State.classEntry (e := tw_ze z) XS.warmed hcl
  generalize T.vm.noted (tw_zm z).cls ix (.cls cA) = vm₁ at hg₁ hwarm₁ hready₁
  have X₁ := XS.noted hwarm₁
  obtain ⟨hr1, hr2⟩ := XS.roomAbove hc hs
  have XF := G.2 _ _ _ _ _ _ _ _ _ _ _ _ _ _ X₁
  obtain ⟨g1, g2, g3, g4, g5, g6⟩ := G.1 (T.setVm vm₁)
  have hz0 : (T.setVm vm₁).heap.size = tw_zB z + mm := hz
  have hz1 : (f (T.setVm vm₁)).heap.size = tw_zB z + (mm + sz) := by rw [g1, hz0]; omega
  have hP1 : va_P (tw_zD z) vwCl (tw_wl (tw_zB z) F' (mm + sz)) (f (T.setVm vm₁)).heap := by
    intro k q hk
    obtain ⟨h1, rfl⟩ := tw_wl_len hk
    by_cases h2 : k < mm
    · rw [hold k h2]
      exact (hP k (tw_zB z + k, F k) (tw_wl_get h2)).kept (g4 _ (by rw [hz0]; show tw_zB z + k < _; omega))
    · obtain ⟨a, e1, e2⟩ := hnew (k - mm) (by omega)
      rw [show mm + (k - mm) = k from by omega] at e1
      rw [e1]
      show (f (T.setVm vm₁)).heap[tw_zB z + k]? = some (vp_cell a.1 a.2)
      have h5 := g5 (k - mm) (by omega)
      rw [hz0, show tw_zB z + mm + (k - mm) = tw_zB z + k from by omega, ← e2] at h5
      exact h5
  have hS1 : tw_SS (tw_cz z (tw_zcells z + sz) (tw_zslots z + sl)) (f (T.setVm vm₁)).heap locs := ⟨Nat.le_trans hS.1 (by rw [hz1, hz]; omega), fun x h1 h2 => (g4 x (Nat.lt_of_lt_of_le h1 hS.1)).trans (hS.2.1 x h1 h2), hS.2.2⟩
  obtain ⟨t, a1, b1⟩ := kk _ locs ls hP1 hz1 hS1 hl _ rfl XF
  refine ⟨t, ?_, b1⟩
  jvm_step XS.here [X.1, hdg]
  simp only [multianewarray.sem, wp_bind', Jvm.W.resolveClassAt_links (State.method?_setTop (F0 (tw_zm z) pc ls (.int k :: .int n :: st)) XS.here.top) hg₁]
  rw [Jvm.W.popN, if_neg (by decide)]
  refine ⟨F0 (tw_zm z) pc ls (.int k :: .int n :: st), State.topJava?_setTop' (s := T.setVm vm₁) (F0 (tw_zm z) pc ls (.int k :: .int n :: st)) XS.here.top, [.int n, .int k], st, rfl, rfl, ?_⟩
  simp only [List.mapM_cons, List.mapM_nil, wp_bind', wp_pure']
  refine hM vm₁ hwarm₁.alike XS.admits _ _ _ _ _ rfl hr1 hr2 (fun d' acts' => ?_)
  have eS : ((T.setTop (F0 (tw_zm z) pc ls (.int k :: .int n :: st))).setVm vm₁).setTop (F0 (tw_zm z) pc ls st) = (T.setVm vm₁).setTop (F0 (tw_zm z) pc ls st) := by
    show ((T.setVm vm₁).setTop (F0 (tw_zm z) pc ls (.int k :: .int n :: st))).setTop _ = _
    rw [State.setTop_setTop]
  show wp _ _ _ _ _ _ (f (((T.setTop (F0 (tw_zm z) pc ls (.int k :: .int n :: st))).setVm vm₁).setTop (F0 (tw_zm z) pc ls st)))
  rw [eS, g6]
  simp only [wp_bind', Jvm.W.mark, Jvm.W.pushRef, State.topJava?_setTop' _ XF.here.top, Option.some.injEq, exists_eq_left', State.setTop_setTop, State.heap_setTop]
  intro acts
  simp [jvm, XF.here.top]
  rw [show T.heap.size = tw_zB z + mm from hz]
  exact a1
theorem c_mna3 {ix sz sl : Nat} {nm : String} {cA : ClassId} {f : State → State} {cf : Nat → Nat → Cell} {n k q : Int32} (X : tw_X z cc own nL) (d : decode cc pc = .ok (.multianewarray ix 3, 4)) (i : Nat) (hi : lw_tbl[i]? = some (.classLink own ix nm)) (hfc : (tw_zs z).vm.findClass nm = some cA) (hsz : 0 < sz) (G : tw_Gr f sz sl cf) (hM : ∀ V : Vm, (tw_zs z).vm.Alike V → (tw_zl z).admits (tw_ze z) → tw_Mz V (tw_ze z) f cA [n, k, q] sz sl) (hc : tw_zcells z + sz ≤ (tw_zR z).cells) (hs : tw_zslots z + sl ≤ (tw_zR z).slots) (hnew : ∀ j, j < sz → ∃ a, F' (mm + j) = .inl a ∧ vp_cell a.1 a.2 = cf (tw_zB z + mm) j) (hold : ∀ q, q < mm → F' q = F q)
    (kk : tw_Rc (tw_cz z (tw_zcells z + sz) (tw_zslots z + sl)) F' (mm + sz) (pc + 4) L (.ref (tw_zB z + mm) :: st)) : tw_Rc z F mm pc L (.int q :: .int k :: .int n :: st) := by
  intro H locs ls hP hz hS hl T hT XS
  subst hT
  have hdg : decode (tw_zc z).code pc = .ok (.multianewarray ix 3, 4) := by rw [X.2.1]; exact d
  have hpl : (tw_ze z).platform.magicAccessors = ({} : Platform).magicAccessors := by rw [XS.admits.platform]
  obtain ⟨c0, hfc0, hcl⟩ := Cond.classLink_spec X.ow (X.ws i hi rfl) (tw_ze z).platform hpl
  cases hfc.symm.trans hfc0
  obtain ⟨hg₁, hwarm₁, hready₁⟩ := State.classEntry (e := tw_ze z) XS.warmed hcl
  generalize T.vm.noted (tw_zm z).cls ix (.cls cA) = vm₁ at hg₁ hwarm₁ hready₁
  have X₁ := XS.noted hwarm₁
  obtain ⟨hr1, hr2⟩ := XS.roomAbove hc hs
  have XF := G.2 _ _ _ _ _ _ _ _ _ _ _ _ _ _ X₁
  obtain ⟨g1, g2, g3, g4, g5, g6⟩ := G.1 (T.setVm vm₁)
  have hz0 : (T.setVm vm₁).heap.size = tw_zB z + mm := hz
  have hz1 : (f (T.setVm vm₁)).heap.size = tw_zB z + (mm + sz) := by rw [g1, hz0]; omega
  have hP1 : va_P (tw_zD z) vwCl (tw_wl (tw_zB z) F' (mm + sz)) (f (T.setVm vm₁)).heap := by
    intro k q hk
    obtain ⟨h1, rfl⟩ := tw_wl_len hk
    by_cases h2 : k < mm
    · rw [hold k h2]
      exact (hP k (tw_zB z + k, F k) (tw_wl_get h2)).kept (g4 _ (by rw [hz0]; show tw_zB z + k < _; omega))
    · obtain ⟨a, e1, e2⟩ := hnew (k - mm) (by omega)
      rw [show mm + (k - mm) = k from by omega] at e1
      rw [e1]
      show (f (T.setVm vm₁)).heap[tw_zB z + k]? = some (vp_cell a.1 a.2)
      have h5 := g5 (k - mm) (by omega)
      rw [hz0, show tw_zB z + mm + (k - mm) = tw_zB z + k from by omega, ← e2] at h5
      exact h5
  have hS1 : tw_SS (tw_cz z (tw_zcells z + sz) (tw_zslots z + sl)) (f (T.setVm vm₁)).heap locs := ⟨Nat.le_trans hS.1 (by rw [hz1, hz]; omega), fun x h1 h2 => (g4 x (Nat.lt_of_lt_of_le h1 hS.1)).trans (hS.2.1 x h1 h2), hS.2.2⟩
  obtain ⟨t, a1, b1⟩ := kk _ locs ls hP1 hz1 hS1 hl _ rfl XF
  refine ⟨t, ?_, b1⟩
  jvm_step XS.here [X.1, hdg]
  simp only [multianewarray.sem, wp_bind', Jvm.W.resolveClassAt_links (State.method?_setTop (F0 (tw_zm z) pc ls (.int q :: .int k :: .int n :: st)) XS.here.top) hg₁]
  rw [Jvm.W.popN, if_neg (by decide)]
  refine ⟨F0 (tw_zm z) pc ls (.int q :: .int k :: .int n :: st), State.topJava?_setTop' (s := T.setVm vm₁) (F0 (tw_zm z) pc ls (.int q :: .int k :: .int n :: st)) XS.here.top, [.int n, .int k, .int q], st, rfl, rfl, ?_⟩
  simp only [List.mapM_cons, List.mapM_nil, wp_bind', wp_pure']
  refine hM vm₁ hwarm₁.alike XS.admits _ _ _ _ _ rfl hr1 hr2 (fun d' acts' => ?_)
  have eS : ((T.setTop (F0 (tw_zm z) pc ls (.int q :: .int k :: .int n :: st))).setVm vm₁).setTop (F0 (tw_zm z) pc ls st) = (T.setVm vm₁).setTop (F0 (tw_zm z) pc ls st) := by
    show ((T.setVm vm₁).setTop (F0 (tw_zm z) pc ls (.int q :: .int k :: .int n :: st))).setTop _ = _
    rw [State.setTop_setTop]
  show wp _ _ _ _ _ _ (f (((T.setTop (F0 (tw_zm z) pc ls (.int q :: .int k :: .int n :: st))).setVm vm₁).setTop (F0 (tw_zm z) pc ls st)))
  rw [eS, g6]
  simp only [wp_bind', Jvm.W.mark, Jvm.W.pushRef, State.topJava?_setTop' _ XF.here.top, Option.some.injEq, exists_eq_left', State.setTop_setTop, State.heap_setTop]
  intro acts
  simp [jvm, XF.here.top]
  rw [show T.heap.size = tw_zB z + mm from hz]
  exact a1
end TWMN
