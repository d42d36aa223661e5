/-! contracts that tell how many cells they made -/
def dw_QcX {ρ : Type} (b : Nat) (D : tw_G) (C : Nat → ClassId) (cnt : ρ → Nat) (val : ρ → Option Value) (st' : ρ → dw_S) (Q : ρ → Prop) : Array Value → State → Outcome → State → Prop := fun _ st oc t => (∃ r, Q r ∧ oc = .returned (val r) ∧ dw_W b D C (st' r) t.heap ∧ t.heap.size ≤ st.heap.size + cnt r) ∧ va_F (fun q => b ≤ q) st t
abbrev dw_MetX {ρ : Type} (l : Launch) (b : Nat) (D : tw_G) (C : Nat → ClassId) (S : Nat → Nat) (y : MethodName) (cy : ByteArray) (mL : Nat) (ret : Option FieldType) (rm : Room) (argv : List Value) (Y : dw_S) (cnt : ρ → Nat) (val : ρ → Option Value) (st' : ρ → dw_S) (Q : ρ → Prop) : Prop :=
  Met l y [.code y cy mL ret] rm (dw_Pre b D C S argv Y) (dw_QcX b D C cnt val st' Q) rm.cells rm.slots (fun q => b ≤ q)
def dw_RoX {ρ : Type} (z : tw_Z) (b : Nat) (cnt : ρ → Nat) (val : ρ → Option Value) (st' : ρ → dw_S) (Q : ρ → Prop) : Prop := ∀ (c s : Nat), c ≤ (tw_zR z).cells → s ≤ (tw_zR z).slots → ∀ (H : Heap) (locs : List Loc) (g : JFrame), W (tw_zp z) (tw_zl z) (tw_ze z) (tw_zR z) (tw_zs z) (tw_zm z) (tw_zargs z) (tw_zbelow z) (tw_zmeth z) (tw_zc z) H locs c s (MQ (tw_zbelow z) (dw_QcX b (tw_zD z) (tw_zC z) cnt val st' Q) (tw_zargs z) (tw_zs z) c s (fun q => b ≤ q)) g → tw_W (tw_cz z c s) H locs g
theorem dw_metOfX {ρ : Type} {l : Launch} {b : Nat} {D : tw_G} {C : Nat → ClassId} {S : Nat → Nat} {y : MethodName} {cy : ByteArray} {mL : Nat} {ret : Option FieldType} {rm : Room} {argv : List Value} {Y : dw_S} (E : Prop) (hE : E) (cnt : ρ → Nat) (val : ρ → Option Value) (st' : ρ → dw_S) (Q : ρ → Prop) (hy : plainName y.cls = true) (hlen : (lg_sl argv).length ≤ mL)
    (body : ∀ z : tw_Z, tw_zl z = l → tw_zB z = b → tw_zD z = D → tw_zC z = C → tw_zS z = S → tw_zR z = rm → tw_X z cy y.cls mL → dw_AK b S (tw_zs z) → (tw_zmeth z).name = y.name → (tw_zmeth z).sig.returnType = ret → dw_RoX z b cnt val st' Q → dw_Rf (tw_cz z 0 0) b E Y 0 (lv_args 0 argv) []) : dw_MetX l b D C S y cy mL ret rm argv Y cnt val st' Q := by
  refine Met.ofW (cc := cy) (maxL := mL) (ret := ret) hy rfl ?_
  intro p e s m args below meth c s₁ Bd hml hv
  obtain ⟨rfl, hP, hEV, hAK⟩ := hv
  rw [lg_entry_eq]
  have hl := lv_entry argv (n := mL) hlen
  have hR : (headSpec [Cond.code y cy mL ret] rm).room = rm := rfl
  rw [hR]
  refine body (p, l, e, rm, s, m, argv.toArray, below, meth, c, b, D, C, S, mL, 0, 0, MQ below (dw_QcX b D C cnt val st' Q) argv.toArray s rm.cells rm.slots (fun q => b ≤ q)) rfl rfl rfl rfl rfl rfl ⟨Bd.exec, Bd.bytes, hml, findClass_of_methodNamed Bd.named, Bd.notSynchronized, hEV, rfl⟩ hAK ?_ Bd.returns ?_ hE s.heap [] _ hP va_S.rf hl
  · exact (name_of_methodNamed Bd.named Bd.method).1
  · intro c' s' hc hs H locs g h T hT X
    obtain ⟨t, a1, oc, b1, b2, b3, L, hF, hL⟩ := h T hT X
    exact ⟨t, a1, oc, b1, b2, b3, L, ⟨hF.1, hF.2.1, hF.2.2.mono hc hs⟩, hL⟩
section DWX
variable {z : tw_Z} {b : Nat} {cc : ByteArray} {own : String} {nL pc : Nat} {Y : dw_S} {L : List (Nat × Value)} {st st0 : List Value}
theorem e_vretX {ρ : Type} {cnt : ρ → Nat} {val : ρ → Option Value} {st' : ρ → dw_S} {Q : ρ → Prop} {r : ρ} {c s MC MS : Nat} (X : tw_X z cc own nL) (eB : tw_zB z = b) (d : decode cc pc = .ok (.return_, 1)) (hret : (tw_zmeth z).sig.returnType = none) (hRM : (tw_zR z).cells = MC ∧ (tw_zR z).slots = MS) (hQ : dw_RoX z b cnt val st' Q) (hv : val r = none) (hs : st' r = Y) (hc : cnt r = c) : dw_Rf (tw_cz z c s) b (pw_ck (c ≤ MC ∧ s ≤ MS) (Q r)) Y pc L [] := e_ck (fun hcc hE H locs ls hP hS hl => by
  obtain ⟨rfl, rfl⟩ := hRM
  intro T hT XT
  have hsz : H.size ≤ (tw_zs z).heap.size + c := by rw [← hT]; exact XT.heapSize
  exact hQ c s hcc.1 hcc.2 H locs _ (W.vret X.1 X.2.1 hret (fun t ht hW => ⟨⟨r, hE, by rw [hv], by rw [hs, ht]; exact hP, by rw [ht, hc]; exact hsz⟩, dw_F eB hS ht⟩) (fun q hq => by rw [← eB]; exact hS.2.2 q hq) d X.2.2.2.2.1) T hT XT)
theorem e_callVX {ix ci k mL n N : Nat} {y : MethodName} {cy : ByteArray} {ret : Option FieldType} {rm : Room} {Cn : String} {T : u_T} {fs : List Value} {As : List Value} {ρ1 : Type} {cnt : ρ1 → Nat} {val1 : ρ1 → Option Value} {st1 : ρ1 → dw_S} {P : (ρ1 → Prop) → Prop} {K : ρ1 → Prop} (X : tw_X z cc own nL) (hA : dw_AK (tw_zB z) (tw_zS z) (tw_zs z)) (hb : tw_zB z ≤ b) (hD : (tw_zD z).2 = []) {c s MC MS : Nat} (hR0 : tw_zcells z = c ∧ tw_zslots z = s) (hRM : (tw_zR z).cells = MC ∧ (tw_zR z).slots = MS) (d : decode cc pc = .ok (.invokevirtual ix, 3)) (hM : ∀ Q, P Q → dw_MetX (tw_zl z) b (tw_zD z) (tw_zC z) (tw_zS z) y cy mL ret rm (.ref (b + k) :: As) Y cnt val1 st1 Q) (hy : tw_My y cy mL ret n) (hv : dw_Mv y Cn) (i : Nat) (hi : lw_tbl[i]? = some (.methodLink own ix y)) (hci : ci ≠ 99) (hc : vwCl[ci]? = some (Cn, T, N)) (hE0 : dw_k Y k = ci → dw_E b (tw_zC z) Y k = .inr (ci, fs)) (hn : As.length = n) (hR : rm.frames + 1 ≤ (tw_zR z).frames ∧ 8 + (mL + 11) + rm.locals ≤ (tw_zR z).locals) (hst : (st.map fun v => v.category).sum ≤ 8) (hs0 : st0 = As.reverse ++ .ref (b + k) :: st) (kk : ∀ r, dw_Rf (tw_cz z (c + cnt r) (s + rm.slots)) b (K r) (st1 r) (pc + 3) L ((val1 r).toList ++ st)) : dw_Rf z b (pw_ck (dw_is Y k ci ∧ c + rm.cells ≤ MC ∧ s + rm.slots ≤ MS) (P K)) Y pc L st0 := e_ck (fun hk hE => by
  subst hs0
  obtain ⟨rfl, rfl⟩ := hR0
  obtain ⟨rfl, rfl⟩ := hRM
  intro H locs ls hP hS hl T0 hT0 X0
  have hsz : H.size ≤ (tw_zs z).heap.size + tw_zcells z := by rw [← hT0]; exact X0.heapSize
  obtain ⟨v, st₀, t, T', Lc, h0, X', hL, e1, e2, ⟨⟨r, hq, hv1, hw, hcn⟩, hz, hkp⟩, stp⟩ := va_runV (As := As) (rest := st) (tw_fix X) (hM K hE) ⟨tw_CB X hy i hi ⟨rfl, rfl, hR.1, hR.2⟩, tw_wd X hv.1 rfl, tw_wd X hv.2 rfl⟩ ⟨dw_blind, dw_W2 X hk.1 hci hc hE0 hP, (dw_preS X hA hb hD hP hS).2⟩ (g := F0 (tw_zm z) pc ls (As.reverse ++ .ref (b + k) :: st)) rfl hn (hl.1.trans X.2.2.2.2.2.2) rfl (lv_room hst) d hk.2 T0 hT0 X0
  cases hv1
  rw [h0] at hz hkp hcn
  have X2 : Stand (tw_zp z) (tw_zl z) (tw_ze z) (tw_zR z) (tw_zs z) (tw_zm z) (tw_zargs z) (tw_zbelow z) (tw_zmeth z) (tw_zc z) T' (locs ++ Lc) (tw_zcells z + cnt r) (tw_zslots z + rm.slots) := { X' with same := ⟨X'.same.1, X'.same.2.1, by show T'.heap.size ≤ _; rw [e1]; omega, X'.same.2.2.2⟩ }
  obtain ⟨t2, a1, b1⟩ := kk r hq T'.heap (locs ++ Lc) ls (by show dw_W _ _ _ _ _; rw [e1]; exact hw) ⟨Nat.le_trans hS.1 (by rw [e1]; exact hz), fun q h1 h2 => by rw [e1, hkp q (Nat.lt_of_lt_of_le h1 hS.1) (fun h => h2 (Nat.le_trans hb h))]; exact hS.2.1 q h1 h2, fun q hq => by
      rcases List.mem_append.mp hq with h | h
      · exact hS.2.2 q h
      · exact Nat.le_trans hb (hL q h)⟩ hl T' rfl X2
  exact ⟨t2, stp t2 a1, b1⟩)
end DWX
def dw_sl : Nat → Nat | 0 => 0 | f + 1 => 9 + 5 * dw_sl f
theorem dw_leq {a b c : Nat} (h : a = b) (hc : c ≤ b) : c ≤ a := by rw [h]; exact hc
