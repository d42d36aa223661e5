theorem tw_kc1036 : tw_kd 1036 = 20 := by decide +kernel
/-! THE LAW'S OWN WRAPPERS: a call of the class that may throw, and what catches it. -/
def tw_c1 (z : tw_Z) : tw_Z := (tw_zp z, tw_zl z, tw_ze z, tw_zR z, tw_zs z, tw_zm z, tw_zargs z, tw_zbelow z, tw_zmeth z, tw_zc z, tw_zB z, tw_zD z, tw_zC z, tw_zS z, tw_znL z, tw_zcells z + 1, tw_zslots z + 6, tw_zQ z)
def tw_bc {α ρ : Type} (e : Option (α ⊕ String)) (k : α → Option ρ) (h : String → Option ρ) : Option ρ := match e with | none => none | some (.inl a) => k a | some (.inr x) => h x
section TWV
variable {ρ : Type} {z : tw_Z} {res : ρ} {cc : ByteArray} {own : String} {nL pc : Nat} {E : Option ρ} {σ σ' : tw_Sg} {L L' : List (Nat × Value)} {st st0 : List Value}
theorem tw_X.c1 (X : tw_X z cc own nL) : tw_X (tw_c1 z) cc own nL := X
theorem r_bc {α : Type} {e : Option (α ⊕ String)} {K : α → Option ρ} {Hd : String → Option ρ} (k : ∀ a, e = some (.inl a) → tw_Rf z res (K a) σ pc L st) (kx : ∀ x, e = some (.inr x) → tw_Rf z res (Hd x) σ pc L st) : tw_Rf z res (tw_bc e K Hd) σ pc L st := by
  cases e with
  | none => intro hE; cases hE
  | some v =>
    cases v with
    | inl a => exact k a rfl
    | inr x => exact kx x rfl
variable {ix ci k mL n N : Nat} {y : MethodName} {cy : ByteArray} {ret : Option FieldType} {rm : Room} {Cn host : String} {T : u_T} {fs : List Value} {As : List Value} {x : String}
/-- a callee throws, and a row of this method's table catches it -/
theorem r_callVC (X : tw_X z cc own nL) (d : decode cc pc = .ok (.invokevirtual ix, 3)) (hM : tw_MetX (tw_zl z) (tw_zB z) (tw_zD z) (tw_zC z) (tw_zS z) y cy mL ret rm (.ref (tw_zB z + k) :: As) σ x) (hy : tw_My y cy mL ret n) (hv : tw_Mv y Cn) (i : Nat) (hi : lw_tbl[i]? = some (.methodLink own ix y)) (hc : vwCl[ci]? = some (Cn, T, N)) (hk : k < 1037) (hE0 : tw_E (tw_zB z) (tw_zC z) σ k = .inr (ci, fs)) (hn : As.length = n) (hR : tw_Rm (tw_zR z) rm mL 1 6) (hcs : tw_zcells z + 1 ≤ (tw_zR z).cells ∧ tw_zslots z + 6 ≤ (tw_zR z).slots) (hst : (st.map fun v => v.category).sum ≤ 8) (hs0 : st0 = As.reverse ++ .ref (tw_zB z + k) :: st)
    {name : String} (pre : List ExceptionTableEntry) (en : ExceptionTableEntry) (suf : List ExceptionTableEntry) (htab : (tw_zc z).exceptionTable.toList = pre ++ en :: suf) (hpass : ∀ q ∈ pre, covers q pc = false ∨ (q.catchType ≠ 0 ∧ ∃ nm : String, (Cond.classLink own q.catchType nm).before (tw_zargs z) (tw_zs z) = true ∧ va_Nc x nm (tw_zs z))) (hx : covers en pc = true) (h0 : en.catchType ≠ 0) (j : Nat) (hlink : lw_tbl[j]? = some (.classLink own en.catchType name)) (hcast : (Cond.castable x name) ∈ lw_tbl)
    (kk : ∀ q : Nat, tw_Rf (tw_c1 z) res E σ en.handlerPc L [.ref q]) : tw_Rf z res E σ pc L st0 := by
  subst hs0
  intro hE H locs ls hP hS hl T0 hT0 X0
  rcases vx_runV (As := As) (rest := st) (tw_fix X) hM ⟨tw_CB X hy i hi hR, tw_wd X hv.1 rfl, tw_wd X hv.2.1 rfl⟩ (tw_preV X hP hS hc hk hE0) (g := F0 (tw_zm z) pc ls (As.reverse ++ .ref (tw_zB z + k) :: st)) rfl hn (hl.1.trans X.2.2.2.2.2.2) rfl (lv_room hst) d hcs T0 hT0 X0 with ⟨v, st₀, t, T', Lc, h0', X', hL, e1, e2, hq, -⟩ | ⟨q, st₀, t, T', Lc, Ex, ce, h0', X', hL, e1, e2, hXC, hce, hcv, hcl, st1⟩
  · exact hq.elim
  · obtain ⟨rfl, hp, hz, hk'⟩ := hXC
    rw [h0'] at hz hk'
    have hS' : tw_SS z T'.heap (locs ++ Lc) := ⟨Nat.le_trans hS.1 (by rw [e1]; exact hz), fun a h1 h2 => by rw [e1, hk' a (Nat.lt_of_lt_of_le h1 hS.1) h2]; exact hS.2.1 a h1 h2, fun a ha => by
      rcases List.mem_append.mp ha with h | h
      · exact hS.2.2 a h
      · exact hL a h⟩
    have hP' : tw_PP z σ T'.heap := by unfold tw_PP; rw [e1]; exact hp
    have hh := vx_catch (rest := st) X.ow pre en suf htab hpass hx h0 (X.ws j hlink rfl) (tw_wd X hcast rfl) (by rw [e1]; exact hce) hcv hcl (kk q hE T'.heap (locs ++ Lc) ls hP' hS' hl)
    obtain ⟨t2, a1, b1⟩ := hh T' rfl X'
    exact ⟨t2, st1.trans a1, b1⟩
theorem r_astoreq {i a : Nat} (X : tw_X z cc own nL) (d : decode cc pc = .ok (.astore i, 2)) (hn : i < nL) (hL : (i, Value.ref a) :: L.filter (fun q => !(q.1 == i) && !(q.1 + 1 == i && q.2.category == 2)) = L') (k : tw_Rf z res E σ (pc + 2) L' st) : tw_Rf z res E σ pc L (.ref a :: st) := r_astore X d hn hL k
end TWV
abbrev tw_MetW (l : Launch) (B : Nat) (D : va_G) (C : Nat → ClassId) (S : Nat → Nat) (y : MethodName) (cy : ByteArray) (mL : Nat) (ret : Option FieldType) (hh : List (Nat × Nat × Nat × Nat)) (rm : Room) (argv : List Value) (σ : tw_Sg) (rv : Option Value) (σ' : tw_Sg) : Prop :=
  Met l y [.codeWith y cy mL ret hh] rm (tw_Pre B D C S argv σ) (tw_Qc B D C rv σ') 1 6 (fun q => B ≤ q)
theorem tw_metOfW {ρ : Type} {l : Launch} {B : Nat} {D : va_G} {C : Nat → ClassId} {S : Nat → Nat} {y : MethodName} {cy : ByteArray} {mL : Nat} {ret : Option FieldType} {hh : List (Nat × Nat × Nat × Nat)} {rm : Room} {argv : List Value} {σ : tw_Sg} (E : Option ρ) (res : ρ) (hres : E = some res) (out : ρ → Option Value × tw_Sg) (hy : plainName y.cls = true) (hlen : (lg_sl argv).length ≤ mL)
    (body : ∀ z : tw_Z, tw_zl z = l → tw_zB z = B → tw_zD z = D → tw_zC z = C → tw_zS z = S → (tw_zR z).frames = rm.frames → (tw_zR z).locals = rm.locals → (tw_zcells z ≤ (tw_zR z).cells ∧ tw_zslots z ≤ (tw_zR z).slots) → (tw_zcells z + 1 ≤ (tw_zR z).cells ∧ tw_zslots z + 6 ≤ (tw_zR z).slots) → tw_X z cy y.cls mL → (tw_zmeth z).sig.returnType = ret → (tw_zc z).exceptionTable.toList = tableOf hh → tw_Ro z out res → tw_Ro (tw_c1 z) out res → tw_Rf z res E σ 0 (lv_args 0 argv) []) : tw_MetW l B D C S y cy mL ret hh { rm with cells := 1, slots := 6 } argv σ (out res).1 (out res).2 := by
  refine va_MetW (cc := cy) (maxL := mL) (ret := ret) (hh := hh) hy rfl ?_
  intro p e s m args below meth c s₁ Bd hml hv
  obtain ⟨rfl, hP, hEV⟩ := hv
  rw [lg_entry_eq]
  have hl := lv_entry argv (n := mL) hlen
  have hR : (headSpec [Cond.codeWith y cy mL ret hh] { rm with cells := 1, slots := 6 }).room = { rm with cells := 1, slots := 6 } := rfl
  rw [hR]
  have htab : c.exceptionTable.toList = tableOf hh := vx_table (x := y) Bd (atoms_spec (ws := [Cond.codeWith y cy mL ret hh]) Bd.pre _ (List.mem_singleton.mpr rfl))
  refine body (p, l, e, { rm with cells := 1, slots := 6 }, s, m, argv.toArray, below, meth, c, B, D, C, S, mL, 0, 0, MQ below (tw_Qc B D C (out res).1 (out res).2) argv.toArray s 1 6 (fun q => B ≤ q)) rfl rfl rfl rfl rfl rfl rfl ⟨Nat.zero_le 1, Nat.zero_le 6⟩ ⟨Nat.le_refl 1, Nat.le_refl 6⟩ ⟨Bd.exec, Bd.bytes, hml, findClass_of_methodNamed Bd.named, Bd.notSynchronized, hEV, rfl⟩ Bd.returns htab ?_ (fun H locs g h => h) hres s.heap [] _ hP va_S.rf hl
  intro H locs g h T hT X
  obtain ⟨t, a1, oc, b1, b2, b3, L, hF, hL⟩ := h T hT X
  exact ⟨t, a1, oc, b1, b2, b3, L, ⟨hF.1, hF.2.1, hF.2.2.mono (Nat.zero_le 1) (Nat.zero_le 6)⟩, hL⟩
/-- what the tables say of a wrapper -/
def tw_Mw (y : MethodName) (cy : ByteArray) (mL : Nat) (ret : Option FieldType) (hh : List (Nat × Nat × Nat × Nat)) (n : Nat) : Prop :=
  (Cond.codeWith y cy mL ret hh) ∈ lw_tbl ∧ (Cond.initialized y.cls) ∈ lw_tbl ∧ (y.cls ≠ "java/lang/invoke/MethodHandle" ∧ y.cls ≠ "java/lang/invoke/VarHandle") ∧ (parseMethodDescriptor y.desc).map (fun d => d.parameters.length) = some n ∧ (Cond.static y) ∈ lw_tbl
def tw_P_L_load (n : Nat) (x1 : Int32) (σ : tw_Sg) : Option (Int32 × tw_Sg) := tw_bc (tw_P_X11_load n x1 σ) (fun r => tw_ck (tw_ok (0 : Int32) (tw_ln 1036)) (tw_lt (tw_up r.2 1036 (Int32.toNatClampNeg (0 : Int32)) r.1) (fun (s9 : tw_Sg) => some ((0 : Int32), s9)))) (fun x => if x = "java/lang/IllegalArgumentException" then some ((1 : Int32), σ) else none)
theorem tw_x885 : lw_tbl[885]? = some ((Jvm.Cond.codeWith ({ cls := "TreasureWalkLaw", name := "load", desc := "(LTreasureWalk;I[J)I" } : Jvm.MethodName) method_3_code (4 : Nat) (Option.some Jvm.ClassFile.FieldType.int) [((0 : Nat), (9 : Nat), (12 : Nat), (13 : Nat))])) := by decide +kernel
theorem tw_x87 : lw_tbl[87]? = some ((Jvm.Cond.initialized "TreasureWalkLaw")) := by decide +kernel
theorem tw_x884 : lw_tbl[884]? = some ((Jvm.Cond.static ({ cls := "TreasureWalkLaw", name := "load", desc := "(LTreasureWalk;I[J)I" } : Jvm.MethodName))) := by decide +kernel
theorem tw_y_L_load : tw_Mw yL_load cL_load 4 (some .int) [((0 : Nat), (9 : Nat), (12 : Nat), (13 : Nat))] 3 := ⟨List.mem_of_getElem? tw_x885, List.mem_of_getElem? tw_x87, by decide +kernel, by decide +kernel, List.mem_of_getElem? tw_x884⟩
theorem tw_x887 : lw_tbl[887]? = some ((Jvm.Cond.methodLink "TreasureWalkLaw" (7 : Nat) ({ cls := "TreasureWalk", name := "load", desc := "(I)I" } : Jvm.MethodName))) := by decide +kernel
theorem tw_x886 : lw_tbl[886]? = some ((Jvm.Cond.classLink "TreasureWalkLaw" (13 : Nat) "java/lang/IllegalArgumentException")) := by decide +kernel
theorem tw_x780 : lw_tbl[780]? = some ((Jvm.Cond.castable "java/lang/IllegalArgumentException" "java/lang/IllegalArgumentException")) := by decide +kernel
set_option maxRecDepth 100000 in
set_option maxHeartbeats 4000000 in
theorem tw_m_L_load {l : Launch} {B : Nat} {D : va_G} {C : Nat → ClassId} {S : Nat → Nat} {n : Nat} {x1 : Int32} {σ : tw_Sg} (hst : l.stackTraces = false) {r : Int32 × tw_Sg} (h : tw_P_L_load n x1 σ = some r) : tw_MetW l B D C S yL_load cL_load 4 (some .int) [((0 : Nat), (9 : Nat), (12 : Nat), (13 : Nat))] ({ frames := 12, cells := 1, slots := 6, locals := 257 } : Room) [.ref (B + 0), .int x1, .ref (B + 1036)] σ (some (.int r.1)) r.2 := by
  refine tw_metOfW (rm := ({ frames := 12, cells := 0, slots := 0, locals := 257 } : Room)) (tw_P_L_load n x1 σ) r h (fun r => (some (.int r.1), r.2)) (by decide +kernel) (Nat.le_of_ble_eq_true rfl) ?_
  intro z el eB eD eC eS hfr hlo hcs hc1 X hret htab hQ hQ1
  subst el eB eD eC eS
  have X : tw_X z cL_load "TreasureWalkLaw" 4 := X
  show tw_Rf z r _ σ 0 [(0, .ref (tw_zB z + 0)), (1, .int x1), (2, .ref (tw_zB z + 1036))] []
  unfold tw_P_L_load
  refine r_aload_n X dL_load_0 rfl 2 rfl ?_
  refine r_iconst X dL_load_1 (v := (0 : Int32)) (by decide) ?_
  refine r_aload_n X dL_load_2 rfl 0 rfl ?_
  refine r_iload_n X dL_load_3 rfl 1 rfl ?_
  refine r_bc (fun r hr => ?_) (fun x hx => ?_)
  ·
    refine tw_c_X11_load X dL_load_4 _ tw_x887  hr (tw_le hfr rfl) (tw_le hlo rfl) hcs (Nat.le_of_ble_eq_true rfl) trivial ?_
    refine r_i2l X dL_load_7 ?_
    refine r_last (x := r.1) X dL_load_8 tw_kc1036 rfl (fun s9 => ?_)
    refine r_goto X dL_load_9 (tgt := 15) (by decide) ?_
    refine r_iconst X dL_load_15 (v := (0 : Int32)) (by decide) ?_
    exact r_iret X dL_load_16 hret hQ rfl
  ·
    have hM := tw_mx_X11_load (l := tw_zl z) (B := tw_zB z) (D := tw_zD z) (C := tw_zC z) (S := tw_zS z) hst hx
    refine r_ite (fun he => ?_) (fun he => ?_)
    ·
      subst he
      refine r_callVC (st := [.int 0, .ref (tw_zB z + 1036)]) (As := [.int x1]) (k := 0) X dL_load_4 hM tw_y_X11_load tw_v_X11_load _ tw_x887 rfl (tw_kd_lt tw_kc0 (by decide)) (tw_E11 tw_kc0) rfl ⟨rfl, rfl, tw_le hfr rfl, tw_le hlo rfl⟩ hc1 (Nat.le_of_ble_eq_true rfl) rfl [] ⟨0, 9, 12, 13⟩ [] htab (fun q h => nomatch h) (by decide) (by decide) _ tw_x886 (List.mem_of_getElem? tw_x780) (fun q => ?_)
      refine r_astore_n (L' := [(3, .ref q), (0, .ref (tw_zB z + 0)), (1, .int x1), (2, .ref (tw_zB z + 1036))]) X.c1 dL_load_12 rfl (by decide) rfl ?_
      refine r_iconst X.c1 dL_load_13 (v := (1 : Int32)) (by decide) ?_
      exact r_iret X.c1 dL_load_14 hret hQ1 rfl
    ·
      intro hE; cases hE
def tw_P_L_state (n : Nat) (x1 : Int32) (σ : tw_Sg) : Option (Int32 × tw_Sg) := tw_bc (tw_P_X11_state n x1 σ) (fun r => tw_ck (tw_ok (0 : Int32) (tw_ln 1036)) (tw_lt (tw_up r.2 1036 (Int32.toNatClampNeg (0 : Int32)) r.1) (fun (s9 : tw_Sg) => some ((0 : Int32), s9)))) (fun x => if x = "java/lang/IllegalArgumentException" then some ((1 : Int32), σ) else none)
theorem tw_x1090 : lw_tbl[1090]? = some ((Jvm.Cond.codeWith ({ cls := "TreasureWalkLaw", name := "state", desc := "(LTreasureWalk;I[J)I" } : Jvm.MethodName) method_4_code (4 : Nat) (Option.some Jvm.ClassFile.FieldType.int) [((0 : Nat), (9 : Nat), (12 : Nat), (13 : Nat))])) := by decide +kernel
theorem tw_x1089 : lw_tbl[1089]? = some ((Jvm.Cond.static ({ cls := "TreasureWalkLaw", name := "state", desc := "(LTreasureWalk;I[J)I" } : Jvm.MethodName))) := by decide +kernel
theorem tw_y_L_state : tw_Mw yL_state cL_state 4 (some .int) [((0 : Nat), (9 : Nat), (12 : Nat), (13 : Nat))] 3 := ⟨List.mem_of_getElem? tw_x1090, List.mem_of_getElem? tw_x87, by decide +kernel, by decide +kernel, List.mem_of_getElem? tw_x1089⟩
theorem tw_x1091 : lw_tbl[1091]? = some ((Jvm.Cond.methodLink "TreasureWalkLaw" (15 : Nat) ({ cls := "TreasureWalk", name := "state", desc := "(I)I" } : Jvm.MethodName))) := by decide +kernel
set_option maxRecDepth 100000 in
set_option maxHeartbeats 4000000 in
theorem tw_m_L_state {l : Launch} {B : Nat} {D : va_G} {C : Nat → ClassId} {S : Nat → Nat} {n : Nat} {x1 : Int32} {σ : tw_Sg} (hst : l.stackTraces = false) {r : Int32 × tw_Sg} (h : tw_P_L_state n x1 σ = some r) : tw_MetW l B D C S yL_state cL_state 4 (some .int) [((0 : Nat), (9 : Nat), (12 : Nat), (13 : Nat))] ({ frames := 7, cells := 1, slots := 6, locals := 166 } : Room) [.ref (B + 0), .int x1, .ref (B + 1036)] σ (some (.int r.1)) r.2 := by
  refine tw_metOfW (rm := ({ frames := 7, cells := 0, slots := 0, locals := 166 } : Room)) (tw_P_L_state n x1 σ) r h (fun r => (some (.int r.1), r.2)) (by decide +kernel) (Nat.le_of_ble_eq_true rfl) ?_
  intro z el eB eD eC eS hfr hlo hcs hc1 X hret htab hQ hQ1
  subst el eB eD eC eS
  have X : tw_X z cL_state "TreasureWalkLaw" 4 := X
  show tw_Rf z r _ σ 0 [(0, .ref (tw_zB z + 0)), (1, .int x1), (2, .ref (tw_zB z + 1036))] []
  unfold tw_P_L_state
  refine r_aload_n X dL_state_0 rfl 2 rfl ?_
  refine r_iconst X dL_state_1 (v := (0 : Int32)) (by decide) ?_
  refine r_aload_n X dL_state_2 rfl 0 rfl ?_
  refine r_iload_n X dL_state_3 rfl 1 rfl ?_
  refine r_bc (fun r hr => ?_) (fun x hx => ?_)
  ·
    refine tw_c_X11_state X dL_state_4 _ tw_x1091  hr (tw_le hfr rfl) (tw_le hlo rfl) hcs (Nat.le_of_ble_eq_true rfl) trivial ?_
    refine r_i2l X dL_state_7 ?_
    refine r_last (x := r.1) X dL_state_8 tw_kc1036 rfl (fun s9 => ?_)
    refine r_goto X dL_state_9 (tgt := 15) (by decide) ?_
    refine r_iconst X dL_state_15 (v := (0 : Int32)) (by decide) ?_
    exact r_iret X dL_state_16 hret hQ rfl
  ·
    have hM := tw_mx_X11_state (l := tw_zl z) (B := tw_zB z) (D := tw_zD z) (C := tw_zC z) (S := tw_zS z) hst hx
    refine r_ite (fun he => ?_) (fun he => ?_)
    ·
      subst he
      refine r_callVC (st := [.int 0, .ref (tw_zB z + 1036)]) (As := [.int x1]) (k := 0) X dL_state_4 hM tw_y_X11_state tw_v_X11_state _ tw_x1091 rfl (tw_kd_lt tw_kc0 (by decide)) (tw_E11 tw_kc0) rfl ⟨rfl, rfl, tw_le hfr rfl, tw_le hlo rfl⟩ hc1 (Nat.le_of_ble_eq_true rfl) rfl [] ⟨0, 9, 12, 13⟩ [] htab (fun q h => nomatch h) (by decide) (by decide) _ tw_x886 (List.mem_of_getElem? tw_x780) (fun q => ?_)
      refine r_astore_n (L' := [(3, .ref q), (0, .ref (tw_zB z + 0)), (1, .int x1), (2, .ref (tw_zB z + 1036))]) X.c1 dL_state_12 rfl (by decide) rfl ?_
      refine r_iconst X.c1 dL_state_13 (v := (1 : Int32)) (by decide) ?_
      exact r_iret X.c1 dL_state_14 hret hQ1 rfl
    ·
      intro hE; cases hE
def tw_P_L_cell (n : Nat) (x1 : Int32) (x2 : Int32) (σ : tw_Sg) : Option (Int32 × tw_Sg) := tw_bc (tw_P_X11_cell n x1 x2 σ) (fun r => tw_ck (tw_ok (0 : Int32) (tw_ln 1036)) (tw_lt (tw_up r.2 1036 (Int32.toNatClampNeg (0 : Int32)) r.1) (fun (s9 : tw_Sg) => some ((0 : Int32), s9)))) (fun x => if x = "java/lang/IndexOutOfBoundsException" then some ((1 : Int32), σ) else none)
theorem tw_x1094 : lw_tbl[1094]? = some ((Jvm.Cond.codeWith ({ cls := "TreasureWalkLaw", name := "cell", desc := "(LTreasureWalk;II[J)I" } : Jvm.MethodName) method_5_code (5 : Nat) (Option.some Jvm.ClassFile.FieldType.int) [((0 : Nat), (10 : Nat), (13 : Nat), (22 : Nat))])) := by decide +kernel
theorem tw_x1093 : lw_tbl[1093]? = some ((Jvm.Cond.static ({ cls := "TreasureWalkLaw", name := "cell", desc := "(LTreasureWalk;II[J)I" } : Jvm.MethodName))) := by decide +kernel
theorem tw_y_L_cell : tw_Mw yL_cell cL_cell 5 (some .int) [((0 : Nat), (10 : Nat), (13 : Nat), (22 : Nat))] 4 := ⟨List.mem_of_getElem? tw_x1094, List.mem_of_getElem? tw_x87, by decide +kernel, by decide +kernel, List.mem_of_getElem? tw_x1093⟩
theorem tw_x1096 : lw_tbl[1096]? = some ((Jvm.Cond.methodLink "TreasureWalkLaw" (18 : Nat) ({ cls := "TreasureWalk", name := "cell", desc := "(II)I" } : Jvm.MethodName))) := by decide +kernel
theorem tw_x1095 : lw_tbl[1095]? = some ((Jvm.Cond.classLink "TreasureWalkLaw" (22 : Nat) "java/lang/IndexOutOfBoundsException")) := by decide +kernel
theorem tw_x856 : lw_tbl[856]? = some ((Jvm.Cond.castable "java/lang/IndexOutOfBoundsException" "java/lang/IndexOutOfBoundsException")) := by decide +kernel
set_option maxRecDepth 100000 in
set_option maxHeartbeats 4000000 in
theorem tw_m_L_cell {l : Launch} {B : Nat} {D : va_G} {C : Nat → ClassId} {S : Nat → Nat} {n : Nat} {x1 : Int32} {x2 : Int32} {σ : tw_Sg} (hst : l.stackTraces = false) {r : Int32 × tw_Sg} (h : tw_P_L_cell n x1 x2 σ = some r) : tw_MetW l B D C S yL_cell cL_cell 5 (some .int) [((0 : Nat), (10 : Nat), (13 : Nat), (22 : Nat))] ({ frames := 8, cells := 1, slots := 6, locals := 136 } : Room) [.ref (B + 0), .int x1, .int x2, .ref (B + 1036)] σ (some (.int r.1)) r.2 := by
  refine tw_metOfW (rm := ({ frames := 8, cells := 0, slots := 0, locals := 136 } : Room)) (tw_P_L_cell n x1 x2 σ) r h (fun r => (some (.int r.1), r.2)) (by decide +kernel) (Nat.le_of_ble_eq_true rfl) ?_
  intro z el eB eD eC eS hfr hlo hcs hc1 X hret htab hQ hQ1
  subst el eB eD eC eS
  have X : tw_X z cL_cell "TreasureWalkLaw" 5 := X
  show tw_Rf z r _ σ 0 [(0, .ref (tw_zB z + 0)), (1, .int x1), (2, .int x2), (3, .ref (tw_zB z + 1036))] []
  unfold tw_P_L_cell
  refine r_aload_n X dL_cell_0 rfl 3 rfl ?_
  refine r_iconst X dL_cell_1 (v := (0 : Int32)) (by decide) ?_
  refine r_aload_n X dL_cell_2 rfl 0 rfl ?_
  refine r_iload_n X dL_cell_3 rfl 1 rfl ?_
  refine r_iload_n X dL_cell_4 rfl 2 rfl ?_
  refine r_bc (fun r hr => ?_) (fun x hx => ?_)
  ·
    refine tw_c_X11_cell X dL_cell_5 _ tw_x1096  hr (tw_le hfr rfl) (tw_le hlo rfl) hcs (Nat.le_of_ble_eq_true rfl) trivial ?_
    refine r_i2l X dL_cell_8 ?_
    refine r_last (x := r.1) X dL_cell_9 tw_kc1036 rfl (fun s9 => ?_)
    refine r_goto X dL_cell_10 (tgt := 17) (by decide) ?_
    refine r_iconst X dL_cell_17 (v := (0 : Int32)) (by decide) ?_
    exact r_iret X dL_cell_18 hret hQ rfl
  ·
    have hM := tw_mx_X11_cell (l := tw_zl z) (B := tw_zB z) (D := tw_zD z) (C := tw_zC z) (S := tw_zS z) hst hx
    refine r_ite (fun he => ?_) (fun he => ?_)
    ·
      subst he
      refine r_callVC (st := [.int 0, .ref (tw_zB z + 1036)]) (As := [.int x1, .int x2]) (k := 0) X dL_cell_5 hM tw_y_X11_cell tw_v_X11_cell _ tw_x1096 rfl (tw_kd_lt tw_kc0 (by decide)) (tw_E11 tw_kc0) rfl ⟨rfl, rfl, tw_le hfr rfl, tw_le hlo rfl⟩ hc1 (Nat.le_of_ble_eq_true rfl) rfl [] ⟨0, 10, 13, 22⟩ [] htab (fun q h => nomatch h) (by decide) (by decide) _ tw_x1095 (List.mem_of_getElem? tw_x856) (fun q => ?_)
      refine r_astore (L' := [(4, .ref q), (0, .ref (tw_zB z + 0)), (1, .int x1), (2, .int x2), (3, .ref (tw_zB z + 1036))]) X.c1 dL_cell_13 (by decide) rfl ?_
      refine r_iconst X.c1 dL_cell_15 (v := (1 : Int32)) (by decide) ?_
      exact r_iret X.c1 dL_cell_16 hret hQ1 rfl
    ·
      intro hE; cases hE
def tw_P_L_pace (n : Nat) (x1 : Int32) (x2 : Int32) (x3 : Int32) (σ : tw_Sg) : Option (Int32 × tw_Sg) := tw_bc (tw_P_X11_pace x1 x2 x3 σ) (fun r => tw_ck (tw_ok (0 : Int32) (tw_ln 1036)) (tw_lt (tw_up σ 1036 (Int32.toNatClampNeg (0 : Int32)) r) (fun (s9 : tw_Sg) => some ((0 : Int32), s9)))) (fun x => if x = "java/lang/IndexOutOfBoundsException" then some ((1 : Int32), σ) else if x = "java/lang/IllegalArgumentException" then some ((2 : Int32), σ) else none)
theorem tw_x1099 : lw_tbl[1099]? = some ((Jvm.Cond.codeWith ({ cls := "TreasureWalkLaw", name := "pace", desc := "(LTreasureWalk;III[J)I" } : Jvm.MethodName) method_6_code (6 : Nat) (Option.some Jvm.ClassFile.FieldType.int) [((0 : Nat), (12 : Nat), (15 : Nat), (22 : Nat)), ((0 : Nat), (12 : Nat), (19 : Nat), (13 : Nat))])) := by decide +kernel
theorem tw_x1098 : lw_tbl[1098]? = some ((Jvm.Cond.static ({ cls := "TreasureWalkLaw", name := "pace", desc := "(LTreasureWalk;III[J)I" } : Jvm.MethodName))) := by decide +kernel
theorem tw_y_L_pace : tw_Mw yL_pace cL_pace 6 (some .int) [((0 : Nat), (12 : Nat), (15 : Nat), (22 : Nat)), ((0 : Nat), (12 : Nat), (19 : Nat), (13 : Nat))] 5 := ⟨List.mem_of_getElem? tw_x1099, List.mem_of_getElem? tw_x87, by decide +kernel, by decide +kernel, List.mem_of_getElem? tw_x1098⟩
theorem tw_x1100 : lw_tbl[1100]? = some ((Jvm.Cond.methodLink "TreasureWalkLaw" (24 : Nat) ({ cls := "TreasureWalk", name := "pace", desc := "(III)I" } : Jvm.MethodName))) := by decide +kernel
set_option maxRecDepth 100000 in
set_option maxHeartbeats 4000000 in
theorem tw_m_L_pace {l : Launch} {B : Nat} {D : va_G} {C : Nat → ClassId} {S : Nat → Nat} {n : Nat} {x1 : Int32} {x2 : Int32} {x3 : Int32} {σ : tw_Sg} (hst : l.stackTraces = false) {r : Int32 × tw_Sg} (h : tw_P_L_pace n x1 x2 x3 σ = some r) : tw_MetW l B D C S yL_pace cL_pace 6 (some .int) [((0 : Nat), (12 : Nat), (15 : Nat), (22 : Nat)), ((0 : Nat), (12 : Nat), (19 : Nat), (13 : Nat))] ({ frames := 8, cells := 1, slots := 6, locals := 136 } : Room) [.ref (B + 0), .int x1, .int x2, .int x3, .ref (B + 1036)] σ (some (.int r.1)) r.2 := by
  refine tw_metOfW (rm := ({ frames := 8, cells := 0, slots := 0, locals := 136 } : Room)) (tw_P_L_pace n x1 x2 x3 σ) r h (fun r => (some (.int r.1), r.2)) (by decide +kernel) (Nat.le_of_ble_eq_true rfl) ?_
  intro z el eB eD eC eS hfr hlo hcs hc1 X hret htab hQ hQ1
  subst el eB eD eC eS
  have X : tw_X z cL_pace "TreasureWalkLaw" 6 := X
  show tw_Rf z r _ σ 0 [(0, .ref (tw_zB z + 0)), (1, .int x1), (2, .int x2), (3, .int x3), (4, .ref (tw_zB z + 1036))] []
  unfold tw_P_L_pace
  refine r_aload X dL_pace_0 4 rfl ?_
  refine r_iconst X dL_pace_2 (v := (0 : Int32)) (by decide) ?_
  refine r_aload_n X dL_pace_3 rfl 0 rfl ?_
  refine r_iload_n X dL_pace_4 rfl 1 rfl ?_
  refine r_iload_n X dL_pace_5 rfl 2 rfl ?_
  refine r_iload_n X dL_pace_6 rfl 3 rfl ?_
  refine r_bc (fun r hr => ?_) (fun x hx => ?_)
  ·
    refine tw_c_X11_pace X dL_pace_7 _ tw_x1100  hr (tw_le hfr rfl) (tw_le hlo rfl) hcs (Nat.le_of_ble_eq_true rfl) trivial ?_
    refine r_i2l X dL_pace_10 ?_
    refine r_last (x := r) X dL_pace_11 tw_kc1036 rfl (fun s9 => ?_)
    refine r_goto X dL_pace_12 (tgt := 23) (by decide) ?_
    refine r_iconst X dL_pace_23 (v := (0 : Int32)) (by decide) ?_
    exact r_iret X dL_pace_24 hret hQ rfl
  ·
    have hM := tw_mx_X11_pace (l := tw_zl z) (B := tw_zB z) (D := tw_zD z) (C := tw_zC z) (S := tw_zS z) hst hx
    refine r_ite (fun he => ?_) (fun he => ?_)
    ·
      subst he
      refine r_callVC (st := [.int 0, .ref (tw_zB z + 1036)]) (As := [.int x1, .int x2, .int x3]) (k := 0) X dL_pace_7 hM tw_y_X11_pace tw_v_X11_pace _ tw_x1100 rfl (tw_kd_lt tw_kc0 (by decide)) (tw_E11 tw_kc0) rfl ⟨rfl, rfl, tw_le hfr rfl, tw_le hlo rfl⟩ hc1 (Nat.le_of_ble_eq_true rfl) rfl [] ⟨0, 12, 15, 22⟩ [⟨0, 12, 19, 13⟩] htab (fun q h => nomatch h) (by decide) (by decide) _ tw_x1095 (List.mem_of_getElem? tw_x856) (fun q => ?_)
      refine r_astore (L' := [(5, .ref q), (0, .ref (tw_zB z + 0)), (1, .int x1), (2, .int x2), (3, .int x3), (4, .ref (tw_zB z + 1036))]) X.c1 dL_pace_15 (by decide) rfl ?_
      refine r_iconst X.c1 dL_pace_17 (v := (1 : Int32)) (by decide) ?_
      exact r_iret X.c1 dL_pace_18 hret hQ1 rfl
    ·
      refine r_ite (fun he => ?_) (fun he => ?_)
      ·
        subst he
        refine r_callVC (st := [.int 0, .ref (tw_zB z + 1036)]) (As := [.int x1, .int x2, .int x3]) (k := 0) X dL_pace_7 hM tw_y_X11_pace tw_v_X11_pace _ tw_x1100 rfl (tw_kd_lt tw_kc0 (by decide)) (tw_E11 tw_kc0) rfl ⟨rfl, rfl, tw_le hfr rfl, tw_le hlo rfl⟩ hc1 (Nat.le_of_ble_eq_true rfl) rfl [⟨0, 12, 15, 22⟩] ⟨0, 12, 19, 13⟩ [] htab (fun q h => by rw [List.mem_singleton.mp h]; exact Or.inr ⟨by decide, _, X.ws _ tw_x1095 rfl, X.2.2.2.2.2.1.2.2.2.2.2.2.1.1⟩) (by decide) (by decide) _ tw_x886 (List.mem_of_getElem? tw_x780) (fun q => ?_)
        refine r_astore (L' := [(5, .ref q), (0, .ref (tw_zB z + 0)), (1, .int x1), (2, .int x2), (3, .int x3), (4, .ref (tw_zB z + 1036))]) X.c1 dL_pace_19 (by decide) rfl ?_
        refine r_iconst X.c1 dL_pace_21 (v := (2 : Int32)) (by decide) ?_
        exact r_iret X.c1 dL_pace_22 hret hQ1 rfl
      ·
        intro hE; cases hE
def tw_P_L_reached (n : Nat) (x1 : Int32) (x2 : Int32) (σ : tw_Sg) : Option (Int32 × tw_Sg) := tw_bc (tw_P_X11_reached n x1 x2 σ) (fun r => tw_ck (tw_ok (0 : Int32) (tw_ln 1036)) (tw_lt (tw_up σ 1036 (Int32.toNatClampNeg (0 : Int32)) r) (fun (s9 : tw_Sg) => some ((0 : Int32), s9)))) (fun x => if x = "java/lang/IndexOutOfBoundsException" then some ((1 : Int32), σ) else if x = "java/lang/IllegalArgumentException" then some ((2 : Int32), σ) else none)
theorem tw_x1108 : lw_tbl[1108]? = some ((Jvm.Cond.codeWith ({ cls := "TreasureWalkLaw", name := "reached", desc := "(LTreasureWalk;II[J)I" } : Jvm.MethodName) method_7_code (5 : Nat) (Option.some Jvm.ClassFile.FieldType.int) [((0 : Nat), (10 : Nat), (13 : Nat), (22 : Nat)), ((0 : Nat), (10 : Nat), (17 : Nat), (13 : Nat))])) := by decide +kernel
theorem tw_x1107 : lw_tbl[1107]? = some ((Jvm.Cond.static ({ cls := "TreasureWalkLaw", name := "reached", desc := "(LTreasureWalk;II[J)I" } : Jvm.MethodName))) := by decide +kernel
theorem tw_y_L_reached : tw_Mw yL_reached cL_reached 5 (some .int) [((0 : Nat), (10 : Nat), (13 : Nat), (22 : Nat)), ((0 : Nat), (10 : Nat), (17 : Nat), (13 : Nat))] 4 := ⟨List.mem_of_getElem? tw_x1108, List.mem_of_getElem? tw_x87, by decide +kernel, by decide +kernel, List.mem_of_getElem? tw_x1107⟩
theorem tw_x1109 : lw_tbl[1109]? = some ((Jvm.Cond.methodLink "TreasureWalkLaw" (28 : Nat) ({ cls := "TreasureWalk", name := "reached", desc := "(II)I" } : Jvm.MethodName))) := by decide +kernel
set_option maxRecDepth 100000 in
set_option maxHeartbeats 4000000 in
theorem tw_m_L_reached {l : Launch} {B : Nat} {D : va_G} {C : Nat → ClassId} {S : Nat → Nat} {n : Nat} {x1 : Int32} {x2 : Int32} {σ : tw_Sg} (hst : l.stackTraces = false) {r : Int32 × tw_Sg} (h : tw_P_L_reached n x1 x2 σ = some r) : tw_MetW l B D C S yL_reached cL_reached 5 (some .int) [((0 : Nat), (10 : Nat), (13 : Nat), (22 : Nat)), ((0 : Nat), (10 : Nat), (17 : Nat), (13 : Nat))] ({ frames := 8, cells := 1, slots := 6, locals := 133 } : Room) [.ref (B + 0), .int x1, .int x2, .ref (B + 1036)] σ (some (.int r.1)) r.2 := by
  refine tw_metOfW (rm := ({ frames := 8, cells := 0, slots := 0, locals := 133 } : Room)) (tw_P_L_reached n x1 x2 σ) r h (fun r => (some (.int r.1), r.2)) (by decide +kernel) (Nat.le_of_ble_eq_true rfl) ?_
  intro z el eB eD eC eS hfr hlo hcs hc1 X hret htab hQ hQ1
  subst el eB eD eC eS
  have X : tw_X z cL_reached "TreasureWalkLaw" 5 := X
  show tw_Rf z r _ σ 0 [(0, .ref (tw_zB z + 0)), (1, .int x1), (2, .int x2), (3, .ref (tw_zB z + 1036))] []
  unfold tw_P_L_reached
  refine r_aload_n X dL_reached_0 rfl 3 rfl ?_
  refine r_iconst X dL_reached_1 (v := (0 : Int32)) (by decide) ?_
  refine r_aload_n X dL_reached_2 rfl 0 rfl ?_
  refine r_iload_n X dL_reached_3 rfl 1 rfl ?_
  refine r_iload_n X dL_reached_4 rfl 2 rfl ?_
  refine r_bc (fun r hr => ?_) (fun x hx => ?_)
  ·
    refine tw_c_X11_reached X dL_reached_5 _ tw_x1109  hr (tw_le hfr rfl) (tw_le hlo rfl) hcs (Nat.le_of_ble_eq_true rfl) trivial ?_
    refine r_i2l X dL_reached_8 ?_
    refine r_last (x := r) X dL_reached_9 tw_kc1036 rfl (fun s9 => ?_)
    refine r_goto X dL_reached_10 (tgt := 21) (by decide) ?_
    refine r_iconst X dL_reached_21 (v := (0 : Int32)) (by decide) ?_
    exact r_iret X dL_reached_22 hret hQ rfl
  ·
    have hM := tw_mx_X11_reached (l := tw_zl z) (B := tw_zB z) (D := tw_zD z) (C := tw_zC z) (S := tw_zS z) hst hx
    refine r_ite (fun he => ?_) (fun he => ?_)
    ·
      subst he
      refine r_callVC (st := [.int 0, .ref (tw_zB z + 1036)]) (As := [.int x1, .int x2]) (k := 0) X dL_reached_5 hM tw_y_X11_reached tw_v_X11_reached _ tw_x1109 rfl (tw_kd_lt tw_kc0 (by decide)) (tw_E11 tw_kc0) rfl ⟨rfl, rfl, tw_le hfr rfl, tw_le hlo rfl⟩ hc1 (Nat.le_of_ble_eq_true rfl) rfl [] ⟨0, 10, 13, 22⟩ [⟨0, 10, 17, 13⟩] htab (fun q h => nomatch h) (by decide) (by decide) _ tw_x1095 (List.mem_of_getElem? tw_x856) (fun q => ?_)
      refine r_astore (L' := [(4, .ref q), (0, .ref (tw_zB z + 0)), (1, .int x1), (2, .int x2), (3, .ref (tw_zB z + 1036))]) X.c1 dL_reached_13 (by decide) rfl ?_
      refine r_iconst X.c1 dL_reached_15 (v := (1 : Int32)) (by decide) ?_
      exact r_iret X.c1 dL_reached_16 hret hQ1 rfl
    ·
      refine r_ite (fun he => ?_) (fun he => ?_)
      ·
        subst he
        refine r_callVC (st := [.int 0, .ref (tw_zB z + 1036)]) (As := [.int x1, .int x2]) (k := 0) X dL_reached_5 hM tw_y_X11_reached tw_v_X11_reached _ tw_x1109 rfl (tw_kd_lt tw_kc0 (by decide)) (tw_E11 tw_kc0) rfl ⟨rfl, rfl, tw_le hfr rfl, tw_le hlo rfl⟩ hc1 (Nat.le_of_ble_eq_true rfl) rfl [⟨0, 10, 13, 22⟩] ⟨0, 10, 17, 13⟩ [] htab (fun q h => by rw [List.mem_singleton.mp h]; exact Or.inr ⟨by decide, _, X.ws _ tw_x1095 rfl, X.2.2.2.2.2.1.2.2.2.2.2.2.1.1⟩) (by decide) (by decide) _ tw_x886 (List.mem_of_getElem? tw_x780) (fun q => ?_)
        refine r_astore (L' := [(4, .ref q), (0, .ref (tw_zB z + 0)), (1, .int x1), (2, .int x2), (3, .ref (tw_zB z + 1036))]) X.c1 dL_reached_17 (by decide) rfl ?_
        refine r_iconst X.c1 dL_reached_19 (v := (2 : Int32)) (by decide) ?_
        exact r_iret X.c1 dL_reached_20 hret hQ1 rfl
      ·
        intro hE; cases hE
def tw_P_L_ends (n : Nat) (x1 : Int32) (x2 : Int32) (x3 : Int32) (σ : tw_Sg) : Option (Int32 × tw_Sg) := tw_bc (tw_P_X11_ends x1 x2 x3 σ) (fun r => if r = 0 then (tw_ck (tw_ok (0 : Int32) (tw_ln 1036)) (tw_lt (tw_up σ 1036 (Int32.toNatClampNeg (0 : Int32)) 0) (fun (s9 : tw_Sg) => some ((0 : Int32), s9)))) else (tw_ck (tw_ok (0 : Int32) (tw_ln 1036)) (tw_lt (tw_up σ 1036 (Int32.toNatClampNeg (0 : Int32)) 1) (fun (s9 : tw_Sg) => some ((0 : Int32), s9))))) (fun x => if x = "java/lang/IndexOutOfBoundsException" then some ((1 : Int32), σ) else none)
theorem tw_x1112 : lw_tbl[1112]? = some ((Jvm.Cond.codeWith ({ cls := "TreasureWalkLaw", name := "ends", desc := "(LTreasureWalk;III[J)I" } : Jvm.MethodName) method_8_code (6 : Nat) (Option.some Jvm.ClassFile.FieldType.int) [((0 : Nat), (19 : Nat), (22 : Nat), (22 : Nat))])) := by decide +kernel
theorem tw_x1111 : lw_tbl[1111]? = some ((Jvm.Cond.static ({ cls := "TreasureWalkLaw", name := "ends", desc := "(LTreasureWalk;III[J)I" } : Jvm.MethodName))) := by decide +kernel
theorem tw_y_L_ends : tw_Mw yL_ends cL_ends 6 (some .int) [((0 : Nat), (19 : Nat), (22 : Nat), (22 : Nat))] 5 := ⟨List.mem_of_getElem? tw_x1112, List.mem_of_getElem? tw_x87, by decide +kernel, by decide +kernel, List.mem_of_getElem? tw_x1111⟩
theorem tw_x1113 : lw_tbl[1113]? = some ((Jvm.Cond.methodLink "TreasureWalkLaw" (31 : Nat) ({ cls := "TreasureWalk", name := "ends", desc := "(III)Z" } : Jvm.MethodName))) := by decide +kernel
set_option maxRecDepth 100000 in
set_option maxHeartbeats 4000000 in
theorem tw_m_L_ends {l : Launch} {B : Nat} {D : va_G} {C : Nat → ClassId} {S : Nat → Nat} {n : Nat} {x1 : Int32} {x2 : Int32} {x3 : Int32} {σ : tw_Sg} (hst : l.stackTraces = false) {r : Int32 × tw_Sg} (h : tw_P_L_ends n x1 x2 x3 σ = some r) : tw_MetW l B D C S yL_ends cL_ends 6 (some .int) [((0 : Nat), (19 : Nat), (22 : Nat), (22 : Nat))] ({ frames := 8, cells := 1, slots := 6, locals := 135 } : Room) [.ref (B + 0), .int x1, .int x2, .int x3, .ref (B + 1036)] σ (some (.int r.1)) r.2 := by
  refine tw_metOfW (rm := ({ frames := 8, cells := 0, slots := 0, locals := 135 } : Room)) (tw_P_L_ends n x1 x2 x3 σ) r h (fun r => (some (.int r.1), r.2)) (by decide +kernel) (Nat.le_of_ble_eq_true rfl) ?_
  intro z el eB eD eC eS hfr hlo hcs hc1 X hret htab hQ hQ1
  subst el eB eD eC eS
  have X : tw_X z cL_ends "TreasureWalkLaw" 6 := X
  show tw_Rf z r _ σ 0 [(0, .ref (tw_zB z + 0)), (1, .int x1), (2, .int x2), (3, .int x3), (4, .ref (tw_zB z + 1036))] []
  unfold tw_P_L_ends
  refine r_aload X dL_ends_0 4 rfl ?_
  refine r_iconst X dL_ends_2 (v := (0 : Int32)) (by decide) ?_
  refine r_aload_n X dL_ends_3 rfl 0 rfl ?_
  refine r_iload_n X dL_ends_4 rfl 1 rfl ?_
  refine r_iload_n X dL_ends_5 rfl 2 rfl ?_
  refine r_iload_n X dL_ends_6 rfl 3 rfl ?_
  refine r_bc (fun r hr => ?_) (fun x hx => ?_)
  ·
    refine tw_c_X11_ends X dL_ends_7 _ tw_x1113  hr (tw_le hfr rfl) (tw_le hlo rfl) hcs (Nat.le_of_ble_eq_true rfl) trivial ?_
    refine r_if_eq X dL_ends_10 (tgt := 17) (by decide) ?_ ?_
    ·
      refine r_lconst X dL_ends_17 (v := (0 : Int64)) (by decide) ?_
      refine r_last (x := (0 : Int32)) X dL_ends_18 tw_kc1036 (by decide) (fun s9 => ?_)
      refine r_goto X dL_ends_19 (tgt := 26) (by decide) ?_
      refine r_iconst X dL_ends_26 (v := (0 : Int32)) (by decide) ?_
      exact r_iret X dL_ends_27 hret hQ rfl
    ·
      refine r_lconst X dL_ends_13 (v := (1 : Int64)) (by decide) ?_
      refine r_goto X dL_ends_14 (tgt := 18) (by decide) ?_
      refine r_last (x := (1 : Int32)) X dL_ends_18 tw_kc1036 (by decide) (fun s9 => ?_)
      refine r_goto X dL_ends_19 (tgt := 26) (by decide) ?_
      refine r_iconst X dL_ends_26 (v := (0 : Int32)) (by decide) ?_
      exact r_iret X dL_ends_27 hret hQ rfl
  ·
    have hM := tw_mx_X11_ends (l := tw_zl z) (B := tw_zB z) (D := tw_zD z) (C := tw_zC z) (S := tw_zS z) hst hx
    refine r_ite (fun he => ?_) (fun he => ?_)
    ·
      subst he
      refine r_callVC (st := [.int 0, .ref (tw_zB z + 1036)]) (As := [.int x1, .int x2, .int x3]) (k := 0) X dL_ends_7 hM tw_y_X11_ends tw_v_X11_ends _ tw_x1113 rfl (tw_kd_lt tw_kc0 (by decide)) (tw_E11 tw_kc0) rfl ⟨rfl, rfl, tw_le hfr rfl, tw_le hlo rfl⟩ hc1 (Nat.le_of_ble_eq_true rfl) rfl [] ⟨0, 19, 22, 22⟩ [] htab (fun q h => nomatch h) (by decide) (by decide) _ tw_x1095 (List.mem_of_getElem? tw_x856) (fun q => ?_)
      refine r_astore (L' := [(5, .ref q), (0, .ref (tw_zB z + 0)), (1, .int x1), (2, .int x2), (3, .int x3), (4, .ref (tw_zB z + 1036))]) X.c1 dL_ends_22 (by decide) rfl ?_
      refine r_iconst X.c1 dL_ends_24 (v := (1 : Int32)) (by decide) ?_
      exact r_iret X.c1 dL_ends_25 hret hQ1 rfl
    ·
      intro hE; cases hE
def tw_P_L_why (n : Nat) (x1 : Int32) (x2 : Int32) (σ : tw_Sg) : Option (Int32 × tw_Sg) := tw_bc (tw_P_X11_why n x1 x2 σ) (fun r => tw_ck (tw_ok (0 : Int32) (tw_ln 1036)) (tw_lt (tw_up σ 1036 (Int32.toNatClampNeg (0 : Int32)) r) (fun (s9 : tw_Sg) => some ((0 : Int32), s9)))) (fun x => if x = "java/lang/IndexOutOfBoundsException" then some ((1 : Int32), σ) else none)
theorem tw_x1120 : lw_tbl[1120]? = some ((Jvm.Cond.codeWith ({ cls := "TreasureWalkLaw", name := "why", desc := "(LTreasureWalk;II[J)I" } : Jvm.MethodName) method_9_code (5 : Nat) (Option.some Jvm.ClassFile.FieldType.int) [((0 : Nat), (10 : Nat), (13 : Nat), (22 : Nat))])) := by decide +kernel
theorem tw_x1119 : lw_tbl[1119]? = some ((Jvm.Cond.static ({ cls := "TreasureWalkLaw", name := "why", desc := "(LTreasureWalk;II[J)I" } : Jvm.MethodName))) := by decide +kernel
theorem tw_y_L_why : tw_Mw yL_why cL_why 5 (some .int) [((0 : Nat), (10 : Nat), (13 : Nat), (22 : Nat))] 4 := ⟨List.mem_of_getElem? tw_x1120, List.mem_of_getElem? tw_x87, by decide +kernel, by decide +kernel, List.mem_of_getElem? tw_x1119⟩
theorem tw_x1121 : lw_tbl[1121]? = some ((Jvm.Cond.methodLink "TreasureWalkLaw" (35 : Nat) ({ cls := "TreasureWalk", name := "why", desc := "(II)I" } : Jvm.MethodName))) := by decide +kernel
set_option maxRecDepth 100000 in
set_option maxHeartbeats 4000000 in
theorem tw_m_L_why {l : Launch} {B : Nat} {D : va_G} {C : Nat → ClassId} {S : Nat → Nat} {n : Nat} {x1 : Int32} {x2 : Int32} {σ : tw_Sg} (hst : l.stackTraces = false) {r : Int32 × tw_Sg} (h : tw_P_L_why n x1 x2 σ = some r) : tw_MetW l B D C S yL_why cL_why 5 (some .int) [((0 : Nat), (10 : Nat), (13 : Nat), (22 : Nat))] ({ frames := 8, cells := 1, slots := 6, locals := 135 } : Room) [.ref (B + 0), .int x1, .int x2, .ref (B + 1036)] σ (some (.int r.1)) r.2 := by
  refine tw_metOfW (rm := ({ frames := 8, cells := 0, slots := 0, locals := 135 } : Room)) (tw_P_L_why n x1 x2 σ) r h (fun r => (some (.int r.1), r.2)) (by decide +kernel) (Nat.le_of_ble_eq_true rfl) ?_
  intro z el eB eD eC eS hfr hlo hcs hc1 X hret htab hQ hQ1
  subst el eB eD eC eS
  have X : tw_X z cL_why "TreasureWalkLaw" 5 := X
  show tw_Rf z r _ σ 0 [(0, .ref (tw_zB z + 0)), (1, .int x1), (2, .int x2), (3, .ref (tw_zB z + 1036))] []
  unfold tw_P_L_why
  refine r_aload_n X dL_why_0 rfl 3 rfl ?_
  refine r_iconst X dL_why_1 (v := (0 : Int32)) (by decide) ?_
  refine r_aload_n X dL_why_2 rfl 0 rfl ?_
  refine r_iload_n X dL_why_3 rfl 1 rfl ?_
  refine r_iload_n X dL_why_4 rfl 2 rfl ?_
  refine r_bc (fun r hr => ?_) (fun x hx => ?_)
  ·
    refine tw_c_X11_why X dL_why_5 _ tw_x1121  hr (tw_le hfr rfl) (tw_le hlo rfl) hcs (Nat.le_of_ble_eq_true rfl) trivial ?_
    refine r_i2l X dL_why_8 ?_
    refine r_last (x := r) X dL_why_9 tw_kc1036 rfl (fun s9 => ?_)
    refine r_goto X dL_why_10 (tgt := 17) (by decide) ?_
    refine r_iconst X dL_why_17 (v := (0 : Int32)) (by decide) ?_
    exact r_iret X dL_why_18 hret hQ rfl
  ·
    have hM := tw_mx_X11_why (l := tw_zl z) (B := tw_zB z) (D := tw_zD z) (C := tw_zC z) (S := tw_zS z) hst hx
    refine r_ite (fun he => ?_) (fun he => ?_)
    ·
      subst he
      refine r_callVC (st := [.int 0, .ref (tw_zB z + 1036)]) (As := [.int x1, .int x2]) (k := 0) X dL_why_5 hM tw_y_X11_why tw_v_X11_why _ tw_x1121 rfl (tw_kd_lt tw_kc0 (by decide)) (tw_E11 tw_kc0) rfl ⟨rfl, rfl, tw_le hfr rfl, tw_le hlo rfl⟩ hc1 (Nat.le_of_ble_eq_true rfl) rfl [] ⟨0, 10, 13, 22⟩ [] htab (fun q h => nomatch h) (by decide) (by decide) _ tw_x1095 (List.mem_of_getElem? tw_x856) (fun q => ?_)
      refine r_astore (L' := [(4, .ref q), (0, .ref (tw_zB z + 0)), (1, .int x1), (2, .int x2), (3, .ref (tw_zB z + 1036))]) X.c1 dL_why_13 (by decide) rfl ?_
      refine r_iconst X.c1 dL_why_15 (v := (1 : Int32)) (by decide) ?_
      exact r_iret X.c1 dL_why_16 hret hQ1 rfl
    ·
      intro hE; cases hE
def tw_P_L_walk (n : Nat) (x1 : Int32) (x2 : Int32) (x3 : Int32) (x4 : Int32) (σ : tw_Sg) : Option (Int32 × tw_Sg) := tw_bc (tw_P_X11_walk n x1 x2 x3 x4 σ) (fun r => tw_ck (tw_ok (0 : Int32) (tw_ln 1036)) (tw_lt (tw_up r.2 1036 (Int32.toNatClampNeg (0 : Int32)) r.1) (fun (s9 : tw_Sg) => some ((0 : Int32), s9)))) (fun x => if x = "java/lang/IndexOutOfBoundsException" then some ((1 : Int32), σ) else if x = "java/util/NoSuchElementException" then some ((2 : Int32), σ) else none)
theorem tw_x1131 : lw_tbl[1131]? = some ((Jvm.Cond.codeWith ({ cls := "TreasureWalkLaw", name := "walk", desc := "(LTreasureWalk;IIII[J)I" } : Jvm.MethodName) method_10_code (7 : Nat) (Option.some Jvm.ClassFile.FieldType.int) [((0 : Nat), (14 : Nat), (17 : Nat), (22 : Nat)), ((0 : Nat), (14 : Nat), (21 : Nat), (42 : Nat))])) := by decide +kernel
theorem tw_x1130 : lw_tbl[1130]? = some ((Jvm.Cond.static ({ cls := "TreasureWalkLaw", name := "walk", desc := "(LTreasureWalk;IIII[J)I" } : Jvm.MethodName))) := by decide +kernel
theorem tw_y_L_walk : tw_Mw yL_walk cL_walk 7 (some .int) [((0 : Nat), (14 : Nat), (17 : Nat), (22 : Nat)), ((0 : Nat), (14 : Nat), (21 : Nat), (42 : Nat))] 6 := ⟨List.mem_of_getElem? tw_x1131, List.mem_of_getElem? tw_x87, by decide +kernel, by decide +kernel, List.mem_of_getElem? tw_x1130⟩
theorem tw_x1133 : lw_tbl[1133]? = some ((Jvm.Cond.methodLink "TreasureWalkLaw" (38 : Nat) ({ cls := "TreasureWalk", name := "walk", desc := "(IIII)I" } : Jvm.MethodName))) := by decide +kernel
theorem tw_x1132 : lw_tbl[1132]? = some ((Jvm.Cond.classLink "TreasureWalkLaw" (42 : Nat) "java/util/NoSuchElementException")) := by decide +kernel
theorem tw_x1140 : lw_tbl[1140]? = some ((Jvm.Cond.castable "java/util/NoSuchElementException" "java/util/NoSuchElementException")) := by decide +kernel
set_option maxRecDepth 100000 in
set_option maxHeartbeats 4000000 in
theorem tw_m_L_walk {l : Launch} {B : Nat} {D : va_G} {C : Nat → ClassId} {S : Nat → Nat} {n : Nat} {x1 : Int32} {x2 : Int32} {x3 : Int32} {x4 : Int32} {σ : tw_Sg} (hst : l.stackTraces = false) {r : Int32 × tw_Sg} (h : tw_P_L_walk n x1 x2 x3 x4 σ = some r) : tw_MetW l B D C S yL_walk cL_walk 7 (some .int) [((0 : Nat), (14 : Nat), (17 : Nat), (22 : Nat)), ((0 : Nat), (14 : Nat), (21 : Nat), (42 : Nat))] ({ frames := 8, cells := 1, slots := 6, locals := 172 } : Room) [.ref (B + 0), .int x1, .int x2, .int x3, .int x4, .ref (B + 1036)] σ (some (.int r.1)) r.2 := by
  refine tw_metOfW (rm := ({ frames := 8, cells := 0, slots := 0, locals := 172 } : Room)) (tw_P_L_walk n x1 x2 x3 x4 σ) r h (fun r => (some (.int r.1), r.2)) (by decide +kernel) (Nat.le_of_ble_eq_true rfl) ?_
  intro z el eB eD eC eS hfr hlo hcs hc1 X hret htab hQ hQ1
  subst el eB eD eC eS
  have X : tw_X z cL_walk "TreasureWalkLaw" 7 := X
  show tw_Rf z r _ σ 0 [(0, .ref (tw_zB z + 0)), (1, .int x1), (2, .int x2), (3, .int x3), (4, .int x4), (5, .ref (tw_zB z + 1036))] []
  unfold tw_P_L_walk
  refine r_aload X dL_walk_0 5 rfl ?_
  refine r_iconst X dL_walk_2 (v := (0 : Int32)) (by decide) ?_
  refine r_aload_n X dL_walk_3 rfl 0 rfl ?_
  refine r_iload_n X dL_walk_4 rfl 1 rfl ?_
  refine r_iload_n X dL_walk_5 rfl 2 rfl ?_
  refine r_iload_n X dL_walk_6 rfl 3 rfl ?_
  refine r_iload X dL_walk_7 4 rfl ?_
  refine r_bc (fun r hr => ?_) (fun x hx => ?_)
  ·
    refine tw_c_X11_walk X dL_walk_9 _ tw_x1133  hr (tw_le hfr rfl) (tw_le hlo rfl) hcs (Nat.le_of_ble_eq_true rfl) trivial ?_
    refine r_i2l X dL_walk_12 ?_
    refine r_last (x := r.1) X dL_walk_13 tw_kc1036 rfl (fun s9 => ?_)
    refine r_goto X dL_walk_14 (tgt := 25) (by decide) ?_
    refine r_iconst X dL_walk_25 (v := (0 : Int32)) (by decide) ?_
    exact r_iret X dL_walk_26 hret hQ rfl
  ·
    have hM := tw_mx_X11_walk (l := tw_zl z) (B := tw_zB z) (D := tw_zD z) (C := tw_zC z) (S := tw_zS z) hst hx
    refine r_ite (fun he => ?_) (fun he => ?_)
    ·
      subst he
      refine r_callVC (st := [.int 0, .ref (tw_zB z + 1036)]) (As := [.int x1, .int x2, .int x3, .int x4]) (k := 0) X dL_walk_9 hM tw_y_X11_walk tw_v_X11_walk _ tw_x1133 rfl (tw_kd_lt tw_kc0 (by decide)) (tw_E11 tw_kc0) rfl ⟨rfl, rfl, tw_le hfr rfl, tw_le hlo rfl⟩ hc1 (Nat.le_of_ble_eq_true rfl) rfl [] ⟨0, 14, 17, 22⟩ [⟨0, 14, 21, 42⟩] htab (fun q h => nomatch h) (by decide) (by decide) _ tw_x1095 (List.mem_of_getElem? tw_x856) (fun q => ?_)
      refine r_astore (L' := [(6, .ref q), (0, .ref (tw_zB z + 0)), (1, .int x1), (2, .int x2), (3, .int x3), (4, .int x4), (5, .ref (tw_zB z + 1036))]) X.c1 dL_walk_17 (by decide) rfl ?_
      refine r_iconst X.c1 dL_walk_19 (v := (1 : Int32)) (by decide) ?_
      exact r_iret X.c1 dL_walk_20 hret hQ1 rfl
    ·
      refine r_ite (fun he => ?_) (fun he => ?_)
      ·
        subst he
        refine r_callVC (st := [.int 0, .ref (tw_zB z + 1036)]) (As := [.int x1, .int x2, .int x3, .int x4]) (k := 0) X dL_walk_9 hM tw_y_X11_walk tw_v_X11_walk _ tw_x1133 rfl (tw_kd_lt tw_kc0 (by decide)) (tw_E11 tw_kc0) rfl ⟨rfl, rfl, tw_le hfr rfl, tw_le hlo rfl⟩ hc1 (Nat.le_of_ble_eq_true rfl) rfl [⟨0, 14, 17, 22⟩] ⟨0, 14, 21, 42⟩ [] htab (fun q h => by rw [List.mem_singleton.mp h]; exact Or.inr ⟨by decide, _, X.ws _ tw_x1095 rfl, X.2.2.2.2.2.1.2.2.2.2.2.2.1.2⟩) (by decide) (by decide) _ tw_x1132 (List.mem_of_getElem? tw_x1140) (fun q => ?_)
        refine r_astore (L' := [(6, .ref q), (0, .ref (tw_zB z + 0)), (1, .int x1), (2, .int x2), (3, .int x3), (4, .int x4), (5, .ref (tw_zB z + 1036))]) X.c1 dL_walk_21 (by decide) rfl ?_
        refine r_iconst X.c1 dL_walk_23 (v := (2 : Int32)) (by decide) ?_
        exact r_iret X.c1 dL_walk_24 hret hQ1 rfl
      ·
        intro hE; cases hE
def tw_P_L_starts (n : Nat) (x1 : Int32) (x2 : Int32) (x3 : Int32) (σ : tw_Sg) : Option (Int32 × tw_Sg) := tw_bc (tw_P_X11_starts n x1 x2 x3 σ) (fun r => tw_ck (tw_ok (0 : Int32) (tw_ln 1036)) (tw_lt (tw_up r.2 1036 (Int32.toNatClampNeg (0 : Int32)) r.1) (fun (s9 : tw_Sg) => some ((0 : Int32), s9)))) (fun x => if x = "java/lang/IndexOutOfBoundsException" then some ((1 : Int32), σ) else none)
theorem tw_x1176 : lw_tbl[1176]? = some ((Jvm.Cond.codeWith ({ cls := "TreasureWalkLaw", name := "starts", desc := "(LTreasureWalk;III[J)I" } : Jvm.MethodName) method_11_code (6 : Nat) (Option.some Jvm.ClassFile.FieldType.int) [((0 : Nat), (12 : Nat), (15 : Nat), (22 : Nat))])) := by decide +kernel
theorem tw_x1175 : lw_tbl[1175]? = some ((Jvm.Cond.static ({ cls := "TreasureWalkLaw", name := "starts", desc := "(LTreasureWalk;III[J)I" } : Jvm.MethodName))) := by decide +kernel
theorem tw_y_L_starts : tw_Mw yL_starts cL_starts 6 (some .int) [((0 : Nat), (12 : Nat), (15 : Nat), (22 : Nat))] 5 := ⟨List.mem_of_getElem? tw_x1176, List.mem_of_getElem? tw_x87, by decide +kernel, by decide +kernel, List.mem_of_getElem? tw_x1175⟩
theorem tw_x1177 : lw_tbl[1177]? = some ((Jvm.Cond.methodLink "TreasureWalkLaw" (44 : Nat) ({ cls := "TreasureWalk", name := "starts", desc := "(III)I" } : Jvm.MethodName))) := by decide +kernel
set_option maxRecDepth 100000 in
set_option maxHeartbeats 4000000 in
theorem tw_m_L_starts {l : Launch} {B : Nat} {D : va_G} {C : Nat → ClassId} {S : Nat → Nat} {n : Nat} {x1 : Int32} {x2 : Int32} {x3 : Int32} {σ : tw_Sg} (hst : l.stackTraces = false) {r : Int32 × tw_Sg} (h : tw_P_L_starts n x1 x2 x3 σ = some r) : tw_MetW l B D C S yL_starts cL_starts 6 (some .int) [((0 : Nat), (12 : Nat), (15 : Nat), (22 : Nat))] ({ frames := 8, cells := 1, slots := 6, locals := 169 } : Room) [.ref (B + 0), .int x1, .int x2, .int x3, .ref (B + 1036)] σ (some (.int r.1)) r.2 := by
  refine tw_metOfW (rm := ({ frames := 8, cells := 0, slots := 0, locals := 169 } : Room)) (tw_P_L_starts n x1 x2 x3 σ) r h (fun r => (some (.int r.1), r.2)) (by decide +kernel) (Nat.le_of_ble_eq_true rfl) ?_
  intro z el eB eD eC eS hfr hlo hcs hc1 X hret htab hQ hQ1
  subst el eB eD eC eS
  have X : tw_X z cL_starts "TreasureWalkLaw" 6 := X
  show tw_Rf z r _ σ 0 [(0, .ref (tw_zB z + 0)), (1, .int x1), (2, .int x2), (3, .int x3), (4, .ref (tw_zB z + 1036))] []
  unfold tw_P_L_starts
  refine r_aload X dL_starts_0 4 rfl ?_
  refine r_iconst X dL_starts_2 (v := (0 : Int32)) (by decide) ?_
  refine r_aload_n X dL_starts_3 rfl 0 rfl ?_
  refine r_iload_n X dL_starts_4 rfl 1 rfl ?_
  refine r_iload_n X dL_starts_5 rfl 2 rfl ?_
  refine r_iload_n X dL_starts_6 rfl 3 rfl ?_
  refine r_bc (fun r hr => ?_) (fun x hx => ?_)
  ·
    refine tw_c_X11_starts X dL_starts_7 _ tw_x1177  hr (tw_le hfr rfl) (tw_le hlo rfl) hcs (Nat.le_of_ble_eq_true rfl) trivial ?_
    refine r_i2l X dL_starts_10 ?_
    refine r_last (x := r.1) X dL_starts_11 tw_kc1036 rfl (fun s9 => ?_)
    refine r_goto X dL_starts_12 (tgt := 19) (by decide) ?_
    refine r_iconst X dL_starts_19 (v := (0 : Int32)) (by decide) ?_
    exact r_iret X dL_starts_20 hret hQ rfl
  ·
    have hM := tw_mx_X11_starts (l := tw_zl z) (B := tw_zB z) (D := tw_zD z) (C := tw_zC z) (S := tw_zS z) hst hx
    refine r_ite (fun he => ?_) (fun he => ?_)
    ·
      subst he
      refine r_callVC (st := [.int 0, .ref (tw_zB z + 1036)]) (As := [.int x1, .int x2, .int x3]) (k := 0) X dL_starts_7 hM tw_y_X11_starts tw_v_X11_starts _ tw_x1177 rfl (tw_kd_lt tw_kc0 (by decide)) (tw_E11 tw_kc0) rfl ⟨rfl, rfl, tw_le hfr rfl, tw_le hlo rfl⟩ hc1 (Nat.le_of_ble_eq_true rfl) rfl [] ⟨0, 12, 15, 22⟩ [] htab (fun q h => nomatch h) (by decide) (by decide) _ tw_x1095 (List.mem_of_getElem? tw_x856) (fun q => ?_)
      refine r_astore (L' := [(5, .ref q), (0, .ref (tw_zB z + 0)), (1, .int x1), (2, .int x2), (3, .int x3), (4, .ref (tw_zB z + 1036))]) X.c1 dL_starts_15 (by decide) rfl ?_
      refine r_iconst X.c1 dL_starts_17 (v := (1 : Int32)) (by decide) ?_
      exact r_iret X.c1 dL_starts_18 hret hQ1 rfl
    ·
      intro hE; cases hE
def tw_P_L_distance (n : Nat) (x1 : Int32) (x2 : Int32) (σ : tw_Sg) : Option (Int32 × tw_Sg) := tw_bc (tw_P_X11_distance n x1 x2 σ) (fun r => tw_ck (tw_ok (0 : Int32) (tw_ln 1036)) (tw_lt (tw_up r.2 1036 (Int32.toNatClampNeg (0 : Int32)) r.1) (fun (s9 : tw_Sg) => some ((0 : Int32), s9)))) (fun x => if x = "java/lang/IndexOutOfBoundsException" then some ((1 : Int32), σ) else none)
theorem tw_x1187 : lw_tbl[1187]? = some ((Jvm.Cond.codeWith ({ cls := "TreasureWalkLaw", name := "distance", desc := "(LTreasureWalk;II[J)I" } : Jvm.MethodName) method_12_code (5 : Nat) (Option.some Jvm.ClassFile.FieldType.int) [((0 : Nat), (10 : Nat), (13 : Nat), (22 : Nat))])) := by decide +kernel
theorem tw_x1186 : lw_tbl[1186]? = some ((Jvm.Cond.static ({ cls := "TreasureWalkLaw", name := "distance", desc := "(LTreasureWalk;II[J)I" } : Jvm.MethodName))) := by decide +kernel
theorem tw_y_L_distance : tw_Mw yL_distance cL_distance 5 (some .int) [((0 : Nat), (10 : Nat), (13 : Nat), (22 : Nat))] 4 := ⟨List.mem_of_getElem? tw_x1187, List.mem_of_getElem? tw_x87, by decide +kernel, by decide +kernel, List.mem_of_getElem? tw_x1186⟩
theorem tw_x1188 : lw_tbl[1188]? = some ((Jvm.Cond.methodLink "TreasureWalkLaw" (47 : Nat) ({ cls := "TreasureWalk", name := "distance", desc := "(II)I" } : Jvm.MethodName))) := by decide +kernel
set_option maxRecDepth 100000 in
set_option maxHeartbeats 4000000 in
theorem tw_m_L_distance {l : Launch} {B : Nat} {D : va_G} {C : Nat → ClassId} {S : Nat → Nat} {n : Nat} {x1 : Int32} {x2 : Int32} {σ : tw_Sg} (hst : l.stackTraces = false) {r : Int32 × tw_Sg} (h : tw_P_L_distance n x1 x2 σ = some r) : tw_MetW l B D C S yL_distance cL_distance 5 (some .int) [((0 : Nat), (10 : Nat), (13 : Nat), (22 : Nat))] ({ frames := 8, cells := 1, slots := 6, locals := 135 } : Room) [.ref (B + 0), .int x1, .int x2, .ref (B + 1036)] σ (some (.int r.1)) r.2 := by
  refine tw_metOfW (rm := ({ frames := 8, cells := 0, slots := 0, locals := 135 } : Room)) (tw_P_L_distance n x1 x2 σ) r h (fun r => (some (.int r.1), r.2)) (by decide +kernel) (Nat.le_of_ble_eq_true rfl) ?_
  intro z el eB eD eC eS hfr hlo hcs hc1 X hret htab hQ hQ1
  subst el eB eD eC eS
  have X : tw_X z cL_distance "TreasureWalkLaw" 5 := X
  show tw_Rf z r _ σ 0 [(0, .ref (tw_zB z + 0)), (1, .int x1), (2, .int x2), (3, .ref (tw_zB z + 1036))] []
  unfold tw_P_L_distance
  refine r_aload_n X dL_distance_0 rfl 3 rfl ?_
  refine r_iconst X dL_distance_1 (v := (0 : Int32)) (by decide) ?_
  refine r_aload_n X dL_distance_2 rfl 0 rfl ?_
  refine r_iload_n X dL_distance_3 rfl 1 rfl ?_
  refine r_iload_n X dL_distance_4 rfl 2 rfl ?_
  refine r_bc (fun r hr => ?_) (fun x hx => ?_)
  ·
    refine tw_c_X11_distance X dL_distance_5 _ tw_x1188  hr (tw_le hfr rfl) (tw_le hlo rfl) hcs (Nat.le_of_ble_eq_true rfl) trivial ?_
    refine r_i2l X dL_distance_8 ?_
    refine r_last (x := r.1) X dL_distance_9 tw_kc1036 rfl (fun s9 => ?_)
    refine r_goto X dL_distance_10 (tgt := 17) (by decide) ?_
    refine r_iconst X dL_distance_17 (v := (0 : Int32)) (by decide) ?_
    exact r_iret X dL_distance_18 hret hQ rfl
  ·
    have hM := tw_mx_X11_distance (l := tw_zl z) (B := tw_zB z) (D := tw_zD z) (C := tw_zC z) (S := tw_zS z) hst hx
    refine r_ite (fun he => ?_) (fun he => ?_)
    ·
      subst he
      refine r_callVC (st := [.int 0, .ref (tw_zB z + 1036)]) (As := [.int x1, .int x2]) (k := 0) X dL_distance_5 hM tw_y_X11_distance tw_v_X11_distance _ tw_x1188 rfl (tw_kd_lt tw_kc0 (by decide)) (tw_E11 tw_kc0) rfl ⟨rfl, rfl, tw_le hfr rfl, tw_le hlo rfl⟩ hc1 (Nat.le_of_ble_eq_true rfl) rfl [] ⟨0, 10, 13, 22⟩ [] htab (fun q h => nomatch h) (by decide) (by decide) _ tw_x1095 (List.mem_of_getElem? tw_x856) (fun q => ?_)
      refine r_astore (L' := [(4, .ref q), (0, .ref (tw_zB z + 0)), (1, .int x1), (2, .int x2), (3, .ref (tw_zB z + 1036))]) X.c1 dL_distance_13 (by decide) rfl ?_
      refine r_iconst X.c1 dL_distance_15 (v := (1 : Int32)) (by decide) ?_
      exact r_iret X.c1 dL_distance_16 hret hQ1 rfl
    ·
      intro hE; cases hE
def tw_P_L_part (n : Nat) (x1 : Int32) (x2 : Int32) (σ : tw_Sg) : Option (Int32 × tw_Sg) := tw_bc (tw_P_X11_part n x1 x2 σ) (fun r => tw_ck (tw_ok (0 : Int32) (tw_ln 1036)) (tw_lt (tw_up r.2 1036 (Int32.toNatClampNeg (0 : Int32)) r.1) (fun (s9 : tw_Sg) => some ((0 : Int32), s9)))) (fun x => if x = "java/lang/IndexOutOfBoundsException" then some ((1 : Int32), σ) else none)
theorem tw_x1195 : lw_tbl[1195]? = some ((Jvm.Cond.codeWith ({ cls := "TreasureWalkLaw", name := "part", desc := "(LTreasureWalk;II[J)I" } : Jvm.MethodName) method_13_code (5 : Nat) (Option.some Jvm.ClassFile.FieldType.int) [((0 : Nat), (10 : Nat), (13 : Nat), (22 : Nat))])) := by decide +kernel
theorem tw_x1194 : lw_tbl[1194]? = some ((Jvm.Cond.static ({ cls := "TreasureWalkLaw", name := "part", desc := "(LTreasureWalk;II[J)I" } : Jvm.MethodName))) := by decide +kernel
theorem tw_y_L_part : tw_Mw yL_part cL_part 5 (some .int) [((0 : Nat), (10 : Nat), (13 : Nat), (22 : Nat))] 4 := ⟨List.mem_of_getElem? tw_x1195, List.mem_of_getElem? tw_x87, by decide +kernel, by decide +kernel, List.mem_of_getElem? tw_x1194⟩
theorem tw_x1196 : lw_tbl[1196]? = some ((Jvm.Cond.methodLink "TreasureWalkLaw" (50 : Nat) ({ cls := "TreasureWalk", name := "part", desc := "(II)I" } : Jvm.MethodName))) := by decide +kernel
set_option maxRecDepth 100000 in
set_option maxHeartbeats 4000000 in
theorem tw_m_L_part {l : Launch} {B : Nat} {D : va_G} {C : Nat → ClassId} {S : Nat → Nat} {n : Nat} {x1 : Int32} {x2 : Int32} {σ : tw_Sg} (hst : l.stackTraces = false) {r : Int32 × tw_Sg} (h : tw_P_L_part n x1 x2 σ = some r) : tw_MetW l B D C S yL_part cL_part 5 (some .int) [((0 : Nat), (10 : Nat), (13 : Nat), (22 : Nat))] ({ frames := 8, cells := 1, slots := 6, locals := 166 } : Room) [.ref (B + 0), .int x1, .int x2, .ref (B + 1036)] σ (some (.int r.1)) r.2 := by
  refine tw_metOfW (rm := ({ frames := 8, cells := 0, slots := 0, locals := 166 } : Room)) (tw_P_L_part n x1 x2 σ) r h (fun r => (some (.int r.1), r.2)) (by decide +kernel) (Nat.le_of_ble_eq_true rfl) ?_
  intro z el eB eD eC eS hfr hlo hcs hc1 X hret htab hQ hQ1
  subst el eB eD eC eS
  have X : tw_X z cL_part "TreasureWalkLaw" 5 := X
  show tw_Rf z r _ σ 0 [(0, .ref (tw_zB z + 0)), (1, .int x1), (2, .int x2), (3, .ref (tw_zB z + 1036))] []
  unfold tw_P_L_part
  refine r_aload_n X dL_part_0 rfl 3 rfl ?_
  refine r_iconst X dL_part_1 (v := (0 : Int32)) (by decide) ?_
  refine r_aload_n X dL_part_2 rfl 0 rfl ?_
  refine r_iload_n X dL_part_3 rfl 1 rfl ?_
  refine r_iload_n X dL_part_4 rfl 2 rfl ?_
  refine r_bc (fun r hr => ?_) (fun x hx => ?_)
  ·
    refine tw_c_X11_part X dL_part_5 _ tw_x1196  hr (tw_le hfr rfl) (tw_le hlo rfl) hcs (Nat.le_of_ble_eq_true rfl) trivial ?_
    refine r_i2l X dL_part_8 ?_
    refine r_last (x := r.1) X dL_part_9 tw_kc1036 rfl (fun s9 => ?_)
    refine r_goto X dL_part_10 (tgt := 17) (by decide) ?_
    refine r_iconst X dL_part_17 (v := (0 : Int32)) (by decide) ?_
    exact r_iret X dL_part_18 hret hQ rfl
  ·
    have hM := tw_mx_X11_part (l := tw_zl z) (B := tw_zB z) (D := tw_zD z) (C := tw_zC z) (S := tw_zS z) hst hx
    refine r_ite (fun he => ?_) (fun he => ?_)
    ·
      subst he
      refine r_callVC (st := [.int 0, .ref (tw_zB z + 1036)]) (As := [.int x1, .int x2]) (k := 0) X dL_part_5 hM tw_y_X11_part tw_v_X11_part _ tw_x1196 rfl (tw_kd_lt tw_kc0 (by decide)) (tw_E11 tw_kc0) rfl ⟨rfl, rfl, tw_le hfr rfl, tw_le hlo rfl⟩ hc1 (Nat.le_of_ble_eq_true rfl) rfl [] ⟨0, 10, 13, 22⟩ [] htab (fun q h => nomatch h) (by decide) (by decide) _ tw_x1095 (List.mem_of_getElem? tw_x856) (fun q => ?_)
      refine r_astore (L' := [(4, .ref q), (0, .ref (tw_zB z + 0)), (1, .int x1), (2, .int x2), (3, .ref (tw_zB z + 1036))]) X.c1 dL_part_13 (by decide) rfl ?_
      refine r_iconst X.c1 dL_part_15 (v := (1 : Int32)) (by decide) ?_
      exact r_iret X.c1 dL_part_16 hret hQ1 rfl
    ·
      intro hE; cases hE
def tw_P_L_moveTo (n : Nat) (x1 : Int32) (x2 : Int32) (σ : tw_Sg) : Option (Int32 × tw_Sg) := tw_bc (tw_P_X11_moveTo n x1 x2 σ) (fun r => tw_ck (tw_ok (0 : Int32) (tw_ln 1036)) (tw_lt (tw_up r.2 1036 (Int32.toNatClampNeg (0 : Int32)) r.1) (fun (s9 : tw_Sg) => some ((0 : Int32), s9)))) (fun x => if x = "java/lang/IndexOutOfBoundsException" then some ((1 : Int32), σ) else none)
theorem tw_x1206 : lw_tbl[1206]? = some ((Jvm.Cond.codeWith ({ cls := "TreasureWalkLaw", name := "moveTo", desc := "(LTreasureWalk;II[J)I" } : Jvm.MethodName) method_14_code (5 : Nat) (Option.some Jvm.ClassFile.FieldType.int) [((0 : Nat), (10 : Nat), (13 : Nat), (22 : Nat))])) := by decide +kernel
theorem tw_x1205 : lw_tbl[1205]? = some ((Jvm.Cond.static ({ cls := "TreasureWalkLaw", name := "moveTo", desc := "(LTreasureWalk;II[J)I" } : Jvm.MethodName))) := by decide +kernel
theorem tw_y_L_moveTo : tw_Mw yL_moveTo cL_moveTo 5 (some .int) [((0 : Nat), (10 : Nat), (13 : Nat), (22 : Nat))] 4 := ⟨List.mem_of_getElem? tw_x1206, List.mem_of_getElem? tw_x87, by decide +kernel, by decide +kernel, List.mem_of_getElem? tw_x1205⟩
theorem tw_x1207 : lw_tbl[1207]? = some ((Jvm.Cond.methodLink "TreasureWalkLaw" (53 : Nat) ({ cls := "TreasureWalk", name := "moveTo", desc := "(II)I" } : Jvm.MethodName))) := by decide +kernel
set_option maxRecDepth 100000 in
set_option maxHeartbeats 4000000 in
theorem tw_m_L_moveTo {l : Launch} {B : Nat} {D : va_G} {C : Nat → ClassId} {S : Nat → Nat} {n : Nat} {x1 : Int32} {x2 : Int32} {σ : tw_Sg} (hst : l.stackTraces = false) {r : Int32 × tw_Sg} (h : tw_P_L_moveTo n x1 x2 σ = some r) : tw_MetW l B D C S yL_moveTo cL_moveTo 5 (some .int) [((0 : Nat), (10 : Nat), (13 : Nat), (22 : Nat))] ({ frames := 8, cells := 1, slots := 6, locals := 170 } : Room) [.ref (B + 0), .int x1, .int x2, .ref (B + 1036)] σ (some (.int r.1)) r.2 := by
  refine tw_metOfW (rm := ({ frames := 8, cells := 0, slots := 0, locals := 170 } : Room)) (tw_P_L_moveTo n x1 x2 σ) r h (fun r => (some (.int r.1), r.2)) (by decide +kernel) (Nat.le_of_ble_eq_true rfl) ?_
  intro z el eB eD eC eS hfr hlo hcs hc1 X hret htab hQ hQ1
  subst el eB eD eC eS
  have X : tw_X z cL_moveTo "TreasureWalkLaw" 5 := X
  show tw_Rf z r _ σ 0 [(0, .ref (tw_zB z + 0)), (1, .int x1), (2, .int x2), (3, .ref (tw_zB z + 1036))] []
  unfold tw_P_L_moveTo
  refine r_aload_n X dL_moveTo_0 rfl 3 rfl ?_
  refine r_iconst X dL_moveTo_1 (v := (0 : Int32)) (by decide) ?_
  refine r_aload_n X dL_moveTo_2 rfl 0 rfl ?_
  refine r_iload_n X dL_moveTo_3 rfl 1 rfl ?_
  refine r_iload_n X dL_moveTo_4 rfl 2 rfl ?_
  refine r_bc (fun r hr => ?_) (fun x hx => ?_)
  ·
    refine tw_c_X11_moveTo X dL_moveTo_5 _ tw_x1207  hr (tw_le hfr rfl) (tw_le hlo rfl) hcs (Nat.le_of_ble_eq_true rfl) trivial ?_
    refine r_i2l X dL_moveTo_8 ?_
    refine r_last (x := r.1) X dL_moveTo_9 tw_kc1036 rfl (fun s9 => ?_)
    refine r_goto X dL_moveTo_10 (tgt := 17) (by decide) ?_
    refine r_iconst X dL_moveTo_17 (v := (0 : Int32)) (by decide) ?_
    exact r_iret X dL_moveTo_18 hret hQ rfl
  ·
    have hM := tw_mx_X11_moveTo (l := tw_zl z) (B := tw_zB z) (D := tw_zD z) (C := tw_zC z) (S := tw_zS z) hst hx
    refine r_ite (fun he => ?_) (fun he => ?_)
    ·
      subst he
      refine r_callVC (st := [.int 0, .ref (tw_zB z + 1036)]) (As := [.int x1, .int x2]) (k := 0) X dL_moveTo_5 hM tw_y_X11_moveTo tw_v_X11_moveTo _ tw_x1207 rfl (tw_kd_lt tw_kc0 (by decide)) (tw_E11 tw_kc0) rfl ⟨rfl, rfl, tw_le hfr rfl, tw_le hlo rfl⟩ hc1 (Nat.le_of_ble_eq_true rfl) rfl [] ⟨0, 10, 13, 22⟩ [] htab (fun q h => nomatch h) (by decide) (by decide) _ tw_x1095 (List.mem_of_getElem? tw_x856) (fun q => ?_)
      refine r_astore (L' := [(4, .ref q), (0, .ref (tw_zB z + 0)), (1, .int x1), (2, .int x2), (3, .ref (tw_zB z + 1036))]) X.c1 dL_moveTo_13 (by decide) rfl ?_
      refine r_iconst X.c1 dL_moveTo_15 (v := (1 : Int32)) (by decide) ?_
      exact r_iret X.c1 dL_moveTo_16 hret hQ1 rfl
    ·
      intro hE; cases hE
def tw_P_L_use (n : Nat) (x1 : Int32) (x2 : Int32) (σ : tw_Sg) : Option (Int32 × tw_Sg) := tw_bc (tw_P_X11_use n x1 x2 σ) (fun r => tw_ck (tw_ok (0 : Int32) (tw_ln 1036)) (tw_lt (tw_up r.2 1036 (Int32.toNatClampNeg (0 : Int32)) r.1) (fun (s9 : tw_Sg) => some ((0 : Int32), s9)))) (fun x => if x = "java/lang/IndexOutOfBoundsException" then some ((1 : Int32), σ) else none)
theorem tw_x1213 : lw_tbl[1213]? = some ((Jvm.Cond.codeWith ({ cls := "TreasureWalkLaw", name := "use", desc := "(LTreasureWalk;IZ[J)I" } : Jvm.MethodName) method_15_code (5 : Nat) (Option.some Jvm.ClassFile.FieldType.int) [((0 : Nat), (10 : Nat), (13 : Nat), (22 : Nat))])) := by decide +kernel
theorem tw_x1212 : lw_tbl[1212]? = some ((Jvm.Cond.static ({ cls := "TreasureWalkLaw", name := "use", desc := "(LTreasureWalk;IZ[J)I" } : Jvm.MethodName))) := by decide +kernel
theorem tw_y_L_use : tw_Mw yL_use cL_use 5 (some .int) [((0 : Nat), (10 : Nat), (13 : Nat), (22 : Nat))] 4 := ⟨List.mem_of_getElem? tw_x1213, List.mem_of_getElem? tw_x87, by decide +kernel, by decide +kernel, List.mem_of_getElem? tw_x1212⟩
theorem tw_x1214 : lw_tbl[1214]? = some ((Jvm.Cond.methodLink "TreasureWalkLaw" (56 : Nat) ({ cls := "TreasureWalk", name := "use", desc := "(IZ)I" } : Jvm.MethodName))) := by decide +kernel
set_option maxRecDepth 100000 in
set_option maxHeartbeats 4000000 in
theorem tw_m_L_use {l : Launch} {B : Nat} {D : va_G} {C : Nat → ClassId} {S : Nat → Nat} {n : Nat} {x1 : Int32} {x2 : Int32} {σ : tw_Sg} (hst : l.stackTraces = false) {r : Int32 × tw_Sg} (h : tw_P_L_use n x1 x2 σ = some r) : tw_MetW l B D C S yL_use cL_use 5 (some .int) [((0 : Nat), (10 : Nat), (13 : Nat), (22 : Nat))] ({ frames := 8, cells := 1, slots := 6, locals := 168 } : Room) [.ref (B + 0), .int x1, .int x2, .ref (B + 1036)] σ (some (.int r.1)) r.2 := by
  refine tw_metOfW (rm := ({ frames := 8, cells := 0, slots := 0, locals := 168 } : Room)) (tw_P_L_use n x1 x2 σ) r h (fun r => (some (.int r.1), r.2)) (by decide +kernel) (Nat.le_of_ble_eq_true rfl) ?_
  intro z el eB eD eC eS hfr hlo hcs hc1 X hret htab hQ hQ1
  subst el eB eD eC eS
  have X : tw_X z cL_use "TreasureWalkLaw" 5 := X
  show tw_Rf z r _ σ 0 [(0, .ref (tw_zB z + 0)), (1, .int x1), (2, .int x2), (3, .ref (tw_zB z + 1036))] []
  unfold tw_P_L_use
  refine r_aload_n X dL_use_0 rfl 3 rfl ?_
  refine r_iconst X dL_use_1 (v := (0 : Int32)) (by decide) ?_
  refine r_aload_n X dL_use_2 rfl 0 rfl ?_
  refine r_iload_n X dL_use_3 rfl 1 rfl ?_
  refine r_iload_n X dL_use_4 rfl 2 rfl ?_
  refine r_bc (fun r hr => ?_) (fun x hx => ?_)
  ·
    refine tw_c_X11_use X dL_use_5 _ tw_x1214  hr (tw_le hfr rfl) (tw_le hlo rfl) hcs (Nat.le_of_ble_eq_true rfl) trivial ?_
    refine r_i2l X dL_use_8 ?_
    refine r_last (x := r.1) X dL_use_9 tw_kc1036 rfl (fun s9 => ?_)
    refine r_goto X dL_use_10 (tgt := 17) (by decide) ?_
    refine r_iconst X dL_use_17 (v := (0 : Int32)) (by decide) ?_
    exact r_iret X dL_use_18 hret hQ rfl
  ·
    have hM := tw_mx_X11_use (l := tw_zl z) (B := tw_zB z) (D := tw_zD z) (C := tw_zC z) (S := tw_zS z) hst hx
    refine r_ite (fun he => ?_) (fun he => ?_)
    ·
      subst he
      refine r_callVC (st := [.int 0, .ref (tw_zB z + 1036)]) (As := [.int x1, .int x2]) (k := 0) X dL_use_5 hM tw_y_X11_use tw_v_X11_use _ tw_x1214 rfl (tw_kd_lt tw_kc0 (by decide)) (tw_E11 tw_kc0) rfl ⟨rfl, rfl, tw_le hfr rfl, tw_le hlo rfl⟩ hc1 (Nat.le_of_ble_eq_true rfl) rfl [] ⟨0, 10, 13, 22⟩ [] htab (fun q h => nomatch h) (by decide) (by decide) _ tw_x1095 (List.mem_of_getElem? tw_x856) (fun q => ?_)
      refine r_astore (L' := [(4, .ref q), (0, .ref (tw_zB z + 0)), (1, .int x1), (2, .int x2), (3, .ref (tw_zB z + 1036))]) X.c1 dL_use_13 (by decide) rfl ?_
      refine r_iconst X.c1 dL_use_15 (v := (1 : Int32)) (by decide) ?_
      exact r_iret X.c1 dL_use_16 hret hQ1 rfl
    ·
      intro hE; cases hE
def tw_P_L_hide (n : Nat) (x1 : Int32) (σ : tw_Sg) : Option (Int32 × tw_Sg) := tw_bc (tw_P_X11_hide n x1 σ) (fun r => tw_ck (tw_ok (0 : Int32) (tw_ln 1036)) (tw_lt (tw_up r.2 1036 (Int32.toNatClampNeg (0 : Int32)) r.1) (fun (s9 : tw_Sg) => some ((0 : Int32), s9)))) (fun x => if x = "java/lang/IllegalArgumentException" then some ((1 : Int32), σ) else none)
theorem tw_x1221 : lw_tbl[1221]? = some ((Jvm.Cond.codeWith ({ cls := "TreasureWalkLaw", name := "hide", desc := "(LTreasureWalk;I[J)I" } : Jvm.MethodName) method_16_code (4 : Nat) (Option.some Jvm.ClassFile.FieldType.int) [((0 : Nat), (9 : Nat), (12 : Nat), (13 : Nat))])) := by decide +kernel
theorem tw_x1220 : lw_tbl[1220]? = some ((Jvm.Cond.static ({ cls := "TreasureWalkLaw", name := "hide", desc := "(LTreasureWalk;I[J)I" } : Jvm.MethodName))) := by decide +kernel
theorem tw_y_L_hide : tw_Mw yL_hide cL_hide 4 (some .int) [((0 : Nat), (9 : Nat), (12 : Nat), (13 : Nat))] 3 := ⟨List.mem_of_getElem? tw_x1221, List.mem_of_getElem? tw_x87, by decide +kernel, by decide +kernel, List.mem_of_getElem? tw_x1220⟩
theorem tw_x1222 : lw_tbl[1222]? = some ((Jvm.Cond.methodLink "TreasureWalkLaw" (60 : Nat) ({ cls := "TreasureWalk", name := "hide", desc := "(I)I" } : Jvm.MethodName))) := by decide +kernel
set_option maxRecDepth 100000 in
set_option maxHeartbeats 4000000 in
theorem tw_m_L_hide {l : Launch} {B : Nat} {D : va_G} {C : Nat → ClassId} {S : Nat → Nat} {n : Nat} {x1 : Int32} {σ : tw_Sg} (hst : l.stackTraces = false) {r : Int32 × tw_Sg} (h : tw_P_L_hide n x1 σ = some r) : tw_MetW l B D C S yL_hide cL_hide 4 (some .int) [((0 : Nat), (9 : Nat), (12 : Nat), (13 : Nat))] ({ frames := 7, cells := 1, slots := 6, locals := 169 } : Room) [.ref (B + 0), .int x1, .ref (B + 1036)] σ (some (.int r.1)) r.2 := by
  refine tw_metOfW (rm := ({ frames := 7, cells := 0, slots := 0, locals := 169 } : Room)) (tw_P_L_hide n x1 σ) r h (fun r => (some (.int r.1), r.2)) (by decide +kernel) (Nat.le_of_ble_eq_true rfl) ?_
  intro z el eB eD eC eS hfr hlo hcs hc1 X hret htab hQ hQ1
  subst el eB eD eC eS
  have X : tw_X z cL_hide "TreasureWalkLaw" 4 := X
  show tw_Rf z r _ σ 0 [(0, .ref (tw_zB z + 0)), (1, .int x1), (2, .ref (tw_zB z + 1036))] []
  unfold tw_P_L_hide
  refine r_aload_n X dL_hide_0 rfl 2 rfl ?_
  refine r_iconst X dL_hide_1 (v := (0 : Int32)) (by decide) ?_
  refine r_aload_n X dL_hide_2 rfl 0 rfl ?_
  refine r_iload_n X dL_hide_3 rfl 1 rfl ?_
  refine r_bc (fun r hr => ?_) (fun x hx => ?_)
  ·
    refine tw_c_X11_hide X dL_hide_4 _ tw_x1222  hr (tw_le hfr rfl) (tw_le hlo rfl) hcs (Nat.le_of_ble_eq_true rfl) trivial ?_
    refine r_i2l X dL_hide_7 ?_
    refine r_last (x := r.1) X dL_hide_8 tw_kc1036 rfl (fun s9 => ?_)
    refine r_goto X dL_hide_9 (tgt := 15) (by decide) ?_
    refine r_iconst X dL_hide_15 (v := (0 : Int32)) (by decide) ?_
    exact r_iret X dL_hide_16 hret hQ rfl
  ·
    have hM := tw_mx_X11_hide (l := tw_zl z) (B := tw_zB z) (D := tw_zD z) (C := tw_zC z) (S := tw_zS z) hst hx
    refine r_ite (fun he => ?_) (fun he => ?_)
    ·
      subst he
      refine r_callVC (st := [.int 0, .ref (tw_zB z + 1036)]) (As := [.int x1]) (k := 0) X dL_hide_4 hM tw_y_X11_hide tw_v_X11_hide _ tw_x1222 rfl (tw_kd_lt tw_kc0 (by decide)) (tw_E11 tw_kc0) rfl ⟨rfl, rfl, tw_le hfr rfl, tw_le hlo rfl⟩ hc1 (Nat.le_of_ble_eq_true rfl) rfl [] ⟨0, 9, 12, 13⟩ [] htab (fun q h => nomatch h) (by decide) (by decide) _ tw_x886 (List.mem_of_getElem? tw_x780) (fun q => ?_)
      refine r_astore_n (L' := [(3, .ref q), (0, .ref (tw_zB z + 0)), (1, .int x1), (2, .ref (tw_zB z + 1036))]) X.c1 dL_hide_12 rfl (by decide) rfl ?_
      refine r_iconst X.c1 dL_hide_13 (v := (1 : Int32)) (by decide) ?_
      exact r_iret X.c1 dL_hide_14 hret hQ1 rfl
    ·
      intro hE; cases hE
def tw_P_L_turn (n : Nat) (x1 : Int32) (x2 : Int32) (σ : tw_Sg) : Option (Int32 × tw_Sg) := tw_bc (tw_P_X11_turn n x1 x2 σ) (fun r => tw_ck (tw_ok (0 : Int32) (tw_ln 1036)) (tw_lt (tw_up r.2 1036 (Int32.toNatClampNeg (0 : Int32)) r.1) (fun (s9 : tw_Sg) => some ((0 : Int32), s9)))) (fun x => if x = "java/lang/IndexOutOfBoundsException" then some ((1 : Int32), σ) else if x = "java/lang/IllegalArgumentException" then some ((2 : Int32), σ) else none)
theorem tw_x1230 : lw_tbl[1230]? = some ((Jvm.Cond.codeWith ({ cls := "TreasureWalkLaw", name := "turn", desc := "(LTreasureWalk;II[J)I" } : Jvm.MethodName) method_17_code (5 : Nat) (Option.some Jvm.ClassFile.FieldType.int) [((0 : Nat), (10 : Nat), (13 : Nat), (22 : Nat)), ((0 : Nat), (10 : Nat), (17 : Nat), (13 : Nat))])) := by decide +kernel
theorem tw_x1229 : lw_tbl[1229]? = some ((Jvm.Cond.static ({ cls := "TreasureWalkLaw", name := "turn", desc := "(LTreasureWalk;II[J)I" } : Jvm.MethodName))) := by decide +kernel
theorem tw_y_L_turn : tw_Mw yL_turn cL_turn 5 (some .int) [((0 : Nat), (10 : Nat), (13 : Nat), (22 : Nat)), ((0 : Nat), (10 : Nat), (17 : Nat), (13 : Nat))] 4 := ⟨List.mem_of_getElem? tw_x1230, List.mem_of_getElem? tw_x87, by decide +kernel, by decide +kernel, List.mem_of_getElem? tw_x1229⟩
theorem tw_x1231 : lw_tbl[1231]? = some ((Jvm.Cond.methodLink "TreasureWalkLaw" (63 : Nat) ({ cls := "TreasureWalk", name := "turn", desc := "(II)I" } : Jvm.MethodName))) := by decide +kernel
set_option maxRecDepth 100000 in
set_option maxHeartbeats 4000000 in
theorem tw_m_L_turn {l : Launch} {B : Nat} {D : va_G} {C : Nat → ClassId} {S : Nat → Nat} {n : Nat} {x1 : Int32} {x2 : Int32} {σ : tw_Sg} (hst : l.stackTraces = false) {r : Int32 × tw_Sg} (h : tw_P_L_turn n x1 x2 σ = some r) : tw_MetW l B D C S yL_turn cL_turn 5 (some .int) [((0 : Nat), (10 : Nat), (13 : Nat), (22 : Nat)), ((0 : Nat), (10 : Nat), (17 : Nat), (13 : Nat))] ({ frames := 7, cells := 1, slots := 6, locals := 169 } : Room) [.ref (B + 0), .int x1, .int x2, .ref (B + 1036)] σ (some (.int r.1)) r.2 := by
  refine tw_metOfW (rm := ({ frames := 7, cells := 0, slots := 0, locals := 169 } : Room)) (tw_P_L_turn n x1 x2 σ) r h (fun r => (some (.int r.1), r.2)) (by decide +kernel) (Nat.le_of_ble_eq_true rfl) ?_
  intro z el eB eD eC eS hfr hlo hcs hc1 X hret htab hQ hQ1
  subst el eB eD eC eS
  have X : tw_X z cL_turn "TreasureWalkLaw" 5 := X
  show tw_Rf z r _ σ 0 [(0, .ref (tw_zB z + 0)), (1, .int x1), (2, .int x2), (3, .ref (tw_zB z + 1036))] []
  unfold tw_P_L_turn
  refine r_aload_n X dL_turn_0 rfl 3 rfl ?_
  refine r_iconst X dL_turn_1 (v := (0 : Int32)) (by decide) ?_
  refine r_aload_n X dL_turn_2 rfl 0 rfl ?_
  refine r_iload_n X dL_turn_3 rfl 1 rfl ?_
  refine r_iload_n X dL_turn_4 rfl 2 rfl ?_
  refine r_bc (fun r hr => ?_) (fun x hx => ?_)
  ·
    refine tw_c_X11_turn X dL_turn_5 _ tw_x1231  hr (tw_le hfr rfl) (tw_le hlo rfl) hcs (Nat.le_of_ble_eq_true rfl) trivial ?_
    refine r_i2l X dL_turn_8 ?_
    refine r_last (x := r.1) X dL_turn_9 tw_kc1036 rfl (fun s9 => ?_)
    refine r_goto X dL_turn_10 (tgt := 21) (by decide) ?_
    refine r_iconst X dL_turn_21 (v := (0 : Int32)) (by decide) ?_
    exact r_iret X dL_turn_22 hret hQ rfl
  ·
    have hM := tw_mx_X11_turn (l := tw_zl z) (B := tw_zB z) (D := tw_zD z) (C := tw_zC z) (S := tw_zS z) hst hx
    refine r_ite (fun he => ?_) (fun he => ?_)
    ·
      subst he
      refine r_callVC (st := [.int 0, .ref (tw_zB z + 1036)]) (As := [.int x1, .int x2]) (k := 0) X dL_turn_5 hM tw_y_X11_turn tw_v_X11_turn _ tw_x1231 rfl (tw_kd_lt tw_kc0 (by decide)) (tw_E11 tw_kc0) rfl ⟨rfl, rfl, tw_le hfr rfl, tw_le hlo rfl⟩ hc1 (Nat.le_of_ble_eq_true rfl) rfl [] ⟨0, 10, 13, 22⟩ [⟨0, 10, 17, 13⟩] htab (fun q h => nomatch h) (by decide) (by decide) _ tw_x1095 (List.mem_of_getElem? tw_x856) (fun q => ?_)
      refine r_astore (L' := [(4, .ref q), (0, .ref (tw_zB z + 0)), (1, .int x1), (2, .int x2), (3, .ref (tw_zB z + 1036))]) X.c1 dL_turn_13 (by decide) rfl ?_
      refine r_iconst X.c1 dL_turn_15 (v := (1 : Int32)) (by decide) ?_
      exact r_iret X.c1 dL_turn_16 hret hQ1 rfl
    ·
      refine r_ite (fun he => ?_) (fun he => ?_)
      ·
        subst he
        refine r_callVC (st := [.int 0, .ref (tw_zB z + 1036)]) (As := [.int x1, .int x2]) (k := 0) X dL_turn_5 hM tw_y_X11_turn tw_v_X11_turn _ tw_x1231 rfl (tw_kd_lt tw_kc0 (by decide)) (tw_E11 tw_kc0) rfl ⟨rfl, rfl, tw_le hfr rfl, tw_le hlo rfl⟩ hc1 (Nat.le_of_ble_eq_true rfl) rfl [⟨0, 10, 13, 22⟩] ⟨0, 10, 17, 13⟩ [] htab (fun q h => by rw [List.mem_singleton.mp h]; exact Or.inr ⟨by decide, _, X.ws _ tw_x1095 rfl, X.2.2.2.2.2.1.2.2.2.2.2.2.1.1⟩) (by decide) (by decide) _ tw_x886 (List.mem_of_getElem? tw_x780) (fun q => ?_)
        refine r_astore (L' := [(4, .ref q), (0, .ref (tw_zB z + 0)), (1, .int x1), (2, .int x2), (3, .ref (tw_zB z + 1036))]) X.c1 dL_turn_17 (by decide) rfl ?_
        refine r_iconst X.c1 dL_turn_19 (v := (2 : Int32)) (by decide) ?_
        exact r_iret X.c1 dL_turn_20 hret hQ1 rfl
      ·
        intro hE; cases hE
