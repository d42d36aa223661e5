/-! CONTRACTS over the law's own world: from Y, whatever is told of the answers by P, holds of what comes back -/
theorem dw_EVn {B b : Nat} {D : tw_G} {W : va_W} {C : Nat → ClassId} {S : Nat → Nat} {U : State} (h : tw_EV B D C S U) (hb : B ≤ b) (hW : tw_Wok b W) : tw_EV b (D.1, W) C S U := by
  obtain ⟨h1, h2, ⟨h3, h4⟩, h5, h6, ⟨h7, h8⟩, h9, h11, h12, -⟩ := h
  have hq : ∀ q, b ≤ q → B ≤ q := fun q hq => Nat.le_trans hb hq
  exact ⟨h1, h2, ⟨h3.narrow hq, h4.narrow hq⟩, h5.narrow hq, h6, ⟨h7.narrow hq, h8.narrow hq⟩, h9, h11.narrow hq, h12.narrow hq, hW⟩
def dw_AO2 (U : State) : Prop := (Cond.arrayOver (.array .int)).before #[] U = true
theorem dw_AO2.moved {u U : State} (hvm : u.vm.Alike U.vm) (h : dw_AO2 u) : dw_AO2 U := by
  obtain ⟨comp, c, k, h1, h2, h3, h4, h5⟩ := arrayOverA_spec h
  obtain ⟨k', hk', he⟩ := hvm.2.2 _ _ h3
  have hi : (U.vm.classes.findIdx? fun (x : Class) => match x.kind with | .array component _ => component == comp | _ => false) = some c := by
    rw [hvm.findIdx?_eq _ (fun _ => rfl)]
    exact h2
  have hkind : k'.kind = .array comp (.array .int) := by rw [he]; exact h4
  have f1 : U.vm.findClass (FieldType.array .int).toString = some comp := by rw [hvm.findClass]; exact h1
  have f2 : U.vm.findClass ("[" ++ (FieldType.array .int).toString) = some c := by rw [hvm.findClass]; exact h5
  unfold dw_AO2 Cond.before Cond.holds
  simp only [Cond.value]
  rw [f1, Option.bind_some]
  refine (congrArg (fun o : Option Nat => (o.bind (fun c => (U.vm.classes[c]?).map fun (k : Class) => match k.kind with | .array _ ty => decide (ty = FieldType.array .int) && decide (U.vm.findClass ("[" ++ (FieldType.array .int).toString) = some c) | _ => false) == some true)) hi).trans ?_
  simp [hk', hkind, f2]
def dw_pvN : List MethodName := [⟨"java/lang/AbstractStringBuilder", "ensureCapacityInternal", "(I)V"⟩, ⟨"java/lang/AbstractStringBuilder", "inflateIfNeededFor", "(Ljava/lang/String;)V"⟩, ⟨"java/lang/AbstractStringBuilder", "putStringAt", "(ILjava/lang/String;)V"⟩]
/-- the private methods of the builder's superclass, called on the builder -/
def dw_PV (U : State) : Prop := ∀ y ∈ dw_pvN, (Cond.selects "java/lang/StringBuilder" y y).before #[] U = true
theorem dw_PV.use {U : State} (h : dw_PV U) {y : MethodName} (i : Nat) (hi : dw_pvN[i]? = some y) {A : Array Value} : (Cond.selects "java/lang/StringBuilder" y y).before A U = true := h y (List.mem_of_getElem? hi)
/-- what making rows rests on, and the law's own row of bearings -/
def dw_AK (b : Nat) (S : Nat → Nat) (U : State) : Prop := ((Cond.arrayClass .int).before #[] U = true ∧ (Cond.arrayClass .boolean).before #[] U = true ∧ (Cond.arrayClass .byte).before #[] U = true) ∧ (va_AO "TreasureWalkLaw$Leg" U ∧ va_AO "TreasureWalkLaw$Clue" U ∧ va_AO "TreasureWalkLaw$Island" U) ∧ (dw_AOA .int U ∧ dw_AO2 U) ∧ (va_Z "TreasureWalkLaw" "BEARINGS" "[Ljava/lang/String;" (.ref (S 91)) (fun q => b ≤ q) U U.heap ∧ va_T (.object "java/lang/String") (S 91) 8 (fun j => .ref (S (13 + j))) (fun q => b ≤ q) U U.heap) ∧ va_Nw (.castable "[I" "java/lang/Cloneable") U ∧ va_Nw (.castable "[Z" "java/lang/Cloneable") U ∧ va_Nw (.castable "[B" "java/lang/Cloneable") U ∧ dw_PV U
theorem dw_AK.warm {b : Nat} {S : Nat → Nat} {s U : State} {H : Heap} {locs : List Loc} (h : dw_AK b S s) (hS : va_S (fun q => b ≤ q) s.heap H locs) (hU : U.heap = H) (hW : s.WarmedH U.vm) : dw_AK b S U := by
  obtain ⟨⟨h1, h2, h3⟩, ⟨h4, h5, h6⟩, ⟨h7, h8⟩, ⟨h9, h10⟩, h11, h12, h13, h14⟩ := h
  have hq : ∀ a : Nat, a < s.heap.size → ¬ b ≤ a → U.heap[a]? = s.heap[a]? := fun a ha hb => by rw [hU]; exact hS.2.1 a ha hb
  exact ⟨⟨word_at hW (Or.inr ⟨_, rfl⟩) h1, word_at hW (Or.inr ⟨_, rfl⟩) h2, word_at hW (Or.inr ⟨_, rfl⟩) h3⟩, ⟨h4.moved hW.alike, h5.moved hW.alike, h6.moved hW.alike⟩, ⟨h7.moved hW.alike, h8.moved hW.alike⟩, ⟨(h9.moved hW.alike).kept hq, (h10.moved hW.alike).kept hq⟩, h11.warmC hW, h12.warmC hW, h13.warmC hW, fun y hy => word_at hW (good_of_word rfl) (h14 y hy)⟩
theorem dw_AK.blind {b : Nat} {S : Nat → Nat} {U : State} {g : JFrame} {mk : MethodId} {a : Array Value} (h : dw_AK b S U) : dw_AK b S (U.calling g mk a) := by
  obtain ⟨h1, h2, h3, ⟨h9, h10⟩, h11, h12, h13, h14⟩ := h
  have al : U.vm.Alike (U.calling g mk a).vm := Vm.Alike.refl U.vm
  exact ⟨h1, h2, h3, ⟨va_Z.moved (u := U) al h9, va_T.moved (u := U) al h10⟩, h11, h12, h13, h14⟩
theorem dw_AK.narrow {B b : Nat} {S : Nat → Nat} {U : State} (h : dw_AK B S U) (hb : B ≤ b) : dw_AK b S U := by
  obtain ⟨h1, h2, h3, ⟨h9, h10⟩, h11⟩ := h
  have hq : ∀ q, b ≤ q → B ≤ q := fun q hq => Nat.le_trans hb hq
  exact ⟨h1, h2, h3, ⟨h9.narrow hq, h10.narrow hq⟩, h11⟩
def dw_Qc {ρ : Type} (b : Nat) (D : tw_G) (C : Nat → ClassId) (val : ρ → Option Value) (st' : ρ → dw_S) (Q : ρ → Prop) : Array Value → State → Outcome → State → Prop := fun _ st oc t => (∃ r, Q r ∧ oc = .returned (val r) ∧ dw_W b D C (st' r) t.heap) ∧ va_F (fun q => b ≤ q) st t
def dw_Pre (b : Nat) (D : tw_G) (C : Nat → ClassId) (S : Nat → Nat) (argv : List Value) (Y : dw_S) : Array Value → State → Prop := va_Pc argv (fun U => dw_W b D C Y U.heap ∧ tw_EV b D C S U ∧ dw_AK b S U)
theorem dw_blind {b : Nat} {D : tw_G} {C : Nat → ClassId} {S : Nat → Nat} {argv : List Value} {Y : dw_S} : FrameBlind (dw_Pre b D C S argv Y) := fun _ _ _ _ h => ⟨h.1, h.2.1, h.2.2.1.blind, h.2.2.2.blind⟩
abbrev dw_Met {ρ : Type} (l : Launch) (b : Nat) (D : tw_G) (C : Nat → ClassId) (S : Nat → Nat) (y : MethodName) (cy : ByteArray) (mL : Nat) (ret : Option FieldType) (rm : Room) (argv : List Value) (Y : dw_S) (val : ρ → Option Value) (st' : ρ → dw_S) (Q : ρ → Prop) : Prop :=
  Met l y [.code y cy mL ret] rm (dw_Pre b D C S argv Y) (dw_Qc b D C val st' Q) rm.cells rm.slots (fun q => b ≤ q)
def dw_Ro {ρ : Type} (z : tw_Z) (b : Nat) (val : ρ → Option Value) (st' : ρ → dw_S) (Q : ρ → Prop) : Prop := ∀ (c s : Nat), c ≤ (tw_zR z).cells → s ≤ (tw_zR z).slots → ∀ (H : Heap) (locs : List Loc) (g : JFrame), W (tw_zp z) (tw_zl z) (tw_ze z) (tw_zR z) (tw_zs z) (tw_zm z) (tw_zargs z) (tw_zbelow z) (tw_zmeth z) (tw_zc z) H locs c s (MQ (tw_zbelow z) (dw_Qc b (tw_zD z) (tw_zC z) val st' Q) (tw_zargs z) (tw_zs z) c s (fun q => b ≤ q)) g → tw_W (tw_cz z c s) H locs g
theorem dw_metOf {ρ : Type} {l : Launch} {b : Nat} {D : tw_G} {C : Nat → ClassId} {S : Nat → Nat} {y : MethodName} {cy : ByteArray} {mL : Nat} {ret : Option FieldType} {rm : Room} {argv : List Value} {Y : dw_S} (E : Prop) (hE : E) (val : ρ → Option Value) (st' : ρ → dw_S) (Q : ρ → Prop) (hy : plainName y.cls = true) (hlen : (lg_sl argv).length ≤ mL)
    (body : ∀ z : tw_Z, tw_zl z = l → tw_zB z = b → tw_zD z = D → tw_zC z = C → tw_zS z = S → tw_zR z = rm → tw_X z cy y.cls mL → dw_AK b S (tw_zs z) → (tw_zmeth z).name = y.name → (tw_zmeth z).sig.returnType = ret → dw_Ro z b val st' Q → dw_Rf (tw_cz z 0 0) b E Y 0 (lv_args 0 argv) []) : dw_Met l b D C S y cy mL ret rm argv Y val st' Q := by
  refine Met.ofW (cc := cy) (maxL := mL) (ret := ret) hy rfl ?_
  intro p e s m args below meth c s₁ Bd hml hv
  obtain ⟨rfl, hP, hEV, hAK⟩ := hv
  rw [lg_entry_eq]
  have hl := lv_entry argv (n := mL) hlen
  have hR : (headSpec [Cond.code y cy mL ret] rm).room = rm := rfl
  rw [hR]
  refine body (p, l, e, rm, s, m, argv.toArray, below, meth, c, b, D, C, S, mL, 0, 0, MQ below (dw_Qc b D C val st' Q) argv.toArray s rm.cells rm.slots (fun q => b ≤ q)) rfl rfl rfl rfl rfl rfl ⟨Bd.exec, Bd.bytes, hml, findClass_of_methodNamed Bd.named, Bd.notSynchronized, hEV, rfl⟩ hAK ?_ Bd.returns ?_ hE s.heap [] _ hP va_S.rf hl
  · exact (name_of_methodNamed Bd.named Bd.method).1
  · intro c' s' hc hs H locs g h T hT X
    obtain ⟨t, a1, oc, b1, b2, b3, L, hF, hL⟩ := h T hT X
    exact ⟨t, a1, oc, b1, b2, b3, L, ⟨hF.1, hF.2.1, hF.2.2.mono hc hs⟩, hL⟩
section DWC
variable {z : tw_Z} {b : Nat} {cc : ByteArray} {own : String} {nL pc : Nat} {E : Prop} {Y : dw_S} {L L' : List (Nat × Value)} {st st0 : List Value}
/-! the ends -/
variable {ρ : Type} {val : ρ → Option Value} {st' : ρ → dw_S} {Q : ρ → Prop} {r : ρ} {c s : Nat}
theorem dw_F (eB : tw_zB z = b) {H : Heap} {locs : List Loc} {t : State} (hS : tw_SS z H locs) (ht : t.heap = H) : va_F (fun q => b ≤ q) (tw_zs z) t := by
  subst eB
  exact hS.F ht
theorem e_iret {x : Int32} (X : tw_X z cc own nL) (eB : tw_zB z = b) (d : decode cc pc = .ok (.ireturn, 1)) (hret : (tw_zmeth z).sig.returnType = some .int) {MC MS : Nat} (hRM : (tw_zR z).cells = MC ∧ (tw_zR z).slots = MS) (hQ : dw_Ro z b val st' Q) (hv : val r = some (.int x)) (hs : st' r = Y) : dw_Rf (tw_cz z c s) b (pw_ck (c ≤ MC ∧ s ≤ MS) (Q r)) Y pc L [.int x] := e_ck (fun hc hE H locs ls hP hS hl => by
  obtain ⟨rfl, rfl⟩ := hRM
  refine hQ c s hc.1 hc.2 H locs _ (W.iret X.1 X.2.1 hret (fun t ht hW => ?_) (fun q hq => by rw [← eB]; exact hS.2.2 q hq) d X.2.2.2.2.1)
  exact ⟨⟨r, hE, by rw [hv], by rw [hs, ht]; exact hP⟩, dw_F eB hS ht⟩)
theorem e_zret {x : Int32} (X : tw_X z cc own nL) (eB : tw_zB z = b) (d : decode cc pc = .ok (.ireturn, 1)) (hret : (tw_zmeth z).sig.returnType = some .boolean) {MC MS : Nat} (hRM : (tw_zR z).cells = MC ∧ (tw_zR z).slots = MS) (hQ : dw_Ro z b val st' Q) (hv : val r = some (.int x)) (hs : st' r = Y) : dw_Rf (tw_cz z c s) b (pw_ck ((c ≤ MC ∧ s ≤ MS) ∧ tw_01 x = true) (Q r)) Y pc L [.int x] := e_ck (fun hc hE H locs ls hP hS hl => by
  obtain ⟨rfl, rfl⟩ := hRM
  refine hQ c s hc.1.1 hc.1.2 H locs _ (W.zret X.1 X.2.1 hret (tw_01_b hc.2) (fun t ht hW => ?_) (fun q hq => by rw [← eB]; exact hS.2.2 q hq) d X.2.2.2.2.1)
  exact ⟨⟨r, hE, by rw [hv], by rw [hs, ht]; exact hP⟩, dw_F eB hS ht⟩)
theorem e_nret {x : Int32} {ty : FieldType} (X : tw_X z cc own nL) (eB : tw_zB z = b) (d : decode cc pc = .ok (.ireturn, 1)) (hret : (tw_zmeth z).sig.returnType = some ty) {MC MS : Nat} (hRM : (tw_zR z).cells = MC ∧ (tw_zR z).slots = MS) (hQ : dw_Ro z b val st' Q) (hv : val r = some (.int x)) (hs : st' r = Y) : dw_Rf (tw_cz z c s) b (pw_ck ((c ≤ MC ∧ s ≤ MS) ∧ narrow ty (.int x) = .int x) (Q r)) Y pc L [.int x] := e_ck (fun hc hE H locs ls hP hS hl => by
  obtain ⟨rfl, rfl⟩ := hRM
  refine hQ c s hc.1.1 hc.1.2 H locs _ (W.zret X.1 X.2.1 hret hc.2 (fun t ht hW => ?_) (fun q hq => by rw [← eB]; exact hS.2.2 q hq) d X.2.2.2.2.1)
  exact ⟨⟨r, hE, by rw [hv], by rw [hs, ht]; exact hP⟩, dw_F eB hS ht⟩)
theorem e_vret (X : tw_X z cc own nL) (eB : tw_zB z = b) (d : decode cc pc = .ok (.return_, 1)) (hret : (tw_zmeth z).sig.returnType = none) {MC MS : Nat} (hRM : (tw_zR z).cells = MC ∧ (tw_zR z).slots = MS) (hQ : dw_Ro z b val st' Q) (hv : val r = none) (hs : st' r = Y) : dw_Rf (tw_cz z c s) b (pw_ck (c ≤ MC ∧ s ≤ MS) (Q r)) Y pc L [] := e_ck (fun hc hE H locs ls hP hS hl => by
  obtain ⟨rfl, rfl⟩ := hRM
  refine hQ c s hc.1 hc.2 H locs _ (W.vret X.1 X.2.1 hret (fun t ht hW => ?_) (fun q hq => by rw [← eB]; exact hS.2.2 q hq) d X.2.2.2.2.1)
  exact ⟨⟨r, hE, by rw [hv], by rw [hs, ht]; exact hP⟩, dw_F eB hS ht⟩)
theorem e_lret {x : Int64} (X : tw_X z cc own nL) (eB : tw_zB z = b) (d : decode cc pc = .ok (.lreturn, 1)) (hret : (tw_zmeth z).sig.returnType = some .long) {MC MS : Nat} (hRM : (tw_zR z).cells = MC ∧ (tw_zR z).slots = MS) (hQ : dw_Ro z b val st' Q) (hv : val r = some (.long x)) (hs : st' r = Y) : dw_Rf (tw_cz z c s) b (pw_ck (c ≤ MC ∧ s ≤ MS) (Q r)) Y pc L [.long x] := e_ck (fun hc hE H locs ls hP hS hl => by
  obtain ⟨rfl, rfl⟩ := hRM
  refine hQ c s hc.1 hc.2 H locs _ (W.lret X.1 X.2.1 hret (fun t ht hW => ?_) (fun q hq => by rw [← eB]; exact hS.2.2 q hq) d X.2.2.2.2.1)
  exact ⟨⟨r, hE, by rw [hv], by rw [hs, ht]; exact hP⟩, dw_F eB hS ht⟩)
theorem e_aret {x : Value} {rt : FieldType} (X : tw_X z cc own nL) (eB : tw_zB z = b) (d : decode cc pc = .ok (.areturn, 1)) (hret : (tw_zmeth z).sig.returnType = some rt) (hrt : (∃ n, rt = .object n) ∨ ∃ t, rt = .array t) (hx : x = .null ∨ ∃ a, x = .ref a) {MC MS : Nat} (hRM : (tw_zR z).cells = MC ∧ (tw_zR z).slots = MS) (hQ : dw_Ro z b val st' Q) (hv : val r = some x) (hs : st' r = Y) : dw_Rf (tw_cz z c s) b (pw_ck (c ≤ MC ∧ s ≤ MS) (Q r)) Y pc L [x] := e_ck (fun hc hE H locs ls hP hS hl => by
  obtain ⟨rfl, rfl⟩ := hRM
  refine hQ c s hc.1 hc.2 H locs _ (W.aret X.1 X.2.1 hret hrt hx (fun t ht hW => ?_) (fun q hq => by rw [← eB]; exact hS.2.2 q hq) d X.2.2.2.2.1)
  exact ⟨⟨r, hE, by rw [hv], by rw [hs, ht]; exact hP⟩, dw_F eB hS ht⟩)
theorem dw_vr {r : Option Nat} : dw_v b r = .null ∨ ∃ a, dw_v b r = .ref a := by
  cases r with
  | none => exact Or.inl rfl
  | some a => exact Or.inr ⟨_, rfl⟩
/-! calls -/
variable {ix ci k mL n N mc ms : Nat} {y : MethodName} {cy : ByteArray} {ret : Option FieldType} {rm : Room} {Cn host : String} {T : u_T} {fs : List Value} {As argv : List Value}
theorem dw_SSb (hb : tw_zB z ≤ b) {H : Heap} {locs : List Loc} (hP : dw_PP z b Y H) (hS : tw_SS z H locs) (hl : ∀ q ∈ locs, b ≤ q.base) (hq : ∀ a, a < (tw_zs z).heap.size → ¬ b ≤ a → H[a]? = (tw_zs z).heap[a]?) : va_S (fun q => b ≤ q) (tw_zs z).heap H locs := ⟨hS.1, hq, hl⟩
/-- what holds of the tables goes on holding where a call begins -/
theorem dw_EVc {S : Nat → Nat} {W : va_W} {U : State} {H : Heap} {locs : List Loc} (hEV : tw_EV (tw_zB z) (tw_zD z) (tw_zC z) S (tw_zs z)) (hb : tw_zB z ≤ b) (hW : tw_Wok b W) (hS : tw_SS z H locs) (hU : U.heap = H) (hWm : (tw_zs z).WarmedH U.vm) : tw_EV b ((tw_zD z).1, W) (tw_zC z) S U := dw_EVn (hEV.call hS hU hWm) hb hW
theorem dw_AKc {S : Nat → Nat} {U : State} {H : Heap} {locs : List Loc} (hA : dw_AK (tw_zB z) S (tw_zs z)) (hb : tw_zB z ≤ b) (hS : tw_SS z H locs) (hU : U.heap = H) (hWm : (tw_zs z).WarmedH U.vm) : dw_AK b S U := (hA.warm hS hU hWm).narrow hb
theorem dw_preS (X : tw_X z cc own nL) (hA : dw_AK (tw_zB z) (tw_zS z) (tw_zs z)) (hb : tw_zB z ≤ b) (hD : (tw_zD z).2 = []) {H : Heap} {locs : List Loc} (hP : dw_PP z b Y H) (hS : tw_SS z H locs) : PreS (tw_zs z) H (dw_Pre b (tw_zD z) (tw_zC z) (tw_zS z) As Y) As := ⟨dw_blind, fun U hU hW => ⟨rfl, by rw [hU]; exact hP, by
  have h := dw_EVc (W := []) X.2.2.2.2.2.1 hb ⟨fun _ _ _ _ h => by simp at h, fun _ _ h => by simp at h⟩ hS hU hW
  rw [← hD] at h
  exact h, dw_AKc hA hb hS hU hW⟩⟩
theorem e_run {ρ1 : Type} {val1 : ρ1 → Option Value} {st1 : ρ1 → dw_S} {K : ρ1 → Prop} {A : Array Value} (hb : tw_zB z ≤ b) (hr : ∀ (H : Heap) (locs : List Loc) (ls : Array Slot), dw_PP z b Y H → tw_SS z H locs → lv_has ls (tw_znL z) L → va_Run (tw_zp z) (tw_zl z) (tw_ze z) (tw_zR z) (tw_zs z) (tw_zm z) (tw_zargs z) (tw_zbelow z) (tw_zmeth z) (tw_zc z) H locs (tw_zcells z) (tw_zslots z) mc ms (F0 (tw_zm z) pc ls st0) st (dw_Qc b (tw_zD z) (tw_zC z) val1 st1 K A) (fun q => b ≤ q))
    (kk : ∀ r, dw_Rf (tw_cz z (tw_zcells z + mc) (tw_zslots z + ms)) b (K r) (st1 r) (pc + 3) L ((val1 r).toList ++ st)) : dw_Rf z b True Y pc L st0 := by
  intro _ H locs ls hP hS hl T hT X
  obtain ⟨v, st₀, t, T', Lc, h0, X', hL, e1, e2, ⟨⟨r, hq, hv, hw⟩, hz, hk⟩, stp⟩ := hr H locs ls hP hS hl T hT X
  cases hv
  rw [h0] at hz hk
  obtain ⟨t2, a1, b1⟩ := kk r hq T'.heap (locs ++ Lc) ls (by show dw_W _ _ _ _ _; rw [e1]; exact hw) ⟨Nat.le_trans hS.1 (by rw [e1]; exact hz), fun q h1 h2 => by rw [e1, hk q (Nat.lt_of_lt_of_le h1 hS.1) (fun h => h2 (Nat.le_trans hb h))]; exact hS.2.1 q h1 h2, fun q hq => by
      rcases List.mem_append.mp hq with h | h
      · exact hS.2.2 q h
      · exact Nat.le_trans hb (hL q h)⟩ hl T' rfl X'
  exact ⟨t2, stp t2 a1, b1⟩
theorem dw_W2 (X : tw_X z cc own nL) (h : dw_is Y k ci) (hci : ci ≠ 99) (hc : vwCl[ci]? = some (Cn, T, N)) (hE0 : dw_k Y k = ci → dw_E b (tw_zC z) Y k = .inr (ci, fs)) {H : Heap} (hP : dw_PP z b Y H) : ∃ cell : Cell, H[b + k]? = some cell ∧ cell.vm.isStatics = false ∧ (tw_zs z).vm.findClass Cn = some cell.cls := by
  obtain ⟨i, hi, -⟩ := dw_at (b := b) (C := tw_zC z) h hci
  rw [hE0 h.2.2] at hi
  exact va_recv X.K hP.1 hc hi
def dw_Mv (y : MethodName) (Cn : String) : Prop := (Cond.instanceMethod y) ∈ lw_tbl ∧ (Cond.selects Cn y y) ∈ lw_tbl
section
variable {ρ1 : Type} {val1 : ρ1 → Option Value} {st1 : ρ1 → dw_S} {P : (ρ1 → Prop) → Prop} {K : ρ1 → Prop}
theorem e_callS (X : tw_X z cc own nL) (hA : dw_AK (tw_zB z) (tw_zS z) (tw_zs z)) (hb : tw_zB z ≤ b) (hD : (tw_zD z).2 = []) {c s MC MS : Nat} (hR0 : tw_zcells z = c ∧ tw_zslots z = s) (hRM : (tw_zR z).cells = MC ∧ (tw_zR z).slots = MS) (d : decode cc pc = .ok (.invokestatic ix, 3)) (hM : ∀ Q, P Q → dw_Met (tw_zl z) b (tw_zD z) (tw_zC z) (tw_zS z) y cy mL ret rm As Y val1 st1 Q) (hy : tw_My y cy mL ret n) (hv : tw_Ms y) (i : Nat) (hi : lw_tbl[i]? = some (.methodLink own ix y)) (hn : As.length = n) (hR : rm.frames + 1 ≤ (tw_zR z).frames ∧ 8 + (mL + 11) + rm.locals ≤ (tw_zR z).locals) (hst : (st.map fun v => v.category).sum ≤ 8) (hs0 : st0 = As.reverse ++ st) (kk : ∀ r, dw_Rf (tw_cz z (c + rm.cells) (s + rm.slots)) b (K r) (st1 r) (pc + 3) L ((val1 r).toList ++ st)) : dw_Rf z b (pw_ck (c + rm.cells ≤ MC ∧ s + rm.slots ≤ MS) (P K)) Y pc L st0 := e_ck (fun hc hE => by
  subst hs0
  obtain ⟨rfl, rfl⟩ := hR0
  obtain ⟨rfl, rfl⟩ := hRM
  exact e_run hb (fun H locs ls hP hS hl => va_runS (As := As) (rest := st) (tw_fix X) (hM K hE) ⟨tw_CB X hy i hi ⟨rfl, rfl, hR.1, hR.2⟩, tw_wd X hv rfl⟩ (dw_preS X hA hb hD hP hS) rfl hn (hl.1.trans X.2.2.2.2.2.2) rfl (lv_room hst) d hc) kk trivial)
theorem e_callV (X : tw_X z cc own nL) (hA : dw_AK (tw_zB z) (tw_zS z) (tw_zs z)) (hb : tw_zB z ≤ b) (hD : (tw_zD z).2 = []) {c s MC MS : Nat} (hR0 : tw_zcells z = c ∧ tw_zslots z = s) (hRM : (tw_zR z).cells = MC ∧ (tw_zR z).slots = MS) (d : decode cc pc = .ok (.invokevirtual ix, 3)) (hM : ∀ Q, P Q → dw_Met (tw_zl z) b (tw_zD z) (tw_zC z) (tw_zS z) y cy mL ret rm (.ref (b + k) :: As) Y val1 st1 Q) (hy : tw_My y cy mL ret n) (hv : dw_Mv y Cn) (i : Nat) (hi : lw_tbl[i]? = some (.methodLink own ix y)) (hci : ci ≠ 99) (hc : vwCl[ci]? = some (Cn, T, N)) (hE0 : dw_k Y k = ci → dw_E b (tw_zC z) Y k = .inr (ci, fs)) (hn : As.length = n) (hR : rm.frames + 1 ≤ (tw_zR z).frames ∧ 8 + (mL + 11) + rm.locals ≤ (tw_zR z).locals) (hst : (st.map fun v => v.category).sum ≤ 8) (hs0 : st0 = As.reverse ++ .ref (b + k) :: st) (kk : ∀ r, dw_Rf (tw_cz z (c + rm.cells) (s + rm.slots)) b (K r) (st1 r) (pc + 3) L ((val1 r).toList ++ st)) : dw_Rf z b (pw_ck (dw_is Y k ci ∧ c + rm.cells ≤ MC ∧ s + rm.slots ≤ MS) (P K)) Y pc L st0 := e_ck (fun hk hE => by
  subst hs0
  obtain ⟨rfl, rfl⟩ := hR0
  obtain ⟨rfl, rfl⟩ := hRM
  exact e_run hb (fun H locs ls hP hS hl => va_runV (As := As) (rest := st) (tw_fix X) (hM K hE) ⟨tw_CB X hy i hi ⟨rfl, rfl, hR.1, hR.2⟩, tw_wd X hv.1 rfl, tw_wd X hv.2 rfl⟩ ⟨dw_blind, dw_W2 X hk.1 hci hc hE0 hP, (dw_preS X hA hb hD hP hS).2⟩ rfl hn (hl.1.trans X.2.2.2.2.2.2) rfl (lv_room hst) d hk.2) kk trivial)
theorem e_callVN (X : tw_X z cc own nL) (hA : dw_AK (tw_zB z) (tw_zS z) (tw_zs z)) (hb : tw_zB z ≤ b) (hD : (tw_zD z).2 = []) {c s MC MS : Nat} (hR0 : tw_zcells z = c ∧ tw_zslots z = s) (hRM : (tw_zR z).cells = MC ∧ (tw_zR z).slots = MS) (d : decode cc pc = .ok (.invokevirtual ix, 3)) (hM : ∀ Q, P Q → dw_Met (tw_zl z) b (tw_zD z) (tw_zC z) (tw_zS z) y cy mL ret rm (.ref (b + k) :: As) Y val1 st1 Q) (hy : tw_My y cy mL ret n) (hv : dw_Mv y Cn) (i : Nat) (hi : lw_tbl[i]? = some (.methodLinkNest own ix y host)) (hci : ci ≠ 99) (hc : vwCl[ci]? = some (Cn, T, N)) (hE0 : dw_k Y k = ci → dw_E b (tw_zC z) Y k = .inr (ci, fs)) (hn : As.length = n) (hR : rm.frames + 1 ≤ (tw_zR z).frames ∧ 8 + (mL + 11) + rm.locals ≤ (tw_zR z).locals) (hst : (st.map fun v => v.category).sum ≤ 8) (hs0 : st0 = As.reverse ++ .ref (b + k) :: st) (kk : ∀ r, dw_Rf (tw_cz z (c + rm.cells) (s + rm.slots)) b (K r) (st1 r) (pc + 3) L ((val1 r).toList ++ st)) : dw_Rf z b (pw_ck (dw_is Y k ci ∧ c + rm.cells ≤ MC ∧ s + rm.slots ≤ MS) (P K)) Y pc L st0 := e_ck (fun hk hE => by
  subst hs0
  obtain ⟨rfl, rfl⟩ := hR0
  obtain ⟨rfl, rfl⟩ := hRM
  exact e_run hb (fun H locs ls hP hS hl => va_runVN (As := As) (rest := st) (tw_fix X) (hM K hE) ⟨tw_CN X hy i hi ⟨rfl, rfl, hR.1, hR.2⟩, tw_wd X hv.1 rfl, tw_wd X hv.2 rfl⟩ ⟨dw_blind, dw_W2 X hk.1 hci hc hE0 hP, (dw_preS X hA hb hD hP hS).2⟩ rfl hn (hl.1.trans X.2.2.2.2.2.2) rfl (lv_room hst) d hk.2) kk trivial)
theorem e_callI (X : tw_X z cc own nL) (hA : dw_AK (tw_zB z) (tw_zS z) (tw_zs z)) (hb : tw_zB z ≤ b) (hD : (tw_zD z).2 = []) {c s MC MS : Nat} (hR0 : tw_zcells z = c ∧ tw_zslots z = s) (hRM : (tw_zR z).cells = MC ∧ (tw_zR z).slots = MS) (d : decode cc pc = .ok (.invokespecial ix, 3)) (hM : ∀ Q, P Q → dw_Met (tw_zl z) b (tw_zD z) (tw_zC z) (tw_zS z) y cy mL none rm (.ref (b + k) :: As) Y val1 st1 Q) (hy : tw_My y cy mL none n) (hv : Cond.instanceMethod y ∈ lw_tbl) (hnm : y.name = "<init>") (i : Nat) (hi : lw_tbl[i]? = some (.methodLink own ix y)) (hn : As.length = n) (hR : rm.frames + 1 ≤ (tw_zR z).frames ∧ 8 + (mL + 11) + rm.locals ≤ (tw_zR z).locals) (hst : (st.map fun v => v.category).sum ≤ 8) (hs0 : st0 = As.reverse ++ .ref (b + k) :: st) (kk : ∀ r, dw_Rf (tw_cz z (c + rm.cells) (s + rm.slots)) b (K r) (st1 r) (pc + 3) L ((val1 r).toList ++ st)) : dw_Rf z b (pw_ck (c + rm.cells ≤ MC ∧ s + rm.slots ≤ MS) (P K)) Y pc L st0 := e_ck (fun hc hE => by
  subst hs0
  obtain ⟨rfl, rfl⟩ := hR0
  obtain ⟨rfl, rfl⟩ := hRM
  exact e_run hb (fun H locs ls hP hS hl => va_runI (As := As) (rest := st) (tw_fix X) (hM K hE) ⟨tw_CB X hy i hi ⟨rfl, rfl, hR.1, hR.2⟩, hnm, tw_wd X hv rfl⟩ (dw_preS X hA hb hD hP hS) rfl hn (hl.1.trans X.2.2.2.2.2.2) rfl (lv_room hst) d hc) kk trivial)
theorem e_callIN (X : tw_X z cc own nL) (hA : dw_AK (tw_zB z) (tw_zS z) (tw_zs z)) (hb : tw_zB z ≤ b) (hD : (tw_zD z).2 = []) {c s MC MS : Nat} (hR0 : tw_zcells z = c ∧ tw_zslots z = s) (hRM : (tw_zR z).cells = MC ∧ (tw_zR z).slots = MS) (d : decode cc pc = .ok (.invokespecial ix, 3)) (hM : ∀ Q, P Q → dw_Met (tw_zl z) b (tw_zD z) (tw_zC z) (tw_zS z) y cy mL none rm (.ref (b + k) :: As) Y val1 st1 Q) (hy : tw_My y cy mL none n) (hv : Cond.instanceMethod y ∈ lw_tbl) (hnm : y.name = "<init>") (i : Nat) (hi : lw_tbl[i]? = some (.methodLinkNest own ix y host)) (hn : As.length = n) (hR : rm.frames + 1 ≤ (tw_zR z).frames ∧ 8 + (mL + 11) + rm.locals ≤ (tw_zR z).locals) (hst : (st.map fun v => v.category).sum ≤ 8) (hs0 : st0 = As.reverse ++ .ref (b + k) :: st) (kk : ∀ r, dw_Rf (tw_cz z (c + rm.cells) (s + rm.slots)) b (K r) (st1 r) (pc + 3) L ((val1 r).toList ++ st)) : dw_Rf z b (pw_ck (c + rm.cells ≤ MC ∧ s + rm.slots ≤ MS) (P K)) Y pc L st0 := e_ck (fun hc hE => by
  subst hs0
  obtain ⟨rfl, rfl⟩ := hR0
  obtain ⟨rfl, rfl⟩ := hRM
  exact e_run hb (fun H locs ls hP hS hl => va_runIN (As := As) (rest := st) (tw_fix X) (hM K hE) ⟨tw_CN X hy i hi ⟨rfl, rfl, hR.1, hR.2⟩, hnm, tw_wd X hv rfl⟩ (dw_preS X hA hb hD hP hS) rfl hn (hl.1.trans X.2.2.2.2.2.2) rfl (lv_room hst) d hc) kk trivial)
end
/-- Object.<init> -/
theorem e_obj {x : Nat} (X : tw_X z cc own nL) (d : decode cc pc = .ok (.invokespecial ix, 3)) (i : Nat) (hi : lw_tbl[i]? = some (.methodLink own ix Lib.objectInit)) (h1 : Cond.instanceMethod Lib.objectInit ∈ lw_tbl) (h2 : Cond.code Lib.objectInit ⟨#[0xb1]⟩ 1 none ∈ lw_tbl) (hf : 1 ≤ (tw_zR z).frames) (hlo : 20 ≤ (tw_zR z).locals) (hst : (st.map fun v => v.category).sum ≤ 8) (k : dw_Rf z b E Y (pc + 3) L st) : dw_Rf z b E Y pc L (.ref x :: st) := by
  intro hE H locs ls hP hS hl
  refine W.objInit X.1 X.2.1 X.ow (X.ws i hi rfl) (tw_wd X h1 rfl) (tw_wd X h2 rfl) (g := F0 (tw_zm z) pc ls (.ref x :: st)) rfl (hl.1.trans (X.2.2.2.2.2.2.trans X.2.2.1.symm)) rfl d hf ?_ (k hE H locs ls hP hS hl)
  exact Nat.le_trans (show 2 * 0 + (st.map fun v => v.category).sum + 12 ≤ 20 by omega) hlo
theorem dw_ckp {c E : Prop} {z : tw_Z} {b pc : Nat} {Y : dw_S} {L : List (Nat × Value)} {st : List Value} (hc : c) (k : dw_Rf z b (pw_ck c E) Y pc L st) : dw_Rf z b E Y pc L st := fun hE => k ⟨hc, hE⟩
theorem dw_ckq {a c E : Prop} {z : tw_Z} {b pc : Nat} {Y : dw_S} {L : List (Nat × Value)} {st : List Value} (hc : c) (k : dw_Rf z b (pw_ck (a ∧ c) E) Y pc L st) : dw_Rf z b (pw_ck a E) Y pc L st := fun hE => k ⟨⟨hE.1, hc⟩, hE.2⟩
theorem dw_ckr {a c E : Prop} {z : tw_Z} {b pc : Nat} {Y : dw_S} {L : List (Nat × Value)} {st : List Value} (hc : c) (k : dw_Rf z b (pw_ck (c ∧ a) E) Y pc L st) : dw_Rf z b (pw_ck a E) Y pc L st := fun hE => k ⟨⟨hc, hE.1⟩, hE.2⟩
theorem dw_bdu {E : Prop} {c : Prop} {z : tw_Z} {b pc : Nat} {Y : dw_S} {L : List (Nat × Value)} {st : List Value} (k : dw_Rf z b (pw_ck c (pw_bd (some ()) (fun _ => E))) Y pc L st) : dw_Rf z b (pw_ck c E) Y pc L st := fun hE => k ⟨hE.1, (), rfl, hE.2⟩
/-! calls of the class -/
theorem dw_Wcs {D : tw_G} {C : Nat → ClassId} {σ : tw_Sg} {H H1 : Heap} (h : dw_W b D C Y H) (h1 : va_P D.1 vwCl (tw_wl b (tw_E b C σ) 442 ++ dw_wl b C Y) H1) (hz : H.size ≤ H1.size) : dw_W b D C (dw_cs Y σ) H1 := ⟨h1, Nat.le_trans h.2.1 hz, h.2.2.1, h.2.2.2⟩
theorem dw_preW (X : tw_X z cc own nL) (hb : tw_zB z ≤ b) {H : Heap} {locs : List Loc} (hP : dw_PP z b Y H) (hS : tw_SS z H locs) : ∀ U : State, U.heap = H → (tw_zs z).WarmedH U.vm → va_P (tw_zD z).1 vwCl (tw_wl b (tw_E b (tw_zC z) (dw_s Y)) 442 ++ dw_wl b (tw_zC z) Y) U.heap ∧ tw_EV b ((tw_zD z).1, dw_wl b (tw_zC z) Y) (tw_zC z) (tw_zS z) U := fun U hU hW => ⟨by rw [hU]; exact hP.1, dw_EVc X.2.2.2.2.2.1 hb dw_wok hS hU hW⟩
theorem dw_o (X : tw_X z cc own nL) {H : Heap} (hP : dw_PP z b Y H) : ∃ cell : Cell, H[b + 0]? = some cell ∧ cell.vm.isStatics = false ∧ (tw_zs z).vm.findClass "TreasureWalk" = some cell.cls := by
  have h : (dw_ws b (tw_zC z) Y)[0]? = some (b + 0, .inr (11, tw_fs11 b (dw_s Y) 0)) := by
    unfold dw_ws
    rw [tw_ap_get (by decide), tw_E11 (by decide +kernel)]
  exact va_recv X.K hP.1 (show vwCl[11]? = some ("TreasureWalk", TX11, 7) from rfl) h
theorem e_cls {α : Type} {e : Option α} {rv : α → Option Value} {σ' : α → tw_Sg} {K : α → Prop} (X : tw_X z cc own nL) (hb : tw_zB z ≤ b) {c s MC MS : Nat} (hR0 : tw_zcells z = c ∧ tw_zslots z = s) (hRM : (tw_zR z).cells = MC ∧ (tw_zR z).slots = MS) (d : decode cc pc = .ok (.invokevirtual ix, 3)) (hM : ∀ a, e = some a → tw_Met (tw_zl z) b ((tw_zD z).1, dw_wl b (tw_zC z) Y) (tw_zC z) (tw_zS z) y cy mL ret rm (.ref (b + 0) :: As) (dw_s Y) (rv a) (σ' a)) (hy : tw_My y cy mL ret n) (hv : tw_Mv y "TreasureWalk") (i : Nat) (hi : lw_tbl[i]? = some (.methodLink own ix y)) (hn : As.length = n) (hR : tw_Rm (tw_zR z) rm mL 0 0) (hst : (st.map fun v => v.category).sum ≤ 8) (hs0 : st0 = As.reverse ++ .ref (b + 0) :: st) (kk : ∀ a, dw_Rf z b (K a) (dw_cs Y (σ' a)) (pc + 3) L ((rv a).toList ++ st)) : dw_Rf z b (pw_ck (c ≤ MC ∧ s ≤ MS) (pw_bd e K)) Y pc L st0 := e_ck (fun hc hE => by
  subst hs0
  obtain ⟨rfl, rfl⟩ := hR0
  obtain ⟨rfl, rfl⟩ := hRM
  obtain ⟨a, he, hK⟩ := hE
  intro H locs ls hP hS hl T hT XT
  obtain ⟨v, st₀, t, T', Lc, h0, X', hL, e1, e2, ⟨⟨hv, hp⟩, hz, hk⟩, stp⟩ := va_runV (As := As) (rest := st) (tw_fix X) (hM a he) ⟨tw_CB X hy i hi hR, tw_wd X hv.1 rfl, tw_wd X hv.2.1 rfl⟩ ⟨tw_blind, dw_o X hP, fun U hU hW => ⟨rfl, dw_preW X hb hP hS U hU hW⟩⟩ (g := F0 (tw_zm z) pc ls (As.reverse ++ .ref (b + 0) :: st)) rfl hn (hl.1.trans X.2.2.2.2.2.2) rfl (lv_room hst) d hc T hT XT
  cases hv
  rw [h0] at hz hk
  obtain ⟨t2, a1, b1⟩ := kk a hK T'.heap (locs ++ Lc) ls (dw_Wcs hP (by rw [e1]; exact hp) (by rw [e1]; exact hz)) ⟨Nat.le_trans hS.1 (by rw [e1]; exact hz), fun q h1 h2 => by rw [e1, hk q (Nat.lt_of_lt_of_le h1 hS.1) (fun h => h2 (Nat.le_trans hb h))]; exact hS.2.1 q h1 h2, fun q hq => by
      rcases List.mem_append.mp hq with h | h
      · exact hS.2.2 q h
      · exact Nat.le_trans hb (hL q h)⟩ hl T' rfl X'
  exact ⟨t2, stp t2 a1, b1⟩)
theorem e_clS {α : Type} {e : Option α} {rv : α → Option Value} {σ' : α → tw_Sg} {K : α → Prop} (X : tw_X z cc own nL) (hb : tw_zB z ≤ b) {c s MC MS : Nat} (hR0 : tw_zcells z = c ∧ tw_zslots z = s) (hRM : (tw_zR z).cells = MC ∧ (tw_zR z).slots = MS) (d : decode cc pc = .ok (.invokestatic ix, 3)) (hM : ∀ a, e = some a → tw_Met (tw_zl z) b ((tw_zD z).1, dw_wl b (tw_zC z) Y) (tw_zC z) (tw_zS z) y cy mL ret rm As (dw_s Y) (rv a) (σ' a)) (hy : tw_My y cy mL ret n) (hv : tw_Ms y) (i : Nat) (hi : lw_tbl[i]? = some (.methodLink own ix y)) (hn : As.length = n) (hR : tw_Rm (tw_zR z) rm mL 0 0) (hst : (st.map fun v => v.category).sum ≤ 8) (hs0 : st0 = As.reverse ++ st) (kk : ∀ a, dw_Rf z b (K a) (dw_cs Y (σ' a)) (pc + 3) L ((rv a).toList ++ st)) : dw_Rf z b (pw_ck (c ≤ MC ∧ s ≤ MS) (pw_bd e K)) Y pc L st0 := e_ck (fun hc hE => by
  subst hs0
  obtain ⟨rfl, rfl⟩ := hR0
  obtain ⟨rfl, rfl⟩ := hRM
  obtain ⟨a, he, hK⟩ := hE
  intro H locs ls hP hS hl T hT XT
  obtain ⟨v, st₀, t, T', Lc, h0, X', hL, e1, e2, ⟨⟨hv, hp⟩, hz, hk⟩, stp⟩ := va_runS (As := As) (rest := st) (tw_fix X) (hM a he) ⟨tw_CB X hy i hi hR, tw_wd X hv rfl⟩ ⟨tw_blind, fun U hU hW => ⟨rfl, dw_preW X hb hP hS U hU hW⟩⟩ (g := F0 (tw_zm z) pc ls (As.reverse ++ st)) rfl hn (hl.1.trans X.2.2.2.2.2.2) rfl (lv_room hst) d hc T hT XT
  cases hv
  rw [h0] at hz hk
  obtain ⟨t2, a1, b1⟩ := kk a hK T'.heap (locs ++ Lc) ls (dw_Wcs hP (by rw [e1]; exact hp) (by rw [e1]; exact hz)) ⟨Nat.le_trans hS.1 (by rw [e1]; exact hz), fun q h1 h2 => by rw [e1, hk q (Nat.lt_of_lt_of_le h1 hS.1) (fun h => h2 (Nat.le_trans hb h))]; exact hS.2.1 q h1 h2, fun q hq => by
      rcases List.mem_append.mp hq with h | h
      · exact hS.2.2 q h
      · exact Nat.le_trans hb (hL q h)⟩ hl T' rfl X'
  exact ⟨t2, stp t2 a1, b1⟩)
theorem e_clT {w : Nat} {α : Type} {e : Option α} {rv : α → Option Value} {σ' : α → tw_Sg} {K : α → Prop} (X : tw_X z cc own nL) (hb : tw_zB z ≤ b) {c s MC MS : Nat} (hR0 : tw_zcells z = c ∧ tw_zslots z = s) (hRM : (tw_zR z).cells = MC ∧ (tw_zR z).slots = MS) (d : decode cc pc = .ok (.invokevirtual ix, 3)) (hM : ∀ a, e = some a → tw_Met (tw_zl z) b ((tw_zD z).1, dw_wl b (tw_zC z) Y) (tw_zC z) (tw_zS z) y cy mL ret rm (.ref (tw_zS z w) :: As) (dw_s Y) (rv a) (σ' a)) (hy : tw_My y cy mL ret n) (hv : tw_Mv y "java/lang/String") (hw : w < 33) (i : Nat) (hi : lw_tbl[i]? = some (.methodLink own ix y)) (hn : As.length = n) (hR : tw_Rm (tw_zR z) rm mL 0 0) (hst : (st.map fun v => v.category).sum ≤ 8) (hs0 : st0 = As.reverse ++ .ref (tw_zS z w) :: st) (kk : ∀ a, dw_Rf z b (K a) (dw_cs Y (σ' a)) (pc + 3) L ((rv a).toList ++ st)) : dw_Rf z b (pw_ck (c ≤ MC ∧ s ≤ MS) (pw_bd e K)) Y pc L st0 := e_ck (fun hc hE => by
  subst hs0
  obtain ⟨rfl, rfl⟩ := hR0
  obtain ⟨rfl, rfl⟩ := hRM
  obtain ⟨a, he, hK⟩ := hE
  intro H locs ls hP hS hl T hT XT
  obtain ⟨v, st₀, t, T', Lc, h0, X', hL, e1, e2, ⟨⟨hv, hp⟩, hz, hk⟩, stp⟩ := va_runV (As := As) (rest := st) (tw_fix X) (hM a he) ⟨tw_CB X hy i hi hR, tw_wd X hv.1 rfl, tw_wd X hv.2.1 rfl⟩ ⟨tw_blind, vk_recv X.2.2.2.2.2.1.2.2.2.1 hw hS, fun U hU hW => ⟨rfl, dw_preW X hb hP hS U hU hW⟩⟩ (g := F0 (tw_zm z) pc ls (As.reverse ++ .ref (tw_zS z w) :: st)) rfl hn (hl.1.trans X.2.2.2.2.2.2) rfl (lv_room hst) d hc T hT XT
  cases hv
  rw [h0] at hz hk
  obtain ⟨t2, a1, b1⟩ := kk a hK T'.heap (locs ++ Lc) ls (dw_Wcs hP (by rw [e1]; exact hp) (by rw [e1]; exact hz)) ⟨Nat.le_trans hS.1 (by rw [e1]; exact hz), fun q h1 h2 => by rw [e1, hk q (Nat.lt_of_lt_of_le h1 hS.1) (fun h => h2 (Nat.le_trans hb h))]; exact hS.2.1 q h1 h2, fun q hq => by
      rcases List.mem_append.mp hq with h | h
      · exact hS.2.2 q h
      · exact Nat.le_trans hb (hL q h)⟩ hl T' rfl X'
  exact ⟨t2, stp t2 a1, b1⟩)
theorem e_cls1 {rv : Option Value} {σ' : tw_Sg} (X : tw_X z cc own nL) (hb : tw_zB z ≤ b) {c s MC MS : Nat} (hR0 : tw_zcells z = c ∧ tw_zslots z = s) (hRM : (tw_zR z).cells = MC ∧ (tw_zR z).slots = MS) (d : decode cc pc = .ok (.invokevirtual ix, 3)) (hM : tw_Met (tw_zl z) b ((tw_zD z).1, dw_wl b (tw_zC z) Y) (tw_zC z) (tw_zS z) y cy mL ret rm (.ref (b + 0) :: As) (dw_s Y) rv σ') (hy : tw_My y cy mL ret n) (hv : tw_Mv y "TreasureWalk") (i : Nat) (hi : lw_tbl[i]? = some (.methodLink own ix y)) (hn : As.length = n) (hR : tw_Rm (tw_zR z) rm mL 0 0) (hst : (st.map fun v => v.category).sum ≤ 8) (hs0 : st0 = As.reverse ++ .ref (b + 0) :: st) (kk : dw_Rf z b E (dw_cs Y σ') (pc + 3) L (rv.toList ++ st)) : dw_Rf z b (pw_ck (c ≤ MC ∧ s ≤ MS) E) Y pc L st0 := dw_bdu (e_cls (rv := fun _ => rv) (σ' := fun _ => σ') X hb hR0 hRM d (fun _ _ => hM) hy hv i hi hn hR hst hs0 (fun _ => kk))
/-- .. that throws, and a row of this method's table catches it -/
theorem e_clsX {x : String} (X : tw_X z cc own nL) (hb : tw_zB z ≤ b) (d : decode cc pc = .ok (.invokevirtual ix, 3)) (hM : tw_MetX (tw_zl z) b ((tw_zD z).1, dw_wl b (tw_zC z) Y) (tw_zC z) (tw_zS z) y cy mL ret rm (.ref (b + 0) :: As) (dw_s Y) x) (hy : tw_My y cy mL ret n) (hv : tw_Mv y "TreasureWalk") (i : Nat) (hi : lw_tbl[i]? = some (.methodLink own ix y)) (hn : As.length = n) (hR : tw_Rm (tw_zR z) rm mL 1 6) (hcs : tw_zcells z + 1 ≤ (tw_zR z).cells ∧ tw_zslots z + 6 ≤ (tw_zR z).slots) (hst : (st.map fun v => v.category).sum ≤ 8) (hs0 : st0 = As.reverse ++ .ref (b + 0) :: st)
    {name : String} (pre : List ExceptionTableEntry) (en : ExceptionTableEntry) (suf : List ExceptionTableEntry) (htab : (tw_zc z).exceptionTable.toList = pre ++ en :: suf) (hpass : ∀ q ∈ pre, covers q pc = false ∨ (q.catchType ≠ 0 ∧ ∃ nm : String, (Cond.classLink own q.catchType nm).before (tw_zargs z) (tw_zs z) = true ∧ va_Nc x nm (tw_zs z))) (hx : covers en pc = true) (h0 : en.catchType ≠ 0) (j : Nat) (hlink : lw_tbl[j]? = some (.classLink own en.catchType name)) (hcast : (Cond.castable x name) ∈ lw_tbl)
    (kk : ∀ q : Nat, dw_Rf (tw_cz z (tw_zcells z + 1) (tw_zslots z + 6)) b E Y en.handlerPc L [.ref q]) : dw_Rf z b E Y pc L st0 := by
  subst hs0
  intro hE H locs ls hP hS hl T0 hT0 X0
  rcases vx_runV (As := As) (rest := st) (tw_fix X) hM ⟨tw_CB X hy i hi hR, tw_wd X hv.1 rfl, tw_wd X hv.2.1 rfl⟩ ⟨tw_blind, dw_o X hP, fun U hU hW => ⟨rfl, dw_preW X hb hP hS U hU hW⟩⟩ (g := F0 (tw_zm z) pc ls (As.reverse ++ .ref (b + 0) :: st)) rfl hn (hl.1.trans X.2.2.2.2.2.2) rfl (lv_room hst) d hcs T0 hT0 X0 with ⟨v, st₀, t, T', Lc, h0', X', hL, e1, e2, hq, -⟩ | ⟨q, st₀, t, T', Lc, Ex, ce, h0', X', hL, e1, e2, hXC, hce, hcv, hcl, st1⟩
  · exact hq.elim
  · obtain ⟨rfl, hp, hz, hk'⟩ := hXC
    rw [h0'] at hz hk'
    have hS' : tw_SS z T'.heap (locs ++ Lc) := ⟨Nat.le_trans hS.1 (by rw [e1]; exact hz), fun a h1 h2 => by rw [e1, hk' a (Nat.lt_of_lt_of_le h1 hS.1) (fun h => h2 (Nat.le_trans hb h))]; exact hS.2.1 a h1 h2, fun a ha => by
      rcases List.mem_append.mp ha with h | h
      · exact hS.2.2 a h
      · exact Nat.le_trans hb (hL a h)⟩
    have hP' : dw_PP z b Y T'.heap := dw_Wcs (σ := dw_s Y) hP (by rw [e1]; exact hp) (by rw [e1]; exact hz)
    have hh := vx_catch (rest := st) X.ow pre en suf htab hpass hx h0 (X.ws j hlink rfl) (tw_wd X hcast rfl) (by rw [e1]; exact hce) hcv hcl (kk q hE T'.heap (locs ++ Lc) ls hP' hS' hl)
    obtain ⟨t2, a1, b1⟩ := hh T' rfl X'
    exact ⟨t2, st1.trans a1, b1⟩
end DWC
