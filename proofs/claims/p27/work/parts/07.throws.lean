/-! MORE ROWS: nullable references, switches, throws, what a program lays. -/
def tw_bx {α ρ : Type} (e : Option (α ⊕ String)) (k : α → Option (ρ ⊕ String)) : Option (ρ ⊕ String) := match e with | none => none | some (.inl a) => k a | some (.inr x) => some (.inr x)
def tw_nk (r : Option Nat) (c : Nat) : Bool := match r with | none => true | some x => decide (tw_kd x = c)
theorem tw_nk_of {r : Option Nat} {c : Nat} (h : tw_nk r c = true) : ∀ x, r = some x → tw_kd x = c := by
  intro x hx
  subst hx
  exact of_decide_eq_true h
theorem tw_ok_lt {i : Int32} {n : Nat} (h : tw_ok i n = true) : i.toNatClampNeg < n := Nat.not_le.mp fun q => tw_ok_in h (Or.inr q)
theorem tw_le {a b c : Nat} (h : a = b) (hc : Nat.ble c b = true) : c ≤ a := by rw [h]; exact Nat.le_of_ble_eq_true hc
theorem tw_out12 {x : Int32} (h0 : ¬ x = 0) (h1 : ¬ x = 1) (h2 : ¬ x = 2) (h3 : ¬ x = 3) (h4 : ¬ x = 4) (h5 : ¬ x = 5) (h6 : ¬ x = 6) (h7 : ¬ x = 7) (h8 : ¬ x = 8) (h9 : ¬ x = 9) (h10 : ¬ x = 10) (h11 : ¬ x = 11) (h12 : ¬ x = 12) : x.toInt < 0 ∨ (12 : Int) < x.toInt := by
  have e : ∀ v : Int32, ¬ x = v → ¬ x.toInt = v.toInt := fun v h q => h (Int32.toInt_inj.mp q)
  have g0 : ¬ x.toInt = 0 := e 0 h0
  have g1 : ¬ x.toInt = 1 := e 1 h1
  have g2 : ¬ x.toInt = 2 := e 2 h2
  have g3 : ¬ x.toInt = 3 := e 3 h3
  have g4 : ¬ x.toInt = 4 := e 4 h4
  have g5 : ¬ x.toInt = 5 := e 5 h5
  have g6 : ¬ x.toInt = 6 := e 6 h6
  have g7 : ¬ x.toInt = 7 := e 7 h7
  have g8 : ¬ x.toInt = 8 := e 8 h8
  have g9 : ¬ x.toInt = 9 := e 9 h9
  have g10 : ¬ x.toInt = 10 := e 10 h10
  have g11 : ¬ x.toInt = 11 := e 11 h11
  have g12 : ¬ x.toInt = 12 := e 12 h12
  omega
theorem tw_out11 {x : Int32} (h0 : ¬ x = 0) (h1 : ¬ x = 1) (h2 : ¬ x = 2) (h3 : ¬ x = 3) (h4 : ¬ x = 4) (h5 : ¬ x = 5) (h6 : ¬ x = 6) (h7 : ¬ x = 7) (h8 : ¬ x = 8) (h9 : ¬ x = 9) (h10 : ¬ x = 10) (h11 : ¬ x = 11) : x.toInt < 0 ∨ (11 : Int) < x.toInt := by
  have e : ∀ v : Int32, ¬ x = v → ¬ x.toInt = v.toInt := fun v h q => h (Int32.toInt_inj.mp q)
  have g0 : ¬ x.toInt = 0 := e 0 h0
  have g1 : ¬ x.toInt = 1 := e 1 h1
  have g2 : ¬ x.toInt = 2 := e 2 h2
  have g3 : ¬ x.toInt = 3 := e 3 h3
  have g4 : ¬ x.toInt = 4 := e 4 h4
  have g5 : ¬ x.toInt = 5 := e 5 h5
  have g6 : ¬ x.toInt = 6 := e 6 h6
  have g7 : ¬ x.toInt = 7 := e 7 h7
  have g8 : ¬ x.toInt = 8 := e 8 h8
  have g9 : ¬ x.toInt = 9 := e 9 h9
  have g10 : ¬ x.toInt = 10 := e 10 h10
  have g11 : ¬ x.toInt = 11 := e 11 h11
  omega
section TWT
variable {ρ : Type} {z : tw_Z} {res : ρ} {cc : ByteArray} {own : String} {nL pc : Nat} {E : Option ρ} {σ σ' : tw_Sg} {L L' : List (Nat × Value)} {st st0 : List Value}
theorem r_ite {c : Prop} [Decidable c] {A F : Option ρ} (kt : c → tw_Rf z res A σ pc L st) (kf : ¬ c → tw_Rf z res F σ pc L st) : tw_Rf z res (if c then A else F) σ pc L st := by
  by_cases h : c
  · rw [if_pos h]; exact kt h
  · rw [if_neg h]; exact kf h
theorem r_tsw {dflt lo hi : Int} {offs : Array Int} {len : Nat} {x v : Int32} {off : Int} {tgt : Nat} (X : tw_X z cc own nL) (d : decode cc pc = .ok (.tableswitch dflt lo hi offs, len)) (hx : x = v) (h1 : ¬ v.toInt < lo) (h2 : ¬ hi < v.toInt) (ho : offs[(v.toInt - lo).toNat]? = some off) (ht : (pc : Int) + off = (tgt : Int)) (k : tw_Rf z res E σ tgt L st) : tw_Rf z res E σ pc L (.int x :: st) := by
  subst hx
  exact fun hE H locs ls hP hS hl => lv_tableIn X.1 X.2.1 d h1 h2 ho ht (k hE H locs ls hP hS hl)
theorem r_tswD {dflt lo hi : Int} {offs : Array Int} {len : Nat} {x : Int32} {tgt : Nat} (X : tw_X z cc own nL) (d : decode cc pc = .ok (.tableswitch dflt lo hi offs, len)) (h : x.toInt < lo ∨ hi < x.toInt) (ht : (pc : Int) + dflt = (tgt : Int)) (k : tw_Rf z res E σ tgt L st) : tw_Rf z res E σ pc L (.int x :: st) :=
  fun hE H locs ls hP hS hl => lv_tableOut X.1 X.2.1 d h ht (k hE H locs ls hP hS hl)
theorem r_ldcIw {ix : Nat} {v : Int32} (X : tw_X z cc own nL) (d : decode cc pc = .ok (.ldc_w ix, 3)) (i : Nat) (hi : lw_tbl[i]? = some (.constant own ix v)) (k : tw_Rf z res E σ (pc + 3) L (.int v :: st)) : tw_Rf z res E σ pc L st :=
  fun hE H locs ls hP hS hl => lv_ldcw X.1 X.2.1 X.ow (X.ws i hi rfl) d (k hE H locs ls hP hS hl)
theorem r_aload_rn {j : Fin 4} {i : Nat} {r : Option Nat} (X : tw_X z cc own nL) (d : decode cc pc = .ok (.aload_n j, 1)) (hi : (j : Nat) = i) (q : Nat) (hq : L[q]? = some (i, va_rf (Option.map (fun k => tw_zB z + k) r))) (k : tw_Rf z res E σ (pc + 1) L (va_rf (Option.map (fun k => tw_zB z + k) r) :: st)) : tw_Rf z res E σ pc L st := by
  cases r with
  | none => exact r_aload_nN X d hi q hq k
  | some x => exact r_aload_n X d hi q hq k
theorem r_astore_rn {j : Fin 4} {i : Nat} {r : Option Nat} (X : tw_X z cc own nL) (d : decode cc pc = .ok (.astore_n j, 1)) (hi : (j : Nat) = i) (hn : i < nL) (hL : (i, va_rf (Option.map (fun k => tw_zB z + k) r)) :: L.filter (fun q => !(q.1 == i) && !(q.1 + 1 == i && q.2.category == 2)) = L') (k : tw_Rf z res E σ (pc + 1) L' st) : tw_Rf z res E σ pc L (va_rf (Option.map (fun k => tw_zB z + k) r) :: st) := by
  cases r with
  | none => exact r_astore_nN X d hi hn hL k
  | some x => exact r_astore_n X d hi hn hL k
theorem r_aret_rn {out : ρ → Option Value × tw_Sg} {r : ρ} {x : Option Nat} {Cr : String} (X : tw_X z cc own nL) (d : decode cc pc = .ok (.areturn, 1)) (hret : (tw_zmeth z).sig.returnType = some (.object Cr)) (hQ : tw_Ro z out res) (ho : out r = (some (va_rf (Option.map (fun k => tw_zB z + k) x)), σ)) : tw_Rf z res (some r) σ pc L [va_rf (Option.map (fun k => tw_zB z + k) x)] := by
  cases x with
  | none => exact r_aretN X d hret hQ ho
  | some a => exact r_aret X d hret hQ ho
end TWT
/-! methods that may throw -/
def tw_To (z : tw_Z) (σ : tw_Sg) (x : String) : Prop :=
  (tw_zl z).stackTraces = false ∧ 5 < (tw_zR z).frames ∧ 90 ≤ (tw_zR z).locals ∧ 1 ≤ (tw_zR z).cells ∧ 6 ≤ (tw_zR z).slots ∧ tw_zcells z = 0 ∧ tw_zslots z = 0 ∧ (∀ y ∈ (tw_zc z).exceptionTable.toList, False) ∧
  tw_zQ z = vx_MQ (tw_zbelow z) (fun _ _ _ _ => False) (tw_XC (tw_zB z) (tw_zD z) (tw_zC z) σ x) (tw_zargs z) (tw_zs z) 1 6 (fun q => tw_zB z ≤ q)
def tw_RoX {ρ : Type} (z : tw_Z) (out : ρ → Option Value × tw_Sg) (res : ρ ⊕ String) : Prop := ∀ r : ρ, res = .inl r → tw_Ro z out r
section TWU
variable {ρ : Type} {z : tw_Z} {res : ρ ⊕ String} {cc : ByteArray} {own : String} {nL pc : Nat} {E : Option (ρ ⊕ String)} {σ σ' : tw_Sg} {L L' : List (Nat × Value)} {st st0 : List Value} {out : ρ → Option Value × tw_Sg} {r : ρ}
theorem r_bx {α : Type} {e : Option (α ⊕ String)} {K : α → Option (ρ ⊕ String)} (k : ∀ a, e = some (.inl a) → tw_Rf z res (K a) σ pc L st) (kx : ∀ x, e = some (.inr x) → tw_Rf z res (some (.inr x)) σ pc L st) : tw_Rf z res (tw_bx e K) σ pc L st := by
  cases e with
  | none => intro hE; cases hE
  | some v =>
    cases v with
    | inl a => exact k a rfl
    | inr x => exact kx x rfl
theorem r_iretX {x : Int32} (X : tw_X z cc own nL) (d : decode cc pc = .ok (.ireturn, 1)) (hret : (tw_zmeth z).sig.returnType = some .int) (hQ : tw_RoX z out res) (ho : out r = (some (.int x), σ)) : tw_Rf z res (some (Sum.inl r)) σ pc L [.int x] := by
  intro hE
  exact r_iret X d hret (hQ r (Option.some.inj hE).symm) ho rfl
theorem r_zretX {x : Int32} (X : tw_X z cc own nL) (d : decode cc pc = .ok (.ireturn, 1)) (hret : (tw_zmeth z).sig.returnType = some .boolean) (hQ : tw_RoX z out res) (ho : out r = (some (.int x), σ)) : tw_Rf z res (tw_ck (tw_01 x) (some (Sum.inl r))) σ pc L [.int x] := by
  intro hE
  obtain ⟨h1, h2⟩ := tw_ck_of hE
  have h3 : tw_ck (tw_01 x) (some r) = some r := by rw [h1]; rfl
  exact r_zret X d hret (hQ r (Option.some.inj h2).symm) ho h3
theorem r_vretX (X : tw_X z cc own nL) (d : decode cc pc = .ok (.return_, 1)) (hret : (tw_zmeth z).sig.returnType = none) (hQ : tw_RoX z out res) (ho : out r = (none, σ)) : tw_Rf z res (some (Sum.inl r)) σ pc L [] := by
  intro hE
  exact r_vret X d hret (hQ r (Option.some.inj hE).symm) ho rfl
theorem r_lretX {x : Int64} (X : tw_X z cc own nL) (d : decode cc pc = .ok (.lreturn, 1)) (hret : (tw_zmeth z).sig.returnType = some .long) (hQ : tw_RoX z out res) (ho : out r = (some (.long x), σ)) : tw_Rf z res (some (Sum.inl r)) σ pc L [.long x] := by
  intro hE
  exact r_lret X d hret (hQ r (Option.some.inj hE).symm) ho rfl
theorem tw_XCof {x : String} {H : Heap} {locs : List Loc} (hP : tw_PP z σ H) (hS : tw_SS z H locs) {t : State} (h1 : H.size ≤ t.heap.size) (h2 : ∀ q : Nat, q < H.size → t.heap[q]? = H[q]?) : tw_XC (tw_zB z) (tw_zD z) (tw_zC z) σ x x (tw_zs z) t :=
  ⟨rfl, hP.kept (fun k q hq => h2 q.1 ((hP k q hq).lt)), ⟨Nat.le_trans hS.1 h1, fun q h3 h4 => by rw [h2 q (Nat.lt_of_lt_of_le h3 hS.1)]; exact hS.2.1 q h3 h4⟩⟩
theorem r_thr {cls text : String} {ik is ic j : Nat} (X : tw_X z cc own nL) (d0 : decode cc pc = .ok (.new ik, 3)) (d3 : decode cc (pc + 3) = .ok (.dup, 1)) (d4 : decode cc (pc + 4) = .ok (.ldc is, 2)) (d6 : decode cc (pc + 6) = .ok (.invokespecial ic, 3)) (d9 : decode cc (pc + 9) = .ok (.athrow, 1)) (hj : (own, is, text, j) ∈ tw_ldc) (hcls : Bundle.fit cls = true) (i : Nat) (hi : lw_tbl[i]? = some (.classLink own ik cls)) (hini : (Cond.initialized cls) ∈ lw_tbl) (hat : ∀ w ∈ vx_atS own ic cls ["java/lang/RuntimeException", "java/lang/Exception"], w ∈ tw_AW)
    (hgood : ∀ w ∈ Cond.classLink own ik cls :: Cond.initialized cls :: vx_atS own ic cls ["java/lang/RuntimeException", "java/lang/Exception"], vx_ot w = true) (hst : (st.map fun v => v.category).sum ≤ 8) (hT : tw_To z σ cls) : tw_Rf z res E σ pc L st := by
  obtain ⟨t1, t2, t3, t4, t5, t6, t7, t8, t9⟩ := hT
  intro hE H locs ls hP hS hl
  unfold tw_W
  rw [t9]
  have EVs := X.2.2.2.2.2.1
  exact vx_throwS X.1 X.2.1 t1 X.ow hcls (by decide) (X.ws i hi rfl) ((EVs.1 _ hini rfl).use rfl) (EVs.2.2.2.2.1 _ hj) (fun w hw => X.all w (hat w hw)) hgood EVs.2.2.2.2.2.1.1 EVs.2.2.2.2.2.1.2 hS (hl.1.trans (X.2.2.2.2.2.2.trans X.2.2.1.symm)) d0 d3 d4 d6 d9 (fun y hy => (t8 y hy).elim) t2 (by show _ + (13 * 3 + 43) ≤ _; omega) (by rw [t6]; exact t4) (by rw [t7]; exact t5) X.2.2.2.2.1 (fun t _ h1 h2 => tw_XCof hP hS h1 h2) hS.2.2 (by rw [t6]; exact Nat.le_refl 1) (by rw [t7]; exact Nat.le_refl 6)
/-- a callee throws, and nobody catches it here -/
theorem r_runX {A : Array Value} {x : String} {Qc : Array Value → State → Outcome → State → Prop} (hQc : ∀ s o t, ¬ Qc A s o t) (hr : ∀ (H : Heap) (locs : List Loc) (ls : Array Slot), tw_PP z σ H → tw_SS z H locs → lv_has ls (tw_znL z) L → vx_Run (tw_zp z) (tw_zl z) (tw_ze z) (tw_zR z) (tw_zs z) (tw_zm z) (tw_zargs z) (tw_zbelow z) (tw_zmeth z) (tw_zc z) H locs (tw_zcells z) (tw_zslots z) 1 6 (F0 (tw_zm z) pc ls st0) st (Qc A) (tw_XC (tw_zB z) (tw_zD z) (tw_zC z) σ x) (fun q => tw_zB z ≤ q))
    (hlocks : (tw_zmeth z).locks = false) (hT : tw_To z σ x) : tw_Rf z res E σ pc L st0 := by
  obtain ⟨t1, t2, t3, t4, t5, t6, t7, t8, t9⟩ := hT
  intro hE H locs ls hP hS hl T hT X
  rcases hr H locs ls hP hS hl T hT X with ⟨v, st₀, t, T', Lc, h0, X', hL, e1, e2, hq, -⟩ | ⟨q, st₀, t, T', Lc, Ex, ce, h0, X', hL, e1, e2, hXC, hce, hcv, hcl, st1⟩
  · exact absurd hq (hQc _ _ _)
  · obtain ⟨rfl, hp, hz, hk⟩ := hXC
    rw [h0] at hz hk
    have hF : va_F (fun q => tw_zB z ≤ q) (tw_zs z) t := ⟨Nat.le_trans hS.1 hz, fun q h1 h2 => by rw [hk q (Nat.lt_of_lt_of_le h1 hS.1) h2]; exact hS.2.1 q h1 h2⟩
    rw [t9]
    have hh := vx_out (p := tw_zp z) (l := tw_zl z) (e := tw_ze z) (R := tw_zR z) (s := tw_zs z) (m := tw_zm z) (args := tw_zargs z) (below := tw_zbelow z) (meth := tw_zmeth z) (c := tw_zc z) (H := T'.heap) (locs := locs ++ Lc) (cells := tw_zcells z + 1) (slots := tw_zslots z + 6) (free := fun q => tw_zB z ≤ q) (ls := ls) (rest := st) (Qc := fun _ _ _ _ => False) (XC := tw_XC (tw_zB z) (tw_zD z) (tw_zC z) σ Ex) (pc := pc) (E := Ex) (ce := ce) (q := q) (mc := 1) (ms := 6) (fun y hy => (t8 y hy).elim) hlocks (by rw [e1]; exact hce) hcv hcl (fun t' ht' _ => ⟨rfl, by rw [ht', e1]; exact hp, ⟨by rw [ht', e1]; exact hF.1, fun q h1 h2 => by rw [ht', e1]; exact hF.2 q h1 h2⟩⟩) (fun y hy => by
      rcases List.mem_append.mp hy with h | h
      · exact hS.2.2 y h
      · exact hL y h) (by rw [t6]; exact Nat.le_refl 1) (by rw [t7]; exact Nat.le_refl 6)
    obtain ⟨t2, a1, b1⟩ := hh T' rfl X'
    exact ⟨t2, st1.trans a1, b1⟩
variable {ix ci k mL n N : Nat} {y : MethodName} {cy : ByteArray} {ret : Option FieldType} {rm : Room} {Cn host : String} {T : u_T} {fs : List Value} {As : List Value} {x : String}
theorem r_callVX (X : tw_X z cc own nL) (d : decode cc pc = .ok (.invokevirtual ix, 3)) (hM : tw_MetX (tw_zl z) (tw_zB z) (tw_zD z) (tw_zC z) (tw_zS z) y cy mL ret rm (.ref (tw_zB z + k) :: As) σ x) (hy : tw_My y cy mL ret n) (hv : tw_Mv y Cn) (i : Nat) (hi : lw_tbl[i]? = some (.methodLink own ix y)) (hc : vwCl[ci]? = some (Cn, T, N)) (hk : k < 442) (hE0 : tw_E (tw_zB z) (tw_zC z) σ k = .inr (ci, fs)) (hn : As.length = n) (hR : tw_Rm (tw_zR z) rm mL 1 6) (hst : (st.map fun v => v.category).sum ≤ 8) (hs0 : st0 = As.reverse ++ .ref (tw_zB z + k) :: st) (hT : tw_To z σ x) : tw_Rf z res E σ pc L st0 := by
  subst hs0
  exact r_runX (fun _ _ _ h => h) (fun H locs ls hP hS hl => vx_runV (As := As) (rest := st) (tw_fix X) hM ⟨tw_CB X hy i hi hR, tw_wd X hv.1 rfl, tw_wd X hv.2.1 rfl⟩ (tw_preV X hP hS hc hk hE0) rfl hn (hl.1.trans X.2.2.2.2.2.2) rfl (lv_room hst) d ⟨by rw [hT.2.2.2.2.2.1]; exact hT.2.2.2.1, by rw [hT.2.2.2.2.2.2.1]; exact hT.2.2.2.2.1⟩) X.2.2.2.2.1 hT
end TWU
/-- contracts out of a walk of a method that may throw: it returns -/
theorem tw_metOfR {ρ : Type} {l : Launch} {B : Nat} {D : tw_G} {C : Nat → ClassId} {S : Nat → Nat} {y : MethodName} {cy : ByteArray} {mL : Nat} {ret : Option FieldType} {rm : Room} {argv : List Value} {σ : tw_Sg} (E : Option (ρ ⊕ String)) (r : ρ) (hres : E = some (.inl r)) (out : ρ → Option Value × tw_Sg) (hy : plainName y.cls = true) (hlen : (lg_sl argv).length ≤ mL)
    (body : ∀ (z : tw_Z) (res : ρ ⊕ String), tw_zl z = l → tw_zB z = B → tw_zD z = D → tw_zC z = C → tw_zS z = S → (tw_zR z).frames = rm.frames → (tw_zR z).locals = rm.locals → (tw_zcells z ≤ (tw_zR z).cells ∧ tw_zslots z ≤ (tw_zR z).slots) → tw_X z cy y.cls mL → (tw_zmeth z).sig.returnType = ret → tw_RoX z out res → (∀ x, res = .inr x → tw_To z σ x) → tw_Rf z res E σ 0 (lv_args 0 argv) []) : tw_Met l B D C S y cy mL ret { rm with cells := 0, slots := 0 } argv σ (out r).1 (out r).2 := by
  refine Met.ofW (cc := cy) (maxL := mL) (ret := ret) hy rfl ?_
  intro p e s m args below meth c s₁ Bd hml hv
  obtain ⟨rfl, hP, hEV⟩ := hv
  rw [lg_entry_eq]
  have hl := lv_entry argv (n := mL) hlen
  have hR : (headSpec [Cond.code y cy mL ret] { rm with cells := 0, slots := 0 }).room = { rm with cells := 0, slots := 0 } := rfl
  rw [hR]
  exact body (p, l, e, { rm with cells := 0, slots := 0 }, s, m, argv.toArray, below, meth, c, B, D, C, S, mL, 0, 0, MQ below (tw_Qc B D C (out r).1 (out r).2) argv.toArray s 0 0 (fun q => B ≤ q)) (.inl r) rfl rfl rfl rfl rfl rfl rfl ⟨Nat.le_refl 0, Nat.le_refl 0⟩ ⟨Bd.exec, Bd.bytes, hml, findClass_of_methodNamed Bd.named, Bd.notSynchronized, hEV, rfl⟩ Bd.returns (fun r' h' H locs g h => by cases h'; exact h) (fun x h => by cases h) hres s.heap [] _ hP va_S.rf hl
/-- .. it throws -/
theorem tw_metOfX {ρ : Type} {l : Launch} (hst : l.stackTraces = false) {B : Nat} {D : tw_G} {C : Nat → ClassId} {S : Nat → Nat} {y : MethodName} {cy : ByteArray} {mL : Nat} {ret : Option FieldType} {rm : Room} {argv : List Value} {σ : tw_Sg} (E : Option (ρ ⊕ String)) (x : String) (hres : E = some (.inr x)) (out : ρ → Option Value × tw_Sg) (hy : plainName y.cls = true) (hlen : (lg_sl argv).length ≤ mL) (hrm : 5 < rm.frames ∧ 90 ≤ rm.locals)
    (body : ∀ (z : tw_Z) (res : ρ ⊕ String), tw_zl z = l → tw_zB z = B → tw_zD z = D → tw_zC z = C → tw_zS z = S → (tw_zR z).frames = rm.frames → (tw_zR z).locals = rm.locals → (tw_zcells z ≤ (tw_zR z).cells ∧ tw_zslots z ≤ (tw_zR z).slots) → tw_X z cy y.cls mL → (tw_zmeth z).sig.returnType = ret → tw_RoX z out res → (∀ x, res = .inr x → tw_To z σ x) → tw_Rf z res E σ 0 (lv_args 0 argv) []) : tw_MetX l B D C S y cy mL ret { rm with cells := 1, slots := 6 } argv σ x := by
  refine vx_ofW (cc := cy) (maxL := mL) (ret := ret) hy rfl ?_
  intro p e s m args below meth c s₁ Bd hml htab hv
  obtain ⟨rfl, hP, hEV⟩ := hv
  rw [lg_entry_eq]
  have hl := lv_entry argv (n := mL) hlen
  have hR : (headSpec [Cond.code y cy mL ret] { rm with cells := 1, slots := 6 }).room = { rm with cells := 1, slots := 6 } := rfl
  rw [hR]
  exact body (p, l, e, { rm with cells := 1, slots := 6 }, s, m, argv.toArray, below, meth, c, B, D, C, S, mL, 0, 0, vx_MQ below (fun _ _ _ _ => False) (tw_XC B D C σ x) argv.toArray s 1 6 (fun q => B ≤ q)) (.inr x) rfl rfl rfl rfl rfl rfl rfl ⟨Nat.zero_le 1, Nat.zero_le 6⟩ ⟨Bd.exec, Bd.bytes, hml, findClass_of_methodNamed Bd.named, Bd.notSynchronized, hEV, rfl⟩ Bd.returns (fun r' h' => by cases h') (fun x' h' => by cases h'; exact ⟨hst, hrm.1, hrm.2, Nat.le_refl 1, Nat.le_refl 6, rfl, rfl, htab, rfl⟩) hres s.heap [] _ hP va_S.rf hl
theorem tw_metOfP {ρ : Type} {l : Launch} {B : Nat} {D : tw_G} {C : Nat → ClassId} {S : Nat → Nat} {y : MethodName} {cy : ByteArray} {mL : Nat} {ret : Option FieldType} {rm : Room} {argv : List Value} {σ : tw_Sg} (E : Option ρ) (res : ρ) (hres : E = some res) (out : ρ → Option Value × tw_Sg) (hy : plainName y.cls = true) (hlen : (lg_sl argv).length ≤ mL) (hrm : rm.cells = 0 ∧ rm.slots = 0)
    (body : ∀ z : tw_Z, tw_zl z = l → tw_zB z = B → tw_zD z = D → tw_zC z = C → tw_zS z = S → (tw_zR z).frames = rm.frames → (tw_zR z).locals = rm.locals → (tw_zcells z ≤ (tw_zR z).cells ∧ tw_zslots z ≤ (tw_zR z).slots) → tw_X z cy y.cls mL → (tw_zmeth z).sig.returnType = ret → tw_Ro z out res → tw_Rf z res E σ 0 (lv_args 0 argv) []) : tw_Met l B D C S y cy mL ret rm argv σ (out res).1 (out res).2 :=
  tw_metOf E res hres out hy hlen hrm (fun z el eB eD eC eS eR ec es X hret hQ => body z el eB eD eC eS (by rw [eR]) (by rw [eR]) ⟨by rw [ec]; exact Nat.zero_le _, by rw [es]; exact Nat.zero_le _⟩ X hret hQ)
