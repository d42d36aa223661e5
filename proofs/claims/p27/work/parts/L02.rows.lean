/-! ROWS OVER THE LAW'S OWN WORLD: E is what is owed from here on -/
def pw_lt {α : Type} (e : α) (k : α → Prop) : Prop := k e
def pw_ck (c E : Prop) : Prop := c ∧ E
def pw_lp {α : Type} (body : (α → Prop) → α → Prop) : Nat → α → Prop
  | 0, _ => False
  | n + 1, a => body (pw_lp body n) a
def pw_mt (e : Option Nat) (A : Prop) (K : Nat → Prop) : Prop := match e with | none => A | some x => K x
def pw_nn (e : Option Nat) (K : Nat → Prop) : Prop := match e with | none => False | some x => K x
def pw_bd {α : Type} (e : Option α) (K : α → Prop) : Prop := ∃ a, e = some a ∧ K a
abbrev dw_PP (z : tw_Z) (b : Nat) (Y : dw_S) (H : Heap) : Prop := dw_W b (tw_zD z) (tw_zC z) Y H
def dw_Rf (z : tw_Z) (b : Nat) (E : Prop) (Y : dw_S) (pc : Nat) (L : List (Nat × Value)) (st : List Value) : Prop :=
  E → ∀ (H : Heap) (locs : List Loc) (ls : Array Slot), dw_PP z b Y H → tw_SS z H locs → lv_has ls (tw_znL z) L → tw_W z H locs (F0 (tw_zm z) pc ls st)
section DWR
variable {z : tw_Z} {b : Nat} {cc : ByteArray} {own : String} {nL pc : Nat} {E : Prop} {Y : dw_S} {L L' : List (Nat × Value)} {st : List Value}
theorem dw_Rf.sub (ks : List Nat) (hl : lv_pick L ks = L') (k : dw_Rf z b E Y pc L' st) : dw_Rf z b E Y pc L st := fun hE H locs ls hP hS h => k hE H locs ls hP hS (lv_sub h ks hl)
theorem dw_Rf.eq {E' : Prop} (h : E → E') (k : dw_Rf z b E' Y pc L st) : dw_Rf z b E Y pc L st := fun hE => k (h hE)
theorem e_ck {c : Prop} (k : c → dw_Rf z b E Y pc L st) : dw_Rf z b (pw_ck c E) Y pc L st := fun hE => k hE.1 hE.2
theorem e_lt {α : Type} {e : α} {K : α → Prop} (k : dw_Rf z b (K e) Y pc L st) : dw_Rf z b (pw_lt e K) Y pc L st := k
theorem e_ite {c : Prop} [Decidable c] {A F : Prop} (kt : c → dw_Rf z b A Y pc L st) (kf : ¬ c → dw_Rf z b F Y pc L st) : dw_Rf z b (if c then A else F) Y pc L st := by
  by_cases h : c
  · rw [if_pos h]; exact kt h
  · rw [if_neg h]; exact kf h
theorem e_jn {α : Type} {r : α → Prop} {bb : (α → Prop) → Prop} {zJ : α → tw_Z} {YJ : α → dw_S} {pcJ : Nat} {LJ : α → List (Nat × Value)} {stJ : α → List Value}
    (hr : ∀ a, dw_Rf (zJ a) b (r a) (YJ a) pcJ (LJ a) (stJ a)) (hb : ∀ f : α → Prop, (∀ a, dw_Rf (zJ a) b (f a) (YJ a) pcJ (LJ a) (stJ a)) → dw_Rf z b (bb f) Y pc L st) : dw_Rf z b (tw_jn r bb) Y pc L st := hb r hr
theorem e_lp {α : Type} {body : (α → Prop) → α → Prop} {zJ : α → tw_Z} {YJ : α → dw_S} {pcJ : Nat} {LJ : α → List (Nat × Value)} {stJ : α → List Value}
    (h : ∀ f : α → Prop, (∀ a, dw_Rf (zJ a) b (f a) (YJ a) pcJ (LJ a) (stJ a)) → ∀ a, dw_Rf (zJ a) b (body f a) (YJ a) pcJ (LJ a) (stJ a)) : ∀ (n : Nat) (a : α), dw_Rf (zJ a) b (pw_lp body n a) (YJ a) pcJ (LJ a) (stJ a) := by
  intro n
  induction n with
  | zero => intro a hE; exact hE.elim
  | succ n ih => intro a; exact h (pw_lp body n) ih a
theorem e_nn {r : Option Nat} {K : Nat → Prop} {LL : Option Nat → List (Nat × Value)} {SS : Option Nat → List Value} (k : ∀ x, dw_Rf z b (K x) Y pc (LL (some x)) (SS (some x))) : dw_Rf z b (pw_nn r K) Y pc (LL r) (SS r) := by
  cases r with
  | none => intro hE; exact hE.elim
  | some x => exact k x
theorem e_iconst {n : Int} {v : Int32} (X : tw_X z cc own nL) (d : decode cc pc = .ok (.iconst n, 1)) (hv : Int32.ofInt n = v) (k : dw_Rf z b E Y (pc + 1) L (.int v :: st)) : dw_Rf z b E Y pc L (st) := fun hE H locs ls hP hS hl => lv_iconst X.1 X.2.1 d hv (k hE H locs ls hP hS hl)
theorem e_bipush {n : Int} {v : Int32} (X : tw_X z cc own nL) (d : decode cc pc = .ok (.bipush n, 2)) (hv : (Int8.ofInt n).toInt32 = v) (k : dw_Rf z b E Y (pc + 2) L (.int v :: st)) : dw_Rf z b E Y pc L (st) := fun hE H locs ls hP hS hl => lv_bipush X.1 X.2.1 d hv (k hE H locs ls hP hS hl)
theorem e_sipush {n : Int} {v : Int32} (X : tw_X z cc own nL) (d : decode cc pc = .ok (.sipush n, 3)) (hv : (Int16.ofInt n).toInt32 = v) (k : dw_Rf z b E Y (pc + 3) L (.int v :: st)) : dw_Rf z b E Y pc L (st) := fun hE H locs ls hP hS hl => lv_sipush X.1 X.2.1 d hv (k hE H locs ls hP hS hl)
theorem e_lconst {n : Fin 2} {v : Int64} (X : tw_X z cc own nL) (d : decode cc pc = .ok (.lconst n, 1)) (hv : Int64.ofNat (n : Nat) = v) (k : dw_Rf z b E Y (pc + 1) L (.long v :: st)) : dw_Rf z b E Y pc L (st) := fun hE H locs ls hP hS hl => lv_lconst X.1 X.2.1 d hv (k hE H locs ls hP hS hl)
theorem e_ldcI {ix : Nat} {v : Int32} (X : tw_X z cc own nL) (d : decode cc pc = .ok (.ldc ix, 2)) (i : Nat) (hi : lw_tbl[i]? = some (.constant own ix v)) (k : dw_Rf z b E Y (pc + 2) L (.int v :: st)) : dw_Rf z b E Y pc L (st) := fun hE H locs ls hP hS hl => lv_ldc X.1 X.2.1 X.ow (X.ws i hi rfl) d (k hE H locs ls hP hS hl)
theorem e_ldc2 {ix : Nat} {v : Int64} (X : tw_X z cc own nL) (d : decode cc pc = .ok (.ldc2_w ix, 3)) (i : Nat) (hi : lw_tbl[i]? = some (.constantLong own ix v)) (k : dw_Rf z b E Y (pc + 3) L (.long v :: st)) : dw_Rf z b E Y pc L (st) := fun hE H locs ls hP hS hl => lv_ldc2 X.1 X.2.1 X.ow (X.ws i hi rfl) d (k hE H locs ls hP hS hl)
theorem e_null (X : tw_X z cc own nL) (d : decode cc pc = .ok (.aconst_null, 1)) (k : dw_Rf z b E Y (pc + 1) L (.null :: st)) : dw_Rf z b E Y pc L (st) := fun hE H locs ls hP hS hl => lv_null X.1 X.2.1 d (k hE H locs ls hP hS hl)
theorem e_ldcS {ix j : Nat} {tx : String} (X : tw_X z cc own nL) (d : decode cc pc = .ok (.ldc ix, 2)) (hj : (own, ix, tx, j) ∈ tw_ldc) (k : dw_Rf z b E Y (pc + 2) L (.ref (tw_zS z j) :: st)) : dw_Rf z b E Y pc L (st) := fun hE H locs ls hP hS hl => va_ldcS X.1 X.2.1 X.ow (X.2.2.2.2.2.1.2.2.2.2.1 _ hj) d (k hE H locs ls hP hS hl)
theorem e_iload_n {j : Fin 4} {i : Nat} {x : Int32} (X : tw_X z cc own nL) (d : decode cc pc = .ok (.iload_n j, 1)) (hi : (j : Nat) = i) (q : Nat) (hq : L[q]? = some (i, .int x)) (k : dw_Rf z b E Y (pc + 1) L (.int x :: st)) : dw_Rf z b E Y pc L (st) := fun hE H locs ls hP hS hl => lv_iload_n X.1 X.2.1 d hi (tw_hl hl q hq) (k hE H locs ls hP hS hl)
theorem e_iload {i : Nat} {x : Int32} (X : tw_X z cc own nL) (d : decode cc pc = .ok (.iload i, 2)) (q : Nat) (hq : L[q]? = some (i, .int x)) (k : dw_Rf z b E Y (pc + 2) L (.int x :: st)) : dw_Rf z b E Y pc L (st) := fun hE H locs ls hP hS hl => lv_iload X.1 X.2.1 d (tw_hl hl q hq) (k hE H locs ls hP hS hl)
theorem e_lload_n {j : Fin 4} {i : Nat} {x : Int64} (X : tw_X z cc own nL) (d : decode cc pc = .ok (.lload_n j, 1)) (hi : (j : Nat) = i) (q : Nat) (hq : L[q]? = some (i, .long x)) (k : dw_Rf z b E Y (pc + 1) L (.long x :: st)) : dw_Rf z b E Y pc L (st) := fun hE H locs ls hP hS hl => lv_lload_n X.1 X.2.1 d hi (tw_hl hl q hq) (k hE H locs ls hP hS hl)
theorem e_aload_n {j : Fin 4} {i : Nat} {x : Nat} (X : tw_X z cc own nL) (d : decode cc pc = .ok (.aload_n j, 1)) (hi : (j : Nat) = i) (q : Nat) (hq : L[q]? = some (i, .ref x)) (k : dw_Rf z b E Y (pc + 1) L (.ref x :: st)) : dw_Rf z b E Y pc L (st) := fun hE H locs ls hP hS hl => lv_aload_n X.1 X.2.1 d hi (tw_hl hl q hq) (k hE H locs ls hP hS hl)
theorem e_aload {i : Nat} {x : Nat} (X : tw_X z cc own nL) (d : decode cc pc = .ok (.aload i, 2)) (q : Nat) (hq : L[q]? = some (i, .ref x)) (k : dw_Rf z b E Y (pc + 2) L (.ref x :: st)) : dw_Rf z b E Y pc L (st) := fun hE H locs ls hP hS hl => lv_aload X.1 X.2.1 d (tw_hl hl q hq) (k hE H locs ls hP hS hl)
theorem e_aload_nN {j : Fin 4} {i : Nat} (X : tw_X z cc own nL) (d : decode cc pc = .ok (.aload_n j, 1)) (hi : (j : Nat) = i) (q : Nat) (hq : L[q]? = some (i, .null)) (k : dw_Rf z b E Y (pc + 1) L (.null :: st)) : dw_Rf z b E Y pc L (st) := fun hE H locs ls hP hS hl => lv_aload_nN X.1 X.2.1 d hi (tw_hl hl q hq) (k hE H locs ls hP hS hl)
theorem e_istore_n {j : Fin 4} {i : Nat} {x : Int32} {K : Int32 → Prop} {LL : Int32 → List (Nat × Value)} (X : tw_X z cc own nL) (d : decode cc pc = .ok (.istore_n j, 1)) (hi : (j : Nat) = i) (hn : i < nL) (hL : ∀ x, (i, Value.int x) :: L.filter (fun q => !(q.1 == i) && !(q.1 + 1 == i && q.2.category == 2)) = LL x) (k : ∀ x, dw_Rf z b (K x) Y (pc + 1) (LL x) st) : dw_Rf z b (pw_lt x K) Y pc L (.int x :: st) := fun hE H locs ls hP hS hl => lv_istore_n X.1 X.2.1 d hi hl (tw_nLt X hn) (hL x) (fun ls' hl' => k x hE H locs ls' hP hS hl')
theorem e_istore {i : Nat} {x : Int32} {K : Int32 → Prop} {LL : Int32 → List (Nat × Value)} (X : tw_X z cc own nL) (d : decode cc pc = .ok (.istore i, 2)) (hn : i < nL) (hL : ∀ x, (i, Value.int x) :: L.filter (fun q => !(q.1 == i) && !(q.1 + 1 == i && q.2.category == 2)) = LL x) (k : ∀ x, dw_Rf z b (K x) Y (pc + 2) (LL x) st) : dw_Rf z b (pw_lt x K) Y pc L (.int x :: st) := fun hE H locs ls hP hS hl => lv_istore X.1 X.2.1 d hl (tw_nLt X hn) (hL x) (fun ls' hl' => k x hE H locs ls' hP hS hl')
theorem e_lstore_n {j : Fin 4} {i : Nat} {x : Int64} {K : Int64 → Prop} {LL : Int64 → List (Nat × Value)} (X : tw_X z cc own nL) (d : decode cc pc = .ok (.lstore_n j, 1)) (hi : (j : Nat) = i) (hn : i + 1 < nL) (hL : ∀ x, (i, Value.long x) :: L.filter (fun q => !(q.1 == i) && (!(q.1 == i + 1) && !(q.1 + 1 == i && q.2.category == 2))) = LL x) (k : ∀ x, dw_Rf z b (K x) Y (pc + 1) (LL x) st) : dw_Rf z b (pw_lt x K) Y pc L (.long x :: st) := fun hE H locs ls hP hS hl => lv_lstore_n X.1 X.2.1 d hi hl (tw_nLt X hn) (hL x) (fun ls' hl' => k x hE H locs ls' hP hS hl')
theorem e_astore_n {j : Fin 4} {i : Nat} {x : Nat} (X : tw_X z cc own nL) (d : decode cc pc = .ok (.astore_n j, 1)) (hi : (j : Nat) = i) (hn : i < nL) (hL : (i, Value.ref x) :: L.filter (fun q => !(q.1 == i) && !(q.1 + 1 == i && q.2.category == 2)) = L') (k : dw_Rf z b E Y (pc + 1) L' st) : dw_Rf z b E Y pc L (.ref x :: st) := fun hE H locs ls hP hS hl => lv_astore_n X.1 X.2.1 d hi hl (tw_nLt X hn) hL (fun ls' hl' => k hE H locs ls' hP hS hl')
theorem e_astore {i : Nat} {x : Nat} (X : tw_X z cc own nL) (d : decode cc pc = .ok (.astore i, 2)) (hn : i < nL) (hL : (i, Value.ref x) :: L.filter (fun q => !(q.1 == i) && !(q.1 + 1 == i && q.2.category == 2)) = L') (k : dw_Rf z b E Y (pc + 2) L' st) : dw_Rf z b E Y pc L (.ref x :: st) := fun hE H locs ls hP hS hl => lv_astore X.1 X.2.1 d hl (tw_nLt X hn) hL (fun ls' hl' => k hE H locs ls' hP hS hl')
theorem e_astore_nN {j : Fin 4} {i : Nat} (X : tw_X z cc own nL) (d : decode cc pc = .ok (.astore_n j, 1)) (hi : (j : Nat) = i) (hn : i < nL) (hL : (i, Value.null) :: L.filter (fun q => !(q.1 == i) && !(q.1 + 1 == i && q.2.category == 2)) = L') (k : dw_Rf z b E Y (pc + 1) L' st) : dw_Rf z b E Y pc L (.null :: st) := fun hE H locs ls hP hS hl => lv_astore_nN X.1 X.2.1 d hi hl (tw_nLt X hn) hL (fun ls' hl' => k hE H locs ls' hP hS hl')
theorem e_iinc {i : Nat} {n : Int} {x v : Int32} {K : Int32 → Prop} {LL : Int32 → List (Nat × Value)} (X : tw_X z cc own nL) (d : decode cc pc = .ok (.iinc i n, 3)) (q : Nat) (hq : L[q]? = some (i, .int x)) (hv : Int32.ofInt n = v) (hn : i < nL) (hL : ∀ x, (i, Value.int x) :: L.filter (fun q => !(q.1 == i) && !(q.1 + 1 == i && q.2.category == 2)) = LL x) (k : ∀ x, dw_Rf z b (K x) Y (pc + 3) (LL x) st) : dw_Rf z b (pw_lt (x + v) K) Y pc L st := fun hE H locs ls hP hS hl => lv_iinc X.1 X.2.1 d hl hq (by rw [hv]) (tw_nLt X hn) (hL (x + v)) (fun ls' hl' => k (x + v) hE H locs ls' hP hS hl')
theorem e_iadd {x y : Int32} (X : tw_X z cc own nL) (d : decode cc pc = .ok (.iadd, 1)) (k : dw_Rf z b E Y (pc + 1) L (.int (x + y) :: st)) : dw_Rf z b E Y pc L (.int y :: .int x :: st) := fun hE H locs ls hP hS hl => lv_iadd X.1 X.2.1 d (k hE H locs ls hP hS hl)
theorem e_isub {x y : Int32} (X : tw_X z cc own nL) (d : decode cc pc = .ok (.isub, 1)) (k : dw_Rf z b E Y (pc + 1) L (.int (x - y) :: st)) : dw_Rf z b E Y pc L (.int y :: .int x :: st) := fun hE H locs ls hP hS hl => lv_isub X.1 X.2.1 d (k hE H locs ls hP hS hl)
theorem e_imul {x y : Int32} (X : tw_X z cc own nL) (d : decode cc pc = .ok (.imul, 1)) (k : dw_Rf z b E Y (pc + 1) L (.int (x * y) :: st)) : dw_Rf z b E Y pc L (.int y :: .int x :: st) := fun hE H locs ls hP hS hl => lv_imul X.1 X.2.1 d (k hE H locs ls hP hS hl)
theorem e_iand {x y : Int32} (X : tw_X z cc own nL) (d : decode cc pc = .ok (.iand, 1)) (k : dw_Rf z b E Y (pc + 1) L (.int (x &&& y) :: st)) : dw_Rf z b E Y pc L (.int y :: .int x :: st) := fun hE H locs ls hP hS hl => lv_iand X.1 X.2.1 d (k hE H locs ls hP hS hl)
theorem e_ior {x y : Int32} (X : tw_X z cc own nL) (d : decode cc pc = .ok (.ior, 1)) (k : dw_Rf z b E Y (pc + 1) L (.int (x ||| y) :: st)) : dw_Rf z b E Y pc L (.int y :: .int x :: st) := fun hE H locs ls hP hS hl => lv_ior X.1 X.2.1 d (k hE H locs ls hP hS hl)
theorem e_ixor {x y : Int32} (X : tw_X z cc own nL) (d : decode cc pc = .ok (.ixor, 1)) (k : dw_Rf z b E Y (pc + 1) L (.int (x ^^^ y) :: st)) : dw_Rf z b E Y pc L (.int y :: .int x :: st) := fun hE H locs ls hP hS hl => lv_ixor X.1 X.2.1 d (k hE H locs ls hP hS hl)
theorem e_ishl {x y : Int32} (X : tw_X z cc own nL) (d : decode cc pc = .ok (.ishl, 1)) (k : dw_Rf z b E Y (pc + 1) L (.int (x <<< (y &&& 31)) :: st)) : dw_Rf z b E Y pc L (.int y :: .int x :: st) := fun hE H locs ls hP hS hl => lv_ishl X.1 X.2.1 d (k hE H locs ls hP hS hl)
theorem e_ishr {x y : Int32} (X : tw_X z cc own nL) (d : decode cc pc = .ok (.ishr, 1)) (k : dw_Rf z b E Y (pc + 1) L (.int (x >>> (y &&& 31)) :: st)) : dw_Rf z b E Y pc L (.int y :: .int x :: st) := fun hE H locs ls hP hS hl => lv_ishr X.1 X.2.1 d (k hE H locs ls hP hS hl)
theorem e_iushr {x y : Int32} (X : tw_X z cc own nL) (d : decode cc pc = .ok (.iushr, 1)) (k : dw_Rf z b E Y (pc + 1) L (.int ((x.toUInt32 >>> (y.toUInt32 &&& Int32.toUInt32 31)).toInt32) :: st)) : dw_Rf z b E Y pc L (.int y :: .int x :: st) := fun hE H locs ls hP hS hl => lv_iushr X.1 X.2.1 d rfl (k hE H locs ls hP hS hl)
theorem e_ladd {x y : Int64} (X : tw_X z cc own nL) (d : decode cc pc = .ok (.ladd, 1)) (k : dw_Rf z b E Y (pc + 1) L (.long (x + y) :: st)) : dw_Rf z b E Y pc L (.long y :: .long x :: st) := fun hE H locs ls hP hS hl => lv_ladd X.1 X.2.1 d (k hE H locs ls hP hS hl)
theorem e_lmul {x y : Int64} (X : tw_X z cc own nL) (d : decode cc pc = .ok (.lmul, 1)) (k : dw_Rf z b E Y (pc + 1) L (.long (x * y) :: st)) : dw_Rf z b E Y pc L (.long y :: .long x :: st) := fun hE H locs ls hP hS hl => lv_lmul X.1 X.2.1 d (k hE H locs ls hP hS hl)
theorem e_ineg {x : Int32} (X : tw_X z cc own nL) (d : decode cc pc = .ok (.ineg, 1)) (k : dw_Rf z b E Y (pc + 1) L (.int (-x) :: st)) : dw_Rf z b E Y pc L (.int x :: st) := fun hE H locs ls hP hS hl => lv_ineg X.1 X.2.1 d (k hE H locs ls hP hS hl)
theorem e_i2l {x : Int32} (X : tw_X z cc own nL) (d : decode cc pc = .ok (.i2l, 1)) (k : dw_Rf z b E Y (pc + 1) L (.long x.toInt64 :: st)) : dw_Rf z b E Y pc L (.int x :: st) := fun hE H locs ls hP hS hl => lv_i2l X.1 X.2.1 d rfl (k hE H locs ls hP hS hl)
theorem e_lcmp {x y : Int64} (X : tw_X z cc own nL) (d : decode cc pc = .ok (.lcmp, 1)) (k : dw_Rf z b E Y (pc + 1) L (.int (lg_cmp x y) :: st)) : dw_Rf z b E Y pc L (.long y :: .long x :: st) := fun hE H locs ls hP hS hl => W.lcmp X.1 X.2.1 d (k hE H locs ls hP hS hl)
theorem e_dup {v : Value} (X : tw_X z cc own nL) (d : decode cc pc = .ok (.dup, 1)) (hv : v.category = 1) (k : dw_Rf z b E Y (pc + 1) L (v :: v :: st)) : dw_Rf z b E Y pc L (v :: st) := fun hE H locs ls hP hS hl => lv_dup X.1 X.2.1 d hv (k hE H locs ls hP hS hl)
theorem e_dup2 {v u : Value} (X : tw_X z cc own nL) (d : decode cc pc = .ok (.dup2, 1)) (hv : v.category = 1) (hu : u.category = 1) (k : dw_Rf z b E Y (pc + 1) L (v :: u :: v :: u :: st)) : dw_Rf z b E Y pc L (v :: u :: st) := fun hE H locs ls hP hS hl => lv_dup2_11 X.1 X.2.1 d hv hu (k hE H locs ls hP hS hl)
theorem e_pop {v : Value} (X : tw_X z cc own nL) (d : decode cc pc = .ok (.pop, 1)) (hv : v.category = 1) (k : dw_Rf z b E Y (pc + 1) L (st)) : dw_Rf z b E Y pc L (v :: st) := fun hE H locs ls hP hS hl => lv_pop X.1 X.2.1 d hv (k hE H locs ls hP hS hl)
theorem e_if_eq {x : Int32} {off : Int} {tgt : Nat} {A F : Prop} (X : tw_X z cc own nL) (d : decode cc pc = .ok (.ifCond .eq off, 3)) (ht : (pc : Int) + off = (tgt : Int)) (kt : dw_Rf z b A Y tgt L st) (kf : dw_Rf z b F Y (pc + 3) L st) : dw_Rf z b (if x = 0 then A else F) Y pc L (.int x :: st) := fun hE H locs ls hP hS hl => lv_if_eq X.1 X.2.1 d ht (fun q => kt (by rw [if_pos q] at hE; exact hE) H locs ls hP hS hl) (fun q => kf (by rw [if_neg q] at hE; exact hE) H locs ls hP hS hl)
theorem e_if_ne {x : Int32} {off : Int} {tgt : Nat} {A F : Prop} (X : tw_X z cc own nL) (d : decode cc pc = .ok (.ifCond .ne off, 3)) (ht : (pc : Int) + off = (tgt : Int)) (kt : dw_Rf z b A Y tgt L st) (kf : dw_Rf z b F Y (pc + 3) L st) : dw_Rf z b (if ¬ x = 0 then A else F) Y pc L (.int x :: st) := fun hE H locs ls hP hS hl => lv_if_ne X.1 X.2.1 d ht (fun q => kt (by rw [if_pos q] at hE; exact hE) H locs ls hP hS hl) (fun q => kf (by rw [if_neg (fun h => h q)] at hE; exact hE) H locs ls hP hS hl)
theorem e_if_lt {x : Int32} {off : Int} {tgt : Nat} {A F : Prop} (X : tw_X z cc own nL) (d : decode cc pc = .ok (.ifCond .lt off, 3)) (ht : (pc : Int) + off = (tgt : Int)) (kt : dw_Rf z b A Y tgt L st) (kf : dw_Rf z b F Y (pc + 3) L st) : dw_Rf z b (if x < 0 then A else F) Y pc L (.int x :: st) := fun hE H locs ls hP hS hl => lv_if_lt X.1 X.2.1 d ht (fun q => kt (by rw [if_pos q] at hE; exact hE) H locs ls hP hS hl) (fun q => kf (by rw [if_neg q] at hE; exact hE) H locs ls hP hS hl)
theorem e_if_ge {x : Int32} {off : Int} {tgt : Nat} {A F : Prop} (X : tw_X z cc own nL) (d : decode cc pc = .ok (.ifCond .ge off, 3)) (ht : (pc : Int) + off = (tgt : Int)) (kt : dw_Rf z b A Y tgt L st) (kf : dw_Rf z b F Y (pc + 3) L st) : dw_Rf z b (if 0 ≤ x then A else F) Y pc L (.int x :: st) := fun hE H locs ls hP hS hl => lv_if_ge X.1 X.2.1 d ht (fun q => kt (by rw [if_pos q] at hE; exact hE) H locs ls hP hS hl) (fun q => kf (by rw [if_neg q] at hE; exact hE) H locs ls hP hS hl)
theorem e_if_gt {x : Int32} {off : Int} {tgt : Nat} {A F : Prop} (X : tw_X z cc own nL) (d : decode cc pc = .ok (.ifCond .gt off, 3)) (ht : (pc : Int) + off = (tgt : Int)) (kt : dw_Rf z b A Y tgt L st) (kf : dw_Rf z b F Y (pc + 3) L st) : dw_Rf z b (if 0 < x then A else F) Y pc L (.int x :: st) := fun hE H locs ls hP hS hl => lv_if_gt X.1 X.2.1 d ht (fun q => kt (by rw [if_pos q] at hE; exact hE) H locs ls hP hS hl) (fun q => kf (by rw [if_neg q] at hE; exact hE) H locs ls hP hS hl)
theorem e_if_le {x : Int32} {off : Int} {tgt : Nat} {A F : Prop} (X : tw_X z cc own nL) (d : decode cc pc = .ok (.ifCond .le off, 3)) (ht : (pc : Int) + off = (tgt : Int)) (kt : dw_Rf z b A Y tgt L st) (kf : dw_Rf z b F Y (pc + 3) L st) : dw_Rf z b (if x ≤ 0 then A else F) Y pc L (.int x :: st) := fun hE H locs ls hP hS hl => lv_if_le X.1 X.2.1 d ht (fun q => kt (by rw [if_pos q] at hE; exact hE) H locs ls hP hS hl) (fun q => kf (by rw [if_neg q] at hE; exact hE) H locs ls hP hS hl)
theorem e_icmp_eq {x y : Int32} {off : Int} {tgt : Nat} {A F : Prop} (X : tw_X z cc own nL) (d : decode cc pc = .ok (.if_icmp .eq off, 3)) (ht : (pc : Int) + off = (tgt : Int)) (kt : dw_Rf z b A Y tgt L st) (kf : dw_Rf z b F Y (pc + 3) L st) : dw_Rf z b (if x = y then A else F) Y pc L (.int y :: .int x :: st) := fun hE H locs ls hP hS hl => lv_icmp_eq X.1 X.2.1 d ht (fun q => kt (by rw [if_pos q] at hE; exact hE) H locs ls hP hS hl) (fun q => kf (by rw [if_neg q] at hE; exact hE) H locs ls hP hS hl)
theorem e_icmp_ne {x y : Int32} {off : Int} {tgt : Nat} {A F : Prop} (X : tw_X z cc own nL) (d : decode cc pc = .ok (.if_icmp .ne off, 3)) (ht : (pc : Int) + off = (tgt : Int)) (kt : dw_Rf z b A Y tgt L st) (kf : dw_Rf z b F Y (pc + 3) L st) : dw_Rf z b (if ¬ x = y then A else F) Y pc L (.int y :: .int x :: st) := fun hE H locs ls hP hS hl => lv_icmp_ne X.1 X.2.1 d ht (fun q => kt (by rw [if_pos q] at hE; exact hE) H locs ls hP hS hl) (fun q => kf (by rw [if_neg (fun h => h q)] at hE; exact hE) H locs ls hP hS hl)
theorem e_icmp_lt {x y : Int32} {off : Int} {tgt : Nat} {A F : Prop} (X : tw_X z cc own nL) (d : decode cc pc = .ok (.if_icmp .lt off, 3)) (ht : (pc : Int) + off = (tgt : Int)) (kt : dw_Rf z b A Y tgt L st) (kf : dw_Rf z b F Y (pc + 3) L st) : dw_Rf z b (if x < y then A else F) Y pc L (.int y :: .int x :: st) := fun hE H locs ls hP hS hl => lv_icmp_lt X.1 X.2.1 d ht (fun q => kt (by rw [if_pos q] at hE; exact hE) H locs ls hP hS hl) (fun q => kf (by rw [if_neg q] at hE; exact hE) H locs ls hP hS hl)
theorem e_icmp_ge {x y : Int32} {off : Int} {tgt : Nat} {A F : Prop} (X : tw_X z cc own nL) (d : decode cc pc = .ok (.if_icmp .ge off, 3)) (ht : (pc : Int) + off = (tgt : Int)) (kt : dw_Rf z b A Y tgt L st) (kf : dw_Rf z b F Y (pc + 3) L st) : dw_Rf z b (if y ≤ x then A else F) Y pc L (.int y :: .int x :: st) := fun hE H locs ls hP hS hl => lv_icmp_ge X.1 X.2.1 d ht (fun q => kt (by rw [if_pos q] at hE; exact hE) H locs ls hP hS hl) (fun q => kf (by rw [if_neg q] at hE; exact hE) H locs ls hP hS hl)
theorem e_icmp_gt {x y : Int32} {off : Int} {tgt : Nat} {A F : Prop} (X : tw_X z cc own nL) (d : decode cc pc = .ok (.if_icmp .gt off, 3)) (ht : (pc : Int) + off = (tgt : Int)) (kt : dw_Rf z b A Y tgt L st) (kf : dw_Rf z b F Y (pc + 3) L st) : dw_Rf z b (if y < x then A else F) Y pc L (.int y :: .int x :: st) := fun hE H locs ls hP hS hl => lv_icmp_gt X.1 X.2.1 d ht (fun q => kt (by rw [if_pos q] at hE; exact hE) H locs ls hP hS hl) (fun q => kf (by rw [if_neg q] at hE; exact hE) H locs ls hP hS hl)
theorem e_icmp_le {x y : Int32} {off : Int} {tgt : Nat} {A F : Prop} (X : tw_X z cc own nL) (d : decode cc pc = .ok (.if_icmp .le off, 3)) (ht : (pc : Int) + off = (tgt : Int)) (kt : dw_Rf z b A Y tgt L st) (kf : dw_Rf z b F Y (pc + 3) L st) : dw_Rf z b (if x ≤ y then A else F) Y pc L (.int y :: .int x :: st) := fun hE H locs ls hP hS hl => lv_icmp_le X.1 X.2.1 d ht (fun q => kt (by rw [if_pos q] at hE; exact hE) H locs ls hP hS hl) (fun q => kf (by rw [if_neg q] at hE; exact hE) H locs ls hP hS hl)
theorem e_goto {off : Int} {tgt : Nat} (X : tw_X z cc own nL) (d : decode cc pc = .ok (.goto off, 3)) (ht : (pc : Int) + off = (tgt : Int)) (k : dw_Rf z b E Y tgt L st) : dw_Rf z b E Y pc L st := fun hE H locs ls hP hS hl => lv_goto X.1 X.2.1 d ht (k hE H locs ls hP hS hl)
theorem e_idiv {x y : Int32} (X : tw_X z cc own nL) (d : decode cc pc = .ok (.idiv, 1)) (k : dw_Rf z b E Y (pc + 1) L (.int (x / y) :: st)) : dw_Rf z b (pw_ck (¬ y = 0) E) Y pc L (.int y :: .int x :: st) := e_ck (fun hc => fun hE H locs ls hP hS hl => lv_idiv X.1 X.2.1 d hc (k hE H locs ls hP hS hl))
theorem e_irem {x y : Int32} (X : tw_X z cc own nL) (d : decode cc pc = .ok (.irem, 1)) (k : dw_Rf z b E Y (pc + 1) L (.int (x - x / y * y) :: st)) : dw_Rf z b (pw_ck (¬ y = 0) E) Y pc L (.int y :: .int x :: st) := e_ck (fun hc => fun hE H locs ls hP hS hl => lv_irem X.1 X.2.1 d hc (k hE H locs ls hP hS hl))
theorem e_i2c {x v : Int32} (X : tw_X z cc own nL) (d : decode cc pc = .ok (.i2c, 1)) (hv : (x.toUInt32 % 65536).toInt32 = v) (k : dw_Rf z b E Y (pc + 1) L (.int v :: st)) : dw_Rf z b E Y pc L (.int x :: st) :=
  fun hE H locs ls hP hS hl => lv_i2c X.1 X.2.1 d hv (k hE H locs ls hP hS hl)
theorem e_i2b {x v : Int32} (X : tw_X z cc own nL) (d : decode cc pc = .ok (.i2b, 1)) (hv : x.toInt8.toInt32 = v) (k : dw_Rf z b E Y (pc + 1) L (.int v :: st)) : dw_Rf z b E Y pc L (.int x :: st) :=
  fun hE H locs ls hP hS hl => lv_i2b X.1 X.2.1 d hv (k hE H locs ls hP hS hl)
theorem e_tsw {dflt lo hi : Int} {offs : Array Int} {len : Nat} {x v : Int32} {off : Int} {tgt : Nat} (X : tw_X z cc own nL) (d : decode cc pc = .ok (.tableswitch dflt lo hi offs, len)) (hx : x = v) (h1 : ¬ v.toInt < lo) (h2 : ¬ hi < v.toInt) (ho : offs[(v.toInt - lo).toNat]? = some off) (ht : (pc : Int) + off = (tgt : Int)) (k : dw_Rf z b E Y tgt L st) : dw_Rf z b E Y pc L (.int x :: st) := by
  subst hx
  exact fun hE H locs ls hP hS hl => lv_tableIn X.1 X.2.1 d h1 h2 ho ht (k hE H locs ls hP hS hl)
theorem e_tswD {dflt lo hi : Int} {offs : Array Int} {len : Nat} {x : Int32} {tgt : Nat} (X : tw_X z cc own nL) (d : decode cc pc = .ok (.tableswitch dflt lo hi offs, len)) (h : x.toInt < lo ∨ hi < x.toInt) (ht : (pc : Int) + dflt = (tgt : Int)) (k : dw_Rf z b E Y tgt L st) : dw_Rf z b E Y pc L (.int x :: st) :=
  fun hE H locs ls hP hS hl => lv_tableOut X.1 X.2.1 d h ht (k hE H locs ls hP hS hl)
theorem e_ldcIw {ix : Nat} {v : Int32} (X : tw_X z cc own nL) (d : decode cc pc = .ok (.ldc_w ix, 3)) (i : Nat) (hi : lw_tbl[i]? = some (.constant own ix v)) (k : dw_Rf z b E Y (pc + 3) L (.int v :: st)) : dw_Rf z b E Y pc L st :=
  fun hE H locs ls hP hS hl => lv_ldcw X.1 X.2.1 X.ow (X.ws i hi rfl) d (k hE H locs ls hP hS hl)
/-! nullable references -/
theorem e_aload_rn {j : Fin 4} {i : Nat} {r : Option Nat} (X : tw_X z cc own nL) (d : decode cc pc = .ok (.aload_n j, 1)) (hi : (j : Nat) = i) (q : Nat) (hq : L[q]? = some (i, dw_v b r)) (k : dw_Rf z b E Y (pc + 1) L (dw_v b r :: st)) : dw_Rf z b E Y pc L st := by
  cases r with
  | none => exact e_aload_nN X d hi q hq k
  | some x => exact e_aload_n X d hi q hq k
theorem e_aload_rnw {i : Nat} {r : Option Nat} (X : tw_X z cc own nL) (d : decode cc pc = .ok (.aload i, 2)) (q : Nat) (hq : L[q]? = some (i, dw_v b r)) (k : dw_Rf z b E Y (pc + 2) L (dw_v b r :: st)) : dw_Rf z b E Y pc L st := by
  cases r with
  | none => exact fun hE H locs ls hP hS hl => lv_aloadN X.1 X.2.1 d (tw_hl hl q hq) (k hE H locs ls hP hS hl)
  | some x => exact e_aload X d q hq k
theorem e_astore_rn {j : Fin 4} {i : Nat} {r : Option Nat} (X : tw_X z cc own nL) (d : decode cc pc = .ok (.astore_n j, 1)) (hi : (j : Nat) = i) (hn : i < nL) (hL : (i, dw_v b r) :: L.filter (fun q => !(q.1 == i) && !(q.1 + 1 == i && q.2.category == 2)) = L') (k : dw_Rf z b E Y (pc + 1) L' st) : dw_Rf z b E Y pc L (dw_v b r :: st) := by
  cases r with
  | none => exact e_astore_nN X d hi hn hL k
  | some x => exact e_astore_n X d hi hn hL k
theorem e_astore_rnw {i : Nat} {r : Option Nat} (X : tw_X z cc own nL) (d : decode cc pc = .ok (.astore i, 2)) (hn : i < nL) (hL : (i, dw_v b r) :: L.filter (fun q => !(q.1 == i) && !(q.1 + 1 == i && q.2.category == 2)) = L') (k : dw_Rf z b E Y (pc + 2) L' st) : dw_Rf z b E Y pc L (dw_v b r :: st) := by
  cases r with
  | none => exact fun hE H locs ls hP hS hl => lv_astoreN X.1 X.2.1 d hl (tw_nLt X hn) hL (fun ls' hl' => k hE H locs ls' hP hS hl')
  | some x => exact e_astore X d hn hL k
theorem e_ifnull {off : Int} {tgt : Nat} {r : Option Nat} {A : Prop} {K : Nat → Prop} {LL : Option Nat → List (Nat × Value)} (X : tw_X z cc own nL) (d : decode cc pc = .ok (.ifnull off, 3)) (ht : (pc : Int) + off = (tgt : Int)) (kt : dw_Rf z b A Y tgt (LL none) st) (kf : ∀ x, dw_Rf z b (K x) Y (pc + 3) (LL (some x)) st) : dw_Rf z b (pw_mt r A K) Y pc (LL r) (dw_v b r :: st) := by
  cases r with
  | none => exact fun hE H locs ls hP hS hl => lv_ifnullN X.1 X.2.1 d ht (kt hE H locs ls hP hS hl)
  | some x => exact fun hE H locs ls hP hS hl => lv_ifnull X.1 X.2.1 d (kf x hE H locs ls hP hS hl)
theorem e_ifnonnull {off : Int} {tgt : Nat} {r : Option Nat} {A : Prop} {K : Nat → Prop} {LL : Option Nat → List (Nat × Value)} (X : tw_X z cc own nL) (d : decode cc pc = .ok (.ifnonnull off, 3)) (ht : (pc : Int) + off = (tgt : Int)) (kt : dw_Rf z b A Y (pc + 3) (LL none) st) (kf : ∀ x, dw_Rf z b (K x) Y tgt (LL (some x)) st) : dw_Rf z b (pw_mt r A K) Y pc (LL r) (dw_v b r :: st) := by
  cases r with
  | none => exact fun hE H locs ls hP hS hl => lv_ifnonnullN X.1 X.2.1 d (kt hE H locs ls hP hS hl)
  | some x => exact fun hE H locs ls hP hS hl => lv_ifnonnull X.1 X.2.1 d ht (kf x hE H locs ls hP hS hl)
theorem e_ifnonnullC {off : Int} {tgt x : Nat} (X : tw_X z cc own nL) (d : decode cc pc = .ok (.ifnonnull off, 3)) (ht : (pc : Int) + off = (tgt : Int)) (k : dw_Rf z b E Y tgt L st) : dw_Rf z b E Y pc L (.ref x :: st) := fun hE H locs ls hP hS hl => lv_ifnonnull X.1 X.2.1 d ht (k hE H locs ls hP hS hl)
/-! cells -/
def dw_is (Y : dw_S) (k kd : Nat) : Prop := k < dw_n Y ∧ 442 ≤ k ∧ dw_k Y k = kd
theorem dw_at {k kd : Nat} {C : Nat → ClassId} (h : dw_is Y k kd) (hk : kd ≠ 99) : ∃ i, (dw_ws b C Y)[442 + i]? = some (b + k, dw_E b C Y k) ∧ (dw_L Y)[i]? = some k := dw_get h.1 h.2.1 (by rw [h.2.2]; exact hk)
theorem dw_D (hb : tw_zB z ≤ b) {C : Nat → ClassId} : va_D (fun q => tw_zB z ≤ q) (dw_ws b C Y) := dw_ws_D.weaken (fun _ q _ hq => Nat.le_trans hb hq)
/-- a field's link, plain or a nest mate's -/
def dw_lk (own : String) (ix : Nat) (o n d : String) : Prop := (∃ i : Nat, lw_tbl[i]? = some (Cond.fieldLink own ix o n d)) ∨ ∃ (i : Nat) (host : String), lw_tbl[i]? = some (Cond.fieldLinkNest own ix o n d host)
theorem e_getf {ci k f ix N : Nat} {Cn : String} {T : u_T} {fs : List Value} {v : Value} (X : tw_X z cc own nL) (d : decode cc pc = .ok (.getfield ix, 3)) (hlk : dw_lk own ix (T f).1 (T f).2.1 (T f).2.2.1) (hin : ∀ w ∈ u_ws Cn T N, w ∈ tw_AW) (hc : vwCl[ci]? = some (Cn, T, N)) (hf : f < N) (hci : ci ≠ 99) (hE0 : dw_k Y k = ci → dw_E b (tw_zC z) Y k = .inr (ci, fs)) (hv : fs[f]? = some v) (kk : dw_Rf z b E Y (pc + 3) L (v :: st)) : dw_Rf z b (pw_ck (dw_is Y k ci) E) Y pc L (.ref (b + k) :: st) :=
  e_ck (fun h => fun hE H locs ls hP hS hl => by
    obtain ⟨i, hi, -⟩ := dw_at (b := b) (C := tw_zC z) h hci
    rw [hE0 h.2.2] at hi
    rcases hlk with ⟨j, hj⟩ | ⟨j, host, hj⟩
    · exact va_get X.1 X.2.1 X.all hin X.ow X.K hP.1 (442 + i) hi hc f hf (X.ws j hj rfl) (fun _ h => h) hv d (kk hE H locs ls hP hS hl)
    · exact va_getN X.1 X.2.1 X.all hin X.ow X.K hP.1 (442 + i) hi hc f hf (X.ws j hj rfl) (fun _ h => h) hv d (kk hE H locs ls hP hS hl))

theorem dw_narrow {ty : FieldType} {r : Option Nat} : narrow ty (dw_v b r) = dw_v b r := by
  cases r <;> cases ty <;> rfl
theorem dw_fitsO {C : String} {r : Option Nat} : fits (.object C) (dw_v b r) = true := by cases r <;> rfl
theorem dw_fitsA {t : FieldType} {r : Option Nat} : fits (.array t) (dw_v b r) = true := by cases r <;> rfl
theorem e_put {ci k f ix N : Nat} {Cn : String} {T : u_T} {fs : List Value} {ty : FieldType} {v : Value} {Y1 : dw_S} {K : dw_S → Prop} (X : tw_X z cc own nL) (hb : tw_zB z ≤ b) (d : decode cc pc = .ok (.putfield ix, 3)) (hlk : dw_lk own ix (T f).1 (T f).2.1 (T f).2.2.1) (hin : ∀ w ∈ u_ws Cn T N, w ∈ tw_AW) (ty0 : Nat → FieldType) (hty : ∀ k, k < N → parseFieldDescriptor (T k).2.2.1 = some (ty0 k)) (hnm : ∀ a, a < N → ∀ b, b < N → a ≠ b → (T a).2.1 ≠ (T b).2.1) (hc : vwCl[ci]? = some (Cn, T, N)) (hf : f < N) (hfin : (T f).2.2.2 = false) (hd : parseFieldDescriptor (T f).2.2.1 = some ty) (hn : narrow ty v = v) (hfit : fits ty v = true) (hci : ci ≠ 99) (hE0 : dw_k Y k = ci → dw_E b (tw_zC z) Y k = .inr (ci, fs)) (hfl : f < fs.length) (hE1 : dw_k Y k = ci → dw_E b (tw_zC z) Y1 k = .inr (ci, fs.set f v)) (hs : dw_s Y1 = dw_s Y) (hn1 : dw_n Y1 = dw_n Y) (hk1 : dw_k Y1 = dw_k Y) (hEo : ∀ a, a ≠ k → dw_E b (tw_zC z) Y1 a = dw_E b (tw_zC z) Y a) (kk : ∀ Y2, dw_Rf z b (K Y2) Y2 (pc + 3) L st) : dw_Rf z b (pw_ck (dw_is Y k ci) (pw_lt Y1 K)) Y pc L (v :: .ref (b + k) :: st) :=
  e_ck (fun h => fun hE H locs ls hP hS hl => by
    obtain ⟨i, hi, hi2⟩ := dw_at (b := b) (C := tw_zC z) h hci
    rw [hE0 h.2.2] at hi
    have go : ∀ (H1 : Heap) (locs1 : List Loc), va_P (tw_zD z).1 vwCl ((dw_ws b (tw_zC z) Y).set (442 + i) (b + k, .inr (ci, fs.set f v))) H1 → va_S (fun q => tw_zB z ≤ q) H H1 locs1 → tw_W z H1 locs1 (F0 (tw_zm z) (pc + 3) ls st) := fun H1 locs1 hP1 hS1 =>
      kk Y1 hE H1 locs1 ls (dw_W_put hP hi2 hs hn1 hk1 hEo hS1.1 (by rw [hE1 h.2.2]; exact hP1)) (dw_putS hS hS1) hl
    rcases hlk with ⟨j, hj⟩ | ⟨j, host, hj⟩
    · exact va_put X.1 X.2.1 X.all hin ty0 hty hnm X.ow X.K hP.1 (dw_D hb) (dw_selfS hS) (442 + i) hi hc f hf (X.ws j hj rfl) (fun _ h => h) hfin hd hn hfit hfl d (fun H1 locs1 hP1 _ hS1 => go H1 locs1 hP1 hS1)
    · exact va_putN X.1 X.2.1 X.all hin ty0 hty hnm X.ow X.K hP.1 (dw_D hb) (dw_selfS hS) (442 + i) hi hc f hf (X.ws j hj rfl) (fun _ h => h) hfin hd hn hfit hfl d (fun H1 locs1 hP1 _ hS1 => go H1 locs1 hP1 hS1))
theorem e_putF {ci k f ix N : Nat} {Cn : String} {T : u_T} {fs : List Value} {ty : FieldType} {v : Value} {Y1 : dw_S} {K : dw_S → Prop} (X : tw_X z cc own nL) (hb : tw_zB z ≤ b) (hmeth : (tw_zmeth z).name = "<init>") (d : decode cc pc = .ok (.putfield ix, 3)) (j : Nat) (hj : lw_tbl[j]? = some (.fieldLink own ix (T f).1 (T f).2.1 (T f).2.2.1)) (hin : ∀ w ∈ u_ws Cn T N, w ∈ tw_AW) (ty0 : Nat → FieldType) (hty : ∀ k, k < N → parseFieldDescriptor (T k).2.2.1 = some (ty0 k)) (hnm : ∀ a, a < N → ∀ b, b < N → a ≠ b → (T a).2.1 ≠ (T b).2.1) (hc : vwCl[ci]? = some (Cn, T, N)) (hf : f < N) (hfin : (T f).2.2.2 = true) (hdecl : (T f).1 = own) (hd : parseFieldDescriptor (T f).2.2.1 = some ty) (hn : narrow ty v = v) (hfit : fits ty v = true) (hci : ci ≠ 99) (hE0 : dw_k Y k = ci → dw_E b (tw_zC z) Y k = .inr (ci, fs)) (hfl : f < fs.length) (hE1 : dw_k Y k = ci → dw_E b (tw_zC z) Y1 k = .inr (ci, fs.set f v)) (hs : dw_s Y1 = dw_s Y) (hn1 : dw_n Y1 = dw_n Y) (hk1 : dw_k Y1 = dw_k Y) (hEo : ∀ a, a ≠ k → dw_E b (tw_zC z) Y1 a = dw_E b (tw_zC z) Y a) (kk : ∀ Y2, dw_Rf z b (K Y2) Y2 (pc + 3) L st) : dw_Rf z b (pw_ck (dw_is Y k ci) (pw_lt Y1 K)) Y pc L (v :: .ref (b + k) :: st) :=
  e_ck (fun h => fun hE H locs ls hP hS hl => by
    obtain ⟨i, hi, hi2⟩ := dw_at (b := b) (C := tw_zC z) h hci
    rw [hE0 h.2.2] at hi
    exact va_putF X.1 X.2.1 X.all hin ty0 hty hnm X.ow X.K hP.1 (dw_D hb) (dw_selfS hS) (442 + i) hi hc f hf (X.ws j hj rfl) (fun _ h => h) hfin hmeth hdecl hd hn hfit hfl d (fun H1 locs1 hP1 _ hS1 => kk Y1 hE H1 locs1 ls (dw_W_put hP hi2 hs hn1 hk1 hEo hS1.1 (by rw [hE1 h.2.2]; exact hP1)) (dw_putS hS hS1) hl))
/-! rows -/
theorem e_alen {k kd a : Nat} {x : vp_A} {ty : FieldType} (X : tw_X z cc own nL) (d : decode cc pc = .ok (.arraylength, 1)) (hkd : kd ≠ 99) (hE0 : dw_k Y k = kd → dw_E b (tw_zC z) Y k = .inl (tw_zC z a, dw_l Y k, x.2)) (ht : (tw_tys (tw_zC z))[a]? = some (tw_zC z a, ty)) (kk : dw_Rf z b E Y (pc + 1) L (.int (Int32.ofNat (dw_l Y k)) :: st)) : dw_Rf z b (pw_ck (dw_is Y k kd) E) Y pc L (.ref (b + k) :: st) :=
  e_ck (fun h => fun hE H locs ls hP hS hl => by
    obtain ⟨i, hi, -⟩ := dw_at (b := b) (C := tw_zC z) h hkd
    rw [hE0 h.2.2] at hi
    exact va_alen X.1 X.2.1 X.K hP.1 (442 + i) a hi ht rfl d (kk hE H locs ls hP hS hl))
theorem e_iald {k : Nat} {i : Int32} (X : tw_X z cc own nL) (d : decode cc pc = .ok (.iaload, 1)) (kk : dw_Rf z b E Y (pc + 1) L (.int (dw_i Y k i.toNatClampNeg) :: st)) : dw_Rf z b (pw_ck (dw_is Y k 20 ∧ tw_ok i (dw_l Y k) = true) E) Y pc L (.int i :: .ref (b + k) :: st) :=
  e_ck (fun h => fun hE H locs ls hP hS hl => by
    obtain ⟨q, hi, -⟩ := dw_at (b := b) (C := tw_zC z) h.1 (by decide)
    rw [dw_E20 h.1.2.2] at hi
    exact va_iald X.1 X.2.1 X.K hP.1 (442 + q) 0 hi rfl (tw_ok_in h.2) d (kk hE H locs ls hP hS hl))
theorem e_zald {k : Nat} {i : Int32} (X : tw_X z cc own nL) (d : decode cc pc = .ok (.baload, 1)) (kk : dw_Rf z b E Y (pc + 1) L (.int (dw_i Y k i.toNatClampNeg) :: st)) : dw_Rf z b (pw_ck (dw_is Y k 21 ∧ tw_ok i (dw_l Y k) = true) E) Y pc L (.int i :: .ref (b + k) :: st) :=
  e_ck (fun h => fun hE H locs ls hP hS hl => by
    obtain ⟨q, hi, -⟩ := dw_at (b := b) (C := tw_zC z) h.1 (by decide)
    rw [dw_E21 h.1.2.2] at hi
    exact va_zald X.1 X.2.1 X.K hP.1 (442 + q) 1 hi rfl (tw_ok_in h.2) d (kk hE H locs ls hP hS hl))
theorem e_bald {k : Nat} {i : Int32} (X : tw_X z cc own nL) (d : decode cc pc = .ok (.baload, 1)) (kk : dw_Rf z b E Y (pc + 1) L (.int (dw_i Y k i.toNatClampNeg) :: st)) : dw_Rf z b (pw_ck (dw_is Y k 22 ∧ tw_ok i (dw_l Y k) = true) E) Y pc L (.int i :: .ref (b + k) :: st) :=
  e_ck (fun h => fun hE H locs ls hP hS hl => by
    obtain ⟨q, hi, -⟩ := dw_at (b := b) (C := tw_zC z) h.1 (by decide)
    rw [dw_E22 h.1.2.2] at hi
    exact va_bald X.1 X.2.1 X.K hP.1 (442 + q) 5 hi rfl (tw_ok_in h.2) d (kk hE H locs ls hP hS hl))
theorem e_iast {k : Nat} {i x : Int32} {K : dw_S → Prop} (X : tw_X z cc own nL) (hb : tw_zB z ≤ b) (d : decode cc pc = .ok (.iastore, 1)) (kk : ∀ Y2, dw_Rf z b (K Y2) Y2 (pc + 1) L st) : dw_Rf z b (pw_ck (dw_is Y k 20 ∧ tw_ok i (dw_l Y k) = true) (pw_lt (dw_pi Y k i.toNatClampNeg x) K)) Y pc L (.int x :: .int i :: .ref (b + k) :: st) :=
  e_ck (fun h => fun hE H locs ls hP hS hl => by
    obtain ⟨q, hi, hi2⟩ := dw_at (b := b) (C := tw_zC z) h.1 (by decide)
    rw [dw_E20 h.1.2.2] at hi
    refine va_iast X.1 X.2.1 X.K hP.1 (dw_D hb) (dw_selfS hS) (442 + q) 0 hi rfl (tw_ok_in h.2) d (fun H1 locs1 hP1 _ hS1 => ?_)
    refine kk _ hE H1 locs1 ls (dw_W_put (Y1 := dw_pi Y k i.toNatClampNeg x) hP hi2 rfl rfl rfl (fun a ha => dw_E_pi ha) hS1.1 ?_) (dw_putS hS hS1) hl
    rw [dw_E20 (Y := dw_pi Y k i.toNatClampNeg x) (k := k) h.1.2.2]
    have e : dw_i (dw_pi Y k i.toNatClampNeg x) k = upd (dw_i Y k) i.toNatClampNeg x := tw_up_s
    rw [e]
    exact hP1)
theorem e_zast {k : Nat} {i x : Int32} {K : dw_S → Prop} (X : tw_X z cc own nL) (hb : tw_zB z ≤ b) (d : decode cc pc = .ok (.bastore, 1)) (kk : ∀ Y2, dw_Rf z b (K Y2) Y2 (pc + 1) L st) : dw_Rf z b (pw_ck (dw_is Y k 21 ∧ tw_ok i (dw_l Y k) = true) (pw_lt (dw_pi Y k i.toNatClampNeg (vp_nar .boolean x)) K)) Y pc L (.int x :: .int i :: .ref (b + k) :: st) :=
  e_ck (fun h => fun hE H locs ls hP hS hl => by
    obtain ⟨q, hi, hi2⟩ := dw_at (b := b) (C := tw_zC z) h.1 (by decide)
    rw [dw_E21 h.1.2.2] at hi
    refine va_zast X.1 X.2.1 X.K hP.1 (dw_D hb) (dw_selfS hS) (442 + q) 1 hi rfl (tw_ok_in h.2) d (fun H1 locs1 hP1 _ hS1 => ?_)
    refine kk _ hE H1 locs1 ls (dw_W_put (Y1 := dw_pi Y k i.toNatClampNeg (vp_nar .boolean x)) hP hi2 rfl rfl rfl (fun a ha => dw_E_pi ha) hS1.1 ?_) (dw_putS hS hS1) hl
    rw [dw_E21 (Y := dw_pi Y k i.toNatClampNeg (vp_nar .boolean x)) (k := k) h.1.2.2]
    have e : dw_i (dw_pi Y k i.toNatClampNeg (vp_nar .boolean x)) k = upd (dw_i Y k) i.toNatClampNeg (vp_nar .boolean x) := tw_up_s
    rw [e]
    exact hP1)
theorem e_bast {k : Nat} {i x : Int32} {K : dw_S → Prop} (X : tw_X z cc own nL) (hb : tw_zB z ≤ b) (d : decode cc pc = .ok (.bastore, 1)) (kk : ∀ Y2, dw_Rf z b (K Y2) Y2 (pc + 1) L st) : dw_Rf z b (pw_ck (dw_is Y k 22 ∧ tw_ok i (dw_l Y k) = true) (pw_lt (dw_pi Y k i.toNatClampNeg (vp_nar .byte x)) K)) Y pc L (.int x :: .int i :: .ref (b + k) :: st) :=
  e_ck (fun h => fun hE H locs ls hP hS hl => by
    obtain ⟨q, hi, hi2⟩ := dw_at (b := b) (C := tw_zC z) h.1 (by decide)
    rw [dw_E22 h.1.2.2] at hi
    refine va_bast X.1 X.2.1 X.K hP.1 (dw_D hb) (dw_selfS hS) (442 + q) 5 hi rfl (tw_ok_in h.2) d (fun H1 locs1 hP1 _ hS1 => ?_)
    refine kk _ hE H1 locs1 ls (dw_W_put (Y1 := dw_pi Y k i.toNatClampNeg (vp_nar .byte x)) hP hi2 rfl rfl rfl (fun a ha => dw_E_pi ha) hS1.1 ?_) (dw_putS hS hS1) hl
    rw [dw_E22 (Y := dw_pi Y k i.toNatClampNeg (vp_nar .byte x)) (k := k) h.1.2.2]
    have e : dw_i (dw_pi Y k i.toNatClampNeg (vp_nar .byte x)) k = upd (dw_i Y k) i.toNatClampNeg (vp_nar .byte x) := tw_up_s
    rw [e]
    exact hP1)
theorem e_aald {k kd a : Nat} {i : Int32} {ty : FieldType} (X : tw_X z cc own nL) (d : decode cc pc = .ok (.aaload, 1)) (hkd : kd ≠ 99) (hE0 : dw_k Y k = kd → dw_E b (tw_zC z) Y k = .inl (tw_zC z a, dw_l Y k, .inr (.inr (.inr (.inr (fun j => Option.map (fun a => b + a) (dw_r Y k j))))))) (ht : (tw_tys (tw_zC z))[a]? = some (tw_zC z a, ty)) (hty : ty.isReference = true) (kk : dw_Rf z b E Y (pc + 1) L (dw_v b (dw_r Y k i.toNatClampNeg) :: st)) : dw_Rf z b (pw_ck (dw_is Y k kd ∧ tw_ok i (dw_l Y k) = true) E) Y pc L (.int i :: .ref (b + k) :: st) :=
  e_ck (fun h => fun hE H locs ls hP hS hl => by
    obtain ⟨q, hi, -⟩ := dw_at (b := b) (C := tw_zC z) h.1 hkd
    rw [hE0 h.1.2.2] at hi
    have hin := tw_ok_in h.2
    have hlt : i.toNatClampNeg < dw_l Y k := Nat.not_le.mp fun q => hin (Or.inr q)
    exact W.aald (v := dw_v b (dw_r Y k i.toNatClampNeg)) (ty := ty) X.1 X.2.1 (hP.1 _ _ hi) ((X.K.2 a _ ht).1 (dw_l Y k) (fun j => va_rf (Option.map (fun a => b + a) (dw_r Y k j)))) hty (fun q => by cases q) (by show ¬ (i < 0 ∨ (arrV _ _ _).slots.size ≤ _); rw [arrV_size]; exact hin) (by show (arrV _ _ _).slots[_]? = _; rw [arrV_read _ _ hlt]; rfl) rfl rfl d (kk hE H locs ls hP hS hl))
theorem dw_pr_E {k kd a i : Nat} {r : Option Nat} {C : Nat → ClassId} (h : dw_E b C (dw_pr Y k i r) k = .inl (C a, dw_l (dw_pr Y k i r) k, .inr (.inr (.inr (.inr (fun j => Option.map (fun a => b + a) (dw_r (dw_pr Y k i r) k j))))))) : dw_E b C (dw_pr Y k i r) k = .inl (C a, dw_l Y k, .inr (.inr (.inr (.inr (va_up (fun j => Option.map (fun a => b + a) (dw_r Y k j)) i (Option.map (fun a => b + a) r)))))) := by
  rw [h]
  have e : dw_r (dw_pr Y k i r) k = va_up (dw_r Y k) i r := va_up_self _ _ _
  rw [e]
  refine congrArg (fun f => Sum.inl (C a, dw_l Y k, Sum.inr (Sum.inr (Sum.inr (Sum.inr f))))) (funext fun j => ?_)
  unfold va_up
  by_cases hj : j = i
  · rw [if_pos hj, if_pos hj]
  · rw [if_neg hj, if_neg hj]
theorem e_aast {k kd a ci : Nat} {i : Int32} {r : Option Nat} {rc : vw_C} {fs : Nat → List Value} {K : dw_S → Prop} (X : tw_X z cc own nL) (hb : tw_zB z ≤ b) (d : decode cc pc = .ok (.aastore, 1)) (hkd : kd ≠ 99) (hci : ci ≠ 99) (hE0 : ∀ Y : dw_S, dw_k Y k = kd → dw_E b (tw_zC z) Y k = .inl (tw_zC z a, dw_l Y k, .inr (.inr (.inr (.inr (fun j => Option.map (fun a => b + a) (dw_r Y k j))))))) (ht : (tw_tys (tw_zC z))[a]? = some (tw_zC z a, .object rc.1)) (hc : vwCl[ci]? = some rc) (hEv : ∀ v, dw_k Y v = ci → dw_E b (tw_zC z) Y v = .inr (ci, fs v)) (kk : ∀ Y2, dw_Rf z b (K Y2) Y2 (pc + 1) L st) : dw_Rf z b (pw_ck (dw_is Y k kd ∧ tw_ok i (dw_l Y k) = true ∧ ∀ v, r = some v → dw_is Y v ci) (pw_lt (dw_pr Y k i.toNatClampNeg r) K)) Y pc L (dw_v b r :: .int i :: .ref (b + k) :: st) :=
  e_ck (fun h => fun hE H locs ls hP hS hl => by
    obtain ⟨h1, h2, h3⟩ := h
    obtain ⟨q, hi, hi2⟩ := dw_at (b := b) (C := tw_zC z) h1 hkd
    rw [hE0 Y h1.2.2] at hi
    have go : ∀ (H1 : Heap) (locs1 : List Loc), va_P (tw_zD z).1 vwCl ((dw_ws b (tw_zC z) Y).set (442 + q) (b + k, .inl (tw_zC z a, dw_l Y k, .inr (.inr (.inr (.inr (va_up (fun j => Option.map (fun a => b + a) (dw_r Y k j)) i.toNatClampNeg (Option.map (fun a => b + a) r)))))))) H1 → va_S (fun q => tw_zB z ≤ q) H H1 locs1 → tw_W z H1 locs1 (F0 (tw_zm z) (pc + 1) ls st) := fun H1 locs1 hP1 hS1 =>
      kk _ hE H1 locs1 ls (dw_W_put (Y1 := dw_pr Y k i.toNatClampNeg r) hP hi2 rfl rfl rfl (fun a ha => dw_E_pr ha) hS1.1 (by rw [dw_pr_E (a := a) (kd := kd) (hE0 (dw_pr Y k i.toNatClampNeg r) h1.2.2)]; exact hP1)) (dw_putS hS hS1) hl
    cases r with
    | none => exact va_astqN X.1 X.2.1 X.K hP.1 (dw_D hb) (dw_selfS hS) (442 + q) a hi ht (tw_ok_in h2) d (fun H1 locs1 hP1 _ hS1 => go H1 locs1 hP1 hS1)
    | some v =>
      have hv := h3 v rfl
      obtain ⟨q2, hj, -⟩ := dw_at (b := b) (C := tw_zC z) hv hci
      rw [hEv v hv.2.2] at hj
      exact va_astq X.1 X.2.1 X.K hP.1 (dw_D hb) (dw_selfS hS) (442 + q) a (442 + q2) ci hi ht hj hc (tw_ok_in h2) d (fun H1 locs1 hP1 _ hS1 => go H1 locs1 hP1 hS1))
/-- what the tables say of the arrays that the law makes -/
def dw_AOA (t : FieldType) (U : State) : Prop := ∃ (comp c : ClassId) (k kc : Class), U.vm.findClass (FieldType.array t).toString = some comp ∧ U.vm.classes[c]? = some k ∧ k.kind = .array comp (.array t) ∧ U.vm.findClass ("[" ++ (FieldType.array t).toString) = some c ∧ U.vm.classes[comp]? = some kc
theorem dw_AOA.moved {t : FieldType} {u U : State} (hvm : u.vm.Alike U.vm) (h : dw_AOA t u) : dw_AOA t U := by
  obtain ⟨comp, c, k, kc, h1, h2, h3, h4, h5⟩ := h
  obtain ⟨k', hk', he⟩ := hvm.2.2 _ _ h2
  obtain ⟨k2, hk2, -⟩ := hvm.2.2 _ _ h5
  exact ⟨comp, c, k', k2, by rw [hvm.findClass]; exact h1, hk', by rw [he]; exact h3, by rw [hvm.findClass]; exact h4, hk2⟩
theorem dw_AOA.of {t : FieldType} {args : Array Value} {s : State} (h : (Cond.arrayOver (.array t)).before args s = true) : dw_AOA t s := by
  obtain ⟨comp, c, k, h1, -, h2, h3, h4⟩ := arrayOverA_spec h
  obtain ⟨kComp, hkComp, -⟩ := Vm.findClass_spec h1
  exact ⟨comp, c, k, kComp, h1, h2, h3, h4, hkComp⟩
/-- a row of ints into a row of rows -/
theorem e_aastA {k v : Nat} {i : Int32} {K : dw_S → Prop} (X : tw_X z cc own nL) (hb : tw_zB z ≤ b) (hA : dw_AOA .int (tw_zs z)) (d : decode cc pc = .ok (.aastore, 1)) (kk : ∀ Y2, dw_Rf z b (K Y2) Y2 (pc + 1) L st) : dw_Rf z b (pw_ck (dw_is Y k 26 ∧ tw_ok i (dw_l Y k) = true ∧ dw_is Y v 20) (pw_lt (dw_pr Y k i.toNatClampNeg (some v)) K)) Y pc L (.ref (b + v) :: .int i :: .ref (b + k) :: st) :=
  e_ck (fun h => fun hE H locs ls hP hS hl => by
    obtain ⟨h1, h2, h3⟩ := h
    obtain ⟨q, hi, hi2⟩ := dw_at (b := b) (C := tw_zC z) h1 (by decide)
    rw [dw_E26 h1.2.2] at hi
    obtain ⟨q2, hj, -⟩ := dw_at (b := b) (C := tw_zC z) h3 (by decide)
    rw [dw_E20 h3.2.2] at hj
    obtain ⟨comp, c, kc, k0, a1, a2, a3, a4, a5⟩ := hA
    have e4 : c = tw_zC z 4 := Option.some.inj (a4.symm.trans ((X.K.2 4 _ rfl).2))
    have e0 : comp = tw_zC z 0 := by
      have h0 : (tw_zs z).vm.findClass "[I" = some (tw_zC z 0) := va_nm_int ((X.K.2 0 _ rfl).2)
      have e : (FieldType.array .int).toString = "[I" := by decide +kernel
      rw [e] at a1
      exact Option.some.inj (a1.symm.trans h0)
    subst e4; subst e0
    have hin := tw_ok_in h2
    have hlt : i.toNatClampNeg < dw_l Y k := Nat.not_le.mp fun q => hin (Or.inr q)
    refine W.aast X.1 X.2.1 (hP.1 _ _ hi) (fun q h => by cases h) (fun h => by cases h) a2 a3 rfl a5 ⟨fun q => hin (Or.inl q), by show _ < (arrV _ _ _).slots.size; rw [arrV_size]; exact hlt⟩ (hP.1 _ _ hj) (fun q h => by cases h) a5 (va_asg _ _) rfl rfl d fun H1 e z1 oq => ?_
    refine kk _ hE H1 _ ls (dw_W_put (Y1 := dw_pr Y k i.toNatClampNeg (some v)) hP hi2 rfl rfl rfl (fun a ha => dw_E_pr ha) (Nat.le_of_eq z1.symm) ?_) (dw_putS hS ((dw_selfS hS).put z1 oq ((dw_D hb (Y := Y) (C := tw_zC z)).2 _ _ hi))) hl
    refine hP.1.set (dw_D hb) hi ?_ oq
    rw [dw_pr_E (a := 4) (kd := 26) (dw_E26 (Y := dw_pr Y k i.toNatClampNeg (some v)) h1.2.2)]
    show H1[b + k]? = some (vp_cell _ _)
    rw [e]
    rw [vp_cell_q, vp_cell_q, arrV_store]
    congr 2
    funext q
    by_cases hq : q = i.toNatClampNeg
    · subst hq
      simp [updV, va_up, va_rf]
    · simp [updV, va_up, hq])
/-! making -/
def pw_al (n : Nat) (K : Nat → Prop) : Prop := ∀ a, n ≤ a → K a
theorem dw_SSpush {H H1 : Heap} {locs : List Loc} {A : Nat → Prop} {H0 : Heap} (hS : va_S A H0 H locs) (z1 : H1.size = H.size + 1) (o1 : ∀ q, q < H.size → H1[q]? = H[q]?) : va_S A H0 H1 locs := ⟨Nat.le_trans hS.1 (by omega), fun x h1 h2 => (o1 x (Nat.lt_of_lt_of_le h1 hS.1)).trans (hS.2.1 x h1 h2), hS.2.2⟩
theorem dw_fresh {H : Heap} {D : tw_G} {C : Nat → ClassId} (h : dw_W b D C Y H) : ∃ a, H.size = b + a ∧ dw_n Y ≤ a := by
  obtain ⟨-, hz, -, -⟩ := h
  exact ⟨H.size - b, by omega, by omega⟩
theorem e_new {ci ix N : Nat} {Cn : String} {T : u_T} {fs : List Value} {c s : Nat} {K : Nat → dw_S → Prop} (X : tw_X z cc own nL) {MC MS : Nat} (hR : tw_zcells z = c ∧ tw_zslots z = s) (hRM : (tw_zR z).cells = MC ∧ (tw_zR z).slots = MS) (d : decode cc pc = .ok (.new ix, 3)) (i : Nat) (hi : lw_tbl[i]? = some (.classLink own ix Cn)) (hinst : Cond.instantiable Cn N ∈ lw_tbl) (hini : Cond.initialized Cn ∈ lw_tbl) (hin : ∀ w ∈ u_ws Cn T N, w ∈ tw_AW) (ty : Nat → FieldType) (hty : ∀ k, k < N → parseFieldDescriptor (T k).2.2.1 = some (ty k)) (hcl : vwCl[ci]? = some (Cn, T, N)) (hfs : ∀ j, j < N → defaultValue (ty j) = vp_V fs j) (hci : ci ≠ 99) (hE : ∀ a, dw_E b (tw_zC z) (dw_nw Y a ci 0 (fun _ => 0) (fun _ => none)) a = .inr (ci, fs))
    (kk : ∀ a Y2, dw_Rf (tw_cz z (c + 1) (s + N)) b (K a Y2) Y2 (pc + 3) L (.ref (b + a) :: st)) : dw_Rf z b (pw_ck (c + 1 ≤ MC ∧ s + N ≤ MS) (pw_al (dw_n Y) (fun a => pw_lt (dw_nw Y a ci 0 (fun _ => 0) (fun _ => none)) (K a)))) Y pc L st := e_ck (fun hc => by
  obtain ⟨rfl, rfl⟩ := hR
  obtain ⟨rfl, rfl⟩ := hRM
  intro hE1 H locs ls hP hS hl
  obtain ⟨a, hz, ha⟩ := dw_fresh hP
  have hKn := X.2.2.2.2.2.1.2.1.1 ci _ hcl
  refine W.newcK X.1 X.2.1 X.ow (X.ws i hi rfl) (tw_wd X hinst rfl) (tw_wd X hini rfl) rfl d hc.1 hc.2 hKn.2.1 rfl fun H1 kC hkC e1 z1 o1 => ?_
  rw [hz] at e1 ⊢
  exact kk a _ (hE1 a ha) H1 locs ls (dw_W_nw (D := tw_zD z) (C := tw_zC z) hci hP hz z1 o1 (by rw [hE a]; exact ⟨_, hcl, (u_born (s := tw_zs z) (args := #[]) ty (X.2.2.2.2.2.1.1.all) hin hKn hkC e1 hty).to hfs⟩)) (dw_SSpush hS z1 o1) hl)
theorem e_newi {n : Int32} {c s : Nat} {K : Nat → dw_S → Prop} (X : tw_X z cc own nL) {MC MS : Nat} (hR : tw_zcells z = c ∧ tw_zslots z = s) (hRM : (tw_zR z).cells = MC ∧ (tw_zR z).slots = MS) (d : decode cc pc = .ok (.newarray .int, 2)) (hw : (Cond.arrayClass .int).before (tw_zargs z) (tw_zs z) = true)
    (kk : ∀ a Y2, dw_Rf (tw_cz z (c + 1) (s + n.toNatClampNeg)) b (K a Y2) Y2 (pc + 2) L (.ref (b + a) :: st)) : dw_Rf z b (pw_ck ((¬ n < 0 ∧ n.toNatClampNeg ≤ 10000) ∧ c + 1 ≤ MC ∧ s + n.toNatClampNeg ≤ MS) (pw_al (dw_n Y) (fun a => pw_lt (dw_nw Y a 20 n.toNatClampNeg (fun _ => 0) (fun _ => none)) (K a)))) Y pc L (.int n :: st) := e_ck (fun hc => by
  obtain ⟨rfl, rfl⟩ := hR
  obtain ⟨rfl, rfl⟩ := hRM
  intro hE1 H locs ls hP hS hl
  obtain ⟨a, hz, ha⟩ := dw_fresh hP
  have hb4 : n.toNatClampNeg * componentBytes (newarray.typeOf .int) ≤ 536870912 := by
    show n.toNatClampNeg * 4 ≤ 536870912
    have := hc.1.2
    omega
  refine va_newaK X.1 X.2.1 (atype := .int) hw rfl d rfl hc.1.1 rfl hb4 hc.2.1 hc.2.2 hz fun H1 cA e1 z1 o1 _ hf => ?_
  have hA : cA = tw_zC z 0 := Option.some.inj (hf.symm.trans ((X.2.2.2.2.2.1.2.1.2 0 _ rfl).2))
  subst hA
  have z2 : H1.size = H.size + 1 := by rw [hz]; exact z1
  have o2 : ∀ q, q < H.size → H1[q]? = H[q]? := fun q hq => o1 q (by rw [← hz]; exact hq)
  refine kk a _ (hE1 a ha) H1 locs ls (dw_W_nw (D := tw_zD z) (C := tw_zC z) (by decide) hP hz z2 o2 ?_) (dw_SSpush hS z2 o2) hl
  rw [dw_E20 dw_nw_k]
  have ei : dw_i (dw_nw Y a 20 n.toNatClampNeg (fun _ => 0) (fun _ => none)) a = fun _ => 0 := tw_upA_s
  have el : dw_l (dw_nw Y a 20 n.toNatClampNeg (fun _ => 0) (fun _ => none)) a = n.toNatClampNeg := congrArg Prod.snd (va_up_self _ _ _)
  rw [ei, el]
  exact e1)
theorem e_newz {n : Int32} {c s : Nat} {K : Nat → dw_S → Prop} (X : tw_X z cc own nL) {MC MS : Nat} (hR : tw_zcells z = c ∧ tw_zslots z = s) (hRM : (tw_zR z).cells = MC ∧ (tw_zR z).slots = MS) (d : decode cc pc = .ok (.newarray .boolean, 2)) (hw : (Cond.arrayClass .boolean).before (tw_zargs z) (tw_zs z) = true)
    (kk : ∀ a Y2, dw_Rf (tw_cz z (c + 1) (s + n.toNatClampNeg)) b (K a Y2) Y2 (pc + 2) L (.ref (b + a) :: st)) : dw_Rf z b (pw_ck ((¬ n < 0 ∧ n.toNatClampNeg ≤ 10000) ∧ c + 1 ≤ MC ∧ s + n.toNatClampNeg ≤ MS) (pw_al (dw_n Y) (fun a => pw_lt (dw_nw Y a 21 n.toNatClampNeg (fun _ => 0) (fun _ => none)) (K a)))) Y pc L (.int n :: st) := e_ck (fun hc => by
  obtain ⟨rfl, rfl⟩ := hR
  obtain ⟨rfl, rfl⟩ := hRM
  intro hE1 H locs ls hP hS hl
  obtain ⟨a, hz, ha⟩ := dw_fresh hP
  have hb4 : n.toNatClampNeg * componentBytes (newarray.typeOf .boolean) ≤ 536870912 := by
    show n.toNatClampNeg * 1 ≤ 536870912
    have := hc.1.2
    omega
  refine va_newaK X.1 X.2.1 (atype := .boolean) hw rfl d rfl hc.1.1 rfl hb4 hc.2.1 hc.2.2 hz fun H1 cA e1 z1 o1 _ hf => ?_
  have hA : cA = tw_zC z 1 := Option.some.inj (hf.symm.trans ((X.2.2.2.2.2.1.2.1.2 1 _ rfl).2))
  subst hA
  have z2 : H1.size = H.size + 1 := by rw [hz]; exact z1
  have o2 : ∀ q, q < H.size → H1[q]? = H[q]? := fun q hq => o1 q (by rw [← hz]; exact hq)
  refine kk a _ (hE1 a ha) H1 locs ls (dw_W_nw (D := tw_zD z) (C := tw_zC z) (by decide) hP hz z2 o2 ?_) (dw_SSpush hS z2 o2) hl
  rw [dw_E21 dw_nw_k]
  have ei : dw_i (dw_nw Y a 21 n.toNatClampNeg (fun _ => 0) (fun _ => none)) a = fun _ => 0 := tw_upA_s
  have el : dw_l (dw_nw Y a 21 n.toNatClampNeg (fun _ => 0) (fun _ => none)) a = n.toNatClampNeg := congrArg Prod.snd (va_up_self _ _ _)
  rw [ei, el]
  exact e1)
theorem e_newb {n : Int32} {c s : Nat} {K : Nat → dw_S → Prop} (X : tw_X z cc own nL) {MC MS : Nat} (hR : tw_zcells z = c ∧ tw_zslots z = s) (hRM : (tw_zR z).cells = MC ∧ (tw_zR z).slots = MS) (d : decode cc pc = .ok (.newarray .byte, 2)) (hw : (Cond.arrayClass .byte).before (tw_zargs z) (tw_zs z) = true)
    (kk : ∀ a Y2, dw_Rf (tw_cz z (c + 1) (s + n.toNatClampNeg)) b (K a Y2) Y2 (pc + 2) L (.ref (b + a) :: st)) : dw_Rf z b (pw_ck ((¬ n < 0 ∧ n.toNatClampNeg ≤ 10000) ∧ c + 1 ≤ MC ∧ s + n.toNatClampNeg ≤ MS) (pw_al (dw_n Y) (fun a => pw_lt (dw_nw Y a 22 n.toNatClampNeg (fun _ => 0) (fun _ => none)) (K a)))) Y pc L (.int n :: st) := e_ck (fun hc => by
  obtain ⟨rfl, rfl⟩ := hR
  obtain ⟨rfl, rfl⟩ := hRM
  intro hE1 H locs ls hP hS hl
  obtain ⟨a, hz, ha⟩ := dw_fresh hP
  have hb4 : n.toNatClampNeg * componentBytes (newarray.typeOf .byte) ≤ 536870912 := by
    show n.toNatClampNeg * 1 ≤ 536870912
    have := hc.1.2
    omega
  refine va_newaK X.1 X.2.1 (atype := .byte) hw rfl d rfl hc.1.1 rfl hb4 hc.2.1 hc.2.2 hz fun H1 cA e1 z1 o1 _ hf => ?_
  have hA : cA = tw_zC z 5 := Option.some.inj (hf.symm.trans ((X.2.2.2.2.2.1.2.1.2 5 _ rfl).2))
  subst hA
  have z2 : H1.size = H.size + 1 := by rw [hz]; exact z1
  have o2 : ∀ q, q < H.size → H1[q]? = H[q]? := fun q hq => o1 q (by rw [← hz]; exact hq)
  refine kk a _ (hE1 a ha) H1 locs ls (dw_W_nw (D := tw_zD z) (C := tw_zC z) (by decide) hP hz z2 o2 ?_) (dw_SSpush hS z2 o2) hl
  rw [dw_E22 dw_nw_k]
  have ei : dw_i (dw_nw Y a 22 n.toNatClampNeg (fun _ => 0) (fun _ => none)) a = fun _ => 0 := tw_upA_s
  have el : dw_l (dw_nw Y a 22 n.toNatClampNeg (fun _ => 0) (fun _ => none)) a = n.toNatClampNeg := congrArg Prod.snd (va_up_self _ _ _)
  rw [ei, el]
  exact e1)
theorem dw_nwE {a kd len t0 : Nat} {C : Nat → ClassId} (h : dw_E b C (dw_nw Y a kd len (fun _ => 0) (fun _ => none)) a = .inl (C t0, dw_l (dw_nw Y a kd len (fun _ => 0) (fun _ => none)) a, .inr (.inr (.inr (.inr (fun j => Option.map (fun x => b + x) (dw_r (dw_nw Y a kd len (fun _ => 0) (fun _ => none)) a j))))))) : dw_E b C (dw_nw Y a kd len (fun _ => 0) (fun _ => none)) a = .inl (C t0, len, .inr (.inr (.inr (.inr (fun _ => none))))) := by
  rw [h]
  have er : dw_r (dw_nw Y a kd len (fun _ => 0) (fun _ => none)) a = fun _ => none := va_up_self _ _ _
  have el : dw_l (dw_nw Y a kd len (fun _ => 0) (fun _ => none)) a = len := congrArg Prod.snd (va_up_self _ _ _)
  rw [er, el]
  rfl
theorem e_newq {ix t0 kd : Nat} {n : Int32} {Cn : String} {c s : Nat} {K : Nat → dw_S → Prop} (X : tw_X z cc own nL) {MC MS : Nat} (hR : tw_zcells z = c ∧ tw_zslots z = s) (hRM : (tw_zR z).cells = MC ∧ (tw_zR z).slots = MS) (d : decode cc pc = .ok (.anewarray ix, 3)) (i : Nat) (hi : lw_tbl[i]? = some (.classLink own ix Cn)) (hover : va_AO Cn (tw_zs z)) (ht : (tw_tys (tw_zC z))[t0]? = some (tw_zC z t0, .object Cn)) (hkd : kd ≠ 99) (hE0 : ∀ (Y : dw_S) k, dw_k Y k = kd → dw_E b (tw_zC z) Y k = .inl (tw_zC z t0, dw_l Y k, .inr (.inr (.inr (.inr (fun j => Option.map (fun a => b + a) (dw_r Y k j)))))))
    (kk : ∀ a Y2, dw_Rf (tw_cz z (c + 1) (s + n.toNatClampNeg)) b (K a Y2) Y2 (pc + 3) L (.ref (b + a) :: st)) : dw_Rf z b (pw_ck ((¬ n < 0 ∧ n.toNatClampNeg ≤ 10000) ∧ c + 1 ≤ MC ∧ s + n.toNatClampNeg ≤ MS) (pw_al (dw_n Y) (fun a => pw_lt (dw_nw Y a kd n.toNatClampNeg (fun _ => 0) (fun _ => none)) (K a)))) Y pc L (.int n :: st) := e_ck (fun hc => by
  obtain ⟨rfl, rfl⟩ := hR
  obtain ⟨rfl, rfl⟩ := hRM
  intro hE1 H locs ls hP hS hl
  obtain ⟨a, hz, ha⟩ := dw_fresh hP
  refine W.anew X.1 X.2.1 X.ow (X.ws i hi rfl) (va_AO.use hover) rfl d rfl hc.1.1 (by have := hc.1.2; omega) hc.2.1 hc.2.2 fun cA' kA comp f1 f2 f3 f4 => ?_
  obtain ⟨-, _, _, _, _, _, g⟩ := X.2.2.2.2.2.1.2.1.2 t0 _ ht
  cases Option.some.inj (f1.symm.trans g)
  generalize hH1 : H.push ({ cls := tw_zC z t0, slots := Array.replicate n.toNatClampNeg .null, vm := .none } : Cell) = H1
  have z1 : H1.size = H.size + 1 := by rw [← hH1, Array.size_push]
  have e1 : H1[H.size]? = some (arrV (tw_zC z t0) n.toNatClampNeg (fun _ => .null)) := by rw [← hH1, Array.getElem?_push_size, ← arrV_new]
  have o1 : ∀ q : Nat, q < H.size → H1[q]? = H[q]? := fun q hq => by rw [← hH1, Array.getElem?_push, if_neg (Nat.ne_of_lt hq)]
  rw [hz] at e1 ⊢
  refine kk a _ (hE1 a ha) H1 locs ls (dw_W_nw (D := tw_zD z) (C := tw_zC z) hkd hP hz z1 o1 ?_) (dw_SSpush hS z1 o1) hl
  rw [dw_nwE (hE0 _ a dw_nw_k)]
  show H1[b + a]? = some (vp_cell _ _)
  rw [vp_cell_q]
  exact e1)
theorem e_newA {ix : Nat} {n : Int32} {c s : Nat} {K : Nat → dw_S → Prop} (X : tw_X z cc own nL) {MC MS : Nat} (hR : tw_zcells z = c ∧ tw_zslots z = s) (hRM : (tw_zR z).cells = MC ∧ (tw_zR z).slots = MS) (d : decode cc pc = .ok (.anewarray ix, 3)) (i : Nat) (hi : lw_tbl[i]? = some (.classLink own ix "[I")) (hover : (Cond.arrayOver (.array .int)).before (tw_zargs z) (tw_zs z) = true)
    (kk : ∀ a Y2, dw_Rf (tw_cz z (c + 1) (s + n.toNatClampNeg)) b (K a Y2) Y2 (pc + 3) L (.ref (b + a) :: st)) : dw_Rf z b (pw_ck ((¬ n < 0 ∧ n.toNatClampNeg ≤ 10000) ∧ c + 1 ≤ MC ∧ s + n.toNatClampNeg ≤ MS) (pw_al (dw_n Y) (fun a => pw_lt (dw_nw Y a 26 n.toNatClampNeg (fun _ => 0) (fun _ => none)) (K a)))) Y pc L (.int n :: st) := e_ck (fun hc => by
  obtain ⟨rfl, rfl⟩ := hR
  obtain ⟨rfl, rfl⟩ := hRM
  intro hE1 H locs ls hP hS hl
  obtain ⟨a, hz, ha⟩ := dw_fresh hP
  have hlk : (Cond.classLink own ix (FieldType.array .int).toString).before (tw_zargs z) (tw_zs z) = true := by
    rw [show (FieldType.array .int).toString = "[I" from by decide +kernel]
    exact X.ws i hi rfl
  refine W.anewA X.1 X.2.1 X.ow hlk hover rfl d rfl hc.1.1 (by have := hc.1.2; omega) hc.2.1 hc.2.2 fun cA' kA comp f1 f2 f3 f4 => ?_
  cases Option.some.inj (f1.symm.trans ((X.2.2.2.2.2.1.2.1.2 4 _ rfl).2))
  generalize hH1 : H.push ({ cls := tw_zC z 4, slots := Array.replicate n.toNatClampNeg .null, vm := .none } : Cell) = H1
  have z1 : H1.size = H.size + 1 := by rw [← hH1, Array.size_push]
  have e1 : H1[H.size]? = some (arrV (tw_zC z 4) n.toNatClampNeg (fun _ => .null)) := by rw [← hH1, Array.getElem?_push_size, ← arrV_new]
  have o1 : ∀ q : Nat, q < H.size → H1[q]? = H[q]? := fun q hq => by rw [← hH1, Array.getElem?_push, if_neg (Nat.ne_of_lt hq)]
  rw [hz] at e1 ⊢
  refine kk a _ (hE1 a ha) H1 locs ls (dw_W_nw (D := tw_zD z) (C := tw_zC z) (by decide) hP hz z1 o1 ?_) (dw_SSpush hS z1 o1) hl
  rw [dw_nwE (dw_E26 dw_nw_k)]
  show H1[b + a]? = some (vp_cell _ _)
  rw [vp_cell_q]
  exact e1)
end DWR
