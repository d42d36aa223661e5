/-! THE JUDGEMENT: at pc, with locals L and stack st, over the world σ, the method's code comes to the end that the expression E tells. -/
abbrev tw_Z : Type := Program × Launch × Env × Room × State × MethodId × Array Value × List Frame × Method × Code × Nat × tw_G × (Nat → ClassId) × (Nat → Nat) × Nat × Nat × Nat × (State → Prop)
abbrev tw_zp (z : tw_Z) : Program := z.1
abbrev tw_zl (z : tw_Z) : Launch := z.2.1
abbrev tw_ze (z : tw_Z) : Env := z.2.2.1
abbrev tw_zR (z : tw_Z) : Room := z.2.2.2.1
abbrev tw_zs (z : tw_Z) : State := z.2.2.2.2.1
abbrev tw_zm (z : tw_Z) : MethodId := z.2.2.2.2.2.1
abbrev tw_zargs (z : tw_Z) : Array Value := z.2.2.2.2.2.2.1
abbrev tw_zbelow (z : tw_Z) : List Frame := z.2.2.2.2.2.2.2.1
abbrev tw_zmeth (z : tw_Z) : Method := z.2.2.2.2.2.2.2.2.1
abbrev tw_zc (z : tw_Z) : Code := z.2.2.2.2.2.2.2.2.2.1
abbrev tw_zB (z : tw_Z) : Nat := z.2.2.2.2.2.2.2.2.2.2.1
abbrev tw_zD (z : tw_Z) : tw_G := z.2.2.2.2.2.2.2.2.2.2.2.1
abbrev tw_zC (z : tw_Z) : (Nat → ClassId) := z.2.2.2.2.2.2.2.2.2.2.2.2.1
abbrev tw_zS (z : tw_Z) : (Nat → Nat) := z.2.2.2.2.2.2.2.2.2.2.2.2.2.1
abbrev tw_znL (z : tw_Z) : Nat := z.2.2.2.2.2.2.2.2.2.2.2.2.2.2.1
abbrev tw_zcells (z : tw_Z) : Nat := z.2.2.2.2.2.2.2.2.2.2.2.2.2.2.2.1
abbrev tw_zslots (z : tw_Z) : Nat := z.2.2.2.2.2.2.2.2.2.2.2.2.2.2.2.2.1
abbrev tw_zQ (z : tw_Z) : (State → Prop) := z.2.2.2.2.2.2.2.2.2.2.2.2.2.2.2.2.2

def tw_lt {α ρ : Type} (e : α) (k : α → Option ρ) : Option ρ := k e
def tw_ck {ρ : Type} (b : Bool) (e : Option ρ) : Option ρ := match b with | true => e | false => none
def tw_bd {α ρ : Type} (e : Option α) (k : α → Option ρ) : Option ρ := match e with | some a => k a | none => none
def tw_jn {α β : Type} (r : α) (b : α → β) : β := b r
def tw_lp {α ρ : Type} (body : (α → Option ρ) → α → Option ρ) : Nat → α → Option ρ
  | 0, _ => none
  | n + 1, a => body (tw_lp body n) a
def tw_mt {α ρ : Type} (e : Option α) (a : Option ρ) (b : α → Option ρ) : Option ρ := match e with | none => a | some x => b x
def tw_ok (i : Int32) (n : Nat) : Bool := decide (¬ (i < 0 ∨ n ≤ i.toNatClampNeg))
theorem tw_ok_in {i : Int32} {n : Nat} (h : tw_ok i n = true) : vp_in i n := (of_decide_eq_true h : ¬ (i < 0 ∨ n ≤ i.toNatClampNeg))
def tw_01 (x : Int32) : Bool := decide (x = 0 ∨ x = 1)
theorem tw_01_b {x : Int32} (h : tw_01 x = true) : narrow .boolean (.int x) = .int x := by
  rcases of_decide_eq_true h with h | h <;> subst h <;> decide
theorem tw_ck_of {ρ : Type} {b : Bool} {e : Option ρ} {r : ρ} (h : tw_ck b e = some r) : b = true ∧ e = some r := by
  cases b
  · cases h
  · exact ⟨rfl, h⟩
theorem tw_bd_of {α ρ : Type} {e : Option α} {k : α → Option ρ} {r : ρ} (h : tw_bd e k = some r) : ∃ a, e = some a ∧ k a = some r := by
  cases e with
  | none => cases h
  | some a => exact ⟨a, rfl, h⟩
/-- what holds of the tables and of what lies ahead of B -/
def tw_off (j : Nat) : Int32 := ([-32, -31, 1, 33, 32, 31, -1, -33] : List Int32).getD j 0
def tw_len : List Nat := [5, 4, 4, 4, 4, 4, 4, 5, 2, 2, 2, 3, 4, 1, 2, 1, 2, 1, 2, 1, 2, 1, 5, 4, 0, 3, 4, 4, 5, 1, 5, 6, 5]
def tw_byt : List (List Int32) := [[119, 97, 116, 101, 114], [98, 101, 110, 100], [109, 97, 114, 107], [116, 101, 97, 109], [99, 108, 117, 101], [119, 97, 108, 107], [108, 101, 102, 116], [114, 105, 103, 104, 116], [111, 114], [103, 111], [116, 111], [101, 110, 100], [103, 105, 118, 101], [110], [110, 101], [101], [115, 101], [115], [115, 119], [119], [110, 119], [32], [99, 108, 117, 101, 32], [32, 111, 114, 32], [], [32, 103, 111], [32, 116, 111, 32], [32, 101, 110, 100], [32, 103, 105, 118, 101], [59], [32, 108, 101, 102, 116], [32, 114, 105, 103, 104, 116], [109, 97, 114, 107, 32]]
def tw_ldc : List (String × Nat × String × Nat) := [("TreasureWalk", 81, "the buffer has no such length", 33), ("TreasureWalk", 155, "what is not 0 to 12", 34), ("TreasureWalk", 167, "there is no such bearing", 35), ("TreasureWalk", 184, "the clue has not so many legs", 36), ("TreasureWalk", 199, "the clue has no such leg", 37), ("TreasureWalk", 204, "no walk of the clue ends there", 38), ("TreasureWalk", 243, "n is not 0 to 9999", 39), ("TreasureWalk", 248, "there is no such bend", 40), ("TreasureWalk", 250, "turn is not -3 to 3", 41), ("TreasureWalk", 274, "there is no such cell", 42), ("TreasureWalk", 276, "there is no such clue", 43), ("TreasureWalk$Reader", 56, "water", 0), ("TreasureWalk$Reader", 65, "bend", 1), ("TreasureWalk$Reader", 70, "mark", 2), ("TreasureWalk$Reader", 75, "team", 3), ("TreasureWalk$Reader", 80, "clue", 4), ("TreasureWalk$Reader", 103, "walk", 5), ("TreasureWalk$Reader", 146, "left", 6), ("TreasureWalk$Reader", 148, "right", 7), ("TreasureWalk$Reader", 177, "or", 8), ("TreasureWalk$Reader", 198, "go", 9), ("TreasureWalk$Reader", 200, "to", 10), ("TreasureWalk$Reader", 202, "end", 11), ("TreasureWalk$Reader", 209, "give", 12), ("TreasureWalk$Reader", 244, "n", 13), ("TreasureWalk$Reader", 246, "ne", 14), ("TreasureWalk$Reader", 248, "e", 15), ("TreasureWalk$Reader", 250, "se", 16), ("TreasureWalk$Reader", 252, "s", 17), ("TreasureWalk$Reader", 254, "sw", 18), ("TreasureWalk$Reader", 256, "w", 19), ("TreasureWalk$Reader", 258, "nw", 20), ("TreasureWalkLaw", 100, " ", 21), ("TreasureWalkLaw", 108, "clue ", 22), ("TreasureWalkLaw", 122, " or ", 23), ("TreasureWalkLaw", 127, "", 24), ("TreasureWalkLaw", 159, " go", 25), ("TreasureWalkLaw", 165, " to ", 26), ("TreasureWalkLaw", 167, " end", 27), ("TreasureWalkLaw", 173, " give", 28), ("TreasureWalkLaw", 175, ";", 29), ("TreasureWalkLaw", 193, "walk", 5), ("TreasureWalkLaw", 194, "water", 0), ("TreasureWalkLaw", 201, "bend", 1), ("TreasureWalkLaw", 203, " left", 30), ("TreasureWalkLaw", 205, " right", 31), ("TreasureWalkLaw", 215, "mark ", 32), ("TreasureWalkLaw", 220, "team", 3), ("TreasureWalkLaw", 334, "n", 13), ("TreasureWalkLaw", 336, "ne", 14), ("TreasureWalkLaw", 338, "e", 15), ("TreasureWalkLaw", 340, "se", 16), ("TreasureWalkLaw", 342, "s", 17), ("TreasureWalkLaw", 344, "sw", 18), ("TreasureWalkLaw", 346, "w", 19), ("TreasureWalkLaw", 348, "nw", 20)]

def tw_EV (B : Nat) (D : tw_G) (C : Nat → ClassId) (S : Nat → Nat) (U : State) : Prop :=
  tw_Ws U ∧ va_K D.1 vwCl (tw_tys C) U ∧
  (va_Z "TreasureWalk" "OFFSETS" "[I" (.ref (S 90)) (fun q => B ≤ q) U U.heap ∧ va_T .int (S 90) 8 (fun j => .int (tw_off j)) (fun q => B ≤ q) U U.heap) ∧
  vk_S 33 tw_len tw_byt S (fun w => S (100 + w)) (fun q => B ≤ q) U U.heap ∧
  (∀ q ∈ tw_ldc, vk_R q.1 q.2.1 q.2.2.1 (S q.2.2.2) U) ∧
  (vx_Zq Bundle.tN "UNASSIGNED_STACK" Bundle.steD (fun q => B ≤ q) U U.heap ∧ vx_Zq Bundle.tN "SUPPRESSED_SENTINEL" Bundle.listD (fun q => B ≤ q) U U.heap) ∧
  (va_Nc "java/lang/IllegalArgumentException" "java/lang/IndexOutOfBoundsException" U ∧ va_Nc "java/util/NoSuchElementException" "java/lang/IndexOutOfBoundsException" U) ∧
  va_Z "java/lang/String" "COMPACT_STRINGS" "Z" (.int 1) (fun q => B ≤ q) U U.heap ∧
  va_Zq "jdk/internal/util/Preconditions" "SIOOBE_FORMATTER" "Ljava/util/function/BiFunction;" (fun q => B ≤ q) U U.heap ∧ tw_Wok B D.2
theorem tw_EV.call {B : Nat} {D : tw_G} {C : Nat → ClassId} {S : Nat → Nat} {s U : State} {H : Heap} {locs : List Loc} (h : tw_EV B D C S s) (hS : va_S (fun q => B ≤ q) s.heap H locs) (hU : U.heap = H) (hW : s.WarmedH U.vm) : tw_EV B D C S U := by
  obtain ⟨h1, h2, ⟨h3, h4⟩, h5, h6, ⟨h7, h8⟩, ⟨h9, h10⟩, h11, h12, h13⟩ := h
  have hq : ∀ a : Nat, a < s.heap.size → ¬ B ≤ a → U.heap[a]? = s.heap[a]? := fun a ha hb => by rw [hU]; exact hS.2.1 a ha hb
  exact ⟨h1.warm hW, h2.moved hW.alike, ⟨(h3.moved hW.alike).kept hq, (h4.moved hW.alike).kept hq⟩, (h5.moved hW.alike).kept hq, fun q hq => (h6 q hq).warm hW, ⟨(h7.moved hW.alike).kept hq, (h8.moved hW.alike).kept hq⟩, ⟨h9.moved hW.alike, h10.moved hW.alike⟩, (h11.moved hW.alike).kept hq, (h12.moved hW.alike).kept hq, h13⟩
theorem tw_EV.blind {B : Nat} {D : tw_G} {C : Nat → ClassId} {S : Nat → Nat} {U : State} {g : JFrame} {mk : MethodId} {a : Array Value} (h : tw_EV B D C S U) : tw_EV B D C S (U.calling g mk a) := by
  obtain ⟨h1, h2, ⟨h3, h4⟩, h5, h6, ⟨h7, h8⟩, ⟨h9, h10⟩, h11, h12, h13⟩ := h
  have al : U.vm.Alike (U.calling g mk a).vm := Vm.Alike.refl U.vm
  exact ⟨h1.same rfl, h2.moved al, ⟨va_Z.moved (u := U) al h3, va_T.moved (u := U) al h4⟩, vk_S.moved (u := U) al h5, fun q hq => vk_R.same (u := U) rfl (h6 q hq), ⟨vx_Zq.moved (u := U) al h7, vx_Zq.moved (u := U) al h8⟩, ⟨va_Nc.moved (u := U) al h9, va_Nc.moved (u := U) al h10⟩, va_Z.moved (u := U) al h11, va_Zq.moved (u := U) al h12, h13⟩
def tw_X (z : tw_Z) (cc : ByteArray) (own : String) (nL : Nat) : Prop :=
  (tw_zp z).tables.exec = Jvm.exec ∧ (tw_zc z).code = cc ∧ (tw_zc z).maxLocals = nL ∧ (tw_zs z).vm.findClass own = some (tw_zm z).cls ∧ (tw_zmeth z).locks = false ∧ tw_EV (tw_zB z) (tw_zD z) (tw_zC z) (tw_zS z) (tw_zs z) ∧ tw_znL z = nL
def tw_W (z : tw_Z) (H : Heap) (locs : List Loc) (g : JFrame) : Prop := W (tw_zp z) (tw_zl z) (tw_ze z) (tw_zR z) (tw_zs z) (tw_zm z) (tw_zargs z) (tw_zbelow z) (tw_zmeth z) (tw_zc z) H locs (tw_zcells z) (tw_zslots z) (tw_zQ z) g
abbrev tw_PP (z : tw_Z) (σ : tw_Sg) (H : Heap) : Prop := va_P (tw_zD z).1 vwCl (tw_wl (tw_zB z) (tw_E (tw_zB z) (tw_zC z) σ) 442 ++ (tw_zD z).2) H
abbrev tw_SS (z : tw_Z) (H : Heap) (locs : List Loc) : Prop := va_S (fun q => tw_zB z ≤ q) (tw_zs z).heap H locs
def tw_Rf {ρ : Type} (z : tw_Z) (res : ρ) (E : Option ρ) (σ : tw_Sg) (pc : Nat) (L : List (Nat × Value)) (st : List Value) : Prop :=
  E = some res → ∀ (H : Heap) (locs : List Loc) (ls : Array Slot), tw_PP z σ H → tw_SS z H locs → lv_has ls (tw_znL z) L → tw_W z H locs (F0 (tw_zm z) pc ls st)
section TWR
variable {ρ : Type} {z : tw_Z} {res : ρ} {cc : ByteArray} {own : String} {nL pc : Nat} {E : Option ρ} {σ : tw_Sg} {L L' : List (Nat × Value)} {st : List Value}
theorem tw_X.ws (X : tw_X z cc own nL) {w : Cond} (i : Nat) (hi : lw_tbl[i]? = some w) (ho : tw_okw w = true) : w.before (tw_zargs z) (tw_zs z) = true := X.2.2.2.2.2.1.1.use i hi ho
theorem tw_X.all (X : tw_X z cc own nL) : ∀ w ∈ tw_AW, w.before (tw_zargs z) (tw_zs z) = true := X.2.2.2.2.2.1.1.all
theorem tw_X.K (X : tw_X z cc own nL) : va_K (tw_zD z).1 vwCl (tw_tys (tw_zC z)) (tw_zs z) := X.2.2.2.2.2.1.2.1
theorem tw_X.wok (X : tw_X z cc own nL) : tw_Wok (tw_zB z) (tw_zD z).2 := X.2.2.2.2.2.1.2.2.2.2.2.2.2.2.2
theorem tw_X.ow (X : tw_X z cc own nL) : (tw_zs z).vm.findClass own = some (tw_zm z).cls := X.2.2.2.1
theorem tw_Rf.eq {E' : Option ρ} (h : E = E') (k : tw_Rf z res E' σ pc L st) : tw_Rf z res E σ pc L st := h ▸ k
theorem tw_Rf.sub (ks : List Nat) (hl : lv_pick L ks = L') (k : tw_Rf z res E σ pc L' st) : tw_Rf z res E σ pc L st := fun hE H locs ls hP hS h => k hE H locs ls hP hS (lv_sub h ks hl)
theorem r_ck {b : Bool} (k : b = true → tw_Rf z res E σ pc L st) : tw_Rf z res (tw_ck b E) σ pc L st := fun hE H locs ls hP hS hl => k (tw_ck_of hE).1 (tw_ck_of hE).2 H locs ls hP hS hl
theorem r_bd {α : Type} {e : Option α} {K : α → Option ρ} (k : ∀ a, e = some a → tw_Rf z res (K a) σ pc L st) : tw_Rf z res (tw_bd e K) σ pc L st := fun hE H locs ls hP hS hl => by
  obtain ⟨a, h1, h2⟩ := tw_bd_of hE
  exact k a h1 h2 H locs ls hP hS hl
/-- a join: the rest is proved once -/
theorem r_jn {α : Type} {r : α → Option ρ} {b : (α → Option ρ) → Option ρ} {σJ : α → tw_Sg} {pcJ : Nat} {LJ : α → List (Nat × Value)} {stJ : α → List Value} {ok : α → Prop}
    (hr : ∀ a, ok a → tw_Rf z res (r a) (σJ a) pcJ (LJ a) (stJ a)) (hb : ∀ f : α → Option ρ, (∀ a, ok a → tw_Rf z res (f a) (σJ a) pcJ (LJ a) (stJ a)) → tw_Rf z res (b f) σ pc L st) : tw_Rf z res (tw_jn r b) σ pc L st := hb r hr
/-- a loop: from its head back to its head, or out of it -/
theorem r_lp {α : Type} {body : (α → Option ρ) → α → Option ρ} {σJ : α → tw_Sg} {pcJ : Nat} {LJ : α → List (Nat × Value)} {stJ : α → List Value}
    (h : ∀ f : α → Option ρ, (∀ a, tw_Rf z res (f a) (σJ a) pcJ (LJ a) (stJ a)) → ∀ a, tw_Rf z res (body f a) (σJ a) pcJ (LJ a) (stJ a)) : ∀ (n : Nat) (a : α), tw_Rf z res (tw_lp body n a) (σJ a) pcJ (LJ a) (stJ a) := by
  intro n
  induction n with
  | zero => intro a hE; cases hE
  | succ n ih => intro a; exact h (tw_lp body n) ih a
theorem r_mt {α : Type} {e : Option α} {A : Option ρ} {K : α → Option ρ} (k0 : e = none → tw_Rf z res A σ pc L st) (k1 : ∀ x, e = some x → tw_Rf z res (K x) σ pc L st) : tw_Rf z res (tw_mt e A K) σ pc L st := by
  cases e with
  | none => exact k0 rfl
  | some x => exact k1 x rfl

theorem r_iconst {n : Int} {v : Int32} (X : tw_X z cc own nL) (d : decode cc pc = .ok (.iconst n, 1)) (hv : Int32.ofInt n = v) (k : tw_Rf z res E σ (pc + 1) L (.int v :: st)) : tw_Rf z res E σ pc L (st) := fun hE H locs ls hP hS hl => lv_iconst X.1 X.2.1 d hv (k hE H locs ls hP hS hl)
theorem r_bipush {n : Int} {v : Int32} (X : tw_X z cc own nL) (d : decode cc pc = .ok (.bipush n, 2)) (hv : (Int8.ofInt n).toInt32 = v) (k : tw_Rf z res E σ (pc + 2) L (.int v :: st)) : tw_Rf z res E σ pc L (st) := fun hE H locs ls hP hS hl => lv_bipush X.1 X.2.1 d hv (k hE H locs ls hP hS hl)
theorem r_sipush {n : Int} {v : Int32} (X : tw_X z cc own nL) (d : decode cc pc = .ok (.sipush n, 3)) (hv : (Int16.ofInt n).toInt32 = v) (k : tw_Rf z res E σ (pc + 3) L (.int v :: st)) : tw_Rf z res E σ pc L (st) := fun hE H locs ls hP hS hl => lv_sipush X.1 X.2.1 d hv (k hE H locs ls hP hS hl)
theorem r_lconst {n : Fin 2} {v : Int64} (X : tw_X z cc own nL) (d : decode cc pc = .ok (.lconst n, 1)) (hv : Int64.ofNat (n : Nat) = v) (k : tw_Rf z res E σ (pc + 1) L (.long v :: st)) : tw_Rf z res E σ pc L (st) := fun hE H locs ls hP hS hl => lv_lconst X.1 X.2.1 d hv (k hE H locs ls hP hS hl)
theorem r_ldcI {ix : Nat} {v : Int32} (X : tw_X z cc own nL) (d : decode cc pc = .ok (.ldc ix, 2)) (i : Nat) (hi : lw_tbl[i]? = some (.constant own ix v)) (k : tw_Rf z res E σ (pc + 2) L (.int v :: st)) : tw_Rf z res E σ pc L (st) := fun hE H locs ls hP hS hl => lv_ldc X.1 X.2.1 X.ow (X.ws i hi rfl) d (k hE H locs ls hP hS hl)
theorem r_ldc2 {ix : Nat} {v : Int64} (X : tw_X z cc own nL) (d : decode cc pc = .ok (.ldc2_w ix, 3)) (i : Nat) (hi : lw_tbl[i]? = some (.constantLong own ix v)) (k : tw_Rf z res E σ (pc + 3) L (.long v :: st)) : tw_Rf z res E σ pc L (st) := fun hE H locs ls hP hS hl => lv_ldc2 X.1 X.2.1 X.ow (X.ws i hi rfl) d (k hE H locs ls hP hS hl)
theorem r_null (X : tw_X z cc own nL) (d : decode cc pc = .ok (.aconst_null, 1)) (k : tw_Rf z res E σ (pc + 1) L (.null :: st)) : tw_Rf z res E σ pc L (st) := fun hE H locs ls hP hS hl => lv_null X.1 X.2.1 d (k hE H locs ls hP hS hl)
theorem r_ldcS {ix j : Nat} {tx : String} (X : tw_X z cc own nL) (d : decode cc pc = .ok (.ldc ix, 2)) (hj : (own, ix, tx, j) ∈ tw_ldc) (k : tw_Rf z res E σ (pc + 2) L (.ref (tw_zS z j) :: st)) : tw_Rf z res E σ pc L (st) := fun hE H locs ls hP hS hl => va_ldcS X.1 X.2.1 X.ow (X.2.2.2.2.2.1.2.2.2.2.1 _ hj) d (k hE H locs ls hP hS hl)
theorem tw_hl {ls : Array Slot} (h : lv_has ls (tw_znL z) L) (q : Nat) {i : Nat} {v : Value} (hq : L[q]? = some (i, v)) : ls[i]? = some (.val v) := lv_at h q hq
theorem r_iload_n {j : Fin 4} {i : Nat} {x : Int32} (X : tw_X z cc own nL) (d : decode cc pc = .ok (.iload_n j, 1)) (hi : (j : Nat) = i) (q : Nat) (hq : L[q]? = some (i, .int x)) (k : tw_Rf z res E σ (pc + 1) L (.int x :: st)) : tw_Rf z res E σ pc L (st) := fun hE H locs ls hP hS hl => lv_iload_n X.1 X.2.1 d hi (tw_hl hl q hq) (k hE H locs ls hP hS hl)
theorem r_iload {i : Nat} {x : Int32} (X : tw_X z cc own nL) (d : decode cc pc = .ok (.iload i, 2)) (q : Nat) (hq : L[q]? = some (i, .int x)) (k : tw_Rf z res E σ (pc + 2) L (.int x :: st)) : tw_Rf z res E σ pc L (st) := fun hE H locs ls hP hS hl => lv_iload X.1 X.2.1 d (tw_hl hl q hq) (k hE H locs ls hP hS hl)
theorem r_lload_n {j : Fin 4} {i : Nat} {x : Int64} (X : tw_X z cc own nL) (d : decode cc pc = .ok (.lload_n j, 1)) (hi : (j : Nat) = i) (q : Nat) (hq : L[q]? = some (i, .long x)) (k : tw_Rf z res E σ (pc + 1) L (.long x :: st)) : tw_Rf z res E σ pc L (st) := fun hE H locs ls hP hS hl => lv_lload_n X.1 X.2.1 d hi (tw_hl hl q hq) (k hE H locs ls hP hS hl)
theorem r_aload_n {j : Fin 4} {i : Nat} {x : Nat} (X : tw_X z cc own nL) (d : decode cc pc = .ok (.aload_n j, 1)) (hi : (j : Nat) = i) (q : Nat) (hq : L[q]? = some (i, .ref x)) (k : tw_Rf z res E σ (pc + 1) L (.ref x :: st)) : tw_Rf z res E σ pc L (st) := fun hE H locs ls hP hS hl => lv_aload_n X.1 X.2.1 d hi (tw_hl hl q hq) (k hE H locs ls hP hS hl)
theorem r_aload {i : Nat} {x : Nat} (X : tw_X z cc own nL) (d : decode cc pc = .ok (.aload i, 2)) (q : Nat) (hq : L[q]? = some (i, .ref x)) (k : tw_Rf z res E σ (pc + 2) L (.ref x :: st)) : tw_Rf z res E σ pc L (st) := fun hE H locs ls hP hS hl => lv_aload X.1 X.2.1 d (tw_hl hl q hq) (k hE H locs ls hP hS hl)
theorem r_aload_nN {j : Fin 4} {i : Nat} (X : tw_X z cc own nL) (d : decode cc pc = .ok (.aload_n j, 1)) (hi : (j : Nat) = i) (q : Nat) (hq : L[q]? = some (i, .null)) (k : tw_Rf z res E σ (pc + 1) L (.null :: st)) : tw_Rf z res E σ pc L (st) := fun hE H locs ls hP hS hl => lv_aload_nN X.1 X.2.1 d hi (tw_hl hl q hq) (k hE H locs ls hP hS hl)
theorem tw_nLt (X : tw_X z cc own nL) {i : Nat} (hn : i < nL) : i < tw_znL z := X.2.2.2.2.2.2 ▸ hn
theorem r_istore_n {j : Fin 4} {i : Nat} {x : Int32} {K : Int32 → Option ρ} {LL : Int32 → List (Nat × Value)} (X : tw_X z cc own nL) (d : decode cc pc = .ok (.istore_n j, 1)) (hi : (j : Nat) = i) (hn : i < nL) (hL : ∀ x, (i, Value.int x) :: L.filter (fun q => !(q.1 == i) && !(q.1 + 1 == i && q.2.category == 2)) = LL x) (k : ∀ x, tw_Rf z res (K x) σ (pc + 1) (LL x) st) : tw_Rf z res (tw_lt x K) σ pc L (.int x :: st) := fun hE H locs ls hP hS hl => lv_istore_n X.1 X.2.1 d hi hl (tw_nLt X hn) (hL x) (fun ls' hl' => k x hE H locs ls' hP hS hl')
theorem r_istore {i : Nat} {x : Int32} {K : Int32 → Option ρ} {LL : Int32 → List (Nat × Value)} (X : tw_X z cc own nL) (d : decode cc pc = .ok (.istore i, 2)) (hn : i < nL) (hL : ∀ x, (i, Value.int x) :: L.filter (fun q => !(q.1 == i) && !(q.1 + 1 == i && q.2.category == 2)) = LL x) (k : ∀ x, tw_Rf z res (K x) σ (pc + 2) (LL x) st) : tw_Rf z res (tw_lt x K) σ pc L (.int x :: st) := fun hE H locs ls hP hS hl => lv_istore X.1 X.2.1 d hl (tw_nLt X hn) (hL x) (fun ls' hl' => k x hE H locs ls' hP hS hl')
theorem r_lstore_n {j : Fin 4} {i : Nat} {x : Int64} {K : Int64 → Option ρ} {LL : Int64 → List (Nat × Value)} (X : tw_X z cc own nL) (d : decode cc pc = .ok (.lstore_n j, 1)) (hi : (j : Nat) = i) (hn : i + 1 < nL) (hL : ∀ x, (i, Value.long x) :: L.filter (fun q => !(q.1 == i) && (!(q.1 == i + 1) && !(q.1 + 1 == i && q.2.category == 2))) = LL x) (k : ∀ x, tw_Rf z res (K x) σ (pc + 1) (LL x) st) : tw_Rf z res (tw_lt x K) σ pc L (.long x :: st) := fun hE H locs ls hP hS hl => lv_lstore_n X.1 X.2.1 d hi hl (tw_nLt X hn) (hL x) (fun ls' hl' => k x hE H locs ls' hP hS hl')
theorem r_astore_n {j : Fin 4} {i : Nat} {x : Nat} (X : tw_X z cc own nL) (d : decode cc pc = .ok (.astore_n j, 1)) (hi : (j : Nat) = i) (hn : i < nL) (hL : (i, Value.ref x) :: L.filter (fun q => !(q.1 == i) && !(q.1 + 1 == i && q.2.category == 2)) = L') (k : tw_Rf z res E σ (pc + 1) L' st) : tw_Rf z res E σ pc L (.ref x :: st) := fun hE H locs ls hP hS hl => lv_astore_n X.1 X.2.1 d hi hl (tw_nLt X hn) hL (fun ls' hl' => k hE H locs ls' hP hS hl')
theorem r_astore {i : Nat} {x : Nat} (X : tw_X z cc own nL) (d : decode cc pc = .ok (.astore i, 2)) (hn : i < nL) (hL : (i, Value.ref x) :: L.filter (fun q => !(q.1 == i) && !(q.1 + 1 == i && q.2.category == 2)) = L') (k : tw_Rf z res E σ (pc + 2) L' st) : tw_Rf z res E σ pc L (.ref x :: st) := fun hE H locs ls hP hS hl => lv_astore X.1 X.2.1 d hl (tw_nLt X hn) hL (fun ls' hl' => k hE H locs ls' hP hS hl')
theorem r_astore_nN {j : Fin 4} {i : Nat} (X : tw_X z cc own nL) (d : decode cc pc = .ok (.astore_n j, 1)) (hi : (j : Nat) = i) (hn : i < nL) (hL : (i, Value.null) :: L.filter (fun q => !(q.1 == i) && !(q.1 + 1 == i && q.2.category == 2)) = L') (k : tw_Rf z res E σ (pc + 1) L' st) : tw_Rf z res E σ pc L (.null :: st) := fun hE H locs ls hP hS hl => lv_astore_nN X.1 X.2.1 d hi hl (tw_nLt X hn) hL (fun ls' hl' => k hE H locs ls' hP hS hl')
theorem r_iinc {i : Nat} {n : Int} {x v : Int32} {K : Int32 → Option ρ} {LL : Int32 → List (Nat × Value)} (X : tw_X z cc own nL) (d : decode cc pc = .ok (.iinc i n, 3)) (q : Nat) (hq : L[q]? = some (i, .int x)) (hv : Int32.ofInt n = v) (hn : i < nL) (hL : ∀ x, (i, Value.int x) :: L.filter (fun q => !(q.1 == i) && !(q.1 + 1 == i && q.2.category == 2)) = LL x) (k : ∀ x, tw_Rf z res (K x) σ (pc + 3) (LL x) st) : tw_Rf z res (tw_lt (x + v) K) σ pc L st := fun hE H locs ls hP hS hl => lv_iinc X.1 X.2.1 d hl hq (by rw [hv]) (tw_nLt X hn) (hL (x + v)) (fun ls' hl' => k (x + v) hE H locs ls' hP hS hl')
theorem r_iadd {x y : Int32} (X : tw_X z cc own nL) (d : decode cc pc = .ok (.iadd, 1)) (k : tw_Rf z res E σ (pc + 1) L (.int (x + y) :: st)) : tw_Rf z res E σ pc L (.int y :: .int x :: st) := fun hE H locs ls hP hS hl => lv_iadd X.1 X.2.1 d (k hE H locs ls hP hS hl)
theorem r_isub {x y : Int32} (X : tw_X z cc own nL) (d : decode cc pc = .ok (.isub, 1)) (k : tw_Rf z res E σ (pc + 1) L (.int (x - y) :: st)) : tw_Rf z res E σ pc L (.int y :: .int x :: st) := fun hE H locs ls hP hS hl => lv_isub X.1 X.2.1 d (k hE H locs ls hP hS hl)
theorem r_imul {x y : Int32} (X : tw_X z cc own nL) (d : decode cc pc = .ok (.imul, 1)) (k : tw_Rf z res E σ (pc + 1) L (.int (x * y) :: st)) : tw_Rf z res E σ pc L (.int y :: .int x :: st) := fun hE H locs ls hP hS hl => lv_imul X.1 X.2.1 d (k hE H locs ls hP hS hl)
theorem r_iand {x y : Int32} (X : tw_X z cc own nL) (d : decode cc pc = .ok (.iand, 1)) (k : tw_Rf z res E σ (pc + 1) L (.int (x &&& y) :: st)) : tw_Rf z res E σ pc L (.int y :: .int x :: st) := fun hE H locs ls hP hS hl => lv_iand X.1 X.2.1 d (k hE H locs ls hP hS hl)
theorem r_ior {x y : Int32} (X : tw_X z cc own nL) (d : decode cc pc = .ok (.ior, 1)) (k : tw_Rf z res E σ (pc + 1) L (.int (x ||| y) :: st)) : tw_Rf z res E σ pc L (.int y :: .int x :: st) := fun hE H locs ls hP hS hl => lv_ior X.1 X.2.1 d (k hE H locs ls hP hS hl)
theorem r_ixor {x y : Int32} (X : tw_X z cc own nL) (d : decode cc pc = .ok (.ixor, 1)) (k : tw_Rf z res E σ (pc + 1) L (.int (x ^^^ y) :: st)) : tw_Rf z res E σ pc L (.int y :: .int x :: st) := fun hE H locs ls hP hS hl => lv_ixor X.1 X.2.1 d (k hE H locs ls hP hS hl)
theorem r_ishl {x y : Int32} (X : tw_X z cc own nL) (d : decode cc pc = .ok (.ishl, 1)) (k : tw_Rf z res E σ (pc + 1) L (.int (x <<< (y &&& 31)) :: st)) : tw_Rf z res E σ pc L (.int y :: .int x :: st) := fun hE H locs ls hP hS hl => lv_ishl X.1 X.2.1 d (k hE H locs ls hP hS hl)
theorem r_ishr {x y : Int32} (X : tw_X z cc own nL) (d : decode cc pc = .ok (.ishr, 1)) (k : tw_Rf z res E σ (pc + 1) L (.int (x >>> (y &&& 31)) :: st)) : tw_Rf z res E σ pc L (.int y :: .int x :: st) := fun hE H locs ls hP hS hl => lv_ishr X.1 X.2.1 d (k hE H locs ls hP hS hl)
theorem r_iushr {x y : Int32} (X : tw_X z cc own nL) (d : decode cc pc = .ok (.iushr, 1)) (k : tw_Rf z res E σ (pc + 1) L (.int ((x.toUInt32 >>> (y.toUInt32 &&& Int32.toUInt32 31)).toInt32) :: st)) : tw_Rf z res E σ pc L (.int y :: .int x :: st) := fun hE H locs ls hP hS hl => lv_iushr X.1 X.2.1 d rfl (k hE H locs ls hP hS hl)
theorem r_ladd {x y : Int64} (X : tw_X z cc own nL) (d : decode cc pc = .ok (.ladd, 1)) (k : tw_Rf z res E σ (pc + 1) L (.long (x + y) :: st)) : tw_Rf z res E σ pc L (.long y :: .long x :: st) := fun hE H locs ls hP hS hl => lv_ladd X.1 X.2.1 d (k hE H locs ls hP hS hl)
theorem r_lmul {x y : Int64} (X : tw_X z cc own nL) (d : decode cc pc = .ok (.lmul, 1)) (k : tw_Rf z res E σ (pc + 1) L (.long (x * y) :: st)) : tw_Rf z res E σ pc L (.long y :: .long x :: st) := fun hE H locs ls hP hS hl => lv_lmul X.1 X.2.1 d (k hE H locs ls hP hS hl)
theorem r_ineg {x : Int32} (X : tw_X z cc own nL) (d : decode cc pc = .ok (.ineg, 1)) (k : tw_Rf z res E σ (pc + 1) L (.int (-x) :: st)) : tw_Rf z res E σ pc L (.int x :: st) := fun hE H locs ls hP hS hl => lv_ineg X.1 X.2.1 d (k hE H locs ls hP hS hl)
theorem r_i2l {x : Int32} (X : tw_X z cc own nL) (d : decode cc pc = .ok (.i2l, 1)) (k : tw_Rf z res E σ (pc + 1) L (.long x.toInt64 :: st)) : tw_Rf z res E σ pc L (.int x :: st) := fun hE H locs ls hP hS hl => lv_i2l X.1 X.2.1 d rfl (k hE H locs ls hP hS hl)
theorem r_idiv {x y : Int32} (X : tw_X z cc own nL) (d : decode cc pc = .ok (.idiv, 1)) (k : tw_Rf z res E σ (pc + 1) L (.int (x / y) :: st)) : tw_Rf z res (tw_ck (!decide (y = 0)) E) σ pc L (.int y :: .int x :: st) := r_ck (fun hc => fun hE H locs ls hP hS hl => lv_idiv X.1 X.2.1 d (by simpa using hc) (k hE H locs ls hP hS hl))
theorem r_irem {x y : Int32} (X : tw_X z cc own nL) (d : decode cc pc = .ok (.irem, 1)) (k : tw_Rf z res E σ (pc + 1) L (.int (x - x / y * y) :: st)) : tw_Rf z res (tw_ck (!decide (y = 0)) E) σ pc L (.int y :: .int x :: st) := r_ck (fun hc => fun hE H locs ls hP hS hl => lv_irem X.1 X.2.1 d (by simpa using hc) (k hE H locs ls hP hS hl))
theorem r_lcmp {x y : Int64} (X : tw_X z cc own nL) (d : decode cc pc = .ok (.lcmp, 1)) (k : tw_Rf z res E σ (pc + 1) L (.int (lg_cmp x y) :: st)) : tw_Rf z res E σ pc L (.long y :: .long x :: st) := fun hE H locs ls hP hS hl => W.lcmp X.1 X.2.1 d (k hE H locs ls hP hS hl)
theorem r_dup {v : Value} (X : tw_X z cc own nL) (d : decode cc pc = .ok (.dup, 1)) (hv : v.category = 1) (k : tw_Rf z res E σ (pc + 1) L (v :: v :: st)) : tw_Rf z res E σ pc L (v :: st) := fun hE H locs ls hP hS hl => lv_dup X.1 X.2.1 d hv (k hE H locs ls hP hS hl)
theorem r_dup2 {v u : Value} (X : tw_X z cc own nL) (d : decode cc pc = .ok (.dup2, 1)) (hv : v.category = 1) (hu : u.category = 1) (k : tw_Rf z res E σ (pc + 1) L (v :: u :: v :: u :: st)) : tw_Rf z res E σ pc L (v :: u :: st) := fun hE H locs ls hP hS hl => lv_dup2_11 X.1 X.2.1 d hv hu (k hE H locs ls hP hS hl)
theorem r_pop {v : Value} (X : tw_X z cc own nL) (d : decode cc pc = .ok (.pop, 1)) (hv : v.category = 1) (k : tw_Rf z res E σ (pc + 1) L (st)) : tw_Rf z res E σ pc L (v :: st) := fun hE H locs ls hP hS hl => lv_pop X.1 X.2.1 d hv (k hE H locs ls hP hS hl)
theorem r_if_eq {x : Int32} {off : Int} {tgt : Nat} {A F : Option ρ} (X : tw_X z cc own nL) (d : decode cc pc = .ok (.ifCond .eq off, 3)) (ht : (pc : Int) + off = (tgt : Int)) (kt : tw_Rf z res A σ tgt L st) (kf : tw_Rf z res F σ (pc + 3) L st) : tw_Rf z res (if x = 0 then A else F) σ pc L (.int x :: st) := fun hE H locs ls hP hS hl => lv_if_eq X.1 X.2.1 d ht (fun q => kt (by rw [if_pos q] at hE; exact hE) H locs ls hP hS hl) (fun q => kf (by rw [if_neg q] at hE; exact hE) H locs ls hP hS hl)
theorem r_if_ne {x : Int32} {off : Int} {tgt : Nat} {A F : Option ρ} (X : tw_X z cc own nL) (d : decode cc pc = .ok (.ifCond .ne off, 3)) (ht : (pc : Int) + off = (tgt : Int)) (kt : tw_Rf z res A σ tgt L st) (kf : tw_Rf z res F σ (pc + 3) L st) : tw_Rf z res (if ¬ x = 0 then A else F) σ pc L (.int x :: st) := fun hE H locs ls hP hS hl => lv_if_ne X.1 X.2.1 d ht (fun q => kt (by rw [if_pos q] at hE; exact hE) H locs ls hP hS hl) (fun q => kf (by rw [if_neg (fun h => h q)] at hE; exact hE) H locs ls hP hS hl)
theorem r_if_lt {x : Int32} {off : Int} {tgt : Nat} {A F : Option ρ} (X : tw_X z cc own nL) (d : decode cc pc = .ok (.ifCond .lt off, 3)) (ht : (pc : Int) + off = (tgt : Int)) (kt : tw_Rf z res A σ tgt L st) (kf : tw_Rf z res F σ (pc + 3) L st) : tw_Rf z res (if x < 0 then A else F) σ pc L (.int x :: st) := fun hE H locs ls hP hS hl => lv_if_lt X.1 X.2.1 d ht (fun q => kt (by rw [if_pos q] at hE; exact hE) H locs ls hP hS hl) (fun q => kf (by rw [if_neg q] at hE; exact hE) H locs ls hP hS hl)
theorem r_if_ge {x : Int32} {off : Int} {tgt : Nat} {A F : Option ρ} (X : tw_X z cc own nL) (d : decode cc pc = .ok (.ifCond .ge off, 3)) (ht : (pc : Int) + off = (tgt : Int)) (kt : tw_Rf z res A σ tgt L st) (kf : tw_Rf z res F σ (pc + 3) L st) : tw_Rf z res (if 0 ≤ x then A else F) σ pc L (.int x :: st) := fun hE H locs ls hP hS hl => lv_if_ge X.1 X.2.1 d ht (fun q => kt (by rw [if_pos q] at hE; exact hE) H locs ls hP hS hl) (fun q => kf (by rw [if_neg q] at hE; exact hE) H locs ls hP hS hl)
theorem r_if_gt {x : Int32} {off : Int} {tgt : Nat} {A F : Option ρ} (X : tw_X z cc own nL) (d : decode cc pc = .ok (.ifCond .gt off, 3)) (ht : (pc : Int) + off = (tgt : Int)) (kt : tw_Rf z res A σ tgt L st) (kf : tw_Rf z res F σ (pc + 3) L st) : tw_Rf z res (if 0 < x then A else F) σ pc L (.int x :: st) := fun hE H locs ls hP hS hl => lv_if_gt X.1 X.2.1 d ht (fun q => kt (by rw [if_pos q] at hE; exact hE) H locs ls hP hS hl) (fun q => kf (by rw [if_neg q] at hE; exact hE) H locs ls hP hS hl)
theorem r_if_le {x : Int32} {off : Int} {tgt : Nat} {A F : Option ρ} (X : tw_X z cc own nL) (d : decode cc pc = .ok (.ifCond .le off, 3)) (ht : (pc : Int) + off = (tgt : Int)) (kt : tw_Rf z res A σ tgt L st) (kf : tw_Rf z res F σ (pc + 3) L st) : tw_Rf z res (if x ≤ 0 then A else F) σ pc L (.int x :: st) := fun hE H locs ls hP hS hl => lv_if_le X.1 X.2.1 d ht (fun q => kt (by rw [if_pos q] at hE; exact hE) H locs ls hP hS hl) (fun q => kf (by rw [if_neg q] at hE; exact hE) H locs ls hP hS hl)
theorem r_icmp_eq {x y : Int32} {off : Int} {tgt : Nat} {A F : Option ρ} (X : tw_X z cc own nL) (d : decode cc pc = .ok (.if_icmp .eq off, 3)) (ht : (pc : Int) + off = (tgt : Int)) (kt : tw_Rf z res A σ tgt L st) (kf : tw_Rf z res F σ (pc + 3) L st) : tw_Rf z res (if x = y then A else F) σ pc L (.int y :: .int x :: st) := fun hE H locs ls hP hS hl => lv_icmp_eq X.1 X.2.1 d ht (fun q => kt (by rw [if_pos q] at hE; exact hE) H locs ls hP hS hl) (fun q => kf (by rw [if_neg q] at hE; exact hE) H locs ls hP hS hl)
theorem r_icmp_ne {x y : Int32} {off : Int} {tgt : Nat} {A F : Option ρ} (X : tw_X z cc own nL) (d : decode cc pc = .ok (.if_icmp .ne off, 3)) (ht : (pc : Int) + off = (tgt : Int)) (kt : tw_Rf z res A σ tgt L st) (kf : tw_Rf z res F σ (pc + 3) L st) : tw_Rf z res (if ¬ x = y then A else F) σ pc L (.int y :: .int x :: st) := fun hE H locs ls hP hS hl => lv_icmp_ne X.1 X.2.1 d ht (fun q => kt (by rw [if_pos q] at hE; exact hE) H locs ls hP hS hl) (fun q => kf (by rw [if_neg (fun h => h q)] at hE; exact hE) H locs ls hP hS hl)
theorem r_icmp_lt {x y : Int32} {off : Int} {tgt : Nat} {A F : Option ρ} (X : tw_X z cc own nL) (d : decode cc pc = .ok (.if_icmp .lt off, 3)) (ht : (pc : Int) + off = (tgt : Int)) (kt : tw_Rf z res A σ tgt L st) (kf : tw_Rf z res F σ (pc + 3) L st) : tw_Rf z res (if x < y then A else F) σ pc L (.int y :: .int x :: st) := fun hE H locs ls hP hS hl => lv_icmp_lt X.1 X.2.1 d ht (fun q => kt (by rw [if_pos q] at hE; exact hE) H locs ls hP hS hl) (fun q => kf (by rw [if_neg q] at hE; exact hE) H locs ls hP hS hl)
theorem r_icmp_ge {x y : Int32} {off : Int} {tgt : Nat} {A F : Option ρ} (X : tw_X z cc own nL) (d : decode cc pc = .ok (.if_icmp .ge off, 3)) (ht : (pc : Int) + off = (tgt : Int)) (kt : tw_Rf z res A σ tgt L st) (kf : tw_Rf z res F σ (pc + 3) L st) : tw_Rf z res (if y ≤ x then A else F) σ pc L (.int y :: .int x :: st) := fun hE H locs ls hP hS hl => lv_icmp_ge X.1 X.2.1 d ht (fun q => kt (by rw [if_pos q] at hE; exact hE) H locs ls hP hS hl) (fun q => kf (by rw [if_neg q] at hE; exact hE) H locs ls hP hS hl)
theorem r_icmp_gt {x y : Int32} {off : Int} {tgt : Nat} {A F : Option ρ} (X : tw_X z cc own nL) (d : decode cc pc = .ok (.if_icmp .gt off, 3)) (ht : (pc : Int) + off = (tgt : Int)) (kt : tw_Rf z res A σ tgt L st) (kf : tw_Rf z res F σ (pc + 3) L st) : tw_Rf z res (if y < x then A else F) σ pc L (.int y :: .int x :: st) := fun hE H locs ls hP hS hl => lv_icmp_gt X.1 X.2.1 d ht (fun q => kt (by rw [if_pos q] at hE; exact hE) H locs ls hP hS hl) (fun q => kf (by rw [if_neg q] at hE; exact hE) H locs ls hP hS hl)
theorem r_icmp_le {x y : Int32} {off : Int} {tgt : Nat} {A F : Option ρ} (X : tw_X z cc own nL) (d : decode cc pc = .ok (.if_icmp .le off, 3)) (ht : (pc : Int) + off = (tgt : Int)) (kt : tw_Rf z res A σ tgt L st) (kf : tw_Rf z res F σ (pc + 3) L st) : tw_Rf z res (if x ≤ y then A else F) σ pc L (.int y :: .int x :: st) := fun hE H locs ls hP hS hl => lv_icmp_le X.1 X.2.1 d ht (fun q => kt (by rw [if_pos q] at hE; exact hE) H locs ls hP hS hl) (fun q => kf (by rw [if_neg q] at hE; exact hE) H locs ls hP hS hl)
theorem r_goto {off : Int} {tgt : Nat} (X : tw_X z cc own nL) (d : decode cc pc = .ok (.goto off, 3)) (ht : (pc : Int) + off = (tgt : Int)) (k : tw_Rf z res E σ tgt L st) : tw_Rf z res E σ pc L st := fun hE H locs ls hP hS hl => lv_goto X.1 X.2.1 d ht (k hE H locs ls hP hS hl)
theorem r_ifnull {off : Int} {tgt : Nat} {r : Option Nat} {A : Option ρ} {K : Nat → Option ρ} (X : tw_X z cc own nL) (d : decode cc pc = .ok (.ifnull off, 3)) (ht : (pc : Int) + off = (tgt : Int)) (kt : r = none → tw_Rf z res A σ tgt L st) (kf : ∀ x, r = some x → tw_Rf z res (K x) σ (pc + 3) L st) : tw_Rf z res (tw_mt r A K) σ pc L (va_rf (r.map (fun k => tw_zB z + k)) :: st) := by
  cases r with
  | none => exact fun hE H locs ls hP hS hl => lv_ifnullN X.1 X.2.1 d ht (kt rfl hE H locs ls hP hS hl)
  | some x => exact fun hE H locs ls hP hS hl => lv_ifnull X.1 X.2.1 d (kf x rfl hE H locs ls hP hS hl)
theorem r_ifnonnull {off : Int} {tgt : Nat} {r : Option Nat} {A : Option ρ} {K : Nat → Option ρ} (X : tw_X z cc own nL) (d : decode cc pc = .ok (.ifnonnull off, 3)) (ht : (pc : Int) + off = (tgt : Int)) (kt : r = none → tw_Rf z res A σ (pc + 3) L st) (kf : ∀ x, r = some x → tw_Rf z res (K x) σ tgt L st) : tw_Rf z res (tw_mt r A K) σ pc L (va_rf (r.map (fun k => tw_zB z + k)) :: st) := by
  cases r with
  | none => exact fun hE H locs ls hP hS hl => lv_ifnonnullN X.1 X.2.1 d (kt rfl hE H locs ls hP hS hl)
  | some x => exact fun hE H locs ls hP hS hl => lv_ifnonnull X.1 X.2.1 d ht (kf x rfl hE H locs ls hP hS hl)

theorem r_getf {ci k f ix N : Nat} {Cn : String} {T : u_T} {fs : List Value} {v : Value} (X : tw_X z cc own nL) (d : decode cc pc = .ok (.getfield ix, 3)) (i : Nat) (hi : lw_tbl[i]? = some (.fieldLink own ix (T f).1 (T f).2.1 (T f).2.2.1)) (hin : ∀ w ∈ u_ws Cn T N, w ∈ tw_AW) (hc : vwCl[ci]? = some (Cn, T, N)) (hf : f < N) (hk : k < 442) (hE0 : tw_E (tw_zB z) (tw_zC z) σ k = .inr (ci, fs)) (hv : fs[f]? = some v) (kk : tw_Rf z res E σ (pc + 3) L (v :: st)) : tw_Rf z res E σ pc L (.ref (tw_zB z + k) :: st) :=
  fun hE H locs ls hP hS hl => va_get X.1 X.2.1 X.all hin X.ow X.K hP k ((tw_ap_get hk).trans (congrArg (fun e => some (tw_zB z + k, e)) hE0)) hc f hf (X.ws i hi rfl) (fun _ h => h) hv d (kk hE H locs ls hP hS hl)
theorem r_getfN {ci k f ix N : Nat} {Cn host : String} {T : u_T} {fs : List Value} {v : Value} (X : tw_X z cc own nL) (d : decode cc pc = .ok (.getfield ix, 3)) (i : Nat) (hi : lw_tbl[i]? = some (.fieldLinkNest own ix (T f).1 (T f).2.1 (T f).2.2.1 host)) (hin : ∀ w ∈ u_ws Cn T N, w ∈ tw_AW) (hc : vwCl[ci]? = some (Cn, T, N)) (hf : f < N) (hk : k < 442) (hE0 : tw_E (tw_zB z) (tw_zC z) σ k = .inr (ci, fs)) (hv : fs[f]? = some v) (kk : tw_Rf z res E σ (pc + 3) L (v :: st)) : tw_Rf z res E σ pc L (.ref (tw_zB z + k) :: st) :=
  fun hE H locs ls hP hS hl => va_getN X.1 X.2.1 X.all hin X.ow X.K hP k ((tw_ap_get hk).trans (congrArg (fun e => some (tw_zB z + k, e)) hE0)) hc f hf (X.ws i hi rfl) (fun _ h => h) hv d (kk hE H locs ls hP hS hl)
theorem r_putf {ci k f ix N : Nat} {Cn : String} {T : u_T} {fs : List Value} {ty : FieldType} {x : Int32} {K : tw_Sg → Option ρ} (X : tw_X z cc own nL) (d : decode cc pc = .ok (.putfield ix, 3)) (i : Nat) (hi : lw_tbl[i]? = some (.fieldLink own ix (T f).1 (T f).2.1 (T f).2.2.1)) (hin : ∀ w ∈ u_ws Cn T N, w ∈ tw_AW) (ty0 : Nat → FieldType) (hty : ∀ k, k < N → parseFieldDescriptor (T k).2.2.1 = some (ty0 k)) (hnm : ∀ a, a < N → ∀ b, b < N → a ≠ b → (T a).2.1 ≠ (T b).2.1) (hc : vwCl[ci]? = some (Cn, T, N)) (hf : f < N) (hfin : (T f).2.2.2 = false) (hd : parseFieldDescriptor (T f).2.2.1 = some ty) (hn : narrow ty (.int x) = .int x) (hfit : fits ty (.int x) = true) (hk : k < 442) (hE0 : tw_E (tw_zB z) (tw_zC z) σ k = .inr (ci, fs)) (hfl : f < fs.length) (hE1 : tw_E (tw_zB z) (tw_zC z) (tw_up σ k f x) k = .inr (ci, fs.set f (.int x))) (kk : ∀ σ1, tw_Rf z res (K σ1) σ1 (pc + 3) L st) : tw_Rf z res (tw_lt (tw_up σ k f x) K) σ pc L (.int x :: .ref (tw_zB z + k) :: st) :=
  fun hE H locs ls hP hS hl => va_put X.1 X.2.1 X.all hin ty0 hty hnm X.ow X.K hP (tw_ap_D (Nat.le_of_ble_eq_true rfl) X.wok) hS k ((tw_ap_get hk).trans (congrArg (fun e => some (tw_zB z + k, e)) hE0)) hc f hf (X.ws i hi rfl) (fun _ h => h) hfin hd hn hfit hfl d (fun H1 locs1 hP1 _ hS1 => kk _ hE H1 locs1 ls (by rw [tw_ap_set hk, tw_E_up hE1] at hP1; exact hP1) hS1 hl)
theorem r_putfN {ci k f ix N : Nat} {Cn host : String} {T : u_T} {fs : List Value} {ty : FieldType} {x : Int32} {K : tw_Sg → Option ρ} (X : tw_X z cc own nL) (d : decode cc pc = .ok (.putfield ix, 3)) (i : Nat) (hi : lw_tbl[i]? = some (.fieldLinkNest own ix (T f).1 (T f).2.1 (T f).2.2.1 host)) (hin : ∀ w ∈ u_ws Cn T N, w ∈ tw_AW) (ty0 : Nat → FieldType) (hty : ∀ k, k < N → parseFieldDescriptor (T k).2.2.1 = some (ty0 k)) (hnm : ∀ a, a < N → ∀ b, b < N → a ≠ b → (T a).2.1 ≠ (T b).2.1) (hc : vwCl[ci]? = some (Cn, T, N)) (hf : f < N) (hfin : (T f).2.2.2 = false) (hd : parseFieldDescriptor (T f).2.2.1 = some ty) (hn : narrow ty (.int x) = .int x) (hfit : fits ty (.int x) = true) (hk : k < 442) (hE0 : tw_E (tw_zB z) (tw_zC z) σ k = .inr (ci, fs)) (hfl : f < fs.length) (hE1 : tw_E (tw_zB z) (tw_zC z) (tw_up σ k f x) k = .inr (ci, fs.set f (.int x))) (kk : ∀ σ1, tw_Rf z res (K σ1) σ1 (pc + 3) L st) : tw_Rf z res (tw_lt (tw_up σ k f x) K) σ pc L (.int x :: .ref (tw_zB z + k) :: st) :=
  fun hE H locs ls hP hS hl => va_putN X.1 X.2.1 X.all hin ty0 hty hnm X.ow X.K hP (tw_ap_D (Nat.le_of_ble_eq_true rfl) X.wok) hS k ((tw_ap_get hk).trans (congrArg (fun e => some (tw_zB z + k, e)) hE0)) hc f hf (X.ws i hi rfl) (fun _ h => h) hfin hd hn hfit hfl d (fun H1 locs1 hP1 _ hS1 => kk _ hE H1 locs1 ls (by rw [tw_ap_set hk, tw_E_up hE1] at hP1; exact hP1) hS1 hl)


theorem tw_at {k : Nat} {e : va_E} (hk : k < 442) (h : tw_E (tw_zB z) (tw_zC z) σ k = e) : (tw_wl (tw_zB z) (tw_E (tw_zB z) (tw_zC z) σ) 442 ++ (tw_zD z).2)[k]? = some (tw_zB z + k, e) := (tw_ap_get hk).trans (congrArg (fun e => some (tw_zB z + k, e)) h)
theorem r_alenI {k : Nat} {v : Int32} (X : tw_X z cc own nL) (d : decode cc pc = .ok (.arraylength, 1)) (hk : tw_kd k = 13) (hv : Int32.ofNat (tw_ln k) = v) (kk : tw_Rf z res E σ (pc + 1) L (.int v :: st)) : tw_Rf z res E σ pc L (.ref (tw_zB z + k) :: st) :=
  fun hE H locs ls hP hS hl => va_alen X.1 X.2.1 X.K hP k 0 (tw_at (tw_kd_lt hk (by decide)) (tw_E13 hk)) rfl hv d (kk hE H locs ls hP hS hl)
theorem r_alenR {k j a : Nat} {v : Int32} {ty : FieldType} {g : Nat → Option Nat} (X : tw_X z cc own nL) (d : decode cc pc = .ok (.arraylength, 1)) (hk : k < 442) (hE0 : tw_E (tw_zB z) (tw_zC z) σ k = .inl (tw_zC z a, tw_ln k, .inr (.inr (.inr (.inr g))))) (ht : (tw_tys (tw_zC z))[a]? = some (tw_zC z a, ty)) (hv : Int32.ofNat (tw_ln k) = v) (kk : tw_Rf z res E σ (pc + 1) L (.int v :: st)) : tw_Rf z res E σ pc L (.ref (tw_zB z + k) :: st) :=
  fun hE H locs ls hP hS hl => va_alen X.1 X.2.1 X.K hP k a (tw_at hk hE0) ht hv d (kk hE H locs ls hP hS hl)
theorem r_iald {k : Nat} {i : Int32} (X : tw_X z cc own nL) (d : decode cc pc = .ok (.iaload, 1)) (hk : tw_kd k = 13) (kk : tw_Rf z res E σ (pc + 1) L (.int (σ k i.toNatClampNeg) :: st)) : tw_Rf z res (tw_ck (tw_ok i (tw_ln k)) E) σ pc L (.int i :: .ref (tw_zB z + k) :: st) :=
  r_ck (fun hc => fun hE H locs ls hP hS hl => va_iald X.1 X.2.1 X.K hP k 0 (tw_at (tw_kd_lt hk (by decide)) (tw_E13 hk)) rfl (tw_ok_in hc) d (kk hE H locs ls hP hS hl))
theorem r_zald {k : Nat} {i : Int32} (X : tw_X z cc own nL) (d : decode cc pc = .ok (.baload, 1)) (hk : tw_kd k = 14) (kk : tw_Rf z res E σ (pc + 1) L (.int (σ k i.toNatClampNeg) :: st)) : tw_Rf z res (tw_ck (tw_ok i (tw_ln k)) E) σ pc L (.int i :: .ref (tw_zB z + k) :: st) :=
  r_ck (fun hc => fun hE H locs ls hP hS hl => va_zald X.1 X.2.1 X.K hP k 1 (tw_at (tw_kd_lt hk (by decide)) (tw_E14 hk)) rfl (tw_ok_in hc) d (kk hE H locs ls hP hS hl))
theorem r_iast {k : Nat} {i x : Int32} {K : tw_Sg → Option ρ} (X : tw_X z cc own nL) (d : decode cc pc = .ok (.iastore, 1)) (hk : tw_kd k = 13) (kk : ∀ σ1, tw_Rf z res (K σ1) σ1 (pc + 1) L st) : tw_Rf z res (tw_ck (tw_ok i (tw_ln k)) (tw_lt (tw_up σ k i.toNatClampNeg x) K)) σ pc L (.int x :: .int i :: .ref (tw_zB z + k) :: st) :=
  r_ck (fun hc => fun hE H locs ls hP hS hl => va_iast X.1 X.2.1 X.K hP (tw_ap_D (Nat.le_of_ble_eq_true rfl) X.wok) hS k 0 (tw_at (tw_kd_lt hk (by decide)) (tw_E13 hk)) rfl (tw_ok_in hc) d (fun H1 locs1 hP1 _ hS1 => kk _ hE H1 locs1 ls (by rw [tw_ap_set (tw_kd_lt hk (by decide)), tw_E_up (σ := σ) (i := i.toNatClampNeg) (x := x) ((tw_E13 hk).trans (by rw [tw_up_s]))] at hP1; exact hP1) hS1 hl))
theorem r_zast {k : Nat} {i x : Int32} {K : tw_Sg → Option ρ} (X : tw_X z cc own nL) (d : decode cc pc = .ok (.bastore, 1)) (hk : tw_kd k = 14) (kk : ∀ σ1, tw_Rf z res (K σ1) σ1 (pc + 1) L st) : tw_Rf z res (tw_ck (tw_ok i (tw_ln k)) (tw_lt (tw_up σ k i.toNatClampNeg (vp_nar .boolean x)) K)) σ pc L (.int x :: .int i :: .ref (tw_zB z + k) :: st) :=
  r_ck (fun hc => fun hE H locs ls hP hS hl => va_zast X.1 X.2.1 X.K hP (tw_ap_D (Nat.le_of_ble_eq_true rfl) X.wok) hS k 1 (tw_at (tw_kd_lt hk (by decide)) (tw_E14 hk)) rfl (tw_ok_in hc) d (fun H1 locs1 hP1 _ hS1 => kk _ hE H1 locs1 ls (by rw [tw_ap_set (tw_kd_lt hk (by decide)), tw_E_up (σ := σ) (i := i.toNatClampNeg) (x := vp_nar .boolean x) ((tw_E14 hk).trans (by rw [tw_up_s]))] at hP1; exact hP1) hS1 hl))

theorem r_aald {k a : Nat} {i : Int32} {ty : FieldType} {g : Nat → Option Nat} {r : Nat} (X : tw_X z cc own nL) (d : decode cc pc = .ok (.aaload, 1)) (hk : k < 442) (hE0 : tw_E (tw_zB z) (tw_zC z) σ k = .inl (tw_zC z a, tw_ln k, .inr (.inr (.inr (.inr g))))) (ht : (tw_tys (tw_zC z))[a]? = some (tw_zC z a, ty)) (hty : ty.isReference = true) (hg : g i.toNatClampNeg = some (tw_zB z + r)) (kk : tw_ok i (tw_ln k) = true → tw_Rf z res E σ (pc + 1) L (.ref (tw_zB z + r) :: st)) : tw_Rf z res (tw_ck (tw_ok i (tw_ln k)) E) σ pc L (.int i :: .ref (tw_zB z + k) :: st) :=
  r_ck (fun hc => fun hE H locs ls hP hS hl => by
    have hin := tw_ok_in hc
    have hlt : i.toNatClampNeg < tw_ln k := Nat.not_le.mp fun q => hin (Or.inr q)
    exact W.aald (v := .ref (tw_zB z + r)) (ty := ty) X.1 X.2.1 (hP k _ (tw_at hk hE0)) ((X.K.2 a _ ht).1 (tw_ln k) (fun j => va_rf (g j))) hty (fun q => by cases q) (by show ¬ (i < 0 ∨ (arrV _ _ _).slots.size ≤ _); rw [arrV_size]; exact hin) (by show (arrV _ _ _).slots[_]? = _; rw [arrV_read _ _ hlt, hg]; rfl) rfl rfl d (kk hc hE H locs ls hP hS hl))
/-- the eight offsets -/
theorem r_goff {ix : Nat} (X : tw_X z cc own nL) (d : decode cc pc = .ok (.getstatic ix, 3)) (i : Nat) (hi : lw_tbl[i]? = some (.fieldLink own ix "TreasureWalk" "OFFSETS" "[I")) (kk : tw_Rf z res E σ (pc + 3) L (.ref (tw_zS z 90) :: st)) : tw_Rf z res E σ pc L st :=
  fun hE H locs ls hP hS hl => va_gets X.1 X.2.1 X.2.2.2.2.2.1.2.2.1.1 hS X.ow (X.ws i hi rfl) (fun _ h => h) d (kk hE H locs ls hP hS hl)
theorem r_loff (X : tw_X z cc own nL) (d : decode cc pc = .ok (.arraylength, 1)) (kk : tw_Rf z res E σ (pc + 1) L (.int 8 :: st)) : tw_Rf z res E σ pc L (.ref (tw_zS z 90) :: st) :=
  fun hE H locs ls hP hS hl => va_tlen X.1 X.2.1 X.2.2.2.2.2.1.2.2.1.2 hS rfl d (kk hE H locs ls hP hS hl)
theorem r_aoff {i : Int32} (X : tw_X z cc own nL) (d : decode cc pc = .ok (.iaload, 1)) (kk : tw_Rf z res E σ (pc + 1) L (.int (tw_off i.toNatClampNeg) :: st)) : tw_Rf z res (tw_ck (tw_ok i 8) E) σ pc L (.int i :: .ref (tw_zS z 90) :: st) :=
  r_ck (fun hc => fun hE H locs ls hP hS hl => va_ti X.1 X.2.1 X.2.2.2.2.2.1.2.2.1.2 hS (tw_ok_in hc) rfl d (kk hE H locs ls hP hS hl))
theorem tw_hml (X : tw_X z cc own nL) {ls : Array Slot} (hl : lv_has ls (tw_znL z) L) : (tw_zc z).maxLocals = ls.size := by rw [hl.1, X.2.2.2.2.2.2, X.2.2.1]
theorem r_mmin {ix : Nat} {x y : Int32} (X : tw_X z cc own nL) (d : decode cc pc = .ok (.invokestatic ix, 3)) (i : Nat) (hi : lw_tbl[i]? = some (.methodLink own ix Lib.Math.min.name)) (hs : (Cond.static Lib.Math.min.name) ∈ lw_tbl) (hini : (Cond.initialized "java/lang/Math") ∈ lw_tbl) (hco : (Cond.code Lib.Math.min.name Lib.Math.min.code 2 (some .int)) ∈ lw_tbl) (hf : 1 ≤ (tw_zR z).frames) (hlo : (st.map fun v => v.category).sum + 13 ≤ (tw_zR z).locals) (hc : tw_zcells z ≤ (tw_zR z).cells ∧ tw_zslots z ≤ (tw_zR z).slots) (kk : tw_Rf z res E σ (pc + 3) L (.int (if y < x then y else x) :: st)) : tw_Rf z res E σ pc L (.int y :: .int x :: st) :=
  fun hE H locs ls hP hS hl => va_mmin X.1 X.2.1 (tw_hml X hl) X.ow (X.ws i hi rfl) ((X.2.2.2.2.2.1.1 _ hs rfl).use rfl) ((X.2.2.2.2.2.1.1 _ hini rfl).use rfl) ((X.2.2.2.2.2.1.1 _ hco rfl).use rfl) hf hlo hc.1 hc.2 d (kk hE H locs ls hP hS hl)
theorem r_mmax {ix : Nat} {x y : Int32} (X : tw_X z cc own nL) (d : decode cc pc = .ok (.invokestatic ix, 3)) (i : Nat) (hi : lw_tbl[i]? = some (.methodLink own ix Lib.Math.max.name)) (hs : (Cond.static Lib.Math.max.name) ∈ lw_tbl) (hini : (Cond.initialized "java/lang/Math") ∈ lw_tbl) (hco : (Cond.code Lib.Math.max.name Lib.Math.max.code 2 (some .int)) ∈ lw_tbl) (hf : 1 ≤ (tw_zR z).frames) (hlo : (st.map fun v => v.category).sum + 13 ≤ (tw_zR z).locals) (hc : tw_zcells z ≤ (tw_zR z).cells ∧ tw_zslots z ≤ (tw_zR z).slots) (kk : tw_Rf z res E σ (pc + 3) L (.int (if x < y then y else x) :: st)) : tw_Rf z res E σ pc L (.int y :: .int x :: st) :=
  fun hE H locs ls hP hS hl => va_mmax X.1 X.2.1 (tw_hml X hl) X.ow (X.ws i hi rfl) ((X.2.2.2.2.2.1.1 _ hs rfl).use rfl) ((X.2.2.2.2.2.1.1 _ hini rfl).use rfl) ((X.2.2.2.2.2.1.1 _ hco rfl).use rfl) hf hlo hc.1 hc.2 d (kk hE H locs ls hP hS hl)
/-- System.arraycopy from one row to another -/
def tw_cpo (sp dp n : Int32) (n0 n1 : Nat) : Bool := decide (¬ sp < 0) && decide (¬ dp < 0) && decide (¬ n < 0) && decide (sp.toNatClampNeg + n.toNatClampNeg ≤ n0) && decide (dp.toNatClampNeg + n.toNatClampNeg ≤ n1)
theorem r_acopy {ix k0 k1 : Nat} {sp dp n : Int32} {K : tw_Sg → Option ρ} (X : tw_X z cc own nL) (d : decode cc pc = .ok (.invokestatic ix, 3)) (i : Nat) (hi : lw_tbl[i]? = some (.methodLink own ix arraycopyName)) (hn : (Cond.native arraycopyName) ∈ lw_tbl) (hs : (Cond.static arraycopyName) ∈ lw_tbl) (hini : (Cond.initialized "java/lang/System") ∈ lw_tbl) (hk0 : tw_kd k0 = 13) (hk1 : tw_kd k1 = 13) (hf : 1 ≤ (tw_zR z).frames) (hlo : (st.map fun v => v.category).sum + (nativeFrameWords "java/lang/System" "arraycopy" 5 + 11) ≤ (tw_zR z).locals) (kk : ∀ σ1, tw_Rf z res (K σ1) σ1 (pc + 3) L st) : tw_Rf z res (tw_ck (tw_cpo sp dp n (tw_ln k0) (tw_ln k1)) (tw_lt (tw_upA σ k1 (va_cpy (σ k0) (σ k1) sp.toNatClampNeg dp.toNatClampNeg n.toNatClampNeg)) K)) σ pc L (.int n :: .int dp :: .ref (tw_zB z + k1) :: .int sp :: .ref (tw_zB z + k0) :: st) :=
  r_ck (fun hc => fun hE H locs ls hP hS hl => by
    simp only [tw_cpo, Bool.and_eq_true, decide_eq_true_eq] at hc
    obtain ⟨⟨⟨⟨h1, h2⟩, h3⟩, h4⟩, h5⟩ := hc
    exact va_copyi X.1 X.2.1 (tw_hml X hl) X.ow (X.ws i hi rfl) ((X.2.2.2.2.2.1.1 _ hn rfl).use rfl) ((X.2.2.2.2.2.1.1 _ hs rfl).use rfl) ((X.2.2.2.2.2.1.1 _ hini rfl).use rfl) X.K hP (tw_ap_D (Nat.le_of_ble_eq_true rfl) X.wok) hS k0 k1 0 0 (ty := .int) (tw_at (tw_kd_lt hk0 (by decide)) (tw_E13 hk0)) (tw_at (tw_kd_lt hk1 (by decide)) (tw_E13 hk1)) rfl rfl rfl h1 h2 h3 h4 h5 (fun _ _ => rfl) hf hlo d (fun H1 locs1 hP1 _ hS1 => kk _ hE H1 locs1 ls (by rw [tw_ap_set (tw_kd_lt hk1 (by decide)), tw_E_upA (σ := σ) ((tw_E13 hk1).trans (by rw [tw_upA_s]))] at hP1; exact hP1) hS1 hl))
end TWR
/-! CONTRACTS: with the arguments argv over the world σ the method y answers rv, and leaves the world σ'. -/
def tw_Qc (B : Nat) (D : tw_G) (C : Nat → ClassId) (rv : Option Value) (σ' : tw_Sg) : Array Value → State → Outcome → State → Prop := fun _ st oc t => (oc = .returned rv ∧ va_P D.1 vwCl (tw_wl B (tw_E B C σ') 442 ++ D.2) t.heap) ∧ va_F (fun q => B ≤ q) st t
def tw_Pre (B : Nat) (D : tw_G) (C : Nat → ClassId) (S : Nat → Nat) (argv : List Value) (σ : tw_Sg) : Array Value → State → Prop := va_Pc argv (fun U => va_P D.1 vwCl (tw_wl B (tw_E B C σ) 442 ++ D.2) U.heap ∧ tw_EV B D C S U)
theorem tw_blind {B : Nat} {D : tw_G} {C : Nat → ClassId} {S : Nat → Nat} {argv : List Value} {σ : tw_Sg} : FrameBlind (tw_Pre B D C S argv σ) := fun _ _ _ _ h => ⟨h.1, h.2.1, h.2.2.blind⟩
abbrev tw_Met (l : Launch) (B : Nat) (D : tw_G) (C : Nat → ClassId) (S : Nat → Nat) (y : MethodName) (cy : ByteArray) (mL : Nat) (ret : Option FieldType) (rm : Room) (argv : List Value) (σ : tw_Sg) (rv : Option Value) (σ' : tw_Sg) : Prop :=
  Met l y [.code y cy mL ret] rm (tw_Pre B D C S argv σ) (tw_Qc B D C rv σ') 0 0 (fun q => B ≤ q)
def tw_XC (B : Nat) (D : tw_G) (C : Nat → ClassId) (σ : tw_Sg) (x : String) : String → State → State → Prop := fun E st t => E = x ∧ va_P D.1 vwCl (tw_wl B (tw_E B C σ) 442 ++ D.2) t.heap ∧ va_F (fun q => B ≤ q) st t
abbrev tw_MetX (l : Launch) (B : Nat) (D : tw_G) (C : Nat → ClassId) (S : Nat → Nat) (y : MethodName) (cy : ByteArray) (mL : Nat) (ret : Option FieldType) (rm : Room) (argv : List Value) (σ : tw_Sg) (x : String) : Prop :=
  vx_Met l y [.code y cy mL ret] rm (tw_Pre B D C S argv σ) (fun _ _ _ _ => False) (tw_XC B D C σ x) 1 6 (fun q => B ≤ q)
/-- what the tables say of a method -/
def tw_My (y : MethodName) (cy : ByteArray) (mL : Nat) (ret : Option FieldType) (n : Nat) : Prop :=
  (Cond.code y cy mL ret) ∈ lw_tbl ∧ (Cond.initialized y.cls) ∈ lw_tbl ∧ (y.cls ≠ "java/lang/invoke/MethodHandle" ∧ y.cls ≠ "java/lang/invoke/VarHandle") ∧ (parseMethodDescriptor y.desc).map (fun d => d.parameters.length) = some n ∧ plainName y.cls = true
def tw_Mv (y : MethodName) (Cn : String) : Prop := (Cond.instanceMethod y) ∈ lw_tbl ∧ (Cond.selects Cn y y) ∈ lw_tbl ∧ y.cls = Cn
def tw_Ms (y : MethodName) : Prop := (Cond.static y) ∈ lw_tbl
def tw_Rm (R : Room) (rm : Room) (mL mc ms : Nat) : Prop := rm.cells = mc ∧ rm.slots = ms ∧ rm.frames + 1 ≤ R.frames ∧ 8 + (mL + 11) + rm.locals ≤ R.locals
section TWC
variable {ρ : Type} {z : tw_Z} {res : ρ} {cc : ByteArray} {own : String} {nL pc : Nat} {E : Option ρ} {σ σ' : tw_Sg} {L L' : List (Nat × Value)} {st st0 : List Value}
variable {ix ci k mL n N mc ms : Nat} {y : MethodName} {cy : ByteArray} {ret : Option FieldType} {rm : Room} {Cn host : String} {T : u_T} {fs : List Value} {As argv : List Value} {rv : Option Value}
theorem tw_wd (X : tw_X z cc own nL) {w : Cond} (h : w ∈ lw_tbl) (ho : tw_okw w = true) {A : Array Value} : w.before A (tw_zs z) = true := (X.2.2.2.2.2.1.1 _ h ho).use (tw_okw_on ho)
theorem tw_CB (X : tw_X z cc own nL) (hy : tw_My y cy mL ret n) (i : Nat) (hi : lw_tbl[i]? = some (.methodLink own ix y)) (hR : tw_Rm (tw_zR z) rm mL mc ms) : CallB (tw_zR z) (tw_zs z) (tw_zargs z) own ix y cy mL ret [.code y cy mL ret] rm mc ms n := by
  obtain ⟨h1, h2, h3, h4, -⟩ := hy
  obtain ⟨r1, r2, r3, r4⟩ := hR
  refine ⟨r1, r2, r3, r4, fun w hw a' U hW => ?_, List.mem_singleton.mpr rfl, tw_wd X h1 rfl, tw_wd X h2 rfl, h3, fun sig h => ?_, X.ws i hi rfl⟩
  · rw [List.mem_singleton.mp hw]
    exact ((X.2.2.2.2.2.1.1.warm hW) _ h1 rfl).use rfl
  · rw [h] at h4
    exact (Option.some.inj h4).symm
theorem tw_CN (X : tw_X z cc own nL) (hy : tw_My y cy mL ret n) (i : Nat) (hi : lw_tbl[i]? = some (.methodLinkNest own ix y host)) (hR : tw_Rm (tw_zR z) rm mL mc ms) : va_CN (tw_zR z) (tw_zs z) (tw_zargs z) own ix y host cy mL ret [.code y cy mL ret] rm mc ms n := by
  obtain ⟨h1, h2, h3, h4, -⟩ := hy
  obtain ⟨r1, r2, r3, r4⟩ := hR
  refine ⟨⟨r1, r2, r3, r4, fun w hw a' U hW => ?_, List.mem_singleton.mpr rfl⟩, tw_wd X h1 rfl, tw_wd X h2 rfl, h3, fun sig h => ?_, X.ws i hi rfl⟩
  · rw [List.mem_singleton.mp hw]
    exact ((X.2.2.2.2.2.1.1.warm hW) _ h1 rfl).use rfl
  · rw [h] at h4
    exact (Option.some.inj h4).symm
theorem tw_fix (X : tw_X z cc own nL) : CallFix (tw_zp z) (tw_zm z) (tw_zc z) cc nL (tw_zs z) (tw_zargs z) [] own := ⟨X.1, X.2.1, X.2.2.1, X.ow, fun _ h => nomatch h⟩
theorem tw_preS (X : tw_X z cc own nL) {H : Heap} {locs : List Loc} (hP : tw_PP z σ H) (hS : tw_SS z H locs) : PreS (tw_zs z) H (tw_Pre (tw_zB z) (tw_zD z) (tw_zC z) (tw_zS z) As σ) As := ⟨tw_blind, fun U hU hW => ⟨rfl, by rw [hU]; exact hP, X.2.2.2.2.2.1.call hS hU hW⟩⟩
theorem tw_preV (X : tw_X z cc own nL) {H : Heap} {locs : List Loc} (hP : tw_PP z σ H) (hS : tw_SS z H locs) (hc : vwCl[ci]? = some (Cn, T, N)) (hk : k < 442) (hE0 : tw_E (tw_zB z) (tw_zC z) σ k = .inr (ci, fs)) : PreV (tw_zs z) H Cn (tw_zB z + k) (tw_Pre (tw_zB z) (tw_zD z) (tw_zC z) (tw_zS z) (.ref (tw_zB z + k) :: As) σ) As := ⟨tw_blind, va_recv X.K hP hc (tw_at hk hE0), fun U hU hW => ⟨rfl, by rw [hU]; exact hP, X.2.2.2.2.2.1.call hS hU hW⟩⟩
/-- behind a call -/
theorem r_run {A : Array Value} (hr : ∀ (H : Heap) (locs : List Loc) (ls : Array Slot), tw_PP z σ H → tw_SS z H locs → lv_has ls (tw_znL z) L → va_Run (tw_zp z) (tw_zl z) (tw_ze z) (tw_zR z) (tw_zs z) (tw_zm z) (tw_zargs z) (tw_zbelow z) (tw_zmeth z) (tw_zc z) H locs (tw_zcells z) (tw_zslots z) 0 0 (F0 (tw_zm z) pc ls st0) st (tw_Qc (tw_zB z) (tw_zD z) (tw_zC z) rv σ' A) (fun q => tw_zB z ≤ q))
    (kk : tw_Rf z res E σ' (pc + 3) L (rv.toList ++ st)) : tw_Rf z res E σ pc L st0 := by
  intro hE H locs ls hP hS hl T hT X
  obtain ⟨v, st₀, t, T', Lc, h0, X', hL, e1, e2, ⟨⟨hv, hp⟩, hz, hk⟩, st1⟩ := hr H locs ls hP hS hl T hT X
  cases hv
  rw [h0] at hz hk
  obtain ⟨t2, a1, b1⟩ := kk hE T'.heap (locs ++ Lc) ls (by unfold tw_PP; rw [e1]; exact hp) ⟨Nat.le_trans hS.1 (by rw [e1]; exact hz), fun q h1 h2 => by rw [e1, hk q (Nat.lt_of_lt_of_le h1 hS.1) h2]; exact hS.2.1 q h1 h2, fun q hq => by
      rcases List.mem_append.mp hq with h | h
      · exact hS.2.2 q h
      · exact hL q h⟩ hl T' rfl X'
  exact ⟨t2, st1 t2 a1, b1⟩
theorem tw_rm0 {R rm : Room} (h : tw_Rm R rm mL 0 0) {a b : Nat} (hc : a ≤ R.cells ∧ b ≤ R.slots) : a + 0 ≤ R.cells ∧ b + 0 ≤ R.slots := hc
theorem r_callV (X : tw_X z cc own nL) (d : decode cc pc = .ok (.invokevirtual ix, 3)) (hM : tw_Met (tw_zl z) (tw_zB z) (tw_zD z) (tw_zC z) (tw_zS z) y cy mL ret rm (.ref (tw_zB z + k) :: As) σ rv σ') (hy : tw_My y cy mL ret n) (hv : tw_Mv y Cn) (i : Nat) (hi : lw_tbl[i]? = some (.methodLink own ix y)) (hc : vwCl[ci]? = some (Cn, T, N)) (hk : k < 442) (hE0 : tw_E (tw_zB z) (tw_zC z) σ k = .inr (ci, fs)) (hn : As.length = n) (hR : tw_Rm (tw_zR z) rm mL 0 0) (hcs : tw_zcells z ≤ (tw_zR z).cells ∧ tw_zslots z ≤ (tw_zR z).slots) (hst : (st.map fun v => v.category).sum ≤ 8) (hs0 : st0 = As.reverse ++ .ref (tw_zB z + k) :: st) (kk : tw_Rf z res E σ' (pc + 3) L (rv.toList ++ st)) : tw_Rf z res E σ pc L st0 := by
  subst hs0
  exact r_run (fun H locs ls hP hS hl => va_runV (As := As) (rest := st) (tw_fix X) hM ⟨tw_CB X hy i hi hR, tw_wd X hv.1 rfl, tw_wd X hv.2.1 rfl⟩ (tw_preV X hP hS hc hk hE0) rfl hn (hl.1.trans X.2.2.2.2.2.2) rfl (lv_room hst) d hcs) kk
theorem r_callVN (X : tw_X z cc own nL) (d : decode cc pc = .ok (.invokevirtual ix, 3)) (hM : tw_Met (tw_zl z) (tw_zB z) (tw_zD z) (tw_zC z) (tw_zS z) y cy mL ret rm (.ref (tw_zB z + k) :: As) σ rv σ') (hy : tw_My y cy mL ret n) (hv : tw_Mv y Cn) (i : Nat) (hi : lw_tbl[i]? = some (.methodLinkNest own ix y host)) (hc : vwCl[ci]? = some (Cn, T, N)) (hk : k < 442) (hE0 : tw_E (tw_zB z) (tw_zC z) σ k = .inr (ci, fs)) (hn : As.length = n) (hR : tw_Rm (tw_zR z) rm mL 0 0) (hcs : tw_zcells z ≤ (tw_zR z).cells ∧ tw_zslots z ≤ (tw_zR z).slots) (hst : (st.map fun v => v.category).sum ≤ 8) (hs0 : st0 = As.reverse ++ .ref (tw_zB z + k) :: st) (kk : tw_Rf z res E σ' (pc + 3) L (rv.toList ++ st)) : tw_Rf z res E σ pc L st0 := by
  subst hs0
  exact r_run (fun H locs ls hP hS hl => va_runVN (As := As) (rest := st) (tw_fix X) hM ⟨tw_CN X hy i hi hR, tw_wd X hv.1 rfl, tw_wd X hv.2.1 rfl⟩ (tw_preV X hP hS hc hk hE0) rfl hn (hl.1.trans X.2.2.2.2.2.2) rfl (lv_room hst) d hcs) kk
theorem r_callS (X : tw_X z cc own nL) (d : decode cc pc = .ok (.invokestatic ix, 3)) (hM : tw_Met (tw_zl z) (tw_zB z) (tw_zD z) (tw_zC z) (tw_zS z) y cy mL ret rm As σ rv σ') (hy : tw_My y cy mL ret n) (hv : tw_Ms y) (i : Nat) (hi : lw_tbl[i]? = some (.methodLink own ix y)) (hn : As.length = n) (hR : tw_Rm (tw_zR z) rm mL 0 0) (hcs : tw_zcells z ≤ (tw_zR z).cells ∧ tw_zslots z ≤ (tw_zR z).slots) (hst : (st.map fun v => v.category).sum ≤ 8) (hs0 : st0 = As.reverse ++ st) (kk : tw_Rf z res E σ' (pc + 3) L (rv.toList ++ st)) : tw_Rf z res E σ pc L st0 := by
  subst hs0
  exact r_run (fun H locs ls hP hS hl => va_runS (As := As) (rest := st) (tw_fix X) hM ⟨tw_CB X hy i hi hR, tw_wd X hv rfl⟩ (tw_preS X hP hS) rfl hn (hl.1.trans X.2.2.2.2.2.2) rfl (lv_room hst) d hcs) kk
theorem r_callSN (X : tw_X z cc own nL) (d : decode cc pc = .ok (.invokestatic ix, 3)) (hM : tw_Met (tw_zl z) (tw_zB z) (tw_zD z) (tw_zC z) (tw_zS z) y cy mL ret rm As σ rv σ') (hy : tw_My y cy mL ret n) (hv : tw_Ms y) (i : Nat) (hi : lw_tbl[i]? = some (.methodLinkNest own ix y host)) (hn : As.length = n) (hR : tw_Rm (tw_zR z) rm mL 0 0) (hcs : tw_zcells z ≤ (tw_zR z).cells ∧ tw_zslots z ≤ (tw_zR z).slots) (hst : (st.map fun v => v.category).sum ≤ 8) (hs0 : st0 = As.reverse ++ st) (kk : tw_Rf z res E σ' (pc + 3) L (rv.toList ++ st)) : tw_Rf z res E σ pc L st0 := by
  subst hs0
  exact r_run (fun H locs ls hP hS hl => va_runSN (As := As) (rest := st) (tw_fix X) hM ⟨tw_CN X hy i hi hR, tw_wd X hv rfl, trivial⟩ (tw_preS X hP hS) rfl hn (hl.1.trans X.2.2.2.2.2.2) rfl (lv_room hst) d hcs) kk
/-! the ends -/
def tw_Ro (z : tw_Z) (out : ρ → Option Value × tw_Sg) (res : ρ) : Prop := ∀ (H : Heap) (locs : List Loc) (g : JFrame), W (tw_zp z) (tw_zl z) (tw_ze z) (tw_zR z) (tw_zs z) (tw_zm z) (tw_zargs z) (tw_zbelow z) (tw_zmeth z) (tw_zc z) H locs (tw_zcells z) (tw_zslots z) (MQ (tw_zbelow z) (tw_Qc (tw_zB z) (tw_zD z) (tw_zC z) (out res).1 (out res).2) (tw_zargs z) (tw_zs z) (tw_zcells z) (tw_zslots z) (fun q => tw_zB z ≤ q)) g → tw_W z H locs g
variable {out : ρ → Option Value × tw_Sg} {r : ρ}
theorem r_iret {x : Int32} (X : tw_X z cc own nL) (d : decode cc pc = .ok (.ireturn, 1)) (hret : (tw_zmeth z).sig.returnType = some .int) (hQ : tw_Ro z out res) (ho : out r = (some (.int x), σ)) : tw_Rf z res (some r) σ pc L [.int x] := by
  intro hE H locs ls hP hS hl
  cases hE
  refine hQ H locs _ (W.iret X.1 X.2.1 hret (fun t ht hW => ?_) hS.2.2 d X.2.2.2.2.1)
  rw [ho]
  exact ⟨⟨rfl, by rw [ht]; exact hP⟩, hS.F ht⟩
theorem r_zret {x : Int32} (X : tw_X z cc own nL) (d : decode cc pc = .ok (.ireturn, 1)) (hret : (tw_zmeth z).sig.returnType = some .boolean) (hQ : tw_Ro z out res) (ho : out r = (some (.int x), σ)) : tw_Rf z res (tw_ck (tw_01 x) (some r)) σ pc L [.int x] := r_ck (fun hc => by
  intro hE H locs ls hP hS hl
  cases hE
  refine hQ H locs _ (W.zret X.1 X.2.1 hret (tw_01_b hc) (fun t ht hW => ?_) hS.2.2 d X.2.2.2.2.1)
  rw [ho]
  exact ⟨⟨rfl, by rw [ht]; exact hP⟩, hS.F ht⟩)
theorem r_vret (X : tw_X z cc own nL) (d : decode cc pc = .ok (.return_, 1)) (hret : (tw_zmeth z).sig.returnType = none) (hQ : tw_Ro z out res) (ho : out r = (none, σ)) : tw_Rf z res (some r) σ pc L [] := by
  intro hE H locs ls hP hS hl
  cases hE
  refine hQ H locs _ (W.vret X.1 X.2.1 hret (fun t ht hW => ?_) hS.2.2 d X.2.2.2.2.1)
  rw [ho]
  exact ⟨⟨rfl, by rw [ht]; exact hP⟩, hS.F ht⟩
theorem r_lret {x : Int64} (X : tw_X z cc own nL) (d : decode cc pc = .ok (.lreturn, 1)) (hret : (tw_zmeth z).sig.returnType = some .long) (hQ : tw_Ro z out res) (ho : out r = (some (.long x), σ)) : tw_Rf z res (some r) σ pc L [.long x] := by
  intro hE H locs ls hP hS hl
  cases hE
  refine hQ H locs _ (W.lret X.1 X.2.1 hret (fun t ht hW => ?_) hS.2.2 d X.2.2.2.2.1)
  rw [ho]
  exact ⟨⟨rfl, by rw [ht]; exact hP⟩, hS.F ht⟩
theorem r_aret {a : Nat} {Cr : String} (X : tw_X z cc own nL) (d : decode cc pc = .ok (.areturn, 1)) (hret : (tw_zmeth z).sig.returnType = some (.object Cr)) (hQ : tw_Ro z out res) (ho : out r = (some (.ref a), σ)) : tw_Rf z res (some r) σ pc L [.ref a] := by
  intro hE H locs ls hP hS hl
  cases hE
  refine hQ H locs _ (W.aret X.1 X.2.1 hret (Or.inl ⟨_, rfl⟩) (Or.inr ⟨_, rfl⟩) (fun t ht hW => ?_) hS.2.2 d X.2.2.2.2.1)
  rw [ho]
  exact ⟨⟨rfl, by rw [ht]; exact hP⟩, hS.F ht⟩
theorem r_aretN {Cr : String} (X : tw_X z cc own nL) (d : decode cc pc = .ok (.areturn, 1)) (hret : (tw_zmeth z).sig.returnType = some (.object Cr)) (hQ : tw_Ro z out res) (ho : out r = (some .null, σ)) : tw_Rf z res (some r) σ pc L [.null] := by
  intro hE H locs ls hP hS hl
  cases hE
  refine hQ H locs _ (W.aret X.1 X.2.1 hret (Or.inl ⟨_, rfl⟩) (Or.inl rfl) (fun t ht hW => ?_) hS.2.2 d X.2.2.2.2.1)
  rw [ho]
  exact ⟨⟨rfl, by rw [ht]; exact hP⟩, hS.F ht⟩
end TWC
/-- a contract out of a walk -/
theorem tw_metOf {ρ : Type} {l : Launch} {B : Nat} {D : tw_G} {C : Nat → ClassId} {S : Nat → Nat} {y : MethodName} {cy : ByteArray} {mL : Nat} {ret : Option FieldType} {rm : Room} {argv : List Value} {σ : tw_Sg} (E : Option ρ) (res : ρ) (hres : E = some res) (out : ρ → Option Value × tw_Sg) (hy : plainName y.cls = true) (hlen : (lg_sl argv).length ≤ mL) (hrm : rm.cells = 0 ∧ rm.slots = 0)
    (body : ∀ z : tw_Z, tw_zl z = l → tw_zB z = B → tw_zD z = D → tw_zC z = C → tw_zS z = S → tw_zR z = rm → tw_zcells z = 0 → tw_zslots z = 0 → tw_X z cy y.cls mL → (tw_zmeth z).sig.returnType = ret → tw_Ro z out res → tw_Rf z res E σ 0 (lv_args 0 argv) []) : tw_Met l B D C S y cy mL ret rm argv σ (out res).1 (out res).2 := by
  refine Met.ofW (cc := cy) (maxL := mL) (ret := ret) hy rfl ?_
  intro p e s m args below meth c s₁ Bd hml hv
  obtain ⟨rfl, hP, hEV⟩ := hv
  rw [lg_entry_eq]
  have hl := lv_entry argv (n := mL) hlen
  have hR : (headSpec [Cond.code y cy mL ret] rm).room = rm := rfl
  rw [hR]
  exact body (p, l, e, rm, s, m, argv.toArray, below, meth, c, B, D, C, S, mL, 0, 0, MQ below (tw_Qc B D C (out res).1 (out res).2) argv.toArray s 0 0 (fun q => B ≤ q)) rfl rfl rfl rfl rfl rfl rfl rfl ⟨Bd.exec, Bd.bytes, hml, findClass_of_methodNamed Bd.named, Bd.notSynchronized, hEV, rfl⟩ Bd.returns (fun H locs g h => h) hres s.heap [] _ hP va_S.rf hl
