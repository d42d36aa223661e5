/-! The same rows over the cells that stand while a constructor calls: tw_m_X2_begin, tw_m_X11_spotAt -/
/-! THE WORLD: all cells that the law makes lie one behind another from the address B on; tx_kd says what the cell k is, tw_rt what its references are, tw_ln how long an array is; the numbers are σ k i. -/
abbrev tx_Sg : Type := Nat → Nat → Int32
def tx_up (σ : tx_Sg) (k i : Nat) (x : Int32) : tx_Sg := fun a => if a = k then upd (σ a) i x else σ a
theorem tx_up_s {σ : tx_Sg} {k i : Nat} {x : Int32} : tx_up σ k i x k = upd (σ k) i x := if_pos rfl
theorem tx_up_n {σ : tx_Sg} {k i a : Nat} {x : Int32} (h : a ≠ k) : tx_up σ k i x a = σ a := if_neg h
def tx_kd (k : Nat) : Nat := cond (Nat.blt k 33) (tw_kd k) 99
theorem tx_kd_lt {k c : Nat} (h : tx_kd k = c) (hc : c ≠ 99) : k < 33 := by
  rcases Nat.lt_or_ge k 33 with h1 | h1
  · exact h1
  · exfalso
    apply hc
    rw [← h]
    unfold tx_kd
    rw [tw_blt h1]
    rfl
theorem tx_all {p : Nat → Bool} (h : (List.range 33).all p = true) {k : Nat} (hk : k < 33) : p k = true := List.all_eq_true.mp h k (List.mem_range.mpr hk)
theorem tx_kdk {a c : Nat} {f : Nat → Bool} (hc : c ≠ 99) (h : (List.range 33).all (fun k => tx_kd k != c || f k) = true) (hk : tx_kd a = c) : f a = true := by
  have h1 := tx_all h (tx_kd_lt hk hc)
  simpa [hk] using h1
def tx_fs0 (B : Nat) (σ : tx_Sg) (k : Nat) : List Value := [.ref (B + (k + 1))]
def tx_fs1 (B : Nat) (σ : tx_Sg) (k : Nat) : List Value := [.int (σ k 0), .ref (B + (k + 1)), .ref (B + (k + 3)), .ref (B + (k + 5)), .ref (B + (k + 7)), .ref (B + (k + 9)), .ref (B + (k + 11)), .ref (B + (k + 13)), .ref (B + (k + 15)), .ref (B + (k + 17))]
def tx_fs2 (B : Nat) (σ : tx_Sg) (k : Nat) : List Value := [.int (σ k 0), .int (σ k 1), .ref (B + (k + 1)), .ref (B + (k + 3)), .ref (B + (k + 5)), .int (σ k 5), .ref (B + (k + 7)), .ref (B + (k + 9)), .ref (B + (k + 11)), .ref (B + (k + 13)), .int (σ k 10), .int (σ k 11), .int (σ k 12), .int (σ k 13)]
def tx_fs3 (B : Nat) (σ : tx_Sg) (k : Nat) : List Value := [.ref (B + 136), .ref (B + 138)]
def tx_fs4 (B : Nat) (σ : tx_Sg) (k : Nat) : List Value := [.ref (B + 143), .int (σ k 1), .int (σ k 2)]
def tx_fs5 (B : Nat) (σ : tx_Sg) (k : Nat) : List Value := [.ref (B + (k + 3)), .ref (B + (k + 1))]
def tx_fs6 (B : Nat) (σ : tx_Sg) (k : Nat) : List Value := [.ref (B + 401), .int (σ k 1), .ref (B + 403), .int (σ k 3), .int (σ k 4), .int (σ k 5), .int (σ k 6), .int (σ k 7), .int (σ k 8), .int (σ k 9), .int (σ k 10)]
def tx_fs7 (B : Nat) (σ : tx_Sg) (k : Nat) : List Value := [.ref (B + (k + 1))]
def tx_fs8 (B : Nat) (σ : tx_Sg) (k : Nat) : List Value := [.ref (B + 1), .ref (B + 33), .ref (B + 135), .ref (B + 140)]
def tx_fs9 (B : Nat) (σ : tx_Sg) (k : Nat) : List Value := [.ref (B + 1), .ref (B + 134), .int (σ k 2), .ref (B + 436), .ref (B + 438), .ref (B + 440)]
def tx_fs10 (B : Nat) (σ : tx_Sg) (k : Nat) : List Value := [.ref (B + 1), .ref (B + 34), .ref (B + 36), .ref (B + 112)]
def tx_fs11 (B : Nat) (σ : tx_Sg) (k : Nat) : List Value := [.ref (B + 1), .ref (B + 142), .ref (B + 400), .ref (B + 33), .ref (B + 134), .ref (B + 435), .int (σ k 6)]
/-- what the cell k holds; C: the classes of the arrays -/
def tx_E (B : Nat) (C : Nat → ClassId) (σ : tx_Sg) (k : Nat) : va_E := match tx_kd k with
  | 0 => .inr (0, tx_fs0 B σ k)
  | 1 => .inr (1, tx_fs1 B σ k)
  | 2 => .inr (2, tx_fs2 B σ k)
  | 3 => .inr (3, tx_fs3 B σ k)
  | 4 => .inr (4, tx_fs4 B σ k)
  | 5 => .inr (5, tx_fs5 B σ k)
  | 6 => .inr (6, tx_fs6 B σ k)
  | 7 => .inr (7, tx_fs7 B σ k)
  | 8 => .inr (8, tx_fs8 B σ k)
  | 9 => .inr (9, tx_fs9 B σ k)
  | 10 => .inr (10, tx_fs10 B σ k)
  | 11 => .inr (11, [.null, .null, .null, .null, .null, .null, .int 0])
  | 13 => .inl (C 0, tw_ln k, .inl (σ k))
  | 14 => .inl (C 1, tw_ln k, .inl (σ k))
  | 15 => .inl (C 2, tw_ln k, .inr (.inr (.inr (.inr (fun j => some (B + (k + 1 + 2 * j)))))))
  | 16 => .inl (C 3, tw_ln k, .inr (.inr (.inr (.inr (fun j => some (B + (k + 1 + 32 * j)))))))
  | _ => .inl (C 0, 0, .inl (σ k))
theorem tx_E0 {B k : Nat} {C : Nat → ClassId} {σ : tx_Sg} (h : tx_kd k = 0) : tx_E B C σ k = .inr (0, tx_fs0 B σ k) := by unfold tx_E; rw [h]; rfl
theorem tx_E1 {B k : Nat} {C : Nat → ClassId} {σ : tx_Sg} (h : tx_kd k = 1) : tx_E B C σ k = .inr (1, tx_fs1 B σ k) := by unfold tx_E; rw [h]; rfl
theorem tx_E2 {B k : Nat} {C : Nat → ClassId} {σ : tx_Sg} (h : tx_kd k = 2) : tx_E B C σ k = .inr (2, tx_fs2 B σ k) := by unfold tx_E; rw [h]; rfl
theorem tx_E7 {B k : Nat} {C : Nat → ClassId} {σ : tx_Sg} (h : tx_kd k = 7) : tx_E B C σ k = .inr (7, tx_fs7 B σ k) := by unfold tx_E; rw [h]; rfl
theorem tx_E13 {B k : Nat} {C : Nat → ClassId} {σ : tx_Sg} (h : tx_kd k = 13) : tx_E B C σ k = .inl (C 0, tw_ln k, .inl (σ k)) := by unfold tx_E; rw [h]; rfl
theorem tx_E_cong {B k : Nat} {C : Nat → ClassId} {σ σ' : tx_Sg} (h : σ k = σ' k) : tx_E B C σ k = tx_E B C σ' k := by
  unfold tx_E
  simp only [tx_fs0, tx_fs1, tx_fs2, tx_fs3, tx_fs4, tx_fs5, tx_fs6, tx_fs7, tx_fs8, tx_fs9, tx_fs10, tx_fs11, h]
theorem tx_E_up {B k i : Nat} {C : Nat → ClassId} {σ : tx_Sg} {x : Int32} {e : va_E} (h : tx_E B C (tx_up σ k i x) k = e) : va_up (tx_E B C σ) k e = tx_E B C (tx_up σ k i x) := by
  funext a
  by_cases ha : a = k
  · subst ha; rw [va_up_self, h]
  · rw [va_up_ne _ _ ha]; exact tx_E_cong (tx_up_n ha).symm
theorem tx_p1_0 {B k : Nat} {C : Nat → ClassId} {σ : tx_Sg} {x : Int32} (h : tx_kd k = 1) : tx_E B C (tx_up σ k 0 x) k = .inr (1, (tx_fs1 B σ k).set 0 (.int x)) := by rw [tx_E1 h]; simp [tx_fs1, tx_up_s, upd]
theorem tx_p2_0 {B k : Nat} {C : Nat → ClassId} {σ : tx_Sg} {x : Int32} (h : tx_kd k = 2) : tx_E B C (tx_up σ k 0 x) k = .inr (2, (tx_fs2 B σ k).set 0 (.int x)) := by rw [tx_E2 h]; simp [tx_fs2, tx_up_s, upd]
theorem tx_p2_1 {B k : Nat} {C : Nat → ClassId} {σ : tx_Sg} {x : Int32} (h : tx_kd k = 2) : tx_E B C (tx_up σ k 1 x) k = .inr (2, (tx_fs2 B σ k).set 1 (.int x)) := by rw [tx_E2 h]; simp [tx_fs2, tx_up_s, upd]
theorem tx_p2_5 {B k : Nat} {C : Nat → ClassId} {σ : tx_Sg} {x : Int32} (h : tx_kd k = 2) : tx_E B C (tx_up σ k 5 x) k = .inr (2, (tx_fs2 B σ k).set 5 (.int x)) := by rw [tx_E2 h]; simp [tx_fs2, tx_up_s, upd]
theorem tx_p2_10 {B k : Nat} {C : Nat → ClassId} {σ : tx_Sg} {x : Int32} (h : tx_kd k = 2) : tx_E B C (tx_up σ k 10 x) k = .inr (2, (tx_fs2 B σ k).set 10 (.int x)) := by rw [tx_E2 h]; simp [tx_fs2, tx_up_s, upd]
theorem tx_p2_11 {B k : Nat} {C : Nat → ClassId} {σ : tx_Sg} {x : Int32} (h : tx_kd k = 2) : tx_E B C (tx_up σ k 11 x) k = .inr (2, (tx_fs2 B σ k).set 11 (.int x)) := by rw [tx_E2 h]; simp [tx_fs2, tx_up_s, upd]
theorem tx_p2_12 {B k : Nat} {C : Nat → ClassId} {σ : tx_Sg} {x : Int32} (h : tx_kd k = 2) : tx_E B C (tx_up σ k 12 x) k = .inr (2, (tx_fs2 B σ k).set 12 (.int x)) := by rw [tx_E2 h]; simp [tx_fs2, tx_up_s, upd]
theorem tx_p2_13 {B k : Nat} {C : Nat → ClassId} {σ : tx_Sg} {x : Int32} (h : tx_kd k = 2) : tx_E B C (tx_up σ k 13 x) k = .inr (2, (tx_fs2 B σ k).set 13 (.int x)) := by rw [tx_E2 h]; simp [tx_fs2, tx_up_s, upd]
theorem tx_k0_0 {k : Nat} (h : tx_kd k = 0) : tx_kd (k + 1) = 13 := by exact eq_of_beq (tx_kdk (f := fun k => tx_kd (k + 1) == 13) (by decide) (by decide +kernel) h)
theorem tx_k1_2 {k : Nat} (h : tx_kd k = 1) : tx_kd (k + 3) = 7 := by exact eq_of_beq (tx_kdk (f := fun k => tx_kd (k + 3) == 7) (by decide) (by decide +kernel) h)
theorem tx_k1_4 {k : Nat} (h : tx_kd k = 1) : tx_kd (k + 7) = 7 := by exact eq_of_beq (tx_kdk (f := fun k => tx_kd (k + 7) == 7) (by decide) (by decide +kernel) h)
theorem tx_k2_2 {k : Nat} (h : tx_kd k = 2) : tx_kd (k + 1) = 0 := by exact eq_of_beq (tx_kdk (f := fun k => tx_kd (k + 1) == 0) (by decide) (by decide +kernel) h)
theorem tx_k2_3 {k : Nat} (h : tx_kd k = 2) : tx_kd (k + 3) = 0 := by exact eq_of_beq (tx_kdk (f := fun k => tx_kd (k + 3) == 0) (by decide) (by decide +kernel) h)
theorem tx_k2_4 {k : Nat} (h : tx_kd k = 2) : tx_kd (k + 5) = 7 := by exact eq_of_beq (tx_kdk (f := fun k => tx_kd (k + 5) == 7) (by decide) (by decide +kernel) h)
theorem tx_k2_9 {k : Nat} (h : tx_kd k = 2) : tx_kd (k + 13) = 1 := by exact eq_of_beq (tx_kdk (f := fun k => tx_kd (k + 13) == 1) (by decide) (by decide +kernel) h)
theorem tx_k7_0 {k : Nat} (h : tx_kd k = 7) : tx_kd (k + 1) = 13 := by exact eq_of_beq (tx_kdk (f := fun k => tx_kd (k + 1) == 13) (by decide) (by decide +kernel) h)
abbrev tx_PP (z : tw_Z) (σ : tx_Sg) (H : Heap) : Prop := va_P (tw_zD z).1 vwCl (tw_wl (tw_zB z) (tx_E (tw_zB z) (tw_zC z) σ) 33 ++ (tw_zD z).2) H
def tx_Rf {ρ : Type} (z : tw_Z) (res : ρ) (E : Option ρ) (σ : tx_Sg) (pc : Nat) (L : List (Nat × Value)) (st : List Value) : Prop :=
  E = some res → ∀ (H : Heap) (locs : List Loc) (ls : Array Slot), tx_PP z σ H → tw_SS z H locs → lv_has ls (tw_znL z) L → tw_W z H locs (F0 (tw_zm z) pc ls st)
section TWR
variable {ρ : Type} {z : tw_Z} {res : ρ} {cc : ByteArray} {own : String} {nL pc : Nat} {E : Option ρ} {σ : tw_Sg} {L L' : List (Nat × Value)} {st : List Value}
theorem tx_Rf.sub (ks : List Nat) (hl : lv_pick L ks = L') (k : tx_Rf z res E σ pc L' st) : tx_Rf z res E σ pc L st := fun hE H locs ls hP hS h => k hE H locs ls hP hS (lv_sub h ks hl)
theorem tx_r_ck {b : Bool} (k : b = true → tx_Rf z res E σ pc L st) : tx_Rf z res (tw_ck b E) σ pc L st := fun hE H locs ls hP hS hl => k (tw_ck_of hE).1 (tw_ck_of hE).2 H locs ls hP hS hl
theorem tx_r_bd {α : Type} {e : Option α} {K : α → Option ρ} (k : ∀ a, e = some a → tx_Rf z res (K a) σ pc L st) : tx_Rf z res (tw_bd e K) σ pc L st := fun hE H locs ls hP hS hl => by
  obtain ⟨a, h1, h2⟩ := tw_bd_of hE
  exact k a h1 h2 H locs ls hP hS hl
/-- a join: the rest is proved once -/
theorem tx_r_jn {α : Type} {r : α → Option ρ} {b : (α → Option ρ) → Option ρ} {σJ : α → tx_Sg} {pcJ : Nat} {LJ : α → List (Nat × Value)} {stJ : α → List Value} {ok : α → Prop}
    (hr : ∀ a, ok a → tx_Rf z res (r a) (σJ a) pcJ (LJ a) (stJ a)) (hb : ∀ f : α → Option ρ, (∀ a, ok a → tx_Rf z res (f a) (σJ a) pcJ (LJ a) (stJ a)) → tx_Rf z res (b f) σ pc L st) : tx_Rf z res (tw_jn r b) σ pc L st := hb r hr
/-- a loop: from its head back to its head, or out of it -/
theorem tx_r_lp {α : Type} {body : (α → Option ρ) → α → Option ρ} {σJ : α → tx_Sg} {pcJ : Nat} {LJ : α → List (Nat × Value)} {stJ : α → List Value}
    (h : ∀ f : α → Option ρ, (∀ a, tx_Rf z res (f a) (σJ a) pcJ (LJ a) (stJ a)) → ∀ a, tx_Rf z res (body f a) (σJ a) pcJ (LJ a) (stJ a)) : ∀ (n : Nat) (a : α), tx_Rf z res (tw_lp body n a) (σJ a) pcJ (LJ a) (stJ a) := by
  intro n
  induction n with
  | zero => intro a hE; cases hE
  | succ n ih => intro a; exact h (tw_lp body n) ih a
theorem tx_r_iconst {n : Int} {v : Int32} (X : tw_X z cc own nL) (d : decode cc pc = .ok (.iconst n, 1)) (hv : Int32.ofInt n = v) (k : tx_Rf z res E σ (pc + 1) L (.int v :: st)) : tx_Rf z res E σ pc L (st) := fun hE H locs ls hP hS hl => lv_iconst X.1 X.2.1 d hv (k hE H locs ls hP hS hl)
theorem tx_r_bipush {n : Int} {v : Int32} (X : tw_X z cc own nL) (d : decode cc pc = .ok (.bipush n, 2)) (hv : (Int8.ofInt n).toInt32 = v) (k : tx_Rf z res E σ (pc + 2) L (.int v :: st)) : tx_Rf z res E σ pc L (st) := fun hE H locs ls hP hS hl => lv_bipush X.1 X.2.1 d hv (k hE H locs ls hP hS hl)
theorem tx_r_iload_n {j : Fin 4} {i : Nat} {x : Int32} (X : tw_X z cc own nL) (d : decode cc pc = .ok (.iload_n j, 1)) (hi : (j : Nat) = i) (q : Nat) (hq : L[q]? = some (i, .int x)) (k : tx_Rf z res E σ (pc + 1) L (.int x :: st)) : tx_Rf z res E σ pc L (st) := fun hE H locs ls hP hS hl => lv_iload_n X.1 X.2.1 d hi (tw_hl hl q hq) (k hE H locs ls hP hS hl)
theorem tx_r_iload {i : Nat} {x : Int32} (X : tw_X z cc own nL) (d : decode cc pc = .ok (.iload i, 2)) (q : Nat) (hq : L[q]? = some (i, .int x)) (k : tx_Rf z res E σ (pc + 2) L (.int x :: st)) : tx_Rf z res E σ pc L (st) := fun hE H locs ls hP hS hl => lv_iload X.1 X.2.1 d (tw_hl hl q hq) (k hE H locs ls hP hS hl)
theorem tx_r_aload_n {j : Fin 4} {i : Nat} {x : Nat} (X : tw_X z cc own nL) (d : decode cc pc = .ok (.aload_n j, 1)) (hi : (j : Nat) = i) (q : Nat) (hq : L[q]? = some (i, .ref x)) (k : tx_Rf z res E σ (pc + 1) L (.ref x :: st)) : tx_Rf z res E σ pc L (st) := fun hE H locs ls hP hS hl => lv_aload_n X.1 X.2.1 d hi (tw_hl hl q hq) (k hE H locs ls hP hS hl)
theorem tx_r_istore_n {j : Fin 4} {i : Nat} {x : Int32} {K : Int32 → Option ρ} {LL : Int32 → List (Nat × Value)} (X : tw_X z cc own nL) (d : decode cc pc = .ok (.istore_n j, 1)) (hi : (j : Nat) = i) (hn : i < nL) (hL : ∀ x, (i, Value.int x) :: L.filter (fun q => !(q.1 == i) && !(q.1 + 1 == i && q.2.category == 2)) = LL x) (k : ∀ x, tx_Rf z res (K x) σ (pc + 1) (LL x) st) : tx_Rf z res (tw_lt x K) σ pc L (.int x :: st) := fun hE H locs ls hP hS hl => lv_istore_n X.1 X.2.1 d hi hl (tw_nLt X hn) (hL x) (fun ls' hl' => k x hE H locs ls' hP hS hl')
theorem tx_r_istore {i : Nat} {x : Int32} {K : Int32 → Option ρ} {LL : Int32 → List (Nat × Value)} (X : tw_X z cc own nL) (d : decode cc pc = .ok (.istore i, 2)) (hn : i < nL) (hL : ∀ x, (i, Value.int x) :: L.filter (fun q => !(q.1 == i) && !(q.1 + 1 == i && q.2.category == 2)) = LL x) (k : ∀ x, tx_Rf z res (K x) σ (pc + 2) (LL x) st) : tx_Rf z res (tw_lt x K) σ pc L (.int x :: st) := fun hE H locs ls hP hS hl => lv_istore X.1 X.2.1 d hl (tw_nLt X hn) (hL x) (fun ls' hl' => k x hE H locs ls' hP hS hl')
theorem tx_r_iinc {i : Nat} {n : Int} {x v : Int32} {K : Int32 → Option ρ} {LL : Int32 → List (Nat × Value)} (X : tw_X z cc own nL) (d : decode cc pc = .ok (.iinc i n, 3)) (q : Nat) (hq : L[q]? = some (i, .int x)) (hv : Int32.ofInt n = v) (hn : i < nL) (hL : ∀ x, (i, Value.int x) :: L.filter (fun q => !(q.1 == i) && !(q.1 + 1 == i && q.2.category == 2)) = LL x) (k : ∀ x, tx_Rf z res (K x) σ (pc + 3) (LL x) st) : tx_Rf z res (tw_lt (x + v) K) σ pc L st := fun hE H locs ls hP hS hl => lv_iinc X.1 X.2.1 d hl hq (by rw [hv]) (tw_nLt X hn) (hL (x + v)) (fun ls' hl' => k (x + v) hE H locs ls' hP hS hl')
theorem tx_r_iadd {x y : Int32} (X : tw_X z cc own nL) (d : decode cc pc = .ok (.iadd, 1)) (k : tx_Rf z res E σ (pc + 1) L (.int (x + y) :: st)) : tx_Rf z res E σ pc L (.int y :: .int x :: st) := fun hE H locs ls hP hS hl => lv_iadd X.1 X.2.1 d (k hE H locs ls hP hS hl)
theorem tx_r_imul {x y : Int32} (X : tw_X z cc own nL) (d : decode cc pc = .ok (.imul, 1)) (k : tx_Rf z res E σ (pc + 1) L (.int (x * y) :: st)) : tx_Rf z res E σ pc L (.int y :: .int x :: st) := fun hE H locs ls hP hS hl => lv_imul X.1 X.2.1 d (k hE H locs ls hP hS hl)
theorem tx_r_iand {x y : Int32} (X : tw_X z cc own nL) (d : decode cc pc = .ok (.iand, 1)) (k : tx_Rf z res E σ (pc + 1) L (.int (x &&& y) :: st)) : tx_Rf z res E σ pc L (.int y :: .int x :: st) := fun hE H locs ls hP hS hl => lv_iand X.1 X.2.1 d (k hE H locs ls hP hS hl)
theorem tx_r_ior {x y : Int32} (X : tw_X z cc own nL) (d : decode cc pc = .ok (.ior, 1)) (k : tx_Rf z res E σ (pc + 1) L (.int (x ||| y) :: st)) : tx_Rf z res E σ pc L (.int y :: .int x :: st) := fun hE H locs ls hP hS hl => lv_ior X.1 X.2.1 d (k hE H locs ls hP hS hl)
theorem tx_r_ishl {x y : Int32} (X : tw_X z cc own nL) (d : decode cc pc = .ok (.ishl, 1)) (k : tx_Rf z res E σ (pc + 1) L (.int (x <<< (y &&& 31)) :: st)) : tx_Rf z res E σ pc L (.int y :: .int x :: st) := fun hE H locs ls hP hS hl => lv_ishl X.1 X.2.1 d (k hE H locs ls hP hS hl)
theorem tx_r_ishr {x y : Int32} (X : tw_X z cc own nL) (d : decode cc pc = .ok (.ishr, 1)) (k : tx_Rf z res E σ (pc + 1) L (.int (x >>> (y &&& 31)) :: st)) : tx_Rf z res E σ pc L (.int y :: .int x :: st) := fun hE H locs ls hP hS hl => lv_ishr X.1 X.2.1 d (k hE H locs ls hP hS hl)
theorem tx_r_dup2 {v u : Value} (X : tw_X z cc own nL) (d : decode cc pc = .ok (.dup2, 1)) (hv : v.category = 1) (hu : u.category = 1) (k : tx_Rf z res E σ (pc + 1) L (v :: u :: v :: u :: st)) : tx_Rf z res E σ pc L (v :: u :: st) := fun hE H locs ls hP hS hl => lv_dup2_11 X.1 X.2.1 d hv hu (k hE H locs ls hP hS hl)
theorem tx_r_if_lt {x : Int32} {off : Int} {tgt : Nat} {A F : Option ρ} (X : tw_X z cc own nL) (d : decode cc pc = .ok (.ifCond .lt off, 3)) (ht : (pc : Int) + off = (tgt : Int)) (kt : tx_Rf z res A σ tgt L st) (kf : tx_Rf z res F σ (pc + 3) L st) : tx_Rf z res (if x < 0 then A else F) σ pc L (.int x :: st) := fun hE H locs ls hP hS hl => lv_if_lt X.1 X.2.1 d ht (fun q => kt (by rw [if_pos q] at hE; exact hE) H locs ls hP hS hl) (fun q => kf (by rw [if_neg q] at hE; exact hE) H locs ls hP hS hl)
theorem tx_r_icmp_ge {x y : Int32} {off : Int} {tgt : Nat} {A F : Option ρ} (X : tw_X z cc own nL) (d : decode cc pc = .ok (.if_icmp .ge off, 3)) (ht : (pc : Int) + off = (tgt : Int)) (kt : tx_Rf z res A σ tgt L st) (kf : tx_Rf z res F σ (pc + 3) L st) : tx_Rf z res (if y ≤ x then A else F) σ pc L (.int y :: .int x :: st) := fun hE H locs ls hP hS hl => lv_icmp_ge X.1 X.2.1 d ht (fun q => kt (by rw [if_pos q] at hE; exact hE) H locs ls hP hS hl) (fun q => kf (by rw [if_neg q] at hE; exact hE) H locs ls hP hS hl)
theorem tx_r_goto {off : Int} {tgt : Nat} (X : tw_X z cc own nL) (d : decode cc pc = .ok (.goto off, 3)) (ht : (pc : Int) + off = (tgt : Int)) (k : tx_Rf z res E σ tgt L st) : tx_Rf z res E σ pc L st := fun hE H locs ls hP hS hl => lv_goto X.1 X.2.1 d ht (k hE H locs ls hP hS hl)
theorem tx_r_getf {ci k f ix N : Nat} {Cn : String} {T : u_T} {fs : List Value} {v : Value} (X : tw_X z cc own nL) (d : decode cc pc = .ok (.getfield ix, 3)) (i : Nat) (hi : lw_tbl[i]? = some (.fieldLink own ix (T f).1 (T f).2.1 (T f).2.2.1)) (hin : ∀ w ∈ u_ws Cn T N, w ∈ tw_AW) (hc : vwCl[ci]? = some (Cn, T, N)) (hf : f < N) (hk : k < 33) (hE0 : tx_E (tw_zB z) (tw_zC z) σ k = .inr (ci, fs)) (hv : fs[f]? = some v) (kk : tx_Rf z res E σ (pc + 3) L (v :: st)) : tx_Rf z res E σ pc L (.ref (tw_zB z + k) :: st) :=
  fun hE H locs ls hP hS hl => va_get X.1 X.2.1 X.all hin X.ow X.K hP k ((tw_ap_get hk).trans (congrArg (fun e => some (tw_zB z + k, e)) hE0)) hc f hf (X.ws i hi rfl) (fun _ h => h) hv d (kk hE H locs ls hP hS hl)
theorem tx_r_putf {ci k f ix N : Nat} {Cn : String} {T : u_T} {fs : List Value} {ty : FieldType} {x : Int32} {K : tx_Sg → Option ρ} (X : tw_X z cc own nL) (d : decode cc pc = .ok (.putfield ix, 3)) (i : Nat) (hi : lw_tbl[i]? = some (.fieldLink own ix (T f).1 (T f).2.1 (T f).2.2.1)) (hin : ∀ w ∈ u_ws Cn T N, w ∈ tw_AW) (ty0 : Nat → FieldType) (hty : ∀ k, k < N → parseFieldDescriptor (T k).2.2.1 = some (ty0 k)) (hnm : ∀ a, a < N → ∀ b, b < N → a ≠ b → (T a).2.1 ≠ (T b).2.1) (hc : vwCl[ci]? = some (Cn, T, N)) (hf : f < N) (hfin : (T f).2.2.2 = false) (hd : parseFieldDescriptor (T f).2.2.1 = some ty) (hn : narrow ty (.int x) = .int x) (hfit : fits ty (.int x) = true) (hk : k < 33) (hE0 : tx_E (tw_zB z) (tw_zC z) σ k = .inr (ci, fs)) (hfl : f < fs.length) (hE1 : tx_E (tw_zB z) (tw_zC z) (tx_up σ k f x) k = .inr (ci, fs.set f (.int x))) (kk : ∀ σ1, tx_Rf z res (K σ1) σ1 (pc + 3) L st) : tx_Rf z res (tw_lt (tx_up σ k f x) K) σ pc L (.int x :: .ref (tw_zB z + k) :: st) :=
  fun hE H locs ls hP hS hl => va_put X.1 X.2.1 X.all hin ty0 hty hnm X.ow X.K hP (tw_ap_D (Nat.le_of_ble_eq_true rfl) X.wok) hS k ((tw_ap_get hk).trans (congrArg (fun e => some (tw_zB z + k, e)) hE0)) hc f hf (X.ws i hi rfl) (fun _ h => h) hfin hd hn hfit hfl d (fun H1 locs1 hP1 _ hS1 => kk _ hE H1 locs1 ls (by rw [tw_ap_set hk, tx_E_up hE1] at hP1; exact hP1) hS1 hl)
theorem tx_at {k : Nat} {e : va_E} (hk : k < 33) (h : tx_E (tw_zB z) (tw_zC z) σ k = e) : (tw_wl (tw_zB z) (tx_E (tw_zB z) (tw_zC z) σ) 33 ++ (tw_zD z).2)[k]? = some (tw_zB z + k, e) := (tw_ap_get hk).trans (congrArg (fun e => some (tw_zB z + k, e)) h)
theorem tx_r_alenI {k : Nat} {v : Int32} (X : tw_X z cc own nL) (d : decode cc pc = .ok (.arraylength, 1)) (hk : tx_kd k = 13) (hv : Int32.ofNat (tw_ln k) = v) (kk : tx_Rf z res E σ (pc + 1) L (.int v :: st)) : tx_Rf z res E σ pc L (.ref (tw_zB z + k) :: st) :=
  fun hE H locs ls hP hS hl => va_alen X.1 X.2.1 X.K hP k 0 (tx_at (tx_kd_lt hk (by decide)) (tx_E13 hk)) rfl hv d (kk hE H locs ls hP hS hl)
theorem tx_r_iald {k : Nat} {i : Int32} (X : tw_X z cc own nL) (d : decode cc pc = .ok (.iaload, 1)) (hk : tx_kd k = 13) (kk : tx_Rf z res E σ (pc + 1) L (.int (σ k i.toNatClampNeg) :: st)) : tx_Rf z res (tw_ck (tw_ok i (tw_ln k)) E) σ pc L (.int i :: .ref (tw_zB z + k) :: st) :=
  tx_r_ck (fun hc => fun hE H locs ls hP hS hl => va_iald X.1 X.2.1 X.K hP k 0 (tx_at (tx_kd_lt hk (by decide)) (tx_E13 hk)) rfl (tw_ok_in hc) d (kk hE H locs ls hP hS hl))
theorem tx_r_iast {k : Nat} {i x : Int32} {K : tx_Sg → Option ρ} (X : tw_X z cc own nL) (d : decode cc pc = .ok (.iastore, 1)) (hk : tx_kd k = 13) (kk : ∀ σ1, tx_Rf z res (K σ1) σ1 (pc + 1) L st) : tx_Rf z res (tw_ck (tw_ok i (tw_ln k)) (tw_lt (tx_up σ k i.toNatClampNeg x) K)) σ pc L (.int x :: .int i :: .ref (tw_zB z + k) :: st) :=
  tx_r_ck (fun hc => fun hE H locs ls hP hS hl => va_iast X.1 X.2.1 X.K hP (tw_ap_D (Nat.le_of_ble_eq_true rfl) X.wok) hS k 0 (tx_at (tx_kd_lt hk (by decide)) (tx_E13 hk)) rfl (tw_ok_in hc) d (fun H1 locs1 hP1 _ hS1 => kk _ hE H1 locs1 ls (by rw [tw_ap_set (tx_kd_lt hk (by decide)), tx_E_up (σ := σ) (i := i.toNatClampNeg) (x := x) ((tx_E13 hk).trans (by rw [tx_up_s]))] at hP1; exact hP1) hS1 hl))
end TWR
/-! CONTRACTS: with the arguments argv over the world σ the method y answers rv, and leaves the world σ'. -/
def tx_Qc (B : Nat) (D : tw_G) (C : Nat → ClassId) (rv : Option Value) (σ' : tx_Sg) : Array Value → State → Outcome → State → Prop := fun _ st oc t => (oc = .returned rv ∧ va_P D.1 vwCl (tw_wl B (tx_E B C σ') 33 ++ D.2) t.heap) ∧ va_F (fun q => B ≤ q) st t
def tx_Pre (B : Nat) (D : tw_G) (C : Nat → ClassId) (S : Nat → Nat) (argv : List Value) (σ : tx_Sg) : Array Value → State → Prop := va_Pc argv (fun U => va_P D.1 vwCl (tw_wl B (tx_E B C σ) 33 ++ D.2) U.heap ∧ tw_EV B D C S U)
theorem tx_blind {B : Nat} {D : tw_G} {C : Nat → ClassId} {S : Nat → Nat} {argv : List Value} {σ : tx_Sg} : FrameBlind (tx_Pre B D C S argv σ) := fun _ _ _ _ h => ⟨h.1, h.2.1, h.2.2.blind⟩
abbrev tx_Met (l : Launch) (B : Nat) (D : tw_G) (C : Nat → ClassId) (S : Nat → Nat) (y : MethodName) (cy : ByteArray) (mL : Nat) (ret : Option FieldType) (rm : Room) (argv : List Value) (σ : tx_Sg) (rv : Option Value) (σ' : tx_Sg) : Prop :=
  Met l y [.code y cy mL ret] rm (tx_Pre B D C S argv σ) (tx_Qc B D C rv σ') 0 0 (fun q => B ≤ q)
section TWC
variable {ρ : Type} {z : tw_Z} {res : ρ} {cc : ByteArray} {own : String} {nL pc : Nat} {E : Option ρ} {σ σ' : tw_Sg} {L L' : List (Nat × Value)} {st st0 : List Value}
variable {ix ci k mL n N mc ms : Nat} {y : MethodName} {cy : ByteArray} {ret : Option FieldType} {rm : Room} {Cn host : String} {T : u_T} {fs : List Value} {As argv : List Value} {rv : Option Value}
theorem tx_preS (X : tw_X z cc own nL) {H : Heap} {locs : List Loc} (hP : tx_PP z σ H) (hS : tw_SS z H locs) : PreS (tw_zs z) H (tx_Pre (tw_zB z) (tw_zD z) (tw_zC z) (tw_zS z) As σ) As := ⟨tx_blind, fun U hU hW => ⟨rfl, by rw [hU]; exact hP, X.2.2.2.2.2.1.call hS hU hW⟩⟩
theorem tx_preV (X : tw_X z cc own nL) {H : Heap} {locs : List Loc} (hP : tx_PP z σ H) (hS : tw_SS z H locs) (hc : vwCl[ci]? = some (Cn, T, N)) (hk : k < 33) (hE0 : tx_E (tw_zB z) (tw_zC z) σ k = .inr (ci, fs)) : PreV (tw_zs z) H Cn (tw_zB z + k) (tx_Pre (tw_zB z) (tw_zD z) (tw_zC z) (tw_zS z) (.ref (tw_zB z + k) :: As) σ) As := ⟨tx_blind, va_recv X.K hP hc (tx_at hk hE0), fun U hU hW => ⟨rfl, by rw [hU]; exact hP, X.2.2.2.2.2.1.call hS hU hW⟩⟩
/-- behind a call -/
theorem tx_r_run {A : Array Value} (hr : ∀ (H : Heap) (locs : List Loc) (ls : Array Slot), tx_PP z σ H → tw_SS z H locs → lv_has ls (tw_znL z) L → va_Run (tw_zp z) (tw_zl z) (tw_ze z) (tw_zR z) (tw_zs z) (tw_zm z) (tw_zargs z) (tw_zbelow z) (tw_zmeth z) (tw_zc z) H locs (tw_zcells z) (tw_zslots z) 0 0 (F0 (tw_zm z) pc ls st0) st (tx_Qc (tw_zB z) (tw_zD z) (tw_zC z) rv σ' A) (fun q => tw_zB z ≤ q))
    (kk : tx_Rf z res E σ' (pc + 3) L (rv.toList ++ st)) : tx_Rf z res E σ pc L st0 := by
  intro hE H locs ls hP hS hl T hT X
  obtain ⟨v, st₀, t, T', Lc, h0, X', hL, e1, e2, ⟨⟨hv, hp⟩, hz, hk⟩, st1⟩ := hr H locs ls hP hS hl T hT X
  cases hv
  rw [h0] at hz hk
  obtain ⟨t2, a1, b1⟩ := kk hE T'.heap (locs ++ Lc) ls (by unfold tx_PP; rw [e1]; exact hp) ⟨Nat.le_trans hS.1 (by rw [e1]; exact hz), fun q h1 h2 => by rw [e1, hk q (Nat.lt_of_lt_of_le h1 hS.1) h2]; exact hS.2.1 q h1 h2, fun q hq => by
      rcases List.mem_append.mp hq with h | h
      · exact hS.2.2 q h
      · exact hL q h⟩ hl T' rfl X'
  exact ⟨t2, st1 t2 a1, b1⟩
theorem tx_r_callV (X : tw_X z cc own nL) (d : decode cc pc = .ok (.invokevirtual ix, 3)) (hM : tx_Met (tw_zl z) (tw_zB z) (tw_zD z) (tw_zC z) (tw_zS z) y cy mL ret rm (.ref (tw_zB z + k) :: As) σ rv σ') (hy : tw_My y cy mL ret n) (hv : tw_Mv y Cn) (i : Nat) (hi : lw_tbl[i]? = some (.methodLink own ix y)) (hc : vwCl[ci]? = some (Cn, T, N)) (hk : k < 33) (hE0 : tx_E (tw_zB z) (tw_zC z) σ k = .inr (ci, fs)) (hn : As.length = n) (hR : tw_Rm (tw_zR z) rm mL 0 0) (hcs : tw_zcells z ≤ (tw_zR z).cells ∧ tw_zslots z ≤ (tw_zR z).slots) (hst : (st.map fun v => v.category).sum ≤ 8) (hs0 : st0 = As.reverse ++ .ref (tw_zB z + k) :: st) (kk : tx_Rf z res E σ' (pc + 3) L (rv.toList ++ st)) : tx_Rf z res E σ pc L st0 := by
  subst hs0
  exact tx_r_run (fun H locs ls hP hS hl => va_runV (As := As) (rest := st) (tw_fix X) hM ⟨tw_CB X hy i hi hR, tw_wd X hv.1 rfl, tw_wd X hv.2.1 rfl⟩ (tx_preV X hP hS hc hk hE0) rfl hn (hl.1.trans X.2.2.2.2.2.2) rfl (lv_room hst) d hcs) kk
theorem tx_r_callS (X : tw_X z cc own nL) (d : decode cc pc = .ok (.invokestatic ix, 3)) (hM : tx_Met (tw_zl z) (tw_zB z) (tw_zD z) (tw_zC z) (tw_zS z) y cy mL ret rm As σ rv σ') (hy : tw_My y cy mL ret n) (hv : tw_Ms y) (i : Nat) (hi : lw_tbl[i]? = some (.methodLink own ix y)) (hn : As.length = n) (hR : tw_Rm (tw_zR z) rm mL 0 0) (hcs : tw_zcells z ≤ (tw_zR z).cells ∧ tw_zslots z ≤ (tw_zR z).slots) (hst : (st.map fun v => v.category).sum ≤ 8) (hs0 : st0 = As.reverse ++ st) (kk : tx_Rf z res E σ' (pc + 3) L (rv.toList ++ st)) : tx_Rf z res E σ pc L st0 := by
  subst hs0
  exact tx_r_run (fun H locs ls hP hS hl => va_runS (As := As) (rest := st) (tw_fix X) hM ⟨tw_CB X hy i hi hR, tw_wd X hv rfl⟩ (tx_preS X hP hS) rfl hn (hl.1.trans X.2.2.2.2.2.2) rfl (lv_room hst) d hcs) kk
theorem tx_r_callSN (X : tw_X z cc own nL) (d : decode cc pc = .ok (.invokestatic ix, 3)) (hM : tx_Met (tw_zl z) (tw_zB z) (tw_zD z) (tw_zC z) (tw_zS z) y cy mL ret rm As σ rv σ') (hy : tw_My y cy mL ret n) (hv : tw_Ms y) (i : Nat) (hi : lw_tbl[i]? = some (.methodLinkNest own ix y host)) (hn : As.length = n) (hR : tw_Rm (tw_zR z) rm mL 0 0) (hcs : tw_zcells z ≤ (tw_zR z).cells ∧ tw_zslots z ≤ (tw_zR z).slots) (hst : (st.map fun v => v.category).sum ≤ 8) (hs0 : st0 = As.reverse ++ st) (kk : tx_Rf z res E σ' (pc + 3) L (rv.toList ++ st)) : tx_Rf z res E σ pc L st0 := by
  subst hs0
  exact tx_r_run (fun H locs ls hP hS hl => va_runSN (As := As) (rest := st) (tw_fix X) hM ⟨tw_CN X hy i hi hR, tw_wd X hv rfl, trivial⟩ (tx_preS X hP hS) rfl hn (hl.1.trans X.2.2.2.2.2.2) rfl (lv_room hst) d hcs) kk
/-! the ends -/
def tx_Ro (z : tw_Z) (out : ρ → Option Value × tx_Sg) (res : ρ) : Prop := ∀ (H : Heap) (locs : List Loc) (g : JFrame), W (tw_zp z) (tw_zl z) (tw_ze z) (tw_zR z) (tw_zs z) (tw_zm z) (tw_zargs z) (tw_zbelow z) (tw_zmeth z) (tw_zc z) H locs (tw_zcells z) (tw_zslots z) (MQ (tw_zbelow z) (tx_Qc (tw_zB z) (tw_zD z) (tw_zC z) (out res).1 (out res).2) (tw_zargs z) (tw_zs z) (tw_zcells z) (tw_zslots z) (fun q => tw_zB z ≤ q)) g → tw_W z H locs g
variable {out : ρ → Option Value × tw_Sg} {r : ρ}
theorem tx_r_iret {x : Int32} (X : tw_X z cc own nL) (d : decode cc pc = .ok (.ireturn, 1)) (hret : (tw_zmeth z).sig.returnType = some .int) (hQ : tx_Ro z out res) (ho : out r = (some (.int x), σ)) : tx_Rf z res (some r) σ pc L [.int x] := by
  intro hE H locs ls hP hS hl
  cases hE
  refine hQ H locs _ (W.iret X.1 X.2.1 hret (fun t ht hW => ?_) hS.2.2 d X.2.2.2.2.1)
  rw [ho]
  exact ⟨⟨rfl, by rw [ht]; exact hP⟩, hS.F ht⟩
theorem tx_r_vret (X : tw_X z cc own nL) (d : decode cc pc = .ok (.return_, 1)) (hret : (tw_zmeth z).sig.returnType = none) (hQ : tx_Ro z out res) (ho : out r = (none, σ)) : tx_Rf z res (some r) σ pc L [] := by
  intro hE H locs ls hP hS hl
  cases hE
  refine hQ H locs _ (W.vret X.1 X.2.1 hret (fun t ht hW => ?_) hS.2.2 d X.2.2.2.2.1)
  rw [ho]
  exact ⟨⟨rfl, by rw [ht]; exact hP⟩, hS.F ht⟩
end TWC
/-- a contract out of a walk -/
theorem tx_metOf {ρ : Type} {l : Launch} {B : Nat} {D : tw_G} {C : Nat → ClassId} {S : Nat → Nat} {y : MethodName} {cy : ByteArray} {mL : Nat} {ret : Option FieldType} {rm : Room} {argv : List Value} {σ : tx_Sg} (E : Option ρ) (res : ρ) (hres : E = some res) (out : ρ → Option Value × tx_Sg) (hy : plainName y.cls = true) (hlen : (lg_sl argv).length ≤ mL) (hrm : rm.cells = 0 ∧ rm.slots = 0)
    (body : ∀ z : tw_Z, tw_zl z = l → tw_zB z = B → tw_zD z = D → tw_zC z = C → tw_zS z = S → tw_zR z = rm → tw_zcells z = 0 → tw_zslots z = 0 → tw_X z cy y.cls mL → (tw_zmeth z).sig.returnType = ret → tx_Ro z out res → tx_Rf z res E σ 0 (lv_args 0 argv) []) : tx_Met l B D C S y cy mL ret rm argv σ (out res).1 (out res).2 := by
  refine Met.ofW (cc := cy) (maxL := mL) (ret := ret) hy rfl ?_
  intro p e s m args below meth c s₁ Bd hml hv
  obtain ⟨rfl, hP, hEV⟩ := hv
  rw [lg_entry_eq]
  have hl := lv_entry argv (n := mL) hlen
  have hR : (headSpec [Cond.code y cy mL ret] rm).room = rm := rfl
  rw [hR]
  exact body (p, l, e, rm, s, m, argv.toArray, below, meth, c, B, D, C, S, mL, 0, 0, MQ below (tx_Qc B D C (out res).1 (out res).2) argv.toArray s 0 0 (fun q => B ≤ q)) rfl rfl rfl rfl rfl rfl rfl rfl ⟨Bd.exec, Bd.bytes, hml, findClass_of_methodNamed Bd.named, Bd.notSynchronized, hEV, rfl⟩ Bd.returns (fun H locs g h => h) hres s.heap [] _ hP va_S.rf hl

theorem tx_metOfP {ρ : Type} {l : Launch} {B : Nat} {D : tw_G} {C : Nat → ClassId} {S : Nat → Nat} {y : MethodName} {cy : ByteArray} {mL : Nat} {ret : Option FieldType} {rm : Room} {argv : List Value} {σ : tx_Sg} (E : Option ρ) (res : ρ) (hres : E = some res) (out : ρ → Option Value × tx_Sg) (hy : plainName y.cls = true) (hlen : (lg_sl argv).length ≤ mL) (hrm : rm.cells = 0 ∧ rm.slots = 0)
    (body : ∀ z : tw_Z, tw_zl z = l → tw_zB z = B → tw_zD z = D → tw_zC z = C → tw_zS z = S → (tw_zR z).frames = rm.frames → (tw_zR z).locals = rm.locals → (tw_zcells z ≤ (tw_zR z).cells ∧ tw_zslots z ≤ (tw_zR z).slots) → tw_X z cy y.cls mL → (tw_zmeth z).sig.returnType = ret → tx_Ro z out res → tx_Rf z res E σ 0 (lv_args 0 argv) []) : tx_Met l B D C S y cy mL ret rm argv σ (out res).1 (out res).2 :=
  tx_metOf E res hres out hy hlen hrm (fun z el eB eD eC eS eR ec es X hret hQ => body z el eB eD eC eS (by rw [eR]) (by rw [eR]) ⟨by rw [ec]; exact Nat.zero_le _, by rw [es]; exact Nat.zero_le _⟩ X hret hQ)

section TWF
variable {ρ : Type} {z : tw_Z} {res : ρ} {cc : ByteArray} {own : String} {nL pc : Nat} {E : Option ρ} {σ : tw_Sg} {L : List (Nat × Value)} {st : List Value} {ix k : Nat} {v : Value} {x : Int32} {K : tw_Sg → Option ρ} {host : String}
theorem tx_g0_0 (X : tw_X z cc own nL) (d : decode cc pc = .ok (.getfield ix, 3)) (i : Nat) (hi : lw_tbl[i]? = some (.fieldLink own ix "TreasureWalk$Cells" "rows" "[I")) (hk : tx_kd k = 0) (hv : (tx_fs0 (tw_zB z) σ k)[0]? = some v) (kk : tx_Rf z res E σ (pc + 3) L (v :: st)) : tx_Rf z res E σ pc L (.ref (tw_zB z + k) :: st) := tx_r_getf (T := TX0) (f := 0) X d i hi tw_in0 rfl (by decide) (tx_kd_lt hk (by decide)) (tx_E0 hk) hv kk
theorem tx_s1_0 (X : tw_X z cc own nL) (d : decode cc pc = .ok (.putfield ix, 3)) (i : Nat) (hi : lw_tbl[i]? = some (.fieldLink own ix "TreasureWalk$Clues" "count" "I")) (hk : tx_kd k = 1) (kk : ∀ σ1, tx_Rf z res (K σ1) σ1 (pc + 3) L st) : tx_Rf z res (tw_lt (tx_up σ k 0 x) K) σ pc L (.int x :: .ref (tw_zB z + k) :: st) := tx_r_putf (T := TX1) (f := 0) (ty := .int) X d i hi tw_in1 tyX1 tyX1_ok nmX1 rfl (by decide) rfl (by decide +kernel) rfl rfl (tx_kd_lt hk (by decide)) (tx_E1 hk) (Nat.le_of_ble_eq_true rfl) (tx_p1_0 hk) kk
theorem tx_g1_2 (X : tw_X z cc own nL) (d : decode cc pc = .ok (.getfield ix, 3)) (i : Nat) (hi : lw_tbl[i]? = some (.fieldLink own ix "TreasureWalk$Clues" "startCounts" "LTreasureWalk$Row;")) (hk : tx_kd k = 1) (hv : (tx_fs1 (tw_zB z) σ k)[2]? = some v) (kk : tx_Rf z res E σ (pc + 3) L (v :: st)) : tx_Rf z res E σ pc L (.ref (tw_zB z + k) :: st) := tx_r_getf (T := TX1) (f := 2) X d i hi tw_in1 rfl (by decide) (tx_kd_lt hk (by decide)) (tx_E1 hk) hv kk
theorem tx_g1_4 (X : tw_X z cc own nL) (d : decode cc pc = .ok (.getfield ix, 3)) (i : Nat) (hi : lw_tbl[i]? = some (.fieldLink own ix "TreasureWalk$Clues" "legCounts" "LTreasureWalk$Row;")) (hk : tx_kd k = 1) (hv : (tx_fs1 (tw_zB z) σ k)[4]? = some v) (kk : tx_Rf z res E σ (pc + 3) L (v :: st)) : tx_Rf z res E σ pc L (.ref (tw_zB z + k) :: st) := tx_r_getf (T := TX1) (f := 4) X d i hi tw_in1 rfl (by decide) (tx_kd_lt hk (by decide)) (tx_E1 hk) hv kk
theorem tx_g2_0 (X : tw_X z cc own nL) (d : decode cc pc = .ok (.getfield ix, 3)) (i : Nat) (hi : lw_tbl[i]? = some (.fieldLink own ix "TreasureWalk$Data" "width" "I")) (hk : tx_kd k = 2) (hv : (tx_fs2 (tw_zB z) σ k)[0]? = some v) (kk : tx_Rf z res E σ (pc + 3) L (v :: st)) : tx_Rf z res E σ pc L (.ref (tw_zB z + k) :: st) := tx_r_getf (T := TX2) (f := 0) X d i hi tw_in2 rfl (by decide) (tx_kd_lt hk (by decide)) (tx_E2 hk) hv kk
theorem tx_s2_0 (X : tw_X z cc own nL) (d : decode cc pc = .ok (.putfield ix, 3)) (i : Nat) (hi : lw_tbl[i]? = some (.fieldLink own ix "TreasureWalk$Data" "width" "I")) (hk : tx_kd k = 2) (kk : ∀ σ1, tx_Rf z res (K σ1) σ1 (pc + 3) L st) : tx_Rf z res (tw_lt (tx_up σ k 0 x) K) σ pc L (.int x :: .ref (tw_zB z + k) :: st) := tx_r_putf (T := TX2) (f := 0) (ty := .int) X d i hi tw_in2 tyX2 tyX2_ok nmX2 rfl (by decide) rfl (by decide +kernel) rfl rfl (tx_kd_lt hk (by decide)) (tx_E2 hk) (Nat.le_of_ble_eq_true rfl) (tx_p2_0 hk) kk
theorem tx_g2_1 (X : tw_X z cc own nL) (d : decode cc pc = .ok (.getfield ix, 3)) (i : Nat) (hi : lw_tbl[i]? = some (.fieldLink own ix "TreasureWalk$Data" "height" "I")) (hk : tx_kd k = 2) (hv : (tx_fs2 (tw_zB z) σ k)[1]? = some v) (kk : tx_Rf z res E σ (pc + 3) L (v :: st)) : tx_Rf z res E σ pc L (.ref (tw_zB z + k) :: st) := tx_r_getf (T := TX2) (f := 1) X d i hi tw_in2 rfl (by decide) (tx_kd_lt hk (by decide)) (tx_E2 hk) hv kk
theorem tx_s2_1 (X : tw_X z cc own nL) (d : decode cc pc = .ok (.putfield ix, 3)) (i : Nat) (hi : lw_tbl[i]? = some (.fieldLink own ix "TreasureWalk$Data" "height" "I")) (hk : tx_kd k = 2) (kk : ∀ σ1, tx_Rf z res (K σ1) σ1 (pc + 3) L st) : tx_Rf z res (tw_lt (tx_up σ k 1 x) K) σ pc L (.int x :: .ref (tw_zB z + k) :: st) := tx_r_putf (T := TX2) (f := 1) (ty := .int) X d i hi tw_in2 tyX2 tyX2_ok nmX2 rfl (by decide) rfl (by decide +kernel) rfl rfl (tx_kd_lt hk (by decide)) (tx_E2 hk) (Nat.le_of_ble_eq_true rfl) (tx_p2_1 hk) kk
theorem tx_g2_2 (X : tw_X z cc own nL) (d : decode cc pc = .ok (.getfield ix, 3)) (i : Nat) (hi : lw_tbl[i]? = some (.fieldLink own ix "TreasureWalk$Data" "land" "LTreasureWalk$Cells;")) (hk : tx_kd k = 2) (hv : (tx_fs2 (tw_zB z) σ k)[2]? = some v) (kk : tx_Rf z res E σ (pc + 3) L (v :: st)) : tx_Rf z res E σ pc L (.ref (tw_zB z + k) :: st) := tx_r_getf (T := TX2) (f := 2) X d i hi tw_in2 rfl (by decide) (tx_kd_lt hk (by decide)) (tx_E2 hk) hv kk
theorem tx_g2_3 (X : tw_X z cc own nL) (d : decode cc pc = .ok (.getfield ix, 3)) (i : Nat) (hi : lw_tbl[i]? = some (.fieldLink own ix "TreasureWalk$Data" "dug" "LTreasureWalk$Cells;")) (hk : tx_kd k = 2) (hv : (tx_fs2 (tw_zB z) σ k)[3]? = some v) (kk : tx_Rf z res E σ (pc + 3) L (v :: st)) : tx_Rf z res E σ pc L (.ref (tw_zB z + k) :: st) := tx_r_getf (T := TX2) (f := 3) X d i hi tw_in2 rfl (by decide) (tx_kd_lt hk (by decide)) (tx_E2 hk) hv kk
theorem tx_g2_4 (X : tw_X z cc own nL) (d : decode cc pc = .ok (.getfield ix, 3)) (i : Nat) (hi : lw_tbl[i]? = some (.fieldLink own ix "TreasureWalk$Data" "marks" "LTreasureWalk$Row;")) (hk : tx_kd k = 2) (hv : (tx_fs2 (tw_zB z) σ k)[4]? = some v) (kk : tx_Rf z res E σ (pc + 3) L (v :: st)) : tx_Rf z res E σ pc L (.ref (tw_zB z + k) :: st) := tx_r_getf (T := TX2) (f := 4) X d i hi tw_in2 rfl (by decide) (tx_kd_lt hk (by decide)) (tx_E2 hk) hv kk
theorem tx_s2_5 (X : tw_X z cc own nL) (d : decode cc pc = .ok (.putfield ix, 3)) (i : Nat) (hi : lw_tbl[i]? = some (.fieldLink own ix "TreasureWalk$Data" "bendCount" "I")) (hk : tx_kd k = 2) (kk : ∀ σ1, tx_Rf z res (K σ1) σ1 (pc + 3) L st) : tx_Rf z res (tw_lt (tx_up σ k 5 x) K) σ pc L (.int x :: .ref (tw_zB z + k) :: st) := tx_r_putf (T := TX2) (f := 5) (ty := .int) X d i hi tw_in2 tyX2 tyX2_ok nmX2 rfl (by decide) rfl (by decide +kernel) rfl rfl (tx_kd_lt hk (by decide)) (tx_E2 hk) (Nat.le_of_ble_eq_true rfl) (tx_p2_5 hk) kk
theorem tx_g2_9 (X : tw_X z cc own nL) (d : decode cc pc = .ok (.getfield ix, 3)) (i : Nat) (hi : lw_tbl[i]? = some (.fieldLink own ix "TreasureWalk$Data" "clues" "LTreasureWalk$Clues;")) (hk : tx_kd k = 2) (hv : (tx_fs2 (tw_zB z) σ k)[9]? = some v) (kk : tx_Rf z res E σ (pc + 3) L (v :: st)) : tx_Rf z res E σ pc L (.ref (tw_zB z + k) :: st) := tx_r_getf (T := TX2) (f := 9) X d i hi tw_in2 rfl (by decide) (tx_kd_lt hk (by decide)) (tx_E2 hk) hv kk
theorem tx_s2_10 (X : tw_X z cc own nL) (d : decode cc pc = .ok (.putfield ix, 3)) (i : Nat) (hi : lw_tbl[i]? = some (.fieldLink own ix "TreasureWalk$Data" "team" "I")) (hk : tx_kd k = 2) (kk : ∀ σ1, tx_Rf z res (K σ1) σ1 (pc + 3) L st) : tx_Rf z res (tw_lt (tx_up σ k 10 x) K) σ pc L (.int x :: .ref (tw_zB z + k) :: st) := tx_r_putf (T := TX2) (f := 10) (ty := .int) X d i hi tw_in2 tyX2 tyX2_ok nmX2 rfl (by decide) rfl (by decide +kernel) rfl rfl (tx_kd_lt hk (by decide)) (tx_E2 hk) (Nat.le_of_ble_eq_true rfl) (tx_p2_10 hk) kk
theorem tx_s2_11 (X : tw_X z cc own nL) (d : decode cc pc = .ok (.putfield ix, 3)) (i : Nat) (hi : lw_tbl[i]? = some (.fieldLink own ix "TreasureWalk$Data" "paces" "I")) (hk : tx_kd k = 2) (kk : ∀ σ1, tx_Rf z res (K σ1) σ1 (pc + 3) L st) : tx_Rf z res (tw_lt (tx_up σ k 11 x) K) σ pc L (.int x :: .ref (tw_zB z + k) :: st) := tx_r_putf (T := TX2) (f := 11) (ty := .int) X d i hi tw_in2 tyX2 tyX2_ok nmX2 rfl (by decide) rfl (by decide +kernel) rfl rfl (tx_kd_lt hk (by decide)) (tx_E2 hk) (Nat.le_of_ble_eq_true rfl) (tx_p2_11 hk) kk
theorem tx_s2_12 (X : tw_X z cc own nL) (d : decode cc pc = .ok (.putfield ix, 3)) (i : Nat) (hi : lw_tbl[i]? = some (.fieldLink own ix "TreasureWalk$Data" "chest" "I")) (hk : tx_kd k = 2) (kk : ∀ σ1, tx_Rf z res (K σ1) σ1 (pc + 3) L st) : tx_Rf z res (tw_lt (tx_up σ k 12 x) K) σ pc L (.int x :: .ref (tw_zB z + k) :: st) := tx_r_putf (T := TX2) (f := 12) (ty := .int) X d i hi tw_in2 tyX2 tyX2_ok nmX2 rfl (by decide) rfl (by decide +kernel) rfl rfl (tx_kd_lt hk (by decide)) (tx_E2 hk) (Nat.le_of_ble_eq_true rfl) (tx_p2_12 hk) kk
theorem tx_s2_13 (X : tw_X z cc own nL) (d : decode cc pc = .ok (.putfield ix, 3)) (i : Nat) (hi : lw_tbl[i]? = some (.fieldLink own ix "TreasureWalk$Data" "chestSpot" "I")) (hk : tx_kd k = 2) (kk : ∀ σ1, tx_Rf z res (K σ1) σ1 (pc + 3) L st) : tx_Rf z res (tw_lt (tx_up σ k 13 x) K) σ pc L (.int x :: .ref (tw_zB z + k) :: st) := tx_r_putf (T := TX2) (f := 13) (ty := .int) X d i hi tw_in2 tyX2 tyX2_ok nmX2 rfl (by decide) rfl (by decide +kernel) rfl rfl (tx_kd_lt hk (by decide)) (tx_E2 hk) (Nat.le_of_ble_eq_true rfl) (tx_p2_13 hk) kk
theorem tx_g7_0 (X : tw_X z cc own nL) (d : decode cc pc = .ok (.getfield ix, 3)) (i : Nat) (hi : lw_tbl[i]? = some (.fieldLink own ix "TreasureWalk$Row" "numbers" "[I")) (hk : tx_kd k = 7) (hv : (tx_fs7 (tw_zB z) σ k)[0]? = some v) (kk : tx_Rf z res E σ (pc + 3) L (v :: st)) : tx_Rf z res E σ pc L (.ref (tw_zB z + k) :: st) := tx_r_getf (T := TX7) (f := 0) X d i hi tw_in7 rfl (by decide) (tx_kd_lt hk (by decide)) (tx_E7 hk) hv kk
end TWF

def tx_P_X0_add (th : Nat) (x0 : Int32) (σ : tx_Sg) : Option (tx_Sg) :=
tw_lt (x0 >>> ((5 : Int32) &&& 31)) (fun (v1 : Int32) =>
tw_jn (fun (a2 : tx_Sg) =>
some a2) (fun (j3 : (tx_Sg) → Option (tx_Sg)) =>
if v1 < 0 then (j3 σ)
else (if (Int32.ofNat (tw_ln (th + 1))) ≤ v1 then (j3 σ)
else (tw_ck (tw_ok v1 (tw_ln (th + 1))) (
tw_ck (tw_ok v1 (tw_ln (th + 1))) (tw_lt (tx_up σ (th + 1) (Int32.toNatClampNeg v1) ((σ (th + 1) (Int32.toNatClampNeg v1)) ||| ((1 : Int32) <<< ((x0 &&& (31 : Int32)) &&& 31)))) (fun (σ4 : tx_Sg) =>
j3 σ4)))))))
set_option maxRecDepth 100000 in
set_option maxHeartbeats 4000000 in
theorem tx_m_X0_add {l : Launch} {B : Nat} {D : tw_G} {C : Nat → ClassId} {S : Nat → Nat} {th : Nat} {x0 : Int32} {σ : tx_Sg} (hth : tx_kd th = 0) {r : tx_Sg} (h : tx_P_X0_add th x0 σ = some r) : tx_Met l B D C S yX0_add cX0_add 3 none ({ frames := 0, cells := 0, slots := 0, locals := 0 } : Room) [.ref (B + th), .int x0] σ (none) r := by
  refine tx_metOfP (tx_P_X0_add th x0 σ) r h (fun r => (none, r)) (by decide +kernel) (Nat.le_of_ble_eq_true rfl) ⟨rfl, rfl⟩ ?_
  intro z el eB eD eC eS hfr hlo hcs X hret hQ
  subst el eB eD eC eS
  have X : tw_X z cX0_add "TreasureWalk$Cells" 3 := X
  show tx_Rf z r _ σ 0 [(0, .ref (tw_zB z + th)), (1, .int x0)] []
  unfold tx_P_X0_add
  refine tx_r_iload_n X dX0_add_0 rfl 1 rfl ?_
  refine tx_r_iconst X dX0_add_1 (v := (5 : Int32)) (by decide) ?_
  refine tx_r_ishr X dX0_add_2 ?_
  refine tx_r_istore_n X dX0_add_3 rfl (by decide) (LL := fun v1 => [(2, .int v1), (0, .ref (tw_zB z + th)), (1, .int x0)]) (fun _ => rfl) (fun v1 => ?_)
  refine tx_r_iload_n X dX0_add_4 rfl 0 rfl ?_
  refine tx_r_jn (α := tx_Sg) (σJ := fun a2 => a2) (pcJ := 32) (LJ := fun a2 => []) (stJ := fun a2 => []) (ok := fun a2 => True) (fun a2 hoka2 => ?_) (fun j3 hj3 => ?_)
  ·
    exact tx_r_vret X dX0_add_32 hret hQ rfl
  refine tx_r_if_lt X dX0_add_5 (tgt := 32) (by decide) ?_ ?_
  ·
    exact tx_Rf.sub [] rfl (hj3 σ trivial)
  ·
    refine tx_r_iload_n X dX0_add_8 rfl 0 rfl ?_
    refine tx_r_aload_n X dX0_add_9 rfl 1 rfl ?_
    refine tx_g0_0 (k := th) (v := .ref (tw_zB z + (th + 1))) X dX0_add_10 _ tw_w90 hth rfl ?_
    refine tx_r_alenI (k := (th + 1)) X dX0_add_13 (tx_k0_0 hth) rfl ?_
    refine tx_r_icmp_ge X dX0_add_14 (tgt := 32) (by decide) ?_ ?_
    ·
      exact tx_Rf.sub [] rfl (hj3 σ trivial)
    ·
      refine tx_r_aload_n X dX0_add_17 rfl 1 rfl ?_
      refine tx_g0_0 (k := th) (v := .ref (tw_zB z + (th + 1))) X dX0_add_18 _ tw_w90 hth rfl ?_
      refine tx_r_iload_n X dX0_add_21 rfl 0 rfl ?_
      refine tx_r_dup2 X dX0_add_22 rfl rfl ?_
      refine tx_r_iald (k := (th + 1)) X dX0_add_23 (tx_k0_0 hth) ?_
      refine tx_r_iconst X dX0_add_24 (v := (1 : Int32)) (by decide) ?_
      refine tx_r_iload_n X dX0_add_25 rfl 2 rfl ?_
      refine tx_r_bipush X dX0_add_26 (v := (31 : Int32)) (by decide) ?_
      refine tx_r_iand X dX0_add_28 ?_
      refine tx_r_ishl X dX0_add_29 ?_
      refine tx_r_ior X dX0_add_30 ?_
      refine tx_r_iast (k := (th + 1)) X dX0_add_31 (tx_k0_0 hth) (fun σ4 => ?_)
      exact tx_Rf.sub [] rfl (hj3 σ4 trivial)
theorem tx_c_X0_add {ρ : Type} {z : tw_Z} {cc : ByteArray} {own : String} {nL pc : Nat} {σ : tx_Sg} {L : List (Nat × Value)} {st : List Value} {ix : Nat} {th : Nat} {x0 : Int32} (X : tw_X z cc own nL) (d : decode cc pc = .ok (.invokevirtual ix, 3)) (i : Nat) (hi : lw_tbl[i]? = some (.methodLink own ix yX0_add)) (hth : tx_kd th = 0) {res : ρ} {E : Option ρ} {r : tx_Sg} (h : tx_P_X0_add th x0 σ = some r) (h1 : 1 ≤ (tw_zR z).frames) (h2 : 22 ≤ (tw_zR z).locals) (hcs : tw_zcells z ≤ (tw_zR z).cells ∧ tw_zslots z ≤ (tw_zR z).slots) (hst : (st.map fun v => v.category).sum ≤ 8) (_ : True) (kk : tx_Rf z res E r (pc + 3) L (st)) : tx_Rf z res E σ pc L (.int x0 :: .ref (tw_zB z + th) :: st) := tx_r_callV (As := [.int x0]) X d (tx_m_X0_add hth h) tw_y_X0_add tw_v_X0_add i hi rfl (tx_kd_lt hth (by decide)) (tx_E0 hth) rfl ⟨rfl, rfl, h1, h2⟩ hcs hst rfl kk
def tx_P_J7_fill_53178 (n : Nat) (r0 : Nat) (x1 : Int32) (σ : tx_Sg) : Option (tx_Sg) :=
tw_lt (0 : Int32) (fun (v1 : Int32) =>
tw_lt (Int32.ofNat (tw_ln r0)) (fun (v2 : Int32) =>
tw_lp (fun (k4 : (Int32 × tx_Sg) → Option (tx_Sg)) (a3 : Int32 × tx_Sg) =>
if v2 ≤ a3.1 then (some a3.2)
else (tw_ck (tw_ok a3.1 (tw_ln r0)) (tw_lt (tx_up a3.2 r0 (Int32.toNatClampNeg a3.1) x1) (fun (σ5 : tx_Sg) =>
tw_lt (a3.1 + (1 : Int32)) (fun (v6 : Int32) =>
k4 (v6, σ5)))))) n (v1, σ)))
set_option maxRecDepth 100000 in
set_option maxHeartbeats 4000000 in
theorem tx_m_J7_fill_53178 {l : Launch} {B : Nat} {D : tw_G} {C : Nat → ClassId} {S : Nat → Nat} {n : Nat} {r0 : Nat} {x1 : Int32} {σ : tx_Sg} (hr0 : tx_kd r0 = 13) {r : tx_Sg} (h : tx_P_J7_fill_53178 n r0 x1 σ = some r) : tx_Met l B D C S yJ7_fill_53178 cJ7_fill_53178 4 none ({ frames := 0, cells := 0, slots := 0, locals := 0 } : Room) [.ref (B + r0), .int x1] σ (none) r := by
  refine tx_metOfP (tx_P_J7_fill_53178 n r0 x1 σ) r h (fun r => (none, r)) (by decide +kernel) (Nat.le_of_ble_eq_true rfl) ⟨rfl, rfl⟩ ?_
  intro z el eB eD eC eS hfr hlo hcs X hret hQ
  subst el eB eD eC eS
  have X : tw_X z cJ7_fill_53178 "java/util/Arrays" 4 := X
  show tx_Rf z r _ σ 0 [(0, .ref (tw_zB z + r0)), (1, .int x1)] []
  unfold tx_P_J7_fill_53178
  refine tx_r_iconst X dJ7_fill_53178_0 (v := (0 : Int32)) (by decide) ?_
  refine tx_r_istore_n X dJ7_fill_53178_1 rfl (by decide) (LL := fun v1 => [(2, .int v1), (0, .ref (tw_zB z + r0)), (1, .int x1)]) (fun _ => rfl) (fun v1 => ?_)
  refine tx_r_aload_n X dJ7_fill_53178_2 rfl 1 rfl ?_
  refine tx_r_alenI (k := r0) X dJ7_fill_53178_3 hr0 rfl ?_
  refine tx_r_istore_n X dJ7_fill_53178_4 rfl (by decide) (LL := fun v2 => [(3, .int v2), (2, .int v1), (0, .ref (tw_zB z + r0)), (1, .int x1)]) (fun _ => rfl) (fun v2 => ?_)
  refine tx_r_lp (α := Int32 × tx_Sg) (σJ := fun a3 => a3.2) (pcJ := 5) (LJ := fun a3 => [(3, .int v2), (2, .int a3.1), (0, .ref (tw_zB z + r0)), (1, .int x1)]) (stJ := fun a3 => []) (fun k4 hk4 a3 => ?_) n (v1, σ)
  refine tx_r_iload_n X dJ7_fill_53178_5 rfl 1 rfl ?_
  refine tx_r_iload_n X dJ7_fill_53178_6 rfl 0 rfl ?_
  refine tx_r_icmp_ge X dJ7_fill_53178_7 (tgt := 20) (by decide) ?_ ?_
  ·
    exact tx_r_vret X dJ7_fill_53178_20 hret hQ rfl
  ·
    refine tx_r_aload_n X dJ7_fill_53178_10 rfl 2 rfl ?_
    refine tx_r_iload_n X dJ7_fill_53178_11 rfl 1 rfl ?_
    refine tx_r_iload_n X dJ7_fill_53178_12 rfl 3 rfl ?_
    refine tx_r_iast (k := r0) X dJ7_fill_53178_13 hr0 (fun σ5 => ?_)
    refine tx_r_iinc X dJ7_fill_53178_14 1 rfl (v := (1 : Int32)) (by decide) (by decide) (LL := fun v6 => [(2, .int v6), (3, .int v2), (0, .ref (tw_zB z + r0)), (1, .int x1)]) (fun _ => rfl) (fun v6 => ?_)
    refine tx_r_goto X dJ7_fill_53178_17 (tgt := 5) (by decide) ?_
    exact tx_Rf.sub [1, 0, 2, 3] rfl (hk4 (v6, σ5))
theorem tx_c_J7_fill_53178 {ρ : Type} {z : tw_Z} {cc : ByteArray} {own : String} {nL pc : Nat} {σ : tx_Sg} {L : List (Nat × Value)} {st : List Value} {ix : Nat} {n : Nat} {r0 : Nat} {x1 : Int32} (X : tw_X z cc own nL) (d : decode cc pc = .ok (.invokestatic ix, 3)) (i : Nat) (hi : lw_tbl[i]? = some (.methodLink own ix yJ7_fill_53178)) (hr0 : tx_kd r0 = 13) {res : ρ} {E : Option ρ} {r : tx_Sg} (h : tx_P_J7_fill_53178 n r0 x1 σ = some r) (h1 : 1 ≤ (tw_zR z).frames) (h2 : 23 ≤ (tw_zR z).locals) (hcs : tw_zcells z ≤ (tw_zR z).cells ∧ tw_zslots z ≤ (tw_zR z).slots) (hst : (st.map fun v => v.category).sum ≤ 8) (_ : True) (kk : tx_Rf z res E r (pc + 3) L (st)) : tx_Rf z res E σ pc L (.int x1 :: .ref (tw_zB z + r0) :: st) := tx_r_callS (As := [.ref (tw_zB z + r0), .int x1]) X d (tx_m_J7_fill_53178 hr0 h) tw_y_J7_fill_53178 tw_v_J7_fill_53178 i hi rfl ⟨rfl, rfl, h1, h2⟩ hcs hst rfl kk
def tx_P_X0_clear (n : Nat) (th : Nat) (σ : tx_Sg) : Option (tx_Sg) :=
tw_bd (tx_P_J7_fill_53178 n (th + 1) (0 : Int32) σ) (fun r1 =>
some r1)
set_option maxRecDepth 100000 in
set_option maxHeartbeats 4000000 in
theorem tx_m_X0_clear {l : Launch} {B : Nat} {D : tw_G} {C : Nat → ClassId} {S : Nat → Nat} {n : Nat} {th : Nat} {σ : tx_Sg} (hth : tx_kd th = 0) {r : tx_Sg} (h : tx_P_X0_clear n th σ = some r) : tx_Met l B D C S yX0_clear cX0_clear 1 none ({ frames := 1, cells := 0, slots := 0, locals := 23 } : Room) [.ref (B + th)] σ (none) r := by
  refine tx_metOfP (tx_P_X0_clear n th σ) r h (fun r => (none, r)) (by decide +kernel) (Nat.le_of_ble_eq_true rfl) ⟨rfl, rfl⟩ ?_
  intro z el eB eD eC eS hfr hlo hcs X hret hQ
  subst el eB eD eC eS
  have X : tw_X z cX0_clear "TreasureWalk$Cells" 1 := X
  show tx_Rf z r _ σ 0 [(0, .ref (tw_zB z + th))] []
  unfold tx_P_X0_clear
  refine tx_r_aload_n X dX0_clear_0 rfl 0 rfl ?_
  refine tx_g0_0 (k := th) (v := .ref (tw_zB z + (th + 1))) X dX0_clear_1 _ tw_w90 hth rfl ?_
  refine tx_r_iconst X dX0_clear_4 (v := (0 : Int32)) (by decide) ?_
  refine tx_r_bd (fun r1 hr1 => ?_)
  refine tx_c_J7_fill_53178 X dX0_clear_5 _ tw_w243 (tx_k0_0 hth) hr1 (tw_le hfr rfl) (tw_le hlo rfl) hcs (Nat.le_of_ble_eq_true rfl) trivial ?_
  exact tx_r_vret X dX0_clear_8 hret hQ rfl
theorem tx_c_X0_clear {ρ : Type} {z : tw_Z} {cc : ByteArray} {own : String} {nL pc : Nat} {σ : tx_Sg} {L : List (Nat × Value)} {st : List Value} {ix : Nat} {n : Nat} {th : Nat} (X : tw_X z cc own nL) (d : decode cc pc = .ok (.invokevirtual ix, 3)) (i : Nat) (hi : lw_tbl[i]? = some (.methodLink own ix yX0_clear)) (hth : tx_kd th = 0) {res : ρ} {E : Option ρ} {r : tx_Sg} (h : tx_P_X0_clear n th σ = some r) (h1 : 2 ≤ (tw_zR z).frames) (h2 : 43 ≤ (tw_zR z).locals) (hcs : tw_zcells z ≤ (tw_zR z).cells ∧ tw_zslots z ≤ (tw_zR z).slots) (hst : (st.map fun v => v.category).sum ≤ 8) (_ : True) (kk : tx_Rf z res E r (pc + 3) L (st)) : tx_Rf z res E σ pc L (.ref (tw_zB z + th) :: st) := tx_r_callV (As := []) X d (tx_m_X0_clear hth h) tw_y_X0_clear tw_v_X0_clear i hi rfl (tx_kd_lt hth (by decide)) (tx_E0 hth) rfl ⟨rfl, rfl, h1, h2⟩ hcs hst rfl kk
def tx_P_X7_fill (n : Nat) (th : Nat) (x0 : Int32) (σ : tx_Sg) : Option (tx_Sg) :=
tw_bd (tx_P_J7_fill_53178 n (th + 1) x0 σ) (fun r1 =>
some r1)
set_option maxRecDepth 100000 in
set_option maxHeartbeats 4000000 in
theorem tx_m_X7_fill {l : Launch} {B : Nat} {D : tw_G} {C : Nat → ClassId} {S : Nat → Nat} {n : Nat} {th : Nat} {x0 : Int32} {σ : tx_Sg} (hth : tx_kd th = 7) {r : tx_Sg} (h : tx_P_X7_fill n th x0 σ = some r) : tx_Met l B D C S yX7_fill cX7_fill 2 none ({ frames := 1, cells := 0, slots := 0, locals := 23 } : Room) [.ref (B + th), .int x0] σ (none) r := by
  refine tx_metOfP (tx_P_X7_fill n th x0 σ) r h (fun r => (none, r)) (by decide +kernel) (Nat.le_of_ble_eq_true rfl) ⟨rfl, rfl⟩ ?_
  intro z el eB eD eC eS hfr hlo hcs X hret hQ
  subst el eB eD eC eS
  have X : tw_X z cX7_fill "TreasureWalk$Row" 2 := X
  show tx_Rf z r _ σ 0 [(0, .ref (tw_zB z + th)), (1, .int x0)] []
  unfold tx_P_X7_fill
  refine tx_r_aload_n X dX7_fill_0 rfl 0 rfl ?_
  refine tx_g7_0 (k := th) (v := .ref (tw_zB z + (th + 1))) X dX7_fill_1 _ tw_w101 hth rfl ?_
  refine tx_r_iload_n X dX7_fill_4 rfl 1 rfl ?_
  refine tx_r_bd (fun r1 hr1 => ?_)
  refine tx_c_J7_fill_53178 X dX7_fill_5 _ tw_w257 (tx_k7_0 hth) hr1 (tw_le hfr rfl) (tw_le hlo rfl) hcs (Nat.le_of_ble_eq_true rfl) trivial ?_
  exact tx_r_vret X dX7_fill_8 hret hQ rfl
theorem tx_c_X7_fill {ρ : Type} {z : tw_Z} {cc : ByteArray} {own : String} {nL pc : Nat} {σ : tx_Sg} {L : List (Nat × Value)} {st : List Value} {ix : Nat} {n : Nat} {th : Nat} {x0 : Int32} (X : tw_X z cc own nL) (d : decode cc pc = .ok (.invokevirtual ix, 3)) (i : Nat) (hi : lw_tbl[i]? = some (.methodLink own ix yX7_fill)) (hth : tx_kd th = 7) {res : ρ} {E : Option ρ} {r : tx_Sg} (h : tx_P_X7_fill n th x0 σ = some r) (h1 : 2 ≤ (tw_zR z).frames) (h2 : 44 ≤ (tw_zR z).locals) (hcs : tw_zcells z ≤ (tw_zR z).cells ∧ tw_zslots z ≤ (tw_zR z).slots) (hst : (st.map fun v => v.category).sum ≤ 8) (_ : True) (kk : tx_Rf z res E r (pc + 3) L (st)) : tx_Rf z res E σ pc L (.int x0 :: .ref (tw_zB z + th) :: st) := tx_r_callV (As := [.int x0]) X d (tx_m_X7_fill hth h) tw_y_X7_fill tw_v_X7_fill i hi rfl (tx_kd_lt hth (by decide)) (tx_E7 hth) rfl ⟨rfl, rfl, h1, h2⟩ hcs hst rfl kk
def tx_P_X1_clear (n : Nat) (th : Nat) (σ : tx_Sg) : Option (tx_Sg) :=
tw_lt (tx_up σ th 0 (0 : Int32)) (fun (σ1 : tx_Sg) =>
tw_bd (tx_P_X7_fill n (th + 3) (0 : Int32) σ1) (fun r2 =>
tw_bd (tx_P_X7_fill n (th + 7) (0 : Int32) r2) (fun r3 =>
some r3)))
set_option maxRecDepth 100000 in
set_option maxHeartbeats 4000000 in
theorem tx_m_X1_clear {l : Launch} {B : Nat} {D : tw_G} {C : Nat → ClassId} {S : Nat → Nat} {n : Nat} {th : Nat} {σ : tx_Sg} (hth : tx_kd th = 1) {r : tx_Sg} (h : tx_P_X1_clear n th σ = some r) : tx_Met l B D C S yX1_clear cX1_clear 1 none ({ frames := 2, cells := 0, slots := 0, locals := 44 } : Room) [.ref (B + th)] σ (none) r := by
  refine tx_metOfP (tx_P_X1_clear n th σ) r h (fun r => (none, r)) (by decide +kernel) (Nat.le_of_ble_eq_true rfl) ⟨rfl, rfl⟩ ?_
  intro z el eB eD eC eS hfr hlo hcs X hret hQ
  subst el eB eD eC eS
  have X : tw_X z cX1_clear "TreasureWalk$Clues" 1 := X
  show tx_Rf z r _ σ 0 [(0, .ref (tw_zB z + th))] []
  unfold tx_P_X1_clear
  refine tx_r_aload_n X dX1_clear_0 rfl 0 rfl ?_
  refine tx_r_iconst X dX1_clear_1 (v := (0 : Int32)) (by decide) ?_
  refine tx_s1_0 (k := th) X dX1_clear_2 _ tw_w113 hth (fun σ1 => ?_)
  refine tx_r_aload_n X dX1_clear_5 rfl 0 rfl ?_
  refine tx_g1_2 (k := th) (v := .ref (tw_zB z + (th + 3))) X dX1_clear_6 _ tw_w121 hth rfl ?_
  refine tx_r_iconst X dX1_clear_9 (v := (0 : Int32)) (by decide) ?_
  refine tx_r_bd (fun r2 hr2 => ?_)
  refine tx_c_X7_fill X dX1_clear_10 _ tw_w262 (tx_k1_2 hth) hr2 (tw_le hfr rfl) (tw_le hlo rfl) hcs (Nat.le_of_ble_eq_true rfl) trivial ?_
  refine tx_r_aload_n X dX1_clear_13 rfl 0 rfl ?_
  refine tx_g1_4 (k := th) (v := .ref (tw_zB z + (th + 7))) X dX1_clear_14 _ tw_w124 hth rfl ?_
  refine tx_r_iconst X dX1_clear_17 (v := (0 : Int32)) (by decide) ?_
  refine tx_r_bd (fun r3 hr3 => ?_)
  refine tx_c_X7_fill X dX1_clear_18 _ tw_w262 (tx_k1_4 hth) hr3 (tw_le hfr rfl) (tw_le hlo rfl) hcs (Nat.le_of_ble_eq_true rfl) trivial ?_
  exact tx_r_vret X dX1_clear_21 hret hQ rfl
theorem tx_c_X1_clear {ρ : Type} {z : tw_Z} {cc : ByteArray} {own : String} {nL pc : Nat} {σ : tx_Sg} {L : List (Nat × Value)} {st : List Value} {ix : Nat} {n : Nat} {th : Nat} (X : tw_X z cc own nL) (d : decode cc pc = .ok (.invokevirtual ix, 3)) (i : Nat) (hi : lw_tbl[i]? = some (.methodLink own ix yX1_clear)) (hth : tx_kd th = 1) {res : ρ} {E : Option ρ} {r : tx_Sg} (h : tx_P_X1_clear n th σ = some r) (h1 : 3 ≤ (tw_zR z).frames) (h2 : 64 ≤ (tw_zR z).locals) (hcs : tw_zcells z ≤ (tw_zR z).cells ∧ tw_zslots z ≤ (tw_zR z).slots) (hst : (st.map fun v => v.category).sum ≤ 8) (_ : True) (kk : tx_Rf z res E r (pc + 3) L (st)) : tx_Rf z res E σ pc L (.ref (tw_zB z + th) :: st) := tx_r_callV (As := []) X d (tx_m_X1_clear hth h) tw_y_X1_clear tw_v_X1_clear i hi rfl (tx_kd_lt hth (by decide)) (tx_E1 hth) rfl ⟨rfl, rfl, h1, h2⟩ hcs hst rfl kk
def tx_P_X11_spotAt (x0 : Int32) (x1 : Int32) (σ : tx_Sg) : Option (Int32) :=
some ((((x1 + (1 : Int32)) * (32 : Int32)) + x0) + (1 : Int32))
set_option maxRecDepth 100000 in
set_option maxHeartbeats 4000000 in
theorem tx_m_X11_spotAt {l : Launch} {B : Nat} {D : tw_G} {C : Nat → ClassId} {S : Nat → Nat} {x0 : Int32} {x1 : Int32} {σ : tx_Sg}  {r : Int32} (h : tx_P_X11_spotAt x0 x1 σ = some r) : tx_Met l B D C S yX11_spotAt cX11_spotAt 2 (some .int) ({ frames := 0, cells := 0, slots := 0, locals := 0 } : Room) [.int x0, .int x1] σ (some (.int r)) σ := by
  refine tx_metOfP (tx_P_X11_spotAt x0 x1 σ) r h (fun r => (some (.int r), σ)) (by decide +kernel) (Nat.le_of_ble_eq_true rfl) ⟨rfl, rfl⟩ ?_
  intro z el eB eD eC eS hfr hlo hcs X hret hQ
  subst el eB eD eC eS
  have X : tw_X z cX11_spotAt "TreasureWalk" 2 := X
  show tx_Rf z r _ σ 0 [(0, .int x0), (1, .int x1)] []
  unfold tx_P_X11_spotAt
  refine tx_r_iload_n X dX11_spotAt_0 rfl 1 rfl ?_
  refine tx_r_iconst X dX11_spotAt_1 (v := (1 : Int32)) (by decide) ?_
  refine tx_r_iadd X dX11_spotAt_2 ?_
  refine tx_r_bipush X dX11_spotAt_3 (v := (32 : Int32)) (by decide) ?_
  refine tx_r_imul X dX11_spotAt_5 ?_
  refine tx_r_iload_n X dX11_spotAt_6 rfl 0 rfl ?_
  refine tx_r_iadd X dX11_spotAt_7 ?_
  refine tx_r_iconst X dX11_spotAt_8 (v := (1 : Int32)) (by decide) ?_
  refine tx_r_iadd X dX11_spotAt_9 ?_
  exact tx_r_iret X dX11_spotAt_10 hret hQ rfl
theorem tx_c_X11_spotAtn {ρ : Type} {z : tw_Z} {cc : ByteArray} {own : String} {nL pc : Nat} {σ : tx_Sg} {L : List (Nat × Value)} {st : List Value} {ix : Nat} {host : String} {x0 : Int32} {x1 : Int32} (X : tw_X z cc own nL) (d : decode cc pc = .ok (.invokestatic ix, 3)) (i : Nat) (hi : lw_tbl[i]? = some (.methodLinkNest own ix yX11_spotAt host))  {res : ρ} {E : Option ρ} {r : Int32} (h : tx_P_X11_spotAt x0 x1 σ = some r) (h1 : 1 ≤ (tw_zR z).frames) (h2 : 21 ≤ (tw_zR z).locals) (hcs : tw_zcells z ≤ (tw_zR z).cells ∧ tw_zslots z ≤ (tw_zR z).slots) (hst : (st.map fun v => v.category).sum ≤ 8) (_ : True) (kk : tx_Rf z res E σ (pc + 3) L (.int r :: st)) : tx_Rf z res E σ pc L (.int x1 :: .int x0 :: st) := tx_r_callSN (As := [.int x0, .int x1]) X d (tx_m_X11_spotAt  h) tw_y_X11_spotAt tw_v_X11_spotAt i hi rfl ⟨rfl, rfl, h1, h2⟩ hcs hst rfl kk
def tx_P_X2_begin (n : Nat) (th : Nat) (x0 : Int32) (x1 : Int32) (σ : tx_Sg) : Option (tx_Sg) :=
tw_lt (tx_up σ th 0 x0) (fun (σ1 : tx_Sg) =>
tw_lt (tx_up σ1 th 1 x1) (fun (σ2 : tx_Sg) =>
tw_bd (tx_P_X0_clear n (th + 1) σ2) (fun r3 =>
tw_lt (0 : Int32) (fun (v4 : Int32) =>
tw_lp (fun (k6 : (Int32 × tx_Sg) → Option (tx_Sg)) (a5 : Int32 × tx_Sg) =>
tw_jn (fun (a7 : Unit) =>
tw_bd (tx_P_X0_clear n (th + 3) a5.2) (fun r9 =>
tw_bd (tx_P_X7_fill n (th + 5) (0 : Int32) r9) (fun r10 =>
tw_lt (tx_up r10 th 5 (0 : Int32)) (fun (σ11 : tx_Sg) =>
tw_bd (tx_P_X1_clear n (th + 13) σ11) (fun r12 =>
tw_lt (tx_up r12 th 10 (0 : Int32)) (fun (σ13 : tx_Sg) =>
tw_lt (tx_up σ13 th 11 (0 : Int32)) (fun (σ14 : tx_Sg) =>
tw_lt (tx_up σ14 th 12 (0 : Int32)) (fun (σ15 : tx_Sg) =>
tw_lt (tx_up σ15 th 13 (0 : Int32)) (fun (σ16 : tx_Sg) =>
some σ16))))))))) (fun (j8 : (Unit) → Option (tx_Sg)) =>
if (a5.2 th 1) ≤ a5.1 then (j8 ())
else (if (20 : Int32) ≤ a5.1 then (j8 ())
else (tw_lt (0 : Int32) (fun (v17 : Int32) =>
tw_lp (fun (k19 : (Int32 × Int32 × tx_Sg) → Option (tx_Sg)) (a18 : Int32 × Int32 × tx_Sg) =>
tw_jn (fun (a20 : Unit) =>
tw_lt (a18.1 + (1 : Int32)) (fun (v22 : Int32) =>
k6 (v22, a18.2.2))) (fun (j21 : (Unit) → Option (tx_Sg)) =>
if (a18.2.2 th 0) ≤ a18.2.1 then (j21 ())
else (if (20 : Int32) ≤ a18.2.1 then (j21 ())
else (tw_bd (tx_P_X11_spotAt a18.2.1 a18.1 a18.2.2) (fun r23 =>
tw_bd (tx_P_X0_add (th + 1) r23 a18.2.2) (fun r24 =>
tw_lt (a18.2.1 + (1 : Int32)) (fun (v25 : Int32) =>
k19 (a18.1, v25, r24)))))))) n (a5.1, v17, a5.2)))))) n (v4, r3)))))
set_option maxRecDepth 100000 in
set_option maxHeartbeats 4000000 in
theorem tx_m_X2_begin {l : Launch} {B : Nat} {D : tw_G} {C : Nat → ClassId} {S : Nat → Nat} {n : Nat} {th : Nat} {x0 : Int32} {x1 : Int32} {σ : tx_Sg} (hth : tx_kd th = 2) {r : tx_Sg} (h : tx_P_X2_begin n th x0 x1 σ = some r) : tx_Met l B D C S yX2_begin cX2_begin 5 none ({ frames := 3, cells := 0, slots := 0, locals := 64 } : Room) [.ref (B + th), .int x0, .int x1] σ (none) r := by
  refine tx_metOfP (tx_P_X2_begin n th x0 x1 σ) r h (fun r => (none, r)) (by decide +kernel) (Nat.le_of_ble_eq_true rfl) ⟨rfl, rfl⟩ ?_
  intro z el eB eD eC eS hfr hlo hcs X hret hQ
  subst el eB eD eC eS
  have X : tw_X z cX2_begin "TreasureWalk$Data" 5 := X
  show tx_Rf z r _ σ 0 [(0, .ref (tw_zB z + th)), (1, .int x0), (2, .int x1)] []
  unfold tx_P_X2_begin
  refine tx_r_aload_n X dX2_begin_0 rfl 0 rfl ?_
  refine tx_r_iload_n X dX2_begin_1 rfl 1 rfl ?_
  refine tx_s2_0 (k := th) X dX2_begin_2 _ tw_w164 hth (fun σ1 => ?_)
  refine tx_r_aload_n X dX2_begin_5 rfl 0 rfl ?_
  refine tx_r_iload_n X dX2_begin_6 rfl 2 rfl ?_
  refine tx_s2_1 (k := th) X dX2_begin_7 _ tw_w167 hth (fun σ2 => ?_)
  refine tx_r_aload_n X dX2_begin_10 rfl 0 rfl ?_
  refine tx_g2_2 (k := th) (v := .ref (tw_zB z + (th + 1))) X dX2_begin_11 _ tw_w170 hth rfl ?_
  refine tx_r_bd (fun r3 hr3 => ?_)
  refine tx_c_X0_clear X dX2_begin_14 _ tw_w239 (tx_k2_2 hth) hr3 (tw_le hfr rfl) (tw_le hlo rfl) hcs (Nat.le_of_ble_eq_true rfl) trivial ?_
  refine tx_r_iconst X dX2_begin_17 (v := (0 : Int32)) (by decide) ?_
  refine tx_r_istore_n X dX2_begin_18 rfl (by decide) (LL := fun v4 => [(3, .int v4), (0, .ref (tw_zB z + th)), (1, .int x0), (2, .int x1)]) (fun _ => rfl) (fun v4 => ?_)
  refine tx_Rf.sub [0, 1] rfl ?_
  refine tx_r_lp (α := Int32 × tx_Sg) (σJ := fun a5 => a5.2) (pcJ := 19) (LJ := fun a5 => [(3, .int a5.1), (0, .ref (tw_zB z + th))]) (stJ := fun a5 => []) (fun k6 hk6 a5 => ?_) n (v4, r3)
  refine tx_r_iload_n X dX2_begin_19 rfl 0 rfl ?_
  refine tx_r_aload_n X dX2_begin_20 rfl 1 rfl ?_
  refine tx_g2_1 (k := th) (v := .int (a5.2 th 1)) X dX2_begin_21 _ tw_w167 hth rfl ?_
  refine tx_r_jn (α := Unit) (σJ := fun a7 => a5.2) (pcJ := 77) (LJ := fun a7 => [(0, .ref (tw_zB z + th))]) (stJ := fun a7 => []) (ok := fun a7 => True) (fun a7 hoka7 => ?_) (fun j8 hj8 => ?_)
  ·
    refine tx_r_aload_n X dX2_begin_77 rfl 0 rfl ?_
    refine tx_g2_3 (k := th) (v := .ref (tw_zB z + (th + 3))) X dX2_begin_78 _ tw_w175 hth rfl ?_
    refine tx_r_bd (fun r9 hr9 => ?_)
    refine tx_c_X0_clear X dX2_begin_81 _ tw_w239 (tx_k2_3 hth) hr9 (tw_le hfr rfl) (tw_le hlo rfl) hcs (Nat.le_of_ble_eq_true rfl) trivial ?_
    refine tx_r_aload_n X dX2_begin_84 rfl 0 rfl ?_
    refine tx_g2_4 (k := th) (v := .ref (tw_zB z + (th + 5))) X dX2_begin_85 _ tw_w178 hth rfl ?_
    refine tx_r_iconst X dX2_begin_88 (v := (0 : Int32)) (by decide) ?_
    refine tx_r_bd (fun r10 hr10 => ?_)
    refine tx_c_X7_fill X dX2_begin_89 _ tw_w253 (tx_k2_4 hth) hr10 (tw_le hfr rfl) (tw_le hlo rfl) hcs (Nat.le_of_ble_eq_true rfl) trivial ?_
    refine tx_r_aload_n X dX2_begin_92 rfl 0 rfl ?_
    refine tx_r_iconst X dX2_begin_93 (v := (0 : Int32)) (by decide) ?_
    refine tx_s2_5 (k := th) X dX2_begin_94 _ tw_w182 hth (fun σ11 => ?_)
    refine tx_r_aload_n X dX2_begin_97 rfl 0 rfl ?_
    refine tx_g2_9 (k := th) (v := .ref (tw_zB z + (th + 13))) X dX2_begin_98 _ tw_w192 hth rfl ?_
    refine tx_r_bd (fun r12 hr12 => ?_)
    refine tx_c_X1_clear X dX2_begin_101 _ tw_w258 (tx_k2_9 hth) hr12 (tw_le hfr rfl) (tw_le hlo rfl) hcs (Nat.le_of_ble_eq_true rfl) trivial ?_
    refine tx_r_aload_n X dX2_begin_104 rfl 0 rfl ?_
    refine tx_r_iconst X dX2_begin_105 (v := (0 : Int32)) (by decide) ?_
    refine tx_s2_10 (k := th) X dX2_begin_106 _ tw_w198 hth (fun σ13 => ?_)
    refine tx_r_aload_n X dX2_begin_109 rfl 0 rfl ?_
    refine tx_r_iconst X dX2_begin_110 (v := (0 : Int32)) (by decide) ?_
    refine tx_s2_11 (k := th) X dX2_begin_111 _ tw_w200 hth (fun σ14 => ?_)
    refine tx_r_aload_n X dX2_begin_114 rfl 0 rfl ?_
    refine tx_r_iconst X dX2_begin_115 (v := (0 : Int32)) (by decide) ?_
    refine tx_s2_12 (k := th) X dX2_begin_116 _ tw_w202 hth (fun σ15 => ?_)
    refine tx_r_aload_n X dX2_begin_119 rfl 0 rfl ?_
    refine tx_r_iconst X dX2_begin_120 (v := (0 : Int32)) (by decide) ?_
    refine tx_s2_13 (k := th) X dX2_begin_121 _ tw_w204 hth (fun σ16 => ?_)
    exact tx_r_vret X dX2_begin_124 hret hQ rfl
  refine tx_r_icmp_ge X dX2_begin_24 (tgt := 77) (by decide) ?_ ?_
  ·
    exact tx_Rf.sub [1] rfl (hj8 () trivial)
  ·
    refine tx_r_iload_n X dX2_begin_27 rfl 0 rfl ?_
    refine tx_r_bipush X dX2_begin_28 (v := (20 : Int32)) (by decide) ?_
    refine tx_r_icmp_ge X dX2_begin_30 (tgt := 77) (by decide) ?_ ?_
    ·
      exact tx_Rf.sub [1] rfl (hj8 () trivial)
    ·
      refine tx_r_iconst X dX2_begin_33 (v := (0 : Int32)) (by decide) ?_
      refine tx_r_istore X dX2_begin_34 (by decide) (LL := fun v17 => [(4, .int v17), (3, .int a5.1), (0, .ref (tw_zB z + th))]) (fun _ => rfl) (fun v17 => ?_)
      refine tx_r_lp (α := Int32 × Int32 × tx_Sg) (σJ := fun a18 => a18.2.2) (pcJ := 36) (LJ := fun a18 => [(4, .int a18.2.1), (3, .int a18.1), (0, .ref (tw_zB z + th))]) (stJ := fun a18 => []) (fun k19 hk19 a18 => ?_) n (a5.1, v17, a5.2)
      refine tx_r_iload X dX2_begin_36 0 rfl ?_
      refine tx_r_aload_n X dX2_begin_38 rfl 2 rfl ?_
      refine tx_g2_0 (k := th) (v := .int (a18.2.2 th 0)) X dX2_begin_39 _ tw_w164 hth rfl ?_
      refine tx_r_jn (α := Unit) (σJ := fun a20 => a18.2.2) (pcJ := 71) (LJ := fun a20 => [(3, .int a18.1), (0, .ref (tw_zB z + th))]) (stJ := fun a20 => []) (ok := fun a20 => True) (fun a20 hoka20 => ?_) (fun j21 hj21 => ?_)
      ·
        refine tx_r_iinc X dX2_begin_71 0 rfl (v := (1 : Int32)) (by decide) (by decide) (LL := fun v22 => [(3, .int v22), (0, .ref (tw_zB z + th))]) (fun _ => rfl) (fun v22 => ?_)
        refine tx_r_goto X dX2_begin_74 (tgt := 19) (by decide) ?_
        exact hk6 (v22, a18.2.2)
      refine tx_r_icmp_ge X dX2_begin_42 (tgt := 71) (by decide) ?_ ?_
      ·
        exact tx_Rf.sub [1, 2] rfl (hj21 () trivial)
      ·
        refine tx_r_iload X dX2_begin_45 0 rfl ?_
        refine tx_r_bipush X dX2_begin_47 (v := (20 : Int32)) (by decide) ?_
        refine tx_r_icmp_ge X dX2_begin_49 (tgt := 71) (by decide) ?_ ?_
        ·
          exact tx_Rf.sub [1, 2] rfl (hj21 () trivial)
        ·
          refine tx_r_aload_n X dX2_begin_52 rfl 2 rfl ?_
          refine tx_g2_2 (k := th) (v := .ref (tw_zB z + (th + 1))) X dX2_begin_53 _ tw_w170 hth rfl ?_
          refine tx_r_iload X dX2_begin_56 0 rfl ?_
          refine tx_r_iload_n X dX2_begin_58 rfl 1 rfl ?_
          refine tx_r_bd (fun r23 hr23 => ?_)
          refine tx_c_X11_spotAtn X dX2_begin_59 _ tw_w246  hr23 (tw_le hfr rfl) (tw_le hlo rfl) hcs (Nat.le_of_ble_eq_true rfl) trivial ?_
          refine tx_r_bd (fun r24 hr24 => ?_)
          refine tx_c_X0_add X dX2_begin_62 _ tw_w249 (tx_k2_2 hth) hr24 (tw_le hfr rfl) (tw_le hlo rfl) hcs (Nat.le_of_ble_eq_true rfl) trivial ?_
          refine tx_r_iinc X dX2_begin_65 0 rfl (v := (1 : Int32)) (by decide) (by decide) (LL := fun v25 => [(4, .int v25), (3, .int a18.1), (0, .ref (tw_zB z + th))]) (fun _ => rfl) (fun v25 => ?_)
          refine tx_r_goto X dX2_begin_68 (tgt := 36) (by decide) ?_
          exact hk19 (a18.1, v25, r24)
