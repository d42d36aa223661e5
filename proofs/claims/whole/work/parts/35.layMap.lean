/-! The same rows over the cells that stand while a constructor calls: tw_m_X12_layMap, r_callS -/
/-! THE WORLD: all cells that the law makes lie one behind another from the address B on; ty_kd says what the cell k is, tw_rt what its references are, tw_ln how long an array is; the numbers are σ k i. -/
abbrev ty_Sg : Type := Nat → Nat → Int32
def ty_up (σ : ty_Sg) (k i : Nat) (x : Int32) : ty_Sg := fun a => if a = k then upd (σ a) i x else σ a
theorem ty_up_s {σ : ty_Sg} {k i : Nat} {x : Int32} : ty_up σ k i x k = upd (σ k) i x := if_pos rfl
theorem ty_up_n {σ : ty_Sg} {k i a : Nat} {x : Int32} (h : a ≠ k) : ty_up σ k i x a = σ a := if_neg h
def ty_kd (k : Nat) : Nat := cond (Nat.blt k 1036) (tw_kd k) 99
theorem ty_kd_lt {k c : Nat} (h : ty_kd k = c) (hc : c ≠ 99) : k < 1036 := by
  rcases Nat.lt_or_ge k 1036 with h1 | h1
  · exact h1
  · exfalso
    apply hc
    rw [← h]
    unfold ty_kd
    rw [tw_blt h1]
    rfl
def ty_fs0 (B : Nat) (σ : ty_Sg) (k : Nat) : List Value := [.ref (B + (k + 1))]
def ty_fs1 (B : Nat) (σ : ty_Sg) (k : Nat) : List Value := [.int (σ k 0), .ref (B + (k + 1)), .ref (B + (k + 3)), .ref (B + (k + 5)), .ref (B + (k + 7)), .ref (B + (k + 9)), .ref (B + (k + 11)), .ref (B + (k + 13)), .ref (B + (k + 15)), .ref (B + (k + 17))]
def ty_fs2 (B : Nat) (σ : ty_Sg) (k : Nat) : List Value := [.int (σ k 0), .int (σ k 1), .ref (B + (k + 1)), .ref (B + (k + 3)), .ref (B + (k + 5)), .int (σ k 5), .ref (B + (k + 7)), .ref (B + (k + 9)), .ref (B + (k + 11)), .ref (B + (k + 13)), .int (σ k 10), .int (σ k 11), .int (σ k 12), .int (σ k 13)]
def ty_fs3 (B : Nat) (σ : ty_Sg) (k : Nat) : List Value := [.ref (B + 136), .ref (B + 138)]
def ty_fs4 (B : Nat) (σ : ty_Sg) (k : Nat) : List Value := [.ref (B + 143), .int (σ k 1), .int (σ k 2)]
def ty_fs5 (B : Nat) (σ : ty_Sg) (k : Nat) : List Value := [.ref (B + (k + 3)), .ref (B + (k + 1))]
def ty_fs6 (B : Nat) (σ : ty_Sg) (k : Nat) : List Value := [.ref (B + 401), .int (σ k 1), .ref (B + 403), .int (σ k 3), .int (σ k 4), .int (σ k 5), .int (σ k 6), .int (σ k 7), .int (σ k 8), .int (σ k 9), .int (σ k 10)]
def ty_fs7 (B : Nat) (σ : ty_Sg) (k : Nat) : List Value := [.ref (B + (k + 1))]
def ty_fs8 (B : Nat) (σ : ty_Sg) (k : Nat) : List Value := [.ref (B + 1), .ref (B + 33), .ref (B + 135), .ref (B + 140)]
def ty_fs9 (B : Nat) (σ : ty_Sg) (k : Nat) : List Value := [.ref (B + 1), .ref (B + 134), .int (σ k 2), .ref (B + 436), .ref (B + 438), .ref (B + 440)]
def ty_fs10 (B : Nat) (σ : ty_Sg) (k : Nat) : List Value := [.ref (B + 1), .ref (B + 34), .ref (B + 36), .ref (B + 112)]
def ty_fs11 (B : Nat) (σ : ty_Sg) (k : Nat) : List Value := [.ref (B + 1), .ref (B + 142), .ref (B + 400), .ref (B + 33), .ref (B + 134), .ref (B + 435), .int (σ k 6)]
def ty_fs12 (B : Nat) (σ : ty_Sg) (k : Nat) : List Value := [.int (σ k 0), .ref (B + 443), .int (σ k 2), .int (σ k 3), .int (σ k 4), .int (σ k 5), .int (σ k 6), .int (σ k 7), .ref (B + 444), .ref (B + 445), .ref (B + 446), .int (σ k 11), .int (σ k 12), .int (σ k 13), .int (σ k 14), .int (σ k 15), .int (σ k 16), .int (σ k 17), .int (σ k 18), .ref (B + 455), .ref (B + 456), .ref (B + 457), .int (σ k 22), .ref (B + 498), .ref (B + 508), .ref (B + 509), .ref (B + 510), .ref (B + 511), .ref (B + 512), .ref (B + 513), .ref (B + 523)]
/-- what the cell k holds; C: the classes of the arrays -/
def ty_E (B : Nat) (C : Nat → ClassId) (σ : ty_Sg) (k : Nat) : va_E := match ty_kd k with
  | 0 => .inr (0, ty_fs0 B σ k)
  | 1 => .inr (1, ty_fs1 B σ k)
  | 2 => .inr (2, ty_fs2 B σ k)
  | 3 => .inr (3, ty_fs3 B σ k)
  | 4 => .inr (4, ty_fs4 B σ k)
  | 5 => .inr (5, ty_fs5 B σ k)
  | 6 => .inr (6, ty_fs6 B σ k)
  | 7 => .inr (7, ty_fs7 B σ k)
  | 8 => .inr (8, ty_fs8 B σ k)
  | 9 => .inr (9, ty_fs9 B σ k)
  | 10 => .inr (10, ty_fs10 B σ k)
  | 11 => .inr (11, ty_fs11 B σ k)
  | 12 => .inr (12, ty_fs12 B σ k)
  | 13 => .inl (C 0, tw_ln k, .inl (σ k))
  | 14 => .inl (C 1, tw_ln k, .inl (σ k))
  | 15 => .inl (C 2, tw_ln k, .inr (.inr (.inr (.inr (fun j => some (B + (k + 1 + 2 * j)))))))
  | 16 => .inl (C 3, tw_ln k, .inr (.inr (.inr (.inr (fun j => some (B + (k + 1 + 32 * j)))))))
  | 17 => .inl (C 4, tw_ln k, .inr (.inr (.inr (.inr (fun j => some (B + (k + 1 + 1 * j)))))))
  | 18 => .inl (C 5, tw_ln k, .inr (.inr (.inr (.inr (fun j => some (B + (k + 1 + 1 * j)))))))
  | 19 => .inl (C 6, tw_ln k, .inr (.inr (.inr (.inr (fun j => some (B + (k + 1 + 10 * j)))))))
  | _ => .inl (C 7, tw_ln k, .inr (.inl (fun j => (σ k j).toInt64)))
theorem ty_E13 {B k : Nat} {C : Nat → ClassId} {σ : ty_Sg} (h : ty_kd k = 13) : ty_E B C σ k = .inl (C 0, tw_ln k, .inl (σ k)) := by unfold ty_E; rw [h]; rfl
theorem ty_E_cong {B k : Nat} {C : Nat → ClassId} {σ σ' : ty_Sg} (h : σ k = σ' k) : ty_E B C σ k = ty_E B C σ' k := by
  unfold ty_E
  simp only [ty_fs0, ty_fs1, ty_fs2, ty_fs3, ty_fs4, ty_fs5, ty_fs6, ty_fs7, ty_fs8, ty_fs9, ty_fs10, ty_fs11, ty_fs12, h]
theorem ty_E_up {B k i : Nat} {C : Nat → ClassId} {σ : ty_Sg} {x : Int32} {e : va_E} (h : ty_E B C (ty_up σ k i x) k = e) : va_up (ty_E B C σ) k e = ty_E B C (ty_up σ k i x) := by
  funext a
  by_cases ha : a = k
  · subst ha; rw [va_up_self, h]
  · rw [va_up_ne _ _ ha]; exact ty_E_cong (ty_up_n ha).symm
abbrev ty_PP (z : tw_Z) (σ : ty_Sg) (H : Heap) : Prop := va_P (tw_zD z) vwCl (tw_wl (tw_zB z) (ty_E (tw_zB z) (tw_zC z) σ) 1036) H
def ty_Rf {ρ : Type} (z : tw_Z) (res : ρ) (E : Option ρ) (σ : ty_Sg) (pc : Nat) (L : List (Nat × Value)) (st : List Value) : Prop :=
  E = some res → ∀ (H : Heap) (locs : List Loc) (ls : Array Slot), ty_PP z σ H → tw_SS z H locs → lv_has ls (tw_znL z) L → tw_W z H locs (F0 (tw_zm z) pc ls st)
section TWR
variable {ρ : Type} {z : tw_Z} {res : ρ} {cc : ByteArray} {own : String} {nL pc : Nat} {E : Option ρ} {σ : tw_Sg} {L L' : List (Nat × Value)} {st : List Value}
theorem ty_Rf.sub (ks : List Nat) (hl : lv_pick L ks = L') (k : ty_Rf z res E σ pc L' st) : ty_Rf z res E σ pc L st := fun hE H locs ls hP hS h => k hE H locs ls hP hS (lv_sub h ks hl)
theorem ty_r_ck {b : Bool} (k : b = true → ty_Rf z res E σ pc L st) : ty_Rf z res (tw_ck b E) σ pc L st := fun hE H locs ls hP hS hl => k (tw_ck_of hE).1 (tw_ck_of hE).2 H locs ls hP hS hl
/-- a loop: from its head back to its head, or out of it -/
theorem ty_r_lp {α : Type} {body : (α → Option ρ) → α → Option ρ} {σJ : α → ty_Sg} {pcJ : Nat} {LJ : α → List (Nat × Value)} {stJ : α → List Value}
    (h : ∀ f : α → Option ρ, (∀ a, ty_Rf z res (f a) (σJ a) pcJ (LJ a) (stJ a)) → ∀ a, ty_Rf z res (body f a) (σJ a) pcJ (LJ a) (stJ a)) : ∀ (n : Nat) (a : α), ty_Rf z res (tw_lp body n a) (σJ a) pcJ (LJ a) (stJ a) := by
  intro n
  induction n with
  | zero => intro a hE; cases hE
  | succ n ih => intro a; exact h (tw_lp body n) ih a
theorem ty_r_iconst {n : Int} {v : Int32} (X : tw_X z cc own nL) (d : decode cc pc = .ok (.iconst n, 1)) (hv : Int32.ofInt n = v) (k : ty_Rf z res E σ (pc + 1) L (.int v :: st)) : ty_Rf z res E σ pc L (st) := fun hE H locs ls hP hS hl => lv_iconst X.1 X.2.1 d hv (k hE H locs ls hP hS hl)
theorem ty_r_bipush {n : Int} {v : Int32} (X : tw_X z cc own nL) (d : decode cc pc = .ok (.bipush n, 2)) (hv : (Int8.ofInt n).toInt32 = v) (k : ty_Rf z res E σ (pc + 2) L (.int v :: st)) : ty_Rf z res E σ pc L (st) := fun hE H locs ls hP hS hl => lv_bipush X.1 X.2.1 d hv (k hE H locs ls hP hS hl)
theorem ty_r_sipush {n : Int} {v : Int32} (X : tw_X z cc own nL) (d : decode cc pc = .ok (.sipush n, 3)) (hv : (Int16.ofInt n).toInt32 = v) (k : ty_Rf z res E σ (pc + 3) L (.int v :: st)) : ty_Rf z res E σ pc L (st) := fun hE H locs ls hP hS hl => lv_sipush X.1 X.2.1 d hv (k hE H locs ls hP hS hl)
theorem ty_r_iload_n {j : Fin 4} {i : Nat} {x : Int32} (X : tw_X z cc own nL) (d : decode cc pc = .ok (.iload_n j, 1)) (hi : (j : Nat) = i) (q : Nat) (hq : L[q]? = some (i, .int x)) (k : ty_Rf z res E σ (pc + 1) L (.int x :: st)) : ty_Rf z res E σ pc L (st) := fun hE H locs ls hP hS hl => lv_iload_n X.1 X.2.1 d hi (tw_hl hl q hq) (k hE H locs ls hP hS hl)
theorem ty_r_aload_n {j : Fin 4} {i : Nat} {x : Nat} (X : tw_X z cc own nL) (d : decode cc pc = .ok (.aload_n j, 1)) (hi : (j : Nat) = i) (q : Nat) (hq : L[q]? = some (i, .ref x)) (k : ty_Rf z res E σ (pc + 1) L (.ref x :: st)) : ty_Rf z res E σ pc L (st) := fun hE H locs ls hP hS hl => lv_aload_n X.1 X.2.1 d hi (tw_hl hl q hq) (k hE H locs ls hP hS hl)
theorem ty_r_istore_n {j : Fin 4} {i : Nat} {x : Int32} {K : Int32 → Option ρ} {LL : Int32 → List (Nat × Value)} (X : tw_X z cc own nL) (d : decode cc pc = .ok (.istore_n j, 1)) (hi : (j : Nat) = i) (hn : i < nL) (hL : ∀ x, (i, Value.int x) :: L.filter (fun q => !(q.1 == i) && !(q.1 + 1 == i && q.2.category == 2)) = LL x) (k : ∀ x, ty_Rf z res (K x) σ (pc + 1) (LL x) st) : ty_Rf z res (tw_lt x K) σ pc L (.int x :: st) := fun hE H locs ls hP hS hl => lv_istore_n X.1 X.2.1 d hi hl (tw_nLt X hn) (hL x) (fun ls' hl' => k x hE H locs ls' hP hS hl')
theorem ty_r_iinc {i : Nat} {n : Int} {x v : Int32} {K : Int32 → Option ρ} {LL : Int32 → List (Nat × Value)} (X : tw_X z cc own nL) (d : decode cc pc = .ok (.iinc i n, 3)) (q : Nat) (hq : L[q]? = some (i, .int x)) (hv : Int32.ofInt n = v) (hn : i < nL) (hL : ∀ x, (i, Value.int x) :: L.filter (fun q => !(q.1 == i) && !(q.1 + 1 == i && q.2.category == 2)) = LL x) (k : ∀ x, ty_Rf z res (K x) σ (pc + 3) (LL x) st) : ty_Rf z res (tw_lt (x + v) K) σ pc L st := fun hE H locs ls hP hS hl => lv_iinc X.1 X.2.1 d hl hq (by rw [hv]) (tw_nLt X hn) (hL (x + v)) (fun ls' hl' => k (x + v) hE H locs ls' hP hS hl')
theorem ty_r_iadd {x y : Int32} (X : tw_X z cc own nL) (d : decode cc pc = .ok (.iadd, 1)) (k : ty_Rf z res E σ (pc + 1) L (.int (x + y) :: st)) : ty_Rf z res E σ pc L (.int y :: .int x :: st) := fun hE H locs ls hP hS hl => lv_iadd X.1 X.2.1 d (k hE H locs ls hP hS hl)
theorem ty_r_icmp_ge {x y : Int32} {off : Int} {tgt : Nat} {A F : Option ρ} (X : tw_X z cc own nL) (d : decode cc pc = .ok (.if_icmp .ge off, 3)) (ht : (pc : Int) + off = (tgt : Int)) (kt : ty_Rf z res A σ tgt L st) (kf : ty_Rf z res F σ (pc + 3) L st) : ty_Rf z res (if y ≤ x then A else F) σ pc L (.int y :: .int x :: st) := fun hE H locs ls hP hS hl => lv_icmp_ge X.1 X.2.1 d ht (fun q => kt (by rw [if_pos q] at hE; exact hE) H locs ls hP hS hl) (fun q => kf (by rw [if_neg q] at hE; exact hE) H locs ls hP hS hl)
theorem ty_r_goto {off : Int} {tgt : Nat} (X : tw_X z cc own nL) (d : decode cc pc = .ok (.goto off, 3)) (ht : (pc : Int) + off = (tgt : Int)) (k : ty_Rf z res E σ tgt L st) : ty_Rf z res E σ pc L st := fun hE H locs ls hP hS hl => lv_goto X.1 X.2.1 d ht (k hE H locs ls hP hS hl)
theorem ty_at {k : Nat} {e : va_E} (hk : k < 1036) (h : ty_E (tw_zB z) (tw_zC z) σ k = e) : (tw_wl (tw_zB z) (ty_E (tw_zB z) (tw_zC z) σ) 1036)[k]? = some (tw_zB z + k, e) := (tw_wl_get hk).trans (congrArg (fun e => some (tw_zB z + k, e)) h)
theorem ty_r_iast {k : Nat} {i x : Int32} {K : ty_Sg → Option ρ} (X : tw_X z cc own nL) (d : decode cc pc = .ok (.iastore, 1)) (hk : ty_kd k = 13) (kk : ∀ σ1, ty_Rf z res (K σ1) σ1 (pc + 1) L st) : ty_Rf z res (tw_ck (tw_ok i (tw_ln k)) (tw_lt (ty_up σ k i.toNatClampNeg x) K)) σ pc L (.int x :: .int i :: .ref (tw_zB z + k) :: st) :=
  ty_r_ck (fun hc => fun hE H locs ls hP hS hl => va_iast X.1 X.2.1 X.K hP tw_wl_D hS k 0 (ty_at (ty_kd_lt hk (by decide)) (ty_E13 hk)) rfl (tw_ok_in hc) d (fun H1 locs1 hP1 _ hS1 => kk _ hE H1 locs1 ls (by rw [tw_wl_set, ty_E_up (σ := σ) (i := i.toNatClampNeg) (x := x) ((ty_E13 hk).trans (by rw [ty_up_s]))] at hP1; exact hP1) hS1 hl))
end TWR
/-! CONTRACTS: with the arguments argv over the world σ the method y answers rv, and leaves the world σ'. -/
def ty_Qc (B : Nat) (D : va_G) (C : Nat → ClassId) (rv : Option Value) (σ' : ty_Sg) : Array Value → State → Outcome → State → Prop := fun _ st oc t => (oc = .returned rv ∧ va_P D vwCl (tw_wl B (ty_E B C σ') 1036) t.heap) ∧ va_F (fun q => B ≤ q) st t
def ty_Pre (B : Nat) (D : va_G) (C : Nat → ClassId) (S : Nat → Nat) (argv : List Value) (σ : ty_Sg) : Array Value → State → Prop := va_Pc argv (fun U => va_P D vwCl (tw_wl B (ty_E B C σ) 1036) U.heap ∧ tw_EV B D C S U)
theorem ty_blind {B : Nat} {D : va_G} {C : Nat → ClassId} {S : Nat → Nat} {argv : List Value} {σ : ty_Sg} : FrameBlind (ty_Pre B D C S argv σ) := fun _ _ _ _ h => ⟨h.1, h.2.1, h.2.2.blind⟩
abbrev ty_Met (l : Launch) (B : Nat) (D : va_G) (C : Nat → ClassId) (S : Nat → Nat) (y : MethodName) (cy : ByteArray) (mL : Nat) (ret : Option FieldType) (rm : Room) (argv : List Value) (σ : ty_Sg) (rv : Option Value) (σ' : ty_Sg) : Prop :=
  Met l y [.code y cy mL ret] rm (ty_Pre B D C S argv σ) (ty_Qc B D C rv σ') 0 0 (fun q => B ≤ q)
section TWC
variable {ρ : Type} {z : tw_Z} {res : ρ} {cc : ByteArray} {own : String} {nL pc : Nat} {E : Option ρ} {σ σ' : tw_Sg} {L L' : List (Nat × Value)} {st st0 : List Value}
variable {ix ci k mL n N mc ms : Nat} {y : MethodName} {cy : ByteArray} {ret : Option FieldType} {rm : Room} {Cn host : String} {T : u_T} {fs : List Value} {As argv : List Value} {rv : Option Value}
theorem ty_preS (X : tw_X z cc own nL) {H : Heap} {locs : List Loc} (hP : ty_PP z σ H) (hS : tw_SS z H locs) : PreS (tw_zs z) H (ty_Pre (tw_zB z) (tw_zD z) (tw_zC z) (tw_zS z) As σ) As := ⟨ty_blind, fun U hU hW => ⟨rfl, by rw [hU]; exact hP, X.2.2.2.2.2.1.call hS hU hW⟩⟩
/-- behind a call -/
theorem ty_r_run {A : Array Value} (hr : ∀ (H : Heap) (locs : List Loc) (ls : Array Slot), ty_PP z σ H → tw_SS z H locs → lv_has ls (tw_znL z) L → va_Run (tw_zp z) (tw_zl z) (tw_ze z) (tw_zR z) (tw_zs z) (tw_zm z) (tw_zargs z) (tw_zbelow z) (tw_zmeth z) (tw_zc z) H locs (tw_zcells z) (tw_zslots z) 0 0 (F0 (tw_zm z) pc ls st0) st (ty_Qc (tw_zB z) (tw_zD z) (tw_zC z) rv σ' A) (fun q => tw_zB z ≤ q))
    (kk : ty_Rf z res E σ' (pc + 3) L (rv.toList ++ st)) : ty_Rf z res E σ pc L st0 := by
  intro hE H locs ls hP hS hl T hT X
  obtain ⟨v, st₀, t, T', Lc, h0, X', hL, e1, e2, ⟨⟨hv, hp⟩, hz, hk⟩, st1⟩ := hr H locs ls hP hS hl T hT X
  cases hv
  rw [h0] at hz hk
  obtain ⟨t2, a1, b1⟩ := kk hE T'.heap (locs ++ Lc) ls (by unfold ty_PP; rw [e1]; exact hp) ⟨Nat.le_trans hS.1 (by rw [e1]; exact hz), fun q h1 h2 => by rw [e1, hk q (Nat.lt_of_lt_of_le h1 hS.1) h2]; exact hS.2.1 q h1 h2, fun q hq => by
      rcases List.mem_append.mp hq with h | h
      · exact hS.2.2 q h
      · exact hL q h⟩ hl T' rfl X'
  exact ⟨t2, st1 t2 a1, b1⟩
theorem ty_r_callS (X : tw_X z cc own nL) (d : decode cc pc = .ok (.invokestatic ix, 3)) (hM : ty_Met (tw_zl z) (tw_zB z) (tw_zD z) (tw_zC z) (tw_zS z) y cy mL ret rm As σ rv σ') (hy : tw_My y cy mL ret n) (hv : tw_Ms y) (i : Nat) (hi : lw_tbl[i]? = some (.methodLink own ix y)) (hn : As.length = n) (hR : tw_Rm (tw_zR z) rm mL 0 0) (hcs : tw_zcells z ≤ (tw_zR z).cells ∧ tw_zslots z ≤ (tw_zR z).slots) (hst : (st.map fun v => v.category).sum ≤ 8) (hs0 : st0 = As.reverse ++ st) (kk : ty_Rf z res E σ' (pc + 3) L (rv.toList ++ st)) : ty_Rf z res E σ pc L st0 := by
  subst hs0
  exact ty_r_run (fun H locs ls hP hS hl => va_runS (As := As) (rest := st) (tw_fix X) hM ⟨tw_CB X hy i hi hR, tw_wd X hv rfl⟩ (ty_preS X hP hS) rfl hn (hl.1.trans X.2.2.2.2.2.2) rfl (lv_room hst) d hcs) kk
/-! the ends -/
def ty_Ro (z : tw_Z) (out : ρ → Option Value × ty_Sg) (res : ρ) : Prop := ∀ (H : Heap) (locs : List Loc) (g : JFrame), W (tw_zp z) (tw_zl z) (tw_ze z) (tw_zR z) (tw_zs z) (tw_zm z) (tw_zargs z) (tw_zbelow z) (tw_zmeth z) (tw_zc z) H locs (tw_zcells z) (tw_zslots z) (MQ (tw_zbelow z) (ty_Qc (tw_zB z) (tw_zD z) (tw_zC z) (out res).1 (out res).2) (tw_zargs z) (tw_zs z) (tw_zcells z) (tw_zslots z) (fun q => tw_zB z ≤ q)) g → tw_W z H locs g
variable {out : ρ → Option Value × tw_Sg} {r : ρ}
theorem ty_r_vret (X : tw_X z cc own nL) (d : decode cc pc = .ok (.return_, 1)) (hret : (tw_zmeth z).sig.returnType = none) (hQ : ty_Ro z out res) (ho : out r = (none, σ)) : ty_Rf z res (some r) σ pc L [] := by
  intro hE H locs ls hP hS hl
  cases hE
  refine hQ H locs _ (W.vret X.1 X.2.1 hret (fun t ht hW => ?_) hS.2.2 d X.2.2.2.2.1)
  rw [ho]
  exact ⟨⟨rfl, by rw [ht]; exact hP⟩, hS.F ht⟩
end TWC
/-- a contract out of a walk -/
theorem ty_metOf {ρ : Type} {l : Launch} {B : Nat} {D : va_G} {C : Nat → ClassId} {S : Nat → Nat} {y : MethodName} {cy : ByteArray} {mL : Nat} {ret : Option FieldType} {rm : Room} {argv : List Value} {σ : ty_Sg} (E : Option ρ) (res : ρ) (hres : E = some res) (out : ρ → Option Value × ty_Sg) (hy : plainName y.cls = true) (hlen : (lg_sl argv).length ≤ mL) (hrm : rm.cells = 0 ∧ rm.slots = 0)
    (body : ∀ z : tw_Z, tw_zl z = l → tw_zB z = B → tw_zD z = D → tw_zC z = C → tw_zS z = S → tw_zR z = rm → tw_zcells z = 0 → tw_zslots z = 0 → tw_X z cy y.cls mL → (tw_zmeth z).sig.returnType = ret → ty_Ro z out res → ty_Rf z res E σ 0 (lv_args 0 argv) []) : ty_Met l B D C S y cy mL ret rm argv σ (out res).1 (out res).2 := by
  refine Met.ofW (cc := cy) (maxL := mL) (ret := ret) hy rfl ?_
  intro p e s m args below meth c s₁ Bd hml hv
  obtain ⟨rfl, hP, hEV⟩ := hv
  rw [lg_entry_eq]
  have hl := lv_entry argv (n := mL) hlen
  have hR : (headSpec [Cond.code y cy mL ret] rm).room = rm := rfl
  rw [hR]
  exact body (p, l, e, rm, s, m, argv.toArray, below, meth, c, B, D, C, S, mL, 0, 0, MQ below (ty_Qc B D C (out res).1 (out res).2) argv.toArray s 0 0 (fun q => B ≤ q)) rfl rfl rfl rfl rfl rfl rfl rfl ⟨Bd.exec, Bd.bytes, hml, findClass_of_methodNamed Bd.named, Bd.notSynchronized, hEV, rfl⟩ Bd.returns (fun H locs g h => h) hres s.heap [] _ hP va_S.rf hl

theorem ty_metOfP {ρ : Type} {l : Launch} {B : Nat} {D : va_G} {C : Nat → ClassId} {S : Nat → Nat} {y : MethodName} {cy : ByteArray} {mL : Nat} {ret : Option FieldType} {rm : Room} {argv : List Value} {σ : ty_Sg} (E : Option ρ) (res : ρ) (hres : E = some res) (out : ρ → Option Value × ty_Sg) (hy : plainName y.cls = true) (hlen : (lg_sl argv).length ≤ mL) (hrm : rm.cells = 0 ∧ rm.slots = 0)
    (body : ∀ z : tw_Z, tw_zl z = l → tw_zB z = B → tw_zD z = D → tw_zC z = C → tw_zS z = S → (tw_zR z).frames = rm.frames → (tw_zR z).locals = rm.locals → (tw_zcells z ≤ (tw_zR z).cells ∧ tw_zslots z ≤ (tw_zR z).slots) → tw_X z cy y.cls mL → (tw_zmeth z).sig.returnType = ret → ty_Ro z out res → ty_Rf z res E σ 0 (lv_args 0 argv) []) : ty_Met l B D C S y cy mL ret rm argv σ (out res).1 (out res).2 :=
  ty_metOf E res hres out hy hlen hrm (fun z el eB eD eC eS eR ec es X hret hQ => body z el eB eD eC eS (by rw [eR]) (by rw [eR]) ⟨by rw [ec]; exact Nat.zero_le _, by rw [es]; exact Nat.zero_le _⟩ X hret hQ)

def ty_P_X12_layMap (n : Nat) (r0 : Nat) (x1 : Int32) (x2 : Int32) (σ : ty_Sg) : Option (ty_Sg) :=
tw_lt (0 : Int32) (fun (v1 : Int32) =>
tw_lp (fun (k3 : (Int32 × ty_Sg) → Option (ty_Sg)) (a2 : Int32 × ty_Sg) =>
if (1028 : Int32) ≤ a2.1 then (tw_ck (tw_ok (0 : Int32) (tw_ln r0)) (tw_lt (ty_up a2.2 r0 (Int32.toNatClampNeg (0 : Int32)) x1) (fun (σ4 : ty_Sg) =>
tw_ck (tw_ok (1 : Int32) (tw_ln r0)) (tw_lt (ty_up σ4 r0 (Int32.toNatClampNeg (1 : Int32)) x2) (fun (σ5 : ty_Sg) =>
tw_lt (0 : Int32) (fun (v6 : Int32) =>
tw_lp (fun (k8 : (Int32 × ty_Sg) → Option (ty_Sg)) (a7 : Int32 × ty_Sg) =>
if (8 : Int32) ≤ a7.1 then (some a7.2)
else (tw_ck (tw_ok ((808 : Int32) + a7.1) (tw_ln r0)) (tw_lt (ty_up a7.2 r0 (Int32.toNatClampNeg ((808 : Int32) + a7.1)) (-1 : Int32)) (fun (σ9 : ty_Sg) =>
tw_lt (a7.1 + (1 : Int32)) (fun (v10 : Int32) =>
k8 (v10, σ9)))))) n (v6, σ5)))))))
else (tw_ck (tw_ok a2.1 (tw_ln r0)) (tw_lt (ty_up a2.2 r0 (Int32.toNatClampNeg a2.1) (0 : Int32)) (fun (σ11 : ty_Sg) =>
tw_lt (a2.1 + (1 : Int32)) (fun (v12 : Int32) =>
k3 (v12, σ11)))))) n (v1, σ))
set_option maxRecDepth 100000 in
set_option maxHeartbeats 4000000 in
theorem ty_m_X12_layMap {l : Launch} {B : Nat} {D : va_G} {C : Nat → ClassId} {S : Nat → Nat} {n : Nat} {r0 : Nat} {x1 : Int32} {x2 : Int32} {σ : ty_Sg} (hr0 : ty_kd r0 = 13) {r : ty_Sg} (h : ty_P_X12_layMap n r0 x1 x2 σ = some r) : ty_Met l B D C S yX12_layMap cX12_layMap 4 none ({ frames := 0, cells := 0, slots := 0, locals := 0 } : Room) [.ref (B + r0), .int x1, .int x2] σ (none) r := by
  refine ty_metOfP (ty_P_X12_layMap n r0 x1 x2 σ) r h (fun r => (none, r)) (by decide +kernel) (Nat.le_of_ble_eq_true rfl) ⟨rfl, rfl⟩ ?_
  intro z el eB eD eC eS hfr hlo hcs X hret hQ
  subst el eB eD eC eS
  have X : tw_X z cX12_layMap "TreasureWalkModel" 4 := X
  show ty_Rf z r _ σ 0 [(0, .ref (tw_zB z + r0)), (1, .int x1), (2, .int x2)] []
  unfold ty_P_X12_layMap
  refine ty_r_iconst X dX12_layMap_0 (v := (0 : Int32)) (by decide) ?_
  refine ty_r_istore_n X dX12_layMap_1 rfl (by decide) (LL := fun v1 => [(3, .int v1), (0, .ref (tw_zB z + r0)), (1, .int x1), (2, .int x2)]) (fun _ => rfl) (fun v1 => ?_)
  refine ty_r_lp (α := Int32 × ty_Sg) (σJ := fun a2 => a2.2) (pcJ := 2) (LJ := fun a2 => [(3, .int a2.1), (0, .ref (tw_zB z + r0)), (1, .int x1), (2, .int x2)]) (stJ := fun a2 => []) (fun k3 hk3 a2 => ?_) n (v1, σ)
  refine ty_r_iload_n X dX12_layMap_2 rfl 0 rfl ?_
  refine ty_r_sipush X dX12_layMap_3 (v := (1028 : Int32)) (by decide) ?_
  refine ty_r_icmp_ge X dX12_layMap_6 (tgt := 19) (by decide) ?_ ?_
  ·
    refine ty_r_aload_n X dX12_layMap_19 rfl 1 rfl ?_
    refine ty_r_iconst X dX12_layMap_20 (v := (0 : Int32)) (by decide) ?_
    refine ty_r_iload_n X dX12_layMap_21 rfl 2 rfl ?_
    refine ty_r_iast (k := r0) X dX12_layMap_22 hr0 (fun σ4 => ?_)
    refine ty_r_aload_n X dX12_layMap_23 rfl 1 rfl ?_
    refine ty_r_iconst X dX12_layMap_24 (v := (1 : Int32)) (by decide) ?_
    refine ty_r_iload_n X dX12_layMap_25 rfl 3 rfl ?_
    refine ty_r_iast (k := r0) X dX12_layMap_26 hr0 (fun σ5 => ?_)
    refine ty_r_iconst X dX12_layMap_27 (v := (0 : Int32)) (by decide) ?_
    refine ty_r_istore_n X dX12_layMap_28 rfl (by decide) (LL := fun v6 => [(3, .int v6), (0, .ref (tw_zB z + r0)), (1, .int x1), (2, .int x2)]) (fun _ => rfl) (fun v6 => ?_)
    refine ty_Rf.sub [0, 1] rfl ?_
    refine ty_r_lp (α := Int32 × ty_Sg) (σJ := fun a7 => a7.2) (pcJ := 29) (LJ := fun a7 => [(3, .int a7.1), (0, .ref (tw_zB z + r0))]) (stJ := fun a7 => []) (fun k8 hk8 a7 => ?_) n (v6, σ5)
    refine ty_r_iload_n X dX12_layMap_29 rfl 0 rfl ?_
    refine ty_r_bipush X dX12_layMap_30 (v := (8 : Int32)) (by decide) ?_
    refine ty_r_icmp_ge X dX12_layMap_32 (tgt := 49) (by decide) ?_ ?_
    ·
      exact ty_r_vret X dX12_layMap_49 hret hQ rfl
    ·
      refine ty_r_aload_n X dX12_layMap_35 rfl 1 rfl ?_
      refine ty_r_sipush X dX12_layMap_36 (v := (808 : Int32)) (by decide) ?_
      refine ty_r_iload_n X dX12_layMap_39 rfl 0 rfl ?_
      refine ty_r_iadd X dX12_layMap_40 ?_
      refine ty_r_iconst X dX12_layMap_41 (v := (-1 : Int32)) (by decide) ?_
      refine ty_r_iast (k := r0) X dX12_layMap_42 hr0 (fun σ9 => ?_)
      refine ty_r_iinc X dX12_layMap_43 0 rfl (v := (1 : Int32)) (by decide) (by decide) (LL := fun v10 => [(3, .int v10), (0, .ref (tw_zB z + r0))]) (fun _ => rfl) (fun v10 => ?_)
      refine ty_r_goto X dX12_layMap_46 (tgt := 29) (by decide) ?_
      exact hk8 (v10, σ9)
  ·
    refine ty_r_aload_n X dX12_layMap_9 rfl 1 rfl ?_
    refine ty_r_iload_n X dX12_layMap_10 rfl 0 rfl ?_
    refine ty_r_iconst X dX12_layMap_11 (v := (0 : Int32)) (by decide) ?_
    refine ty_r_iast (k := r0) X dX12_layMap_12 hr0 (fun σ11 => ?_)
    refine ty_r_iinc X dX12_layMap_13 0 rfl (v := (1 : Int32)) (by decide) (by decide) (LL := fun v12 => [(3, .int v12), (0, .ref (tw_zB z + r0)), (1, .int x1), (2, .int x2)]) (fun _ => rfl) (fun v12 => ?_)
    refine ty_r_goto X dX12_layMap_16 (tgt := 2) (by decide) ?_
    exact hk3 (v12, σ11)
