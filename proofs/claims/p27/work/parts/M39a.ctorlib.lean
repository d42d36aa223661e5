/-! THE CONSTRUCTORS' WALKS. tw_cw: the object k in progress holds e, the cells k+1 .. m-1 are finished, all else is as F says. -/
def tw_cw (G F : Nat → va_E) (k : Nat) (e : va_E) (m : Nat) : Nat → va_E := fun q => if q = k then e else if k < q ∧ q < m then G q else F q
def tw_fin (G F : Nat → va_E) (k m : Nat) : Nat → va_E := fun q => if k ≤ q ∧ q < m then G q else F q
theorem tw_cw_s {G F : Nat → va_E} {k m : Nat} {e : va_E} : tw_cw G F k e m k = e := if_pos rfl
theorem tw_cw_g {G F : Nat → va_E} {k m q : Nat} {e : va_E} (h : k < q) (h1 : q < m) : tw_cw G F k e m q = G q := by
  unfold tw_cw
  rw [if_neg (by omega), if_pos ⟨h, h1⟩]
theorem tw_cw_f {G F : Nat → va_E} {k m q : Nat} {e : va_E} (h : q < k) : tw_cw G F k e m q = F q := by
  unfold tw_cw
  rw [if_neg (by omega), if_neg (by omega)]
theorem tw_cw_0 {G F : Nat → va_E} {k : Nat} {e : va_E} (h : F k = e) : ∀ q, q < k + 1 → F q = tw_cw G F k e (k + 1) q := by
  intro q hq
  unfold tw_cw
  by_cases h1 : q = k
  · subst h1; rw [if_pos rfl, h]
  · rw [if_neg h1, if_neg (by omega)]
theorem tw_cw_mk {G F : Nat → va_E} {k m m' : Nat} {e x : va_E} (hk : k < m) : ∀ q, q < m' → tw_fin G (va_up (tw_cw G F k e m) m x) m m' q = tw_cw G F k e m' q := by
  intro q hq
  unfold tw_fin
  by_cases h1 : m ≤ q
  · rw [if_pos ⟨h1, hq⟩, tw_cw_g (by omega) hq]
  · rw [if_neg (by omega), va_up_ne _ _ (by omega)]
    unfold tw_cw
    by_cases h2 : q = k
    · rw [if_pos h2, if_pos h2]
    · rw [if_neg h2, if_neg h2]
      by_cases h3 : k < q
      · rw [if_pos ⟨h3, by omega⟩, if_pos ⟨h3, by omega⟩]
      · rw [if_neg (by omega), if_neg (by omega)]
theorem tw_cw_arr {G F : Nat → va_E} {k m : Nat} {e a : va_E} (hk : k < m) (ha : a = G m) : ∀ q, q < m + 1 → va_up (tw_cw G F k e m) m a q = tw_cw G F k e (m + 1) q := by
  intro q hq
  by_cases h1 : q = m
  · subst h1; rw [va_up_self, tw_cw_g hk (Nat.lt_succ_self _), ha]
  · rw [va_up_ne _ _ h1]
    unfold tw_cw
    by_cases h2 : q = k
    · rw [if_pos h2, if_pos h2]
    · rw [if_neg h2, if_neg h2]
      by_cases h3 : k < q
      · rw [if_pos ⟨h3, by omega⟩, if_pos ⟨h3, by omega⟩]
      · rw [if_neg (by omega), if_neg (by omega)]
theorem tw_cw_put {G F : Nat → va_E} {k m : Nat} {e e' : va_E} : va_up (tw_cw G F k e m) k e' = tw_cw G F k e' m := by
  funext q
  by_cases h1 : q = k
  · subst h1; rw [va_up_self, tw_cw_s]
  · rw [va_up_ne _ _ h1]
    unfold tw_cw
    rw [if_neg h1, if_neg h1]
theorem tw_cw_end {G F : Nat → va_E} {k m : Nat} {e : va_E} (hk : k < m) (h : e = G k) : ∀ q, q < m → tw_cw G F k e m q = tw_fin G F k m q := by
  intro q hq
  unfold tw_cw tw_fin
  by_cases h1 : q = k
  · subst h1; rw [if_pos rfl, if_pos ⟨Nat.le_refl _, hk⟩, h]
  · rw [if_neg h1]
    by_cases h2 : k < q
    · rw [if_pos ⟨h2, hq⟩, if_pos ⟨by omega, hq⟩]
    · rw [if_neg (by omega), if_neg (by omega)]
theorem tw_cz_0 {z : tw_Z} (h1 : tw_zcells z = 0) (h2 : tw_zslots z = 0) : tw_cz z 0 0 = z := by
  obtain ⟨z1, z2, z3, z4, z5, z6, z7, z8, z9, z10, z11, z12, z13, z14, z15, z16, z17, z18⟩ := z
  cases h1; cases h2; rfl
theorem tw_Rc.z0 {z : tw_Z} {F : Nat → va_E} {mm pc : Nat} {L : List (Nat × Value)} {st : List Value} (h1 : tw_zcells z = 0) (h2 : tw_zslots z = 0) (h : tw_Rc (tw_cz z 0 0) F mm pc L st) : tw_Rc z F mm pc L st := by
  rw [tw_cz_0 h1 h2] at h; exact h
theorem tw_Rc.mm {z : tw_Z} {F : Nat → va_E} {mm mm' pc : Nat} {L : List (Nat × Value)} {st : List Value} (h : mm = mm') (k : tw_Rc z F mm' pc L st) : tw_Rc z F mm pc L st := h ▸ k
theorem tw_Rc.sub {z : tw_Z} {F : Nat → va_E} {mm pc : Nat} {L L' : List (Nat × Value)} {st : List Value} (ks : List Nat) (hl : lv_pick L ks = L') (k : tw_Rc z F mm pc L' st) : tw_Rc z F mm pc L st := fun H locs ls hP hz hS h => k H locs ls hP hz hS (lv_sub h ks hl)
theorem tw_cellq {cA : ClassId} {n : Nat} {f g : Nat → Option Nat} (h : ∀ j, j < n → f j = g j) : vp_cell cA (n, .inr (.inr (.inr (.inr f)))) = vp_cell cA (n, .inr (.inr (.inr (.inr g)))) := by
  show arrV cA n (fun j => va_rf (f j)) = arrV cA n (fun j => va_rf (g j))
  unfold arrV
  have e : (Array.ofFn (n := n) fun j => (fun j => va_rf (f j)) j.val) = Array.ofFn (n := n) fun j => (fun j => va_rf (g j)) j.val := by
    congr 1
    funext j
    show va_rf (f j.val) = va_rf (g j.val)
    rw [h j.val j.isLt]
  rw [e]
/-- worlds that differ in arrays of references behind their ends alone -/
theorem tw_Pcong2 {B mm : Nat} {D : tw_G} {F G : Nat → va_E} {H : Heap} (h : va_P D.1 vwCl (tw_wl B F mm) H) (he : ∀ k, k < mm → F k = G k ∨ ∃ cA n f g, F k = .inl (cA, n, .inr (.inr (.inr (.inr f)))) ∧ G k = .inl (cA, n, .inr (.inr (.inr (.inr g)))) ∧ ∀ j, j < n → f j = g j) : va_P D.1 vwCl (tw_wl B G mm) H := by
  intro k q hk
  obtain ⟨h1, rfl⟩ := tw_wl_len hk
  have h2 := h k (B + k, F k) (tw_wl_get h1)
  rcases he k h1 with e | ⟨cA, n, f, g, e1, e2, e3⟩
  · rw [← e]; exact h2
  · rw [e1] at h2
    rw [e2]
    show H[B + k]? = some (vp_cell cA (n, .inr (.inr (.inr (.inr g)))))
    rw [← tw_cellq e3]
    exact h2
theorem tw_Rc.cong2 {z : tw_Z} {F G : Nat → va_E} {mm pc : Nat} {L : List (Nat × Value)} {st : List Value} (h : tw_Rc z G mm pc L st) (he : ∀ k, k < mm → F k = G k ∨ ∃ cA n f g, F k = .inl (cA, n, .inr (.inr (.inr (.inr f)))) ∧ G k = .inl (cA, n, .inr (.inr (.inr (.inr g)))) ∧ ∀ j, j < n → f j = g j) : tw_Rc z F mm pc L st := fun H locs ls hP hz hS hl => h H locs ls (tw_Pcong2 hP he) hz hS hl
section TWK
variable {z : tw_Z} {cc : ByteArray} {own : String} {nL pc mm : Nat} {F G : Nat → va_E} {L L' : List (Nat × Value)} {st st0 : List Value} {c s c' s' k m m' : Nat} {e : va_E}
theorem c_iload {i : Nat} {x : Int32} (X : tw_X z cc own nL) (d : decode cc pc = .ok (.iload i, 2)) (q : Nat) (hq : L[q]? = some (i, .int x)) (kk : tw_Rc z F mm (pc + 2) L (.int x :: st)) : tw_Rc z F mm pc L st := fun H locs ls hP hz hS hl => lv_iload X.1 X.2.1 d (tw_hl hl q hq) (kk H locs ls hP hz hS hl)
theorem c_ifle {x : Int32} {off : Int} {tgt : Nat} (X : tw_X z cc own nL) (d : decode cc pc = .ok (.ifCond .le off, 3)) (ht : (pc : Int) + off = (tgt : Int)) (hx : ¬ x ≤ 0) (kk : tw_Rc z F mm (pc + 3) L st) : tw_Rc z F mm pc L (.int x :: st) := fun H locs ls hP hz hS hl => lv_if_le X.1 X.2.1 d ht (fun q => absurd q hx) (fun _ => kk H locs ls hP hz hS hl)
theorem c_icmpge {x y : Int32} {off : Int} {tgt : Nat} (X : tw_X z cc own nL) (d : decode cc pc = .ok (.if_icmp .ge off, 3)) (ht : (pc : Int) + off = (tgt : Int)) (kt : y ≤ x → tw_Rc z F mm tgt L st) (kf : ¬ y ≤ x → tw_Rc z F mm (pc + 3) L st) : tw_Rc z F mm pc L (.int y :: .int x :: st) := fun H locs ls hP hz hS hl => lv_icmp_ge X.1 X.2.1 d ht (fun q => kt q H locs ls hP hz hS hl) (fun q => kf q H locs ls hP hz hS hl)
theorem c_astore_n {j : Fin 4} {i : Nat} {x : Nat} (X : tw_X z cc own nL) (d : decode cc pc = .ok (.astore_n j, 1)) (hi : (j : Nat) = i) (hn : i < nL) (hL : (i, Value.ref x) :: L.filter (fun q => !(q.1 == i) && !(q.1 + 1 == i && q.2.category == 2)) = L') (kk : tw_Rc z F mm (pc + 1) L' st) : tw_Rc z F mm pc L (.ref x :: st) := fun H locs ls hP hz hS hl => lv_astore_n X.1 X.2.1 d hi hl (tw_nLt X hn) hL (fun ls' hl' => kk H locs ls' hP hz hS hl')
theorem c_istore_n {j : Fin 4} {i : Nat} {x : Int32} (X : tw_X z cc own nL) (d : decode cc pc = .ok (.istore_n j, 1)) (hi : (j : Nat) = i) (hn : i < nL) (hL : (i, Value.int x) :: L.filter (fun q => !(q.1 == i) && !(q.1 + 1 == i && q.2.category == 2)) = L') (kk : tw_Rc z F mm (pc + 1) L' st) : tw_Rc z F mm pc L (.int x :: st) := fun H locs ls hP hz hS hl => lv_istore_n X.1 X.2.1 d hi hl (tw_nLt X hn) hL (fun ls' hl' => kk H locs ls' hP hz hS hl')
theorem c_iinc {i : Nat} {n : Int} {x v : Int32} (X : tw_X z cc own nL) (d : decode cc pc = .ok (.iinc i n, 3)) (q : Nat) (hq : L[q]? = some (i, .int x)) (hv : x + Int32.ofInt n = v) (hn : i < nL) (hL : (i, Value.int v) :: L.filter (fun q => !(q.1 == i) && !(q.1 + 1 == i && q.2.category == 2)) = L') (kk : tw_Rc z F mm (pc + 3) L' st) : tw_Rc z F mm pc L st := fun H locs ls hP hz hS hl => lv_iinc X.1 X.2.1 d hl hq hv (tw_nLt X hn) hL (fun ls' hl' => kk H locs ls' hP hz hS hl')
theorem c_getf {ci f ix N : Nat} {Cn : String} {T : u_T} {fs : List Value} {v : Value} (X : tw_X z cc own nL) (d : decode cc pc = .ok (.getfield ix, 3)) (i : Nat) (hi : lw_tbl[i]? = some (.fieldLink own ix (T f).1 (T f).2.1 (T f).2.2.1)) (hin : ∀ w ∈ u_ws Cn T N, w ∈ tw_AW) (hc : vwCl[ci]? = some (Cn, T, N)) (hf : f < N) (hk : k < mm) (hE0 : F k = .inr (ci, fs)) (hv : fs[f]? = some v) (kk : tw_Rc z F mm (pc + 3) L (v :: st)) : tw_Rc z F mm pc L (.ref (tw_zB z + k) :: st) :=
  fun H locs ls hP hz hS hl => va_get X.1 X.2.1 X.all hin X.ow X.K hP k ((tw_wl_get hk).trans (congrArg (fun e => some (tw_zB z + k, e)) hE0)) hc f hf (X.ws i hi rfl) (fun _ h => h) hv d (kk H locs ls hP hz hS hl)
theorem c_alenq {n t0 : Nat} {v : Int32} {ty : FieldType} {cA : ClassId} {g : Nat → Option Nat} (X : tw_X z cc own nL) (d : decode cc pc = .ok (.arraylength, 1)) (hk : k < mm) (hE0 : F k = .inl (cA, n, .inr (.inr (.inr (.inr g))))) (ht : (tw_tys (tw_zC z))[t0]? = some (cA, ty)) (hv : Int32.ofNat n = v) (kk : tw_Rc z F mm (pc + 1) L (.int v :: st)) : tw_Rc z F mm pc L (.ref (tw_zB z + k) :: st) :=
  fun H locs ls hP hz hS hl => va_alen X.1 X.2.1 X.K hP k t0 ((tw_wl_get hk).trans (congrArg (fun e => some (tw_zB z + k, e)) hE0)) ht hv d (kk H locs ls hP hz hS hl)
/-- putfield of a field that isn't final -/
theorem c_put {ci f ix N : Nat} {Cn : String} {T : u_T} {fs : List Value} {ty : FieldType} {v : Value} (X : tw_X z cc own nL) (hsz : (tw_zs z).heap.size + tw_zcells z = tw_zB z + mm) (d : decode cc pc = .ok (.putfield ix, 3)) (i : Nat) (hi : lw_tbl[i]? = some (.fieldLink own ix (T f).1 (T f).2.1 (T f).2.2.1)) (hin : ∀ w ∈ u_ws Cn T N, w ∈ tw_AW) (ty0 : Nat → FieldType) (hty : ∀ k, k < N → parseFieldDescriptor (T k).2.2.1 = some (ty0 k)) (hnm : ∀ a, a < N → ∀ b, b < N → a ≠ b → (T a).2.1 ≠ (T b).2.1) (hc : vwCl[ci]? = some (Cn, T, N)) (hf : f < N) (hfin : (T f).2.2.2 = false) (hd : parseFieldDescriptor (T f).2.2.1 = some ty) (hn : narrow ty v = v) (hfit : fits ty v = true) (hk : k < mm) (hE0 : F k = .inr (ci, fs)) (hfl : f < fs.length)
    (kk : tw_Rc z (va_up F k (.inr (ci, fs.set f v))) mm (pc + 3) L st) : tw_Rc z F mm pc L (v :: .ref (tw_zB z + k) :: st) := by
  intro H locs ls hP hz hS hl
  refine va_put X.1 X.2.1 X.all hin ty0 hty hnm X.ow X.K hP tw_wl_D0 hS k ((tw_wl_get hk).trans (congrArg (fun e => some (tw_zB z + k, e)) hE0)) hc f hf (X.ws i hi rfl) (fun _ h => h) hfin hd hn hfit hfl d (fun H1 locs1 hP1 _ hS1 => ?_)
  rw [tw_wl_set] at hP1
  exact tw_size (Nat.lt_of_le_of_lt (Nat.zero_le _) hk) hsz hP1 (fun h => kk H1 locs1 ls hP1 h hS1 hl)
theorem c_putN {ci f ix N : Nat} {Cn host : String} {T : u_T} {fs : List Value} {ty : FieldType} {v : Value} (X : tw_X z cc own nL) (hsz : (tw_zs z).heap.size + tw_zcells z = tw_zB z + mm) (d : decode cc pc = .ok (.putfield ix, 3)) (i : Nat) (hi : lw_tbl[i]? = some (.fieldLinkNest own ix (T f).1 (T f).2.1 (T f).2.2.1 host)) (hin : ∀ w ∈ u_ws Cn T N, w ∈ tw_AW) (ty0 : Nat → FieldType) (hty : ∀ k, k < N → parseFieldDescriptor (T k).2.2.1 = some (ty0 k)) (hnm : ∀ a, a < N → ∀ b, b < N → a ≠ b → (T a).2.1 ≠ (T b).2.1) (hc : vwCl[ci]? = some (Cn, T, N)) (hf : f < N) (hfin : (T f).2.2.2 = false) (hd : parseFieldDescriptor (T f).2.2.1 = some ty) (hn : narrow ty v = v) (hfit : fits ty v = true) (hk : k < mm) (hE0 : F k = .inr (ci, fs)) (hfl : f < fs.length)
    (kk : tw_Rc z (va_up F k (.inr (ci, fs.set f v))) mm (pc + 3) L st) : tw_Rc z F mm pc L (v :: .ref (tw_zB z + k) :: st) := by
  intro H locs ls hP hz hS hl
  refine va_putN X.1 X.2.1 X.all hin ty0 hty hnm X.ow X.K hP tw_wl_D0 hS k ((tw_wl_get hk).trans (congrArg (fun e => some (tw_zB z + k, e)) hE0)) hc f hf (X.ws i hi rfl) (fun _ h => h) hfin hd hn hfit hfl d (fun H1 locs1 hP1 _ hS1 => ?_)
  rw [tw_wl_set] at hP1
  exact tw_size (Nat.lt_of_le_of_lt (Nat.zero_le _) hk) hsz hP1 (fun h => kk H1 locs1 ls hP1 h hS1 hl)
/-- the call of a nest mate's constructor -/
theorem c_initN {ix mL n b : Nat} {y : MethodName} {host : String} {cy : ByteArray} {rm : Room} {As : List Value} {F' : Nat → va_E} {mm' : Nat} (X : tw_X z cc own nL) (hAK : tw_AK (tw_zs z)) (hsz : (tw_zs z).heap.size + tw_zcells z = tw_zB z + mm) (d : decode cc pc = .ok (.invokespecial ix, 3)) (hM : tw_MetC (tw_zl z) (tw_zB z) (tw_zD z) (tw_zC z) (tw_zS z) y cy mL rm (.ref b :: As) F mm F' mm') (hy : tw_My y cy mL none n) (hv : Cond.instanceMethod y ∈ lw_tbl) (hnm : y.name = "<init>") (i : Nat) (hi : lw_tbl[i]? = some (.methodLinkNest own ix y host)) (hn : As.length = n) (hR : tw_Rm (tw_zR z) rm mL rm.cells rm.slots) (hcs : tw_zcells z + rm.cells ≤ (tw_zR z).cells ∧ tw_zslots z + rm.slots ≤ (tw_zR z).slots) (hst : (st.map fun v => v.category).sum ≤ 8) (hs0 : st0 = As.reverse ++ .ref b :: st) (hm : 0 < mm') (hmm : mm' = mm + rm.cells)
    (kk : tw_Rc (tw_cz z (tw_zcells z + rm.cells) (tw_zslots z + rm.slots)) F' mm' (pc + 3) L st) : tw_Rc z F mm pc L st0 := by
  subst hs0
  intro H locs ls hP hz hS hl T hT XT
  have hp : PreS (tw_zs z) H (tw_CPre (tw_zB z) (tw_zD z) (tw_zC z) (tw_zS z) (.ref b :: As) F mm) (.ref b :: As) := ⟨tw_CPre_blind, fun U hU hW => ⟨rfl, ⟨by rw [hU]; exact hP, by rw [hU]; exact hz⟩, X.2.2.2.2.2.1.call hS hU hW, hAK.warm hW⟩⟩
  obtain ⟨v, st₀, t, T', Lc, h0, X', hL, e1, e2, ⟨⟨hv1, hp1⟩, hz1, hk⟩, st1⟩ := va_runIN (As := As) (rest := st) (tw_fix X) hM ⟨tw_CN X hy i hi hR, hnm, tw_wd X hv rfl⟩ hp (g := F0 (tw_zm z) pc ls (As.reverse ++ .ref b :: st)) rfl hn (hl.1.trans X.2.2.2.2.2.2) rfl (lv_room hst) d hcs T hT XT
  cases hv1
  rw [h0] at hz1 hk
  have hS' : tw_SS (tw_cz z (tw_zcells z + rm.cells) (tw_zslots z + rm.slots)) T'.heap (locs ++ Lc) := ⟨Nat.le_trans hS.1 (by rw [e1]; exact hz1), fun q h1 h2 => by rw [e1, hk q (Nat.lt_of_lt_of_le h1 hS.1) h2]; exact hS.2.1 q h1 h2, fun q hq => by
      rcases List.mem_append.mp hq with h | h
      · exact hS.2.2 q h
      · exact hL q h⟩
  have hP' : va_P (tw_zD z).1 vwCl (tw_wl (tw_zB z) F' mm') T'.heap := by rw [e1]; exact hp1
  obtain ⟨t2, a1, b1⟩ := tw_size (z := tw_cz z (tw_zcells z + rm.cells) (tw_zslots z + rm.slots)) (locs := locs ++ Lc) hm (show (tw_zs z).heap.size + (tw_zcells z + rm.cells) = tw_zB z + mm' by omega) hP' (fun h => kk T'.heap (locs ++ Lc) ls hP' h hS' hl) T' rfl X'
  exact ⟨t2, st1 t2 a1, b1⟩
/-! the same with the counters written out -/
theorem k_new {ci ix N i1 i2 : Nat} {Cn : String} {T : u_T} {fs : List Value} (X : tw_X z cc own nL) (d : decode cc pc = .ok (.new ix, 3)) (i : Nat) (hi : lw_tbl[i]? = some (.classLink own ix Cn)) (hinst : lw_tbl[i1]? = some (Cond.instantiable Cn N)) (hini : lw_tbl[i2]? = some (Cond.initialized Cn)) (hin : ∀ w ∈ u_ws Cn T N, w ∈ tw_AW) (ty : Nat → FieldType) (hty : ∀ k, k < N → parseFieldDescriptor (T k).2.2.1 = some (ty k)) (hcl : vwCl[ci]? = some (Cn, T, N)) (hfs : ∀ j, j < N → defaultValue (ty j) = vp_V fs j) (hR : c + 1 ≤ (tw_zR z).cells) (hs : s + N ≤ (tw_zR z).slots) (ec : c + 1 = c') (es : s + N = s')
    (kk : tw_Rc (tw_cz z c' s') (va_up F mm (.inr (ci, fs))) (mm + 1) (pc + 3) L (.ref (tw_zB z + mm) :: st)) : tw_Rc (tw_cz z c s) F mm pc L st := by
  subst ec; subst es
  exact c_new (z := tw_cz z c s) X d i hi (List.mem_of_getElem? hinst) (List.mem_of_getElem? hini) hin ty hty hcl hfs hR hs kk
theorem k_newi {N : Nat} {n : Int32} (X : tw_X z cc own nL) (hAK : tw_AK (tw_zs z)) (d : decode cc pc = .ok (.newarray .int, 2)) (hn : ¬ n < 0) (hN : n.toNatClampNeg = N) (hb : N * 4 ≤ 536870912) (hc : c + 1 ≤ (tw_zR z).cells) (hs : s + N ≤ (tw_zR z).slots) (ec : c + 1 = c') (es : s + N = s') (hk : k < m) (hG : G m = .inl (tw_zC z 0, N, .inl (fun _ => 0)))
    (kk : tw_Rc (tw_cz z c' s') (tw_cw G F k e (m + 1)) (m + 1) (pc + 2) L (.ref (tw_zB z + m) :: st)) : tw_Rc (tw_cz z c s) (tw_cw G F k e m) m pc L (.int n :: st) := by
  subst ec; subst es
  have hw : (Cond.arrayClass .int).before (tw_zargs z) (tw_zs z) = true := hAK.1.1
  exact c_newi (z := tw_cz z c s) X d hn hN hb hc hs hw (tw_Rc.cong kk (tw_cw_arr hk hG.symm))
theorem k_init {ix mL n i1 : Nat} {y : MethodName} {cy : ByteArray} {rm : Room} {As : List Value} {x : va_E} {m0 : Nat} (X : tw_X z cc own nL) (hAK : tw_AK (tw_zs z)) (hz : (tw_zs z).heap.size = tw_zB z + m0) (hsz : m0 + c = m + 1) (d : decode cc pc = .ok (.invokespecial ix, 3)) (hM : tw_MetC (tw_zl z) (tw_zB z) (tw_zD z) (tw_zC z) (tw_zS z) y cy mL rm (.ref (tw_zB z + m) :: As) (va_up (tw_cw G F k e m) m x) (m + 1) (tw_fin G (va_up (tw_cw G F k e m) m x) m m') m') (hy : tw_My y cy mL none n) (hv : lw_tbl[i1]? = some (Cond.instanceMethod y)) (hnm : y.name = "<init>") (i : Nat) (hi : lw_tbl[i]? = some (.methodLink own ix y)) (hn : As.length = n) (hf : rm.frames + 1 ≤ (tw_zR z).frames) (hl : 8 + (mL + 11) + rm.locals ≤ (tw_zR z).locals) (hc : c + rm.cells ≤ (tw_zR z).cells) (hs : s + rm.slots ≤ (tw_zR z).slots) (ec : c + rm.cells = c') (es : s + rm.slots = s') (hst : (st.map fun v => v.category).sum ≤ 8) (hs0 : st0 = As.reverse ++ .ref (tw_zB z + m) :: st) (hk : k < m) (hm' : m + 1 + rm.cells = m')
    (kk : tw_Rc (tw_cz z c' s') (tw_cw G F k e m') m' (pc + 3) L st) : tw_Rc (tw_cz z c s) (va_up (tw_cw G F k e m) m x) (m + 1) pc L st0 := by
  subst ec; subst es
  have h1 : (tw_zs z).heap.size + c = tw_zB z + (m + 1) := by omega
  exact c_init (z := tw_cz z c s) X hAK h1 d hM hy (List.mem_of_getElem? hv) hnm i hi hn ⟨rfl, rfl, hf, hl⟩ ⟨hc, hs⟩ hst hs0 (by omega) hm'.symm (tw_Rc.cong kk (tw_cw_mk hk))
theorem k_initN {ix mL n i1 : Nat} {y : MethodName} {host : String} {cy : ByteArray} {rm : Room} {As : List Value} {x : va_E} {m0 : Nat} (X : tw_X z cc own nL) (hAK : tw_AK (tw_zs z)) (hz : (tw_zs z).heap.size = tw_zB z + m0) (hsz : m0 + c = m + 1) (d : decode cc pc = .ok (.invokespecial ix, 3)) (hM : tw_MetC (tw_zl z) (tw_zB z) (tw_zD z) (tw_zC z) (tw_zS z) y cy mL rm (.ref (tw_zB z + m) :: As) (va_up (tw_cw G F k e m) m x) (m + 1) (tw_fin G (va_up (tw_cw G F k e m) m x) m m') m') (hy : tw_My y cy mL none n) (hv : lw_tbl[i1]? = some (Cond.instanceMethod y)) (hnm : y.name = "<init>") (i : Nat) (hi : lw_tbl[i]? = some (.methodLinkNest own ix y host)) (hn : As.length = n) (hf : rm.frames + 1 ≤ (tw_zR z).frames) (hl : 8 + (mL + 11) + rm.locals ≤ (tw_zR z).locals) (hc : c + rm.cells ≤ (tw_zR z).cells) (hs : s + rm.slots ≤ (tw_zR z).slots) (ec : c + rm.cells = c') (es : s + rm.slots = s') (hst : (st.map fun v => v.category).sum ≤ 8) (hs0 : st0 = As.reverse ++ .ref (tw_zB z + m) :: st) (hk : k < m) (hm' : m + 1 + rm.cells = m')
    (kk : tw_Rc (tw_cz z c' s') (tw_cw G F k e m') m' (pc + 3) L st) : tw_Rc (tw_cz z c s) (va_up (tw_cw G F k e m) m x) (m + 1) pc L st0 := by
  subst ec; subst es
  have h1 : (tw_zs z).heap.size + c = tw_zB z + (m + 1) := by omega
  exact c_initN (z := tw_cz z c s) X hAK h1 d hM hy (List.mem_of_getElem? hv) hnm i hi hn ⟨rfl, rfl, hf, hl⟩ ⟨hc, hs⟩ hst hs0 (by omega) hm'.symm (tw_Rc.cong kk (tw_cw_mk hk))
theorem k_putF {ci f ix N : Nat} {Cn : String} {T : u_T} {fs fs' : List Value} {ty : FieldType} {v : Value} {m0 : Nat} (X : tw_X z cc own nL) (hmeth : (tw_zmeth z).name = "<init>") (hz : (tw_zs z).heap.size = tw_zB z + m0) (hsz : m0 + c = m) (d : decode cc pc = .ok (.putfield ix, 3)) (i : Nat) (hi : lw_tbl[i]? = some (.fieldLink own ix (T f).1 (T f).2.1 (T f).2.2.1)) (hin : ∀ w ∈ u_ws Cn T N, w ∈ tw_AW) (ty0 : Nat → FieldType) (hty : ∀ k, k < N → parseFieldDescriptor (T k).2.2.1 = some (ty0 k)) (hnm : ∀ a, a < N → ∀ b, b < N → a ≠ b → (T a).2.1 ≠ (T b).2.1) (hc : vwCl[ci]? = some (Cn, T, N)) (hf : f < N) (hfin : (T f).2.2.2 = true) (hdecl : (T f).1 = own) (hd : parseFieldDescriptor (T f).2.2.1 = some ty) (hn : narrow ty v = v) (hfit : fits ty v = true) (hk : k < m) (hfl : f < fs.length) (hset : fs.set f v = fs')
    (kk : tw_Rc (tw_cz z c s) (tw_cw G F k (.inr (ci, fs')) m) m (pc + 3) L st) : tw_Rc (tw_cz z c s) (tw_cw G F k (.inr (ci, fs)) m) m pc L (v :: .ref (tw_zB z + k) :: st) := by
  subst hset
  have h1 : (tw_zs z).heap.size + c = tw_zB z + m := by omega
  rw [← tw_cw_put (e := .inr (ci, fs))] at kk
  exact c_putF (z := tw_cz z c s) X hmeth h1 d i hi hin ty0 hty hnm hc hf hfin hdecl hd hn hfit hk tw_cw_s hfl kk
theorem k_put {ci f ix N : Nat} {Cn : String} {T : u_T} {fs fs' : List Value} {ty : FieldType} {v : Value} {m0 : Nat} (X : tw_X z cc own nL) (hz : (tw_zs z).heap.size = tw_zB z + m0) (hsz : m0 + c = m) (d : decode cc pc = .ok (.putfield ix, 3)) (i : Nat) (hi : lw_tbl[i]? = some (.fieldLink own ix (T f).1 (T f).2.1 (T f).2.2.1)) (hin : ∀ w ∈ u_ws Cn T N, w ∈ tw_AW) (ty0 : Nat → FieldType) (hty : ∀ k, k < N → parseFieldDescriptor (T k).2.2.1 = some (ty0 k)) (hnm : ∀ a, a < N → ∀ b, b < N → a ≠ b → (T a).2.1 ≠ (T b).2.1) (hc : vwCl[ci]? = some (Cn, T, N)) (hf : f < N) (hfin : (T f).2.2.2 = false) (hd : parseFieldDescriptor (T f).2.2.1 = some ty) (hn : narrow ty v = v) (hfit : fits ty v = true) (hk : k < m) (hfl : f < fs.length) (hset : fs.set f v = fs')
    (kk : tw_Rc (tw_cz z c s) (tw_cw G F k (.inr (ci, fs')) m) m (pc + 3) L st) : tw_Rc (tw_cz z c s) (tw_cw G F k (.inr (ci, fs)) m) m pc L (v :: .ref (tw_zB z + k) :: st) := by
  subst hset
  have h1 : (tw_zs z).heap.size + c = tw_zB z + m := by omega
  rw [← tw_cw_put (e := .inr (ci, fs))] at kk
  exact c_put (z := tw_cz z c s) X h1 d i hi hin ty0 hty hnm hc hf hfin hd hn hfit hk tw_cw_s hfl kk
theorem k_ret {B : Nat} {F' : Nat → va_E} {Rc Rs : Nat} (d : decode cc pc = .ok (.return_, 1)) (hQ : ∀ (H : Heap) (locs : List Loc) (pc : Nat) (ls : Array Slot), decode cc pc = .ok (.return_, 1) → va_P (tw_zD z).1 vwCl (tw_wl (tw_zB z) F' mm) H → tw_SS z H locs → tw_W (tw_cz z Rc Rs) H locs (F0 (tw_zm z) pc ls [])) (ec : c = Rc) (es : s = Rs) (hF : ∀ q, q < mm → F q = F' q) : tw_Rc (tw_cz z c s) F mm pc L [] := by
  subst ec; subst es
  exact fun H locs ls hP hz hS hl => hQ H locs pc ls d (tw_Pcong hP hF) hS
end TWK
